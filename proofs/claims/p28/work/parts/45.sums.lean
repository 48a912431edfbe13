/-! The class's sums and searches. -/
def ef_find (p : Nat → Bool) : Nat → Nat → Int32
  | 0, _ => -1
  | r + 1, j => bif p j then ei j else ef_find p r (j + 1)
section
variable {d : Nat} {s : ew_S} {m : ew_H} {K : ew_R → ew_H → Prop}
theorem xl_allDues (q n : Nat) (hn : s 9 4 q = ei n) (h5 : n ≤ 5) (k : K (.inl (some (ew_i (ef_sum (fun j => s 10 10 (j + 5 * q)) n)))) (ew_hp s m)) : ∀ (r j : Nat) (y v : Int32), y = ei j → j + r = n → v = ef_sum (fun j => s 10 10 (j + 5 * q)) j →
    ew_W (ew_Call (d + 1)) 54 K (4, [some (ew_o 9 q), some (ew_i v), some (ew_i y)], [], ew_hp s m) := by
  intro r
  induction r with
  | zero =>
    intro j y v hy hj hv
    subst hy; subst hv
    obtain rfl : j = n := by omega
    refine ew_go (fun pc => Nat.beq pc 4) 40 ⟨fun c => ⟨trivial, k⟩, fun c => ?_⟩
    have c : ¬ s 9 4 q ≤ ei j := c
    rw [hn, ei_le (by omega) (by omega)] at c
    omega
  | succ r ih =>
    intro j y v hy hj hv
    subst hy; subst hv
    refine ew_go (fun pc => Nat.beq pc 4) 40 ⟨fun c => ?_, fun c => xc_shipAt q j n hn h5 (by omega) (ih (j + 1) _ _ (ei_1 _) (by omega) rfl)⟩
    have c : s 9 4 q ≤ ei j := c
    rw [hn, ei_le (by omega) (by omega)] at c
    omega
theorem xc_allDues (q n : Nat) (hn : s 9 4 q = ei n) (h5 : n ≤ 5) (k : K (.inl (some (ew_i (ef_sum (fun j => s 10 10 (j + 5 * q)) n)))) (ew_hp s m)) : ew_Call (d + 2) 54 [ew_o 9 q] (ew_hp s m) K :=
  ew_call (ew_go (fun pc => Nat.beq pc 4) 40 (xl_allDues (d := d) q n hn h5 k n 0 0 0 rfl (by omega) rfl))
theorem xl_allDamage (q n : Nat) (hn : s 9 4 q = ei n) (h5 : n ≤ 5) (k : K (.inl (some (ew_i (ef_sum (fun j => s 10 9 (j + 5 * q)) n)))) (ew_hp s m)) : ∀ (r j : Nat) (y v : Int32), y = ei j → j + r = n → v = ef_sum (fun j => s 10 9 (j + 5 * q)) j →
    ew_W (ew_Call (d + 1)) 55 K (4, [some (ew_o 9 q), some (ew_i v), some (ew_i y)], [], ew_hp s m) := by
  intro r
  induction r with
  | zero =>
    intro j y v hy hj hv
    subst hy; subst hv
    obtain rfl : j = n := by omega
    refine ew_go (fun pc => Nat.beq pc 4) 40 ⟨fun c => ⟨trivial, k⟩, fun c => ?_⟩
    have c : ¬ s 9 4 q ≤ ei j := c
    rw [hn, ei_le (by omega) (by omega)] at c
    omega
  | succ r ih =>
    intro j y v hy hj hv
    subst hy; subst hv
    refine ew_go (fun pc => Nat.beq pc 4) 40 ⟨fun c => ?_, fun c => xc_shipAt q j n hn h5 (by omega) (ih (j + 1) _ _ (ei_1 _) (by omega) rfl)⟩
    have c : s 9 4 q ≤ ei j := c
    rw [hn, ei_le (by omega) (by omega)] at c
    omega
theorem xc_allDamage (q n : Nat) (hn : s 9 4 q = ei n) (h5 : n ≤ 5) (k : K (.inl (some (ew_i (ef_sum (fun j => s 10 9 (j + 5 * q)) n)))) (ew_hp s m)) : ew_Call (d + 2) 55 [ew_o 9 q] (ew_hp s m) K :=
  ew_call (ew_go (fun pc => Nat.beq pc 4) 40 (xl_allDamage (d := d) q n hn h5 k n 0 0 0 rfl (by omega) rfl))
theorem xl_allWaitsSea (q n : Nat) (hn : s 9 4 q = ei n) (h5 : n ≤ 5) (k : K (.inl (some (ew_i (ef_sum (fun j => ef_sum (fun p => s 177 p (j + 5 * q)) 5) n)))) (ew_hp s m)) : ∀ (r j : Nat) (y v : Int32), y = ei j → j + r = n → v = ef_sum (fun j => ef_sum (fun p => s 177 p (j + 5 * q)) 5) j →
    ew_W (ew_Call (d + 1)) 53 K (4, [some (ew_o 9 q), some (ew_i v), some (ew_i y)], [], ew_hp s m) := by
  intro r
  induction r with
  | zero =>
    intro j y v hy hj hv
    subst hy; subst hv
    obtain rfl : j = n := by omega
    refine ew_go (fun pc => Nat.beq pc 4) 40 ⟨fun c => ⟨trivial, k⟩, fun c => ?_⟩
    have c : ¬ s 9 4 q ≤ ei j := c
    rw [hn, ei_le (by omega) (by omega)] at c
    omega
  | succ r ih =>
    intro j y v hy hj hv
    subst hy; subst hv
    refine ew_go (fun pc => Nat.beq pc 4) 40 ⟨fun c => ?_, fun c => xc_shipAt q j n hn h5 (by omega) (xc_allWaits _ (ih (j + 1) _ _ (ei_1 _) (by omega) rfl))⟩
    have c : s 9 4 q ≤ ei j := c
    rw [hn, ei_le (by omega) (by omega)] at c
    omega
theorem xc_allWaitsSea (q n : Nat) (hn : s 9 4 q = ei n) (h5 : n ≤ 5) (k : K (.inl (some (ew_i (ef_sum (fun j => ef_sum (fun p => s 177 p (j + 5 * q)) 5) n)))) (ew_hp s m)) : ew_Call (d + 2) 53 [ew_o 9 q] (ew_hp s m) K :=
  ew_call (ew_go (fun pc => Nat.beq pc 4) 40 (xl_allWaitsSea (d := d) q n hn h5 k n 0 0 0 rfl (by omega) rfl))
theorem xl_countArrived (q n : Nat) (hn : s 9 4 q = ei n) (h5 : n ≤ 5) (k : K (.inl (some (ew_i (ef_sum (fun j => if s 10 7 (j + 5 * q) = 3 then 1 else 0) n)))) (ew_hp s m)) : ∀ (r j : Nat) (y v : Int32), y = ei j → j + r = n → v = ef_sum (fun j => if s 10 7 (j + 5 * q) = 3 then 1 else 0) j →
    ew_W (ew_Call (d + 1)) 52 K (4, [some (ew_o 9 q), some (ew_i v), some (ew_i y)], [], ew_hp s m) := by
  intro r
  induction r with
  | zero =>
    intro j y v hy hj hv
    subst hy; subst hv
    obtain rfl : j = n := by omega
    refine ew_go (fun pc => Nat.beq pc 4) 40 ⟨fun c => ⟨trivial, k⟩, fun c => ?_⟩
    have c : ¬ s 9 4 q ≤ ei j := c
    rw [hn, ei_le (by omega) (by omega)] at c
    omega
  | succ r ih =>
    intro j y v hy hj hv
    subst hy; subst hv
    refine ew_go (fun pc => Nat.beq pc 4) 40 ⟨fun c => ?_, fun c => xc_shipAt q j n hn h5 (by omega) ⟨fun e => ?_, fun e => ?_⟩⟩
    · have c : s 9 4 q ≤ ei j := c
      rw [hn, ei_le (by omega) (by omega)] at c
      omega
    · refine ih (j + 1) _ _ (ei_1 _) (by omega) ?_
      have e : ¬ s 10 7 (j + 5 * q) = 3 := e
      show ef_sum _ j + 0 = ef_sum _ j + (if s 10 7 (j + 5 * q) = 3 then 1 else 0)
      rw [if_neg e]
    · refine ih (j + 1) _ _ (ei_1 _) (by omega) ?_
      have e : ¬ ¬ s 10 7 (j + 5 * q) = 3 := e
      show ef_sum _ j + 1 = ef_sum _ j + (if s 10 7 (j + 5 * q) = 3 then 1 else 0)
      rw [if_pos (Classical.not_not.mp e)]
theorem xc_countArrived (q n : Nat) (hn : s 9 4 q = ei n) (h5 : n ≤ 5) (k : K (.inl (some (ew_i (ef_sum (fun j => if s 10 7 (j + 5 * q) = 3 then 1 else 0) n)))) (ew_hp s m)) : ew_Call (d + 2) 52 [ew_o 9 q] (ew_hp s m) K :=
  ew_call (ew_go (fun pc => Nat.beq pc 4) 40 (xl_countArrived (d := d) q n hn h5 k n 0 0 0 rfl (by omega) rfl))
theorem xl_countShipsIn (q n : Nat) (x : Int32) (hn : s 9 4 q = ei n) (h5 : n ≤ 5) (k : K (.inl (some (ew_i (ef_sum (fun j => if s 10 2 (j + 5 * q) = x ∧ ¬ s 10 7 (j + 5 * q) = 3 then 1 else 0) n)))) (ew_hp s m)) : ∀ (r j : Nat) (y v : Int32) (w : Option ew_V), (w = none ∨ ∃ i, w = some (ew_o 10 i)) → y = ei j → j + r = n → v = ef_sum (fun j => if s 10 2 (j + 5 * q) = x ∧ ¬ s 10 7 (j + 5 * q) = 3 then 1 else 0) j →
    ew_W (ew_Call (d + 1)) 49 K (4, [some (ew_o 9 q), some (ew_i x), some (ew_i v), some (ew_i y), w], [], ew_hp s m) := by
  intro r
  induction r with
  | zero =>
    intro j y v w hw hy hj hv
    subst hy; subst hv
    obtain rfl : j = n := by omega
    refine ew_go (fun pc => Nat.beq pc 4) 40 ⟨fun c => ⟨trivial, k⟩, fun c => ?_⟩
    have c : ¬ s 9 4 q ≤ ei j := c
    rw [hn, ei_le (by omega) (by omega)] at c
    omega
  | succ r ih =>
    intro j y v w hw hy hj hv
    subst hy; subst hv
    have key : ew_W (ew_Call (d + 1)) 49 K (19, [some (ew_o 9 q), some (ew_i x), some (ew_i (ef_sum (fun j => if s 10 2 (j + 5 * q) = x ∧ ¬ s 10 7 (j + 5 * q) = 3 then 1 else 0) j)), some (ew_i (ei j)), some (ew_o 10 (j + 5 * q))], [], ew_hp s m) := by
      refine ew_go (fun pc => Nat.beq pc 4) 60 ⟨fun e => ?_, fun e => ⟨fun e2 => ?_, fun e2 => ?_⟩⟩
      · refine ih (j + 1) _ _ _ (Or.inr ⟨_, rfl⟩) (ei_1 _) (by omega) ?_
        have e : ¬ s 10 2 (j + 5 * q) = x := e
        show ef_sum _ j + 0 = ef_sum _ j + (if s 10 2 (j + 5 * q) = x ∧ ¬ s 10 7 (j + 5 * q) = 3 then 1 else 0)
        rw [if_neg (fun z => e z.1)]
      · refine ih (j + 1) _ _ _ (Or.inr ⟨_, rfl⟩) (ei_1 _) (by omega) ?_
        have e2 : s 10 7 (j + 5 * q) = 3 := e2
        show ef_sum _ j + 0 = ef_sum _ j + (if s 10 2 (j + 5 * q) = x ∧ ¬ s 10 7 (j + 5 * q) = 3 then 1 else 0)
        rw [if_neg (fun z => z.2 e2)]
      · refine ih (j + 1) _ _ _ (Or.inr ⟨_, rfl⟩) (ei_1 _) (by omega) ?_
        have e : ¬ ¬ s 10 2 (j + 5 * q) = x := e
        have e2 : ¬ s 10 7 (j + 5 * q) = 3 := e2
        show ef_sum _ j + 1 = ef_sum _ j + (if s 10 2 (j + 5 * q) = x ∧ ¬ s 10 7 (j + 5 * q) = 3 then 1 else 0)
        rw [if_pos ⟨Classical.not_not.mp e, e2⟩]
    have hc : ¬ s 9 4 q ≤ ei j := by
      rw [hn, ei_le (by omega) (by omega)]; omega
    rcases hw with rfl | ⟨i, rfl⟩
    · exact ew_go (fun pc => Nat.beq pc 4 || Nat.beq pc 19) 60 ⟨fun c => absurd c hc, fun c => xc_shipAt q j n hn h5 (by omega) key⟩
    · exact ew_go (fun pc => Nat.beq pc 4 || Nat.beq pc 19) 60 ⟨fun c => absurd c hc, fun c => xc_shipAt q j n hn h5 (by omega) key⟩
theorem xc_countShipsIn (q n : Nat) (x : Int32) (hn : s 9 4 q = ei n) (h5 : n ≤ 5) (k : K (.inl (some (ew_i (ef_sum (fun j => if s 10 2 (j + 5 * q) = x ∧ ¬ s 10 7 (j + 5 * q) = 3 then 1 else 0) n)))) (ew_hp s m)) : ew_Call (d + 2) 49 [ew_o 9 q, ew_i x] (ew_hp s m) K :=
  ew_call (ew_go (fun pc => Nat.beq pc 4) 40 (xl_countShipsIn (d := d) q n x hn h5 k n 0 0 0 none (Or.inl rfl) rfl (by omega) rfl))
theorem xl_countLed (q n : Nat) (x : Int32) (hn : s 9 4 q = ei n) (h5 : n ≤ 5) (k : K (.inl (some (ew_i (ef_sum (fun j => if s 10 7 (j + 5 * q) = 1 ∧ s 10 8 (j + 5 * q) = x then 1 else 0) n)))) (ew_hp s m)) : ∀ (r j : Nat) (y v : Int32), y = ei j → j + r = n → v = ef_sum (fun j => if s 10 7 (j + 5 * q) = 1 ∧ s 10 8 (j + 5 * q) = x then 1 else 0) j →
    ew_W (ew_Call (d + 1)) 50 K (4, [some (ew_o 9 q), some (ew_i x), some (ew_i v), some (ew_i y)], [], ew_hp s m) := by
  intro r
  induction r with
  | zero =>
    intro j y v hy hj hv
    subst hy; subst hv
    obtain rfl : j = n := by omega
    refine ew_go (fun pc => Nat.beq pc 4) 40 ⟨fun c => ⟨trivial, k⟩, fun c => ?_⟩
    have c : ¬ s 9 4 q ≤ ei j := c
    rw [hn, ei_le (by omega) (by omega)] at c
    omega
  | succ r ih =>
    intro j y v hy hj hv
    subst hy; subst hv
    refine ew_go (fun pc => Nat.beq pc 4) 60 ⟨fun c => ?_, fun c => xc_shipAt q j n hn h5 (by omega) (xc_isBound _ 1 x ⟨fun e => ?_, fun e => ?_⟩)⟩
    · have c : s 9 4 q ≤ ei j := c
      rw [hn, ei_le (by omega) (by omega)] at c
      omega
    · refine ih (j + 1) _ _ (ei_1 _) (by omega) ?_
      have e : (if s 10 7 (j + 5 * q) = 1 ∧ s 10 8 (j + 5 * q) = x then (1 : Int32) else 0) = 0 := e
      show ef_sum _ j + 0 = ef_sum _ j + (if s 10 7 (j + 5 * q) = 1 ∧ s 10 8 (j + 5 * q) = x then 1 else 0)
      rw [e]
    · refine ih (j + 1) _ _ (ei_1 _) (by omega) ?_
      have e : ¬ (if s 10 7 (j + 5 * q) = 1 ∧ s 10 8 (j + 5 * q) = x then (1 : Int32) else 0) = 0 := e
      show ef_sum _ j + 1 = ef_sum _ j + (if s 10 7 (j + 5 * q) = 1 ∧ s 10 8 (j + 5 * q) = x then 1 else 0)
      by_cases z : s 10 7 (j + 5 * q) = 1 ∧ s 10 8 (j + 5 * q) = x
      · rw [if_pos z]
      · rw [if_neg z] at e; exact absurd rfl e
theorem xc_countLed (q n : Nat) (x : Int32) (hn : s 9 4 q = ei n) (h5 : n ≤ 5) (k : K (.inl (some (ew_i (ef_sum (fun j => if s 10 7 (j + 5 * q) = 1 ∧ s 10 8 (j + 5 * q) = x then 1 else 0) n)))) (ew_hp s m)) : ew_Call (d + 2) 50 [ew_o 9 q, ew_i x] (ew_hp s m) K :=
  ew_call (ew_go (fun pc => Nat.beq pc 4) 40 (xl_countLed (d := d) q n x hn h5 k n 0 0 0 rfl (by omega) rfl))
theorem xl_towedBy (q n : Nat) (x : Int32) (hn : s 9 4 q = ei n) (h5 : n ≤ 5) (k : K (.inl (some (ew_i (ef_find (fun j => decide (s 10 7 (j + 5 * q) = 2 ∧ s 10 8 (j + 5 * q) = x)) n 0)))) (ew_hp s m)) : ∀ (r j : Nat) (y : Int32), y = ei j → j + r = n → ef_find (fun j => decide (s 10 7 (j + 5 * q) = 2 ∧ s 10 8 (j + 5 * q) = x)) n 0 = ef_find (fun j => decide (s 10 7 (j + 5 * q) = 2 ∧ s 10 8 (j + 5 * q) = x)) r j →
    ew_W (ew_Call (d + 1)) 51 K (2, [some (ew_o 9 q), some (ew_i x), some (ew_i y)], [], ew_hp s m) := by
  intro r
  induction r with
  | zero =>
    intro j y hy hj hv
    subst hy
    rw [hv] at k
    obtain rfl : j = n := by omega
    refine ew_go (fun pc => Nat.beq pc 2) 40 ⟨fun c => ⟨trivial, k⟩, fun c => ?_⟩
    have c : ¬ s 9 4 q ≤ ei j := c
    rw [hn, ei_le (by omega) (by omega)] at c
    omega
  | succ r ih =>
    intro j y hy hj hv
    subst hy
    have hstep : ef_find (fun j => decide (s 10 7 (j + 5 * q) = 2 ∧ s 10 8 (j + 5 * q) = x)) (r + 1) j = bif decide (s 10 7 (j + 5 * q) = 2 ∧ s 10 8 (j + 5 * q) = x) then ei j else ef_find (fun j => decide (s 10 7 (j + 5 * q) = 2 ∧ s 10 8 (j + 5 * q) = x)) r (j + 1) := rfl
    refine ew_go (fun pc => Nat.beq pc 2) 60 ⟨fun c => ?_, fun c => xc_shipAt q j n hn h5 (by omega) (xc_isBound _ 2 x ⟨fun e => ?_, fun e => ?_⟩)⟩
    · have c : s 9 4 q ≤ ei j := c
      rw [hn, ei_le (by omega) (by omega)] at c
      omega
    · have e : (if s 10 7 (j + 5 * q) = 2 ∧ s 10 8 (j + 5 * q) = x then (1 : Int32) else 0) = 0 := e
      have e' : ¬ (s 10 7 (j + 5 * q) = 2 ∧ s 10 8 (j + 5 * q) = x) := fun z => by rw [if_pos z] at e; exact absurd e (by decide)
      exact ih (j + 1) _ (ei_1 _) (by omega) (by rw [hv, hstep, decide_eq_false e', cond_false])
    · have e : ¬ (if s 10 7 (j + 5 * q) = 2 ∧ s 10 8 (j + 5 * q) = x then (1 : Int32) else 0) = 0 := e
      have e' : s 10 7 (j + 5 * q) = 2 ∧ s 10 8 (j + 5 * q) = x := by
        by_cases z : s 10 7 (j + 5 * q) = 2 ∧ s 10 8 (j + 5 * q) = x
        · exact z
        · rw [if_neg z] at e; exact absurd rfl e
      rw [hv, hstep, decide_eq_true e', cond_true] at k
      exact ⟨trivial, k⟩
theorem xc_towedBy (q n : Nat) (x : Int32) (hn : s 9 4 q = ei n) (h5 : n ≤ 5) (k : K (.inl (some (ew_i (ef_find (fun j => decide (s 10 7 (j + 5 * q) = 2 ∧ s 10 8 (j + 5 * q) = x)) n 0)))) (ew_hp s m)) : ew_Call (d + 2) 51 [ew_o 9 q, ew_i x] (ew_hp s m) K :=
  ew_call (ew_go (fun pc => Nat.beq pc 2) 40 (xl_towedBy (d := d) q n x hn h5 k n 0 0 rfl (by omega) rfl))
theorem xl_isPort (q n : Nat) (x : Int32) (hn : s 7 1 q = ei n) (h5 : n ≤ 3) (k1 : (∃ j, j < n ∧ s 6 4 (j + 3 * q) = x) → K (.inl (some (ew_i 1))) (ew_hp s m)) (k0 : (∀ j, j < n → ¬ s 6 4 (j + 3 * q) = x) → K (.inl (some (ew_i 0))) (ew_hp s m)) : ∀ (r j : Nat) (y : Int32), y = ei j → j + r = n → (∀ j', j' < j → ¬ s 6 4 (j' + 3 * q) = x) →
    ew_W (ew_Call (d + 1)) 28 K (2, [some (ew_o 7 q), some (ew_i x), some (ew_i y)], [], ew_hp s m) := by
  intro r
  induction r with
  | zero =>
    intro j y hy hj hv
    subst hy
    obtain rfl : j = n := by omega
    refine ew_go (fun pc => Nat.beq pc 2) 60 ⟨fun c => ⟨Or.inl rfl, k0 hv⟩, fun c => ?_⟩
    have c : ¬ s 7 1 q ≤ ei j := c
    rw [hn, ei_le (by omega) (by omega)] at c
    omega
  | succ r ih =>
    intro j y hy hj hv
    subst hy
    refine ew_go (fun pc => Nat.beq pc 2) 60 ⟨fun c => ?_, fun c => xc_portAt q j n hn h5 (by omega) ⟨fun e => ?_, fun e => ⟨Or.inr rfl, k1 ⟨j, by omega, Classical.not_not.mp e⟩⟩⟩⟩
    · have c : s 7 1 q ≤ ei j := c
      rw [hn, ei_le (by omega) (by omega)] at c
      omega
    · have e : ¬ s 6 4 (j + 3 * q) = x := e
      refine ih (j + 1) _ (ei_1 _) (by omega) (fun j' hj' => ?_)
      by_cases z : j' = j
      · rw [z]; exact e
      · exact hv j' (by omega)
theorem xc_isPort (q n : Nat) (x : Int32) (hn : s 7 1 q = ei n) (h5 : n ≤ 3) (k1 : (∃ j, j < n ∧ s 6 4 (j + 3 * q) = x) → K (.inl (some (ew_i 1))) (ew_hp s m)) (k0 : (∀ j, j < n → ¬ s 6 4 (j + 3 * q) = x) → K (.inl (some (ew_i 0))) (ew_hp s m)) : ew_Call (d + 2) 28 [ew_o 7 q, ew_i x] (ew_hp s m) K :=
  ew_call (ew_go (fun pc => Nat.beq pc 2) 40 (xl_isPort (d := d) q n x hn h5 k1 k0 n 0 0 rfl (by omega) (fun _ h => absurd h (Nat.not_lt_zero _))))
theorem xl_allIce (q : Nat) (k : K (.inl (some (ew_i (ef_sum (fun j => s 4 0 (j + 15 * q)) 15)))) (ew_hp s m)) : ∀ (r j : Nat) (y v : Int32), y = ei j → j + r = 15 → v = ef_sum (fun j => s 4 0 (j + 15 * q)) j →
    ew_W (ew_Call d) 56 K (4, [some (ew_o 9 q), some (ew_i v), some (ew_i y)], [], ew_hp s m) := by
  intro r
  induction r with
  | zero =>
    intro j y v hy hj hv
    subst hy; subst hv
    obtain rfl : j = 15 := by omega
    exact ew_go (fun pc => Nat.beq pc 4) 40 ⟨fun c => ⟨trivial, k⟩, fun c => absurd (show ei 15 ≤ ei 15 by decide) c⟩
  | succ r ih =>
    intro j y v hy hj hv
    subst hy; subst hv
    refine ew_go (fun pc => Nat.beq pc 4) 40 ⟨fun c => ?_, fun c => ⟨ei_ix (n := 15) (by omega) (by decide), ?_⟩⟩
    · have c : ei 15 ≤ ei j := c
      rw [ei_le (by decide) (by omega)] at c
      omega
    · refine ih (j + 1) _ _ (ei_1 _) (by omega) ?_
      show ef_sum _ j + s 4 0 (ew_wi 15 (ei j).toNatClampNeg + 15 * q) = ef_sum _ j + s 4 0 (j + 15 * q)
      rw [ei_nat (by omega), ew_wi_lt (by omega)]
theorem xc_allIce (q : Nat) (k : K (.inl (some (ew_i (ef_sum (fun j => s 4 0 (j + 15 * q)) 15)))) (ew_hp s m)) : ew_Call (d + 1) 56 [ew_o 9 q] (ew_hp s m) K :=
  ew_call (ew_go (fun pc => Nat.beq pc 4) 40 (xl_allIce (d := d) q k 15 0 0 0 rfl rfl rfl))
theorem xl_countChannels (q : Nat) (k : K (.inl (some (ew_i (ef_sum (fun j => if s 4 2 (j + 15 * q) ≤ 0 then 0 else 1) 15)))) (ew_hp s m)) : ∀ (r j : Nat) (y v : Int32), y = ei j → j + r = 15 → v = ef_sum (fun j => if s 4 2 (j + 15 * q) ≤ 0 then 0 else 1) j →
    ew_W (ew_Call d) 57 K (4, [some (ew_o 9 q), some (ew_i v), some (ew_i y)], [], ew_hp s m) := by
  intro r
  induction r with
  | zero =>
    intro j y v hy hj hv
    subst hy; subst hv
    obtain rfl : j = 15 := by omega
    exact ew_go (fun pc => Nat.beq pc 4) 40 ⟨fun c => ⟨trivial, k⟩, fun c => absurd (show ei 15 ≤ ei 15 by decide) c⟩
  | succ r ih =>
    intro j y v hy hj hv
    subst hy; subst hv
    refine ew_go (fun pc => Nat.beq pc 4) 40 ⟨fun c => ?_, fun c => ⟨ei_ix (n := 15) (by omega) (by decide), ⟨fun e => ?_, fun e => ?_⟩⟩⟩
    · have c : ei 15 ≤ ei j := c
      rw [ei_le (by decide) (by omega)] at c
      omega
    · refine ih (j + 1) _ _ (ei_1 _) (by omega) ?_
      have e : s 4 2 (ew_wi 15 (ei j).toNatClampNeg + 15 * q) ≤ 0 := e
      rw [ei_nat (by omega), ew_wi_lt (by omega)] at e
      show ef_sum _ j + 0 = ef_sum _ j + (if s 4 2 (j + 15 * q) ≤ 0 then 0 else 1)
      rw [if_pos e]
    · refine ih (j + 1) _ _ (ei_1 _) (by omega) ?_
      have e : ¬ s 4 2 (ew_wi 15 (ei j).toNatClampNeg + 15 * q) ≤ 0 := e
      rw [ei_nat (by omega), ew_wi_lt (by omega)] at e
      show ef_sum _ j + 1 = ef_sum _ j + (if s 4 2 (j + 15 * q) ≤ 0 then 0 else 1)
      rw [if_neg e]
theorem xc_countChannels (q : Nat) (k : K (.inl (some (ew_i (ef_sum (fun j => if s 4 2 (j + 15 * q) ≤ 0 then 0 else 1) 15)))) (ew_hp s m)) : ew_Call (d + 1) 57 [ew_o 9 q] (ew_hp s m) K :=
  ew_call (ew_go (fun pc => Nat.beq pc 4) 40 (xl_countChannels (d := d) q k 15 0 0 0 rfl rfl rfl))
end
