/-! The class's ships and small functions. -/
def ef_hind (b w p r : Int32) : Int32 := if ¬ b = 0 ∧ ¬ w ≤ 10 * p then 1 else if w ≤ r then -1 else 2
def ef_bears (x : Int32) : Int32 := if x = 0 then 10 else if x = 1 then 30 else if x = 2 then 50 else if x = 3 then 80 else 120
def ef_sum (f : Nat → Int32) : Nat → Int32
  | 0 => 0
  | j + 1 => ef_sum f j + f j
def ef_far (a b : Int32) : Int32 := ew_abs (a / 5 - b / 5) + ew_abs (a - a / 5 * 5 - (b - b / 5 * 5))
def ef_nb (c : Nat) (x : Int32) : Int32 := if x = 0 then (if 5 ≤ c then ei (c - 5) else -1) else if x = 1 then (if c % 5 < 4 then ei (c + 1) else -1) else if x = 2 then (if c < 10 then ei (c + 5) else -1) else if x = 3 then (if 0 < c % 5 then ei (c - 1) else -1) else -1
def ef_in (x a b : Int32) : Int32 := if a ≤ x ∧ x ≤ b then 1 else 0
theorem ei_rem : ∀ c, c < 15 → ei c - ei c / 5 * 5 = ei (c % 5) := by decide
def ef_us (k i i0 : Nat) : List Nat → ew_S → ew_S
  | [], s => s
  | p :: l, s => ef_us k i i0 l (ew_u s k p i (s k p i0))
section
variable {d : Nat} {s : ew_S} {m : ew_H} {K : ew_R → ew_H → Prop}
theorem xc_setClass (i : Nat) (x : Int32) (k : K (.inl none) (ew_hp (ew_u (ew_u s 10 3 i x) 10 4 i (ef_bears x)) m)) : ew_Call (d + 1) 61 [ew_o 10 i, ew_i x] (ew_hp s m) K := by
  refine ew_call (ew_go (fun _ => false) 40 ⟨trivial, fun e => ?_, fun e => ⟨fun e1 => ?_, fun e1 => ⟨fun e2 => ?_, fun e2 => ⟨fun e3 => ?_, fun e3 => ?_⟩⟩⟩⟩)
  · have e : x = 0 := e
    rw [show ef_bears x = 10 from if_pos e] at k
    exact ⟨trivial, trivial, ek_2 rfl rfl k⟩
  · have e : ¬ x = 0 := e
    have e1 : x = 1 := e1
    rw [show ef_bears x = 30 by unfold ef_bears; rw [if_neg e, if_pos e1]] at k
    exact ⟨trivial, trivial, ek_2 rfl rfl k⟩
  · have e : ¬ x = 0 := e
    have e1 : ¬ x = 1 := e1
    have e2 : x = 2 := e2
    rw [show ef_bears x = 50 by unfold ef_bears; rw [if_neg e, if_neg e1, if_pos e2]] at k
    exact ⟨trivial, trivial, ek_2 rfl rfl k⟩
  · have e : ¬ x = 0 := e
    have e1 : ¬ x = 1 := e1
    have e2 : ¬ x = 2 := e2
    have e3 : x = 3 := e3
    rw [show ef_bears x = 80 by unfold ef_bears; rw [if_neg e, if_neg e1, if_neg e2, if_pos e3]] at k
    exact ⟨trivial, trivial, ek_2 rfl rfl k⟩
  · have e : ¬ x = 0 := e
    have e1 : ¬ x = 1 := e1
    have e2 : ¬ x = 2 := e2
    have e3 : ¬ x = 3 := e3
    rw [show ef_bears x = 120 by unfold ef_bears; rw [if_neg e, if_neg e1, if_neg e2, if_neg e3]] at k
    exact ⟨trivial, trivial, ek_2 rfl rfl k⟩
theorem xc_hindrance (i : Nat) (w b : Int32) (k : K (.inl (some (ew_i (ef_hind b w (s 10 5 i) (s 10 4 i))))) (ew_hp s m)) : ew_Call (d + 1) 62 [ew_o 10 i, ew_i w, ew_i b] (ew_hp s m) K := by
  unfold ef_hind at k
  refine ew_call (ew_go (fun _ => false) 40 ⟨fun c => ⟨fun e => ?_, fun e => ?_⟩, fun c => ⟨fun e => ⟨fun e2 => ?_, fun e2 => ?_⟩, fun e => ?_⟩⟩)
  · have c : b = 0 := c
    have e : w ≤ s 10 4 i := e
    rw [if_neg (fun q => q.1 c), if_pos e] at k
    exact ⟨trivial, k⟩
  · have c : b = 0 := c
    have e : ¬ w ≤ s 10 4 i := e
    rw [if_neg (fun q => q.1 c), if_neg e] at k
    exact ⟨trivial, k⟩
  · have e : w ≤ 10 * s 10 5 i := e
    have e2 : w ≤ s 10 4 i := e2
    rw [if_neg (fun q => q.2 e), if_pos e2] at k
    exact ⟨trivial, k⟩
  · have e : w ≤ 10 * s 10 5 i := e
    have e2 : ¬ w ≤ s 10 4 i := e2
    rw [if_neg (fun q => q.2 e), if_neg e2] at k
    exact ⟨trivial, k⟩
  · have c : ¬ b = 0 := c
    have e : ¬ w ≤ 10 * s 10 5 i := e
    rw [if_pos ⟨c, e⟩] at k
    exact ⟨trivial, k⟩
theorem xc_isBound (i : Nat) (w b : Int32) (k : K (.inl (some (ew_i (if s 10 7 i = w ∧ s 10 8 i = b then 1 else 0)))) (ew_hp s m)) : ew_Call (d + 1) 63 [ew_o 10 i, ew_i w, ew_i b] (ew_hp s m) K := by
  refine ew_call (ew_go (fun _ => false) 40 ⟨fun c => ?_, fun c => ⟨fun e => ?_, fun e => ?_⟩⟩)
  · have c : ¬ s 10 7 i = w := c
    rw [if_neg (fun q => c q.1)] at k
    exact ⟨Or.inl rfl, k⟩
  · have e : ¬ s 10 8 i = b := e
    rw [if_neg (fun q => e q.2)] at k
    exact ⟨Or.inl rfl, k⟩
  · have c : ¬ ¬ s 10 7 i = w := c
    have e : ¬ ¬ s 10 8 i = b := e
    rw [if_pos ⟨Classical.not_not.mp c, Classical.not_not.mp e⟩] at k
    exact ⟨Or.inr rfl, k⟩
theorem xc_bind (i : Nat) (w b : Int32) (k : K (.inl none) (ew_hp (ew_u (ew_u s 10 7 i w) 10 8 i b) m)) : ew_Call (d + 1) 64 [ew_o 10 i, ew_i w, ew_i b] (ew_hp s m) K :=
  ew_call (ew_go (fun _ => false) 40 ⟨trivial, trivial, trivial, ek_2 rfl rfl k⟩)
theorem xc_setFree (i : Nat) (k : K (.inl none) (ew_hp (ew_u (ew_u s 10 7 i 0) 10 8 i (-1)) m)) : ew_Call (d + 1) 65 [ew_o 10 i] (ew_hp s m) K :=
  ew_call (ew_go (fun _ => false) 40 ⟨trivial, trivial, trivial, ek_2 rfl rfl k⟩)
theorem xc_follow (i : Nat) (t w : Int32) (k1 : ef_hind (if s 10 7 i = 2 then 0 else 1) w (s 10 5 i) (s 10 4 i) ≠ -1 → K (.inl (some (ew_i (ef_hind (if s 10 7 i = 2 then 0 else 1) w (s 10 5 i) (s 10 4 i))))) (ew_hp (ew_u (ew_u s 10 7 i 0) 10 8 i (-1)) m))
    (k2 : ef_hind (if s 10 7 i = 2 then 0 else 1) w (s 10 5 i) (s 10 4 i) = -1 → K (.inl (some (ew_i (-1)))) (ew_hp (ew_u (ew_u (ew_u s 10 2 i t) 40 1 i 0) 10 10 i (s 10 10 i + if s 10 7 i = 2 then 9 else 4)) m)) : ew_Call (d + 2) 66 [ew_o 10 i, ew_i t, ew_i w] (ew_hp s m) K := by
  refine ew_call (ew_go (fun _ => false) 60 ⟨fun c => ?_, fun c => ?_⟩)
  · have c : s 10 7 i = 2 := c
    rw [if_pos c] at k1 k2
    rw [if_pos c] at k2
    refine xc_hindrance i w 0 ⟨fun e => ⟨trivial, ?_⟩, fun e => ?_⟩
    · refine ec_1 rfl (xc_drop40 i ⟨fun e2 => absurd c e2, fun e2 => ⟨trivial, trivial, ?_⟩⟩)
      have k2 := k2 e
      show K _ (ew_put (ew_hp (ew_u (ew_u s 10 2 i t) 40 1 i 0) m) 10 i 10 (ew_i (s 10 10 i + 9)))
      exact ek_p rfl k2
    · exact xc_setFree i ⟨trivial, k1 e⟩
  · have c : ¬ s 10 7 i = 2 := c
    rw [if_neg c] at k1 k2
    rw [if_neg c] at k2
    refine xc_hindrance i w 1 ⟨fun e => ⟨trivial, ?_⟩, fun e => ?_⟩
    · refine ec_1 rfl (xc_drop40 i ⟨fun e2 => ⟨trivial, trivial, ?_⟩, fun e2 => absurd c e2⟩)
      have k2 := k2 e
      show K _ (ew_put (ew_hp (ew_u (ew_u s 10 2 i t) 40 1 i 0) m) 10 i 10 (ew_i (s 10 10 i + 4)))
      exact ek_p rfl k2
    · exact xc_setFree i ⟨trivial, k1 e⟩
theorem xc_arrive (i : Nat) (t : Int32) (k : K (.inl none) (ew_hp (ew_u (ew_u (ew_u (ew_u s 10 7 i 3) 10 8 i (-1)) 40 1 i 0) 10 11 i t) m)) : ew_Call (d + 2) 67 [ew_o 10 i, ew_i t] (ew_hp s m) K :=
  ew_call (ew_go (fun _ => false) 60 (xc_bind i 3 (-1) (xc_drop40 i ⟨trivial, trivial, ek_p rfl k⟩)))
theorem xc_countWait (i j : Nat) (hj : j < 5) (k : K (.inl none) (ew_hp (ew_u s 177 j i (s 177 j i + 1)) m)) : ew_Call (d + 1) 68 [ew_o 10 i, ew_i (ei j)] (ew_hp s m) K := by
  refine ew_call (ew_go (fun _ => false) 40 ⟨fun c => absurd c (ei_nn (by omega)), fun c => ⟨fun e => ?_, fun e => ?_⟩⟩)
  · have e : ei 5 ≤ ei j := e
    rw [ei_le (by decide) (by omega)] at e
    omega
  · refine ⟨ei_ix (n := 5) (by omega) (by decide), ⟨ei_ix (n := 5) (by omega) (by decide), trivial⟩, trivial, ?_⟩
    show K (.inl none) (ew_put (ew_hp s m) 177 i (ei j).toNatClampNeg (ew_i (s 177 (ei j).toNatClampNeg i + 1)))
    rw [ei_nat (by omega)]
    exact ek_p rfl k
theorem xc_waitsBy (i j : Nat) (hj : j < 5) (k : K (.inl (some (ew_i (s 177 j i)))) (ew_hp s m)) : ew_Call (d + 1) 69 [ew_o 10 i, ew_i (ei j)] (ew_hp s m) K := by
  refine ew_call (ew_go (fun _ => false) 40 ⟨fun c => absurd c (ei_nn (by omega)), fun c => ⟨fun e => ?_, fun e => ?_⟩⟩)
  · have e : ei 5 ≤ ei j := e
    rw [ei_le (by decide) (by omega)] at e
    omega
  · refine ⟨ei_ix (n := 5) (by omega) (by decide), trivial, ?_⟩
    show K (.inl (some (ew_i (s 177 (ei j).toNatClampNeg i)))) (ew_hp s m)
    rw [ei_nat (by omega)]
    exact k
theorem xl_allWaits (i : Nat) (k : K (.inl (some (ew_i (ef_sum (fun p => s 177 p i) 5)))) (ew_hp s m)) : ∀ (r j : Nat) (y v : Int32), y = ei j → j + r = 5 → v = ef_sum (fun p => s 177 p i) j →
    ew_W (ew_Call d) 70 K (4, [some (ew_o 10 i), some (ew_i v), some (ew_i y)], [], ew_hp s m) := by
  intro r
  induction r with
  | zero =>
    intro j y v hy hj hv
    subst hy; subst hv
    obtain rfl : j = 5 := by omega
    exact ew_go (fun pc => Nat.beq pc 4) 40 ⟨fun c => ⟨trivial, k⟩, fun c => absurd (show ei 5 ≤ ei 5 by decide) c⟩
  | succ r ih =>
    intro j y v hy hj hv
    subst hy; subst hv
    refine ew_go (fun pc => Nat.beq pc 4) 40 ⟨fun c => ?_, fun c => ⟨ei_ix (n := 5) (by omega) (by decide), ?_⟩⟩
    · have c : ei 5 ≤ ei j := c
      rw [ei_le (by decide) (by omega)] at c
      omega
    · refine ih (j + 1) _ _ (ei_1 _) (by omega) ?_
      show ef_sum (fun p => s 177 p i) j + s 177 (ei j).toNatClampNeg i = ef_sum (fun p => s 177 p i) j + s 177 j i
      rw [ei_nat (by omega)]
theorem xc_allWaits (i : Nat) (k : K (.inl (some (ew_i (ef_sum (fun p => s 177 p i) 5)))) (ew_hp s m)) : ew_Call (d + 1) 70 [ew_o 10 i] (ew_hp s m) K :=
  ew_call (ew_go (fun pc => Nat.beq pc 4) 40 (xl_allWaits (d := d) i k 5 0 0 0 rfl rfl rfl))
theorem xl_copyShip (i i0 : Nat) (s : ew_S) (k : K (.inl none) (ew_hp (ef_us 10 i i0 [2, 3, 4, 5, 6, 7, 8, 9, 10, 11] (ef_cp s 177 i i0 5)) m)) : ∀ (r j : Nat) (x : Int32), x = ei j → j + r = 5 →
    ew_W (ew_Call (d + 1)) 71 K (13, [some (ew_o 10 i), some (ew_o 10 i0), some (ew_i x)], [], ew_hp (ef_cp s 177 i i0 j) m) := by
  intro r
  induction r with
  | zero =>
    intro j x hx hj
    subst hx
    obtain rfl : j = 5 := by omega
    refine ew_go (fun pc => Nat.beq pc 13) 80 ⟨fun c => ?_, fun c => absurd (show ei 5 ≤ ei 5 by decide) c⟩
    refine ⟨trivial, trivial, trivial, trivial, trivial, trivial, trivial, trivial, trivial, trivial, trivial, ?_⟩
    show K _ (ew_put (ew_put (ew_put (ew_put (ew_put (ew_put (ew_put (ew_put (ew_put (ew_put (ew_hp (ef_cp s 177 i i0 5) m) 10 i 2 (ew_i _)) 10 i 3 (ew_i _)) 10 i 4 (ew_i _)) 10 i 5 (ew_i _)) 10 i 6 (ew_i _)) 10 i 7 (ew_i _)) 10 i 8 (ew_i _)) 10 i 9 (ew_i _)) 10 i 10 (ew_i _)) 10 i 11 (ew_i _))
    rw [ew_hp_put rfl, ew_hp_put rfl, ew_hp_put rfl, ew_hp_put rfl, ew_hp_put rfl, ew_hp_put rfl, ew_hp_put rfl, ew_hp_put rfl, ew_hp_put rfl, ew_hp_put rfl]
    exact k
  | succ r ih =>
    intro j x hx hj
    subst hx
    refine ew_go (fun pc => Nat.beq pc 13) 80 ⟨fun c => ?_, fun c => ?_⟩
    · have c : ei 5 ≤ ei j := c
      rw [ei_le (by decide) (by omega)] at c
      omega
    · refine xc_waitsBy i0 j (by omega) ⟨⟨ei_ix (n := 5) (by omega) (by decide), trivial⟩, ?_⟩
      show ew_W (ew_Call (d + 1)) 71 K (13, [some (ew_o 10 i), some (ew_o 10 i0), some (ew_i (ei j + 1))], [], ew_put (ew_hp (ef_cp s 177 i i0 j) m) 177 i (ei j).toNatClampNeg (ew_i (ef_cp s 177 i i0 j 177 j i0)))
      rw [ei_nat (by omega), ew_hp_put rfl, ef_cp_s]
      exact ih (j + 1) _ (ei_1 _) (by omega)
theorem xc_copyShip (i i0 : Nat) (k : K (.inl none) (ew_hp (ef_us 10 i i0 [2, 3, 4, 5, 6, 7, 8, 9, 10, 11] (ef_cp (ew_u (ef_cp s 593 i i0 8) 40 1 i (s 40 1 i0)) 177 i i0 5)) m)) : ew_Call (d + 2) 71 [ew_o 10 i, ew_o 10 i0] (ew_hp s m) K := by
  refine ew_call (ew_go (fun pc => Nat.beq pc 13) 80 (xc_copyFrom40 i i0 ?_))
  have := xl_copyShip (d := d) i i0 _ k 5 0 0 rfl rfl
  rw [ef_cp_0] at this
  exact this
theorem xc_copyCell (i i0 : Nat) (hb : s 4 3 i0 = 0 ∨ s 4 3 i0 = 1) (k : K (.inl none) (ew_hp (ef_us 4 i i0 [0, 1, 2, 3, 4] s) m)) : ew_Call (d + 1) 12 [ew_o 4 i, ew_o 4 i0] (ew_hp s m) K := by
  refine ew_call (ew_go (fun _ => false) 40 ⟨trivial, trivial, trivial, hb, trivial, trivial, ?_⟩)
  show K _ (ew_put (ew_put (ew_put (ew_put (ew_put (ew_hp s m) 4 i 0 (ew_i _)) 4 i 1 (ew_i _)) 4 i 2 (ew_i _)) 4 i 3 (ew_i _)) 4 i 4 (ew_i _))
  rw [ew_hp_put rfl, ew_hp_put rfl, ew_hp_put rfl, ew_hp_put rfl, ew_hp_put rfl]
  exact k
theorem xc_copyBreaker (i i0 : Nat) (k : K (.inl none) (ew_hp (ef_us 3 i i0 [1, 2, 3, 4] (ew_u (ef_cp s 145 i i0 8) 8 1 i (s 8 1 i0))) m)) : ew_Call (d + 2) 2 [ew_o 3 i, ew_o 3 i0] (ew_hp s m) K := by
  refine ew_call (ew_go (fun _ => false) 60 (xc_copyFrom8 i i0 ⟨trivial, trivial, trivial, trivial, trivial, ?_⟩))
  show K _ (ew_put (ew_put (ew_put (ew_put (ew_hp (ew_u (ef_cp s 145 i i0 8) 8 1 i (s 8 1 i0)) m) 3 i 1 (ew_i _)) 3 i 2 (ew_i _)) 3 i 3 (ew_i _)) 3 i 4 (ew_i _))
  rw [ew_hp_put rfl, ew_hp_put rfl, ew_hp_put rfl, ew_hp_put rfl]
  exact k
theorem xc_enter (i n : Nat) (t c : Int32) (hn : s 8 1 i = ei n) (h8 : n ≤ 8) (k : K (.inl none) (ew_hp (ew_u (ef_sh (ew_u (ew_u (ew_u s 3 2 i (s 3 2 i - c)) 3 4 i (s 3 1 i)) 3 1 i t) 145 i n) 8 1 i (ei (n - 1))) m)) : ew_Call (d + 2) 1 [ew_o 3 i, ew_i t, ew_i c] (ew_hp s m) K := by
  exact ew_call (ew_go (fun _ => false) 60 ⟨trivial, trivial, trivial, ec_3 (x := s 3 2 i - c) (x2 := s 3 1 i) rfl rfl rfl (xc_takeFirst8 i n hn h8 ⟨trivial, k⟩)⟩)
/-! small functions -/
theorem xc_within (x a b : Int32) (k : K (.inl (some (ew_i (ef_in x a b)))) (ew_hp s m)) : ew_Call (d + 1) 104 [ew_i x, ew_i a, ew_i b] (ew_hp s m) K := by
  unfold ef_in at k
  refine ew_call (ew_go (fun _ => false) 40 ⟨fun c => ?_, fun c => ⟨fun e => ?_, fun e => ?_⟩⟩)
  · have c : x < a := c
    rw [if_neg (fun q => Int32.not_le.mpr c q.1)] at k
    exact ⟨Or.inl rfl, k⟩
  · have e : b < x := e
    rw [if_neg (fun q => Int32.not_le.mpr e q.2)] at k
    exact ⟨Or.inl rfl, k⟩
  · have c : ¬ x < a := c
    have e : ¬ b < x := e
    rw [if_pos ⟨Int32.not_lt.mp c, Int32.not_lt.mp e⟩] at k
    exact ⟨Or.inr rfl, k⟩
theorem ef_in0 {x a b : Int32} : ef_in x a b = 0 ↔ ¬ (a ≤ x ∧ x ≤ b) := by
  unfold ef_in
  by_cases h : a ≤ x ∧ x ≤ b
  · rw [if_pos h]; exact ⟨fun e => absurd e (by decide), fun e => absurd h e⟩
  · rw [if_neg h]; exact ⟨fun _ => h, fun _ => rfl⟩
theorem xc_isWeather (x y : Int32) (k : K (.inl (some (ew_i (if (0 ≤ x ∧ x ≤ 9) ∧ (-1 ≤ y ∧ y ≤ 3) then 1 else 0)))) (ew_hp s m)) : ew_Call (d + 2) 103 [ew_i x, ew_i y] (ew_hp s m) K := by
  refine ew_call (ew_go (fun _ => false) 40 (xc_within x 0 9 ⟨fun c => ?_, fun c => ?_⟩))
  · have c : ef_in x 0 9 = 0 := c
    rw [if_neg (fun q => ef_in0.mp c q.1)] at k
    exact ⟨Or.inl rfl, k⟩
  · have c : ¬ ef_in x 0 9 = 0 := c
    rw [ef_in0, Classical.not_not] at c
    refine xc_within y (-1) 3 ⟨fun e => ?_, fun e => ?_⟩
    · have e : ef_in y (-1) 3 = 0 := e
      rw [if_neg (fun q => ef_in0.mp e q.2)] at k
      exact ⟨Or.inl rfl, k⟩
    · have e : ¬ ef_in y (-1) 3 = 0 := e
      rw [ef_in0, Classical.not_not] at e
      rw [if_pos ⟨c, e⟩] at k
      exact ⟨Or.inr rfl, k⟩
theorem xc_canTake (b i : Nat) (k : K (.inl (some (ew_i (if ¬ s 10 7 i = 3 ∧ s 10 2 i = s 3 1 b then 1 else 0)))) (ew_hp s m)) : ew_Call (d + 1) 102 [ew_o 3 b, ew_o 10 i] (ew_hp s m) K := by
  refine ew_call (ew_go (fun _ => false) 40 ⟨fun c => ?_, fun c => ⟨fun e => ?_, fun e => ?_⟩⟩)
  · have c : s 10 7 i = 3 := c
    rw [if_neg (fun q => q.1 c)] at k
    exact ⟨Or.inl rfl, k⟩
  · have e : ¬ s 10 2 i = s 3 1 b := e
    rw [if_neg (fun q => e q.2)] at k
    exact ⟨Or.inl rfl, k⟩
  · have c : ¬ s 10 7 i = 3 := c
    have e : ¬ ¬ s 10 2 i = s 3 1 b := e
    rw [if_pos ⟨c, Classical.not_not.mp e⟩] at k
    exact ⟨Or.inr rfl, k⟩
theorem xc_demandArgument (x : Int32) (k1 : ¬ x = 0 → K (.inl none) (ew_hp s m)) (k2 : x = 0 → K (.inr 1) (ew_hp s (ew_pay m 1 6))) : ew_Call (d + 1) 105 [ew_i x] (ew_hp s m) K :=
  ew_call (ew_go (fun _ => false) 40 ⟨fun c => ⟨trivial, k1 c⟩, fun c => ⟨trivial, k2 (Classical.not_not.mp c)⟩⟩)
theorem xc_demandState (x : Int32) (k1 : ¬ x = 0 → K (.inl none) (ew_hp s m)) (k2 : x = 0 → K (.inr 2) (ew_hp s (ew_pay m 1 6))) : ew_Call (d + 1) 106 [ew_i x] (ew_hp s m) K :=
  ew_call (ew_go (fun _ => false) 40 ⟨fun c => ⟨trivial, k1 c⟩, fun c => ⟨trivial, k2 (Classical.not_not.mp c)⟩⟩)
theorem xc_distance (x y : Int32) (k : K (.inl (some (ew_i (ef_far x y)))) (ew_hp s m)) : ew_Call (d + 1) 108 [ew_i x, ew_i y] (ew_hp s m) K :=
  ew_call (ew_go (fun _ => false) 40 ⟨by decide, by decide, by decide, by decide, trivial, k⟩)
theorem xc_neighbour (c : Nat) (hc : c < 15) (x : Int32) (k : K (.inl (some (ew_i (ef_nb c x)))) (ew_hp s m)) : ew_Call (d + 1) 107 [ew_i (ei c), ew_i x] (ew_hp s m) K := by
  unfold ef_nb at k
  refine ew_call (ew_go (fun _ => false) 40 ⟨by decide, fun e => ⟨fun q => ?_, fun q => ?_⟩, fun e => ⟨fun e1 => ⟨fun q => ?_, fun q => ?_⟩, fun e1 => ⟨fun e2 => ⟨fun q => ?_, fun q => ?_⟩, fun e2 => ⟨fun e3 => ⟨fun q => ?_, fun q => ?_⟩, fun e3 => ?_⟩⟩⟩⟩)
  · have e : x = 0 := e
    have q : ei c < ei 5 := q
    rw [ei_lt (by omega) (by decide)] at q
    rw [if_pos e, if_neg (by omega)] at k
    exact ⟨trivial, k⟩
  · have e : x = 0 := e
    have q : ¬ ei c < ei 5 := q
    rw [ei_lt (by omega) (by decide)] at q
    rw [if_pos e, if_pos (by omega)] at k
    refine ⟨trivial, ?_⟩
    show K (.inl (some (ew_i (ei c - ei 5)))) (ew_hp s m)
    rw [ei_sub (by omega)]
    exact k
  · have e : ¬ x = 0 := e
    have e1 : x = 1 := e1
    have q : ei 4 ≤ ei c - ei c / 5 * 5 := q
    rw [ei_rem c hc, ei_le (by decide) (by omega)] at q
    rw [if_neg e, if_pos e1, if_neg (by omega)] at k
    exact ⟨trivial, k⟩
  · have e : ¬ x = 0 := e
    have e1 : x = 1 := e1
    have q : ¬ ei 4 ≤ ei c - ei c / 5 * 5 := q
    rw [ei_rem c hc, ei_le (by decide) (by omega)] at q
    rw [if_neg e, if_pos e1, if_pos (by omega)] at k
    refine ⟨trivial, ?_⟩
    show K (.inl (some (ew_i (ei c + 1)))) (ew_hp s m)
    rw [ei_1]
    exact k
  · have e : ¬ x = 0 := e
    have e1 : ¬ x = 1 := e1
    have e2 : x = 2 := e2
    have q : ei 10 ≤ ei c := q
    rw [ei_le (by decide) (by omega)] at q
    rw [if_neg e, if_neg e1, if_pos e2, if_neg (by omega)] at k
    exact ⟨trivial, k⟩
  · have e : ¬ x = 0 := e
    have e1 : ¬ x = 1 := e1
    have e2 : x = 2 := e2
    have q : ¬ ei 10 ≤ ei c := q
    rw [ei_le (by decide) (by omega)] at q
    rw [if_neg e, if_neg e1, if_pos e2, if_pos (by omega)] at k
    refine ⟨trivial, ?_⟩
    show K (.inl (some (ew_i (ei c + ei 5)))) (ew_hp s m)
    rw [ei_add]
    exact k
  · have e : ¬ x = 0 := e
    have e1 : ¬ x = 1 := e1
    have e2 : ¬ x = 2 := e2
    have e3 : x = 3 := e3
    have q : ei c - ei c / 5 * 5 ≤ ei 0 := q
    rw [ei_rem c hc, ei_le (by omega) (by decide)] at q
    rw [if_neg e, if_neg e1, if_neg e2, if_pos e3, if_neg (by omega)] at k
    exact ⟨trivial, k⟩
  · have e : ¬ x = 0 := e
    have e1 : ¬ x = 1 := e1
    have e2 : ¬ x = 2 := e2
    have e3 : x = 3 := e3
    have q : ¬ ei c - ei c / 5 * 5 ≤ ei 0 := q
    rw [ei_rem c hc, ei_le (by omega) (by decide)] at q
    rw [if_neg e, if_neg e1, if_neg e2, if_pos e3, if_pos (by omega)] at k
    refine ⟨trivial, ?_⟩
    show K (.inl (some (ew_i (ei c - ei 1)))) (ew_hp s m)
    rw [ei_sub (by omega)]
    exact k
  · have e : ¬ x = 0 := e
    have e1 : ¬ x = 1 := e1
    have e2 : ¬ x = 2 := e2
    have e3 : ¬ x = 3 := e3
    rw [if_neg e, if_neg e1, if_neg e2, if_neg e3] at k
    exact ⟨trivial, k⟩
end
