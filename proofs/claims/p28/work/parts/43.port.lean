/-! The class's ports, and finding things by number. -/
def ef_least (h l : Nat → Int32) (x : Int32) : Nat → Int32
  | 0 => 0
  | j + 1 => if h j ≤ x then l j else ef_least h l x j
theorem ei_dec (x : Int32) (n : Nat) (hn : n < 2147483648) : (∃ c, c < n ∧ x = ei c) ∨ ((x < 0 ∨ ei n ≤ x) ∧ ∀ c, c < n → x ≠ ei c) := by
  by_cases h : x < 0
  · exact Or.inr ⟨Or.inl h, fun c hc e => ei_nn (by omega) (e ▸ h)⟩
  · have e := ei_of h
    have hb : x.toNatClampNeg < 2147483648 := by
      have h1 := Int32.toInt_lt x
      have e1 : x.toNatClampNeg = x.toInt.toNat := rfl
      omega
    by_cases h2 : x.toNatClampNeg < n
    · exact Or.inl ⟨_, h2, e⟩
    · refine Or.inr ⟨Or.inr ?_, fun c hc q => ?_⟩
      · rw [e, ei_le hn hb]; omega
      · rw [q, ei_nat (by omega)] at h2; omega
section
variable {d : Nat} {s : ew_S} {m : ew_H} {K : ew_R → ew_H → Prop}
theorem xc_addRule (i n : Nat) (x y : Int32) (hn : s 6 3 i = ei n) (h8 : n < 10) (k : K (.inl none) (ew_hp (ew_u (ew_u (ew_u s 81 n i x) 113 n i y) 6 3 i (ei (n + 1))) m)) : ew_Call (d + 1) 20 [ew_o 6 i, ew_i x, ew_i y] (ew_hp s m) K := by
  refine ew_call (ew_go (fun _ => false) 60 ⟨fun c => ?_, fun c => ⟨fun e => ?_, fun e => ⟨fun e2 => ?_, fun e2 => ?_⟩⟩⟩)
  · have c : s 6 3 i < 0 := c
    rw [hn] at c
    exact absurd c (ei_nn (by omega))
  · have e : ei 10 ≤ s 6 3 i := e
    rw [hn, ei_le (by decide) (by omega)] at e
    omega
  · have e : ei 10 ≤ s 6 3 i := e2
    rw [hn, ei_le (by decide) (by omega)] at e
    omega
  · refine ⟨?_, ?_, trivial, trivial, ?_⟩
    · show ew_ix (s 6 3 i) 10 ∧ True
      rw [hn]
      exact ⟨ei_ix h8 (by decide), trivial⟩
    · show ew_ix (s 6 3 i) 10 ∧ True
      rw [hn]
      exact ⟨ei_ix h8 (by decide), trivial⟩
    · show K (.inl none) (ew_put (ew_put (ew_put (ew_hp s m) 81 i (s 6 3 i).toNatClampNeg (ew_i x)) 113 i (s 6 3 i).toNatClampNeg (ew_i y)) 6 i 3 (ew_i (s 6 3 i + 1)))
      rw [hn, ei_nat (by omega), ei_1]
      exact ek_3 rfl rfl rfl k
theorem xl_leastAt (i n : Nat) (x : Int32) (hn : s 6 3 i = ei n) (h8 : n ≤ 10) (k : K (.inl (some (ew_i (ef_least (fun p => s 113 p i) (fun p => s 81 p i) x n)))) (ew_hp s m)) : ∀ (r j : Nat) (y v : Int32), y = ei j → j + r = n → v = ef_least (fun p => s 113 p i) (fun p => s 81 p i) x j →
    ew_W (ew_Call d) 21 K (4, [some (ew_o 6 i), some (ew_i x), some (ew_i v), some (ew_i y)], [], ew_hp s m) := by
  intro r
  induction r with
  | zero =>
    intro j y v hy hj hv
    subst hy; subst hv
    obtain rfl : j = n := by omega
    refine ew_go (fun pc => Nat.beq pc 4) 40 ⟨fun c => ⟨trivial, k⟩, fun c => ?_⟩
    have c : ¬ s 6 3 i ≤ ei j := c
    rw [hn, ei_le (by omega) (by omega)] at c
    omega
  | succ r ih =>
    intro j y v hy hj hv
    subst hy; subst hv
    refine ew_go (fun pc => Nat.beq pc 4) 40 ⟨fun c => ?_, fun c => ⟨fun e => ?_, fun e => ⟨fun e2 => ?_, fun e2 => ⟨ei_ix (n := 10) (by omega) (by decide), fun e3 => ?_, fun e3 => ?_⟩⟩⟩⟩
    · have c : s 6 3 i ≤ ei j := c
      rw [hn, ei_le (by omega) (by omega)] at c
      omega
    · have e : ei 10 ≤ ei j := e
      rw [ei_le (by decide) (by omega)] at e
      omega
    · have e : ei 10 ≤ ei j := e2
      rw [ei_le (by decide) (by omega)] at e
      omega
    · have e3 : x < s 113 (ei j).toNatClampNeg i := e3
      rw [ei_nat (by omega)] at e3
      refine ih (j + 1) _ _ (ei_1 _) (by omega) ?_
      show _ = if s 113 j i ≤ x then _ else _
      rw [if_neg (Int32.not_le.mpr e3)]
    · have e3 : ¬ x < s 113 (ei j).toNatClampNeg i := e3
      rw [ei_nat (by omega)] at e3
      refine ⟨ei_ix (n := 10) (by omega) (by decide), ih (j + 1) _ _ (ei_1 _) (by omega) ?_⟩
      show s 81 (ei j).toNatClampNeg i = if s 113 j i ≤ x then _ else _
      rw [if_pos (Int32.not_lt.mp e3), ei_nat (by omega)]
theorem xc_leastAt (i n : Nat) (x : Int32) (hn : s 6 3 i = ei n) (h8 : n ≤ 10) (k : K (.inl (some (ew_i (ef_least (fun p => s 113 p i) (fun p => s 81 p i) x n)))) (ew_hp s m)) : ew_Call (d + 1) 21 [ew_o 6 i, ew_i x] (ew_hp s m) K :=
  ew_call (ew_go (fun pc => Nat.beq pc 4) 40 (xl_leastAt (d := d) i n x hn h8 k n 0 0 0 rfl (by omega) rfl))
theorem xc_isExempt (i j : Nat) (hj : j < 5) (k : K (.inl (some (ew_i (if s 18 j i = 0 then 0 else 1)))) (ew_hp s m)) : ew_Call (d + 1) 23 [ew_o 6 i, ew_i (ei j)] (ew_hp s m) K := by
  refine ew_call (ew_go (fun _ => false) 40 ⟨fun c => absurd c (ei_nn (by omega)), fun c => ⟨fun e => ?_, fun e => ⟨ei_ix (n := 5) (by omega) (by decide), fun e2 => ?_, fun e2 => ?_⟩⟩⟩)
  · have e : ei 5 ≤ ei j := e
    rw [ei_le (by decide) (by omega)] at e
    omega
  · have e2 : s 18 (ei j).toNatClampNeg i = 0 := e2
    rw [ei_nat (by omega)] at e2
    rw [if_pos e2] at k
    exact ⟨Or.inl rfl, k⟩
  · have e2 : ¬ s 18 (ei j).toNatClampNeg i = 0 := e2
    rw [ei_nat (by omega)] at e2
    rw [if_neg e2] at k
    exact ⟨Or.inr rfl, k⟩
theorem xc_letsIn (i n j : Nat) (hj : j < 5) (x y : Int32) (hn : s 6 3 i = ei n) (h8 : n ≤ 10) (k : K (.inl (some (ew_i (if ef_least (fun p => s 113 p i) (fun p => s 81 p i) y n ≤ x ∨ s 18 j i ≠ 0 then 1 else 0)))) (ew_hp s m)) : ew_Call (d + 2) 24 [ew_o 6 i, ew_i (ei j), ew_i x, ew_i y] (ew_hp s m) K := by
  refine ew_call (ew_go (fun _ => false) 40 (xc_leastAt i n y hn h8 ⟨fun c => ?_, fun c => ?_⟩))
  · have c : ef_least (fun p => s 113 p i) (fun p => s 81 p i) y n ≤ x := c
    rw [if_pos (Or.inl c)] at k
    exact ⟨Or.inr rfl, k⟩
  · have c : ¬ ef_least (fun p => s 113 p i) (fun p => s 81 p i) y n ≤ x := c
    refine xc_isExempt i j hj ⟨fun e => ?_, fun e => ?_⟩
    · have e : (if s 18 j i = 0 then (0 : Int32) else 1) = 0 := e
      have e' : s 18 j i = 0 := by
        by_cases q : s 18 j i = 0
        · exact q
        · rw [if_neg q] at e; exact absurd e (by decide)
      rw [if_neg (fun q => q.elim c (fun z => z e'))] at k
      exact ⟨Or.inl rfl, k⟩
    · have e : ¬ (if s 18 j i = 0 then (0 : Int32) else 1) = 0 := e
      have e' : ¬ s 18 j i = 0 := fun q => e (if_pos q)
      rw [if_pos (Or.inr e')] at k
      exact ⟨Or.inr rfl, k⟩
theorem xc_cellAt (q c : Nat) (hc : c < 15) (k : K (.inl (some (ew_o 4 (c + 15 * q)))) (ew_hp s m)) : ew_Call (d + 1) 37 [ew_o 9 q, ew_i (ei c)] (ew_hp s m) K := by
  refine ew_call (ew_go (fun _ => false) 40 ⟨fun e => absurd e (ei_nn (by omega)), fun e => ⟨fun e => ⟨ei_ix (n := 15) (by omega) (by decide), trivial, ?_⟩, fun e => ?_⟩⟩)
  · show K (.inl (some (ew_o 4 (ew_wi 15 (ei c).toNatClampNeg + 15 * q)))) (ew_hp s m)
    rw [ei_nat (by omega), ew_wi_lt (by omega)]
    exact k
  · have e : ¬ ei c < ei 15 := e
    rw [ei_lt (by omega) (by decide)] at e
    omega
theorem xc_cellAtX (q : Nat) (x : Int32) (k1 : ∀ c, c < 15 → x = ei c → K (.inl (some (ew_o 4 (c + 15 * q)))) (ew_hp s m)) (k2 : (∀ c, c < 15 → x ≠ ei c) → K (.inr 0) (ew_hp s (ew_pay m 1 6))) : ew_Call (d + 1) 37 [ew_o 9 q, ew_i x] (ew_hp s m) K := by
  rcases ei_dec x 15 (by decide) with ⟨c, hc, rfl⟩ | ⟨h1, h2⟩
  · exact xc_cellAt q c hc (k1 c hc rfl)
  · refine ew_call (ew_go (fun _ => false) 40 ⟨fun e => ⟨trivial, k2 h2⟩, fun e => ⟨fun e2 => ?_, fun e2 => ⟨trivial, k2 h2⟩⟩⟩)
    have e2 : x < ei 15 := e2
    exact (h1.elim e (fun z => Int32.not_le.mpr e2 z)).elim
theorem xc_breakerAt (q c n : Nat) (hn : s 9 3 q = ei n) (h8 : n ≤ 2) (hc : c < n) (k : K (.inl (some (ew_o 3 (c + 2 * q)))) (ew_hp s m)) : ew_Call (d + 1) 38 [ew_o 9 q, ew_i (ei c)] (ew_hp s m) K := by
  refine ew_call (ew_go (fun _ => false) 40 ⟨fun e => absurd e (ei_nn (by omega)), fun e => ⟨fun e => ?_, fun e => ⟨fun e => ⟨ei_ix (n := 2) (by omega) (by decide), trivial, ?_⟩, fun e => ?_⟩⟩⟩)
  · have e : s 9 3 q ≤ ei c := e
    rw [hn, ei_le (by omega) (by omega)] at e
    omega
  · show K (.inl (some (ew_o 3 (ew_wi 2 (ei c).toNatClampNeg + 2 * q)))) (ew_hp s m)
    rw [ei_nat (by omega), ew_wi_lt (by omega)]
    exact k
  · have e : ¬ ei c < ei 2 := e
    rw [ei_lt (by omega) (by decide)] at e
    omega
theorem xc_breakerAtX (q n : Nat) (x : Int32) (hn : s 9 3 q = ei n) (h8 : n ≤ 2) (k1 : ∀ c, c < n → x = ei c → K (.inl (some (ew_o 3 (c + 2 * q)))) (ew_hp s m)) (k2 : (∀ c, c < n → x ≠ ei c) → K (.inr 0) (ew_hp s (ew_pay m 1 6))) : ew_Call (d + 1) 38 [ew_o 9 q, ew_i x] (ew_hp s m) K := by
  rcases ei_dec x n (by omega) with ⟨c, hc, rfl⟩ | ⟨h1, h2⟩
  · exact xc_breakerAt q c n hn h8 hc (k1 c hc rfl)
  · refine ew_call (ew_go (fun _ => false) 40 ⟨fun e => ⟨trivial, k2 h2⟩, fun e => ⟨fun e2 => ⟨trivial, k2 h2⟩, fun e2 => ?_⟩⟩)
    have e2 : ¬ s 9 3 q ≤ x := e2
    rw [hn] at e2
    exact (h1.elim e e2).elim
theorem xc_shipAt (q c n : Nat) (hn : s 9 4 q = ei n) (h8 : n ≤ 5) (hc : c < n) (k : K (.inl (some (ew_o 10 (c + 5 * q)))) (ew_hp s m)) : ew_Call (d + 1) 39 [ew_o 9 q, ew_i (ei c)] (ew_hp s m) K := by
  refine ew_call (ew_go (fun _ => false) 40 ⟨fun e => absurd e (ei_nn (by omega)), fun e => ⟨fun e => ?_, fun e => ⟨fun e => ⟨ei_ix (n := 5) (by omega) (by decide), trivial, ?_⟩, fun e => ?_⟩⟩⟩)
  · have e : s 9 4 q ≤ ei c := e
    rw [hn, ei_le (by omega) (by omega)] at e
    omega
  · show K (.inl (some (ew_o 10 (ew_wi 5 (ei c).toNatClampNeg + 5 * q)))) (ew_hp s m)
    rw [ei_nat (by omega), ew_wi_lt (by omega)]
    exact k
  · have e : ¬ ei c < ei 5 := e
    rw [ei_lt (by omega) (by decide)] at e
    omega
theorem xc_shipAtX (q n : Nat) (x : Int32) (hn : s 9 4 q = ei n) (h8 : n ≤ 5) (k1 : ∀ c, c < n → x = ei c → K (.inl (some (ew_o 10 (c + 5 * q)))) (ew_hp s m)) (k2 : (∀ c, c < n → x ≠ ei c) → K (.inr 0) (ew_hp s (ew_pay m 1 6))) : ew_Call (d + 1) 39 [ew_o 9 q, ew_i x] (ew_hp s m) K := by
  rcases ei_dec x n (by omega) with ⟨c, hc, rfl⟩ | ⟨h1, h2⟩
  · exact xc_shipAt q c n hn h8 hc (k1 c hc rfl)
  · refine ew_call (ew_go (fun _ => false) 40 ⟨fun e => ⟨trivial, k2 h2⟩, fun e => ⟨fun e2 => ⟨trivial, k2 h2⟩, fun e2 => ?_⟩⟩)
    have e2 : ¬ s 9 4 q ≤ x := e2
    rw [hn] at e2
    exact (h1.elim e e2).elim
theorem xc_portAt (q c n : Nat) (hn : s 7 1 q = ei n) (h8 : n ≤ 3) (hc : c < n) (k : K (.inl (some (ew_o 6 (c + 3 * q)))) (ew_hp s m)) : ew_Call (d + 1) 26 [ew_o 7 q, ew_i (ei c)] (ew_hp s m) K := by
  refine ew_call (ew_go (fun _ => false) 40 ⟨fun e => absurd e (ei_nn (by omega)), fun e => ⟨fun e => ?_, fun e => ⟨fun e => ⟨ei_ix (n := 3) (by omega) (by decide), trivial, ?_⟩, fun e => ?_⟩⟩⟩)
  · have e : s 7 1 q ≤ ei c := e
    rw [hn, ei_le (by omega) (by omega)] at e
    omega
  · show K (.inl (some (ew_o 6 (ew_wi 3 (ei c).toNatClampNeg + 3 * q)))) (ew_hp s m)
    rw [ei_nat (by omega), ew_wi_lt (by omega)]
    exact k
  · have e : ¬ ei c < ei 3 := e
    rw [ei_lt (by omega) (by decide)] at e
    omega
theorem xc_portAtX (q n : Nat) (x : Int32) (hn : s 7 1 q = ei n) (h8 : n ≤ 3) (k1 : ∀ c, c < n → x = ei c → K (.inl (some (ew_o 6 (c + 3 * q)))) (ew_hp s m)) (k2 : (∀ c, c < n → x ≠ ei c) → K (.inr 0) (ew_hp s (ew_pay m 1 6))) : ew_Call (d + 1) 26 [ew_o 7 q, ew_i x] (ew_hp s m) K := by
  rcases ei_dec x n (by omega) with ⟨c, hc, rfl⟩ | ⟨h1, h2⟩
  · exact xc_portAt q c n hn h8 hc (k1 c hc rfl)
  · refine ew_call (ew_go (fun _ => false) 40 ⟨fun e => ⟨trivial, k2 h2⟩, fun e => ⟨fun e2 => ⟨trivial, k2 h2⟩, fun e2 => ?_⟩⟩)
    have e2 : ¬ s 7 1 q ≤ x := e2
    rw [hn] at e2
    exact (h1.elim e e2).elim
end
