/-! The class's routes. -/
section
variable {d : Nat} {s : ew_S} {m : ew_H} {K : ew_R → ew_H → Prop}

/-! Routes: objects of kind 8, their cells of kind 145. -/
theorem xc_isFull8 (i n : Nat) (hn : s 8 1 i = ei n) (h8 : n ≤ 8) (k : K (.inl (some (ew_i (if n = 8 then 1 else 0)))) (ew_hp s m)) : ew_Call (d + 1) 30 [ew_o 8 i] (ew_hp s m) K := by
  refine ew_call (ew_go (fun _ => false) 40 ⟨fun c => ?_, fun c => ?_⟩)
  · have c : s 8 1 i < ei 8 := c
    rw [hn, ei_lt (by omega) (by decide)] at c
    rw [if_neg (by omega)] at k
    exact ⟨Or.inl rfl, k⟩
  · have c : ¬ s 8 1 i < ei 8 := c
    rw [hn, ei_lt (by omega) (by decide)] at c
    rw [if_pos (by omega)] at k
    exact ⟨Or.inr rfl, k⟩
theorem xc_add8 (i n : Nat) (x : Int32) (hn : s 8 1 i = ei n) (h8 : n < 8) (k : K (.inl (some (ew_i (ei (n + 1))))) (ew_hp (ew_u (ew_u s 145 n i x) 8 1 i (ei (n + 1))) m)) : ew_Call (d + 1) 31 [ew_o 8 i, ew_i x] (ew_hp s m) K := by
  refine ew_call (ew_go (fun _ => false) 40 ⟨fun c => ?_, fun c => ⟨fun e => ?_, fun e => ?_⟩⟩)
  · have c : s 8 1 i < 0 := c
    rw [hn] at c
    exact absurd c (ei_nn (by omega))
  · have e : ei 8 ≤ s 8 1 i := e
    rw [hn, ei_le (by decide) (by omega)] at e
    omega
  · refine ⟨?_, trivial, trivial, ?_⟩
    · show ew_ix (s 8 1 i) 8 ∧ True
      rw [hn]
      exact ⟨ei_ix h8 (by decide), trivial⟩
    · show K (.inl (some (ew_i (ew_u s 8 1 i (s 8 1 i + 1) 8 1 i)))) (ew_put (ew_put (ew_hp s m) 145 i (s 8 1 i).toNatClampNeg (ew_i x)) 8 i 1 (ew_i (s 8 1 i + 1)))
      rw [ew_u_self, hn, ei_nat (by omega), ei_1]
      exact ek_2 rfl rfl k
theorem xc_first8 (i n : Nat) (hn : s 8 1 i = ei n) (h8 : n ≤ 8) (k : K (.inl (some (ew_i (if n = 0 then -1 else s 145 0 i)))) (ew_hp s m)) : ew_Call (d + 1) 32 [ew_o 8 i] (ew_hp s m) K := by
  refine ew_call (ew_go (fun _ => false) 40 ⟨fun c => ?_, fun c => ⟨fun e => ?_, fun e => ?_⟩⟩)
  · have c : s 8 1 i ≤ ei 0 := c
    rw [hn, ei_le (by omega) (by decide)] at c
    rw [if_pos (by omega)] at k
    exact ⟨trivial, k⟩
  · exact absurd (show ei 8 ≤ 0 from e) (by decide)
  · have c : ¬ s 8 1 i ≤ ei 0 := c
    rw [hn, ei_le (by omega) (by decide)] at c
    rw [if_neg (by omega)] at k
    exact ⟨ei_ix (j := 0) (n := 8) (by decide) (by decide), trivial, k⟩
theorem xl_takeFirst8 (i n : Nat) (hn : s 8 1 i = ei n) (h8 : n ≤ 8) (k : K (.inl none) (ew_hp (ew_u (ef_sh s 145 i n) 8 1 i (ei (n - 1))) m)) : ∀ (r j : Nat) (x : Int32), x = ei (j + 1) → (j + 1 + r = n ∨ (n ≤ 1 ∧ j = 0)) →
    ew_W (ew_Call d) 33 K (2, [some (ew_o 8 i), some (ew_i x)], [], ew_hp (ef_sh s 145 i (j + 1)) m) := by
  intro r
  induction r with
  | zero =>
    intro j x hx hj
    subst hx
    refine ew_go (fun pc => Nat.beq pc 2) 40 ⟨fun c => ?_, fun c => ?_⟩
    · refine ⟨trivial, trivial, ?_⟩
      show K _ (ew_put (ew_hp (ef_sh s 145 i (j + 1)) m) 8 i 1 (ew_i (ew_max 0 (s 8 1 i - 1))))
      rw [hn, ew_max0 (by omega)]
      refine ek_p rfl ?_
      rcases hj with hj | hj
      · rw [show j + 1 = n by omega]; exact k
      · rw [ef_sh_1 s 145 i (by omega)]
        rw [ef_sh_1 s 145 i hj.1] at k
        exact k
    · have c : ¬ s 8 1 i ≤ ei (j + 1) := c
      rw [hn, ei_le (by omega) (by omega)] at c
      omega
  | succ r ih =>
    intro j x hx hj
    subst hx
    by_cases hc : n ≤ j + 1
    · refine ew_go (fun pc => Nat.beq pc 2) 40 ⟨fun c => ?_, fun c => ?_⟩
      · refine ⟨trivial, trivial, ?_⟩
        show K _ (ew_put (ew_hp (ef_sh s 145 i (j + 1)) m) 8 i 1 (ew_i (ew_max 0 (s 8 1 i - 1))))
        rw [hn, ew_max0 (by omega)]
        refine ek_p rfl ?_
        rcases hj with hj | hj
        · omega
        · rw [ef_sh_1 s 145 i (by omega)]
          rw [ef_sh_1 s 145 i hj.1] at k
          exact k
      · have c : ¬ s 8 1 i ≤ ei (j + 1) := c
        rw [hn, ei_le (by omega) (by omega)] at c
        omega
    refine ew_go (fun pc => Nat.beq pc 2) 40 ⟨fun c => ?_, fun c => ⟨fun e => ?_, fun e => ?_⟩⟩
    · have c : s 8 1 i ≤ ei (j + 1) := c
      rw [hn, ei_le (by omega) (by omega)] at c
      omega
    · have e : ei 8 ≤ ei (j + 1) := e
      rw [ei_le (by decide) (by omega)] at e
      omega
    · refine ⟨ei_ix (n := 8) (by omega) (by decide), ?_⟩
      have e1 : ei (j + 1) - 1 = ei j := by rw [← ei_1]; exact Int32.add_sub_cancel ..
      refine ⟨?_, ?_⟩
      · show ew_ix (ei (j + 1) - 1) 8 ∧ True
        rw [e1]
        exact ⟨ei_ix (by omega) (by decide), trivial⟩
      · show ew_W (ew_Call d) 33 K (2, [some (ew_o 8 i), some (ew_i (ei (j + 1) + 1))], [], ew_put (ew_hp (ef_sh s 145 i (j + 1)) m) 145 i (ei (j + 1) - 1).toNatClampNeg (ew_i (ef_sh s 145 i (j + 1) 145 (ei (j + 1)).toNatClampNeg i)))
        rw [e1, ei_nat (by omega), ei_nat (by omega), ew_hp_put rfl, ef_sh_s]
        exact ih (j + 1) _ (ei_1 _) (Or.inl (by omega))
theorem xc_takeFirst8 (i n : Nat) (hn : s 8 1 i = ei n) (h8 : n ≤ 8) (k : K (.inl none) (ew_hp (ew_u (ef_sh s 145 i n) 8 1 i (ei (n - 1))) m)) : ew_Call (d + 1) 33 [ew_o 8 i] (ew_hp s m) K := by
  refine ew_call (ew_go (fun pc => Nat.beq pc 2) 40 ?_)
  have := xl_takeFirst8 (d := d) i n hn h8 k (n - 1) 0 1 rfl (by omega)
  rw [ef_sh_1 s 145 i (by omega)] at this
  exact this
theorem xc_drop8 (i : Nat) (k : K (.inl (some (ew_i (s 8 1 i)))) (ew_hp (ew_u s 8 1 i 0) m)) : ew_Call (d + 1) 34 [ew_o 8 i] (ew_hp s m) K :=
  ew_call (ew_go (fun _ => false) 40 ⟨trivial, trivial, ek_p rfl k⟩)
theorem xl_copyFrom8 (i i0 : Nat) (k : K (.inl none) (ew_hp (ew_u (ef_cp s 145 i i0 8) 8 1 i (s 8 1 i0)) m)) : ∀ (r j : Nat) (x : Int32), x = ei j → j + r = 8 →
    ew_W (ew_Call d) 35 K (2, [some (ew_o 8 i), some (ew_o 8 i0), some (ew_i x)], [], ew_hp (ef_cp s 145 i i0 j) m) := by
  intro r
  induction r with
  | zero =>
    intro j x hx hj
    subst hx
    obtain rfl : j = 8 := by omega
    refine ew_go (fun pc => Nat.beq pc 2) 40 ⟨fun c => ?_, fun c => absurd (show ei 8 ≤ ei 8 by decide) c⟩
    exact ⟨trivial, trivial, ek_p rfl k⟩
  | succ r ih =>
    intro j x hx hj
    subst hx
    refine ew_go (fun pc => Nat.beq pc 2) 40 ⟨fun c => ?_, fun c => ⟨fun e => ?_, fun e => ?_⟩⟩
    · have c : ei 8 ≤ ei j := c
      rw [ei_le (by decide) (by omega)] at c
      omega
    · have e : ei 8 ≤ ei j := e
      rw [ei_le (by decide) (by omega)] at e
      omega
    · refine ⟨ei_ix (n := 8) (by omega) (by decide), ⟨ei_ix (n := 8) (by omega) (by decide), trivial⟩, ?_⟩
      show ew_W (ew_Call d) 35 K (2, [some (ew_o 8 i), some (ew_o 8 i0), some (ew_i (ei j + 1))], [], ew_put (ew_hp (ef_cp s 145 i i0 j) m) 145 i (ei j).toNatClampNeg (ew_i (ef_cp s 145 i i0 j 145 (ei j).toNatClampNeg i0)))
      rw [ei_nat (by omega), ew_hp_put rfl, ef_cp_s]
      exact ih (j + 1) _ (ei_1 _) (by omega)
theorem xc_copyFrom8 (i i0 : Nat) (k : K (.inl none) (ew_hp (ew_u (ef_cp s 145 i i0 8) 8 1 i (s 8 1 i0)) m)) : ew_Call (d + 1) 35 [ew_o 8 i, ew_o 8 i0] (ew_hp s m) K := by
  refine ew_call (ew_go (fun pc => Nat.beq pc 2) 40 ?_)
  have := xl_copyFrom8 (d := d) i i0 k 8 0 0 rfl rfl
  rw [ef_cp_0] at this
  exact this

/-! Routes: objects of kind 40, their cells of kind 593. -/
theorem xc_isFull40 (i n : Nat) (hn : s 40 1 i = ei n) (h8 : n ≤ 8) (k : K (.inl (some (ew_i (if n = 8 then 1 else 0)))) (ew_hp s m)) : ew_Call (d + 1) 30 [ew_o 40 i] (ew_hp s m) K := by
  refine ew_call (ew_go (fun _ => false) 40 ⟨fun c => ?_, fun c => ?_⟩)
  · have c : s 40 1 i < ei 8 := c
    rw [hn, ei_lt (by omega) (by decide)] at c
    rw [if_neg (by omega)] at k
    exact ⟨Or.inl rfl, k⟩
  · have c : ¬ s 40 1 i < ei 8 := c
    rw [hn, ei_lt (by omega) (by decide)] at c
    rw [if_pos (by omega)] at k
    exact ⟨Or.inr rfl, k⟩
theorem xc_add40 (i n : Nat) (x : Int32) (hn : s 40 1 i = ei n) (h8 : n < 8) (k : K (.inl (some (ew_i (ei (n + 1))))) (ew_hp (ew_u (ew_u s 593 n i x) 40 1 i (ei (n + 1))) m)) : ew_Call (d + 1) 31 [ew_o 40 i, ew_i x] (ew_hp s m) K := by
  refine ew_call (ew_go (fun _ => false) 40 ⟨fun c => ?_, fun c => ⟨fun e => ?_, fun e => ?_⟩⟩)
  · have c : s 40 1 i < 0 := c
    rw [hn] at c
    exact absurd c (ei_nn (by omega))
  · have e : ei 8 ≤ s 40 1 i := e
    rw [hn, ei_le (by decide) (by omega)] at e
    omega
  · refine ⟨?_, trivial, trivial, ?_⟩
    · show ew_ix (s 40 1 i) 8 ∧ True
      rw [hn]
      exact ⟨ei_ix h8 (by decide), trivial⟩
    · show K (.inl (some (ew_i (ew_u s 40 1 i (s 40 1 i + 1) 40 1 i)))) (ew_put (ew_put (ew_hp s m) 593 i (s 40 1 i).toNatClampNeg (ew_i x)) 40 i 1 (ew_i (s 40 1 i + 1)))
      rw [ew_u_self, hn, ei_nat (by omega), ei_1]
      exact ek_2 rfl rfl k
theorem xc_first40 (i n : Nat) (hn : s 40 1 i = ei n) (h8 : n ≤ 8) (k : K (.inl (some (ew_i (if n = 0 then -1 else s 593 0 i)))) (ew_hp s m)) : ew_Call (d + 1) 32 [ew_o 40 i] (ew_hp s m) K := by
  refine ew_call (ew_go (fun _ => false) 40 ⟨fun c => ?_, fun c => ⟨fun e => ?_, fun e => ?_⟩⟩)
  · have c : s 40 1 i ≤ ei 0 := c
    rw [hn, ei_le (by omega) (by decide)] at c
    rw [if_pos (by omega)] at k
    exact ⟨trivial, k⟩
  · exact absurd (show ei 8 ≤ 0 from e) (by decide)
  · have c : ¬ s 40 1 i ≤ ei 0 := c
    rw [hn, ei_le (by omega) (by decide)] at c
    rw [if_neg (by omega)] at k
    exact ⟨ei_ix (j := 0) (n := 8) (by decide) (by decide), trivial, k⟩
theorem xl_takeFirst40 (i n : Nat) (hn : s 40 1 i = ei n) (h8 : n ≤ 8) (k : K (.inl none) (ew_hp (ew_u (ef_sh s 593 i n) 40 1 i (ei (n - 1))) m)) : ∀ (r j : Nat) (x : Int32), x = ei (j + 1) → (j + 1 + r = n ∨ (n ≤ 1 ∧ j = 0)) →
    ew_W (ew_Call d) 33 K (2, [some (ew_o 40 i), some (ew_i x)], [], ew_hp (ef_sh s 593 i (j + 1)) m) := by
  intro r
  induction r with
  | zero =>
    intro j x hx hj
    subst hx
    refine ew_go (fun pc => Nat.beq pc 2) 40 ⟨fun c => ?_, fun c => ?_⟩
    · refine ⟨trivial, trivial, ?_⟩
      show K _ (ew_put (ew_hp (ef_sh s 593 i (j + 1)) m) 40 i 1 (ew_i (ew_max 0 (s 40 1 i - 1))))
      rw [hn, ew_max0 (by omega)]
      refine ek_p rfl ?_
      rcases hj with hj | hj
      · rw [show j + 1 = n by omega]; exact k
      · rw [ef_sh_1 s 593 i (by omega)]
        rw [ef_sh_1 s 593 i hj.1] at k
        exact k
    · have c : ¬ s 40 1 i ≤ ei (j + 1) := c
      rw [hn, ei_le (by omega) (by omega)] at c
      omega
  | succ r ih =>
    intro j x hx hj
    subst hx
    by_cases hc : n ≤ j + 1
    · refine ew_go (fun pc => Nat.beq pc 2) 40 ⟨fun c => ?_, fun c => ?_⟩
      · refine ⟨trivial, trivial, ?_⟩
        show K _ (ew_put (ew_hp (ef_sh s 593 i (j + 1)) m) 40 i 1 (ew_i (ew_max 0 (s 40 1 i - 1))))
        rw [hn, ew_max0 (by omega)]
        refine ek_p rfl ?_
        rcases hj with hj | hj
        · omega
        · rw [ef_sh_1 s 593 i (by omega)]
          rw [ef_sh_1 s 593 i hj.1] at k
          exact k
      · have c : ¬ s 40 1 i ≤ ei (j + 1) := c
        rw [hn, ei_le (by omega) (by omega)] at c
        omega
    refine ew_go (fun pc => Nat.beq pc 2) 40 ⟨fun c => ?_, fun c => ⟨fun e => ?_, fun e => ?_⟩⟩
    · have c : s 40 1 i ≤ ei (j + 1) := c
      rw [hn, ei_le (by omega) (by omega)] at c
      omega
    · have e : ei 8 ≤ ei (j + 1) := e
      rw [ei_le (by decide) (by omega)] at e
      omega
    · refine ⟨ei_ix (n := 8) (by omega) (by decide), ?_⟩
      have e1 : ei (j + 1) - 1 = ei j := by rw [← ei_1]; exact Int32.add_sub_cancel ..
      refine ⟨?_, ?_⟩
      · show ew_ix (ei (j + 1) - 1) 8 ∧ True
        rw [e1]
        exact ⟨ei_ix (by omega) (by decide), trivial⟩
      · show ew_W (ew_Call d) 33 K (2, [some (ew_o 40 i), some (ew_i (ei (j + 1) + 1))], [], ew_put (ew_hp (ef_sh s 593 i (j + 1)) m) 593 i (ei (j + 1) - 1).toNatClampNeg (ew_i (ef_sh s 593 i (j + 1) 593 (ei (j + 1)).toNatClampNeg i)))
        rw [e1, ei_nat (by omega), ei_nat (by omega), ew_hp_put rfl, ef_sh_s]
        exact ih (j + 1) _ (ei_1 _) (Or.inl (by omega))
theorem xc_takeFirst40 (i n : Nat) (hn : s 40 1 i = ei n) (h8 : n ≤ 8) (k : K (.inl none) (ew_hp (ew_u (ef_sh s 593 i n) 40 1 i (ei (n - 1))) m)) : ew_Call (d + 1) 33 [ew_o 40 i] (ew_hp s m) K := by
  refine ew_call (ew_go (fun pc => Nat.beq pc 2) 40 ?_)
  have := xl_takeFirst40 (d := d) i n hn h8 k (n - 1) 0 1 rfl (by omega)
  rw [ef_sh_1 s 593 i (by omega)] at this
  exact this
theorem xc_drop40 (i : Nat) (k : K (.inl (some (ew_i (s 40 1 i)))) (ew_hp (ew_u s 40 1 i 0) m)) : ew_Call (d + 1) 34 [ew_o 40 i] (ew_hp s m) K :=
  ew_call (ew_go (fun _ => false) 40 ⟨trivial, trivial, ek_p rfl k⟩)
theorem xl_copyFrom40 (i i0 : Nat) (k : K (.inl none) (ew_hp (ew_u (ef_cp s 593 i i0 8) 40 1 i (s 40 1 i0)) m)) : ∀ (r j : Nat) (x : Int32), x = ei j → j + r = 8 →
    ew_W (ew_Call d) 35 K (2, [some (ew_o 40 i), some (ew_o 40 i0), some (ew_i x)], [], ew_hp (ef_cp s 593 i i0 j) m) := by
  intro r
  induction r with
  | zero =>
    intro j x hx hj
    subst hx
    obtain rfl : j = 8 := by omega
    refine ew_go (fun pc => Nat.beq pc 2) 40 ⟨fun c => ?_, fun c => absurd (show ei 8 ≤ ei 8 by decide) c⟩
    exact ⟨trivial, trivial, ek_p rfl k⟩
  | succ r ih =>
    intro j x hx hj
    subst hx
    refine ew_go (fun pc => Nat.beq pc 2) 40 ⟨fun c => ?_, fun c => ⟨fun e => ?_, fun e => ?_⟩⟩
    · have c : ei 8 ≤ ei j := c
      rw [ei_le (by decide) (by omega)] at c
      omega
    · have e : ei 8 ≤ ei j := e
      rw [ei_le (by decide) (by omega)] at e
      omega
    · refine ⟨ei_ix (n := 8) (by omega) (by decide), ⟨ei_ix (n := 8) (by omega) (by decide), trivial⟩, ?_⟩
      show ew_W (ew_Call d) 35 K (2, [some (ew_o 40 i), some (ew_o 40 i0), some (ew_i (ei j + 1))], [], ew_put (ew_hp (ef_cp s 593 i i0 j) m) 593 i (ei j).toNatClampNeg (ew_i (ef_cp s 593 i i0 j 593 (ei j).toNatClampNeg i0)))
      rw [ei_nat (by omega), ew_hp_put rfl, ef_cp_s]
      exact ih (j + 1) _ (ei_1 _) (by omega)
theorem xc_copyFrom40 (i i0 : Nat) (k : K (.inl none) (ew_hp (ew_u (ef_cp s 593 i i0 8) 40 1 i (s 40 1 i0)) m)) : ew_Call (d + 1) 35 [ew_o 40 i, ew_o 40 i0] (ew_hp s m) K := by
  refine ew_call (ew_go (fun pc => Nat.beq pc 2) 40 ?_)
  have := xl_copyFrom40 (d := d) i i0 k 8 0 0 rfl rfl
  rw [ef_cp_0] at this
  exact this
end
