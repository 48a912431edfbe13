/-! The class's hour: all of it. -/
section
variable {d : Nat} {s : ew_S} {m : ew_H} {K : ew_R → ew_H → Prop} {q nb ns np T : Nat}
theorem xc_freezeE (q : Nat) (x : Int32) {i c : Nat} (hi : i = c + 15 * q) (k : K (.inl (some (ew_i (sp_fa x (c + 15 * q) s)))) (ew_hp (sp_fi x (c + 15 * q) s) m)) : ew_Call (d + 1) 10 [ew_o 4 i, ew_i x] (ew_hp s m) K := by
  subst hi; exact xc_freeze _ x k
theorem xc_closeE (q : Nat) {i c : Nat} (hi : i = c + 15 * q) (k : K (.inl none) (ew_hp (sp_cl (c + 15 * q) s) m)) : ew_Call (d + 1) 11 [ew_o 4 i] (ew_hp s m) K := by
  subst hi; exact xc_closeChannel _ k
theorem xl_pass1 (q : Nat) (x w : Int32) (s : ew_S) (k : ew_W (ew_Call (d + 4)) 42 K (64, [some (ew_o 9 q), some (ew_o 7 0), some (ew_i x), some (ew_i w), some (ew_i (ei 15)), none], [], ew_hp (sp_f q x s 15) m)) : ∀ (r j : Nat) (y : Int32), y = ei j → j + r = 15 →
    ew_W (ew_Call (d + 4)) 42 K (18, [some (ew_o 9 q), some (ew_o 7 0), some (ew_i x), some (ew_i w), some (ew_i y), none], [], ew_hp (sp_f q x s j) m) := by
  intro r
  induction r with
  | zero =>
    intro j y hy hj
    subst hy
    obtain rfl : j = 15 := by omega
    exact ew_go (fun pc => Nat.beq pc 18 || Nat.beq pc 64) 40 ⟨fun c => k, fun c => absurd (show ei 15 ≤ ei 15 by decide) c⟩
  | succ r ih =>
    intro j y hy hj
    subst hy
    have hi : ew_wi 15 (ei j).toNatClampNeg + 15 * q = j + 15 * q := by rw [ei_nat (by omega), ew_wi_lt (by omega)]
    refine ew_go (fun pc => Nat.beq pc 18 || Nat.beq pc 64 || Nat.beq pc 48) 60 ⟨fun c => ?_, fun c => ⟨ei_ix (n := 15) (by omega) (by decide), xc_freezeE q x (c := j) hi ⟨trivial, eq_1 rfl ?_⟩⟩⟩
    · have c : ei 15 ≤ ei j := c
      rw [ei_le (by decide) (by omega)] at c
      omega
    · exact ew_go (fun pc => Nat.beq pc 18) 60 ⟨ei_ix (n := 15) (by omega) (by decide), xc_closeE q (c := j) hi (ih (j + 1) (ei j + 1) (ei_1 _) (by omega))⟩
theorem xl_pass2 (q : Nat) (x w : Int32) (s : ew_S) (h : Iv q nb ns np T s) (k : ew_W (ew_Call (d + 4)) 42 K (92, [some (ew_o 9 q), some (ew_o 7 0), some (ew_i x), some (ew_i w), some (ew_i (ei nb)), none], [], ew_hp (sp_b q s nb) m)) : ∀ (r j : Nat) (y : Int32), y = ei j → j + r = nb →
    ew_W (ew_Call (d + 4)) 42 K (67, [some (ew_o 9 q), some (ew_o 7 0), some (ew_i x), some (ew_i w), some (ew_i y), none], [], ew_hp (sp_b q s j) m) := by
  have hnb := h.1
  intro r
  induction r with
  | zero =>
    intro j y hy hj
    subst hy
    obtain rfl : j = nb := by omega
    have I := (iv_bs h j (Nat.le_refl _)).2.1
    refine ew_go (fun pc => Nat.beq pc 67 || Nat.beq pc 92) 40 ⟨fun c => k, fun c => ?_⟩
    have c : ¬ sp_b q s j 9 3 q ≤ ei j := c
    rw [I.2.1.1, ei_le (by omega) (by omega)] at c
    omega
  | succ r ih =>
    intro j y hy hj
    subst hy
    have I := (iv_bs h j (by omega)).2.1
    refine ew_go (fun pc => Nat.beq pc 67 || Nat.beq pc 92) 60 ⟨fun c => ?_, fun c => xc_breakerAt q j nb I.2.1.1 (by omega) (by omega) (xc_moveBreaker _ (I.2.2.2.1 j (by omega)) (ih (j + 1) (ei j + 1) (ei_1 _) (by omega)))⟩
    have c : sp_b q s j 9 3 q ≤ ei j := c
    rw [I.2.1.1, ei_le (by omega) (by omega)] at c
    omega
theorem ef_ms01 (q j : Nat) (s : ew_S) : (sp_ms q j s).1 = 0 ∨ (sp_ms q j s).1 = 1 := by
  unfold sp_ms
  split
  · exact Or.inl rfl
  · unfold sp_ar sp_ap
    split
    · split
      · exact Or.inr rfl
      · exact Or.inl rfl
    · split
      · exact Or.inl rfl
      · exact Or.inl rfl
theorem xl_pass3 (q : Nat) (x w : Int32) (s : ew_S) (h : Iv q nb ns np T s) (k : K (.inl (some (ew_i (sp_m q s ns).1))) (ew_hp (sp_m q s ns).2 m)) : ∀ (r j : Nat) (y v : Int32), y = ei j → j + r = ns → v = (sp_m q s j).1 →
    ew_W (ew_Call (d + 4)) 42 K (98, [some (ew_o 9 q), some (ew_o 7 0), some (ew_i x), some (ew_i w), some (ew_i v), some (ew_i y)], [], ew_hp (sp_m q s j).2 m) := by
  have hnb := h.1
  intro r
  induction r with
  | zero =>
    intro j y v hy hj hv
    subst hy; subst hv
    obtain rfl : j = ns := by omega
    have I := (iv_m h j (Nat.le_refl _)).2
    refine ew_go (fun pc => Nat.beq pc 98) 40 ⟨fun c => ⟨trivial, k⟩, fun c => ?_⟩
    have c : ¬ (sp_m q s j).2 9 4 q ≤ ei j := c
    rw [I.2.1.2.1, ei_le (by omega) (by omega)] at c
    omega
  | succ r ih =>
    intro j y v hy hj hv
    subst hy; subst hv
    have I := (iv_m h j (by omega)).2
    refine ew_go (fun pc => Nat.beq pc 98) 60 ⟨fun c => ?_, fun c => xc_moveShip I (by omega) ⟨fun e => ?_, fun e => ?_⟩⟩
    · have c : (sp_m q s j).2 9 4 q ≤ ei j := c
      rw [I.2.1.2.1, ei_le (by omega) (by omega)] at c
      omega
    · have e : (sp_ms q j (sp_m q s j).2).1 = 0 := e
      refine ih (j + 1) _ _ (ei_1 _) (by omega) ?_
      show (sp_m q s j).1 + 0 = (sp_m q s j).1 + (sp_ms q j (sp_m q s j).2).1
      rw [e]
    · have e : ¬ (sp_ms q j (sp_m q s j).2).1 = 0 := e
      refine ih (j + 1) _ _ (ei_1 _) (by omega) ?_
      show (sp_m q s j).1 + 1 = (sp_m q s j).1 + (sp_ms q j (sp_m q s j).2).1
      rw [(ef_ms01 q j (sp_m q s j).2).resolve_left e]
theorem xc_passHour (h : Iv q nb ns np T s) (hT : T ≤ 100000000) (x w : Int32) (hx : 0 ≤ x ∧ x ≤ 9) (k : K (.inl (some (ew_i (sp_h q x w s).1))) (ew_hp (sp_h q x w s).2 m)) : ew_Call (d + 5) 42 [ew_o 9 q, ew_o 7 0, ew_i x, ew_i w] (ew_hp s m) K := by
  have hnb := h.1
  have I1 := (iv_ck h hT x w hx).2.1
  have I2 := (iv_bs I1 nb (Nat.le_refl _)).2.1
  unfold sp_h sp_h1 at k
  rw [h.2.1.1, h.2.1.2.1, ei_nat (by omega), ei_nat (by omega)] at k
  refine ew_call (ew_go (fun pc => Nat.beq pc 18) 60 ⟨trivial, ec_1 rfl (xc_drift q w ?_)⟩)
  refine xl_pass1 q x w _ ?_ 15 0 0 rfl rfl
  refine ew_go (fun pc => Nat.beq pc 67) 40 ?_
  refine xl_pass2 q x w _ I1 ?_ nb 0 0 rfl (by omega)
  refine ew_go (fun pc => Nat.beq pc 98) 40 ?_
  exact xl_pass3 q x w _ I2 k ns 0 0 0 rfl (by omega) rfl
end
