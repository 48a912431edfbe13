/-! The class's hour. -/
section
variable {d : Nat} {s : ew_S} {m : ew_H} {K : ew_R → ew_H → Prop} {q nb ns np T : Nat}
theorem xc_cellAtE (q c : Nat) (hc : c < 15) {x : Int32} (hx : x = ei c) (k : K (.inl (some (ew_o 4 (c + 15 * q)))) (ew_hp s m)) : ew_Call (d + 1) 37 [ew_o 9 q, ew_i x] (ew_hp s m) K := by
  subst hx; exact xc_cellAt q c hc k
theorem xc_breakerAtE (q c n : Nat) (hn : s 9 3 q = ei n) (h8 : n ≤ 2) (hc : c < n) {x : Int32} (hx : x = ei c) (k : K (.inl (some (ew_o 3 (c + 2 * q)))) (ew_hp s m)) : ew_Call (d + 1) 38 [ew_o 9 q, ew_i x] (ew_hp s m) K := by
  subst hx; exact xc_breakerAt q c n hn h8 hc k
theorem xc_portAtE (c n : Nat) (hn : s 7 1 0 = ei n) (h8 : n ≤ 3) (hc : c < n) {x : Int32} (hx : x = ei c) (k : K (.inl (some (ew_o 6 c))) (ew_hp s m)) : ew_Call (d + 1) 26 [ew_o 7 0, ew_i x] (ew_hp s m) K := by
  subst hx; exact xc_portAt 0 c n hn h8 hc k
theorem xc_giveE (q : Nat) {i j c t : Nat} (hi : i = c + 15 * q) (hj : j = t + 15 * q) (k : K (.inl none) (ew_hp (sp_give (c + 15 * q) (t + 15 * q) s) m)) : ew_Call (d + 1) 8 [ew_o 4 i, ew_o 4 j] (ew_hp s m) K := by
  subst hi; subst hj; exact xc_giveTenthTo _ _ k
theorem xc_settleE (q : Nat) {i c : Nat} (hi : i = c + 15 * q) (k : K (.inl none) (ew_hp (sp_s1 (c + 15 * q) s) m)) : ew_Call (d + 1) 9 [ew_o 4 i] (ew_hp s m) K := by
  subst hi; exact xc_settleDrift _ k
theorem xc_first8E (i n : Nat) (hn : s 8 1 i = ei n) (h8 : n ≤ 8) (h0 : ¬ n = 0) {x : Int32} (hx : s 145 0 i = x) (k : K (.inl (some (ew_i x))) (ew_hp s m)) : ew_Call (d + 1) 32 [ew_o 8 i] (ew_hp s m) K :=
  xc_first8 i n hn h8 (by rw [if_neg h0, hx]; exact k)
theorem xc_first40E (i n : Nat) (hn : s 40 1 i = ei n) (h8 : n ≤ 8) (h0 : ¬ n = 0) {x : Int32} (hx : s 593 0 i = x) (k : K (.inl (some (ew_i x))) (ew_hp s m)) : ew_Call (d + 1) 32 [ew_o 40 i] (ew_hp s m) K :=
  xc_first40 i n hn h8 (by rw [if_neg h0, hx]; exact k)
theorem xl_drift1 (q : Nat) (w : Int32) (s : ew_S) (k : ∀ v, ew_W (ew_Call (d + 1)) 43 K (42, [some (ew_o 9 q), some (ew_i w), some (ew_i (ei 15)), v], [], ew_hp (sp_g q w s 15) m)) : ∀ (r j : Nat) (y : Int32) (v : Option ew_V), y = ei j → j + r = 15 →
    ew_W (ew_Call (d + 1)) 43 K (2, [some (ew_o 9 q), some (ew_i w), some (ew_i y), v], [], ew_hp (sp_g q w s j) m) := by
  intro r
  induction r with
  | zero =>
    intro j y v hy hj
    subst hy
    obtain rfl : j = 15 := by omega
    exact ew_go (fun pc => Nat.beq pc 2 || Nat.beq pc 42) 40 ⟨fun c => k v, fun c => absurd (show ei 15 ≤ ei 15 by decide) c⟩
  | succ r ih =>
    intro j y v hy hj
    subst hy
    refine ew_go (fun pc => Nat.beq pc 2 || Nat.beq pc 42) 60 ⟨fun c => ?_, fun c => xc_neighbour j (by omega) w ⟨fun e => ?_, fun e => ?_⟩⟩
    · have c : ei 15 ≤ ei j := c
      rw [ei_le (by decide) (by omega)] at c
      omega
    · have e : ef_nb j w = -1 := e
      have := ih (j + 1) (ei j + 1) (some (ew_i (ef_nb j w))) (ei_1 _) (by omega)
      rw [show sp_g q w s (j + 1) = sp_g q w s j from if_pos e] at this
      exact this
    · have e : ¬ ef_nb j w = -1 := e
      obtain ⟨t, ht, e2, -⟩ := (ef_nb_r (show j < 15 by omega) w).resolve_left e
      refine ⟨ei_ix (n := 15) (by omega) (by decide), ?_⟩
      have := ih (j + 1) (ei j + 1) (some (ew_i (ef_nb j w))) (ei_1 _) (by omega)
      have e3 : sp_g q w s (j + 1) = sp_give (j + 15 * q) (t + 15 * q) (sp_g q w s j) := by
        show sp_g1 q w j (sp_g q w s j) = _
        unfold sp_g1
        rw [if_neg e, e2, ei_nat (by omega)]
      rw [e3] at this
      exact xc_cellAtE q t ht e2 (xc_giveE q (c := j) (by show ew_wi 15 (ei j).toNatClampNeg + 15 * q = _; rw [ei_nat (by omega), ew_wi_lt (by omega)]) rfl this)
theorem xl_drift2 (q : Nat) (w : Int32) (s : ew_S) (v : Option ew_V) (k : K (.inl none) (ew_hp (sp_s q s 15) m)) : ∀ (r j : Nat) (y : Int32), y = ei j → j + r = 15 →
    ew_W (ew_Call (d + 1)) 43 K (44, [some (ew_o 9 q), some (ew_i w), some (ew_i y), v], [], ew_hp (sp_s q s j) m) := by
  intro r
  induction r with
  | zero =>
    intro j y hy hj
    subst hy
    obtain rfl : j = 15 := by omega
    exact ew_go (fun pc => Nat.beq pc 44) 40 ⟨fun c => ⟨trivial, k⟩, fun c => absurd (show ei 15 ≤ ei 15 by decide) c⟩
  | succ r ih =>
    intro j y hy hj
    subst hy
    refine ew_go (fun pc => Nat.beq pc 44) 60 ⟨fun c => ?_, fun c => ⟨ei_ix (n := 15) (by omega) (by decide), ?_⟩⟩
    · have c : ei 15 ≤ ei j := c
      rw [ei_le (by decide) (by omega)] at c
      omega
    · exact xc_settleE q (c := j) (by show ew_wi 15 (ei j).toNatClampNeg + 15 * q = _; rw [ei_nat (by omega), ew_wi_lt (by omega)]) (ih (j + 1) (ei j + 1) (ei_1 _) (by omega))
theorem xc_drift (q : Nat) (w : Int32) (k : K (.inl none) (ew_hp (sp_s q (sp_g q w s 15) 15) m)) : ew_Call (d + 2) 43 [ew_o 9 q, ew_i w] (ew_hp s m) K := by
  refine ew_call (ew_go (fun pc => Nat.beq pc 2) 40 (xl_drift1 q w s (fun v => ?_) 15 0 0 none rfl rfl))
  exact ew_go (fun pc => Nat.beq pc 44) 40 (xl_drift2 q w _ v k 15 0 0 rfl rfl)
end
