/-! The model: what it throws, what it refuses. -/
theorem ew_u_u (s : ew_S) (k p i : Nat) (x y : Int32) : ew_u (ew_u s k p i x) k p i y = ew_u s k p i y := by
  funext k' p' i'
  by_cases e : k' = k ∧ p' = p ∧ i' = i
  · obtain ⟨rfl, rfl, rfl⟩ := e
    rw [ew_u_self, ew_u_self]
  · rw [ew_u_ne _ _ e, ew_u_ne _ _ e, ew_u_ne _ _ e]
abbrev ew_tw (s : ew_S) (x : Int32) : ew_S := ew_u s 16 0 0 x
theorem ef_in_iN (x : Int32) {n : Nat} (hn : n ≤ 100) : (iN x (ei n) = true ∧ ef_in x 0 (ei n - 1) = 1) ∨ (iN x (ei n) = false ∧ ef_in x 0 (ei n - 1) = 0) := by
  rcases ei_dec x n (by omega) with ⟨c, hc, rfl⟩ | ⟨h1, -⟩
  · refine Or.inl ⟨iN_t hc (by omega), ?_⟩
    obtain ⟨k, rfl⟩ : ∃ k, n = k + 1 := ⟨n - 1, by omega⟩
    unfold ef_in
    rw [← ei_1, Int32.add_sub_cancel]
    exact if_pos ⟨(ei_le (a := 0) (by decide) (by omega)).mpr (Nat.zero_le _), (ei_le (by omega) (by omega)).mpr (by omega)⟩
  · refine Or.inr ⟨iN_f h1, ?_⟩
    unfold ef_in
    refine if_neg (fun w => ?_)
    rcases h1 with h1 | h1
    · exact Int32.not_le.mpr h1 w.1
    · cases n with
      | zero => exact absurd (Int32.le_trans w.1 w.2) (by decide)
      | succ k =>
        rw [← ei_1, Int32.add_sub_cancel] at w
        have := Int32.le_trans h1 w.2
        rw [ei_le (by omega) (by omega)] at this
        omega
section
variable {d : Nat} {K : ew_R → ew_H → Prop} {s : ew_S} {m : ew_H}
theorem xm_ref0 (h : s 16 0 0 = 0) {x w : Int32} (hx : x = 0) (k : K (.inl (some (ew_i 0))) (ew_hp s m)) : ew_Call (d + 1) 141 [ew_o 16 0, ew_i x, ew_i w] (ew_hp s m) K :=
  ew_call (ew_go (fun _ => false) 40 ⟨fun _ => ⟨fun _ => ⟨Or.inl rfl, k⟩, fun z => absurd (show s 16 0 0 ≤ 0 by rw [h]; decide) z⟩, fun z => absurd hx z⟩)
theorem xm_ref1 (h : s 16 0 0 = 0) {x w : Int32} (hx : ¬ x = 0) (hw : ¬ w ≤ 0) (k : K (.inl (some (ew_i 1))) (ew_hp (ew_tw s w) m)) : ew_Call (d + 1) 141 [ew_o 16 0, ew_i x, ew_i w] (ew_hp s m) K :=
  ew_call (ew_go (fun _ => false) 40 ⟨fun z => absurd z hx, fun _ => ⟨fun z => absurd h z, fun _ => ⟨trivial, fun z => absurd z hw, fun _ => ⟨Or.inr rfl, ek_p rfl k⟩⟩⟩⟩)
theorem xm_start0 {x w : Int32} (hx : x = 0) (k : K (.inl (some (ew_i 0))) (ew_hp (ew_tw s 0) m)) : ew_Call (d + 2) 142 [ew_o 16 0, ew_i x, ew_i w] (ew_hp s m) K :=
  ew_call (ew_go (fun _ => false) 40 ⟨trivial, ec_1 rfl (xm_ref0 (s := ew_tw s 0) (ew_u_self _ _ _ _ _) hx ⟨Or.inl rfl, k⟩)⟩)
theorem xm_start1 {x w : Int32} (hx : ¬ x = 0) (hw : ¬ w ≤ 0) (k : K (.inl (some (ew_i 1))) (ew_hp (ew_tw s w) m)) : ew_Call (d + 2) 142 [ew_o 16 0, ew_i x, ew_i w] (ew_hp s m) K := by
  rw [show ew_tw s w = ew_tw (ew_tw s 0) w from (ew_u_u s 16 0 0 0 w).symm] at k
  exact ew_call (ew_go (fun _ => false) 40 ⟨trivial, ec_1 rfl (xm_ref1 (s := ew_tw s 0) (ew_u_self _ _ _ _ _) hx hw ⟨Or.inr rfl, k⟩)⟩)
theorem xm_noCell {x : Int32} (k1 : iN x 15 = false → K (.inl (some (ew_i 1))) (ew_hp s m)) (k0 : iN x 15 = true → K (.inl (some (ew_i 0))) (ew_hp s m)) : ew_Call (d + 2) 143 [ew_i x] (ew_hp s m) K := by
  rcases ef_in_iN x (n := 15) (by decide) with ⟨h1, h2⟩ | ⟨h1, h2⟩
  · have h2 : ef_in x 0 14 = 1 := h2
    exact ew_call (ew_go (fun _ => false) 40 (xm_isIn _ _ _ ⟨fun _ => ⟨Or.inl rfl, k0 h1⟩, fun z => absurd (show ¬ _ = (0 : Int32) by rw [h2]; decide) z⟩))
  · have h2 : ef_in x 0 14 = 0 := h2
    exact ew_call (ew_go (fun _ => false) 40 (xm_isIn _ _ _ ⟨fun z => absurd h2 z, fun _ => ⟨Or.inr rfl, k1 h1⟩⟩))
theorem xm_noPort {n : Nat} {es : Nat → ew_V} (hL : LR 66 0 n es s m) (hn : n ≤ 3) {x : Int32} (k1 : iN x (ei n) = false → K (.inl (some (ew_i 1))) (ew_hp s m)) (k0 : iN x (ei n) = true → K (.inl (some (ew_i 0))) (ew_hp s m)) : ew_Call (d + 2) 144 [ew_o 16 0, ew_i x] (ew_hp s m) K := by
  rcases ef_in_iN x (n := n) (by omega) with ⟨h1, h2⟩ | ⟨h1, h2⟩
  · exact ew_call (ew_go (fun _ => false) 40 (xm_size66 hL (xm_isIn _ _ _ ⟨fun _ => ⟨Or.inl rfl, k0 h1⟩, fun z => absurd (show ¬ _ = (0 : Int32) by rw [h2]; decide) z⟩)))
  · exact ew_call (ew_go (fun _ => false) 40 (xm_size66 hL (xm_isIn _ _ _ ⟨fun z => absurd h2 z, fun _ => ⟨Or.inr rfl, k1 h1⟩⟩)))
theorem xm_noShip {n : Nat} {es : Nat → ew_V} (hL : LR 34 0 n es s m) (hn : n ≤ 5) {x : Int32} (k1 : iN x (ei n) = false → K (.inl (some (ew_i 1))) (ew_hp s m)) (k0 : iN x (ei n) = true → K (.inl (some (ew_i 0))) (ew_hp s m)) : ew_Call (d + 2) 145 [ew_o 16 0, ew_i x] (ew_hp s m) K := by
  rcases ef_in_iN x (n := n) (by omega) with ⟨h1, h2⟩ | ⟨h1, h2⟩
  · exact ew_call (ew_go (fun _ => false) 40 (xm_size34 hL (xm_isIn _ _ _ ⟨fun _ => ⟨Or.inl rfl, k0 h1⟩, fun z => absurd (show ¬ _ = (0 : Int32) by rw [h2]; decide) z⟩)))
  · exact ew_call (ew_go (fun _ => false) 40 (xm_size34 hL (xm_isIn _ _ _ ⟨fun z => absurd h2 z, fun _ => ⟨Or.inr rfl, k1 h1⟩⟩)))
theorem xm_noBreaker {n : Nat} {es : Nat → ew_V} (hL : LR 2 0 n es s m) (hn : n ≤ 2) {x : Int32} (k1 : iN x (ei n) = false → K (.inl (some (ew_i 1))) (ew_hp s m)) (k0 : iN x (ei n) = true → K (.inl (some (ew_i 0))) (ew_hp s m)) : ew_Call (d + 2) 146 [ew_o 16 0, ew_i x] (ew_hp s m) K := by
  rcases ef_in_iN x (n := n) (by omega) with ⟨h1, h2⟩ | ⟨h1, h2⟩
  · exact ew_call (ew_go (fun _ => false) 40 (xm_size2 hL (xm_isIn _ _ _ ⟨fun _ => ⟨Or.inl rfl, k0 h1⟩, fun z => absurd (show ¬ _ = (0 : Int32) by rw [h2]; decide) z⟩)))
  · exact ew_call (ew_go (fun _ => false) 40 (xm_size2 hL (xm_isIn _ _ _ ⟨fun z => absurd h2 z, fun _ => ⟨Or.inr rfl, k1 h1⟩⟩)))
theorem xm_isInT {x l u : Int32} (h : l ≤ x ∧ x ≤ u) (k : K (.inl (some (ew_i 1))) (ew_hp s m)) : ew_Call (d + 1) 136 [ew_i x, ew_i l, ew_i u] (ew_hp s m) K := by
  refine xm_isIn x l u ?_
  rw [show ef_in x l u = 1 from if_pos h]
  exact k
theorem xm_isInF {x l u : Int32} (h : ¬ (l ≤ x ∧ x ≤ u)) (k : K (.inl (some (ew_i 0))) (ew_hp s m)) : ew_Call (d + 1) 136 [ew_i x, ew_i l, ew_i u] (ew_hp s m) K := by
  refine xm_isIn x l u ?_
  rw [show ef_in x l u = 0 from if_neg h]
  exact k
theorem xm_noWeather {x w n : Int32} (k1 : ¬ op_args n x w → K (.inl (some (ew_i 1))) (ew_hp s m)) (k0 : op_args n x w → K (.inl (some (ew_i 0))) (ew_hp s m)) : ew_Call (d + 2) 147 [ew_i x, ew_i w, ew_i n] (ew_hp s m) K := by
  by_cases h1 : 0 ≤ x ∧ x ≤ 9
  · by_cases h2 : -1 ≤ w ∧ w ≤ 3
    · by_cases h3 : 1 ≤ n ∧ n ≤ 24
      · exact ew_call (ew_go (fun _ => false) 40 (xm_isInT h1 ⟨fun z => absurd z (show ¬ (1 : Int32) = 0 by decide), fun _ => xm_isInT h2 ⟨fun z => absurd z (show ¬ (1 : Int32) = 0 by decide), fun _ => xm_isInT h3 ⟨fun _ => ⟨Or.inl rfl, k0 ⟨h3, h1, h2⟩⟩, fun z => absurd (show ¬ (1 : Int32) = 0 by decide) z⟩⟩⟩))
      · exact ew_call (ew_go (fun _ => false) 40 (xm_isInT h1 ⟨fun z => absurd z (show ¬ (1 : Int32) = 0 by decide), fun _ => xm_isInT h2 ⟨fun z => absurd z (show ¬ (1 : Int32) = 0 by decide), fun _ => xm_isInF h3 ⟨fun z => absurd rfl z, fun _ => ⟨Or.inr rfl, k1 (fun w => h3 w.1)⟩⟩⟩⟩))
    · exact ew_call (ew_go (fun _ => false) 40 (xm_isInT h1 ⟨fun z => absurd z (show ¬ (1 : Int32) = 0 by decide), fun _ => xm_isInF h2 ⟨fun _ => ⟨Or.inr rfl, k1 (fun w => h2 w.2.2)⟩, fun z => absurd rfl z⟩⟩))
  · exact ew_call (ew_go (fun _ => false) 40 (xm_isInF h1 ⟨fun _ => ⟨Or.inr rfl, k1 (fun w => h1 w.2.1)⟩, fun z => absurd rfl z⟩))
end
