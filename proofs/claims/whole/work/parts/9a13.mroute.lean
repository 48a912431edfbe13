/-! What is done: the model, routes. -/
section
variable {d : Nat} {K : ew_R → ew_H → Prop} {nb ns np T cc : Nat} {β σ : Nat → Nat} {ρ : Nat → Nat → Nat} {z : ew_Z3} {a s s' : ew_S} {m m' : ew_H}
theorem RR.addB (h : RR 0 0 nb ns np T β σ ρ z a s m) {b n c : Nat} (hb : b < nb) (en : a 8 1 b = ei n) (hn : n < 8) (hc : c < 15) (L : LR 98 (β b) (n + 1) (fun j => if j = n then ew_o 0 (c + 128) else ew_o 0 ((a 145 j b).toNatClampNeg + 128)) s' m') (E : Ex (Pl 98 (β b)) cc s m s' m') (G : GI m') : RR 0 0 nb ns np T β σ ρ z (ew_u (ew_u a 145 n b (ei c)) 8 1 b (ei (n + 1))) s' m' := by
  obtain ⟨F, I⟩ := iv_steer h.2.1 hb en hn hc
  have hs : rb b (β b) z a s m := h.1.2.2.2.2.1 b hb
  refine h.ub hb F I (E.mono (fun k p o _ w => ⟨w.1, by have := w.2; omega⟩) (Nat.le_refl _)) (hs.route E (fun p w => by have := w.2; omega) (fun p _ => rfl) ?_) G
  rw [ew_u_self, ei_nat (by omega)]
  refine L.cg (fun j hj => ?_)
  show ew_o 0 ((ew_u (ew_u a 145 n b (ei c)) 8 1 b (ei (n + 1)) 145 j b).toNatClampNeg + 128) = if j = n then ew_o 0 (c + 128) else ew_o 0 ((a 145 j b).toNatClampNeg + 128)
  rw [ew_u_ne _ _ (by omega)]
  by_cases e : j = n
  · rw [if_pos e, e, ew_u_self, ei_nat (by omega)]
  · rw [if_neg e, ew_u_ne _ _ (by omega)]
theorem RR.addS (h : RR 0 0 nb ns np T β σ ρ z a s m) {b n c : Nat} (hb : b < ns) (en : a 40 1 b = ei n) (hn : n < 8) (hc : c < 15) (L : LR 130 (σ b) (n + 1) (fun j => if j = n then ew_o 0 (c + 128) else ew_o 0 ((a 593 j b).toNatClampNeg + 128)) s' m') (E : Ex (Pl 130 (σ b)) cc s m s' m') (G : GI m') : RR 0 0 nb ns np T β σ ρ z (ew_u (ew_u a 593 n b (ei c)) 40 1 b (ei (n + 1))) s' m' := by
  obtain ⟨F, I⟩ := iv_sail h.2.1 hb en hn hc
  have hs : rs b (σ b) z a s m := h.1.2.2.2.2.2.1 b hb
  refine h.ship hb F I (E.mono (fun k p o _ w => ⟨w.1, by have := w.2; omega⟩) (Nat.le_refl _)) (hs.route E (fun p w => by have := w.2; omega) (fun p w => by have := w.2; omega) (fun p => rfl) (fun p => rfl) ?_) G
  rw [show ew_u (ew_u a 593 n b (ei c)) 40 1 b (ei (n + 1)) 40 1 b = ei (n + 1) from ew_u_self _ _ _ _ _, ei_nat (by omega)]
  refine L.cg (fun j hj => ?_)
  show ew_o 0 ((ew_u (ew_u a 593 n b (ei c)) 40 1 b (ei (n + 1)) 593 j b).toNatClampNeg + 128) = if j = n then ew_o 0 (c + 128) else ew_o 0 ((a 593 j b).toNatClampNeg + 128)
  rw [ew_u_ne _ _ (by omega)]
  by_cases e : j = n
  · rw [if_pos e, e, ew_u_self, ei_nat (by omega)]
  · rw [if_neg e, ew_u_ne _ _ (by omega)]
theorem xw_steer (h : RR 0 0 nb ns np T β σ ρ (fun _ _ _ => 0) a s m) (h16 : m.2.2.1 16 0 = true) (b x : Int32) (k : KT nb ns np T 1 s m K ef_tc (op_steer b x a)) : ew_Call (d + 6) 158 [ew_o 16 0, ew_i b, ew_i x] (ew_hp s m) K := by
  unfold op_steer at k
  have h5 := h.2.1.1
  have h2 := h.tw 0
  have hL := h.1.2.1
  rw [h.2.1.2.1.1] at k
  rcases ei_dec b nb (by omega) with ⟨c, hc, rfl⟩ | ⟨h1, -⟩
  · have hB : iN (ei c) (ei nb) = true := iN_t hc (by omega)
    rw [hB, Bool.true_and, ei_nat (by omega)] at k
    rcases ei_dec x 15 (by decide) with ⟨c2, hc2, rfl⟩ | ⟨h1, -⟩
    · have hC : iN (ei c2) 15 = true := iN_t hc2 (by decide)
      rw [hC, cond_true] at k
      obtain ⟨n, hn, en, -⟩ := (h.2.1.2.2.2.1 c hc).2
      have en : a 8 1 c = ei n := en
      have hs2 : rb c (β c) (fun _ _ _ => 0) a (ew_tw s 0) m := h2.1.2.2.2.2.1 c hc
      have hL2 := hs2.2.2.2.2
      rw [en, ei_nat (by omega)] at hL2 k
      by_cases w : ei n < 8
      · have h8 : n < 8 := (ei_lt (b := 8) (by omega) (by decide)).mp w
        rw [if_pos w, ei_1] at k
        have fin : ∀ (s1 : ew_S) (m1 : ew_H), LR 98 (β c) (n + 1) (fun j => if j = n then ew_o 0 (c2 + 128) else ew_o 0 ((a 145 j c).toNatClampNeg + 128)) s1 m1 → Ex (Pl 98 (β c)) 1 (ew_tw s 0) m s1 m1 → GI m1 → ew_W (ew_Call (d + 5)) 158 K (92, [some (ew_o 16 0), some (ew_i (ei c)), some (ew_i (ei c2))], [ew_i 1], ew_hp s1 m1) := fun s1 m1 L E G => by
          have R := h2.addB hc en h8 hc2 L E G
          have k := k _ _ _ _ _ R (((Ex.tw s m 0).pt (Nat.le_refl 0)).tr (E.pt (Nat.le_refl 1))) ((E.2.2.1 16 0 0 h16 (fun w => by have := w.2; omega)).1.trans (ew_u_self _ _ _ _ _))
          exact ew_go (fun _ => false) 40 (xm_get2 R.1.2.1 hc rfl rfl (xm_size98 L ⟨trivial, k⟩))
        have ne : ¬ ei n = 8 := fun z => by rw [z] at w; exact absurd w (by decide)
        exact ew_call (ew_go (fun pc => Nat.beq pc 92) 80 (xm_noBreaker hL (by omega) (fun z => absurd (z.symm.trans hB) (by decide)) (fun _ => ⟨fun z => absurd rfl z, fun _ => xm_noCell (fun z => absurd (z.symm.trans hC) (by decide)) (fun _ => ⟨fun _ => xm_start0 rfl ⟨fun z => absurd rfl z, fun _ => xm_get2 h2.1.2.1 hc rfl rfl (xm_size98 hL2 ⟨fun _ => xm_ref0 (ew_u_self _ _ _ _ _) rfl ⟨fun _ => xm_get2 h2.1.2.1 hc rfl rfl (xm_valueOf (x := 0) rfl (by omega) (xm_add98 hL2 h2.2.2.1 (by omega) (c2 + 128) fin)), fun z => absurd rfl z⟩, fun z => absurd (Classical.not_not.mp z) ne⟩)⟩, fun z => absurd rfl z⟩)⟩)))
      · have h8 : n = 8 := by
          have : ¬ n < 8 := fun q => w ((ei_lt (b := 8) (by omega) (by decide)).mpr q)
          omega
        rw [if_neg w] at k
        have eq8 : ei n = 8 := by rw [h8]; rfl
        exact ew_call (ew_go (fun _ => false) 80 (xm_noBreaker hL (by omega) (fun z => absurd (z.symm.trans hB) (by decide)) (fun _ => ⟨fun z => absurd rfl z, fun _ => xm_noCell (fun z => absurd (z.symm.trans hC) (by decide)) (fun _ => ⟨fun _ => xm_start0 rfl ⟨fun z => absurd rfl z, fun _ => xm_get2 h2.1.2.1 hc rfl rfl (xm_size98 hL2 ⟨fun z => absurd eq8 z, fun _ => xm_ref1 (ew_u_self _ _ _ _ _) (show ¬ (1 : Int32) = 0 by decide) (show ¬ (2 : Int32) ≤ 0 by decide) ⟨fun z => absurd z (show ¬ (1 : Int32) = 0 by decide), fun _ => ⟨trivial, k.no2 h⟩⟩⟩)⟩, fun z => absurd rfl z⟩)⟩)))
    · have hC : iN x 15 = false := iN_f h1
      rw [hC, cond_false] at k
      exact ew_call (ew_go (fun _ => false) 80 (xm_noBreaker hL (by omega) (fun z => absurd (z.symm.trans hB) (by decide)) (fun _ => ⟨fun z => absurd rfl z, fun _ => xm_noCell (fun _ => ⟨fun z => absurd z (show ¬ (1 : Int32) = 0 by decide), fun _ => xm_start1 (show ¬ (1 : Int32) = 0 by decide) (show ¬ (1 : Int32) ≤ 0 by decide) ⟨fun _ => ⟨trivial, k.no h⟩, fun z => absurd (show ¬ (1 : Int32) = 0 by decide) z⟩⟩) (fun z => absurd (hC.symm.trans z) (by decide))⟩)))
  · have hB : iN b (ei nb) = false := iN_f h1
    rw [hB, Bool.false_and, cond_false] at k
    exact ew_call (ew_go (fun _ => false) 80 (xm_noBreaker hL (by omega) (fun _ => ⟨fun _ => xm_start1 (show ¬ (1 : Int32) = 0 by decide) (show ¬ (1 : Int32) ≤ 0 by decide) ⟨fun _ => ⟨trivial, k.no h⟩, fun z => absurd (show ¬ (1 : Int32) = 0 by decide) z⟩, fun z => absurd (show ¬ (1 : Int32) = 0 by decide) z⟩) (fun z => absurd (hB.symm.trans z) (by decide))))
theorem xw_sail (h : RR 0 0 nb ns np T β σ ρ (fun _ _ _ => 0) a s m) (h16 : m.2.2.1 16 0 = true) (j x : Int32) (k : KT nb ns np T 1 s m K ef_tc (op_sail j x a)) : ew_Call (d + 6) 159 [ew_o 16 0, ew_i j, ew_i x] (ew_hp s m) K := by
  unfold op_sail at k
  have h5 := h.2.1.1
  have h2 := h.tw 0
  have hL := h.1.2.2.1
  rw [h.2.1.2.1.2.1] at k
  rcases ei_dec j ns (by omega) with ⟨c, hc, rfl⟩ | ⟨h1, -⟩
  · have hB : iN (ei c) (ei ns) = true := iN_t hc (by omega)
    rw [hB, Bool.true_and, ei_nat (by omega)] at k
    rcases ei_dec x 15 (by decide) with ⟨c2, hc2, rfl⟩ | ⟨h1, -⟩
    · have hC : iN (ei c2) 15 = true := iN_t hc2 (by decide)
      rw [hC, cond_true] at k
      obtain ⟨n, hn, en, -⟩ := (h.2.1.2.2.2.2.1 c hc).2.1
      have en : a 40 1 c = ei n := en
      have hs2 : rs c (σ c) (fun _ _ _ => 0) a (ew_tw s 0) m := h2.1.2.2.2.2.2.1 c hc
      have hL2 := hs2.2.2.2.2
      obtain ⟨-, -, f4, -⟩ := h2.sc hc
      rw [en, ei_nat (by omega)] at hL2 k
      by_cases w : ei n < 8
      · have h8 : n < 8 := (ei_lt (b := 8) (by omega) (by decide)).mp w
        have ne : ¬ ei n = 8 := fun z => by rw [z] at w; exact absurd w (by decide)
        by_cases w3 : a 10 7 c = 3
        · rw [if_neg (fun z => z.1 w3)] at k
          exact ew_call (ew_go (fun _ => false) 80 (xm_noShip hL (by omega) (fun z => absurd (z.symm.trans hB) (by decide)) (fun _ => ⟨fun z => absurd rfl z, fun _ => xm_noCell (fun z => absurd (z.symm.trans hC) (by decide)) (fun _ => ⟨fun _ => xm_start0 rfl ⟨fun z => absurd rfl z, fun _ => xm_get34 h2.1.2.2.1 hc rfl rfl (xm_size130 hL2 ⟨fun z => absurd z ne, fun _ => xm_get34 h2.1.2.2.1 hc rfl rfl ⟨fun z => absurd (f4.trans w3) z, fun _ => xm_ref1 (ew_u_self _ _ _ _ _) (show ¬ (1 : Int32) = 0 by decide) (show ¬ (2 : Int32) ≤ 0 by decide) ⟨fun z => absurd z (show ¬ (1 : Int32) = 0 by decide), fun _ => ⟨trivial, k.no2 h⟩⟩⟩⟩)⟩, fun z => absurd rfl z⟩)⟩)))
        · rw [if_pos ⟨w3, w⟩, ei_1] at k
          have fin : ∀ (s1 : ew_S) (m1 : ew_H), LR 130 (σ c) (n + 1) (fun j => if j = n then ew_o 0 (c2 + 128) else ew_o 0 ((a 593 j c).toNatClampNeg + 128)) s1 m1 → Ex (Pl 130 (σ c)) 1 (ew_tw s 0) m s1 m1 → GI m1 → ew_W (ew_Call (d + 5)) 159 K (113, [some (ew_o 16 0), some (ew_i (ei c)), some (ew_i (ei c2))], [ew_i 1], ew_hp s1 m1) := fun s1 m1 L E G => by
            have R := h2.addS hc en h8 hc2 L E G
            have k := k _ _ _ _ _ R (((Ex.tw s m 0).pt (Nat.le_refl 0)).tr (E.pt (Nat.le_refl 1))) ((E.2.2.1 16 0 0 h16 (fun w => by have := w.2; omega)).1.trans (ew_u_self _ _ _ _ _))
            exact ew_go (fun _ => false) 40 (xm_get34 R.1.2.2.1 hc rfl rfl (xm_size130 L ⟨trivial, k⟩))
          exact ew_call (ew_go (fun pc => Nat.beq pc 113) 80 (xm_noShip hL (by omega) (fun z => absurd (z.symm.trans hB) (by decide)) (fun _ => ⟨fun z => absurd rfl z, fun _ => xm_noCell (fun z => absurd (z.symm.trans hC) (by decide)) (fun _ => ⟨fun _ => xm_start0 rfl ⟨fun z => absurd rfl z, fun _ => xm_get34 h2.1.2.2.1 hc rfl rfl (xm_size130 hL2 ⟨fun z => absurd z ne, fun _ => xm_get34 h2.1.2.2.1 hc rfl rfl ⟨fun _ => xm_ref0 (ew_u_self _ _ _ _ _) rfl ⟨fun _ => xm_get34 h2.1.2.2.1 hc rfl rfl (xm_valueOf (x := 0) rfl (by omega) (xm_add130 hL2 h2.2.2.1 (by omega) (c2 + 128) fin)), fun z => absurd rfl z⟩, fun z => absurd (fun q => w3 (f4.symm.trans q)) z⟩⟩)⟩, fun z => absurd rfl z⟩)⟩)))
      · have h8 : n = 8 := by
          have : ¬ n < 8 := fun q => w ((ei_lt (b := 8) (by omega) (by decide)).mpr q)
          omega
        rw [if_neg (fun z => w z.2)] at k
        have eq8 : ei n = 8 := by rw [h8]; rfl
        exact ew_call (ew_go (fun _ => false) 80 (xm_noShip hL (by omega) (fun z => absurd (z.symm.trans hB) (by decide)) (fun _ => ⟨fun z => absurd rfl z, fun _ => xm_noCell (fun z => absurd (z.symm.trans hC) (by decide)) (fun _ => ⟨fun _ => xm_start0 rfl ⟨fun z => absurd rfl z, fun _ => xm_get34 h2.1.2.2.1 hc rfl rfl (xm_size130 hL2 ⟨fun _ => xm_ref1 (ew_u_self _ _ _ _ _) (show ¬ (1 : Int32) = 0 by decide) (show ¬ (2 : Int32) ≤ 0 by decide) ⟨fun z => absurd z (show ¬ (1 : Int32) = 0 by decide), fun _ => ⟨trivial, k.no2 h⟩⟩, fun z => absurd eq8 z⟩)⟩, fun z => absurd rfl z⟩)⟩)))
    · have hC : iN x 15 = false := iN_f h1
      rw [hC, cond_false] at k
      exact ew_call (ew_go (fun _ => false) 80 (xm_noShip hL (by omega) (fun z => absurd (z.symm.trans hB) (by decide)) (fun _ => ⟨fun z => absurd rfl z, fun _ => xm_noCell (fun _ => ⟨fun z => absurd z (show ¬ (1 : Int32) = 0 by decide), fun _ => xm_start1 (show ¬ (1 : Int32) = 0 by decide) (show ¬ (1 : Int32) ≤ 0 by decide) ⟨fun _ => ⟨trivial, k.no h⟩, fun z => absurd (show ¬ (1 : Int32) = 0 by decide) z⟩⟩) (fun z => absurd (hC.symm.trans z) (by decide))⟩)))
  · have hB : iN j (ei ns) = false := iN_f h1
    rw [hB, Bool.false_and, cond_false] at k
    exact ew_call (ew_go (fun _ => false) 80 (xm_noShip hL (by omega) (fun _ => ⟨fun _ => xm_start1 (show ¬ (1 : Int32) = 0 by decide) (show ¬ (1 : Int32) ≤ 0 by decide) ⟨fun _ => ⟨trivial, k.no h⟩, fun z => absurd (show ¬ (1 : Int32) = 0 by decide) z⟩, fun z => absurd (show ¬ (1 : Int32) = 0 by decide) z⟩) (fun z => absurd (hB.symm.trans z) (by decide))))
end
