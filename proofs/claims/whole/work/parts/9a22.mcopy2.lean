/-! A sea's copy: its breakers and ships. -/
section
variable {d : Nat} {K : ew_R → ew_H → Prop} {nb ns np T : Nat} {β σ : Nat → Nat} {ρ : Nat → Nat → Nat} {z : ew_Z3} {a : ew_S}
theorem xl_cp2 {o t c0 : Nat} {s0 : ew_S} {m0 : ew_H} {Kp : ew_S → ew_H → Prop} (hk : ∀ (P : Nat → Nat → Nat → Prop) c s1 m1 s2 m2, Ex P c s1 m1 s2 m2 → (∀ k p i, P k p i → (i = o ∧ (k = 2 ∨ k = 20)) ∨ P1 k p i) → Kp s1 m1 → Kp s2 m2) (hx1 : m0.2.2.1 1 t = false) (hxo : m0.2.2.1 2 o = false ∧ m0.2.2.1 20 o = false) (ho : o ≠ 0)
    (k : ∀ (s' : ew_S) (m' : ew_H) (β' : Nat → Nat) (u : Option ew_V), RR 0 0 nb ns np T β σ ρ z a s' m' → Ex P0 (c0 + 5 * nb) s0 m0 s' m' → Kp s' m' → LR 2 o nb (fun b => ew_o 12 (β' b)) s' m' → (∀ b, b < nb → rbw b (β' b) a s' m' ∧ nB m0 (β' b)) → (∀ b b', b < nb → b' < nb → β' b = β' b' → b = b') → ew_W (ew_Call (d + 6)) 114 K (118, [some (ew_o 14 0), some (ew_o 14 o), some (ew_o 1 t), u], [], ew_hp s' m')) :
    ∀ (r b : Nat) (β' : Nat → Nat) (u : Option ew_V) (s1 : ew_S) (m1 : ew_H), b + r = nb → RR 0 0 nb ns np T β σ ρ z a s1 m1 → IT 2 0 t b s1 m1 → m1.2.2.1 1 t = true → Ex P0 (c0 + 5 * b) s0 m0 s1 m1 → Kp s1 m1 → LR 2 o b (fun b => ew_o 12 (β' b)) s1 m1 → (∀ b', b' < b → rbw b' (β' b') a s1 m1 ∧ nB m0 (β' b')) → (∀ b1 b2, b1 < b → b2 < b → β' b1 = β' b2 → b1 = b2) →
    ew_W (ew_Call (d + 6)) 114 K (84, [some (ew_o 14 0), some (ew_o 14 o), some (ew_o 1 t), u], [], ew_hp s1 m1) := by
  intro r
  induction r with
  | zero =>
    intro b β' u s1 m1 hb h hI hxt E HK HL HB HJ
    obtain rfl : b = nb := by omega
    have k := k s1 m1 β' u h E HK HL HB HJ
    exact ew_go (fun pc => Nat.beq pc 84 || Nat.beq pc 118) 40 (xm_hasNext2 h.1.2.1 hI (Nat.le_refl _) (fun _ => ⟨fun _ => k, fun c => absurd rfl c⟩) (fun z => absurd z (Nat.lt_irrefl _)))
  | succ r ih =>
    intro b β' u s1 m1 hb h hI hxt E HK HL HB HJ
    have hb2 : b < nb := by omega
    have h5 := h.2.1.1
    have e1 := Ex.it (s := s1) (m := m1) (t := t) (ei (b + 1)) (ei b)
    have h2 := h.ex1 e1 h.2.2.1
    have hI2 := hI.step (by decide)
    have E1 := E.it2 hx1 (ei (b + 1)) (ei b)
    have HK1 := hk _ _ _ _ _ _ e1 (fun k p i w => Or.inr w) HK
    have HL1 := HL.ex rfl e1 (fun p w => by unfold P1 at w; omega) (fun p w => by unfold P1 at w; omega)
    have HB1 : ∀ b', b' < b → rbw b' (β' b') a (ew_u (ew_u s1 1 0 t (ei (b + 1))) 1 1 t (ei b)) m1 := fun b' hb' => (HB b' hb').1.ex e1 (fun k p hk w => by unfold P1 at w; omega)
    have fin : ∀ s2 m2 o', RR 0 0 nb ns np T β σ ρ z a s2 m2 → Ex P0 4 (ew_u (ew_u s1 1 0 t (ei (b + 1))) 1 1 t (ei b)) m1 s2 m2 → nB m1 o' → rbw b o' a s2 m2 → ew_W (ew_Call (d + 6)) 114 K (111, [some (ew_o 14 0), some (ew_o 14 o), some (ew_o 1 t), some (ew_o 12 (β b))], [ew_o 12 o', ew_o 2 o], ew_hp s2 m2) := fun s2 m2 o' R2 Ec hn hw => by
      have E2 := E1
      have E3 := E1.tr Ec
      have HK2 := hk _ _ _ _ _ _ Ec (fun k p i w => w.elim) HK1
      have HL2 := HL1.ex rfl Ec (fun p w => w) (fun p w => w)
      have n0 : nB m0 o' := ⟨nx_le E2.2.1 hn.1, nx_le E2.2.1 hn.2.1, nx_le E2.2.1 hn.2.2⟩
      have HB2 : ∀ b', b' < b → rbw b' (β' b') a s2 m2 := fun b' hb' => (HB1 b' hb').ex Ec (fun k p hk w => w)
      have fin2 : ∀ s3 m3, LR 2 o (b + 1) (fun j => if j = b then ew_o 12 o' else ew_o 12 (β' j)) s3 m3 → Ex (Pl 2 o) 1 s2 m2 s3 m3 → GI m3 → ew_W (ew_Call (d + 6)) 114 K (114, [some (ew_o 14 0), some (ew_o 14 o), some (ew_o 1 t), some (ew_o 12 (β b))], [ew_i 1], ew_hp s3 m3) := fun s3 m3 L3 Ea G3 => by
        have E4 : Ex P0 (c0 + 5 * (b + 1)) s0 m0 s3 m3 := (E3.tr0 Ea (fun k p i q w => by
          obtain ⟨rfl, w2⟩ := w
          rcases w2 with rfl | rfl
          · rw [hxo.1] at q; cases q
          · have q : m0.2.2.1 20 i = true := q
            rw [hxo.2] at q; cases q)).le (by omega)
        have R3 : RR 0 0 nb ns np T β σ ρ z a s3 m3 := by
          obtain ⟨⟨r1, r2, r3, r4, r5, r6, r7, r8⟩, rI, -, rC⟩ := R2
          refine ⟨⟨r1.ex Ea (fun k p hk => Pl.no (by omega) (by omega)), ?_, ?_, r4.ex rfl Ea (fun p => Pl.no (by decide) (by decide)) (fun p => Pl.no (by decide) (by decide)), fun b hb => (r5 b hb).ex Ea (fun k p hk => Pl.no (by omega) (by omega)), fun j hj => (r6 j hj).ex Ea (fun k p hk => Pl.no (by omega) (by omega)), fun p hp => (r7 p hp).ex Ea (fun k r j hk => Pl.no (by omega) (by omega)), r8⟩, rI, G3, rC.ex Ea⟩
          · exact r2.ex rfl Ea (fun p w => by have := w.1; omega) (fun p w => by have := w.1; omega)
          · exact r3.ex rfl Ea (fun p w => by have := w.1; omega) (fun p w => by have := w.1; omega)
        have I3 : IT 2 0 t (b + 1) s3 m3 := ((hI2.ex (h2.1.2.1).1 hxt Ec (fun p w => w) (fun w => w))).ex (R2.1.2.1).1 (Ec.2.1 _ _ hxt) Ea (fun p w => by have := w.2; omega) (fun w => by have := w.1; omega)
        refine ew_go (fun pc => Nat.beq pc 84) 10 (ih (b + 1) (fun j => if j = b then o' else β' j) _ s3 m3 (by omega) R3 I3 (Ea.2.1 _ _ (Ec.2.1 _ _ hxt)) E4 (hk _ _ _ _ _ _ Ea (fun k p i w => Or.inl w) HK2) (L3.cg (fun j hj => ?_)) (fun b' hb' => ?_) (fun b1 b2 hb1 hb2 q => ?_))
        · show ew_o 12 (if j = b then o' else β' j) = if j = b then ew_o 12 o' else ew_o 12 (β' j)
          by_cases q : j = b
          · rw [if_pos q, if_pos q]
          · rw [if_neg q, if_neg q]
        · by_cases q : b' = b
          · rw [if_pos q, q]
            exact ⟨hw.ex Ea (fun k p hk => Pl.no (by omega) (by omega)), n0⟩
          · rw [if_neg q]
            exact ⟨(HB2 b' (by omega)).ex Ea (fun k p hk => Pl.no (by omega) (by omega)), (HB b' (by omega)).2⟩
        · have ex' : ∀ b', b' < b → β' b' ≠ o' := fun b' hb' q => by
            have q1 : m1.2.2.1 12 (β' b') = true := (HB1 b' hb').1
            rw [q, hn.1] at q1; cases q1
          by_cases q1 : b1 = b
          · by_cases q2 : b2 = b
            · rw [q1, q2]
            · rw [if_pos q1, if_neg q2] at q
              exact absurd q.symm (ex' b2 (by omega))
          · by_cases q2 : b2 = b
            · rw [if_neg q1, if_pos q2] at q
              exact absurd q (ex' b1 (by omega))
            · rw [if_neg q1, if_neg q2] at q
              exact HJ b1 b2 (by omega) (by omega) q
      exact ew_go (fun pc => Nat.beq pc 114) 40 (xm_add2 HL2 R2.2.2.1 (by omega) o' fin2)
    exact ew_go (fun pc => Nat.beq pc 111) 60 (xm_hasNext2 h.1.2.1 hI (by omega) (fun z => absurd z (by omega)) (fun _ => ⟨fun c => absurd c (show ¬ (1 : Int32) = 0 by decide), fun _ => xm_next2 h.1.2.1 hI hb2 rfl (xm_bcopy h2 hb2 fin)⟩))
theorem xl_cp34 {o t c0 : Nat} {s0 : ew_S} {m0 : ew_H} {Kp : ew_S → ew_H → Prop} (hk : ∀ (P : Nat → Nat → Nat → Prop) c s1 m1 s2 m2, Ex P c s1 m1 s2 m2 → (∀ k p i, P k p i → (i = o ∧ (k = 34 ∨ k = 52)) ∨ P1 k p i) → Kp s1 m1 → Kp s2 m2) (hx1 : m0.2.2.1 1 t = false) (hxo : m0.2.2.1 34 o = false ∧ m0.2.2.1 52 o = false) (ho : o ≠ 0)
    (k : ∀ (s' : ew_S) (m' : ew_H) (σ' : Nat → Nat) (u : Option ew_V), RR 0 0 nb ns np T β σ ρ z a s' m' → Ex P0 (c0 + 6 * ns) s0 m0 s' m' → Kp s' m' → LR 34 o ns (fun b => ew_o 15 (σ' b)) s' m' → (∀ b, b < ns → rsw b (σ' b) a s' m' ∧ nS m0 (σ' b)) → (∀ b b', b < ns → b' < ns → σ' b = σ' b' → b = b') → ew_W (ew_Call (d + 6)) 114 K (160, [some (ew_o 14 0), some (ew_o 14 o), some (ew_o 1 t), u], [], ew_hp s' m')) :
    ∀ (r b : Nat) (σ' : Nat → Nat) (u : Option ew_V) (s1 : ew_S) (m1 : ew_H), b + r = ns → RR 0 0 nb ns np T β σ ρ z a s1 m1 → IT 34 0 t b s1 m1 → m1.2.2.1 1 t = true → Ex P0 (c0 + 6 * b) s0 m0 s1 m1 → Kp s1 m1 → LR 34 o b (fun b => ew_o 15 (σ' b)) s1 m1 → (∀ b', b' < b → rsw b' (σ' b') a s1 m1 ∧ nS m0 (σ' b')) → (∀ b1 b2, b1 < b → b2 < b → σ' b1 = σ' b2 → b1 = b2) →
    ew_W (ew_Call (d + 6)) 114 K (126, [some (ew_o 14 0), some (ew_o 14 o), some (ew_o 1 t), u], [], ew_hp s1 m1) := by
  intro r
  induction r with
  | zero =>
    intro b σ' u s1 m1 hb h hI hxt E HK HL HB HJ
    obtain rfl : b = ns := by omega
    have k := k s1 m1 σ' u h E HK HL HB HJ
    exact ew_go (fun pc => Nat.beq pc 126 || Nat.beq pc 160) 40 (xm_hasNext34 h.1.2.2.1 hI (Nat.le_refl _) (fun _ => ⟨fun _ => k, fun c => absurd rfl c⟩) (fun z => absurd z (Nat.lt_irrefl _)))
  | succ r ih =>
    intro b σ' u s1 m1 hb h hI hxt E HK HL HB HJ
    have hb2 : b < ns := by omega
    have h5 := h.2.1.1
    have e1 := Ex.it (s := s1) (m := m1) (t := t) (ei (b + 1)) (ei b)
    have h2 := h.ex1 e1 h.2.2.1
    have hI2 := hI.step (by decide)
    have E1 := E.it2 hx1 (ei (b + 1)) (ei b)
    have HK1 := hk _ _ _ _ _ _ e1 (fun k p i w => Or.inr w) HK
    have HL1 := HL.ex rfl e1 (fun p w => by unfold P1 at w; omega) (fun p w => by unfold P1 at w; omega)
    have HB1 : ∀ b', b' < b → rsw b' (σ' b') a (ew_u (ew_u s1 1 0 t (ei (b + 1))) 1 1 t (ei b)) m1 := fun b' hb' => (HB b' hb').1.ex e1 (fun k p hk w => by unfold P1 at w; omega)
    have fin : ∀ s2 m2 o', RR 0 0 nb ns np T β σ ρ z a s2 m2 → Ex P0 5 (ew_u (ew_u s1 1 0 t (ei (b + 1))) 1 1 t (ei b)) m1 s2 m2 → nS m1 o' → rsw b o' a s2 m2 → ew_W (ew_Call (d + 6)) 114 K (153, [some (ew_o 14 0), some (ew_o 14 o), some (ew_o 1 t), some (ew_o 15 (σ b))], [ew_o 15 o', ew_o 34 o], ew_hp s2 m2) := fun s2 m2 o' R2 Ec hn hw => by
      have E2 := E1
      have E3 := E1.tr Ec
      have HK2 := hk _ _ _ _ _ _ Ec (fun k p i w => w.elim) HK1
      have HL2 := HL1.ex rfl Ec (fun p w => w) (fun p w => w)
      have n0 : nS m0 o' := ⟨nx_le E2.2.1 hn.1, nx_le E2.2.1 hn.2.1, nx_le E2.2.1 hn.2.2.1, nx_le E2.2.1 hn.2.2.2⟩
      have HB2 : ∀ b', b' < b → rsw b' (σ' b') a s2 m2 := fun b' hb' => (HB1 b' hb').ex Ec (fun k p hk w => w)
      have fin2 : ∀ s3 m3, LR 34 o (b + 1) (fun j => if j = b then ew_o 15 o' else ew_o 15 (σ' j)) s3 m3 → Ex (Pl 34 o) 1 s2 m2 s3 m3 → GI m3 → ew_W (ew_Call (d + 6)) 114 K (156, [some (ew_o 14 0), some (ew_o 14 o), some (ew_o 1 t), some (ew_o 15 (σ b))], [ew_i 1], ew_hp s3 m3) := fun s3 m3 L3 Ea G3 => by
        have E4 : Ex P0 (c0 + 6 * (b + 1)) s0 m0 s3 m3 := (E3.tr0 Ea (fun k p i q w => by
          obtain ⟨rfl, w2⟩ := w
          rcases w2 with rfl | rfl
          · rw [hxo.1] at q; cases q
          · have q : m0.2.2.1 52 i = true := q
            rw [hxo.2] at q; cases q)).le (by omega)
        have R3 : RR 0 0 nb ns np T β σ ρ z a s3 m3 := by
          obtain ⟨⟨r1, r2, r3, r4, r5, r6, r7, r8⟩, rI, -, rC⟩ := R2
          refine ⟨⟨r1.ex Ea (fun k p hk => Pl.no (by omega) (by omega)), ?_, ?_, r4.ex rfl Ea (fun p => Pl.no (by decide) (by decide)) (fun p => Pl.no (by decide) (by decide)), fun b hb => (r5 b hb).ex Ea (fun k p hk => Pl.no (by omega) (by omega)), fun j hj => (r6 j hj).ex Ea (fun k p hk => Pl.no (by omega) (by omega)), fun p hp => (r7 p hp).ex Ea (fun k r j hk => Pl.no (by omega) (by omega)), r8⟩, rI, G3, rC.ex Ea⟩
          · exact r2.ex rfl Ea (fun p w => by have := w.1; omega) (fun p w => by have := w.1; omega)
          · exact r3.ex rfl Ea (fun p w => by have := w.1; omega) (fun p w => by have := w.1; omega)
        have I3 : IT 34 0 t (b + 1) s3 m3 := ((hI2.ex (h2.1.2.2.1).1 hxt Ec (fun p w => w) (fun w => w))).ex (R2.1.2.2.1).1 (Ec.2.1 _ _ hxt) Ea (fun p w => by have := w.2; omega) (fun w => by have := w.1; omega)
        refine ew_go (fun pc => Nat.beq pc 126) 10 (ih (b + 1) (fun j => if j = b then o' else σ' j) _ s3 m3 (by omega) R3 I3 (Ea.2.1 _ _ (Ec.2.1 _ _ hxt)) E4 (hk _ _ _ _ _ _ Ea (fun k p i w => Or.inl w) HK2) (L3.cg (fun j hj => ?_)) (fun b' hb' => ?_) (fun b1 b2 hb1 hb2 q => ?_))
        · show ew_o 15 (if j = b then o' else σ' j) = if j = b then ew_o 15 o' else ew_o 15 (σ' j)
          by_cases q : j = b
          · rw [if_pos q, if_pos q]
          · rw [if_neg q, if_neg q]
        · by_cases q : b' = b
          · rw [if_pos q, q]
            exact ⟨hw.ex Ea (fun k p hk => Pl.no (by omega) (by omega)), n0⟩
          · rw [if_neg q]
            exact ⟨(HB2 b' (by omega)).ex Ea (fun k p hk => Pl.no (by omega) (by omega)), (HB b' (by omega)).2⟩
        · have ex' : ∀ b', b' < b → σ' b' ≠ o' := fun b' hb' q => by
            have q1 : m1.2.2.1 15 (σ' b') = true := (HB1 b' hb').1.1
            rw [q, hn.1] at q1; cases q1
          by_cases q1 : b1 = b
          · by_cases q2 : b2 = b
            · rw [q1, q2]
            · rw [if_pos q1, if_neg q2] at q
              exact absurd q.symm (ex' b2 (by omega))
          · by_cases q2 : b2 = b
            · rw [if_neg q1, if_pos q2] at q
              exact absurd q (ex' b1 (by omega))
            · rw [if_neg q1, if_neg q2] at q
              exact HJ b1 b2 (by omega) (by omega) q
      exact ew_go (fun pc => Nat.beq pc 156) 40 (xm_add34 HL2 R2.2.2.1 (by omega) o' fin2)
    exact ew_go (fun pc => Nat.beq pc 153) 60 (xm_hasNext34 h.1.2.2.1 hI (by omega) (fun z => absurd z (by omega)) (fun _ => ⟨fun c => absurd c (show ¬ (1 : Int32) = 0 by decide), fun _ => xm_next34 h.1.2.2.1 hI hb2 rfl (xm_scopy h2 hb2 fin)⟩))
end
