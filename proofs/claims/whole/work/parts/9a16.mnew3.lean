/-! A new breaker, ship, port, rule: the relation. -/
section
variable {c nb ns np T : Nat} {β σ : Nat → Nat} {ρ : Nat → Nat → Nat} {a s s2 : ew_S} {m m2 : ew_H}
theorem Pl.no {k i k' p o : Nat} (h : k' ≠ k) (h2 : k' ≠ k + 18) : ¬ Pl k i k' p o := fun w => by have := w.2; omega
theorem RR.newB (h : RR 0 0 nb ns np T β σ ρ (fun _ _ _ => 0) a s m) (u : Un nb ns np a) (h2 : nb < 2) {o t : Nat} (ho : m.2.2.2.1 12 = o) (ht : t < 15) (f : Int32) (L : LR 2 0 (nb + 1) (fun j => if j = nb then ew_o 12 o else ew_o 12 (β j)) s2 m2) (e : Ex (Pl 2 0) c (sBrk o (ei t) f s) (mBrk o m) s2 m2) (G : GI m2) :
    RR 0 0 (nb + 1) ns np T (fun b => if b = nb then o else β b) σ ρ (fun _ _ _ => 0) (ew_u (ew_u (ew_u a 9 3 0 (a 9 3 0 + 1)) 3 1 nb (ei t)) 3 2 nb f) s2 m2 := by
  have e0 := ex_Brk (x := ei t) (f := f) (s := s) h.2.2.1 ho
  have G1 := gi_Brk h.2.2.1 ho
  obtain ⟨n12, -⟩ := nx_Brk h.2.2.1 ho
  obtain ⟨f12, -⟩ := fl_Brk o m
  have R1 := h.ex1 e0.p1 G1
  obtain ⟨u1, u2⟩ := u.1 nb (Nat.le_refl _) h2
  have u1 : a 3 3 nb = 0 := u1
  have u2 : a 8 1 nb = 0 := u2
  obtain ⟨h1, h2', h3, h4, h5, h6, h7, h8, h9⟩ := R1.1
  have nb' : ∀ b, b < nb → β b ≠ o := fun b hb q => by
    have := (h.1.2.2.2.2.1 b hb).1
    rw [q, n12] at this; cases this
  have F : Fr (fun k p i => (k = 9 ∧ p = 3) ∨ (k = 3 ∧ i = nb)) a (ew_u (ew_u (ew_u a 9 3 0 (a 9 3 0 + 1)) 3 1 nb (ei t)) 3 2 nb f) := (((Fr.rf _ _).u _ (Or.inl ⟨rfl, rfl⟩)).u _ (Or.inr ⟨rfl, rfl⟩)).u _ (Or.inr ⟨rfl, rfl⟩)
  have nf : ∀ {k p i : Nat}, k ≠ 9 → k ≠ 3 → ew_u (ew_u (ew_u a 9 3 0 (a 9 3 0 + 1)) 3 1 nb (ei t)) 3 2 nb f k p i = a k p i := fun q1 q2 => F _ _ _ (fun w => by omega)
  refine ⟨⟨(h1.ex e (fun k p hk => Pl.no (by omega) (by omega))).cg (F _ _ _ (fun w => by omega)) (F _ _ _ (fun w => by omega)) (fun p i _ => nf (by decide) (by decide)), L.cg (fun j hj => ?_), h3.ex rfl e (fun p => Pl.no (by decide) (by decide)) (fun p => Pl.no (by decide) (by decide)), h4.ex rfl e (fun p => Pl.no (by decide) (by decide)) (fun p => Pl.no (by decide) (by decide)), fun b hb => ?_, fun j hj => ((h6 j hj).ex e (fun k p hk => Pl.no (by omega) (by omega))).cg (fun p => nf (by decide) (by decide)) (nf (by decide) (by decide)) (fun p => nf (by decide) (by decide)) (fun p => nf (by decide) (by decide)), fun p hp => ((h7 p hp).ex e (fun k r j hk => Pl.no (by omega) (by omega))).cg (fun r => nf (by decide) (by decide)) (fun r => nf (by decide) (by decide)) (fun r => nf (by decide) (by decide)) (fun r => nf (by decide) (by decide)), fun b b' hb hb' q => ?_, h9⟩, iv_breaker h.2.1 u h2 ht f, G, R1.2.2.2.ex e⟩
  · show ew_o 12 (if j = nb then o else β j) = if j = nb then ew_o 12 o else ew_o 12 (β j)
    by_cases q : j = nb
    · rw [if_pos q, if_pos q]
    · rw [if_neg q, if_neg q]
  · by_cases q : b = nb
    · have z0 : ∀ p, p < 3 → sBrk o (ei t) f s 12 p o = if p = 0 then ei t else if p = 1 then f else 0 := fun p hp => by
        have hp : p = 0 ∨ p = 1 ∨ p = 2 := by omega
        unfold sBrk
        rcases hp with rfl | rfl | rfl
        · rw [ew_u_ne _ _ (by omega), ew_u_self]; rfl
        · rw [ew_u_self]; rfl
        · rw [ew_u_ne _ _ (by omega), ew_u_ne _ _ (by omega), ew_u_ne _ _ (by omega), ef_z_ne _ _ (by omega), ef_z_self]; rfl
      have r0 : rb (nb + 2 * 0) o (fun _ _ _ => 0) (ew_u (ew_u (ew_u a 9 3 0 (a 9 3 0 + 1)) 3 1 nb (ei t)) 3 2 nb f) (sBrk o (ei t) f s) (mBrk o m) := by
        refine ⟨f12, ?_, ?_, ?_, ?_⟩
        · rw [z0 0 (by decide)]
          show ei t = ew_u (ew_u (ew_u a 9 3 0 (a 9 3 0 + 1)) 3 1 nb (ei t)) 3 2 nb f 3 1 nb
          rw [ew_u_ne _ _ (by omega), ew_u_self]
        · rw [z0 1 (by decide)]
          exact (ew_u_self _ _ _ _ _).symm
        · rw [z0 2 (by decide)]
          show (0 : Int32) + 0 = ew_u (ew_u (ew_u a 9 3 0 (a 9 3 0 + 1)) 3 1 nb (ei t)) 3 2 nb f 3 3 nb
          rw [ew_u_ne _ _ (by omega), ew_u_ne _ _ (by omega), ew_u_ne _ _ (by omega), u1]; rfl
        · rw [show (ew_u (ew_u (ew_u a 9 3 0 (a 9 3 0 + 1)) 3 1 nb (ei t)) 3 2 nb f 8 1 (nb + 2 * 0)) = 0 from u2]
          exact lr_Brk98 _ _ h.2.2.1 ho _
      dsimp only
      rw [q, if_pos rfl]
      exact r0.ex e (fun k p hk => Pl.no (by omega) (by omega))
    · dsimp only
      rw [if_neg q]
      exact ((h5 b (by omega)).ex e (fun k p hk => Pl.no (by omega) (by omega))).cg (fun p => F _ _ _ (fun w => by omega)) (nf (by decide) (by decide)) (fun p => nf (by decide) (by decide))
  · dsimp only at q
    by_cases q1 : b = nb
    · by_cases q2 : b' = nb
      · rw [q1, q2]
      · rw [if_pos q1, if_neg q2] at q
        exact absurd q.symm (nb' b' (by omega))
    · by_cases q2 : b' = nb
      · rw [if_neg q1, if_pos q2] at q
        exact absurd q (nb' b (by omega))
      · rw [if_neg q1, if_neg q2] at q
        exact h8 b b' (by omega) (by omega) q
theorem sShp_at (o : Nat) (x r w q : Int32) (s : ew_S) : (sShp o x r w q s 15 0 o = x ∧ sShp o x r w q s 15 1 o = r ∧ sShp o x r w q s 15 2 o = w ∧ sShp o x r w q s 15 3 o = q ∧ sShp o x r w q s 15 4 o = 0 ∧ sShp o x r w q s 15 5 o = -1 ∧ sShp o x r w q s 15 8 o = -1 ∧ sShp o x r w q s 15 6 o = 0 ∧ sShp o x r w q s 15 7 o = 0) ∧ ∀ j, sShp o x r w q s 369 j o = 0 := by
  unfold sShp
  refine ⟨⟨?_, ?_, ?_, ?_, ?_, ?_, ?_, ?_, ?_⟩, fun j => ?_⟩
  · rw [ew_u_ne _ _ (by omega), ew_u_ne _ _ (by omega), ew_u_ne _ _ (by omega), ew_u_self]
  · rw [ew_u_ne _ _ (by omega), ew_u_ne _ _ (by omega), ew_u_self]
  · rw [ew_u_ne _ _ (by omega), ew_u_self]
  · rw [ew_u_self]
  · rw [ew_u_ne _ _ (by omega), ew_u_ne _ _ (by omega), ew_u_ne _ _ (by omega), ew_u_ne _ _ (by omega), ew_u_ne _ _ (by omega), ef_z_ne _ _ (by omega), ef_z_ne _ _ (by omega), ew_u_ne _ _ (by omega), ew_u_ne _ _ (by omega), ew_u_self]
  · rw [ew_u_ne _ _ (by omega), ew_u_ne _ _ (by omega), ew_u_ne _ _ (by omega), ew_u_ne _ _ (by omega), ew_u_ne _ _ (by omega), ef_z_ne _ _ (by omega), ef_z_ne _ _ (by omega), ew_u_ne _ _ (by omega), ew_u_self]
  · rw [ew_u_ne _ _ (by omega), ew_u_ne _ _ (by omega), ew_u_ne _ _ (by omega), ew_u_ne _ _ (by omega), ew_u_ne _ _ (by omega), ef_z_ne _ _ (by omega), ef_z_ne _ _ (by omega), ew_u_self]
  · rw [ew_u_ne _ _ (by omega), ew_u_ne _ _ (by omega), ew_u_ne _ _ (by omega), ew_u_ne _ _ (by omega), ew_u_ne _ _ (by omega), ef_z_ne _ _ (by omega), ef_z_ne _ _ (by omega), ew_u_ne _ _ (by omega), ew_u_ne _ _ (by omega), ew_u_ne _ _ (by omega), ef_z_self]
  · rw [ew_u_ne _ _ (by omega), ew_u_ne _ _ (by omega), ew_u_ne _ _ (by omega), ew_u_ne _ _ (by omega), ew_u_ne _ _ (by omega), ef_z_ne _ _ (by omega), ef_z_ne _ _ (by omega), ew_u_ne _ _ (by omega), ew_u_ne _ _ (by omega), ew_u_ne _ _ (by omega), ef_z_self]
  · rw [ew_u_ne _ _ (by omega), ew_u_ne _ _ (by omega), ew_u_ne _ _ (by omega), ew_u_ne _ _ (by omega), ew_u_ne _ _ (by omega), ef_z_ne _ _ (by omega), ef_z_self]
theorem RR.newS (h : RR 0 0 nb ns np T β σ ρ (fun _ _ _ => 0) a s m) (u : Un nb ns np a) (h5' : ns < 5) {o t r p : Nat} (ho : m.2.2.2.1 15 = o) (ht : t < 15) (hr : r ≤ 4) (hp' : p < np) (w : Int32) (L : LR 34 0 (ns + 1) (fun j => if j = ns then ew_o 15 o else ew_o 15 (σ j)) s2 m2) (e : Ex (Pl 34 0) c (sShp o (ei t) (ei r) w (ei p) s) (mShp o m) s2 m2) (G : GI m2) :
    RR 0 0 nb (ns + 1) np T β (fun j => if j = ns then o else σ j) ρ (fun _ _ _ => 0) (sp_ns t r p w (ei (ns + 1)) ns a) s2 m2 := by
  have e0 := ex_Shp (x := ei t) (r := ei r) (w := w) (q := ei p) (s := s) h.2.2.1 ho
  have G1 := gi_Shp h.2.2.1 ho
  obtain ⟨n15, -⟩ := nx_Shp h.2.2.1 ho
  obtain ⟨f15, f369, -⟩ := fl_Shp o m
  have R1 := h.ex1 e0.p1 G1
  obtain ⟨⟨u7, u8, u9, u10, u11⟩, u40, u177⟩ := u.2.1 ns (Nat.le_refl _) h5'
  obtain ⟨h1, h2', h3, h4, h5, h6, h7, h8, h9⟩ := R1.1
  have ns' : ∀ b, b < ns → σ b ≠ o := fun b hb q => by
    have := (h.1.2.2.2.2.2.1 b hb).1.1
    rw [q, n15] at this; cases this
  have F := sp_ns_F t r p w (ei (ns + 1)) ns a
  obtain ⟨g1, g2, g3, g4, g5, g6⟩ := sp_ns_at t r p w (ei (ns + 1)) ns a
  have nf : ∀ {k q i : Nat}, k ≠ 9 → k ≠ 10 → sp_ns t r p w (ei (ns + 1)) ns a k q i = a k q i := fun q1 q2 => F _ _ _ (fun w => by omega)
  refine ⟨⟨(h1.ex e (fun k p hk => Pl.no (by omega) (by omega))).cg (F _ _ _ (fun w => by omega)) (F _ _ _ (fun w => by omega)) (fun p i _ => nf (by decide) (by decide)), h2'.ex rfl e (fun p => Pl.no (by decide) (by decide)) (fun p => Pl.no (by decide) (by decide)), L.cg (fun j hj => ?_), h4.ex rfl e (fun p => Pl.no (by decide) (by decide)) (fun p => Pl.no (by decide) (by decide)), fun b hb => ((h5 b hb).ex e (fun k p hk => Pl.no (by omega) (by omega))).cg (fun p => nf (by decide) (by decide)) (nf (by decide) (by decide)) (fun p => nf (by decide) (by decide)), fun j hj => ?_, fun p hp => ((h7 p hp).ex e (fun k r j hk => Pl.no (by omega) (by omega))).cg (fun r => nf (by decide) (by decide)) (fun r => nf (by decide) (by decide)) (fun r => nf (by decide) (by decide)) (fun r => nf (by decide) (by decide)), h8, fun b b' hb hb' q => ?_⟩, iv_ship h.2.1 u h5' ht hr hp' w, G, R1.2.2.2.ex e⟩
  · show ew_o 15 (if j = ns then o else σ j) = if j = ns then ew_o 15 o else ew_o 15 (σ j)
    by_cases q : j = ns
    · rw [if_pos q, if_pos q]
    · rw [if_neg q, if_neg q]
  · by_cases q : j = ns
    · obtain ⟨⟨z0, z1, z2, z3, z4, z5, z8, z6, z7⟩, zw⟩ := sShp_at o (ei t) (ei r) w (ei p) s
      have a7 : sp_ns t r p w (ei (ns + 1)) ns a 10 7 ns = 0 := (F 10 7 ns (fun w => by omega)).trans u7
      have a8 : sp_ns t r p w (ei (ns + 1)) ns a 10 8 ns = -1 := (F 10 8 ns (fun w => by omega)).trans u8
      have a9 : sp_ns t r p w (ei (ns + 1)) ns a 10 9 ns = 0 := (F 10 9 ns (fun w => by omega)).trans u9
      have a10 : sp_ns t r p w (ei (ns + 1)) ns a 10 10 ns = 0 := (F 10 10 ns (fun w => by omega)).trans u10
      have a11 : sp_ns t r p w (ei (ns + 1)) ns a 10 11 ns = -1 := (F 10 11 ns (fun w => by omega)).trans u11
      have r0 : rs (ns + 5 * 0) o (fun _ _ _ => 0) (sp_ns t r p w (ei (ns + 1)) ns a) (sShp o (ei t) (ei r) w (ei p) s) (mShp o m) := by
        refine ⟨⟨f15, f369⟩, ⟨z0.trans g1.symm, z1.trans g2.symm, z2.trans g4.symm, z3.trans g5.symm, z4.trans a7.symm, z5.trans a8.symm, z8.trans a11.symm⟩, ⟨?_, ?_⟩, fun v hv => ?_, ?_⟩
        · rw [z6]; exact a9.symm
        · rw [z7]; exact a10.symm
        · rw [zw]; exact (u177 v hv).symm
        · rw [show sp_ns t r p w (ei (ns + 1)) ns a 40 1 (ns + 5 * 0) = 0 from u40]
          exact lr_Shp130 _ _ _ _ h.2.2.1 ho _
      dsimp only
      rw [q, if_pos rfl]
      exact r0.ex e (fun k p hk => Pl.no (by omega) (by omega))
    · dsimp only
      rw [if_neg q]
      exact ((h6 j (by omega)).ex e (fun k p hk => Pl.no (by omega) (by omega))).cg (fun p => F _ _ _ (fun w => by omega)) (nf (by decide) (by decide)) (fun p => nf (by decide) (by decide)) (fun p => nf (by decide) (by decide))
  · dsimp only at q
    by_cases q1 : b = ns
    · by_cases q2 : b' = ns
      · rw [q1, q2]
      · rw [if_pos q1, if_neg q2] at q
        exact absurd q.symm (ns' b' (by omega))
    · by_cases q2 : b' = ns
      · rw [if_neg q1, if_pos q2] at q
        exact absurd q (ns' b (by omega))
      · rw [if_neg q1, if_neg q2] at q
        exact h9 b b' (by omega) (by omega) q
theorem sPrt_at (o : Nat) (x : Int32) (s : ew_S) : sPrt o x s 13 0 o = x ∧ ∀ j, sPrt o x s 82 j o = 0 := by
  unfold sPrt
  refine ⟨?_, fun j => ?_⟩
  · rw [ew_u_self]
  · rw [ew_u_ne _ _ (by omega), ef_z_self]
theorem RR.newP (h : RR 0 0 nb ns np T β σ ρ (fun _ _ _ => 0) a s m) (u : Un nb ns np a) (h3' : np < 3) {t : Nat} (ho : m.2.2.2.1 13 = np) (ht : t < 15) (L : LR 66 0 (np + 1) (fun j => if j = np then ew_o 13 np else ew_o 13 j) s2 m2) (e : Ex (Pl 66 0) c (sPrt np (ei t) s) (mPrt np m) s2 m2) (G : GI m2) :
    RR 0 0 nb ns (np + 1) T β σ ρ (fun _ _ _ => 0) (ew_u (ew_u a 7 1 0 (a 7 1 0 + 1)) 6 4 np (ei t)) s2 m2 := by
  have e0 := ex_Prt (x := ei t) (s := s) h.2.2.1 ho
  have G1 := gi_Prt h.2.2.1 ho
  obtain ⟨f13, -, f82⟩ := fl_Prt np m
  have R1 := h.ex1 e0.p1 G1
  obtain ⟨u63, u18⟩ := u.2.2 np (Nat.le_refl _) h3'
  have u63 : a 6 3 np = 0 := u63
  obtain ⟨h1, h2', h3, h4, h5, h6, h7, h8, h9⟩ := R1.1
  have F : Fr (fun k p i => k = 7 ∨ (k = 6 ∧ p = 4 ∧ i = np)) a (ew_u (ew_u a 7 1 0 (a 7 1 0 + 1)) 6 4 np (ei t)) := ((Fr.rf _ _).u _ (Or.inl rfl)).u _ (Or.inr ⟨rfl, rfl, rfl⟩)
  have nf : ∀ {k q i : Nat}, k ≠ 7 → k ≠ 6 → ew_u (ew_u a 7 1 0 (a 7 1 0 + 1)) 6 4 np (ei t) k q i = a k q i := fun q1 q2 => F _ _ _ (fun w => by omega)
  refine ⟨⟨(h1.ex e (fun k p hk => Pl.no (by omega) (by omega))).cg (nf (by decide) (by decide)) (nf (by decide) (by decide)) (fun p i _ => nf (by decide) (by decide)), h2'.ex rfl e (fun p => Pl.no (by decide) (by decide)) (fun p => Pl.no (by decide) (by decide)), h3.ex rfl e (fun p => Pl.no (by decide) (by decide)) (fun p => Pl.no (by decide) (by decide)), L.cg (fun j hj => ?_), fun b hb => ((h5 b hb).ex e (fun k p hk => Pl.no (by omega) (by omega))).cg (fun p => nf (by decide) (by decide)) (nf (by decide) (by decide)) (fun p => nf (by decide) (by decide)), fun j hj => ((h6 j hj).ex e (fun k p hk => Pl.no (by omega) (by omega))).cg (fun p => nf (by decide) (by decide)) (nf (by decide) (by decide)) (fun p => nf (by decide) (by decide)) (fun p => nf (by decide) (by decide)), fun p hp => ?_, h8, h9⟩, iv_port h.2.1 u h3' ht, G, R1.2.2.2.ex e⟩
  · show ew_o 13 j = if j = np then ew_o 13 np else ew_o 13 j
    by_cases q : j = np
    · rw [if_pos q, q]
    · rw [if_neg q]
  · by_cases q : p = np
    · obtain ⟨z0, z1⟩ := sPrt_at np (ei t) s
      have r63 : ew_u (ew_u a 7 1 0 (a 7 1 0 + 1)) 6 4 np (ei t) 6 3 np = 0 := (F 6 3 np (fun w => by omega)).trans u63
      have r0 : rp np ρ (ew_u (ew_u a 7 1 0 (a 7 1 0 + 1)) 6 4 np (ei t)) (sPrt np (ei t) s) (mPrt np m) := by
        refine ⟨⟨f13, f82⟩, z0.trans (ew_u_self _ _ _ _ _).symm, fun j hj => ?_, ?_, fun r hr => ?_⟩
        · rw [z1]; exact (u18 j hj).symm
        · rw [r63]; exact lr_Prt162 _ h.2.2.1 ho _
        · rw [r63] at hr; exact absurd hr (Nat.not_lt_zero _)
      rw [q]
      exact r0.ex e (fun k r j hk => Pl.no (by omega) (by omega))
    · exact ((h7 p (by omega)).ex e (fun k r j hk => Pl.no (by omega) (by omega))).cg (fun r => F _ _ _ (fun w => by omega)) (fun r => nf (by decide) (by decide)) (fun r => nf (by decide) (by decide)) (fun r => nf (by decide) (by decide))
end
