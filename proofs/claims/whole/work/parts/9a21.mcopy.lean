/-! Copies: a breaker, a ship, a new sea. -/
section
variable {d : Nat} {K : ew_R → ew_H → Prop} {nb ns np T : Nat} {β σ : Nat → Nat} {ρ : Nat → Nat → Nat} {z : ew_Z3} {a s s1 s2 : ew_S} {m m1 m2 : ew_H} {P : Nat → Nat → Nat → Prop} {c c' : Nat}
theorem Ex.tr0 (e : Ex P0 c s m s1 m1) (f : Ex P c' s1 m1 s2 m2) (n : ∀ k p i, m.2.2.1 k i = true → ¬ P k p i) : Ex P0 (c + c') s m s2 m2 :=
  ((e.mono (fun _ _ _ _ w => w.elim) (Nat.le_refl _)).tr f).mono (fun k p i q w => n k p i q w) (Nat.le_refl _)
theorem xg_Sea {o : Nat} (h273 : m.2.2.2.1 273 = o) (h305 : m.2.2.2.1 305 = o) (h337 : m.2.2.2.1 337 = o) (h50 : m.2.2.2.1 50 = o) (h2 : m.2.2.2.1 2 = o) (h34 : m.2.2.2.1 34 = o) (h66 : m.2.2.2.1 66 = o) (k : K (.inl none) (ew_hp (sSea o s) (mSea o m))) : ew_Call (d + 4) 113 [ew_o 14 o] (ew_mk (ew_hp s m) 14 o 9 (et_dv 14)) K := by
  rw [← hp_Sea] at k
  unfold hSea at k
  refine ew_call (ew_go (fun pc => Nat.beq pc 7) 40 (eq_na (k := 273) (ew_Call_mono _) rfl rfl rfl ⟨by decide, by decide, by decide⟩ ?_))
  show ew_W (ew_Call (d + 3)) 113 K (9, [some (ew_o 14 o)], [ew_o 273 (m.2.2.2.1 273), ew_o 14 o], ew_mk (ew_mk (ew_hp s m) 14 o 9 (et_dv 14)) 273 (m.2.2.2.1 273) 15 (fun _ => ew_i 0))
  rw [h273]
  refine ew_go (fun pc => Nat.beq pc 15) 40 ⟨rfl, eq_na (k := 305) (ew_Call_mono _) rfl rfl rfl ⟨by decide, by decide, by decide⟩ ?_⟩
  show ew_W (ew_Call (d + 3)) 113 K (17, [some (ew_o 14 o)], [ew_o 305 (m.2.2.2.1 305), ew_o 14 o], ew_mk (ew_put (ew_mk (ew_mk (ew_hp s m) 14 o 9 (et_dv 14)) 273 o 15 (fun _ => ew_i 0)) 14 o 2 (ew_o 273 o)) 305 (m.2.2.2.1 305) 15 (fun _ => ew_i 0))
  rw [h305]
  refine ew_go (fun pc => Nat.beq pc 23) 40 ⟨rfl, eq_na (k := 337) (ew_Call_mono _) rfl rfl rfl ⟨by decide, by decide, by decide⟩ ?_⟩
  show ew_W (ew_Call (d + 3)) 113 K (25, [some (ew_o 14 o)], [ew_o 337 (m.2.2.2.1 337), ew_o 14 o], ew_mk (ew_put (ew_mk (ew_put (ew_mk (ew_mk (ew_hp s m) 14 o 9 (et_dv 14)) 273 o 15 (fun _ => ew_i 0)) 14 o 2 (ew_o 273 o)) 305 o 15 (fun _ => ew_i 0)) 14 o 3 (ew_o 305 o)) 337 (m.2.2.2.1 337) 15 (fun _ => ew_i 0))
  rw [h337]
  refine ew_go (fun pc => Nat.beq pc 31) 40 ⟨rfl, eq_nb (k := 50) (ew_Call_mono _) rfl rfl rfl ⟨by decide, by decide, by decide⟩ ?_⟩
  show ew_W (ew_Call (d + 3)) 113 K (33, [some (ew_o 14 o)], [ew_o 50 (m.2.2.2.1 50), ew_o 14 o], ew_mk (ew_put (ew_mk (ew_put (ew_mk (ew_put (ew_mk (ew_mk (ew_hp s m) 14 o 9 (et_dv 14)) 273 o 15 (fun _ => ew_i 0)) 14 o 2 (ew_o 273 o)) 305 o 15 (fun _ => ew_i 0)) 14 o 3 (ew_o 305 o)) 337 o 15 (fun _ => ew_i 0)) 14 o 4 (ew_o 337 o)) 50 (m.2.2.2.1 50) 15 (fun _ => ew_i 0))
  rw [h50]
  refine ew_go (fun pc => Nat.beq pc 37) 40 ⟨rfl, eq_nw (k := 2) (c := 2) (ew_Call_mono _) rfl rfl rfl rfl rfl ?_⟩
  show ew_W (ew_Call (d + 3)) 113 K (40, [some (ew_o 14 o)], [ew_o 2 (m.2.2.2.1 2), ew_o 14 o], ew_mk (ew_put (ew_mk (ew_put (ew_mk (ew_put (ew_mk (ew_put (ew_mk (ew_mk (ew_hp s m) 14 o 9 (et_dv 14)) 273 o 15 (fun _ => ew_i 0)) 14 o 2 (ew_o 273 o)) 305 o 15 (fun _ => ew_i 0)) 14 o 3 (ew_o 305 o)) 337 o 15 (fun _ => ew_i 0)) 14 o 4 (ew_o 337 o)) 50 o 15 (fun _ => ew_i 0)) 14 o 5 (ew_o 50 o)) 2 (m.2.2.2.1 2) 3 (et_dv 2))
  rw [h2]
  refine ew_go (fun pc => Nat.beq pc 48) 40 (xm_linit2 ⟨rfl, eq_nw (k := 34) (c := 2) (ew_Call_mono _) rfl rfl rfl rfl rfl ?_⟩)
  show ew_W (ew_Call (d + 3)) 113 K (51, [some (ew_o 14 o)], [ew_o 34 (m.2.2.2.1 34), ew_o 14 o], ew_mk (ew_put (ew_put (ew_put (ew_mk (ew_put (ew_mk (ew_put (ew_mk (ew_put (ew_mk (ew_put (ew_mk (ew_mk (ew_hp s m) 14 o 9 (et_dv 14)) 273 o 15 (fun _ => ew_i 0)) 14 o 2 (ew_o 273 o)) 305 o 15 (fun _ => ew_i 0)) 14 o 3 (ew_o 305 o)) 337 o 15 (fun _ => ew_i 0)) 14 o 4 (ew_o 337 o)) 50 o 15 (fun _ => ew_i 0)) 14 o 5 (ew_o 50 o)) 2 o 3 (et_dv 2)) 2 o 0 (ew_i 0)) 2 o 1 (ew_o 212 0)) 14 o 6 (ew_o 2 o)) 34 (m.2.2.2.1 34) 3 (et_dv 2))
  rw [h34]
  refine ew_go (fun pc => Nat.beq pc 59) 40 (xm_linit34 ⟨rfl, eq_nw (k := 66) (c := 2) (ew_Call_mono _) rfl rfl rfl rfl rfl ?_⟩)
  show ew_W (ew_Call (d + 3)) 113 K (62, [some (ew_o 14 o)], [ew_o 66 (m.2.2.2.1 66), ew_o 14 o], ew_mk (ew_put (ew_put (ew_put (ew_mk (ew_put (ew_put (ew_put (ew_mk (ew_put (ew_mk (ew_put (ew_mk (ew_put (ew_mk (ew_put (ew_mk (ew_mk (ew_hp s m) 14 o 9 (et_dv 14)) 273 o 15 (fun _ => ew_i 0)) 14 o 2 (ew_o 273 o)) 305 o 15 (fun _ => ew_i 0)) 14 o 3 (ew_o 305 o)) 337 o 15 (fun _ => ew_i 0)) 14 o 4 (ew_o 337 o)) 50 o 15 (fun _ => ew_i 0)) 14 o 5 (ew_o 50 o)) 2 o 3 (et_dv 2)) 2 o 0 (ew_i 0)) 2 o 1 (ew_o 212 0)) 14 o 6 (ew_o 2 o)) 34 o 3 (et_dv 2)) 34 o 0 (ew_i 0)) 34 o 1 (ew_o 212 0)) 14 o 7 (ew_o 34 o)) 66 (m.2.2.2.1 66) 3 (et_dv 2))
  rw [h66]
  exact ew_go (fun _ => false) 40 (xm_linit66 ⟨rfl, trivial, k⟩)
def nB (m : ew_H) (o : Nat) : Prop := m.2.2.1 12 o = false ∧ m.2.2.1 98 o = false ∧ m.2.2.1 116 o = false
def nS (m : ew_H) (o : Nat) : Prop := m.2.2.1 15 o = false ∧ m.2.2.1 369 o = false ∧ m.2.2.1 130 o = false ∧ m.2.2.1 148 o = false
theorem nx_le {k o : Nat} (h : ∀ k i, m.2.2.1 k i = true → m1.2.2.1 k i = true) (n : m1.2.2.1 k o = false) : m.2.2.1 k o = false := by
  cases q : m.2.2.1 k o with
  | false => rfl
  | true => rw [h _ _ q] at n; cases n
def rbw (b o : Nat) (a s : ew_S) (m : ew_H) : Prop := m.2.2.1 12 o = true ∧ s 12 0 o = a 3 1 b ∧ s 12 1 o = a 3 2 b ∧ LR 98 o (a 8 1 b).toNatClampNeg (fun r => ew_o 0 ((a 145 r b).toNatClampNeg + 128)) s m
def rsw (j o : Nat) (a s : ew_S) (m : ew_H) : Prop := (m.2.2.1 15 o = true ∧ m.2.2.1 369 o = true) ∧ (s 15 0 o = a 10 2 j ∧ s 15 1 o = a 10 3 j ∧ s 15 2 o = a 10 5 j ∧ s 15 3 o = a 10 6 j ∧ s 15 4 o = a 10 7 j ∧ s 15 5 o = a 10 8 j ∧ s 15 8 o = a 10 11 j) ∧ LR 130 o (a 40 1 j).toNatClampNeg (fun r => ew_o 0 ((a 593 r j).toNatClampNeg + 128)) s m
theorem rbw.ex {b o : Nat} (h : rbw b o a s m) (e : Ex P c s m s1 m1) (n : ∀ k p, (k = 12 ∨ k = 98 ∨ k = 116) → ¬ P k p o) : rbw b o a s1 m1 := by
  obtain ⟨h1, h2, h3, h5⟩ := h
  refine ⟨e.2.1 _ _ h1, ?_, ?_, h5.ex rfl e (fun p => n _ p (Or.inr (Or.inl rfl))) (fun p => n _ p (Or.inr (Or.inr rfl)))⟩
  · rw [(e.2.2.1 12 0 o h1 (n _ _ (Or.inl rfl))).1]; exact h2
  · rw [(e.2.2.1 12 1 o h1 (n _ _ (Or.inl rfl))).1]; exact h3
theorem rsw.ex {j o : Nat} (h : rsw j o a s m) (e : Ex P c s m s1 m1) (n : ∀ k p, (k = 15 ∨ k = 369 ∨ k = 130 ∨ k = 148) → ¬ P k p o) : rsw j o a s1 m1 := by
  obtain ⟨⟨h1, h1'⟩, h2, h5⟩ := h
  have f : ∀ p, s1 15 p o = s 15 p o := fun p => (e.2.2.1 15 p o h1 (n _ _ (Or.inl rfl))).1
  refine ⟨⟨e.2.1 _ _ h1, e.2.1 _ _ h1'⟩, ?_, h5.ex rfl e (fun p => n _ p (Or.inr (Or.inr (Or.inl rfl)))) (fun p => n _ p (Or.inr (Or.inr (Or.inr rfl))))⟩
  rw [f, f, f, f, f, f, f]; exact h2
theorem xm_bcopy (h : RR 0 0 nb ns np T β σ ρ z a s m) {b : Nat} (hb : b < nb) (k : ∀ s' m' o, RR 0 0 nb ns np T β σ ρ z a s' m' → Ex P0 4 s m s' m' → nB m o → rbw b o a s' m' → K (.inl (some (ew_o 12 o))) (ew_hp s' m')) : ew_Call (d + 5) 110 [ew_o 12 (β b)] (ew_hp s m) K := by
  obtain ⟨o, ho⟩ : ∃ o, o = m.2.2.2.1 12 := ⟨_, rfl⟩
  have hs : rb b (β b) z a s m := h.1.2.2.2.2.1 b hb
  obtain ⟨g1, g2, g3, -, g5⟩ := hs
  obtain ⟨n12, n98⟩ := nx_Brk h.2.2.1 ho.symm
  obtain ⟨f12, f98⟩ := fl_Brk o m
  have hne : β b ≠ o := fun q => by rw [q, n12] at g1; cases g1
  obtain ⟨n, hn, en, -⟩ := (h.2.1.2.2.2.1 b hb).2
  have en : a 8 1 b = ei n := en
  rw [en, ei_nat (by omega)] at g5
  have e0 := ex_Brk (x := s 12 0 (β b)) (f := s 12 1 (β b)) (s := s) h.2.2.1 ho.symm
  have G1 := gi_Brk h.2.2.1 ho.symm
  have L0 := lr_Brk98 (s := s) (s 12 0 (β b)) (s 12 1 (β b)) h.2.2.1 ho.symm (fun _ => ew_0)
  have x116 : (mBrk o m).2.2.1 116 o = false := by
    rcases L0.2.2.2 with w | w
    · rw [f98] at *
      exact absurd w.1 (by
        intro q
        have : (mBrk o m).1 98 o 1 = ew_o 212 0 := ep_self _ _ _ _ _
        rw [this] at q
        cases q)
    · exact w.2.1
  have fin : ∀ s2 m2 v, LR 98 o n (fun r => ew_o 0 ((a 145 r b).toNatClampNeg + 128)) s2 m2 → Ex (Pl 98 o) 2 (sBrk o (s 12 0 (β b)) (s 12 1 (β b)) s) (mBrk o m) s2 m2 → GI m2 → ew_W (ew_Call (d + 4)) 110 K (27, [some (ew_o 12 (β b)), some (ew_o 12 o)], [ew_i v], ew_hp s2 m2) := fun s2 m2 v L E G => by
    have E2 : Ex P0 4 s m s2 m2 := e0.tr0 E (fun k p i q w => by
      obtain ⟨rfl, w2⟩ := w
      rcases w2 with rfl | rfl
      · rw [n98] at q; cases q
      · have := h.2.2.1.2.1 98 _ rfl n98
        rw [this] at q; cases q)
    have z0 : sBrk o (s 12 0 (β b)) (s 12 1 (β b)) s 12 0 o = s 12 0 (β b) := by unfold sBrk; rw [ew_u_ne _ _ (by omega), ew_u_self]
    have z1 : sBrk o (s 12 0 (β b)) (s 12 1 (β b)) s 12 1 o = s 12 1 (β b) := by unfold sBrk; rw [ew_u_self]
    have k := k s2 m2 o (h.ex1 E2.p1 G) E2 ⟨n12, n98, h.2.2.1.2.1 98 _ rfl n98⟩ ⟨E.2.1 _ _ f12, (E.2.2.1 12 0 o f12 (fun w => by have := w.2; omega)).1.trans (z0.trans g2), (E.2.2.1 12 1 o f12 (fun w => by have := w.2; omega)).1.trans (z1.trans g3), by rw [en, ei_nat (by omega)]; exact L⟩
    exact ew_go (fun _ => false) 40 ⟨trivial, k⟩
  have mid : ew_W (ew_Call (d + 4)) 110 K (12, [some (ew_o 12 (β b)), none], [ew_i (s 12 1 (β b)), ew_i (s 12 0 (β b)), ew_o 12 o, ew_o 12 o], ew_mk (ew_hp s m) 12 o 6 (et_dv 12)) :=
    ew_go (fun pc => Nat.beq pc 27) 40 (xg_Brk (h.2.2.1.2.2.2.1.trans ho.symm) (xm_addAll98 (g5.ex rfl e0 (fun _ w => w) (fun _ w => w)) G1 (Ne.symm hne) f98 L0.2.1 (ep_self _ _ _ _ _) x116 (fun r hr => ⟨_, rfl⟩) fin))
  refine ew_call (ew_go (fun pc => Nat.beq pc 8) 40 ?_)
  show ew_W (ew_Call (d + 4)) 110 K (8, [some (ew_o 12 (β b)), none], [(ew_mk (ew_hp s m) 12 (m.2.2.2.1 12) 6 (et_dv 12)).1 12 (β b) 0, ew_o 12 (m.2.2.2.1 12), ew_o 12 (m.2.2.2.1 12)], ew_mk (ew_hp s m) 12 (m.2.2.2.1 12) 6 (et_dv 12))
  rw [← ho, em_ne _ _ _ _ (by omega)]
  refine ew_go (fun pc => Nat.beq pc 12) 40 ?_
  show ew_W (ew_Call (d + 4)) 110 K (12, [some (ew_o 12 (β b)), none], [(ew_mk (ew_hp s m) 12 o 6 (et_dv 12)).1 12 (β b) 1, ew_i (s 12 0 (β b)), ew_o 12 o, ew_o 12 o], ew_mk (ew_hp s m) 12 o 6 (et_dv 12))
  rw [em_ne _ _ _ _ (by omega)]
  exact mid
theorem xm_scopy (h : RR 0 0 nb ns np T β σ ρ z a s m) {j : Nat} (hj : j < ns) (k : ∀ s' m' o, RR 0 0 nb ns np T β σ ρ z a s' m' → Ex P0 5 s m s' m' → nS m o → rsw j o a s' m' → K (.inl (some (ew_o 15 o))) (ew_hp s' m')) : ew_Call (d + 5) 132 [ew_o 15 (σ j)] (ew_hp s m) K := by
  obtain ⟨o, ho⟩ : ∃ o, o = m.2.2.2.1 15 := ⟨_, rfl⟩
  have hs : rs j (σ j) z a s m := h.1.2.2.2.2.2.1 j hj
  obtain ⟨⟨g1, -⟩, ⟨q0, q1, q2, q3, q4, q5, q8⟩, -, -, g5⟩ := hs
  obtain ⟨n15, n369, n130⟩ := nx_Shp h.2.2.1 ho.symm
  obtain ⟨f15, f369, f130⟩ := fl_Shp o m
  have hne : σ j ≠ o := fun q => by rw [q, n15] at g1; cases g1
  obtain ⟨n, hn, en, -⟩ := (h.2.1.2.2.2.2.1 j hj).2.1
  have en : a 40 1 j = ei n := en
  rw [en, ei_nat (by omega)] at g5
  obtain ⟨S1, hS1⟩ : ∃ S1, S1 = sShp o (s 15 0 (σ j)) (s 15 1 (σ j)) (s 15 2 (σ j)) (s 15 3 (σ j)) s := ⟨_, rfl⟩
  have e0 : Ex P0 3 s m S1 (mShp o m) := by rw [hS1]; exact ex_Shp _ _ _ _ h.2.2.1 ho.symm
  have G1 := gi_Shp h.2.2.1 ho.symm
  have L0 : LR 130 o 0 (fun _ => ew_0) S1 (mShp o m) := by rw [hS1]; exact lr_Shp130 _ _ _ _ h.2.2.1 ho.symm _
  obtain ⟨⟨z0, z1, z2, z3, -⟩, -⟩ := sShp_at o (s 15 0 (σ j)) (s 15 1 (σ j)) (s 15 2 (σ j)) (s 15 3 (σ j)) s
  rw [← hS1] at z0 z1 z2 z3
  have p4 : ∀ p, S1 15 p (σ j) = s 15 p (σ j) := fun p => (e0.2.2.1 15 p _ g1 (fun w => w)).1
  have x148 : (mShp o m).2.2.1 148 o = false := by
    rcases L0.2.2.2 with w | w
    · exact absurd w.1 (by
        intro q
        have : (mShp o m).1 130 o 1 = ew_o 212 0 := ep_self _ _ _ _ _
        rw [this] at q
        cases q)
    · exact w.2.1
  obtain ⟨S2, hS2⟩ : ∃ S2, S2 = ew_u (ew_u (ew_u S1 15 4 o (S1 15 4 (σ j))) 15 5 o (S1 15 5 (σ j))) 15 8 o (S1 15 8 (σ j)) := ⟨_, rfl⟩
  have e1 : Ex P0 3 s m S2 (mShp o m) := by rw [hS2]; exact ((e0.u _ rfl (Or.inr n15)).u _ rfl (Or.inr n15)).u _ rfl (Or.inr n15)
  have L1 : LR 130 o 0 (fun _ => ew_0) S2 (mShp o m) := by rw [hS2]; exact L0
  have y0 : S2 15 0 o = s 15 0 (σ j) := by rw [hS2, ew_u_ne _ _ (by omega), ew_u_ne _ _ (by omega), ew_u_ne _ _ (by omega)]; exact z0
  have y1 : S2 15 1 o = s 15 1 (σ j) := by rw [hS2, ew_u_ne _ _ (by omega), ew_u_ne _ _ (by omega), ew_u_ne _ _ (by omega)]; exact z1
  have y2 : S2 15 2 o = s 15 2 (σ j) := by rw [hS2, ew_u_ne _ _ (by omega), ew_u_ne _ _ (by omega), ew_u_ne _ _ (by omega)]; exact z2
  have y3 : S2 15 3 o = s 15 3 (σ j) := by rw [hS2, ew_u_ne _ _ (by omega), ew_u_ne _ _ (by omega), ew_u_ne _ _ (by omega)]; exact z3
  have y4 : S2 15 4 o = s 15 4 (σ j) := by rw [hS2, ew_u_ne _ _ (by omega), ew_u_ne _ _ (by omega), ew_u_self]; exact p4 4
  have y5 : S2 15 5 o = s 15 5 (σ j) := by rw [hS2, ew_u_ne _ _ (by omega), ew_u_self]; exact p4 5
  have y8 : S2 15 8 o = s 15 8 (σ j) := by rw [hS2, ew_u_self]; exact p4 8
  have fin : ∀ s2 m2 v, LR 130 o n (fun r => ew_o 0 ((a 593 r j).toNatClampNeg + 128)) s2 m2 → Ex (Pl 130 o) 2 S2 (mShp o m) s2 m2 → GI m2 → ew_W (ew_Call (d + 4)) 132 K (59, [some (ew_o 15 (σ j)), some (ew_o 15 o)], [ew_i v], ew_hp s2 m2) := fun s2 m2 v L E G => by
    have E2 : Ex P0 5 s m s2 m2 := e1.tr0 E (fun k p i q w => by
      obtain ⟨rfl, w2⟩ := w
      rcases w2 with rfl | rfl
      · rw [n130] at q; cases q
      · have := h.2.2.1.2.1 130 _ rfl n130
        rw [this] at q; cases q)
    have f : ∀ p, s2 15 p o = S2 15 p o := fun p => (E.2.2.1 15 p o f15 (fun w => by have := w.2; omega)).1
    have k := k s2 m2 o (h.ex1 E2.p1 G) E2 ⟨n15, n369, n130, h.2.2.1.2.1 130 _ rfl n130⟩ ⟨⟨E.2.1 _ _ f15, E.2.1 _ _ f369⟩, ⟨(f 0).trans (y0.trans q0), (f 1).trans (y1.trans q1), (f 2).trans (y2.trans q2), (f 3).trans (y3.trans q3), (f 4).trans (y4.trans q4), (f 5).trans (y5.trans q5), (f 8).trans (y8.trans q8)⟩, by rw [en, ei_nat (by omega)]; exact L⟩
    exact ew_go (fun _ => false) 40 ⟨trivial, k⟩
  have mid2 : ew_W (ew_Call (d + 4)) 132 K (48, [some (ew_o 15 (σ j)), some (ew_o 15 o)], [], ew_hp S2 (mShp o m)) :=
    ew_go (fun pc => Nat.beq pc 59) 40 (xm_addAll130 (g5.ex rfl e1 (fun _ w => w) (fun _ w => w)) G1 (Ne.symm hne) f130 L1.2.1 (ep_self _ _ _ _ _) x148 (fun r hr => ⟨_, rfl⟩) fin)
  have mid1 : ew_W (ew_Call (d + 4)) 132 K (23, [some (ew_o 15 (σ j)), none], [ew_o 15 o], ew_hp S1 (mShp o m)) := by
    refine ew_go (fun pc => Nat.beq pc 48) 60 ⟨trivial, trivial, trivial, ?_⟩
    show ew_W (ew_Call (d + 4)) 132 K (48, [some (ew_o 15 (σ j)), some (ew_o 15 o)], [], ew_put (ew_put (ew_put (ew_hp S1 (mShp o m)) 15 o 4 (ew_i (S1 15 4 (σ j)))) 15 o 5 (ew_i (S1 15 5 (σ j)))) 15 o 8 (ew_i (S1 15 8 (σ j))))
    rw [ew_hp_put rfl]
    refine eq_2 rfl rfl ?_
    rw [← hS2]
    exact mid2
  have mid : ew_W (ew_Call (d + 4)) 132 K (20, [some (ew_o 15 (σ j)), none], [ew_i (s 15 3 (σ j)), ew_i (s 15 2 (σ j)), ew_i (s 15 1 (σ j)), ew_i (s 15 0 (σ j)), ew_o 15 o, ew_o 15 o], ew_mk (ew_hp s m) 15 o 11 (et_dv 15)) :=
    ew_go (fun pc => Nat.beq pc 23) 40 (xg_Shp (h.2.2.1.2.2.2.2.1.2.trans ho.symm) (h.2.2.1.2.2.2.2.1.1.trans ho.symm) (by rw [← hS1]; exact mid1))
  refine ew_call (ew_go (fun pc => Nat.beq pc 8) 40 ?_)
  show ew_W (ew_Call (d + 4)) 132 K (8, [some (ew_o 15 (σ j)), none], [(ew_mk (ew_hp s m) 15 (m.2.2.2.1 15) 11 (et_dv 15)).1 15 (σ j) 0, ew_o 15 (m.2.2.2.1 15), ew_o 15 (m.2.2.2.1 15)], ew_mk (ew_hp s m) 15 (m.2.2.2.1 15) 11 (et_dv 15))
  rw [← ho, em_ne _ _ _ _ (by omega)]
  refine ew_go (fun pc => Nat.beq pc 12) 40 ?_
  show ew_W (ew_Call (d + 4)) 132 K (12, [some (ew_o 15 (σ j)), none], [(ew_mk (ew_hp s m) 15 o 11 (et_dv 15)).1 15 (σ j) 1, ew_i (s 15 0 (σ j)), ew_o 15 o, ew_o 15 o], ew_mk (ew_hp s m) 15 o 11 (et_dv 15))
  rw [em_ne _ _ _ _ (by omega)]
  refine ew_go (fun pc => Nat.beq pc 16) 40 ?_
  show ew_W (ew_Call (d + 4)) 132 K (16, [some (ew_o 15 (σ j)), none], [(ew_mk (ew_hp s m) 15 o 11 (et_dv 15)).1 15 (σ j) 2, ew_i (s 15 1 (σ j)), ew_i (s 15 0 (σ j)), ew_o 15 o, ew_o 15 o], ew_mk (ew_hp s m) 15 o 11 (et_dv 15))
  rw [em_ne _ _ _ _ (by omega)]
  refine ew_go (fun pc => Nat.beq pc 20) 40 ?_
  show ew_W (ew_Call (d + 4)) 132 K (20, [some (ew_o 15 (σ j)), none], [(ew_mk (ew_hp s m) 15 o 11 (et_dv 15)).1 15 (σ j) 3, ew_i (s 15 2 (σ j)), ew_i (s 15 1 (σ j)), ew_i (s 15 0 (σ j)), ew_o 15 o, ew_o 15 o], ew_mk (ew_hp s m) 15 o 11 (et_dv 15))
  rw [em_ne _ _ _ _ (by omega)]
  exact mid
end
