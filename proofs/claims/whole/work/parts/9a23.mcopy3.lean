/-! A sea's copy. -/
theorem ew_hp_cpn {s : ew_S} {m : ew_H} {k i i0 n : Nat} (h : ∀ p, ew_sh k p = some none) : ew_cpy (ew_hp s m) k i 0 n (fun j => (ew_hp s m).1 k i0 (0 + j)) = ew_hp (ef_cp s k i i0 n) m := by
  refine Prod.ext ?_ rfl
  funext k' i' p'
  show (bif Nat.beq k' k then (bif Nat.beq i' i then (bif Nat.ble 0 p' && Nat.blt p' (0 + n) then ew_hq s m.1 k i0 (0 + (p' - 0)) else ew_hq s m.1 k' i' p') else ew_hq s m.1 k' i' p') else ew_hq s m.1 k' i' p') = ew_hq (ef_cp s k i i0 n) m.1 k' i' p'
  rw [Nat.zero_add, show 0 + (p' - 0) = p' by omega, show Nat.ble 0 p' = true from Nat.ble_eq_true_of_le (Nat.zero_le _), Bool.true_and]
  unfold ew_hq ef_cp
  cases hk : Nat.beq k' k with
  | false => rfl
  | true =>
    obtain rfl := ew_beq hk
    rw [h]
    cases hi : Nat.beq i' i with
    | false => rfl
    | true =>
      cases hp : Nat.blt p' n with
      | false => rfl
      | true => rfl
theorem eq_cp {C : Nat → List ew_V → ew_H → (ew_R → ew_H → Prop) → Prop} {K : ew_R → ew_H → Prop} {y pc k i i0 n : Nat} {ls : List (Option ew_V)} {st : List ew_V} {s : ew_S} {m : ew_H} (h : ∀ p, ew_sh k p = some none) (g : ew_W C y K (pc, ls, st, ew_hp (ef_cp s k i i0 n) m)) : ew_W C y K (pc, ls, st, ew_cpy (ew_hp s m) k i 0 n (fun j => (ew_hp s m).1 k i0 (0 + j))) := by
  rw [ew_hp_cpn h]; exact g
theorem ef_cp_ne (s : ew_S) {k i i0 j k' p' i' : Nat} (h : ¬ (k' = k ∧ i' = i)) : ef_cp s k i i0 j k' p' i' = s k' p' i' := ef_cp_F s k i i0 j k' p' i' h
def rcw (i : Nat) (a s : ew_S) (m : ew_H) : Prop :=
  (m.2.2.1 14 i = true ∧ m.2.2.1 273 i = true ∧ m.2.2.1 305 i = true ∧ m.2.2.1 337 i = true ∧ m.2.2.1 50 i = true) ∧ s 14 0 i = a 9 5 0 ∧ ∀ c, c < 15 → s 273 c i = a 4 0 c ∧ s 305 c i = a 4 1 c ∧ s 337 c i = a 4 2 c ∧ s 50 c i = a 4 3 c
def f66 (i : Nat) (s : ew_S) (m : ew_H) : Prop := m.2.2.1 66 i = true ∧ s 66 2 i = 0 ∧ m.1 66 i 1 = ew_o 212 0 ∧ m.2.2.1 84 i = false
section
variable {d : Nat} {K : ew_R → ew_H → Prop} {nb ns np T o : Nat} {β σ : Nat → Nat} {ρ : Nat → Nat → Nat} {z : ew_Z3} {a s s1 : ew_S} {m m1 : ew_H} {P : Nat → Nat → Nat → Prop} {c : Nat}
theorem rcw.ex (h : rcw o a s m) (e : Ex P c s m s1 m1) (n : ∀ k p, (k = 14 ∨ k = 273 ∨ k = 305 ∨ k = 337 ∨ k = 50) → ¬ P k p o) : rcw o a s1 m1 := by
  obtain ⟨⟨h1, h2, h3, h4, h5⟩, h6, h8⟩ := h
  refine ⟨⟨e.2.1 _ _ h1, e.2.1 _ _ h2, e.2.1 _ _ h3, e.2.1 _ _ h4, e.2.1 _ _ h5⟩, ?_, fun c hc => ?_⟩
  · rw [(e.2.2.1 14 0 o h1 (n _ _ (Or.inl rfl))).1]; exact h6
  · rw [(e.2.2.1 273 c o h2 (n _ _ (Or.inr (Or.inl rfl)))).1, (e.2.2.1 305 c o h3 (n _ _ (Or.inr (Or.inr (Or.inl rfl))))).1, (e.2.2.1 337 c o h4 (n _ _ (Or.inr (Or.inr (Or.inr (Or.inl rfl)))))).1, (e.2.2.1 50 c o h5 (n _ _ (Or.inr (Or.inr (Or.inr (Or.inr rfl)))))).1]
    exact h8 c hc
theorem f66.ex (h : f66 o s m) (e : Ex P c s m s1 m1) (n : ∀ p, ¬ P 66 p o) : f66 o s1 m1 := by
  obtain ⟨h1, h2, h3, h4⟩ := h
  exact ⟨e.2.1 _ _ h1, (e.2.2.1 66 2 o h1 (n 2)).1.trans h2, (e.2.2.1 66 1 o h1 (n 1)).2.trans h3, (e.2.2.2.1 66 o rfl h1 (n 1)).trans h4⟩
/-- the cells are copied -/
theorem xl_cpcells (h : RR 0 0 nb ns np T β σ ρ z a s m) (ho : m.2.2.2.1 14 = o) (hne : o ≠ 0) (k : ∀ s', Ex P0 8 s m s' (mSea o m) → rcw o a s' (mSea o m) → (∀ es, LR 2 o 0 es s' (mSea o m)) → (∀ es, LR 34 o 0 es s' (mSea o m)) → f66 o s' (mSea o m) → ew_W (ew_Call (d + 6)) 114 K (76, [some (ew_o 14 0), some (ew_o 14 o), none, none], [], ew_hp s' (mSea o m))) : ew_W (ew_Call (d + 6)) 114 K (7, [some (ew_o 14 0), none, none, none], [ew_o 14 o], ew_hp (sSea o s) (mSea o m)) := by
  have G := h.2.2.1
  obtain ⟨⟨x14, x273, x305, x337, x50⟩, y1, -, y3⟩ := h.1.1
  obtain ⟨n14, n273, n305, n337, n50, n2, n34, n66⟩ := nx_Sea G ho
  obtain ⟨f14, f273, f305, f337, f50, f2, f34, f66'⟩ := fl_Sea o m
  have e0 := ex_Sea (s := s) G ho
  have L2 := lr_Sea2 (s := s) G ho
  have L34 := lr_Sea34 (s := s) G ho
  have L66 := lr_Sea66 (s := s) G ho (fun _ => ew_0)
  have land : ∀ c, c < 15 → a 4 3 c = 0 ∨ a 4 3 c = 1 := fun c hc => by
    rcases (h.2.1.2.2.1 c hc).2.1 with w | w
    · exact Or.inl w
    · exact Or.inr w.1
  obtain ⟨S1, hS1⟩ : ∃ S1, S1 = ew_u (sSea o s) 14 0 o (sSea o s 14 0 0) := ⟨_, rfl⟩
  obtain ⟨S2, hS2⟩ : ∃ S2, S2 = ef_cp S1 273 o 0 15 := ⟨_, rfl⟩
  obtain ⟨S3, hS3⟩ : ∃ S3, S3 = ef_cp S2 305 o 0 15 := ⟨_, rfl⟩
  obtain ⟨S4, hS4⟩ : ∃ S4, S4 = ef_cp S3 337 o 0 15 := ⟨_, rfl⟩
  obtain ⟨S5, hS5⟩ : ∃ S5, S5 = ef_cp S4 50 o 0 15 := ⟨_, rfl⟩
  have o1 : ∀ {k p i : Nat}, ¬ (k = 14 ∧ i = o) → S1 k p i = sSea o s k p i := fun q => by rw [hS1]; exact ew_u_ne _ _ (fun w => q ⟨w.1, w.2.2⟩)
  have o2 : ∀ {k p i : Nat}, ¬ (k = 273 ∧ i = o) → S2 k p i = S1 k p i := fun q => by rw [hS2]; exact ef_cp_ne _ q
  have o3 : ∀ {k p i : Nat}, ¬ (k = 305 ∧ i = o) → S3 k p i = S2 k p i := fun q => by rw [hS3]; exact ef_cp_ne _ q
  have o4 : ∀ {k p i : Nat}, ¬ (k = 337 ∧ i = o) → S4 k p i = S3 k p i := fun q => by rw [hS4]; exact ef_cp_ne _ q
  have o5 : ∀ {k p i : Nat}, ¬ (k = 50 ∧ i = o) → S5 k p i = S4 k p i := fun q => by rw [hS5]; exact ef_cp_ne _ q
  have E1 : Ex P0 8 s m S1 (mSea o m) := by rw [hS1]; exact e0.u _ rfl (Or.inr n14)
  have E2 : Ex P0 8 s m S2 (mSea o m) := E1.fr (P2 := fun k _ i => k = 273 ∧ i = o) (fun k p i q => o2 q) (fun k p i w => by obtain ⟨rfl, rfl⟩ := w; exact ⟨rfl, Or.inr n273⟩)
  have E3 : Ex P0 8 s m S3 (mSea o m) := E2.fr (P2 := fun k _ i => k = 305 ∧ i = o) (fun k p i q => o3 q) (fun k p i w => by obtain ⟨rfl, rfl⟩ := w; exact ⟨rfl, Or.inr n305⟩)
  have E4 : Ex P0 8 s m S4 (mSea o m) := E3.fr (P2 := fun k _ i => k = 337 ∧ i = o) (fun k p i q => o4 q) (fun k p i w => by obtain ⟨rfl, rfl⟩ := w; exact ⟨rfl, Or.inr n337⟩)
  have E5 : Ex P0 8 s m S5 (mSea o m) := E4.fr (P2 := fun k _ i => k = 50 ∧ i = o) (fun k p i q => o5 q) (fun k p i w => by obtain ⟨rfl, rfl⟩ := w; exact ⟨rfl, Or.inr n50⟩)
  have s0 : ∀ {k p : Nat}, m.2.2.1 k 0 = true → sSea o s k p 0 = s k p 0 := fun q => (e0.2.2.1 _ _ 0 q (fun w => w)).1
  have no0 : ¬ (0 = o) := fun q => hne q.symm
  have c5 : ∀ {k p : Nat}, k ≠ 50 → k ≠ 337 → k ≠ 305 → k ≠ 273 → k ≠ 14 → S5 k p o = sSea o s k p o := fun q1 q2 q3 q4 q5 => (o5 (fun w => q1 w.1)).trans ((o4 (fun w => q2 w.1)).trans ((o3 (fun w => q3 w.1)).trans ((o2 (fun w => q4 w.1)).trans (o1 (fun w => q5 w.1)))))
  have R : rcw o a S5 (mSea o m) := by
    refine ⟨⟨f14, f273, f305, f337, f50⟩, ?_, fun c hc => ?_⟩
    · rw [o5 (by omega), o4 (by omega), o3 (by omega), o2 (by omega), hS1, ew_u_self, s0 x14]; exact y1
    · obtain ⟨w0, w1, w2, w3⟩ := y3 c hc
      have w0 : s 273 c 0 = a 4 0 c := w0
      have w1 : s 305 c 0 = a 4 1 c := w1
      have w2 : s 337 c 0 = a 4 2 c := w2
      have w3 : s 50 c 0 = a 4 3 c := w3
      refine ⟨?_, ?_, ?_, ?_⟩
      · rw [o5 (by omega), o4 (by omega), o3 (by omega), hS2, ef_cp_at _ hc, o1 (by omega), s0 x273]; exact w0
      · rw [o5 (by omega), o4 (by omega), hS3, ef_cp_at _ hc, o2 (by omega), o1 (by omega), s0 x305]; exact w1
      · rw [o5 (by omega), hS4, ef_cp_at _ hc, o3 (by omega), o2 (by omega), o1 (by omega), s0 x337]; exact w2
      · rw [hS5, ef_cp_at _ hc, o4 (by omega), o3 (by omega), o2 (by omega), o1 (by omega), s0 x50]; exact w3
  have k := k S5 E5 R (fun es => ⟨(L2 es).1, (c5 (by decide) (by decide) (by decide) (by decide) (by decide)).trans (L2 es).2.1, (L2 es).2.2⟩) (fun es => ⟨(L34 es).1, (c5 (by decide) (by decide) (by decide) (by decide) (by decide)).trans (L34 es).2.1, (L34 es).2.2⟩) ⟨f66', (c5 (by decide) (by decide) (by decide) (by decide) (by decide)).trans L66.2.1, ep_self _ _ _ _ _, by
    rcases L66.2.2.2 with w | w
    · exact absurd w.1 (by
        intro q
        have : (mSea o m).1 66 o 1 = ew_o 212 0 := ep_self _ _ _ _ _
        rw [this] at q
        cases q)
    · exact w.2.1⟩
  have cc : (0 : Int32).toNatClampNeg + (15 : Int32).toNatClampNeg ≤ 15 := by decide
  have st4 : ew_W (ew_Call (d + 6)) 114 K (61, [some (ew_o 14 0), some (ew_o 14 o), none, none], [], ew_hp S4 (mSea o m)) := by
    refine ew_go (fun pc => Nat.beq pc 76) 40 ⟨⟨by decide, by decide, by decide, cc, cc, fun j hj => ?_⟩, ?_⟩
    · have hj : j < 15 := hj
      show S4 50 (0 + j) 0 = 0 ∨ S4 50 (0 + j) 0 = 1
      rw [Nat.zero_add, o4 (by omega), o3 (by omega), o2 (by omega), o1 (by omega), s0 x50]
      have w3 : s 50 j 0 = a 4 3 j := (y3 j hj).2.2.2
      rw [w3]; exact land j hj
    · show ew_W (ew_Call (d + 6)) 114 K (76, [some (ew_o 14 0), some (ew_o 14 o), none, none], [], ew_cpy (ew_hp S4 (mSea o m)) 50 o 0 15 (fun j => (ew_hp S4 (mSea o m)).1 50 0 (0 + j)))
      refine eq_cp (fun _ => rfl) ?_
      rw [← hS5]
      exact k
  have st3 : ew_W (ew_Call (d + 6)) 114 K (46, [some (ew_o 14 0), some (ew_o 14 o), none, none], [], ew_hp S3 (mSea o m)) := by
    refine ew_go (fun pc => Nat.beq pc 61) 40 ⟨⟨by decide, by decide, by decide, cc, cc, fun j hj => trivial⟩, ?_⟩
    show ew_W (ew_Call (d + 6)) 114 K (61, [some (ew_o 14 0), some (ew_o 14 o), none, none], [], ew_cpy (ew_hp S3 (mSea o m)) 337 o 0 15 (fun j => (ew_hp S3 (mSea o m)).1 337 0 (0 + j)))
    refine eq_cp (fun _ => rfl) ?_
    rw [← hS4]
    exact st4
  have st2 : ew_W (ew_Call (d + 6)) 114 K (31, [some (ew_o 14 0), some (ew_o 14 o), none, none], [], ew_hp S2 (mSea o m)) := by
    refine ew_go (fun pc => Nat.beq pc 46) 40 ⟨⟨by decide, by decide, by decide, cc, cc, fun j hj => trivial⟩, ?_⟩
    show ew_W (ew_Call (d + 6)) 114 K (46, [some (ew_o 14 0), some (ew_o 14 o), none, none], [], ew_cpy (ew_hp S2 (mSea o m)) 305 o 0 15 (fun j => (ew_hp S2 (mSea o m)).1 305 0 (0 + j)))
    refine eq_cp (fun _ => rfl) ?_
    rw [← hS3]
    exact st3
  have st1 : ew_W (ew_Call (d + 6)) 114 K (16, [some (ew_o 14 0), some (ew_o 14 o), none, none], [], ew_hp S1 (mSea o m)) := by
    refine ew_go (fun pc => Nat.beq pc 31) 40 ⟨⟨by decide, by decide, by decide, cc, cc, fun j hj => trivial⟩, ?_⟩
    show ew_W (ew_Call (d + 6)) 114 K (31, [some (ew_o 14 0), some (ew_o 14 o), none, none], [], ew_cpy (ew_hp S1 (mSea o m)) 273 o 0 15 (fun j => (ew_hp S1 (mSea o m)).1 273 0 (0 + j)))
    refine eq_cp (fun _ => rfl) ?_
    rw [← hS2]
    exact st2
  refine ew_go (fun pc => Nat.beq pc 16) 40 ⟨trivial, ?_⟩
  show ew_W (ew_Call (d + 6)) 114 K (16, [some (ew_o 14 0), some (ew_o 14 o), none, none], [], ew_put (ew_hp (sSea o s) (mSea o m)) 14 o 0 (ew_i (sSea o s 14 0 0)))
  refine eq_1 rfl ?_
  rw [← hS1]
  exact st1
/-- what a copy is -/
def CP (nb ns np i : Nat) (β' σ' : Nat → Nat) (a : ew_S) (m0 : ew_H) (s : ew_S) (m : ew_H) : Prop :=
  rcw i a s m ∧ LR 2 i nb (fun b => ew_o 12 (β' b)) s m ∧ LR 34 i ns (fun j => ew_o 15 (σ' j)) s m ∧ LR 66 i np (fun p => ew_o 13 p) s m ∧ (∀ b, b < nb → rbw b (β' b) a s m ∧ nB m0 (β' b)) ∧ (∀ j, j < ns → rsw j (σ' j) a s m ∧ nS m0 (σ' j)) ∧ (∀ b b', b < nb → b' < nb → β' b = β' b' → b = b') ∧ (∀ j j', j < ns → j' < ns → σ' j = σ' j' → j = j') ∧ (m0.2.2.1 14 i = false ∧ m0.2.2.1 273 i = false ∧ m0.2.2.1 305 i = false ∧ m0.2.2.1 337 i = false)
theorem xm_copy (h : RR 0 0 nb ns np T β σ ρ z a s m) (hz : m.2.2.1 14 0 = true) (k : ∀ s' m' i β' σ', RR 0 0 nb ns np T β σ ρ z a s' m' → Ex P0 56 s m s' m' → CP nb ns np i β' σ' a m s' m' → K (.inl (some (ew_o 14 i))) (ew_hp s' m')) : ew_Call (d + 7) 114 [ew_o 14 0] (ew_hp s m) K := by
  obtain ⟨o, ho⟩ : ∃ o, m.2.2.2.1 14 = o := ⟨_, rfl⟩
  have G := h.2.2.1
  have h5 := h.2.1.1
  obtain ⟨n14, n273, n305, n337, n50, n2, n34, n66⟩ := nx_Sea G ho
  have hne : o ≠ 0 := fun q => by rw [q, hz] at n14; cases n14
  have n20 := G.2.1 2 o rfl n2
  have n52 := G.2.1 34 o rfl n34
  have n84 := G.2.1 66 o rfl n66
  have G1 := gi_Sea G ho
  have allP : ∀ (s' : ew_S) (m' : ew_H) (β' σ' : Nat → Nat) (u u2 : Option ew_V), RR 0 0 nb ns np T β σ ρ z a s' m' → Ex P0 54 s m s' m' → rcw o a s' m' → f66 o s' m' → LR 2 o nb (fun b => ew_o 12 (β' b)) s' m' → (∀ b, b < nb → rbw b (β' b) a s' m' ∧ nB m (β' b)) → (∀ b b', b < nb → b' < nb → β' b = β' b' → b = b') → LR 34 o ns (fun b => ew_o 15 (σ' b)) s' m' → (∀ b, b < ns → rsw b (σ' b) a s' m' ∧ nS m (σ' b)) → (∀ b b', b < ns → b' < ns → σ' b = σ' b' → b = b') → ew_W (ew_Call (d + 6)) 114 K (160, [some (ew_o 14 0), some (ew_o 14 o), u, u2], [], ew_hp s' m') := fun s' m' β' σ' u u2 R E hc h66 lb hb jb ls hs js => by
    obtain ⟨g1, g2, g3, g4⟩ := h66
    have fin : ∀ s2 m2 v, LR 66 o np (fun p => ew_o 13 p) s2 m2 → Ex (Pl 66 o) 2 s' m' s2 m2 → GI m2 → ew_W (ew_Call (d + 6)) 114 K (171, [some (ew_o 14 0), some (ew_o 14 o), u, u2], [ew_i v], ew_hp s2 m2) := fun s2 m2 v L Ea G2 => by
      have E2 : Ex P0 56 s m s2 m2 := E.tr0 Ea (fun k p i q w => by
        obtain ⟨rfl, w2⟩ := w
        rcases w2 with rfl | rfl
        · rw [n66] at q; cases q
        · have q : m.2.2.1 84 i = true := q
          rw [n84] at q; cases q)
      have k := k s2 m2 o β' σ' (h.ex1 E2.p1 G2) E2 ⟨hc.ex Ea (fun k p hk => Pl.no (by omega) (by omega)), lb.ex rfl Ea (fun p => Pl.no (by decide) (by decide)) (fun p => Pl.no (by decide) (by decide)), ls.ex rfl Ea (fun p => Pl.no (by decide) (by decide)) (fun p => Pl.no (by decide) (by decide)), L, fun b q => ⟨(hb b q).1.ex Ea (fun k p hk => Pl.no (by omega) (by omega)), (hb b q).2⟩, fun j q => ⟨(hs j q).1.ex Ea (fun k p hk => Pl.no (by omega) (by omega)), (hs j q).2⟩, jb, js, n14, n273, n305, n337⟩
      exact ew_go (fun _ => false) 20 ⟨trivial, k⟩
    exact ew_go (fun pc => Nat.beq pc 171) 40 (xm_addAll66 R.1.2.2.2.1 R.2.2.1 hne g1 g2 g3 g4 (fun r hr => ⟨_, rfl⟩) fin)
  have allS : ∀ (s' : ew_S) (m' : ew_H) (β' : Nat → Nat) (u u2 : Option ew_V), RR 0 0 nb ns np T β σ ρ z a s' m' → Ex P0 (9 + 5 * nb) s m s' m' → rcw o a s' m' → f66 o s' m' → (∀ es, LR 34 o 0 es s' m') → LR 2 o nb (fun b => ew_o 12 (β' b)) s' m' → (∀ b, b < nb → rbw b (β' b) a s' m' ∧ nB m (β' b)) → (∀ b b', b < nb → b' < nb → β' b = β' b' → b = b') → ew_W (ew_Call (d + 6)) 114 K (118, [some (ew_o 14 0), some (ew_o 14 o), u, u2], [], ew_hp s' m') := fun s' m' β' u u2 R E hc h66 l34 lb hb jb => by
    refine ew_go (fun pc => Nat.beq pc 126) 40 (xm_iter34 R.2.2.1 R.1.2.2.1.1 (fun s1 m1 t i1 i2 i3 i4 i5 => ?_))
    have nt : m.2.2.1 1 t = false := nx_le E.2.1 i4
    have E1 := E.tr i2
    exact xl_cp34 (d := d) (o := o) (t := t) (c0 := 10 + 5 * nb) (s0 := s) (m0 := m) (Kp := fun s m => rcw o a s m ∧ f66 o s m ∧ LR 2 o nb (fun b => ew_o 12 (β' b)) s m ∧ ∀ b, b < nb → rbw b (β' b) a s m) (fun P c s1 m1 s2 m2 e n w => ⟨w.1.ex e (fun k p hk q => by have := n _ _ _ q; unfold P1 at this; omega), w.2.1.ex e (fun p q => by have := n _ _ _ q; unfold P1 at this; omega), w.2.2.1.ex rfl e (fun p q => by have := n _ _ _ q; unfold P1 at this; omega) (fun p q => by have := n _ _ _ q; unfold P1 at this; omega), fun b hb => (w.2.2.2 b hb).ex e (fun k p hk q => by have := n _ _ _ q; unfold P1 at this; omega)⟩) nt ⟨n34, n52⟩ hne
      (fun s' m' σ' u R' E' w L34 hs js => allP s' m' β' σ' _ u R' (E'.le (by omega)) w.1 w.2.1 w.2.2.1 (fun b q => ⟨w.2.2.2 b q, (hb b q).2⟩) jb L34 hs js) ns 0 (fun _ => 0) _ s1 m1 (by omega) (R.ex1 i2.p1 i3) i1 i5 (E1.le (by omega)) ⟨hc.ex i2 (fun _ _ _ w => w), h66.ex i2 (fun _ w => w), lb.ex rfl i2 (fun _ w => w) (fun _ w => w), fun b q => (hb b q).1.ex i2 (fun _ _ _ w => w)⟩ ((l34 _).ex rfl i2 (fun _ w => w) (fun _ w => w)) (fun b' hb' => absurd hb' (Nat.not_lt_zero _)) (fun b1 b2 hb1 => absurd hb1 (Nat.not_lt_zero _))
  have allB : ∀ s', Ex P0 8 s m s' (mSea o m) → rcw o a s' (mSea o m) → (∀ es, LR 2 o 0 es s' (mSea o m)) → (∀ es, LR 34 o 0 es s' (mSea o m)) → f66 o s' (mSea o m) → ew_W (ew_Call (d + 6)) 114 K (76, [some (ew_o 14 0), some (ew_o 14 o), none, none], [], ew_hp s' (mSea o m)) := fun s' E hc l2 l34 h66 => by
    have R := h.ex1 E.p1 G1
    refine ew_go (fun pc => Nat.beq pc 84) 40 (xm_iter2 R.2.2.1 R.1.2.1.1 (fun s1 m1 t i1 i2 i3 i4 i5 => ?_))
    have nt : m.2.2.1 1 t = false := nx_le E.2.1 i4
    have E1 := E.tr i2
    exact xl_cp2 (d := d) (o := o) (t := t) (c0 := 9) (s0 := s) (m0 := m) (Kp := fun s m => rcw o a s m ∧ f66 o s m ∧ ∀ es, LR 34 o 0 es s m) (fun P c s1 m1 s2 m2 e n w => ⟨w.1.ex e (fun k p hk q => by have := n _ _ _ q; unfold P1 at this; omega), w.2.1.ex e (fun p q => by have := n _ _ _ q; unfold P1 at this; omega), fun es => (w.2.2 es).ex rfl e (fun p q => by have := n _ _ _ q; unfold P1 at this; omega) (fun p q => by have := n _ _ _ q; unfold P1 at this; omega)⟩) nt ⟨n2, n20⟩ hne
      (fun s' m' β' u R' E' w L2 hb jb => allS s' m' β' _ u R' E' w.1 w.2.1 w.2.2 L2 hb jb) nb 0 (fun _ => 0) _ s1 m1 (by omega) (R.ex1 i2.p1 i3) i1 i5 (E1.le (by omega)) ⟨hc.ex i2 (fun _ _ _ w => w), h66.ex i2 (fun _ w => w), fun es => (l34 es).ex rfl i2 (fun _ w => w) (fun _ w => w)⟩ ((l2 _).ex rfl i2 (fun _ w => w) (fun _ w => w)) (fun b' hb' => absurd hb' (Nat.not_lt_zero _)) (fun b1 b2 hb1 => absurd hb1 (Nat.not_lt_zero _))
  have mid : ew_W (ew_Call (d + 6)) 114 K (4, [some (ew_o 14 0), none, none, none], [ew_o 14 (m.2.2.2.1 14), ew_o 14 (m.2.2.2.1 14)], ew_mk (ew_hp s m) 14 (m.2.2.2.1 14) 9 (et_dv 14)) := by
    rw [ho]
    exact ew_go (fun pc => Nat.beq pc 7) 40 (xg_Sea (G.2.2.1.1.trans ho) (G.2.2.1.2.1.trans ho) (G.2.2.1.2.2.1.trans ho) (G.2.2.1.2.2.2.1.trans ho) (G.2.2.1.2.2.2.2.1.trans ho) (G.2.2.1.2.2.2.2.2.1.trans ho) (G.2.2.1.2.2.2.2.2.2.trans ho) (xl_cpcells h ho hne allB))
  exact ew_call (ew_go (fun pc => Nat.beq pc 4) 40 mid)
end
