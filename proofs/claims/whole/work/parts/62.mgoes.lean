/-! The model's ships and breakers in an hour. -/
section
variable {d : Nat} {K : ew_R → ew_H → Prop} {q i nb ns np T : Nat} {β σ : Nat → Nat} {ρ : Nat → Nat → Nat} {z : ew_Z3} {a s : ew_S} {m : ew_H}
theorem xl_inForce {p n : Nat} (x : Int32) (hn : n ≤ 10) (hL : LR 162 p n (fun r => ew_o 561 (ρ p r)) s m) (hr : ∀ r, r < n → s 561 0 (ρ p r) = a 113 r p ∧ s 561 1 (ρ p r) = a 81 r p) (k : K (.inl (some (ew_i (ef_least (fun r => a 113 r p) (fun r => a 81 r p) x n)))) (ew_hp s m)) : ∀ (r j : Nat) (y v : Int32), y = ei j → j + r = n → v = ef_least (fun r => a 113 r p) (fun r => a 81 r p) x j →
    ew_W (ew_Call (d + 3)) 112 K (4, [some (ew_o 13 p), some (ew_i x), some (ew_i v), some (ew_i y)], [], ew_hp s m) := by
  intro r
  induction r with
  | zero =>
    intro j y v hy hj hv
    subst hy; subst hv
    obtain rfl : j = n := by omega
    exact ew_go (fun pc => Nat.beq pc 4) 40 (xm_size162 hL ⟨fun c => ⟨trivial, k⟩, fun c => absurd (Int32.le_refl _) c⟩)
  | succ r ih =>
    intro j y v hy hj hv
    subst hy; subst hv
    obtain ⟨h1, h2⟩ := hr j (by omega)
    refine ew_go (fun pc => Nat.beq pc 4) 60 (xm_size162 hL ⟨fun c => ?_, fun c => xm_get162 hL (by omega) rfl rfl ⟨ei_ix (j := 0) (n := 2) (by decide) (by decide), fun e => ?_, fun e => xm_get162 hL (by omega) rfl rfl ⟨ei_ix (j := 1) (n := 2) (by decide) (by decide), ?_⟩⟩⟩)
    · have c : ei n ≤ ei j := c
      rw [ei_le (by omega) (by omega)] at c; omega
    · have e : x < s 561 0 (ρ p j) := e
      rw [h1] at e
      refine ih (j + 1) _ _ (ei_1 _) (by omega) ?_
      show _ = if a 113 j p ≤ x then _ else _
      rw [if_neg (Int32.not_le.mpr e)]
    · have e : ¬ x < s 561 0 (ρ p j) := e
      rw [h1] at e
      refine ih (j + 1) _ _ (ei_1 _) (by omega) ?_
      show s 561 1 (ρ p j) = if a 113 j p ≤ x then _ else _
      rw [if_pos (Int32.not_lt.mp e), h2]
theorem xm_inForceP {p n : Nat} (x : Int32) (hn : n ≤ 10) (e : a 6 3 p = ei n) (hp : rp p ρ a s m) (k : K (.inl (some (ew_i (ef_least (fun r => a 113 r p) (fun r => a 81 r p) x n)))) (ew_hp s m)) : ew_Call (d + 4) 112 [ew_o 13 p, ew_i x] (ew_hp s m) K := by
  obtain ⟨h1, h2, h3, h4, h5⟩ := hp
  rw [e, ei_nat (by omega)] at h4 h5
  exact ew_call (ew_go (fun pc => Nat.beq pc 4) 40 (xl_inForce (d := d) x hn h4 (fun r hr => (h5 r hr).2) k n 0 0 0 rfl (by omega) rfl))
theorem xl_wait (h : RR q i nb ns np T β σ ρ z a s m) {j c p : Nat} {w : Int32} (hw : w = ei c) (hj : j < ns) (hc : c < 5) (k : ∀ s' m', RR q i nb ns np T β σ ρ z (sp_wt q (j + 5 * q) w a) s' m' → Ex (Qs (σ j)) 0 s m s' m' → K (.inl (some (ew_i 0))) (ew_hp s' m')) : ew_W (ew_Call (d + 5)) 122 K (132, [some (ew_o 14 i), some (ew_i (ei j)), some (ew_o 15 (σ j)), some (ew_i w), some (ew_o 13 p)], [], ew_hp s m) := by
  subst hw
  have hR := h
  obtain ⟨R, I, G, C⟩ := h
  have hs := R.2.2.2.2.2.1 j hj
  have hI := I.2.2.2.2.1 j hj
  obtain ⟨⟨t, ht, e⟩, -⟩ := hI
  have e : a 10 2 (j + 5 * q) = ei t := e
  have hcn : (ei c).toNatClampNeg = c := ei_nat (by omega)
  have iw := iv_wt (q := q) (ei c) (I.2.2.2.2.1 j hj)
  have hp6 : s 305 t i = a 4 1 (t + 15 * q) := (R.1.2.2.2 t ht).2.1
  have es : s 15 0 (σ j) = ei t := hs.2.1.1.trans e
  refine ew_go (fun pc => Nat.beq pc 142) 60 ⟨ei_ix (n := 5) hc (by decide), ⟨ei_ix (n := 5) hc (by decide), trivial⟩, ?_⟩
  show ew_W (ew_Call (d + 5)) 122 K (142, [some (ew_o 14 i), some (ew_i (ei j)), some (ew_o 15 (σ j)), some (ew_i (ei c)), some (ew_o 13 p)], [], ew_put (ew_hp s m) 369 (σ j) (ei c).toNatClampNeg (ew_i (s 369 (ei c).toNatClampNeg (σ j) + 1)))
  rw [hcn]
  have E1 : Ex (Qs (σ j)) 0 s m (ew_u s 369 c (σ j) (s 369 c (σ j) + 1)) m := (Ex.rf _ _ _).u _ rfl (Or.inl ⟨rfl, Or.inr (Or.inl rfl)⟩)
  have r1 := hs.wait hc 1
  unfold sp_wt at k iw
  rw [hcn, e, ei_nat (by omega)] at k iw
  have ix : ew_ix (s 15 0 (σ j)) 15 := by rw [es]; exact ei_ix ht (by decide)
  refine eq_1 rfl (ew_go (fun _ => false) 60 ⟨ix, fun c6 => ⟨Or.inl rfl, ?_⟩, fun c6 => ⟨trivial, Or.inl rfl, ek_p rfl ?_⟩⟩)
  · have c6 : s 305 (s 15 0 (σ j)).toNatClampNeg i < 6 := c6
    rw [es, ei_nat (by omega), hp6] at c6
    rw [if_pos c6, Int32.add_zero] at k iw
    refine k _ _ (hR.ship hj iw.1 iw.2 E1 (r1.cg (fun p => ?_) rfl (fun p => rfl) (fun p => rfl)) G) E1
    by_cases hp : p = 9
    · subst hp; exact ew_u_self _ _ _ _ _
    · exact ew_u_ne _ _ (by omega)
  · have c6 : ¬ s 305 (s 15 0 (σ j)).toNatClampNeg i < 6 := c6
    rw [es, ei_nat (by omega), hp6] at c6
    rw [if_neg c6] at k iw
    have E2 := E1.u (k := 15) (p := 6) (i := σ j) (s 15 6 (σ j) + 1) rfl (Or.inl ⟨rfl, Or.inl rfl⟩)
    exact k _ _ (hR.ship hj iw.1 iw.2 E2 (r1.dam 1) G) E2
theorem xl_arrive (h : RR q i nb ns np T β σ ρ z a s m) {j p : Nat} {v : Int32} (hj : j < ns) (k : ∀ s' m', RR q i nb ns np T β σ ρ z (ew_u (ew_u (ew_u (ew_u a 10 7 (j + 5 * q) 3) 10 8 (j + 5 * q) (-1)) 40 1 (j + 5 * q) 0) 10 11 (j + 5 * q) (a 9 5 q)) s' m' → Ex (Qs (σ j)) 0 s m s' m' → K (.inl (some (ew_i 1))) (ew_hp s' m')) : ew_W (ew_Call (d + 5)) 122 K (97, [some (ew_o 14 i), some (ew_i (ei j)), some (ew_o 15 (σ j)), some (ew_i v), some (ew_o 13 p)], [], ew_hp s m) := by
  have hR := h
  obtain ⟨R, I, G, C⟩ := h
  have hs := R.2.2.2.2.2.1 j hj
  obtain ⟨a1, a2, a3, a4, a5⟩ := I.2.2.2.2.1 j hj
  have enow : s 14 0 i = a 9 5 q := R.1.2.1
  obtain ⟨n, hn, hn2, -⟩ := a2
  have hn2 : a 40 1 (j + 5 * q) = ei n := hn2
  generalize hJ : j + 5 * q = J at *
  have hL : LR 130 (σ j) n (fun r => ew_o 0 ((a 593 r J).toNatClampNeg + 128)) s m := by
    have := hs.2.2.2.2
    rw [hn2, ei_nat (by omega)] at this
    exact this
  have F : Fr (Ps J) a (ew_u (ew_u (ew_u (ew_u a 10 7 J 3) 10 8 J (-1)) 40 1 J 0) 10 11 J (a 9 5 q)) := ((((Fr.rf _ _).u _ ⟨rfl, Or.inl rfl⟩).u _ ⟨rfl, Or.inl rfl⟩).u _ ⟨rfl, Or.inr (Or.inl rfl)⟩).u _ ⟨rfl, Or.inl rfl⟩
  have I2 : iv_s nb np (ea (ew_u (ew_u (ew_u (ew_u a 10 7 J 3) 10 8 J (-1)) 40 1 J 0) 10 11 J (a 9 5 q)) J) := ⟨a1, ⟨0, by decide, ew_u_self _ 40 1 J _, fun r hr => absurd hr (Nat.not_lt_zero _)⟩, a3, a4, Or.inr (Or.inl ⟨ew_u_self _ 10 7 J _, ew_u_self _ 10 8 J _⟩)⟩
  have E1 : Ex (Qs (σ j)) 0 s m (ew_u (ew_u s 15 4 (σ j) 0) 15 5 (σ j) (-1)) m := ((Ex.rf _ _ _).u _ rfl (Or.inl ⟨rfl, Or.inl rfl⟩)).u _ rfl (Or.inl ⟨rfl, Or.inl rfl⟩)
  have E2 := (E1.u (k := 15) (p := 4) (i := σ j) 3 rfl (Or.inl ⟨rfl, Or.inl rfl⟩)).u (k := 15) (p := 8) (i := σ j) (s 14 0 i) rfl (Or.inl ⟨rfl, Or.inl rfl⟩)
  have r1 := (((hs.state 0).brk (-1)).state 3).arr (s 14 0 i)
  refine ew_go (fun _ => false) 60 (xm_free _ ⟨trivial, trivial, ?_⟩)
  refine ec_2 rfl rfl ?_
  refine xm_clear130 (s := ew_u (ew_u (ew_u (ew_u s 15 4 (σ j) 0) 15 5 (σ j) (-1)) 15 4 (σ j) 3) 15 8 (σ j) (s 14 0 i)) hL G (fun s' m' es' l1 l2 l3 => ⟨Or.inr rfl, ?_⟩)
  have E3 := E2.tr (l2.mono (P' := Qs (σ j)) (fun k p i _ w => ⟨w.1, by have := w.2; omega⟩) (Nat.le_refl _))
  subst hJ
  refine k s' m' (hR.ship hj F I2 E3 (r1.route l2 (fun p w => by have := w.2; omega) (fun p w => by have := w.2; omega) (fun p => ?_) (fun p => rfl) ?_) l3) E3
  · by_cases h1 : p = 11
    · subst h1; exact (ew_u_self _ _ _ _ _).trans (enow.symm.trans (ew_u_self _ _ _ _ _).symm)
    · by_cases h2 : p = 8
      · subst h2; exact ((ew_u_ne _ _ (by omega)).trans ((ew_u_ne _ _ (by omega)).trans (ew_u_self _ _ _ _ _))).trans ((ew_u_ne _ _ (by omega)).trans ((ew_u_ne _ _ (by omega)).trans (ew_u_self _ _ _ _ _))).symm
      · by_cases h3 : p = 7
        · subst h3; exact ((ew_u_ne _ _ (by omega)).trans ((ew_u_ne _ _ (by omega)).trans ((ew_u_ne _ _ (by omega)).trans (ew_u_self _ _ _ _ _)))).trans ((ew_u_ne _ _ (by omega)).trans (ew_u_self _ _ _ _ _)).symm
        · exact ((ew_u_ne _ _ (by omega)).trans ((ew_u_ne _ _ (by omega)).trans ((ew_u_ne _ _ (by omega)).trans (ew_u_ne _ _ (by omega))))).trans ((ew_u_ne _ _ (by omega)).trans ((ew_u_ne _ _ (by omega)).trans ((ew_u_ne _ _ (by omega)).trans (ew_u_ne _ _ (by omega))))).symm
  · rw [show ew_u (ew_u (ew_u (ew_u a 10 7 (j + 5 * q) 3) 10 8 (j + 5 * q) (-1)) 40 1 (j + 5 * q) 0) 10 11 (j + 5 * q) (a 9 5 q) 40 1 (j + 5 * q) = 0 from ew_u_self _ 40 1 _ 0]
    exact l1.cg (fun r hr => absurd hr (Nat.not_lt_zero _))
theorem xl_goes {r : Int32} {a1 s1 : ew_S} {m1 : ew_H} (h1 : RR q i nb ns np T β σ ρ z a1 s1 m1) {j : Nat} (hj : j < ns) (E1 : Ex (Qs (σ j)) 0 s m s1 m1) (hr : r = -1 ∨ ∃ c, c < 5 ∧ r = ei c) (k : ∀ s' m', RR q i nb ns np T β σ ρ z (sp_ar q (j + 5 * q) j r a1).2 s' m' → Ex (Qs (σ j)) 0 s m s' m' → K (.inl (some (ew_i (sp_ar q (j + 5 * q) j r a1).1))) (ew_hp s' m')) :
    ew_W (ew_Call (d + 5)) 122 K (42, [some (ew_o 14 i), some (ew_i (ei j)), some (ew_o 15 (σ j)), none, none], [ew_i r], ew_hp s1 m1) := by
  have hnb := h1.2.1.1
  have hR1 := h1
  obtain ⟨R, I, G, C⟩ := h1
  have hs := R.2.2.2.2.2.1 j hj
  obtain ⟨-, -, ⟨p, hp, e2⟩, -⟩ := I.2.2.2.2.1 j hj
  have e2 : a1 10 6 (j + 5 * q) = ei p := e2
  obtain ⟨-, ⟨n, hn, e4⟩, -⟩ := I.2.2.2.2.2.1 p hp
  have e4 : a1 6 3 p = ei n := e4
  have hP := R.2.2.2.2.2.2.1 p hp
  have enow : s1 14 0 i = a1 9 5 q := R.1.2.1
  unfold sp_ar at k
  rw [e2, ei_nat (by omega), e4, ei_nat (by omega)] at k
  unfold sp_ap at k
  refine ew_go (fun pc => Nat.beq pc 97 || Nat.beq pc 132) 60 ?_
  refine xm_get66 R.2.2.2.1 hp (hs.2.1.2.2.2.1.trans e2) rfl ⟨fun c => ⟨fun c2 => ?_, fun c2 => ?_⟩, fun c => ?_⟩
  · have c : ¬ s1 15 0 (σ j) = s1 13 0 p := c
    rw [hs.2.1.1, hP.2.1] at c
    have c2 : ¬ r = -1 := c2
    rw [if_neg c, if_neg c2] at k
    exact (hr.resolve_left c2).elim (fun x hx => xl_wait (d := d) hR1 hx.2 hj hx.1 (fun s' m' x1 x2 => k s' m' x1 (E1.tr x2)))
  · have c : ¬ s1 15 0 (σ j) = s1 13 0 p := c
    rw [hs.2.1.1, hP.2.1] at c
    have c2 : r = -1 := Classical.not_not.mp c2
    rw [if_neg c, if_pos c2] at k
    exact ⟨Or.inl rfl, k s1 m1 hR1 E1⟩
  · have c : s1 15 0 (σ j) = s1 13 0 p := Classical.not_not.mp c
    rw [hs.2.1.1, hP.2.1] at c
    rw [if_pos c] at k
    refine xm_inForceP (a := a1) (ρ := ρ) _ hn e4 hP ⟨fun c2 => ?_, fun c2 => ⟨ei_ix (n := 5) (by omega) (by decide), fun c3 => ⟨fun _ => ?_, fun c4 => absurd (show ¬ (3 : Int32) = -1 by decide) c4⟩, fun c3 => ?_⟩⟩
    · have c2 : ef_least (fun r => a1 113 r p) (fun r => a1 81 r p) (s1 14 0 i) n ≤ s1 15 1 (σ j) := c2
      rw [enow, hs.2.1.2.1] at c2
      rw [if_pos (Or.inl c2)] at k
      exact xl_arrive (d := d) hR1 hj (fun s' m' x1 x2 => k s' m' x1 (E1.tr x2))
    · have c2 : ¬ ef_least (fun r => a1 113 r p) (fun r => a1 81 r p) (s1 14 0 i) n ≤ s1 15 1 (σ j) := c2
      rw [enow, hs.2.1.2.1] at c2
      have c3 : s1 82 (ei j).toNatClampNeg p = 0 := c3
      rw [ei_nat (by omega), hP.2.2.1 j (by omega)] at c3
      rw [if_neg (fun w => w.elim c2 (fun y => y c3))] at k
      exact xl_wait (d := d) (c := 3) hR1 rfl hj (by decide) (fun s' m' x1 x2 => k s' m' x1 (E1.tr x2))
    · have c2 : ¬ ef_least (fun r => a1 113 r p) (fun r => a1 81 r p) (s1 14 0 i) n ≤ s1 15 1 (σ j) := c2
      have c3 : ¬ s1 82 (ei j).toNatClampNeg p = 0 := c3
      rw [ei_nat (by omega), hP.2.2.1 j (by omega)] at c3
      rw [if_pos (Or.inr c3)] at k
      exact xl_arrive (d := d) hR1 hj (fun s' m' x1 x2 => k s' m' x1 (E1.tr x2))
theorem xm_goes (h : RR q i nb ns np T β σ ρ z a s m) {j : Nat} (hj : j < ns) (hg : ∀ b, b < nb → rg (b + 2 * q) (β b) a s) (k : ∀ s' m', RR q i nb ns np T β σ ρ z (sp_ms q j a).2 s' m' → Ex (Qs (σ j)) 0 s m s' m' → K (.inl (some (ew_i (sp_ms q j a).1))) (ew_hp s' m')) : ew_Call (d + 6) 122 [ew_o 14 i, ew_i (ei j)] (ew_hp s m) K := by
  have hR := h
  obtain ⟨R, I, G, C⟩ := h
  have hs := R.2.2.2.2.2.1 j hj
  have hnb := I.1
  unfold sp_ms at k
  refine ew_call (ew_go (fun pc => Nat.beq pc 42) 60 (xm_get34 R.2.2.1 hj rfl rfl ⟨fun c => ⟨fun c1 => ?_, fun c1 => ?_⟩, fun c => ?_⟩))
  · have c : ¬ s 15 4 (σ j) = 3 := c
    have c1 : ¬ s 15 4 (σ j) = 0 := c1
    rw [hs.2.1.2.2.2.2.1] at c c1
    have g := iv_go I hj c
    rw [if_neg c] at k
    unfold sp_go at g k
    rw [if_neg c1] at g k
    rcases (I.2.2.2.2.1 j hj).2.2.2.2 with w | w | ⟨w12, b, hb, w⟩
    · exact absurd w.1 c1
    · exact absurd w.1 c
    · have w : a 10 8 (j + 5 * q) = ei b := w
      rw [w, ei_nat (by omega)] at g k
      exact xm_escorted hR hj hb w w12 (hg b hb) (fun s' m' x1 x2 => xl_goes x1 hj x2 g.2.2 k)
  · have c : ¬ s 15 4 (σ j) = 3 := c
    have c1 : s 15 4 (σ j) = 0 := Classical.not_not.mp c1
    rw [hs.2.1.2.2.2.2.1] at c c1
    have g := iv_go I hj c
    rw [if_neg c] at k
    unfold sp_go at g k
    rw [if_pos c1] at g k
    have h8 : a 10 8 (j + 5 * q) = -1 := by
      rcases (I.2.2.2.2.1 j hj).2.2.2.2 with w | w | ⟨w, -⟩
      · exact w.2
      · exact w.2
      · have w : a 10 7 (j + 5 * q) = 1 ∨ a 10 7 (j + 5 * q) = 2 := w
        rw [c1] at w; exact absurd w (by decide)
    exact xm_alone hR hj c1 h8 (fun s' m' x1 x2 => xl_goes x1 hj x2 g.2.2 k)
  · have c : s 15 4 (σ j) = 3 := Classical.not_not.mp c
    rw [hs.2.1.2.2.2.2.1] at c
    rw [if_pos c] at k
    exact ⟨Or.inl rfl, k s m hR (Ex.rf _ _ _)⟩
end
