/-! Ways: the model's answers. -/
section
variable {d : Nat} {K : ew_R → ew_H → Prop} {nb ns np T : Nat} {β σ : Nat → Nat} {ρ : Nat → Nat → Nat} {z : ew_Z3} {a s : ew_S} {m : ew_H}
theorem RR.wf (h : RR 0 0 nb ns np T β σ ρ z a s m) {j : Nat} (hj : j < ns) : rw3 j (σ j) a s ∧ ∃ f, f < 15 ∧ a 10 2 j = ei f ∧ s 15 0 (σ j) = ei f := by
  have hs := h.1.2.2.2.2.2.1 j hj
  have hs : rs j (σ j) z a s m := hs
  obtain ⟨-, ⟨e0, e1, e2, -⟩, -⟩ := hs
  obtain ⟨⟨f, hf, ef⟩, -, -, ⟨r, hr, er, eb⟩, -⟩ := h.2.1.2.2.2.2.1 j hj
  have ef : a 10 2 j = ei f := ef
  have er : a 10 3 j = ei r := er
  have eb : a 10 4 j = ef_bears (ei r) := eb
  exact ⟨⟨e2, r, hr, e1.trans er, eb⟩, f, hf, ef, e0.trans ef⟩
theorem xm_wayE (h : RR 0 0 nb ns np T β σ ρ z a s m) {j t : Nat} (hj : j < ns) (ht : t < 15) {x : Int32} (hx : x = ei t) (k : ∀ s' m', RR 0 0 nb ns np T β σ ρ z a s' m' → Ex P0 1 s m s' m' → K (.inl (some (ew_i (sp_way j t a)))) (ew_hp s' m')) : ew_Call (d + 5) 127 [ew_o 14 0, ew_o 15 (σ j), ew_i x, ew_i 0] (ew_hp s m) K := by
  obtain ⟨h3, f, hf, ef, e0⟩ := h.wf hj
  unfold sp_way at k
  rw [ef, ei_nat (by omega)] at k
  exact xm_least h.2.2.1 hf ht hx h.1.1 h.2.2.2 h3 e0 (fun c hc => h.2.1.2.2.1 c hc) (Or.inl ⟨rfl, rfl⟩) (fun s' m' e G => k s' m' (h.ex1 e.p1 G) e)
theorem xm_tbE (h : RR 0 0 nb ns np T β σ ρ z a s m) {j t p : Nat} (hj : j < ns) (ht : t < 15) (hp : p < np) (e6 : a 10 6 j = ei p) (e4 : a 6 4 p = ei t) {x : Int32} (hx : x = ei t) (k : ∀ s' m', RR 0 0 nb ns np T β σ ρ z a s' m' → Ex P0 1 s m s' m' → K (.inl (some (ew_i (sp_tb j a)))) (ew_hp s' m')) : ew_Call (d + 5) 127 [ew_o 14 0, ew_o 15 (σ j), ew_i x, ew_i 1] (ew_hp s m) K := by
  have h5 := h.2.1.1
  obtain ⟨h3, f, hf, ef, e0⟩ := h.wf hj
  unfold sp_tb at k
  rw [ef, ei_nat (by omega), e6, ei_nat (by omega), e4, ei_nat (by omega)] at k
  exact xm_least h.2.2.1 hf ht hx h.1.1 h.2.2.2 h3 e0 (fun c hc => h.2.1.2.2.1 c hc) (Or.inr ⟨rfl, rfl⟩) (fun s' m' e G => k s' m' (h.ex1 e.p1 G) e)
theorem RR.pc (h : RR 0 0 nb ns np T β σ ρ z a s m) {j : Nat} (hj : j < ns) : ∃ p t, p < np ∧ t < 15 ∧ a 10 6 j = ei p ∧ a 6 4 p = ei t ∧ s 15 3 (σ j) = ei p ∧ s 13 0 p = ei t := by
  obtain ⟨p, hp, e6⟩ := (h.2.1.2.2.2.2.1 j hj).2.2.1
  have e6 : a 10 6 j = ei p := e6
  obtain ⟨t, ht, e4⟩ := (h.2.1.2.2.2.2.2.1 p hp).1
  have e4 : a 6 4 p = ei t := e4
  have hs : rs j (σ j) z a s m := h.1.2.2.2.2.2.1 j hj
  exact ⟨p, t, hp, ht, e6, e4, hs.2.1.2.2.2.1.trans e6, (h.1.2.2.2.2.2.2.1 p hp).2.1.trans e4⟩
theorem xm_toBreak (h : RR 0 0 nb ns np T β σ ρ z a s m) {j : Nat} (hj : j < ns) {x : Int32} (hx : x = ei j) (k : ∀ s' m', RR 0 0 nb ns np T β σ ρ z a s' m' → Ex P0 1 s m s' m' → K (.inl (some (ew_i (sp_tb j a)))) (ew_hp s' m')) : ew_Call (d + 6) 128 [ew_o 14 0, ew_i x] (ew_hp s m) K := by
  subst hx
  obtain ⟨p, t, hp, ht, e6, e4, f3, f0⟩ := h.pc hj
  have hL := h.1.2.2.1
  have hL6 := h.1.2.2.2.1
  exact ew_call (ew_go (fun _ => false) 60 (xm_get34 hL hj rfl rfl (xm_get34 hL hj rfl rfl (xm_get66 hL6 hp f3 rfl (xm_tbE h hj ht hp e6 e4 f0 (fun s' m' R E => ⟨trivial, k s' m' R E⟩))))))
theorem xw_way (h : RR 0 0 nb ns np T β σ ρ z a s m) (h16 : m.2.2.1 16 0 = true) (j x : Int32) (k : KM nb ns np T β σ ρ z a 1 s m K (vo_way j x a)) : ew_Call (d + 6) 177 [ew_o 16 0, ew_i j, ew_i x] (ew_hp s m) K := by
  have hI := h.2.1
  have h5 := hI.1
  have hns : a 9 4 0 = ei ns := hI.2.1.2.1
  have hL := h.1.2.2.1
  have h2 := h.tw 0
  unfold vo_way at k
  rw [hns] at k
  rcases ei_dec j ns (by omega) with ⟨c, hc, rfl⟩ | ⟨h1, -⟩
  · have hN : iN (ei c) (ei ns) = true := iN_t hc (by omega)
    rcases ei_dec x 15 (by decide) with ⟨t, ht, rfl⟩ | ⟨h3, -⟩
    · have hX : iN (ei t) 15 = true := iN_t (n := 15) ht (by decide)
      rw [hN, hX, Bool.and_true, cond_true, ei_nat (by omega), ei_nat (by omega)] at k
      exact ew_call (ew_go (fun _ => false) 80 (xm_noShip hL (by omega) (fun z => absurd (z.symm.trans hN) (by decide)) (fun _ => ⟨fun z => absurd rfl z, fun _ => xm_noCell (fun z => absurd (z.symm.trans hX) (by decide)) (fun _ => ⟨fun _ => xm_start0 rfl ⟨fun _ => xm_get34 h2.1.2.2.1 hc rfl rfl (xm_wayE h2 hc ht rfl (fun s' m' R E => ⟨trivial, k s' m' R (((Ex.tw s m 0).tr E.p1.p6).le (by decide)) ((E.2.2.1 16 0 0 h16 (fun w => w)).1.trans (ew_u_self _ _ _ _ _))⟩)), fun z => absurd rfl z⟩, fun z => absurd rfl z⟩)⟩)))
    · have hX : iN x 15 = false := iN_f (n := 15) h3
      rw [hN, hX, Bool.and_false, cond_false] at k
      exact ew_call (ew_go (fun _ => false) 80 (xm_noShip hL (by omega) (fun z => absurd (z.symm.trans hN) (by decide)) (fun _ => ⟨fun z => absurd rfl z, fun _ => xm_noCell (fun _ => ⟨fun z => absurd z (show ¬ (1 : Int32) = 0 by decide), fun _ => xm_start1 (show ¬ (1 : Int32) = 0 by decide) (show ¬ (1 : Int32) ≤ 0 by decide) ⟨fun z => absurd z (show ¬ (1 : Int32) = 0 by decide), fun _ => ⟨trivial, k.no h⟩⟩⟩) (fun z => absurd (hX.symm.trans z) (by decide))⟩)))
  · have hN : iN j (ei ns) = false := iN_f h1
    rw [hN, Bool.false_and, cond_false] at k
    exact ew_call (ew_go (fun _ => false) 80 (xm_noShip hL (by omega) (fun _ => ⟨fun _ => xm_start1 (show ¬ (1 : Int32) = 0 by decide) (show ¬ (1 : Int32) ≤ 0 by decide) ⟨fun z => absurd z (show ¬ (1 : Int32) = 0 by decide), fun _ => ⟨trivial, k.no h⟩⟩, fun z => absurd (show ¬ (1 : Int32) = 0 by decide) z⟩) (fun z => absurd (hN.symm.trans z) (by decide))))
theorem xw_toBreak (h : RR 0 0 nb ns np T β σ ρ z a s m) (h16 : m.2.2.1 16 0 = true) (j : Int32) (k : KM nb ns np T β σ ρ z a 1 s m K (vo_toBreak j a)) : ew_Call (d + 7) 178 [ew_o 16 0, ew_i j] (ew_hp s m) K := by
  have hI := h.2.1
  have h5 := hI.1
  have hns : a 9 4 0 = ei ns := hI.2.1.2.1
  have hL := h.1.2.2.1
  have h2 := h.tw 0
  unfold vo_toBreak at k
  rw [hns] at k
  rcases ei_dec j ns (by omega) with ⟨c, hc, rfl⟩ | ⟨h1, -⟩
  · have hN : iN (ei c) (ei ns) = true := iN_t hc (by omega)
    rw [hN, cond_true, ei_nat (by omega)] at k
    exact ew_call (ew_go (fun _ => false) 80 (xm_noShip hL (by omega) (fun z => absurd (z.symm.trans hN) (by decide)) (fun _ => xm_start0 rfl ⟨fun _ => xm_toBreak h2 hc rfl (fun s' m' R E => ⟨trivial, k s' m' R (((Ex.tw s m 0).tr E.p1.p6).le (by decide)) ((E.2.2.1 16 0 0 h16 (fun w => w)).1.trans (ew_u_self _ _ _ _ _))⟩), fun z => absurd rfl z⟩)))
  · have hN : iN j (ei ns) = false := iN_f h1
    rw [hN, cond_false] at k
    exact ew_call (ew_go (fun _ => false) 80 (xm_noShip hL (by omega) (fun _ => xm_start1 (show ¬ (1 : Int32) = 0 by decide) (show ¬ (1 : Int32) ≤ 0 by decide) ⟨fun z => absurd z (show ¬ (1 : Int32) = 0 by decide), fun _ => ⟨trivial, k.no h⟩⟩) (fun z => absurd (hN.symm.trans z) (by decide))))
end
