/-! Whom a breaker helps next: the model's answer. -/
section
variable {d : Nat} {K : ew_R → ew_H → Prop} {nb ns np T : Nat} {β σ : Nat → Nat} {ρ : Nat → Nat → Nat} {a s : ew_S} {m : ew_H}
theorem xl_mwaits {o J : Nat} (hw : ∀ w, w < 5 → s 369 w o = a 177 w J) (k : K (.inl (some (ew_i (ef_sum (fun p => a 177 p J) 5)))) (ew_hp s m)) : ∀ (r j : Nat) (y v : Int32) (u : Option ew_V), y = ei j → j + r = 5 → v = ef_sum (fun p => a 177 p J) j →
    ew_W (ew_Call d) 135 K (13, [some (ew_o 15 o), some (ew_i v), some (ew_o 369 o), some (ew_i (ei 5)), some (ew_i y), u], [], ew_hp s m) := by
  intro r
  induction r with
  | zero =>
    intro j y v u hy hj hv
    subst hy; subst hv
    obtain rfl : j = 5 := by omega
    exact ew_go (fun pc => Nat.beq pc 13) 40 ⟨fun c => ⟨trivial, k⟩, fun c => absurd (show ei 5 ≤ ei 5 by decide) c⟩
  | succ r ih =>
    intro j y v u hy hj hv
    subst hy; subst hv
    have e : ¬ ei 5 ≤ ei j := by rw [ei_le (by decide) (by omega)]; omega
    refine ew_go (fun pc => Nat.beq pc 13) 40 ⟨fun c => absurd c e, fun c => ⟨ei_ix (n := 5) (by omega) (by decide), ?_⟩⟩
    refine ih (j + 1) _ _ _ (ei_1 _) (by omega) ?_
    show ef_sum (fun p => a 177 p J) j + s 369 (ei j).toNatClampNeg o = ef_sum (fun p => a 177 p J) j + a 177 j J
    rw [ei_nat (by omega), hw j (by omega)]
theorem xm_allWaits {o J : Nat} (hw : ∀ w, w < 5 → s 369 w o = a 177 w J) (k : K (.inl (some (ew_i (ef_sum (fun p => a 177 p J) 5)))) (ew_hp s m)) : ew_Call (d + 1) 135 [ew_o 15 o] (ew_hp s m) K :=
  ew_call (ew_go (fun pc => Nat.beq pc 13) 40 (xl_mwaits (d := d) hw k 5 0 0 0 none rfl rfl rfl))
theorem xl_mh99 {b j : Nat} {x u v w : Int32} {v5 : Option ew_V} (hu : u = sp_rem b j a) (hv : v = (sp_hn b a j).1) (hw : w = (sp_hn b a j).2) (hF : a 10 7 j = 0) (hB : 1 ≤ sp_tb j a) (k : ∀ v w y v6, y = ei (j + 1) → v = (sp_hn b a (j + 1)).1 → w = (sp_hn b a (j + 1)).2 → ew_W (ew_Call (d + 6)) 179 K (7, [some (ew_o 16 0), some (ew_i x), some (ew_i v), some (ew_i w), some (ew_i y), v5, v6], [], ew_hp s m)) : ew_W (ew_Call (d + 6)) 179 K (99, [some (ew_o 16 0), some (ew_i x), some (ew_i v), some (ew_i w), some (ew_i (ei j)), v5, some (ew_i u)], [], ew_hp s m) := by
  have st : sp_hn b a (j + 1) = if a 10 7 j = 0 ∧ ((sp_hn b a j).1 = -1 ∨ sp_rem b j a < (sp_hn b a j).2) ∧ 1 ≤ sp_tb j a then (ei j, sp_rem b j a) else sp_hn b a j := rfl
  by_cases c1 : v = -1
  · rw [if_pos ⟨hF, Or.inl (hv ▸ c1), hB⟩] at st
    exact ew_go (fun pc => Nat.beq pc 7) 60 ⟨fun _ => k _ _ _ _ (ei_1 _) (by rw [st]) (by rw [st]; exact hu), fun z => absurd c1 z⟩
  · by_cases c2 : u < w
    · rw [if_pos ⟨hF, Or.inr (by rw [← hu, ← hw]; exact c2), hB⟩] at st
      exact ew_go (fun pc => Nat.beq pc 7) 60 ⟨fun z => absurd z c1, fun _ => ⟨fun _ => k _ _ _ _ (ei_1 _) (by rw [st]) (by rw [st]; exact hu), fun z => absurd c2 z⟩⟩
    · rw [if_neg (fun q => q.2.1.elim (fun e => c1 (hv.trans e)) (fun e => c2 (by rw [hu, hw]; exact e)))] at st
      exact ew_go (fun pc => Nat.beq pc 7) 60 ⟨fun z => absurd z c1, fun _ => ⟨fun z => absurd z c2, fun _ => k _ _ _ _ (ei_1 _) (by rw [st]; exact hv) (by rw [st]; exact hw)⟩⟩
theorem xl_mhelp (h : RR 0 0 nb ns np T β σ ρ (fun _ _ _ => 0) a s m) {b : Nat} (hb : b < nb) (k : ∀ s' m', RR 0 0 nb ns np T β σ ρ (fun _ _ _ => 0) a s' m' → Ex P0 ns s m s' m' → K (.inl (some (ew_i (sp_hn b a ns).1))) (ew_hp s' m')) : ∀ (r j : Nat) (y v w : Int32) (v5 v6 : Option ew_V) (s1 : ew_S) (m1 : ew_H), y = ei j → j + r = ns → v = (sp_hn b a j).1 → w = (sp_hn b a j).2 → RR 0 0 nb ns np T β σ ρ (fun _ _ _ => 0) a s1 m1 → Ex P0 j s m s1 m1 →
    ew_W (ew_Call (d + 6)) 179 K (7, [some (ew_o 16 0), some (ew_i (ei b)), some (ew_i v), some (ew_i w), some (ew_i y), v5, v6], [], ew_hp s1 m1) := by
  have h5 := h.2.1.1
  intro r
  induction r with
  | zero =>
    intro j y v w v5 v6 s1 m1 hy hj hv hw R E
    subst hy; subst hv; subst hw
    obtain rfl : j = ns := by omega
    have e : ei j ≤ ei j := Int32.le_refl _
    exact ew_go (fun pc => Nat.beq pc 7) 40 (xm_size34 R.1.2.2.1 ⟨fun _ => ⟨trivial, k s1 m1 R E⟩, fun z => absurd e z⟩)
  | succ r ih =>
    intro j y v w v5 v6 s1 m1 hy hj hv hw R E
    subst hy
    have hj2 : j < ns := by omega
    have e : ¬ ei ns ≤ ei j := by rw [ei_le (by omega) (by omega)]; omega
    have hs : rs j (σ j) (fun _ _ _ => 0) a s1 m1 := R.1.2.2.2.2.2.1 j hj2
    have f4 : s1 15 4 (σ j) = a 10 7 j := hs.2.1.2.2.2.2.1
    have st : sp_hn b a (j + 1) = if a 10 7 j = 0 ∧ ((sp_hn b a j).1 = -1 ∨ sp_rem b j a < (sp_hn b a j).2) ∧ 1 ≤ sp_tb j a then (ei j, sp_rem b j a) else sp_hn b a j := rfl
    by_cases hF : a 10 7 j = 0
    · by_cases hB : 1 ≤ sp_tb j a
      · refine ew_go (fun pc => Nat.beq pc 7 || Nat.beq pc 63) 60 (xm_size34 R.1.2.2.1 ⟨fun z => absurd z e, fun _ => xm_get34 R.1.2.2.1 hj2 rfl rfl ⟨fun z => absurd (f4.trans hF) z, fun _ => xm_toBreak R hj2 rfl (fun s2 m2 R2 E2 => ⟨fun _ => ?_, fun z => absurd hB z⟩)⟩⟩)
        have hs2 : rs j (σ j) (fun _ _ _ => 0) a s2 m2 := R2.1.2.2.2.2.2.1 j hj2
        have hb2 : rb b (β b) (fun _ _ _ => 0) a s2 m2 := R2.1.2.2.2.2.1 b hb
        have fin : ∀ u, u = sp_rem b j a → ew_W (ew_Call (d + 6)) 179 K (99, [some (ew_o 16 0), some (ew_i (ei b)), some (ew_i v), some (ew_i w), some (ew_i (ei j)), some (ew_o 15 (σ j)), some (ew_i u)], [], ew_hp s2 m2) := fun u hu => xl_mh99 hu hv hw hF hB (fun v' w' y' v6' hy' hv' hw' => ih (j + 1) _ _ _ _ _ _ _ hy' (by omega) hv' hw' R2 (E.tr E2))
        show ew_W (ew_Call (d + 6)) 179 K (63, [some (ew_o 16 0), some (ew_i (ei b)), some (ew_i v), some (ew_i w), some (ew_i (ei j)), some (ew_o 15 (σ j)), v6], [], ew_hp s2 m2)
        refine ew_go (fun pc => Nat.beq pc 99) 60 (xm_get2 R2.1.2.1 hb rfl rfl (xm_far _ _ (xm_allWaits (a := a) (J := j) (fun w hw => (Int32.add_zero _).symm.trans (hs2.2.2.2.1 w hw)) ⟨by decide, fin _ ?_⟩)))
        show ef_far (s2 12 0 (β b)) (s2 15 0 (σ j)) - ef_sum (fun p => a 177 p j) 5 / 6 = sp_rem b j a
        rw [hb2.2.1, hs2.2.1.1]
        rfl
      · rw [if_neg (fun q => hB q.2.2)] at st
        exact ew_go (fun pc => Nat.beq pc 7) 60 (xm_size34 R.1.2.2.1 ⟨fun z => absurd z e, fun _ => xm_get34 R.1.2.2.1 hj2 rfl rfl ⟨fun z => absurd (f4.trans hF) z, fun _ => xm_toBreak R hj2 rfl (fun s2 m2 R2 E2 => ⟨fun z => absurd z hB, fun _ => ih (j + 1) _ _ _ _ _ _ _ (ei_1 _) (by omega) (by rw [st]; exact hv) (by rw [st]; exact hw) R2 (E.tr E2)⟩)⟩⟩)
    · rw [if_neg (fun q => hF q.1)] at st
      exact ew_go (fun pc => Nat.beq pc 7) 60 (xm_size34 R.1.2.2.1 ⟨fun z => absurd z e, fun _ => xm_get34 R.1.2.2.1 hj2 rfl rfl ⟨fun _ => ih (j + 1) _ _ _ _ _ _ _ (ei_1 _) (by omega) (by rw [st]; exact hv) (by rw [st]; exact hw) R (E.le (Nat.le_succ _)), fun z => absurd (fun q => hF (f4.symm.trans q)) z⟩⟩)
theorem xm_helpNow (h : RR 0 0 nb ns np T β σ ρ (fun _ _ _ => 0) a s m) {b : Nat} (hb : b < nb) {x : Int32} (hx : x = ei b) (k : ∀ s' m', RR 0 0 nb ns np T β σ ρ (fun _ _ _ => 0) a s' m' → Ex P0 ns s m s' m' → K (.inl (some (ew_i (sp_hn b a ns).1))) (ew_hp s' m')) : ew_Call (d + 7) 179 [ew_o 16 0, ew_i x] (ew_hp s m) K := by
  subst hx
  exact ew_call (ew_go (fun pc => Nat.beq pc 7) 60 (xl_mhelp (d := d) h hb k ns 0 _ _ _ none none s m rfl (by omega) rfl rfl h (Ex.rf _ _ _)))
theorem xw_helpNext (h : RR 0 0 nb ns np T β σ ρ (fun _ _ _ => 0) a s m) (h16 : m.2.2.1 16 0 = true) (b : Int32) (k : KM nb ns np T β σ ρ (fun _ _ _ => 0) a ns s m K (vo_help b a)) : ew_Call (d + 8) 180 [ew_o 16 0, ew_i b] (ew_hp s m) K := by
  have hI := h.2.1
  have h5 := hI.1
  have hnb : a 9 3 0 = ei nb := hI.2.1.1
  have hns : a 9 4 0 = ei ns := hI.2.1.2.1
  have hL := h.1.2.1
  have h2 := h.tw 0
  unfold vo_help at k
  rw [hnb, hns] at k
  rcases ei_dec b nb (by omega) with ⟨c, hc, rfl⟩ | ⟨h1, -⟩
  · have hN : iN (ei c) (ei nb) = true := iN_t hc (by omega)
    rw [hN, cond_true, ei_nat (by omega), ei_nat (by omega)] at k
    exact ew_call (ew_go (fun _ => false) 80 (xm_noBreaker hL (by omega) (fun z => absurd (z.symm.trans hN) (by decide)) (fun _ => xm_start0 rfl ⟨fun _ => xm_helpNow h2 hc rfl (fun s' m' R E => ⟨trivial, k s' m' R (((Ex.tw s m 0).tr E.p1.p6).le (by omega)) ((E.2.2.1 16 0 0 h16 (fun w => w)).1.trans (ew_u_self _ _ _ _ _))⟩), fun z => absurd rfl z⟩)))
  · have hN : iN b (ei nb) = false := iN_f h1
    rw [hN, cond_false] at k
    exact ew_call (ew_go (fun _ => false) 80 (xm_noBreaker hL (by omega) (fun _ => xm_start1 (show ¬ (1 : Int32) = 0 by decide) (show ¬ (1 : Int32) ≤ 0 by decide) ⟨fun z => absurd z (show ¬ (1 : Int32) = 0 by decide), fun _ => ⟨trivial, k.no h⟩⟩) (fun z => absurd (hN.symm.trans z) (by decide))))
end
