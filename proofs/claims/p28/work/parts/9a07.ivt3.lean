/-! What is done: bounds. -/
section
variable {nb ns np T : Nat} {a a' : ew_S}
theorem iv_r.add {k kc J n : Nat} (h : iv_r k kc (ea a J)) (hkc : k ≠ kc) (en : a k 1 J = ei n) (hn : n < 8) {c : Nat} (hc : c < 15) : iv_r k kc (ea (ew_u (ew_u a kc n J (ei c)) k 1 J (ei (n + 1))) J) := by
  obtain ⟨m, h1, h2, h3⟩ := h
  have h2 : a k 1 J = ei m := h2
  have e : m = n := by
    rw [h2, ei_inj (by omega) (by omega)] at en
    exact en
  subst e
  refine ⟨m + 1, by omega, ew_u_self _ _ _ _ _, fun r hr => ?_⟩
  show ∃ c', c' < 15 ∧ ew_u (ew_u a kc m J (ei c)) k 1 J (ei (m + 1)) kc r J = ei c'
  rw [ew_u_ne _ _ (fun w => hkc w.1.symm)]
  by_cases e : r = m
  · rw [e, ew_u_self]; exact ⟨c, hc, rfl⟩
  · rw [ew_u_ne _ _ (by omega)]
    exact h3 r (by omega)
def Pbb (B : Nat) : Nat → Nat → Nat → Prop := fun k _ i => i = B ∧ (k = 3 ∨ k = 8 ∨ k = 145)
theorem iv_steer (h : Iv 0 nb ns np T a) {b n : Nat} (hb : b < nb) (en : a 8 1 b = ei n) (hn : n < 8) {c : Nat} (hc : c < 15) : Fr (Pbb b) a (ew_u (ew_u a 145 n b (ei c)) 8 1 b (ei (n + 1))) ∧ Iv 0 nb ns np T (ew_u (ew_u a 145 n b (ei c)) 8 1 b (ei (n + 1))) := by
  have F : Fr (Pbb b) a (ew_u (ew_u a 145 n b (ei c)) 8 1 b (ei (n + 1))) := ((Fr.rf _ _).u _ ⟨rfl, Or.inr (Or.inr rfl)⟩).u _ ⟨rfl, Or.inr (Or.inl rfl)⟩
  have hI := h.2.2.2.1 b hb
  exact ⟨F, h.brk (b := b) (c := 15) (F.mono (fun k p i w => Or.inl w)) ⟨hI.1, hI.2.add (by decide) en hn hc⟩ (fun z => absurd z (Nat.lt_irrefl _))⟩
theorem iv_fuel (h : Iv 0 nb ns np T a) {b : Nat} (hb : b < nb) (x : Int32) : Fr (Pbb b) a (ew_u a 3 2 b x) ∧ Iv 0 nb ns np T (ew_u a 3 2 b x) := by
  have F : Fr (Pbb b) a (ew_u a 3 2 b x) := (Fr.rf _ _).u _ ⟨rfl, Or.inl rfl⟩
  exact ⟨F, h.brk (b := b) (c := 15) (F.mono (fun k p i w => Or.inl w)) (h.2.2.2.1 b hb) (fun z => absurd z (Nat.lt_irrefl _))⟩
theorem iv_sail (h : Iv 0 nb ns np T a) {j n : Nat} (hj : j < ns) (en : a 40 1 j = ei n) (hn : n < 8) {c : Nat} (hc : c < 15) : Fr (Ps (j + 5 * 0)) a (ew_u (ew_u a 593 n j (ei c)) 40 1 j (ei (n + 1))) ∧ iv_s nb np (ea (ew_u (ew_u a 593 n j (ei c)) 40 1 j (ei (n + 1))) (j + 5 * 0)) := by
  have F : Fr (Ps (j + 5 * 0)) a (ew_u (ew_u a 593 n j (ei c)) 40 1 j (ei (n + 1))) := ((Fr.rf _ _).u _ ⟨rfl, Or.inr (Or.inr (Or.inl rfl))⟩).u _ ⟨rfl, Or.inr (Or.inl rfl)⟩
  have hI := h.2.2.2.2.1 j hj
  exact ⟨F, hI.1, hI.2.1.add (by decide) en hn hc, hI.2.2⟩
theorem iv_halt (h : Iv 0 nb ns np T a) {j : Nat} (hj : j < ns) : Fr (Ps (j + 5 * 0)) a (ew_u (if a 10 7 j = 3 then a else sp_fr j a) 40 1 j 0) ∧ iv_s nb np (ea (ew_u (if a 10 7 j = 3 then a else sp_fr j a) 40 1 j 0) (j + 5 * 0)) ∧ Fb a (ew_u (if a 10 7 j = 3 then a else sp_fr j a) 40 1 j 0) j := by
  obtain ⟨h1, h2, h3, h4, h5⟩ := h.2.2.2.2.1 j hj
  by_cases e : a 10 7 j = 3
  · rw [if_pos e]
    exact ⟨(Fr.rf _ _).u _ ⟨rfl, Or.inr (Or.inl rfl)⟩, ⟨h1, ⟨0, by decide, ew_u_self _ 40 1 j _, fun r hr => absurd hr (Nat.not_lt_zero _)⟩, h3, h4, h5⟩, Or.inl ⟨rfl, rfl⟩⟩
  · rw [if_neg e]
    have e7 : ew_u (sp_fr j a) 40 1 j 0 10 7 j = 0 := by
      show sp_fr j a 10 7 j = 0
      unfold sp_fr
      rw [ew_u_ne _ _ (by omega), ew_u_self]
    have e8 : ew_u (sp_fr j a) 40 1 j 0 10 8 j = -1 := ew_u_self _ _ _ _ _
    refine ⟨(sp_fr_F j a).u _ ⟨rfl, Or.inr (Or.inl rfl)⟩, ⟨h1, ⟨0, by decide, ew_u_self _ 40 1 j _, fun r hr => absurd hr (Nat.not_lt_zero _)⟩, h3, h4, Or.inl ⟨e7, e8⟩⟩, Or.inr (by rw [e7]; decide)⟩
theorem iv_bd (h : Iv 0 nb ns np T a) {j b : Nat} (hj : j < ns) (hb : b < nb) {w : Int32} (hw : w = 1 ∨ w = 2) : Fr (Ps (j + 5 * 0)) a (sp_bd w (ei b) j a) ∧ iv_s nb np (ea (sp_bd w (ei b) j a) (j + 5 * 0)) := by
  obtain ⟨h1, h2, h3, h4, -⟩ := h.2.2.2.2.1 j hj
  have e7 : sp_bd w (ei b) j a 10 7 j = w := (ew_u_ne _ _ (by omega)).trans (ew_u_self _ _ _ _ _)
  have e8 : sp_bd w (ei b) j a 10 8 j = ei b := ew_u_self _ _ _ _ _
  refine ⟨((Fr.rf _ _).u _ ⟨rfl, Or.inl rfl⟩).u _ ⟨rfl, Or.inl rfl⟩, h1, h2, h3, h4, Or.inr (Or.inr ⟨?_, b, hb, e8⟩)⟩
  show sp_bd w (ei b) j a 10 7 j = 1 ∨ sp_bd w (ei b) j a 10 7 j = 2
  rw [e7]; exact hw
theorem lb_bd (l : Lb nb ns a) (h2 : nb ≤ 2) {j b : Nat} (hj : j < ns) (hb : b < nb) {w : Int32} (hw : (w = 1 ∧ ef_cn (ef_bd a 1 (ei b)) ns < 2) ∨ (w = 2 ∧ ef_cn (ef_bd a 2 (ei b)) ns < 1)) : Lb nb ns (sp_bd w (ei b) j a) := fun b' hb' => by
  have e7 : sp_bd w (ei b) j a 10 7 j = w := (ew_u_ne _ _ (by omega)).trans (ew_u_self _ _ _ _ _)
  have e8 : sp_bd w (ei b) j a 10 8 j = ei b := ew_u_self _ _ _ _ _
  have on : ∀ {p i : Nat}, i ≠ j → sp_bd w (ei b) j a 10 p i = a 10 p i := fun hi => (ew_u_ne _ _ (fun q => hi q.2.2)).trans (ew_u_ne _ _ (fun q => hi q.2.2))
  -- what is not the new binding does not grow
  have same : ∀ v : Int32, ¬ (v = w ∧ b' = b) → ef_cn (ef_bd (sp_bd w (ei b) j a) v (ei b')) ns ≤ ef_cn (ef_bd a v (ei b')) ns := fun v hv => ef_cn_le ns (fun i hi q => by
    have q := of_decide_eq_true q
    by_cases e : i = j
    · rw [e, e7, e8] at q
      have := (ei_inj (by omega) (by omega)).mp q.2
      exact absurd ⟨q.1.symm, this.symm⟩ hv
    · rw [on e, on e] at q
      exact decide_eq_true q)
  have more : ∀ v : Int32, ef_cn (ef_bd (sp_bd w (ei b) j a) v (ei b')) ns ≤ ef_cn (ef_bd a v (ei b')) ns + 1 := fun v => by
    have := ef_cn_le1 (p := ef_bd a v (ei b')) (p' := ef_bd (sp_bd w (ei b) j a) v (ei b')) (c := j) ns (fun i hi e q => by
      have q := of_decide_eq_true q
      rw [on e, on e] at q
      exact decide_eq_true q)
    rw [if_pos hj] at this
    exact this
  have l1 := (l b' hb').1
  have l2 := (l b' hb').2
  rcases hw with ⟨rfl, hc⟩ | ⟨rfl, hc⟩
  · refine ⟨?_, Nat.le_trans (same 2 (fun q => absurd q.1 (by decide))) l2⟩
    by_cases e : b' = b
    · rw [e]
      have := more 1
      rw [e] at this
      omega
    · exact Nat.le_trans (same 1 (fun q => e q.2)) l1
  · refine ⟨Nat.le_trans (same 1 (fun q => absurd q.1 (by decide))) l1, ?_⟩
    by_cases e : b' = b
    · rw [e]
      have := more 2
      rw [e] at this
      omega
    · exact Nat.le_trans (same 2 (fun q => e q.2)) l2
/-! Hours. -/
theorem fb_gf (q J : Nat) (a : ew_S) : (sp_gf q J a).2 10 7 J = a 10 7 J ∧ (sp_gf q J a).2 10 8 J = a 10 8 J := by
  unfold sp_gf
  split
  · exact ⟨rfl, rfl⟩
  · split
    · split
      · refine ⟨?_, ?_⟩
        · show ew_u (ef_sh (ew_u a 10 2 J (a 593 0 J)) 593 J (a 40 1 J).toNatClampNeg) 40 1 J (ei ((a 40 1 J).toNatClampNeg - 1)) 10 7 J = a 10 7 J
          rw [ew_u_ne _ _ (by omega), ef_sh_ne _ (by omega), ew_u_ne _ _ (by omega)]
        · show ew_u (ef_sh (ew_u a 10 2 J (a 593 0 J)) 593 J (a 40 1 J).toNatClampNeg) 40 1 J (ei ((a 40 1 J).toNatClampNeg - 1)) 10 8 J = a 10 8 J
          rw [ew_u_ne _ _ (by omega), ef_sh_ne _ (by omega), ew_u_ne _ _ (by omega)]
      · exact ⟨rfl, rfl⟩
    · exact ⟨rfl, rfl⟩
theorem fb_fr (J : Nat) (a : ew_S) : Fb a (sp_fr J a) J := by
  refine Or.inr ?_
  have e7 : sp_fr J a 10 7 J = 0 := (ew_u_ne _ _ (by omega)).trans (ew_u_self _ _ _ _ _)
  rw [e7]; decide
theorem fb_gb (q J B : Nat) (a : ew_S) : Fb a (sp_gb q J B a).2 J := by
  unfold sp_gb
  by_cases e : a 3 4 B = a 10 2 J
  · rw [if_pos e]
    by_cases e2 : ef_hind (if a 10 7 J = 2 then 0 else 1) (sp_w q (a 3 1 B).toNatClampNeg a) (a 10 5 J) (a 10 4 J) = -1
    · rw [if_pos e2]; exact Or.inl ⟨rfl, rfl⟩
    · rw [if_neg e2]; exact fb_fr J a
  · rw [if_neg e]
    by_cases e2 : a 3 4 B = -1 ∧ a 3 1 B = a 10 2 J
    · rw [if_pos e2]; exact Or.inl ⟨rfl, rfl⟩
    · rw [if_neg e2]; exact (fb_fr J a).tr (Or.inl (fb_gf q J _))
theorem fb_ap (S : ew_S) (x : Int32) (J : Nat) : Fb S (ew_u (ew_u (ew_u (ew_u S 10 7 J 3) 10 8 J (-1)) 40 1 J 0) 10 11 J x) J := by
  refine Or.inr ?_
  rw [ew_u_ne _ _ (by omega), ew_u_ne _ _ (by omega), ew_u_ne _ _ (by omega), ew_u_self]
  decide
theorem fb_ms (q j : Nat) (a : ew_S) : Fb a (sp_ms q j a).2 (j + 5 * q) := by
  unfold sp_ms
  split
  · exact Or.inl ⟨rfl, rfl⟩
  · have h1 : Fb a (sp_go q (j + 5 * q) a).2 (j + 5 * q) := by
      unfold sp_go
      split
      · exact Or.inl (fb_gf q _ a)
      · exact fb_gb q _ _ a
    refine h1.tr ?_
    unfold sp_ar sp_ap
    split
    · split
      · exact fb_ap _ _ _
      · exact Or.inl ⟨rfl, rfl⟩
    · split
      · exact Or.inl ⟨rfl, rfl⟩
      · exact Or.inl ⟨rfl, rfl⟩
theorem un_bs (h : Iv 0 nb ns np T a) (u : Un nb ns np a) : ∀ b, b ≤ nb → Un nb ns np (sp_b 0 a b) ∧ ∀ p j, sp_b 0 a b 10 p j = a 10 p j
  | 0, _ => ⟨u, fun _ _ => rfl⟩
  | b + 1, hb => by
    obtain ⟨v, e⟩ := un_bs h u b (by omega)
    obtain ⟨-, a2, -⟩ := iv_bs h b (by omega)
    obtain ⟨c, c1, F, -⟩ := iv_mb a2 (b := b) (by omega)
    refine ⟨v.fr F (fun d h1 h2 k p hk w => ?_) (fun d h1 h2 k p hk w => ?_) (fun d h1 h2 k p hk w => ?_), fun p j => (F 10 p j (fun w => ?_)).trans (e p j)⟩
    · rcases w with w | w
      · have := w.1; omega
      · have := w.1; omega
    · rcases w with w | w
      · have := w.2; omega
      · have := w.1; omega
    · rcases w with w | w
      · have := w.2; omega
      · have := w.1; omega
    · rcases w with w | w
      · have := w.2; omega
      · have := w.1; omega
theorem un_ms (h : Iv 0 nb ns np T a) (u : Un nb ns np a) : ∀ j, j ≤ ns → Un nb ns np (sp_m 0 a j).2 ∧ ∀ i, i < ns → Fb a (sp_m 0 a j).2 i
  | 0, _ => ⟨u, fun _ _ => Or.inl ⟨rfl, rfl⟩⟩
  | j + 1, hj => by
    obtain ⟨v, e⟩ := un_ms h u j (by omega)
    have a2 := (iv_m h j (by omega)).2
    have F := (iv_ms a2 (j := j) (by omega)).1
    refine ⟨v.fr F (fun d h1 h2 k p hk w => ?_) (fun d h1 h2 k p hk w => ?_) (fun d h1 h2 k p hk w => ?_), fun i hi => (e i hi).tr ?_⟩
    · have := w.2; omega
    · have := w.1; omega
    · have := w.2; omega
    · by_cases q : i = j
      · rw [q]; exact fb_ms 0 j _
      · exact Fb.fr F (fun p w => q (by have := w.1; omega))
theorem un_h (h : Iv 0 nb ns np T a) (hT : T ≤ 100000000) (x w : Int32) (hx : 0 ≤ x ∧ x ≤ 9) (u : Un nb ns np a) (l : Lb nb ns a) : Un nb ns np (sp_h 0 x w a).2 ∧ Lb nb ns (sp_h 0 x w a).2 ∧ (sp_h 0 x w a).2 9 5 0 = a 9 5 0 + 1 := by
  have I1 := (iv_ck h hT x w hx).2.1
  have G : ∀ s0 : ew_S, Fr (fun k _ _ => k = 4) s0 (sp_g 0 w s0 15) := fun s0 => ((sp_g_ok (q := 0) (w := w) (s := s0) 15 (Nat.le_refl _)).1).mono (fun k p i z => z.1)
  have S : ∀ s0 : ew_S, Fr (fun k _ _ => k = 4) s0 (sp_s 0 s0 15) := fun s0 => ((sp_s_ok (q := 0) (s := s0) 15 (Nat.le_refl _)).1).mono (fun k p i z => z.1)
  have L : ∀ s0 : ew_S, Fr (fun k p _ => k = 4 ∨ (k = 9 ∧ p = 6)) s0 (sp_f 0 x s0 15) := fun s0 => ((sp_f_ok (q := 0) (s := s0) x 15 (Nat.le_refl _)).1).mono (fun k p i z => by omega)
  have F0 : Fr (fun k p _ => k = 4 ∨ (k = 9 ∧ p = 6)) (ew_u a 9 5 0 (a 9 5 0 + 1)) (sp_f 0 x (sp_s 0 (sp_g 0 w (ew_u a 9 5 0 (a 9 5 0 + 1)) 15) 15) 15) := (((G _).tr (S _)).mono (fun k p i z => Or.inl z)).tr (L _)
  have F1 : Fr (fun k p _ => k = 4 ∨ k = 9) a (sp_f 0 x (sp_s 0 (sp_g 0 w (ew_u a 9 5 0 (a 9 5 0 + 1)) 15) 15) 15) := ((Fr.rf _ _).u _ (Or.inr rfl)).tr (F0.mono (fun k p i z => by omega))
  have e5 : sp_f 0 x (sp_s 0 (sp_g 0 w (ew_u a 9 5 0 (a 9 5 0 + 1)) 15) 15) 15 9 5 0 = a 9 5 0 + 1 := (F0 9 5 0 (fun w => by omega)).trans (ew_u_self _ _ _ _ _)
  have u1 := u.fr F1 (fun _ _ _ k p hk w => by omega) (fun _ _ _ k p hk w => by omega) (fun p h1 h2 k r hk w => by omega)
  have l1 : Lb nb ns (sp_f 0 x (sp_s 0 (sp_g 0 w (ew_u a 9 5 0 (a 9 5 0 + 1)) 15) 15) 15) := l.le (fun j hj => Fb.fr F1 (fun p w => by omega))
  obtain ⟨-, I2, e6, -⟩ := iv_bs I1 nb (Nat.le_refl _)
  obtain ⟨u2, f2⟩ := un_bs I1 u1 nb (Nat.le_refl _)
  have l2 : Lb nb ns (sp_b 0 (sp_f 0 x (sp_s 0 (sp_g 0 w (ew_u a 9 5 0 (a 9 5 0 + 1)) 15) 15) 15) nb) := l1.le (fun j hj => Or.inl ⟨f2 _ _, f2 _ _⟩)
  have n1 : (a 9 3 0).toNatClampNeg = nb := by rw [h.2.1.1, ei_nat (by have := h.1; omega)]
  have n2 : (a 9 4 0).toNatClampNeg = ns := by rw [h.2.1.2.1, ei_nat (by have := h.1; omega)]
  have hh : sp_h1 0 x w a = sp_b 0 (sp_f 0 x (sp_s 0 (sp_g 0 w (ew_u a 9 5 0 (a 9 5 0 + 1)) 15) 15) 15) nb := by
    unfold sp_h1
    rw [n1]
  have h0 : sp_h 0 x w a = sp_m 0 (sp_h1 0 x w a) ns := by
    unfold sp_h
    rw [n2]
  rw [h0, hh]
  obtain ⟨u3, f3⟩ := un_ms I2 u2 ns (Nat.le_refl _)
  refine ⟨u3, l2.le f3, ?_⟩
  have F3 := (iv_m I2 ns (Nat.le_refl _)).1
  rw [F3 9 5 0 (fun w => by have := w.2.2; omega), e6 0]
  exact e5
theorem un_hs (h : Iv 0 nb ns np T a) (x w : Int32) (hx : 0 ≤ x ∧ x ≤ 9) (u : Un nb ns np a) (l : Lb nb ns a) {t : Nat} (ht : a 9 5 0 = ei t) : ∀ n, T + 135 * n ≤ 100000000 → Un nb ns np (sp_hs 0 x w a n).2 ∧ Lb nb ns (sp_hs 0 x w a n).2 ∧ (sp_hs 0 x w a n).2 9 5 0 = ei (t + n)
  | 0, _ => ⟨u, l, ht⟩
  | n + 1, hT => by
    obtain ⟨u1, l1, e1⟩ := un_hs h x w hx u l ht n (by omega)
    obtain ⟨u2, l2, e2⟩ := un_h (iv_hs h x w hx n (by omega)) (by omega) x w hx u1 l1
    refine ⟨u2, l2, e2.trans ?_⟩
    rw [e1, ei_1]
    rfl
end
