/-! What stays, step by step. -/
def Fr (P : Nat → Nat → Nat → Prop) (s s' : ew_S) : Prop := ∀ k p i, ¬ P k p i → s' k p i = s k p i
theorem Fr.rf (P : Nat → Nat → Nat → Prop) (s : ew_S) : Fr P s s := fun _ _ _ _ => rfl
theorem Fr.tr {P : Nat → Nat → Nat → Prop} {s s' s'' : ew_S} (a : Fr P s s') (b : Fr P s' s'') : Fr P s s'' := fun k p i h => (b k p i h).trans (a k p i h)
theorem Fr.mono {P P' : Nat → Nat → Nat → Prop} {s s' : ew_S} (a : Fr P s s') (h : ∀ k p i, P k p i → P' k p i) : Fr P' s s' := fun k p i n => a k p i (fun q => n (h k p i q))
theorem Fr.u {P : Nat → Nat → Nat → Prop} {s s' : ew_S} (a : Fr P s s') {k p i : Nat} (x : Int32) (h : P k p i) : Fr P s (ew_u s' k p i x) := fun k' p' i' n => (ew_u_ne s' x (fun q => n (by obtain ⟨rfl, rfl, rfl⟩ := q; exact h))).trans (a k' p' i' n)
theorem ef_sh_ne (s : ew_S) {k i n k' p' i' : Nat} (h : ¬ (k' = k ∧ i' = i)) : ef_sh s k i n k' p' i' = s k' p' i' := by
  unfold ef_sh
  cases hk : Nat.beq k' k with
  | false => rfl
  | true =>
    cases hi : Nat.beq i' i with
    | false => rfl
    | true => exact absurd ⟨ew_beq hk, ew_beq hi⟩ h
theorem ef_sh_at (s : ew_S) {k i n r : Nat} (h : r + 1 < n) : ef_sh s k i n k r i = s k (r + 1) i := by
  unfold ef_sh
  rw [ew_beqr, ew_beqr, show Nat.blt (r + 1) n = true from Nat.ble_eq_true_of_le h]
  rfl
theorem Fr.sh {P : Nat → Nat → Nat → Prop} {s s' : ew_S} (a : Fr P s s') {k i : Nat} (n : Nat) (h : ∀ p, P k p i) : Fr P s (ef_sh s' k i n) := fun k' p' i' z => (ef_sh_ne s' (fun q => z (by obtain ⟨rfl, rfl⟩ := q; exact h p'))).trans (a k' p' i' z)
def Ps (J : Nat) : Nat → Nat → Nat → Prop := fun k _ i => i = J ∧ (k = 10 ∨ k = 40 ∨ k = 593 ∨ k = 177)
def Pb (B C : Nat) : Nat → Nat → Nat → Prop := fun k p i => (i = B ∧ (k = 3 ∨ k = 8 ∨ k = 145)) ∨ (k = 4 ∧ p = 2 ∧ i = C)
theorem iv_c.to {f f' : Nat → Nat → Int32} (h : iv_c f) (e : ∀ p, f' 4 p = f 4 p) : iv_c f' := by
  unfold iv_c at h ⊢
  simp only [e]; exact h
theorem iv_r.to {k kc : Nat} {f f' : Nat → Nat → Int32} (h : iv_r k kc f) (e1 : f' k 1 = f k 1) (e2 : ∀ p, f' kc p = f kc p) : iv_r k kc f' := by
  unfold iv_r at h ⊢
  simp only [e1, e2]; exact h
theorem iv_b.to {f f' : Nat → Nat → Int32} (h : iv_b f) (e : ∀ p, f' 3 p = f 3 p) (e1 : ∀ p, f' 8 p = f 8 p) (e2 : ∀ p, f' 145 p = f 145 p) : iv_b f' := by
  refine ⟨?_, h.2.to (e1 1) e2⟩
  rw [e]; exact h.1
theorem iv_s.to {nb np : Nat} {f f' : Nat → Nat → Int32} (h : iv_s nb np f) (e : ∀ p, f' 10 p = f 10 p) (e1 : ∀ p, f' 40 p = f 40 p) (e2 : ∀ p, f' 593 p = f 593 p) : iv_s nb np f' := by
  obtain ⟨h1, h2, h3, h4, h5⟩ := h
  refine ⟨?_, h2.to (e1 1) e2, ?_, ?_, ?_⟩
  · rw [e]; exact h1
  · rw [e]; exact h3
  · rw [e, e]; exact h4
  · rw [e, e]; exact h5
theorem iv_p.to {f f' : Nat → Nat → Int32} (h : iv_p f) (e : ∀ p, f' 6 p = f 6 p) (e1 : ∀ p, f' 18 p = f 18 p) : iv_p f' := by
  unfold iv_p at h ⊢
  simp only [e, e1]; exact h
theorem ef_hind_r (b w p r : Int32) : ef_hind b w p r = -1 ∨ ∃ n, n < 5 ∧ ef_hind b w p r = ei n := by
  unfold ef_hind
  by_cases h : ¬ b = 0 ∧ ¬ w ≤ 10 * p
  · rw [if_pos h]; exact Or.inr ⟨1, by decide, rfl⟩
  · rw [if_neg h]
    by_cases h2 : w ≤ r
    · rw [if_pos h2]; exact Or.inl rfl
    · rw [if_neg h2]; exact Or.inr ⟨2, by decide, rfl⟩
theorem iv_r.first {k kc : Nat} {f : Nat → Nat → Int32} (h : iv_r k kc f) (n : ¬ f k 1 = 0) : ∃ c, c < 15 ∧ f kc 0 = ei c := by
  obtain ⟨m, h1, h2, h3⟩ := h
  refine h3 0 ?_
  rcases Nat.eq_zero_or_pos m with e | e
  · subst e; exact absurd h2 n
  · exact e
section
variable {q nb ns np T : Nat} {s s' : ew_S}
theorem Iv.ship (h : Iv q nb ns np T s) {j : Nat} (F : Fr (Ps (j + 5 * q)) s s') (k : iv_s nb np (ea s' (j + 5 * q))) : Iv q nb ns np T s' := by
  obtain ⟨a, b, hc, hb, hs, hp, ht⟩ := h
  refine ⟨a, ⟨?_, ?_, ?_⟩, fun c z => ?_, fun c z => ?_, fun c z => ?_, fun c z => ?_, ht.to (fun i => F 4 0 i (fun w => by have := w.2; omega))⟩
  · rw [F 9 3 q (fun w => by have := w.2; omega)]; exact b.1
  · rw [F 9 4 q (fun w => by have := w.2; omega)]; exact b.2.1
  · rw [F 7 1 0 (fun w => by have := w.2; omega)]; exact b.2.2
  · exact (hc c z).to (fun p => F 4 p _ (fun w => by have := w.2; omega))
  · exact (hb c z).to (fun p => F 3 p _ (fun w => by have := w.2; omega)) (fun p => F 8 p _ (fun w => by have := w.2; omega)) (fun p => F 145 p _ (fun w => by have := w.2; omega))
  · by_cases e : c = j
    · rw [e]; exact k
    · exact (hs c z).to (fun p => F 10 p _ (fun w => by have := w.1; omega)) (fun p => F 40 p _ (fun w => by have := w.1; omega)) (fun p => F 593 p _ (fun w => by have := w.1; omega))
  · exact (hp c z).to (fun p => F 6 p _ (fun w => by have := w.2; omega)) (fun p => F 18 p _ (fun w => by have := w.2; omega))
theorem Iv.brk (h : Iv q nb ns np T s) {b c : Nat} (F : Fr (Pb (b + 2 * q) (c + 15 * q)) s s') (k : iv_b (ea s' (b + 2 * q))) (k2 : c < 15 → iv_c (ea s' (c + 15 * q))) : Iv q nb ns np T s' := by
  obtain ⟨a, b', hc, hb, hs, hp, ht⟩ := h
  have n : ∀ {k p i : Nat}, k ≠ 3 → k ≠ 8 → k ≠ 145 → k ≠ 4 → s' k p i = s k p i := fun h1 h2 h3 h4 => F _ _ _ (fun w => by
    rcases w with w | w
    · have := w.2; omega
    · have := w.1; omega)
  refine ⟨a, ⟨?_, ?_, ?_⟩, fun d z => ?_, fun d z => ?_, fun d z => ?_, fun d z => ?_, ht.to (fun i => F 4 0 i (fun w => by
    rcases w with w | w
    · have := w.2; omega
    · have := w.2.1; omega))⟩
  · rw [n (by decide) (by decide) (by decide) (by decide)]; exact b'.1
  · rw [n (by decide) (by decide) (by decide) (by decide)]; exact b'.2.1
  · rw [n (by decide) (by decide) (by decide) (by decide)]; exact b'.2.2
  · by_cases e : d = c
    · rw [e]; rw [e] at z; exact k2 z
    · exact (hc d z).to (fun p => F 4 p _ (fun w => by
        rcases w with w | w
        · have := w.2; omega
        · have := w.2.2; omega))
  · by_cases e : d = b
    · rw [e]; exact k
    · have m : ∀ {k p : Nat}, k ≠ 4 → s' k p (d + 2 * q) = s k p (d + 2 * q) := fun h => F _ _ _ (fun w => by
        rcases w with w | w
        · have := w.1; omega
        · have := w.1; omega)
      exact (hb d z).to (fun p => m (by decide)) (fun p => m (by decide)) (fun p => m (by decide))
  · exact (hs d z).to (fun p => n (by decide) (by decide) (by decide) (by decide)) (fun p => n (by decide) (by decide) (by decide) (by decide)) (fun p => n (by decide) (by decide) (by decide) (by decide))
  · exact (hp d z).to (fun p => n (by decide) (by decide) (by decide) (by decide)) (fun p => n (by decide) (by decide) (by decide) (by decide))
theorem iv_r.take {k kc J : Nat} (h : iv_r k kc (ea s J)) (n : ¬ s k 1 J = 0) (hk : k ≠ kc) : iv_r k kc (ea (ew_u (ef_sh s kc J (s k 1 J).toNatClampNeg) k 1 J (ei ((s k 1 J).toNatClampNeg - 1))) J) := by
  obtain ⟨m, h1, h2, h3⟩ := h
  have h2' : s k 1 J = ei m := h2
  rw [h2', ei_nat (by omega)]
  refine ⟨m - 1, by omega, ew_u_self _ _ _ _ _, fun r hr => ?_⟩
  obtain ⟨c, c1, c2⟩ := h3 (r + 1) (by omega)
  refine ⟨c, c1, ?_⟩
  have e1 : ea (ew_u (ef_sh s kc J m) k 1 J (ei (m - 1))) J kc r = ef_sh s kc J m kc r J := ew_u_ne _ _ (fun w => hk w.1.symm)
  rw [e1, ef_sh_at s (by omega)]
  exact c2
theorem iv_gf (h : Iv q nb ns np T s) {j : Nat} (hj : j < ns) (h0 : s 10 7 (j + 5 * q) = 0) (h8 : s 10 8 (j + 5 * q) = -1) : Fr (Ps (j + 5 * q)) s (sp_gf q (j + 5 * q) s).2 ∧ iv_s nb np (ea (sp_gf q (j + 5 * q) s).2 (j + 5 * q)) ∧ ((sp_gf q (j + 5 * q) s).1 = -1 ∨ ∃ r, r < 5 ∧ (sp_gf q (j + 5 * q) s).1 = ei r) := by
  obtain ⟨a1, a2, a3, a4, a5⟩ := h.2.2.2.2.1 j hj
  have a5' : s 10 7 (j + 5 * q) = 0 ∧ s 10 8 (j + 5 * q) = -1 := ⟨h0, h8⟩
  generalize hJ : j + 5 * q = J at *
  have P : ∀ {k p : Nat}, (k = 10 ∨ k = 40 ∨ k = 593 ∨ k = 177) → Ps J k p J := fun z => ⟨rfl, z⟩
  unfold sp_gf
  split
  · exact ⟨Fr.rf _ _, ⟨a1, a2, a3, a4, a5⟩, Or.inr ⟨0, by decide, rfl⟩⟩
  split
  · rename_i n0 n1
    obtain ⟨c, c1, c2⟩ := a2.first n0
    split
    · refine ⟨((Fr.u (Fr.rf _ _) _ (P (Or.inl rfl))).sh _ (fun p => P (Or.inr (Or.inr (Or.inl rfl))))).u _ (P (Or.inr (Or.inl rfl))), ⟨?_, ?_, a3, a4, Or.inl a5'⟩, Or.inl rfl⟩
      · exact ⟨c, c1, (ew_u_self s 10 2 J _).trans c2⟩
      · have a2' : iv_r 40 593 (ea (ew_u s 10 2 J (s 593 0 J)) J) := a2
        exact a2'.take n0 (by decide)
    · rename_i n2
      refine ⟨Fr.rf _ _, ⟨a1, a2, a3, a4, a5⟩, ?_⟩
      dsimp only
      unfold ef_hind at n2 ⊢
      split
      · exact Or.inr ⟨1, by decide, rfl⟩
      · split
        · exact Or.inl rfl
        · exact Or.inr ⟨2, by decide, rfl⟩
  · refine ⟨Fr.u (Fr.rf _ _) _ (P (Or.inr (Or.inl rfl))), ⟨a1, ⟨0, by decide, ew_u_self s 40 1 J _, fun r hr => absurd hr (Nat.not_lt_zero _)⟩, a3, a4, a5⟩, Or.inr ⟨0, by decide, rfl⟩⟩
theorem sp_fr_F (J : Nat) (s : ew_S) : Fr (Ps J) s (sp_fr J s) := ((Fr.rf _ _).u _ ⟨rfl, Or.inl rfl⟩).u _ ⟨rfl, Or.inl rfl⟩
theorem sp_fr_7 (J : Nat) (s : ew_S) : sp_fr J s 10 7 J = 0 := ew_u_self s 10 7 J 0
theorem sp_fr_8 (J : Nat) (s : ew_S) : sp_fr J s 10 8 J = -1 := ew_u_self _ 10 8 J (-1)
theorem iv_fr (h : Iv q nb ns np T s) {j : Nat} (hj : j < ns) : iv_s nb np (ea (sp_fr (j + 5 * q) s) (j + 5 * q)) := by
  obtain ⟨a1, a2, a3, a4, a5⟩ := h.2.2.2.2.1 j hj
  exact ⟨a1, a2, a3, a4, Or.inl ⟨sp_fr_7 _ _, sp_fr_8 _ _⟩⟩
theorem iv_gb (h : Iv q nb ns np T s) {j b : Nat} (hj : j < ns) (hb : b < nb) : Fr (Ps (j + 5 * q)) s (sp_gb q (j + 5 * q) (b + 2 * q) s).2 ∧ iv_s nb np (ea (sp_gb q (j + 5 * q) (b + 2 * q) s).2 (j + 5 * q)) ∧ ((sp_gb q (j + 5 * q) (b + 2 * q) s).1 = -1 ∨ ∃ r, r < 5 ∧ (sp_gb q (j + 5 * q) (b + 2 * q) s).1 = ei r) := by
  obtain ⟨a1, a2, a3, a4, a5⟩ := h.2.2.2.2.1 j hj
  obtain ⟨⟨c, c1, c2⟩, -⟩ := h.2.2.2.1 b hb
  have hfr := iv_fr h hj
  have hgf := iv_gf (h.ship (sp_fr_F _ _) hfr) hj (sp_fr_7 _ _) (sp_fr_8 _ _)
  generalize hJ : j + 5 * q = J at *
  have P : ∀ {k p : Nat}, (k = 10 ∨ k = 40 ∨ k = 593 ∨ k = 177) → Ps J k p J := fun z => ⟨rfl, z⟩
  unfold sp_gb
  by_cases g1 : s 3 4 (b + 2 * q) = s 10 2 J
  · rw [if_pos g1]
    by_cases g2 : ef_hind (if s 10 7 J = 2 then 0 else 1) (sp_w q (s 3 1 (b + 2 * q)).toNatClampNeg s) (s 10 5 J) (s 10 4 J) = -1
    · rw [if_pos g2]
      refine ⟨((Fr.u (Fr.rf _ _) _ (P (Or.inl rfl))).u _ (P (Or.inr (Or.inl rfl)))).u _ (P (Or.inl rfl)), ⟨⟨c, c1, (ew_u_self s 10 2 J _).trans c2⟩, ⟨0, by decide, ew_u_self _ 40 1 J _, fun r hr => absurd hr (Nat.not_lt_zero _)⟩, a3, a4, a5⟩, Or.inl rfl⟩
    · rw [if_neg g2]
      refine ⟨sp_fr_F _ _, hfr, ?_⟩
      exact ef_hind_r _ _ _ _
  · rw [if_neg g1]
    split
    · exact ⟨Fr.rf _ _, ⟨a1, a2, a3, a4, a5⟩, Or.inr ⟨4, by decide, rfl⟩⟩
    · exact ⟨(sp_fr_F _ _).tr hgf.1, hgf.2.1, hgf.2.2⟩
theorem iv_go (h : Iv q nb ns np T s) {j : Nat} (hj : j < ns) (h3 : ¬ s 10 7 (j + 5 * q) = 3) : Fr (Ps (j + 5 * q)) s (sp_go q (j + 5 * q) s).2 ∧ iv_s nb np (ea (sp_go q (j + 5 * q) s).2 (j + 5 * q)) ∧ ((sp_go q (j + 5 * q) s).1 = -1 ∨ ∃ r, r < 5 ∧ (sp_go q (j + 5 * q) s).1 = ei r) := by
  have a5 := (h.2.2.2.2.1 j hj).2.2.2.2
  unfold sp_go
  split
  · rename_i e
    rcases a5 with z | z | ⟨z, -⟩
    · exact iv_gf h hj z.1 z.2
    · exact absurd z.1 h3
    · have z : s 10 7 (j + 5 * q) = 1 ∨ s 10 7 (j + 5 * q) = 2 := z
      rw [e] at z; exact absurd z (by decide)
  · rename_i e
    rcases a5 with z | z | ⟨-, b, hb, z⟩
    · exact absurd z.1 e
    · exact absurd z.1 h3
    · have z : s 10 8 (j + 5 * q) = ei b := z
      have := h.1.1
      rw [z, ei_nat (by omega)]
      exact iv_gb h hj hb
theorem iv_wt {J : Nat} (r : Int32) (h : iv_s nb np (ea s J)) : Fr (Ps J) s (sp_wt q J r s) ∧ iv_s nb np (ea (sp_wt q J r s) J) :=
  ⟨((Fr.rf _ _).u _ ⟨rfl, Or.inr (Or.inr (Or.inr rfl))⟩).u _ ⟨rfl, Or.inl rfl⟩, h⟩
theorem iv_ar {J j : Nat} (r : Int32) (h : iv_s nb np (ea s J)) : Fr (Ps J) s (sp_ar q J j r s).2 ∧ iv_s nb np (ea (sp_ar q J j r s).2 J) := by
  unfold sp_ar sp_ap
  split
  · split
    · obtain ⟨a1, a2, a3, a4, a5⟩ := h
      refine ⟨((((Fr.rf _ _).u _ ⟨rfl, Or.inl rfl⟩).u _ ⟨rfl, Or.inl rfl⟩).u _ ⟨rfl, Or.inr (Or.inl rfl)⟩).u _ ⟨rfl, Or.inl rfl⟩, a1, ⟨0, by decide, ew_u_self _ 40 1 J _, fun r hr => absurd hr (Nat.not_lt_zero _)⟩, a3, a4, Or.inr (Or.inl ⟨ew_u_self _ 10 7 J _, ew_u_self _ 10 8 J _⟩)⟩
    · exact iv_wt _ h
  · split
    · exact ⟨Fr.rf _ _, h⟩
    · exact iv_wt _ h
theorem iv_ms (h : Iv q nb ns np T s) {j : Nat} (hj : j < ns) : Fr (Ps (j + 5 * q)) s (sp_ms q j s).2 ∧ iv_s nb np (ea (sp_ms q j s).2 (j + 5 * q)) := by
  unfold sp_ms
  split
  · exact ⟨Fr.rf _ _, h.2.2.2.2.1 j hj⟩
  · rename_i e
    have g := iv_go h hj e
    have a := iv_ar (q := q) (j := j) (sp_go q (j + 5 * q) s).1 g.2.1
    exact ⟨g.1.tr a.1, a.2⟩
/-- the ships of sea q, and nothing else -/
def Pm (q : Nat) : Nat → Nat → Nat → Prop := fun k _ i => 5 * q ≤ i ∧ i < 5 + 5 * q ∧ (k = 10 ∨ k = 40 ∨ k = 593 ∨ k = 177)
theorem iv_m (h : Iv q nb ns np T s) : ∀ j, j ≤ ns → Fr (Pm q) s (sp_m q s j).2 ∧ Iv q nb ns np T (sp_m q s j).2
  | 0, _ => ⟨Fr.rf _ _, h⟩
  | j + 1, hj => by
    have a := iv_m h j (by omega)
    have b := iv_ms a.2 (j := j) (by omega)
    have := h.1
    exact ⟨a.1.tr (b.1.mono (fun k p i w => ⟨by have := w.1; omega, by have := w.1; omega, w.2⟩)), a.2.ship b.1 b.2⟩
end
