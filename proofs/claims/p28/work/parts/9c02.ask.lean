/-! What the chart, the trial and the law's arrays leave alone; what the law asks. -/
def Pla : Nat → Nat → Nat → Prop := fun k _ _ => k = 625 ∨ k = 657 ∨ k = 689 ∨ k = 721
def Pz : Nat → Nat → Nat → Prop := fun k p o => Pct k p o ∨ Pla k p o
theorem Pz.no {k p o : Nat} (h1 : k ≠ 209) (h2 : k ≠ 241) (h3 : k < 600) (h : (k = 4 → o < 15) ∧ (k = 9 → o = 0) ∧ (k = 3 → o < 2) ∧ (k = 8 → o < 2) ∧ (k = 145 → o < 2) ∧ (k = 10 → o < 5) ∧ (k = 40 → o < 5) ∧ (k = 593 → o < 5) ∧ (k = 177 → o < 5)) : ¬ Pz k p o := fun w => by
  rcases w with w | w
  · exact Pct.no h1 h2 h w
  · unfold Pla at w
    omega
section
variable {s s' : ew_S} {nb ns np T t ρ : Nat} {told : Int32}
theorem Fr.pz (F : Fr Pct s s') : Fr Pz s s' := F.mono (fun _ _ _ h => Or.inl h)
theorem Fr.la (F : Fr Pla s s') : Fr Pz s s' := F.mono (fun _ _ _ h => Or.inr h)
theorem pz4 (F : Fr Pz s s') {p c : Nat} (hc : c < 15) : s' 4 p c = s 4 p c := F 4 p c (Pz.no (by decide) (by decide) (by decide) (by omega))
theorem pz9 (F : Fr Pz s s') {p : Nat} : s' 9 p 0 = s 9 p 0 := F 9 p 0 (Pz.no (by decide) (by decide) (by decide) (by omega))
theorem pz7 (F : Fr Pz s s') {p o : Nat} : s' 7 p o = s 7 p o := F 7 p o (Pz.no (by decide) (by decide) (by decide) (by omega))
theorem pz6 (F : Fr Pz s s') {p o : Nat} : s' 6 p o = s 6 p o := F 6 p o (Pz.no (by decide) (by decide) (by decide) (by omega))
theorem pz18 (F : Fr Pz s s') {p o : Nat} : s' 18 p o = s 18 p o := F 18 p o (Pz.no (by decide) (by decide) (by decide) (by omega))
theorem pz81 (F : Fr Pz s s') {p o : Nat} : s' 81 p o = s 81 p o := F 81 p o (Pz.no (by decide) (by decide) (by decide) (by omega))
theorem pz113 (F : Fr Pz s s') {p o : Nat} : s' 113 p o = s 113 p o := F 113 p o (Pz.no (by decide) (by decide) (by decide) (by omega))
theorem pz3 (F : Fr Pz s s') {p o : Nat} (ho : o < 2) : s' 3 p o = s 3 p o := F 3 p o (Pz.no (by decide) (by decide) (by decide) (by omega))
theorem pz8 (F : Fr Pz s s') {p o : Nat} (ho : o < 2) : s' 8 p o = s 8 p o := F 8 p o (Pz.no (by decide) (by decide) (by decide) (by omega))
theorem pz145 (F : Fr Pz s s') {p o : Nat} (ho : o < 2) : s' 145 p o = s 145 p o := F 145 p o (Pz.no (by decide) (by decide) (by decide) (by omega))
theorem pz10 (F : Fr Pz s s') {p o : Nat} (ho : o < 5) : s' 10 p o = s 10 p o := F 10 p o (Pz.no (by decide) (by decide) (by decide) (by omega))
theorem pz40 (F : Fr Pz s s') {p o : Nat} (ho : o < 5) : s' 40 p o = s 40 p o := F 40 p o (Pz.no (by decide) (by decide) (by decide) (by omega))
theorem pz593 (F : Fr Pz s s') {p o : Nat} (ho : o < 5) : s' 593 p o = s 593 p o := F 593 p o (Pz.no (by decide) (by decide) (by decide) (by omega))
theorem pz177 (F : Fr Pz s s') {p o : Nat} (ho : o < 5) : s' 177 p o = s 177 p o := F 177 p o (Pz.no (by decide) (by decide) (by decide) (by omega))
theorem Iv.pz (h : Iv 0 nb ns np T s) (F : Fr Pz s s') : Iv 0 nb ns np T s' := by
  obtain ⟨a, b, hc, hb, hs, hp, n, t1, t2⟩ := h
  refine ⟨a, ⟨(pz9 F).trans b.1, (pz9 F).trans b.2.1, (pz7 F).trans b.2.2⟩, fun c z => (hc c z).to (fun p => pz4 F z), fun c z => (hb c z).to (fun p => pz3 F (by omega)) (fun p => pz8 F (by omega)) (fun p => pz145 F (by omega)), fun c z => (hs c z).to (fun p => pz10 F (by omega)) (fun p => pz40 F (by omega)) (fun p => pz593 F (by omega)), fun c z => (hp c z).to (fun p => pz6 F) (fun p => pz18 F), n, t1, fun c z => (pz4 F (by omega)).trans (t2 c z)⟩
theorem sp_ice_pz (F : Fr Pz s s') : sp_ice s' = sp_ice s := ef_sum_cg _ _ 15 (fun c hc => pz4 F hc)
theorem LI.pz (h : LI nb ns np T t ρ told s) (F : Fr Pz s s') : LI nb ns np T t ρ told s' := by
  obtain ⟨⟨I, u, l⟩, xi, h5, hi, ⟨a, b, hab, ea, eb⟩, dm⟩ := h
  have h5' := I.1.2.1
  refine ⟨⟨I.pz F, ⟨fun b h1 h2 => ?_, fun j h1 h2 => ?_, fun p h1 h2 => ?_⟩, l.le (fun j hj => Or.inl ⟨pz10 F (by omega), pz10 F (by omega)⟩)⟩, ⟨fun c hc => by rw [pz4 F hc]; exact xi.1 c hc, fun c hc => by rw [pz4 F hc]; exact xi.2.1 c hc, fun j hj => (xi.2.2 j hj).cg (pz10 F hj) (pz10 F hj) (pz10 F hj) (pz10 F hj) (fun p => pz6 F)⟩, (pz9 F).trans h5, by rw [sp_ice_pz F, pz9 F]; exact hi, ⟨a, b, hab, (pz6 F).trans ea, (pz6 F).trans eb⟩, fun j hj => by rw [pz10 F hj]; exact dm j hj⟩
  · obtain ⟨k1, k2⟩ := u.1 b h1 h2
    exact ⟨(pz3 F h2).trans k1, (pz8 F h2).trans k2⟩
  · obtain ⟨⟨k1, k2, k3, k4, k5⟩, k6, k7⟩ := u.2.1 j h1 h2
    exact ⟨⟨(pz10 F h2).trans k1, (pz10 F h2).trans k2, (pz10 F h2).trans k3, (pz10 F h2).trans k4, (pz10 F h2).trans k5⟩, (pz40 F h2).trans k6, fun w hw => (pz177 F h2).trans (k7 w hw)⟩
  · obtain ⟨k1, k2⟩ := u.2.2 p h1 h2
    exact ⟨(pz6 F).trans k1, fun j hj => (pz18 F).trans (k2 j hj)⟩
/-- seas that differ in chart, trial and the law's arrays alone -/
theorem Sm.pz (F : Fr Pz s s') : Sm 0 0 s s' := by
  intro k p i hr
  rw [Nat.mul_zero, Nat.add_zero]
  refine F k p i (fun w => ?_)
  by_cases k4 : k = 4
  · subst k4; have hr : p < 5 ∧ i < 15 := hr; exact Pz.no (by decide) (by decide) (by decide) (by omega) w
  by_cases k3 : k = 3
  · subst k3; have hr : 0 < p ∧ p < 5 ∧ i < 2 := hr; exact Pz.no (by decide) (by decide) (by decide) (by omega) w
  by_cases k8 : k = 8
  · subst k8; have hr : p = 1 ∧ i < 2 := hr; exact Pz.no (by decide) (by decide) (by decide) (by omega) w
  by_cases k145 : k = 145
  · subst k145; have hr : p < 8 ∧ i < 2 := hr; exact Pz.no (by decide) (by decide) (by decide) (by omega) w
  by_cases k10 : k = 10
  · subst k10; have hr : 1 < p ∧ p < 12 ∧ i < 5 := hr; exact Pz.no (by decide) (by decide) (by decide) (by omega) w
  by_cases k40 : k = 40
  · subst k40; have hr : p = 1 ∧ i < 5 := hr; exact Pz.no (by decide) (by decide) (by decide) (by omega) w
  by_cases k593 : k = 593
  · subst k593; have hr : p < 8 ∧ i < 5 := hr; exact Pz.no (by decide) (by decide) (by decide) (by omega) w
  by_cases k177 : k = 177
  · subst k177; have hr : p < 5 ∧ i < 5 := hr; exact Pz.no (by decide) (by decide) (by decide) (by omega) w
  by_cases k9 : k = 9
  · subst k9; have hr : 2 < p ∧ p < 7 ∧ i = 0 := hr; exact Pz.no (by decide) (by decide) (by decide) (by omega) w
  have h : k = 6 ∨ k = 18 ∨ k = 81 ∨ k = 113 := by
    unfold sm_R at hr
    rw [ew_bne k4, ew_bne k3, ew_bne k8, ew_bne k145, ew_bne k10, ew_bne k40, ew_bne k593, ew_bne k177, ew_bne k9] at hr
    simp only [cond_false, Bool.or_eq_true] at hr
    rcases hr with ((hr | hr) | hr) | hr
    · exact Or.inl (ew_beq hr)
    · exact Or.inr (Or.inl (ew_beq hr))
    · exact Or.inr (Or.inr (Or.inl (ew_beq hr)))
    · exact Or.inr (Or.inr (Or.inr (ew_beq hr)))
  rcases h with rfl | rfl | rfl | rfl <;> exact Pz.no (by decide) (by decide) (by decide) (by omega) w
theorem Sm.tr {s s1 s2 : ew_S} (a : Sm 0 0 s s1) (b : Sm 0 0 s1 s2) : Sm 0 0 s s2 := fun k p i hr => (b k p i hr).trans (a k p i hr)
/-- what many says is as before -/
theorem sp_mv_pz (I : Iv 0 nb ns np T s) (F : Fr Pz s s') (w : Int32) : sp_mv w s' = sp_mv w s := by
  have h5 := I.1.2.1
  have e4 : (s' 9 4 0).toNatClampNeg = ns := by rw [pz9 F, I.2.1.2.1, ei_nat (by omega)]
  have e4' : (s 9 4 0).toNatClampNeg = ns := by rw [I.2.1.2.1, ei_nat (by omega)]
  unfold sp_mv
  rw [e4, e4', pz9 F, pz9 F, pz9 F, pz9 F, pz7 F, sp_ice_pz F]
  rw [ef_sum_cg (fun c => if s' 4 2 c ≤ 0 then 0 else 1) (fun c => if s 4 2 c ≤ 0 then 0 else 1) 15 (fun c hc => by rw [pz4 F hc])]
  rw [ef_sum_cg (fun j => if s' 10 7 j = 3 then 1 else 0) (fun j => if s 10 7 j = 3 then 1 else 0) ns (fun c hc => by rw [pz10 F (by omega)])]
  rw [ef_sum_cg (fun j => ef_sum (fun p => s' 177 p j) 5) (fun j => ef_sum (fun p => s 177 p j) 5) ns (fun c hc => ef_sum_cg _ _ 5 (fun p _ => pz177 F (by omega)))]
  rw [ef_sum_cg (fun j => s' 10 10 j) (fun j => s 10 10 j) ns (fun c hc => pz10 F (by omega))]
  rw [ef_sum_cg (fun j => s' 10 9 j) (fun j => s 10 9 j) ns (fun c hc => pz10 F (by omega))]
end
/-! What the five hours ahead say. -/
def sp_a0 (j : Nat) (x w : Int32) (s : ew_S) : Nat → Nat → Int32
  | 0, _ => -1
  | r + 1, g => if (sp_hs 0 x w s (g + 1)).2 10 7 j = 3 then ei (g + 1) else sp_a0 j x w s r (g + 1)
section
variable {s a : ew_S} {np T : Nat} {x w : Int32}
theorem ai_a0 (I : Iv 0 2 5 np T s) (hx : 0 ≤ x ∧ x ≤ 9) (c : cp_d 2 5 s a) {j : Nat} (hj : j < 5) : ∀ r g, T + 135 * (g + r) ≤ 100000000 → sp_ai j x w a r g = sp_a0 j x w s r g
  | 0, _, _ => rfl
  | r + 1, g, hT => by
    have e : (sp_hs 1 x w a (g + 1)).2 10 7 (j + 5) = (sp_hs 0 x w s (g + 1)).2 10 7 j := (sm_hs (sm_cp c) I x w hx (g + 1) (by omega)).2.j (p := 7) (by omega) (by omega) hj
    unfold sp_ai sp_a0
    rw [e, ai_a0 I hx c hj r (g + 1) (by omega)]
theorem a0_sm {s' : ew_S} (I : Iv 0 2 5 np T s) (hx : 0 ≤ x ∧ x ≤ 9) (h : Sm 0 0 s s') {j : Nat} (hj : j < 5) : ∀ r g, T + 135 * (g + r) ≤ 100000000 → sp_a0 j x w s' r g = sp_a0 j x w s r g
  | 0, _, _ => rfl
  | r + 1, g, hT => by
    have e : (sp_hs 0 x w s' (g + 1)).2 10 7 j = (sp_hs 0 x w s (g + 1)).2 10 7 j := (sm_hs h I x w hx (g + 1) (by omega)).2.j (p := 7) (by omega) (by omega) hj
    unfold sp_a0
    rw [e, a0_sm I hx h hj r (g + 1) (by omega)]
theorem a0_is (j : Nat) : ∀ r g, (sp_a0 j x w s r g = -1 ∧ ∀ h, g < h → h ≤ g + r → ¬ (sp_hs 0 x w s h).2 10 7 j = 3) ∨ ∃ h0, g < h0 ∧ h0 ≤ g + r ∧ sp_a0 j x w s r g = ei h0 ∧ (sp_hs 0 x w s h0).2 10 7 j = 3 ∧ ∀ h, g < h → h < h0 → ¬ (sp_hs 0 x w s h).2 10 7 j = 3
  | 0, g => Or.inl ⟨rfl, fun h h1 h2 => by omega⟩
  | r + 1, g => by
    unfold sp_a0
    by_cases e : (sp_hs 0 x w s (g + 1)).2 10 7 j = 3
    · rw [if_pos e]
      exact Or.inr ⟨g + 1, by omega, by omega, rfl, e, fun h h1 h2 => by omega⟩
    · rw [if_neg e]
      have step : ∀ h, g < h → (h = g + 1 ∨ g + 1 < h) := fun h hh => by omega
      rcases a0_is j r (g + 1) with ⟨h1, h2⟩ | ⟨h0, h1, h2, h3, h4, h5⟩
      · refine Or.inl ⟨h1, fun h k1 k2 => ?_⟩
        rcases step h k1 with rfl | k
        · exact e
        · exact h2 h k (by omega)
      · refine Or.inr ⟨h0, by omega, by omega, h3, h4, fun h k1 k2 => ?_⟩
        rcases step h k1 with rfl | k
        · exact e
        · exact h5 h k k2
end
