/-! What the model's calls leave as it was: the old objects; new ones may come. -/
theorem ep_self (m : ew_H) (k i p : Nat) (v : ew_V) : (ew_put m k i p v).1 k i p = v := by
  unfold ew_put
  dsimp only
  rw [ew_beqr, cond_true, ew_mg_eq, ew_beqr, ew_beqr]; rfl
theorem ep_ne (m : ew_H) {k i p k' i' p' : Nat} (v : ew_V) (h : ¬ (k' = k ∧ i' = i ∧ p' = p)) : (ew_put m k i p v).1 k' i' p' = m.1 k' i' p' := by
  unfold ew_put
  dsimp only
  cases hk : Nat.beq k' k with
  | false => rfl
  | true =>
    rw [cond_true, ew_mg_eq]
    cases hp : Nat.beq p' p with
    | false => rfl
    | true =>
      cases hi : Nat.beq i' i with
      | false => rfl
      | true => exact absurd ⟨ew_beq hk, ew_beq hi, ew_beq hp⟩ h
theorem em_self (m : ew_H) (k i N : Nat) (z : Nat → ew_V) (p : Nat) : (ew_mk m k i N z).1 k i p = z p := by
  unfold ew_mk
  dsimp only
  rw [ew_beqr, cond_true, ew_beqr, cond_true]
theorem em_ne (m : ew_H) {k i k' i' : Nat} (N : Nat) (z : Nat → ew_V) (p : Nat) (h : ¬ (k' = k ∧ i' = i)) : (ew_mk m k i N z).1 k' i' p = m.1 k' i' p := by
  unfold ew_mk
  dsimp only
  cases hk : Nat.beq k' k with
  | false => rfl
  | true =>
    cases hi : Nat.beq i' i with
    | false => rfl
    | true => exact absurd ⟨ew_beq hk, ew_beq hi⟩ h
theorem em_xs (m : ew_H) (k i N : Nat) (z : Nat → ew_V) : (ew_mk m k i N z).2.2.1 k i = true := by
  unfold ew_mk
  dsimp only
  rw [ew_beqr, cond_true, ew_beqr, cond_true]
theorem em_xn (m : ew_H) {k i k' i' : Nat} (N : Nat) (z : Nat → ew_V) (h : ¬ (k' = k ∧ i' = i)) : (ew_mk m k i N z).2.2.1 k' i' = m.2.2.1 k' i' := by
  unfold ew_mk
  dsimp only
  cases hk : Nat.beq k' k with
  | false => rfl
  | true =>
    cases hi : Nat.beq i' i with
    | false => rfl
    | true => exact absurd ⟨ew_beq hk, ew_beq hi⟩ h
theorem em_xo (m : ew_H) {k i k' i' : Nat} (N : Nat) (z : Nat → ew_V) (h : m.2.2.1 k' i' = true) : (ew_mk m k i N z).2.2.1 k' i' = true := by
  by_cases e : k' = k ∧ i' = i
  · obtain ⟨rfl, rfl⟩ := e; exact em_xs _ _ _ _ _
  · rw [em_xn _ _ _ e]; exact h
theorem em_cs (m : ew_H) (k i N : Nat) (z : Nat → ew_V) : (ew_mk m k i N z).2.2.2.1 k = m.2.2.2.1 k + 1 := by
  unfold ew_mk
  dsimp only
  rw [ew_beqr, cond_true]
theorem em_cn (m : ew_H) {k k' : Nat} (i N : Nat) (z : Nat → ew_V) (h : ¬ k' = k) : (ew_mk m k i N z).2.2.2.1 k' = m.2.2.2.1 k' := by
  unfold ew_mk
  dsimp only
  rw [ew_bne h, cond_false]
theorem ew_hp_pt {s : ew_S} {m : ew_H} {k i p : Nat} {v : ew_V} (h : ew_sh k p = none) : ew_put (ew_hp s m) k i p v = ew_hp s (ew_put m k i p v) := by
  refine Prod.ext ?_ rfl
  funext k' i' p'
  by_cases e : k' = k ∧ i' = i ∧ p' = p
  · obtain ⟨rfl, rfl, rfl⟩ := e
    rw [ep_self]
    show v = ew_hq s (ew_put m k' i' p' v).1 k' i' p'
    unfold ew_hq
    rw [h]
    exact (ep_self _ _ _ _ _).symm
  · rw [ep_ne _ _ e]
    show ew_hq s m.1 k' i' p' = ew_hq s (ew_put m k i p v).1 k' i' p'
    unfold ew_hq
    rw [ep_ne _ _ e]
theorem ew_hp_mkt {s : ew_S} {m : ew_H} {k i N : Nat} {z : Nat → ew_V} (h : ∀ p, ew_sh k p = none) : ew_mk (ew_hp s m) k i N z = ew_hp s (ew_mk m k i N z) := by
  refine Prod.ext ?_ rfl
  funext k' i' p'
  by_cases e : k' = k ∧ i' = i
  · obtain ⟨rfl, rfl⟩ := e
    rw [em_self]
    show z p' = ew_hq s (ew_mk m k' i' N z).1 k' i' p'
    unfold ew_hq
    rw [h]
    exact (em_self _ _ _ _ _ _).symm
  · rw [em_ne _ _ _ _ e]
    show ew_hq s m.1 k' i' p' = ew_hq s (ew_mk m k i N z).1 k' i' p'
    unfold ew_hq
    rw [em_ne _ _ _ _ e]
/-- object i of kind k is all zero -/
def ef_z (s : ew_S) (k i : Nat) : ew_S := fun k' p' i' => bif Nat.beq k' k && Nat.beq i' i then 0 else s k' p' i'
theorem ef_z_self (s : ew_S) (k i p : Nat) : ef_z s k i k p i = 0 := by
  unfold ef_z
  rw [ew_beqr, ew_beqr]; rfl
theorem ef_z_ne (s : ew_S) {k i k' i' : Nat} (p : Nat) (h : ¬ (k' = k ∧ i' = i)) : ef_z s k i k' p i' = s k' p i' := by
  unfold ef_z
  cases hk : Nat.beq k' k with
  | false => rfl
  | true =>
    cases hi : Nat.beq i' i with
    | false => rfl
    | true => exact absurd ⟨ew_beq hk, ew_beq hi⟩ h
theorem ew_hp_mkn {s : ew_S} {m : ew_H} {k i N : Nat} (h : ∀ p, ew_sh k p = some none) : ew_mk (ew_hp s m) k i N (fun _ => ew_i 0) = ew_hp (ef_z s k i) (ew_mk m k i N (fun _ => ew_i 0)) := by
  refine Prod.ext ?_ rfl
  funext k' i' p'
  by_cases e : k' = k ∧ i' = i
  · obtain ⟨rfl, rfl⟩ := e
    rw [em_self]
    show ew_i 0 = ew_hq (ef_z s k' i') _ k' i' p'
    unfold ew_hq
    rw [h]
    dsimp only
    rw [ef_z_self]
  · rw [em_ne _ _ _ _ e]
    show ew_hq s m.1 k' i' p' = ew_hq (ef_z s k i) (ew_mk m k i N (fun _ => ew_i 0)).1 k' i' p'
    unfold ew_hq
    rw [em_ne _ _ _ _ e, ef_z_ne _ _ e]
/-- kinds that the model's calls never change -/
def ef_K (k : Nat) : Bool := !(Nat.beq k 1 || Nat.beq k 12 || Nat.beq k 13 || Nat.beq k 14 || Nat.beq k 15 || Nat.beq k 16 || Nat.beq k 2 || Nat.beq k 34 || Nat.beq k 66 || Nat.beq k 98 || Nat.beq k 130 || Nat.beq k 162 || Nat.beq k 20 || Nat.beq k 52 || Nat.beq k 84 || Nat.beq k 116 || Nat.beq k 148 || Nat.beq k 180 || Nat.beq k 273 || Nat.beq k 305 || Nat.beq k 337 || Nat.beq k 50 || Nat.beq k 82 || Nat.beq k 369 || Nat.beq k 401 || Nat.beq k 433 || Nat.beq k 465 || Nat.beq k 497 || Nat.beq k 529 || Nat.beq k 561 || Nat.beq k 244)
/-- lists -/
def ef_L (k : Nat) : Bool := Nat.beq k 2 || Nat.beq k 34 || Nat.beq k 66 || Nat.beq k 98 || Nat.beq k 130 || Nat.beq k 162
theorem ef_L_or {k : Nat} (h : ef_L k = true) : k = 2 ∨ k = 34 ∨ k = 66 ∨ k = 98 ∨ k = 130 ∨ k = 162 := by
  unfold ef_L at h
  simp only [Bool.or_eq_true] at h
  rcases h with ((((h | h) | h) | h) | h) | h
  · exact Or.inl (ew_beq h)
  · exact Or.inr (Or.inl (ew_beq h))
  · exact Or.inr (Or.inr (Or.inl (ew_beq h)))
  · exact Or.inr (Or.inr (Or.inr (Or.inl (ew_beq h))))
  · exact Or.inr (Or.inr (Or.inr (Or.inr (Or.inl (ew_beq h)))))
  · exact Or.inr (Or.inr (Or.inr (Or.inr (Or.inr (ew_beq h)))))
/-- from s, m to s', m': the old objects are there, and as they were but for what P names; c objects more at most -/
def Ex (P : Nat → Nat → Nat → Prop) (c : Nat) (s : ew_S) (m : ew_H) (s' : ew_S) (m' : ew_H) : Prop :=
  (∀ k, ef_K k = true → s' k = s k ∧ m'.1 k = m.1 k) ∧ (∀ k i, m.2.2.1 k i = true → m'.2.2.1 k i = true) ∧
  (∀ k p i, m.2.2.1 k i = true → ¬ P k p i → s' k p i = s k p i ∧ m'.1 k i p = m.1 k i p) ∧
  (∀ k i, ef_L k = true → m.2.2.1 k i = true → ¬ P k 1 i → m'.2.2.1 (k + 18) i = m.2.2.1 (k + 18) i) ∧
  (m'.2.2.2.2.1 ≤ m.2.2.2.2.1 + c ∧ m'.2.2.2.2.2 ≤ m.2.2.2.2.2 + 15 * c)
def P0 : Nat → Nat → Nat → Prop := fun _ _ _ => False
section
variable {P : Nat → Nat → Nat → Prop} {c : Nat} {s s1 s2 : ew_S} {m m1 m2 : ew_H}
theorem Ex.rf (P : Nat → Nat → Nat → Prop) (s : ew_S) (m : ew_H) : Ex P 0 s m s m := ⟨fun _ _ => ⟨rfl, rfl⟩, fun _ _ h => h, fun _ _ _ _ _ => ⟨rfl, rfl⟩, fun _ _ _ _ _ => rfl, Nat.le_refl _, Nat.le_refl _⟩
theorem Ex.tr {c' : Nat} (a : Ex P c s m s1 m1) (b : Ex P c' s1 m1 s2 m2) : Ex P (c + c') s m s2 m2 :=
  ⟨fun k h => ⟨(b.1 k h).1.trans (a.1 k h).1, (b.1 k h).2.trans (a.1 k h).2⟩, fun k i h => b.2.1 k i (a.2.1 k i h), fun k p i h n => ⟨(b.2.2.1 k p i (a.2.1 k i h) n).1.trans (a.2.2.1 k p i h n).1, (b.2.2.1 k p i (a.2.1 k i h) n).2.trans (a.2.2.1 k p i h n).2⟩,
   fun k i h h2 n => (b.2.2.2.1 k i h (a.2.1 k i h2) n).trans (a.2.2.2.1 k i h h2 n), by have := a.2.2.2.2; have := b.2.2.2.2; omega⟩
theorem Ex.mono {P' : Nat → Nat → Nat → Prop} {c' : Nat} (a : Ex P c s m s1 m1) (h : ∀ k p i, m.2.2.1 k i = true → P k p i → P' k p i) (hc : c ≤ c') : Ex P' c' s m s1 m1 :=
  ⟨a.1, a.2.1, fun k p i z n => a.2.2.1 k p i z (fun w => n (h k p i z w)), fun k i z z2 n => a.2.2.2.1 k i z z2 (fun w => n (h k 1 i z2 w)), by have := a.2.2.2.2; omega⟩
theorem Ex.le {c' : Nat} (a : Ex P c s m s1 m1) (hc : c ≤ c') : Ex P c' s m s1 m1 := a.mono (fun _ _ _ _ h => h) hc
theorem Ex.u (a : Ex P c s m s1 m1) {k p i : Nat} (x : Int32) (hk : ef_K k = false) (h : P k p i ∨ m.2.2.1 k i = false) : Ex P c s m (ew_u s1 k p i x) m1 := by
  refine ⟨fun k' h' => ⟨?_, (a.1 k' h').2⟩, a.2.1, fun k' p' i' z n => ⟨?_, (a.2.2.1 k' p' i' z n).2⟩, a.2.2.2⟩
  · rw [← (a.1 k' h').1]
    funext p' i'
    refine ew_u_ne _ _ (fun e => ?_)
    rw [e.1, hk] at h'; cases h'
  · rw [← (a.2.2.1 k' p' i' z n).1]
    refine ew_u_ne _ _ (fun e => ?_)
    obtain ⟨rfl, rfl, rfl⟩ := e
    rcases h with h | h
    · exact n h
    · rw [z] at h; cases h
theorem Ex.zs (a : Ex P c s m s1 m1) {k i : Nat} (hk : ef_K k = false) (h : m.2.2.1 k i = false) : Ex P c s m (ef_z s1 k i) m1 := by
  refine ⟨fun k' h' => ⟨?_, (a.1 k' h').2⟩, a.2.1, fun k' p' i' z n => ⟨?_, (a.2.2.1 k' p' i' z n).2⟩, a.2.2.2⟩
  · rw [← (a.1 k' h').1]
    funext p' i'
    refine ef_z_ne _ _ (fun e => ?_)
    rw [e.1, hk] at h'; cases h'
  · rw [← (a.2.2.1 k' p' i' z n).1]
    refine ef_z_ne _ _ (fun e => ?_)
    obtain ⟨rfl, rfl⟩ := e
    rw [z] at h; cases h
theorem Ex.put (a : Ex P c s m s1 m1) {k p i : Nat} (v : ew_V) (hk : ef_K k = false) (h : P k p i ∨ m.2.2.1 k i = false) : Ex P c s m s1 (ew_put m1 k i p v) := by
  refine ⟨fun k' h' => ⟨(a.1 k' h').1, ?_⟩, a.2.1, fun k' p' i' z n => ⟨(a.2.2.1 k' p' i' z n).1, ?_⟩, a.2.2.2⟩
  · rw [← (a.1 k' h').2]
    funext i' p'
    refine ep_ne _ _ (fun e => ?_)
    rw [e.1, hk] at h'; cases h'
  · rw [← (a.2.2.1 k' p' i' z n).2]
    refine ep_ne _ _ (fun e => ?_)
    obtain ⟨rfl, rfl, rfl⟩ := e
    rcases h with h | h
    · exact n h
    · rw [z] at h; cases h
theorem Ex.mk (a : Ex P c s m s1 m1) {k i N : Nat} (z : Nat → ew_V) (hk : ef_K k = false) (hN : N ≤ 15) (h : m.2.2.1 k i = false) (hl : ∀ k', ef_L k' = true → k' + 18 = k → P k' 1 i ∨ m.2.2.1 k' i = false) : Ex P (c + 1) s m s1 (ew_mk m1 k i N z) := by
  refine ⟨fun k' h' => ⟨(a.1 k' h').1, ?_⟩, fun k' i' h' => em_xo _ _ _ (a.2.1 k' i' h'), fun k' p' i' y n => ⟨(a.2.2.1 k' p' i' y n).1, ?_⟩, fun k' i' h' h2 n => ?_, ?_⟩
  · rw [← (a.1 k' h').2]
    funext i' p'
    refine em_ne _ _ _ _ (fun e => ?_)
    rw [e.1, hk] at h'; cases h'
  · rw [← (a.2.2.1 k' p' i' y n).2]
    refine em_ne _ _ _ _ (fun e => ?_)
    obtain ⟨rfl, rfl⟩ := e
    rw [y] at h; cases h
  · rw [← a.2.2.2.1 k' i' h' h2 n]
    refine em_xn _ _ _ (fun e => ?_)
    obtain ⟨e1, rfl⟩ := e
    rcases hl k' h' e1 with w | w
    · exact n w
    · rw [h2] at w; cases w
  · have := a.2.2.2.2
    show m1.2.2.2.2.1 + 1 ≤ _ ∧ m1.2.2.2.2.2 + N ≤ _
    omega
end
/-- objects by their numbers: none is there that is still to be made; what is made together has one number -/
def GI (m : ew_H) : Prop := (∀ k i, ew_ctr k = true → m.2.2.2.1 k ≤ i → m.2.2.1 k i = false) ∧ (∀ k i, ef_L k = true → m.2.2.1 k i = false → m.2.2.1 (k + 18) i = false) ∧
  (m.2.2.2.1 273 = m.2.2.2.1 14 ∧ m.2.2.2.1 305 = m.2.2.2.1 14 ∧ m.2.2.2.1 337 = m.2.2.2.1 14 ∧ m.2.2.2.1 50 = m.2.2.2.1 14 ∧ m.2.2.2.1 2 = m.2.2.2.1 14 ∧ m.2.2.2.1 34 = m.2.2.2.1 14 ∧ m.2.2.2.1 66 = m.2.2.2.1 14) ∧
  m.2.2.2.1 98 = m.2.2.2.1 12 ∧ (m.2.2.2.1 369 = m.2.2.2.1 15 ∧ m.2.2.2.1 130 = m.2.2.2.1 15) ∧ (m.2.2.2.1 162 = m.2.2.2.1 13 ∧ m.2.2.2.1 82 = m.2.2.2.1 13)
/-- kinds with a number of their own -/
def ef_1 (k : Nat) : Bool := Nat.beq k 1 || Nat.beq k 401 || Nat.beq k 433 || Nat.beq k 465 || Nat.beq k 497 || Nat.beq k 529 || Nat.beq k 561 || Nat.beq k 244
theorem ef_1_or {k : Nat} (h : ef_1 k = true) : k = 1 ∨ k = 401 ∨ k = 433 ∨ k = 465 ∨ k = 497 ∨ k = 529 ∨ k = 561 ∨ k = 244 := by
  unfold ef_1 at h
  simp only [Bool.or_eq_true] at h
  rcases h with ((((((h | h) | h) | h) | h) | h) | h) | h
  · exact Or.inl (ew_beq h)
  · exact Or.inr (Or.inl (ew_beq h))
  · exact Or.inr (Or.inr (Or.inl (ew_beq h)))
  · exact Or.inr (Or.inr (Or.inr (Or.inl (ew_beq h))))
  · exact Or.inr (Or.inr (Or.inr (Or.inr (Or.inl (ew_beq h)))))
  · exact Or.inr (Or.inr (Or.inr (Or.inr (Or.inr (Or.inl (ew_beq h))))))
  · exact Or.inr (Or.inr (Or.inr (Or.inr (Or.inr (Or.inr (Or.inl (ew_beq h)))))))
  · exact Or.inr (Or.inr (Or.inr (Or.inr (Or.inr (Or.inr (Or.inr (ew_beq h)))))))
theorem GI.new {m : ew_H} (g : GI m) {k : Nat} (h : ew_ctr k = true) : m.2.2.1 k (m.2.2.2.1 k) = false := g.1 k _ h (Nat.le_refl _)
theorem GI.mk1 {m : ew_H} (g : GI m) {k N : Nat} {z : Nat → ew_V} (h : ef_1 k = true) : GI (ew_mk m k (m.2.2.2.1 k) N z) := by
  have hk := ef_1_or h
  obtain ⟨g1, g2, g3, g4, g5, g6⟩ := g
  have cn : ∀ {k'}, k' ≠ k → (ew_mk m k (m.2.2.2.1 k) N z).2.2.2.1 k' = m.2.2.2.1 k' := fun e => em_cn _ _ _ _ e
  refine ⟨fun k' i' c w => ?_, fun k' i' c w => ?_, ?_, ?_, ?_, ?_⟩
  · by_cases e : k' = k
    · subst e
      rw [em_cs] at w
      rw [em_xn _ _ _ (by omega)]
      exact g1 _ _ c (by omega)
    · rw [cn e] at w
      rw [em_xn _ _ _ (by omega)]
      exact g1 _ _ c w
  · have := ef_L_or c
    rw [em_xn _ _ _ (by omega)] at w ⊢
    exact g2 _ _ c w
  · rw [cn (by omega), cn (by omega), cn (by omega), cn (by omega), cn (by omega), cn (by omega), cn (by omega), cn (by omega)]; exact g3
  · rw [cn (by omega), cn (by omega)]; exact g4
  · rw [cn (by omega), cn (by omega), cn (by omega)]; exact g5
  · rw [cn (by omega), cn (by omega), cn (by omega)]; exact g6
theorem GI.put {m : ew_H} (g : GI m) (k i p : Nat) (v : ew_V) : GI (ew_put m k i p v) := g
theorem GI.arr {m : ew_H} (g : GI m) {k i N : Nat} {z : Nat → ew_V} (h : ef_L k = true) (hx : m.2.2.1 k i = true) : GI (ew_mk m (k + 18) i N z) := by
  have hk := ef_L_or h
  obtain ⟨g1, g2, g3, g4, g5, g6⟩ := g
  have cn : ∀ {k'}, k' ≠ k + 18 → (ew_mk m (k + 18) i N z).2.2.2.1 k' = m.2.2.2.1 k' := fun e => em_cn _ _ _ _ e
  refine ⟨fun k' i' c w => ?_, fun k' i' c w => ?_, ?_, ?_, ?_, ?_⟩
  · by_cases e : k' = k + 18
    · exfalso
      subst e
      rcases hk with rfl | rfl | rfl | rfl | rfl | rfl <;> exact absurd c (by decide)
    · rw [cn e] at w
      rw [em_xn _ _ _ (by omega)]
      exact g1 _ _ c w
  · have := ef_L_or c
    rw [em_xn _ _ _ (by omega)] at w
    have := g2 _ _ c w
    by_cases e : k' = k ∧ i' = i
    · obtain ⟨rfl, rfl⟩ := e
      rw [hx] at w; cases w
    · rw [em_xn _ _ _ (by omega)]; exact this
  · rw [cn (by omega), cn (by omega), cn (by omega), cn (by omega), cn (by omega), cn (by omega), cn (by omega), cn (by omega)]; exact g3
  · rw [cn (by omega), cn (by omega)]; exact g4
  · rw [cn (by omega), cn (by omega), cn (by omega)]; exact g5
  · rw [cn (by omega), cn (by omega), cn (by omega)]; exact g6
/-- the list i of kind k holds n things: es -/
def LR (k i n : Nat) (es : Nat → ew_V) (s : ew_S) (m : ew_H) : Prop :=
  m.2.2.1 k i = true ∧ s k 2 i = ei n ∧ n ≤ 10 ∧ ((m.1 k i 1 = ew_o (k + 18) i ∧ m.2.2.1 (k + 18) i = true ∧ ∀ j, j < n → m.1 (k + 18) i j = es j) ∨ (m.1 k i 1 = ew_o 212 0 ∧ m.2.2.1 (k + 18) i = false ∧ n = 0))
theorem LR.ex {k i n : Nat} {es : Nat → ew_V} {s s' : ew_S} {m m' : ew_H} {P : Nat → Nat → Nat → Prop} {c : Nat} (h : LR k i n es s m) (hk : ef_L k = true) (e : Ex P c s m s' m') (n1 : ∀ p, ¬ P k p i) (n2 : ∀ p, ¬ P (k + 18) p i) : LR k i n es s' m' := by
  obtain ⟨h1, h2, h3, h4⟩ := h
  refine ⟨e.2.1 _ _ h1, (e.2.2.1 _ _ _ h1 (n1 2)).1.trans h2, h3, ?_⟩
  rw [(e.2.2.1 _ _ _ h1 (n1 1)).2, e.2.2.2.1 _ _ hk h1 (n1 1)]
  rcases h4 with ⟨a1, a2, a3⟩ | h4
  · exact Or.inl ⟨a1, a2, fun j hj => ((e.2.2.1 _ _ _ a2 (n2 j)).2).trans (a3 j hj)⟩
  · exact Or.inr h4
theorem LR.cg {k i n : Nat} {es es' : Nat → ew_V} {s : ew_S} {m : ew_H} (h : LR k i n es s m) (e : ∀ j, j < n → es' j = es j) : LR k i n es' s m := by
  obtain ⟨h1, h2, h3, h4⟩ := h
  refine ⟨h1, h2, h3, ?_⟩
  rcases h4 with ⟨a1, a2, a3⟩ | h4
  · exact Or.inl ⟨a1, a2, fun j hj => (a3 j hj).trans (e j hj).symm⟩
  · exact Or.inr h4
theorem LR.ne {k i n : Nat} {es : Nat → ew_V} {s : ew_S} {m : ew_H} (h : LR k i n es s m) (hn : 0 < n) : m.1 k i 1 = ew_o (k + 18) i ∧ m.2.2.1 (k + 18) i = true ∧ ∀ j, j < n → m.1 (k + 18) i j = es j := by
  rcases h.2.2.2 with a | a
  · exact a
  · have := a.2.2; omega
section
variable {C : Nat → List ew_V → ew_H → (ew_R → ew_H → Prop) → Prop} {K : ew_R → ew_H → Prop} {y pc : Nat} {ls : List (Option ew_V)} {st as : List ew_V} {s : ew_S} {m h : ew_H} {k i p N d z : Nat} {v w : ew_V} {r : ew_R} {f : Nat → ew_V}
theorem eq_s (e : v = w) (g : ew_W C y K (pc, ls, w :: st, h)) : ew_W C y K (pc, ls, v :: st, h) := by subst e; exact g
theorem eq_t (hs : ew_sh k p = none) (g : ew_W C y K (pc, ls, st, ew_hp s (ew_put m k i p v))) : ew_W C y K (pc, ls, st, ew_put (ew_hp s m) k i p v) := by rw [ew_hp_pt hs]; exact g
theorem eq_m (hs : ∀ p, ew_sh k p = none) (g : ew_W C y K (pc, ls, st, ew_hp s (ew_mk m k i N f))) : ew_W C y K (pc, ls, st, ew_mk (ew_hp s m) k i N f) := by rw [ew_hp_mkt hs]; exact g
theorem eq_n (hs : ∀ p, ew_sh k p = some none) (g : ew_W C y K (pc, ls, st, ew_hp (ef_z s k i) (ew_mk m k i N (fun _ => ew_i 0)))) : ew_W C y K (pc, ls, st, ew_mk (ew_hp s m) k i N (fun _ => ew_i 0)) := by rw [ew_hp_mkn hs]; exact g
theorem ek_t (hs : ew_sh k p = none) (g : K r (ew_hp s (ew_put m k i p v))) : K r (ew_put (ew_hp s m) k i p v) := by rw [ew_hp_pt hs]; exact g
theorem ec_t (hs : ew_sh k p = none) (g : ew_Call d z as (ew_hp s (ew_put m k i p v)) K) : ew_Call d z as (ew_put (ew_hp s m) k i p v) K := by rw [ew_hp_pt hs]; exact g
theorem ec_a3 {a b : ew_V} {l : List ew_V} (e : v = w) (g : ew_Call d z (a :: b :: w :: l) h K) : ew_Call d z (a :: b :: v :: l) h K := by subst e; exact g
end
