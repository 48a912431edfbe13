/-! What is told: the class's numbers keep their bounds. -/
theorem ef_sm_up (n : Nat → Nat) (c v : Nat) : ∀ k, ef_sm (fun j => if j = c then v else n j) k ≤ ef_sm n k + (if c < k then v else 0)
  | 0 => Nat.zero_le _
  | k + 1 => by
    have ih := ef_sm_up n c v k
    show ef_sm (fun j => if j = c then v else n j) k + (if k = c then v else n k) ≤ ef_sm n k + n k + (if c < k + 1 then v else 0)
    by_cases e : k = c
    · rw [e] at ih ⊢
      rw [if_neg (Nat.lt_irrefl c)] at ih
      rw [if_pos rfl, if_pos (Nat.lt_succ_self c)]; omega
    · rw [if_neg e]
      by_cases e2 : c < k
      · rw [if_pos e2] at ih; rw [if_pos (by omega)]; omega
      · rw [if_neg e2] at ih; rw [if_neg (by omega)]; omega
def Pce (c : Nat) : Nat → Nat → Nat → Prop := fun k _ i => k = 4 ∧ i = c
def un_b (f : Nat → Nat → Int32) : Prop := f 3 3 = 0 ∧ f 8 1 = 0
def un_s (f : Nat → Nat → Int32) : Prop := (f 10 7 = 0 ∧ f 10 8 = -1 ∧ f 10 9 = 0 ∧ f 10 10 = 0 ∧ f 10 11 = -1) ∧ f 40 1 = 0 ∧ ∀ w, w < 5 → f 177 w = 0
def un_p (f : Nat → Nat → Int32) : Prop := f 6 3 = 0 ∧ ∀ j, j < 5 → f 18 j = 0
/-- what is not used yet is as it was made -/
def Un (nb ns np : Nat) (a : ew_S) : Prop := (∀ b, nb ≤ b → b < 2 → un_b (ea a b)) ∧ (∀ j, ns ≤ j → j < 5 → un_s (ea a j)) ∧ ∀ p, np ≤ p → p < 3 → un_p (ea a p)
def ef_cn (p : Nat → Bool) : Nat → Nat
  | 0 => 0
  | j + 1 => ef_cn p j + (bif p j then 1 else 0)
theorem ef_cn_le {p p' : Nat → Bool} : ∀ n, (∀ j, j < n → p' j = true → p j = true) → ef_cn p' n ≤ ef_cn p n
  | 0, _ => Nat.le_refl _
  | n + 1, h => by
    have ih := ef_cn_le n (fun j hj => h j (by omega))
    have h1 := h n (by omega)
    show ef_cn p' n + (bif p' n then 1 else 0) ≤ ef_cn p n + (bif p n then 1 else 0)
    cases e : p' n with
    | true => rw [h1 e]; exact Nat.add_le_add_right ih 1
    | false => exact Nat.le_trans ih (Nat.le_add_right _ _)
/-- .. but for one place -/
theorem ef_cn_le1 {p p' : Nat → Bool} {c : Nat} : ∀ n, (∀ j, j < n → j ≠ c → p' j = true → p j = true) → ef_cn p' n ≤ ef_cn p n + (if c < n then 1 else 0)
  | 0, _ => Nat.zero_le _
  | n + 1, h => by
    have ih := ef_cn_le1 n (fun j hj => h j (by omega))
    show ef_cn p' n + (bif p' n then 1 else 0) ≤ ef_cn p n + (bif p n then 1 else 0) + (if c < n + 1 then 1 else 0)
    have b1 : (bif p' n then 1 else 0) ≤ 1 := by cases p' n <;> decide
    by_cases e : n = c
    · rw [if_neg (by omega)] at ih
      rw [if_pos (by omega)]; omega
    · have h1 := h n (by omega) e
      have b2 : (bif p' n then 1 else 0) ≤ (bif p n then 1 else 0) := by
        cases e2 : p' n with
        | true => rw [h1 e2]; exact Nat.le_refl _
        | false => exact Nat.zero_le _
      by_cases e3 : c < n
      · rw [if_pos e3] at ih; rw [if_pos (by omega)]; omega
      · rw [if_neg e3] at ih; rw [if_neg (by omega)]; omega
theorem ef_cn_0 {p : Nat → Bool} : ∀ n, (∀ j, j < n → p j = false) → ef_cn p n = 0
  | 0, _ => rfl
  | n + 1, h => by
    show ef_cn p n + (bif p n then 1 else 0) = 0
    rw [ef_cn_0 n (fun j hj => h j (by omega)), h n (by omega)]; rfl
theorem ef_cn_pos {p : Nat → Bool} {c : Nat} (hp : p c = true) : ∀ n, c < n → 0 < ef_cn p n
  | 0, h => absurd h (Nat.not_lt_zero _)
  | n + 1, h => by
    show 0 < ef_cn p n + (bif p n then 1 else 0)
    by_cases e : c = n
    · rw [← e, hp]; exact Nat.succ_pos _
    · exact Nat.lt_of_lt_of_le (ef_cn_pos hp n (by omega)) (Nat.le_add_right _ _)
theorem ef_cn_n (p : Nat → Bool) : ∀ n, ef_cn p n ≤ n
  | 0 => Nat.le_refl _
  | n + 1 => by
    have := ef_cn_n p n
    show ef_cn p n + (bif p n then 1 else 0) ≤ n + 1
    cases p n
    · exact Nat.le_trans this (Nat.le_succ _)
    · exact Nat.succ_le_succ this
def ef_bd (a : ew_S) (w x : Int32) : Nat → Bool := fun j => decide (a 10 7 j = w ∧ a 10 8 j = x)
theorem ef_cn_sum (a : ew_S) (w x : Int32) : ∀ n, ef_sum (fun j => if a 10 7 j = w ∧ a 10 8 j = x then 1 else 0) n = ei (ef_cn (ef_bd a w x) n)
  | 0 => rfl
  | n + 1 => by
    show ef_sum (fun j => if a 10 7 j = w ∧ a 10 8 j = x then 1 else 0) n + (if a 10 7 n = w ∧ a 10 8 n = x then 1 else 0) = ei (ef_cn (ef_bd a w x) n + (bif ef_bd a w x n then 1 else 0))
    rw [ef_cn_sum a w x n]
    by_cases e : a 10 7 n = w ∧ a 10 8 n = x
    · rw [if_pos e, show ef_bd a w x n = true from decide_eq_true e]; exact ei_1 _
    · rw [if_neg e, show ef_bd a w x n = false from decide_eq_false e]; exact Int32.add_zero _
theorem ef_find_n {p : Nat → Bool} : ∀ r j, j + r ≤ 100 → (ef_find p r j = -1 ↔ ∀ i, j ≤ i → i < j + r → p i = false)
  | 0, j, _ => ⟨fun _ i h1 h2 => by omega, fun _ => rfl⟩
  | r + 1, j, hj => by
    have ih := ef_find_n (p := p) r (j + 1) (by omega)
    show (bif p j then ei j else ef_find p r (j + 1)) = -1 ↔ _
    cases e : p j with
    | true =>
      refine ⟨fun h => ?_, fun h => ?_⟩
      · have h : ei j = -1 := h
        have : ¬ ei j < 0 := ei_nn (by omega)
        rw [h] at this
        exact absurd (by decide) this
      · have := h j (Nat.le_refl _) (by omega)
        rw [e] at this; cases this
    | false =>
      refine ⟨fun h i h1 h2 => ?_, fun h => ih.mpr (fun i h1 h2 => h i (by omega) (by omega))⟩
      by_cases e2 : i = j
      · rw [e2]; exact e
      · exact ih.mp h i (by omega) (by omega)
/-- no breaker leads more than two, or tows more than one -/
def Lb (nb ns : Nat) (a : ew_S) : Prop := ∀ b, b < nb → ef_cn (ef_bd a 1 (ei b)) ns ≤ 2 ∧ ef_cn (ef_bd a 2 (ei b)) ns ≤ 1
/-- bound as before, or free -/
def Fb (a a' : ew_S) (j : Nat) : Prop := (a' 10 7 j = a 10 7 j ∧ a' 10 8 j = a 10 8 j) ∨ (¬ a' 10 7 j = 1 ∧ ¬ a' 10 7 j = 2)
theorem Fb.tr {a a' a'' : ew_S} {j : Nat} (h : Fb a a' j) (h' : Fb a' a'' j) : Fb a a'' j := by
  rcases h' with ⟨e1, e2⟩ | h'
  · rcases h with ⟨f1, f2⟩ | h
    · exact Or.inl ⟨e1.trans f1, e2.trans f2⟩
    · exact Or.inr (by rw [e1]; exact h)
  · exact Or.inr h'
section
variable {nb ns np T : Nat} {a a' : ew_S} {P : Nat → Nat → Nat → Prop}
theorem Lb.le (h : Lb nb ns a) (e : ∀ j, j < ns → Fb a a' j) : Lb nb ns a' := fun b hb => by
  have key : ∀ w : Int32, (w = 1 ∨ w = 2) → ∀ j, j < ns → ef_bd a' w (ei b) j = true → ef_bd a w (ei b) j = true := fun w hw j hj q => by
    have q := of_decide_eq_true q
    rcases e j hj with ⟨e1, e2⟩ | ⟨e1, e2⟩
    · exact decide_eq_true (by rw [← e1, ← e2]; exact q)
    · rcases hw with rfl | rfl
      · exact absurd q.1 e1
      · exact absurd q.1 e2
  exact ⟨Nat.le_trans (ef_cn_le ns (key 1 (Or.inl rfl))) (h b hb).1, Nat.le_trans (ef_cn_le ns (key 2 (Or.inr rfl))) (h b hb).2⟩
theorem Fb.fr {j : Nat} (F : Fr P a a') (n : ∀ p, ¬ P 10 p j) : Fb a a' j := Or.inl ⟨F _ _ _ (n _), F _ _ _ (n _)⟩
theorem Un.fr (h : Un nb ns np a) (F : Fr P a a') (n1 : ∀ b, nb ≤ b → b < 2 → ∀ k p, (k = 3 ∨ k = 8) → ¬ P k p b) (n2 : ∀ j, ns ≤ j → j < 5 → ∀ k p, (k = 10 ∨ k = 40 ∨ k = 177) → ¬ P k p j) (n3 : ∀ p, np ≤ p → p < 3 → ∀ k r, (k = 6 ∨ k = 18) → ¬ P k r p) : Un nb ns np a' := by
  obtain ⟨h1, h2, h3⟩ := h
  refine ⟨fun b x y => ?_, fun j x y => ?_, fun p x y => ?_⟩
  · obtain ⟨k1, k2⟩ := h1 b x y
    exact ⟨(F _ _ _ (n1 b x y 3 3 (Or.inl rfl))).trans k1, (F _ _ _ (n1 b x y 8 1 (Or.inr rfl))).trans k2⟩
  · obtain ⟨⟨k1, k2, k3, k4, k5⟩, k6, k7⟩ := h2 j x y
    have f : ∀ p, a' 10 p j = a 10 p j := fun p => F _ _ _ (n2 j x y 10 p (Or.inl rfl))
    exact ⟨⟨(f _).trans k1, (f _).trans k2, (f _).trans k3, (f _).trans k4, (f _).trans k5⟩, (F _ _ _ (n2 j x y 40 1 (Or.inr (Or.inl rfl)))).trans k6, fun w hw => (F _ _ _ (n2 j x y 177 w (Or.inr (Or.inr rfl)))).trans (k7 w hw)⟩
  · obtain ⟨k1, k2⟩ := h3 p x y
    exact ⟨(F _ _ _ (n3 p x y 6 3 (Or.inl rfl))).trans k1, fun j hj => (F _ _ _ (n3 p x y 18 j (Or.inr rfl))).trans (k2 j hj)⟩
theorem Iv.cell (h : Iv 0 nb ns np T a) {c : Nat} (F : Fr (Pce c) a a') (k : iv_c (ea a' c)) {v : Nat} (hv : a' 4 0 c = ei v) : Iv 0 nb ns np (T + v) a' := by
  obtain ⟨hA, ⟨b1, b2, b3⟩, hc, hb, hs, hp, n, t1, t2⟩ := h
  have nf : ∀ {k p i : Nat}, k ≠ 4 → a' k p i = a k p i := fun hk => F _ _ _ (fun w => hk w.1)
  have n4 : ∀ {p i : Nat}, i ≠ c → a' 4 p i = a 4 p i := fun hk => F _ _ _ (fun w => hk w.2)
  refine ⟨hA, ⟨(nf (by decide)).trans b1, (nf (by decide)).trans b2, (nf (by decide)).trans b3⟩, fun d z => ?_, fun d z => (hb d z).to (fun p => nf (by decide)) (fun p => nf (by decide)) (fun p => nf (by decide)), fun d z => (hs d z).to (fun p => nf (by decide)) (fun p => nf (by decide)) (fun p => nf (by decide)), fun d z => (hp d z).to (fun p => nf (by decide)) (fun p => nf (by decide)), fun j => if j = c then v else n j, ?_, fun d z => ?_⟩
  · by_cases e : d = c
    · rw [e]; exact k
    · exact (hc d z).to (fun p => n4 e)
  · refine Nat.le_trans (ef_sm_up n c v 15) ?_
    split <;> omega
  · show a' 4 0 d = ei (if d = c then v else n d)
    by_cases e : d = c
    · rw [if_pos e, e]; exact hv
    · rw [if_neg e, n4 e]; exact t2 d z
theorem iv_ice (h : Iv 0 nb ns np T a) {c : Nat} (hc : c < 15) {v : Int32} (hv : 0 ≤ v ∧ v ≤ 300) (hl : a 4 3 c = 0) : Iv 0 nb ns np (T + 300) (ew_u a 4 0 c v) := by
  have hv' : ei 0 ≤ v ∧ v ≤ ei 300 := hv
  obtain ⟨n, -, hn, rfl⟩ := ei_rng (a := 0) (b := 300) (by decide) hv' (by decide)
  refine (h.cell (c := c) ((Fr.rf _ _).u _ ⟨rfl, rfl⟩) ?_ (ew_u_self _ _ _ _ _)).leT (by omega)
  obtain ⟨k1, k2, k3⟩ := h.2.2.1 c hc
  exact ⟨k1, Or.inl hl, k3⟩
end
