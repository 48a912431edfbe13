/-! What an hour does to a breaker. -/
theorem ef_far_0 : ∀ c, c < 15 → ∀ x, x < 15 → ef_far (ei c) (ei x) = 1 → ¬ ei x = ei c ∧ ef_far (ei x) (ei c) = 1 := by decide +kernel
/-- breaker b: it stayed, or went into cell x -/
def hb_out (s s' : ew_S) (b : Nat) : Prop :=
  (s' 3 1 b = s 3 1 b ∧ s' 3 2 b = s 3 2 b ∧ (s' 3 3 b = s 3 3 b ∨ s' 3 3 b = s 3 3 b + 1) ∧ s' 3 4 b = -1 ∧ ∀ p c, s' 4 p c = s 4 p c) ∨
  ∃ c x n, c < 15 ∧ x < 15 ∧ n ≤ 1000000000 ∧ s 3 1 b = ei c ∧ s' 3 1 b = ei x ∧ ef_far (ei c) (ei x) = 1 ∧ s 4 0 x = ei n ∧ 3 + ei n / 30 ≤ s 3 2 b ∧ s' 3 2 b = s 3 2 b - (3 + ei n / 30) ∧ s' 3 3 b = s 3 3 b ∧ s' 3 4 b = ei c ∧ s' 4 2 x = 12 ∧ (∀ p c, ¬ (p = 2 ∧ c = x) → s' 4 p c = s 4 p c)
section
variable {nb ns np T : Nat} {s : ew_S}
theorem hb_mb (I : Iv 0 nb ns np T s) (hT : T ≤ 1000000000) {b : Nat} (hb : b < nb) : hb_out s (sp_mb 0 b s) b := by
  obtain ⟨⟨c, hc, ec⟩, hr⟩ := I.2.2.2.1 b hb
  have ec : s 3 1 b = ei c := ec
  obtain ⟨n, h8, hn, -⟩ := id hr
  have hn : s 8 1 b = ei n := hn
  unfold sp_mb
  by_cases c0 : s 8 1 b = 0
  · rw [if_pos c0]
    exact Or.inl ⟨rfl, rfl, Or.inl rfl, ew_u_self s 3 4 b (-1), fun _ _ => rfl⟩
  obtain ⟨x, hx, ex⟩ := hr.first c0
  have ex : s 145 0 b = ei x := ex
  rw [if_neg c0, ex, ei_nat (by omega)]
  split
  · rename_i h1
    obtain ⟨f, hf1, hf2⟩ := I.2.2.2.2.2.2
    have hf3 : s 4 0 x = ei (f x) := hf2 x hx
    have hf4 : f x ≤ 1000000000 := by
      have := ef_sm_le f 15 x hx
      omega
    split
    · rename_i h2
      refine Or.inr ⟨c, x, f x, hc, hx, hf4, ec, ?_, ?_, hf3, ?_, ?_, ?_, ?_, ?_, fun p y hy => ?_⟩
      · show ew_u _ 3 1 b (ei x) 3 1 b = ei x
        exact ew_u_self _ 3 1 b _
      · rw [← ec]; exact h1.1
      · have h3 := h2.2
        rw [show s 4 0 (x + 15 * 0) = ei (f x) from hf3] at h3
        exact h3
      · show ew_u (ew_u s 3 4 b (-1)) 3 2 b _ 3 2 b = _
        rw [ew_u_self]
        show s 3 2 b - (3 + s 4 0 x / 30) = _
        rw [hf3]
      · rfl
      · show ew_u _ 3 4 b (s 3 1 b) 3 4 b = ei c
        rw [ew_u_self]; exact ec
      · exact ew_u_self _ 4 2 x 12
      · exact ew_u_ne _ _ (fun z => hy ⟨z.2.1, z.2.2⟩)
    · refine Or.inl ⟨rfl, rfl, Or.inr ?_, ew_u_self s 3 4 b (-1), fun _ _ => rfl⟩
      exact ew_u_self _ 3 3 b _
  · exact Or.inl ⟨rfl, rfl, Or.inl rfl, ew_u_self s 3 4 b (-1), fun _ _ => rfl⟩
/-- both breakers, one behind the other: what holds of breaker b behind both -/
def hb_two (s s' : ew_S) (b : Nat) : Prop :=
  (s' 3 1 b = s 3 1 b ∧ s' 3 2 b = s 3 2 b ∧ (s' 3 3 b = s 3 3 b ∨ s' 3 3 b = s 3 3 b + 1) ∧ s' 3 4 b = -1) ∨
  ∃ c x n, c < 15 ∧ x < 15 ∧ n ≤ 1000000000 ∧ s 3 1 b = ei c ∧ s' 3 1 b = ei x ∧ ef_far (ei c) (ei x) = 1 ∧ 3 + ei n / 30 ≤ s 3 2 b ∧ s' 3 2 b = s 3 2 b - (3 + ei n / 30) ∧ s' 3 3 b = s 3 3 b ∧ s' 3 4 b = ei c ∧ s' 4 2 x = 12
theorem hb_out.ch {s s' : ew_S} {b : Nat} (h : hb_out s s' b) (k : ∀ c, c < 15 → ∃ n, n ≤ 12 ∧ s 4 2 c = ei n) : (∀ c, c < 15 → ∃ n, n ≤ 12 ∧ s' 4 2 c = ei n) ∧ ∀ c, s' 4 1 c = s 4 1 c := by
  rcases h with ⟨-, -, -, -, h⟩ | ⟨c, x, n, -, -, -, -, -, -, -, -, -, -, -, h1, h2⟩
  · exact ⟨fun c hc => by rw [h]; exact k c hc, fun c => h 1 c⟩
  · refine ⟨fun c hc => ?_, fun c => h2 1 c (by omega)⟩
    by_cases e : c = x
    · subst e; exact ⟨12, Nat.le_refl _, h1⟩
    · rw [h2 2 c (fun z => e z.2)]; exact k c hc
theorem hb_both (I : Iv 0 2 ns np T s) (hT : T ≤ 1000000000) (k : ∀ c, c < 15 → ∃ n, n ≤ 12 ∧ s 4 2 c = ei n) : (∀ b, b < 2 → hb_two s (sp_b 0 s 2) b) ∧ (∀ c, c < 15 → ∃ n, n ≤ 12 ∧ sp_b 0 s 2 4 2 c = ei n) ∧ ∀ c, sp_b 0 s 2 4 1 c = s 4 1 c := by
  have I1 := (iv_bs I 1 (by omega)).2.1
  have h0 : hb_out s (sp_b 0 s 1) 0 := hb_mb I hT (b := 0) (by omega)
  have h1 : hb_out (sp_b 0 s 1) (sp_b 0 s 2) 1 := hb_mb I1 hT (b := 1) (by omega)
  obtain ⟨x0, -, F0, -⟩ := iv_mb I (b := 0) (by omega)
  obtain ⟨x1, -, F1, -⟩ := iv_mb I1 (b := 1) (by omega)
  have F0 : Fr (Pb 0 x0) s (sp_b 0 s 1) := F0
  have F1 : Fr (Pb 1 x1) (sp_b 0 s 1) (sp_b 0 s 2) := F1
  have e1 : ∀ p, sp_b 0 s 1 3 p 1 = s 3 p 1 := fun p => F0 3 p 1 (fun w => by unfold Pb at w; omega)
  have e0 : ∀ p, sp_b 0 s 2 3 p 0 = sp_b 0 s 1 3 p 0 := fun p => F1 3 p 0 (fun w => by unfold Pb at w; omega)
  obtain ⟨k1, p1⟩ := h0.ch k
  obtain ⟨k2, p2⟩ := h1.ch k1
  refine ⟨fun b hb => ?_, k2, fun c => (p2 c).trans (p1 c)⟩
  have hb : b = 0 ∨ b = 1 := by omega
  rcases hb with rfl | rfl
  · unfold hb_two
    rw [e0, e0, e0, e0]
    rcases h0 with ⟨a1, a2, a3, a4, -⟩ | ⟨c, x, n, b1, b2, b3, b4, b5, b6, b7, b8, b9, b10, b11, b12, -⟩
    · exact Or.inl ⟨a1, a2, a3, a4⟩
    · refine Or.inr ⟨c, x, n, b1, b2, b3, b4, b5, b6, b8, b9, b10, b11, ?_⟩
      rcases h1 with ⟨-, -, -, -, h⟩ | ⟨c', x', n', -, -, -, -, -, -, -, -, -, -, -, g1, g2⟩
      · rw [h]; exact b12
      · by_cases e : x = x'
        · rw [e]; exact g1
        · rw [g2 2 x (fun z => e z.2)]; exact b12
  · unfold hb_two
    rcases h1 with ⟨a1, a2, a3, a4, -⟩ | ⟨c, x, n, b1, b2, b3, b4, b5, b6, b7, b8, b9, b10, b11, b12, -⟩
    · rw [e1] at a1 a2
      rw [e1] at a3
      exact Or.inl ⟨a1, a2, a3, a4⟩
    · rw [e1] at b4 b8 b9 b10
      exact Or.inr ⟨c, x, n, b1, b2, b3, b4, b5, b6, b8, b9, b10, b11, b12⟩
end
