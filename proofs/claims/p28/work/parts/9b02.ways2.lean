/-! How far the shortest ways go. -/
section
variable {pr : Nat → Nat} {fr to : Nat}
theorem d_small (hp : ∀ c, pr c ≤ 2) : ∀ k c, c < 15 → d_D pr fr k c ≤ k ∨ 1000 ≤ d_D pr fr k c
  | 0, c, _ => by
    show (if c = fr then 0 else 1000) ≤ 0 ∨ 1000 ≤ (if c = fr then 0 else 1000)
    split
    · exact Or.inl (Nat.le_refl _)
    · exact Or.inr (Nat.le_refl _)
  | k + 1, c, hc => by
    show (if pr c = 2 then d_D pr fr k c else Nat.min (d_D pr fr k c) (d_m (d_D pr fr k) c + pr c)) ≤ k + 1 ∨ 1000 ≤ (if pr c = 2 then d_D pr fr k c else Nat.min (d_D pr fr k c) (d_m (d_D pr fr k) c + pr c))
    have ih := d_small hp k c hc
    split
    · exact ih.imp (fun h => Nat.le_succ_of_le h) id
    · have h2 := hp c
      rcases ih with ih | ih
      · exact Or.inl (Nat.le_trans (Nat.min_le_left _ _) (Nat.le_succ_of_le ih))
      · rcases d_m_or (d_D pr fr k) hc with e | ⟨w, t, -, ht, -, e⟩
        · exact Or.inr (Nat.le_min.mpr ⟨ih, by rw [e]; omega⟩)
        · rcases d_small hp k t ht with h | h
          · exact Or.inl (Nat.le_trans (Nat.min_le_right _ _) (by rw [e]; omega))
          · exact Or.inr (Nat.le_min.mpr ⟨ih, by rw [e]; omega⟩)
theorem d_self : ∀ k, d_D pr fr k fr = 0
  | 0 => if_pos rfl
  | k + 1 => Nat.le_zero.mp (Nat.le_trans (d_D_s k fr) (Nat.le_of_eq (d_self k)))
theorem d_res_self : d_res pr fr fr = 0 := by
  unfold d_res
  rw [d_self]
  rfl
theorem d_res_rng (hp : ∀ c, pr c ≤ 2) (ht : to < 15) : d_res pr fr to = -1 ∨ ∃ n, n ≤ 14 ∧ d_res pr fr to = ei n := by
  unfold d_res
  split
  · rename_i h
    refine Or.inr ⟨_, ?_, rfl⟩
    rw [d_fix (k := 14) (by decide) ht] at h ⊢
    rcases d_small hp 14 to ht with z | z
    · exact z
    · omega
  · exact Or.inl rfl
end
