/-! An hour, all told. -/
def Pck : Nat → Nat → Nat → Prop := fun k p i => k = 4 ∨ (k = 9 ∧ (p = 5 ∨ p = 6) ∧ i = 0)
/-- ice, press and channels before breakers go -/
abbrev sp_ck (x w : Int32) (s : ew_S) : ew_S := sp_f 0 x (sp_s 0 (sp_g 0 w (ew_u s 9 5 0 (s 9 5 0 + 1)) 15) 15) 15
theorem ef_chd : ∀ n, n < 13 → (∃ k, k < 13 ∧ ew_max 0 (ei n - 1) = ei k) ∧ ∃ k, k < 13 ∧ ew_max 0 (ei n - 3) = ei k := by decide +kernel
section
variable {nb ns np T : Nat} {s : ew_S}
theorem ck_F (x w : Int32) (s : ew_S) : Fr Pck s (sp_ck x w s) := by
  have F1 := (sp_g_ok (q := 0) (w := w) (s := ew_u s 9 5 0 (s 9 5 0 + 1)) 15 (by decide)).1
  have F2 := (sp_s_ok (q := 0) (s := sp_g 0 w (ew_u s 9 5 0 (s 9 5 0 + 1)) 15) 15 (by decide)).1
  have F3 := (sp_f_ok (q := 0) (s := sp_s 0 (sp_g 0 w (ew_u s 9 5 0 (s 9 5 0 + 1)) 15) 15) x 15 (by decide)).1
  refine (((Fr.rf Pck s).u _ (Or.inr ⟨rfl, Or.inl rfl, rfl⟩)).tr (F1.mono (fun k p i h => Or.inl h.1))).tr ((F2.mono (fun k p i h => Or.inl h.1)).tr (F3.mono (fun k p i h => ?_)))
  rcases h with h | h
  · exact Or.inl h.1
  · exact Or.inr ⟨h.1, Or.inr h.2.1, h.2.2⟩
/-- all ice is as before and what froze -/
theorem ck_ice (I : Iv 0 nb ns np T s) (x w : Int32) : ∃ y, sp_ice (sp_ck x w s) = sp_ice s + y ∧ sp_ck x w s 9 6 0 = s 9 6 0 + y := by
  obtain ⟨F1, -⟩ := sp_g_ok (q := 0) (w := w) (s := ew_u s 9 5 0 (s 9 5 0 + 1)) 15 (by decide)
  have hg := sp_g_sum 0 w (ew_u s 9 5 0 (s 9 5 0 + 1)) 15 (by decide)
  revert F1 hg
  unfold sp_ck
  generalize sp_g 0 w (ew_u s 9 5 0 (s 9 5 0 + 1)) 15 = s1
  intro F1 hg
  obtain ⟨F2, h2⟩ := sp_s_ok (q := 0) (s := s1) 15 (by decide)
  revert F2 h2
  generalize sp_s 0 s1 15 = s2
  intro F2 h2
  obtain ⟨F3, h3, h4⟩ := sp_f_ok (q := 0) (s := s2) x 15 (by decide)
  refine ⟨ef_sum (fun c => sp_fa x (c + 15 * 0) s2) 15, ?_, ?_⟩
  · have e0 : ef_sum (fun c => s1 4 4 (c + 15 * 0)) 15 = 0 := by
      rw [hg]
      have : ∀ c, c < 15 → ew_u s 9 5 0 (s 9 5 0 + 1) 4 4 (c + 15 * 0) = (fun _ => (0 : Int32)) c := fun c hc => (I.2.2.1 c hc).2.2
      rw [ef_sum_cg _ _ 15 this]
      decide
    have e1 : sp_ice (sp_f 0 x s2 15) = ef_sum (fun c => (s 4 0 c + s1 4 4 (c + 15 * 0)) + sp_fa x (c + 15 * 0) s2) 15 := by
      refine ef_sum_cg _ _ 15 (fun c hc => ?_)
      have := (h4 c hc).1
      rw [if_pos hc] at this
      have k2 := (h2 c hc).1
      rw [if_pos hc] at k2
      have k1 : s1 4 0 (c + 15 * 0) = s 4 0 c := F1 4 0 (c + 15 * 0) (fun z => by have := z.2.1; omega)
      rw [k2, k1] at this
      exact this
    rw [e1, ef_sum_add, ef_sum_add, e0, Int32.add_zero]
    rfl
  · rw [h3]
    have : s2 9 6 0 = s 9 6 0 := (F2 9 6 0 (fun z => by have := z.1; omega)).trans (F1 9 6 0 (fun z => by have := z.1; omega))
    rw [this]
theorem ck_ch (x w : Int32) (k : ∀ c, c < 15 → ∃ n, n ≤ 12 ∧ s 4 2 c = ei n) : (∀ c, c < 15 → ∃ n, n ≤ 12 ∧ sp_ck x w s 4 2 c = ei n) ∧ ∀ c, c < 15 → 0 ≤ sp_ck x w s 4 1 c := by
  obtain ⟨F1, -⟩ := sp_g_ok (q := 0) (w := w) (s := ew_u s 9 5 0 (s 9 5 0 + 1)) 15 (by decide)
  revert F1
  unfold sp_ck
  generalize sp_g 0 w (ew_u s 9 5 0 (s 9 5 0 + 1)) 15 = s1
  intro F1
  obtain ⟨F2, h2⟩ := sp_s_ok (q := 0) (s := s1) 15 (by decide)
  revert F2 h2
  generalize sp_s 0 s1 15 = s2
  intro F2 h2
  obtain ⟨F3, -, h4⟩ := sp_f_ok (q := 0) (s := s2) x 15 (by decide)
  refine ⟨fun c hc => ?_, fun c hc => ?_⟩
  · obtain ⟨n, hn, en⟩ := k c hc
    have e1 : s2 4 2 c = ei n := ((F2 4 2 c (fun z => by have := z.2.1; omega)).trans (F1 4 2 c (fun z => by have := z.2.1; omega))).trans en
    have := (h4 c hc).2
    rw [if_pos hc] at this
    have this : sp_f 0 x s2 15 4 2 c = ew_max 0 (s2 4 2 c - if s2 4 1 c < 3 then 1 else 3) := this
    rw [this, e1]
    obtain ⟨⟨a, ha, ea⟩, b, hb, eb⟩ := ef_chd n (by omega)
    split
    · exact ⟨a, by omega, ea⟩
    · exact ⟨b, by omega, eb⟩
  · have := (h2 c hc).2.1
    rw [if_pos hc] at this
    have e : sp_f 0 x s2 15 4 1 c = s2 4 1 c := F3 4 1 c (fun z => by rcases z with z | z <;> omega)
    have this : s2 4 1 c = ew_max 0 (s1 4 4 c) := this
    rw [e, this]
    exact ew_max_nn _
end
/-! Ships, one behind the other. -/
theorem hj_out.cg {s s' t t' : ew_S} {a : Int32} {j : Nat} (h : hj_out s s' a j) (e1 : ∀ p, t 10 p j = s 10 p j) (e2 : ∀ w, t 177 w j = s 177 w j) (f1 : ∀ p, t' 10 p j = s' 10 p j) (f2 : ∀ w, t' 177 w j = s' 177 w j) (f3 : t' 40 1 j = s' 40 1 j) (f4 : t' 9 5 0 = s' 9 5 0) (f5 : ∀ p i, t' 6 p i = s' 6 p i) : hj_out t t' a j := by
  unfold hj_out hj_mv hj_gone hj_end at h ⊢
  simp only [e1, e2, f1, f2, f3, f4, f5]
  exact h
section
variable {np T : Nat} {s : ew_S}
/-- how many arrive by ship j's hour -/
def hj_a (s : ew_S) (j : Nat) : Int32 := (sp_ms 0 j (sp_m 0 s j).2).1
theorem hj_all (I : Iv 0 2 5 np T s) (hl : ∀ b, b < 2 → hj_left s b) : ∀ n, n ≤ 5 → (sp_m 0 s n).1 = ef_sum (hj_a s) n ∧ ∀ j, j < n → hj_out s (sp_m 0 s n).2 (hj_a s j) j
  | 0, _ => ⟨rfl, fun j hj => absurd hj (Nat.not_lt_zero _)⟩
  | n + 1, hn => by
    obtain ⟨ih1, ih2⟩ := hj_all I hl n (by omega)
    obtain ⟨F, J⟩ := iv_m I n (by omega)
    have hl' : ∀ b, b < 2 → hj_left (sp_m 0 s n).2 b := fun b hb => by
      have e : ∀ p, (sp_m 0 s n).2 3 p b = s 3 p b := fun p => F 3 p b (fun z => by have := z.2.2; omega)
      unfold hj_left
      rw [e, e]
      exact hl b hb
    have o := hj_ms J (j := n) (by omega) hl'
    obtain ⟨F2, -⟩ := iv_ms J (j := n) (by omega)
    have F2 : Fr (Ps n) (sp_m 0 s n).2 (sp_ms 0 n (sp_m 0 s n).2).2 := F2
    have q9 : ∀ p i, (sp_ms 0 n (sp_m 0 s n).2).2 9 p i = (sp_m 0 s n).2 9 p i := fun p i => F2 9 p i (fun z => by have := z.2; omega)
    have q6 : ∀ p i, (sp_ms 0 n (sp_m 0 s n).2).2 6 p i = (sp_m 0 s n).2 6 p i := fun p i => F2 6 p i (fun z => by have := z.2; omega)
    refine ⟨?_, fun j hj => ?_⟩
    · show (sp_m 0 s n).1 + (sp_ms 0 n (sp_m 0 s n).2).1 = ef_sum (hj_a s) n + hj_a s n
      rw [ih1]; rfl
    · show hj_out s (sp_ms 0 n (sp_m 0 s n).2).2 (hj_a s j) j
      by_cases e : j = n
      · subst e
        have G : ∀ m, m ≤ j → (∀ p, (sp_m 0 s m).2 10 p j = s 10 p j) ∧ ∀ p, (sp_m 0 s m).2 177 p j = s 177 p j := fun m => by
          induction m with
          | zero => exact fun _ => ⟨fun _ => rfl, fun _ => rfl⟩
          | succ m ih =>
            intro hm
            obtain ⟨i1, i2⟩ := ih (by omega)
            obtain ⟨-, Jm⟩ := iv_m I m (by omega)
            obtain ⟨Fm, -⟩ := iv_ms Jm (j := m) (by omega)
            have Fm : Fr (Ps m) (sp_m 0 s m).2 (sp_m 0 s (m + 1)).2 := Fm
            exact ⟨fun p => (Fm 10 p j (fun z => by have := z.1; omega)).trans (i1 p), fun p => (Fm 177 p j (fun z => by have := z.1; omega)).trans (i2 p)⟩
        obtain ⟨g1, g2⟩ := G j (Nat.le_refl _)
        exact o.cg (fun p => (g1 p).symm) (fun p => (g2 p).symm) (fun _ => rfl) (fun _ => rfl) rfl rfl (fun _ _ => rfl)
      · refine (ih2 j (by omega)).cg (fun _ => rfl) (fun _ => rfl) (fun p => F2 10 p j (fun z => e z.1)) (fun p => F2 177 p j (fun z => e z.1)) (F2 40 1 j (fun z => e z.1)) (q9 5 0) q6
/-- an hour: breakers, ships, arrivals, ice, channels, press -/
theorem hour_all (I : Iv 0 2 5 np T s) (hT : T ≤ 90000000) (x w : Int32) (hx : 0 ≤ x ∧ x ≤ 9) (k : ∀ c, c < 15 → ∃ n, n ≤ 12 ∧ s 4 2 c = ei n) :
    (∀ b, b < 2 → hb_two s (sp_h 0 x w s).2 b) ∧ (∃ A, (sp_h 0 x w s).1 = ef_sum A 5 ∧ ∀ j, j < 5 → hj_out s (sp_h 0 x w s).2 (A j) j) ∧
    (∃ y, sp_ice (sp_h 0 x w s).2 = sp_ice s + y ∧ (sp_h 0 x w s).2 9 6 0 = s 9 6 0 + y) ∧ (∀ c, c < 15 → ∃ n, n ≤ 12 ∧ (sp_h 0 x w s).2 4 2 c = ei n) ∧ (∀ c, c < 15 → 0 ≤ (sp_h 0 x w s).2 4 1 c) ∧ (∀ p i, (sp_h 0 x w s).2 6 p i = s 6 p i) := by
  obtain ⟨-, J, -⟩ := iv_ck I (by omega) x w hx
  have J : Iv 0 2 5 np (T + 135) (sp_ck x w s) := J
  have F0 := ck_F x w s
  obtain ⟨y, y1, y2⟩ := ck_ice I x w
  obtain ⟨c1, c2⟩ := ck_ch (s := s) x w k
  obtain ⟨b1, b2, b3⟩ := hb_both J (by omega) c1
  have n3 : (s 9 3 0).toNatClampNeg = 2 := by rw [I.2.1.1]; decide
  have n4 : (s 9 4 0).toNatClampNeg = 5 := by rw [I.2.1.2.1]; decide
  obtain ⟨-, J1⟩ := iv_h1 I (by omega) x w hx
  have e1 : sp_h1 0 x w s = sp_b 0 (sp_ck x w s) 2 := by unfold sp_h1; rw [n3]
  have e2 : sp_h 0 x w s = sp_m 0 (sp_h1 0 x w s) 5 := by unfold sp_h; rw [n4]
  obtain ⟨FB, -, -, q6⟩ := iv_bs J 2 (by omega)
  rw [e2, e1]
  rw [e1] at J1
  have FB' : ∀ k p i, ¬ k = 4 → ¬ k = 3 → ¬ k = 8 → ¬ k = 145 → ¬ k = 9 → sp_b 0 (sp_ck x w s) 2 k p i = s k p i := fun k p i h4 h3 h8 h145 h9 => (FB k p i (fun z => by unfold Pk at z; omega)).trans (F0 k p i (fun z => by unfold Pck at z; omega))
  have hl : ∀ b, b < 2 → hj_left (sp_b 0 (sp_ck x w s) 2) b := fun b hb => by
    rcases b1 b hb with ⟨-, -, -, h⟩ | ⟨c, z, n, d1, d2, -, -, d5, d6, -, -, -, d10, -⟩
    · exact Or.inl h
    · exact Or.inr ⟨c, z, d1, d2, d10, d5, d6⟩
  obtain ⟨m1, m2⟩ := hj_all J1 hl 5 (by omega)
  obtain ⟨FM, -⟩ := iv_m J1 5 (by omega)
  have FM' : ∀ k p i, ¬ k = 10 → ¬ k = 40 → ¬ k = 593 → ¬ k = 177 → (sp_m 0 (sp_b 0 (sp_ck x w s) 2) 5).2 k p i = sp_b 0 (sp_ck x w s) 2 k p i := fun k p i h1 h2 h3 h4 => FM k p i (fun z => by unfold Pm at z; omega)
  refine ⟨fun b hb => ?_, ⟨_, m1, fun j hj => ?_⟩, ⟨y, ?_, ?_⟩, fun c hc => ?_, fun c hc => ?_, fun p i => ?_⟩
  · have f0 : ∀ p, sp_ck x w s 3 p b = s 3 p b := fun p => F0 3 p b (fun z => by unfold Pck at z; omega)
    have := b1 b hb
    unfold hb_two at this ⊢
    simp only [f0] at this
    simp only [FM' 3 _ _ (by decide) (by decide) (by decide) (by decide), FM' 4 _ _ (by decide) (by decide) (by decide) (by decide)]
    exact this
  · exact (m2 j hj).cg (fun p => (FB' 10 p j (by decide) (by decide) (by decide) (by decide) (by decide)).symm) (fun p => (FB' 177 p j (by decide) (by decide) (by decide) (by decide) (by decide)).symm) (fun _ => rfl) (fun _ => rfl) rfl rfl (fun _ _ => rfl)
  · rw [← y1]
    refine ef_sum_cg _ _ 15 (fun c _ => ?_)
    rw [FM' 4 0 c (by decide) (by decide) (by decide) (by decide)]
    have : ∀ b, b ≤ 2 → ∀ c, sp_b 0 (sp_ck x w s) b 4 0 c = sp_ck x w s 4 0 c := fun b => by
      induction b with
      | zero => exact fun _ _ => rfl
      | succ b ih =>
        intro hb c
        obtain ⟨-, Jb, -⟩ := iv_bs J b (by omega)
        obtain ⟨z, -, Fz, -⟩ := iv_mb Jb (b := b) (by omega)
        exact (Fz 4 0 c (fun w => by unfold Pb at w; omega)).trans (ih (by omega) c)
    exact this 2 (by omega) c
  · rw [FM' 9 6 0 (by decide) (by decide) (by decide) (by decide), q6, y2]
  · rw [FM' 4 2 c (by decide) (by decide) (by decide) (by decide)]; exact b2 c hc
  · rw [FM' 4 1 c (by decide) (by decide) (by decide) (by decide), b3]; exact c2 c hc
  · rw [FM' 6 p i (by decide) (by decide) (by decide) (by decide), FB' 6 p i (by decide) (by decide) (by decide) (by decide) (by decide)]
end
