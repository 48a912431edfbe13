/-! The model's drift and freezing. -/
theorem ef_more {n : Nat} {x : Int32} (hn : n < 1000000000) (hx : 0 ≤ x ∧ x ≤ 9) : ew_max 0 (ew_min x (300 - ei n)) = if ei n < 300 then ew_min x (300 - ei n) else 0 := by
  have hxn := ei_of (x := x) (Int32.not_lt.mpr hx.1)
  have hx9 : x.toNatClampNeg ≤ 9 := by
    have q1 := hx.2
    rw [hxn] at q1
    exact (ei_le (b := 9) (by have h1 := Int32.toInt_lt x; have e1 : x.toNatClampNeg = x.toInt.toNat := rfl; omega) (by decide)).mp q1
  rw [hxn]
  generalize x.toNatClampNeg = y at hx9
  by_cases h : n < 300
  · rw [if_pos (show ei n < 300 from (ei_lt (b := 300) (by omega) (by decide)).mpr h), show (300 : Int32) = ei 300 from rfl, ei_sub (by omega)]
    have : ∃ v, v < 1000 ∧ ew_min (ei y) (ei (300 - n)) = ei v := by
      unfold ew_min
      split
      · exact ⟨_, by omega, rfl⟩
      · exact ⟨_, by omega, rfl⟩
    obtain ⟨v, hv, e⟩ := this
    rw [e]
    unfold ew_max
    by_cases z : v = 0
    · subst z; rfl
    · exact if_pos ((ei_lt (a := 0) (by decide) (by omega)).mpr (by omega))
  · rw [if_neg (show ¬ ei n < 300 from fun w => h ((ei_lt (b := 300) (by omega) (by decide)).mp w))]
    have h3 : ¬ (0 : Int32) < 300 - ei n := by
      rw [Int32.lt_iff_toInt_lt, show (300 : Int32) = ei 300 from rfl, Int32.toInt_sub, ei_int (by omega), ei_int (by omega), Int.bmod_def]
      show ¬ (0 : Int) < _
      have e9 : (((2 ^ 32 : Nat)) : Int) = 4294967296 := rfl
      rw [e9]
      split <;> omega
    have h4 : ¬ (0 : Int32) < ew_min (ei y) (300 - ei n) := by
      unfold ew_min
      by_cases w : 300 - ei n < ei y
      · rw [if_pos w]; exact h3
      · rw [if_neg w]
        exact fun h0 => h3 (Int32.lt_of_lt_of_le h0 (Int32.not_lt.mp w))
    unfold ew_max
    rw [if_neg h4]
/-- settled, by what is given and got -/
theorem sp_sg_ok (q : Nat) (w : Int32) (a : ew_S) (hz : ∀ c, c < 15 → a 4 4 (c + 15 * q) = 0) : Fr (fun k p i => k = 4 ∧ (p = 0 ∨ p = 1 ∨ p = 4) ∧ 15 * q ≤ i ∧ i < 15 + 15 * q) a (sp_s q (sp_g q w a 15) 15) ∧
    ∀ c, c < 15 → sp_s q (sp_g q w a 15) 15 4 0 (c + 15 * q) = a 4 0 (c + 15 * q) + (cf_t q w a 15 c - cf_v q w a c) ∧ sp_s q (sp_g q w a 15) 15 4 1 (c + 15 * q) = ew_max 0 (cf_t q w a 15 c - cf_v q w a c) := by
  obtain ⟨F1, G1⟩ := sp_g_ok (q := q) (w := w) (s := a) 15 (Nat.le_refl _)
  obtain ⟨F2, G2⟩ := sp_s_ok (q := q) (s := sp_g q w a 15) 15 (Nat.le_refl _)
  refine ⟨(F1.mono (fun k p i z => ⟨z.1, Or.inr (Or.inr z.2.1), z.2.2⟩)).tr F2, fun c hc => ?_⟩
  have e1 : sp_g q w a 15 4 4 (c + 15 * q) = cf_t q w a 15 c - cf_v q w a c := by
    rw [G1 c hc, if_pos hc, hz c hc, Int32.zero_add]
  rw [(G2 c hc).1, (G2 c hc).2.1, if_pos hc, if_pos hc, e1, F1 4 0 _ (fun z => by have := z.2.1; omega)]
  exact ⟨rfl, rfl⟩
section
variable {d : Nat} {K : ew_R → ew_H → Prop} {q i nb ns np T : Nat} {β σ : Nat → Nat} {ρ : Nat → Nat → Nat} {z : ew_Z3} {a s : ew_S} {m : ew_H}
/-- the two arrays of what is given and got, behind j cells -/
def rv (q g g' j : Nat) (w : Int32) (a s : ew_S) : Prop := ∀ c, c < 15 → s 401 c g = (if c < j then cf_v q w a c else 0) ∧ s 433 c g' = cf_t q w a j c
theorem cf_v_land {w : Int32} {c : Nat} (h : a 4 0 (c + 15 * q) = 0) : cf_v q w a c = 0 := by
  unfold cf_v
  rw [h]
  split
  · rfl
  · split <;> rfl
theorem rv.step {g g' j : Nat} {w : Int32} (h : rv q g g' j w a s) (hj : j < 15) (hl : a 4 3 (j + 15 * q) ≠ 0 → a 4 0 (j + 15 * q) = 0) :
    ((a 4 3 (j + 15 * q) ≠ 0 ∨ ef_nb j w = -1 ∨ ∃ t, t < 15 ∧ ef_nb j w = ei t ∧ a 4 3 (t + 15 * q) ≠ 0) → rv q g g' (j + 1) w a s) ∧
    ∀ t, t < 15 → a 4 3 (j + 15 * q) = 0 → ef_nb j w = ei t → a 4 3 (t + 15 * q) = 0 → rv q g g' (j + 1) w a (ew_u (ew_u s 401 j g (a 4 0 (j + 15 * q) / 10)) 433 t g' (a 4 0 (j + 15 * q) / 10)) := by
  have hv0 : (a 4 3 (j + 15 * q) ≠ 0 ∨ ef_nb j w = -1 ∨ ∃ t, t < 15 ∧ ef_nb j w = ei t ∧ a 4 3 (t + 15 * q) ≠ 0) → cf_v q w a j = 0 := fun k => by
    rcases k with k | k | ⟨t, ht, k, k2⟩
    · exact cf_v_land (hl k)
    · exact if_pos k
    · unfold cf_v
      rw [k, if_neg (ei_m1 t ht), ei_nat (by omega), if_neg k2]
  have hvs : ∀ c, c ≠ j → (if c < j + 1 then cf_v q w a c else 0) = (if c < j then cf_v q w a c else 0) := fun c hc => ei_if ⟨fun z => by omega, fun z => by omega⟩ _ _
  have hts : ∀ c, c < 15 → ¬ ef_nb j w = ei c → cf_t q w a (j + 1) c = cf_t q w a j c := fun c hc hne => by
    unfold cf_t
    by_cases e : ef_nb c (ef_op w) = -1
    · rw [if_pos e, if_pos e]
    · rw [if_neg e, if_neg e]
      obtain ⟨t, ht, e2, -⟩ := (ef_nb_r hc (ef_op w)).resolve_left e
      have : t ≠ j := fun z => hne ((ef_nb_op hc hj w).mpr (by rw [e2, z]))
      rw [e2, ei_nat (by omega)]
      exact ei_if ⟨fun z => ⟨by omega, z.2⟩, fun z => ⟨by omega, z.2⟩⟩ _ _
  refine ⟨fun k c hc => ?_, fun t ht h0 e ht0 c hc => ?_⟩
  · obtain ⟨h1, h2⟩ := h c hc
    refine ⟨?_, ?_⟩
    · by_cases e : c = j
      · subst e
        rw [h1, if_neg (by omega), if_pos (by omega), hv0 k]
      · rw [h1, hvs c e]
    · rw [h2]
      by_cases e : ef_nb j w = ei c
      · rcases k with k | k | ⟨t, ht, k, k2⟩
        · unfold cf_t
          have e2 := (ef_nb_op hc hj w).mp e
          rw [e2, if_neg (ei_m1 j hj), if_neg (ei_m1 j hj), ei_nat (by omega), if_neg (fun z => by omega), hl k]
          split <;> rfl
        · exact absurd (e.symm.trans k) (ei_m1 c hc)
        · have : t = c := (ei_inj (by omega) (by omega)).mp (k.symm.trans e)
          subst this
          unfold cf_t
          have e2 := (ef_nb_op hc hj w).mp e
          rw [e2, if_neg (ei_m1 j hj), if_neg (ei_m1 j hj), if_neg (fun z => k2 z.2), if_neg (fun z => k2 z.2)]
      · exact (hts c hc e).symm
  · obtain ⟨h1, h2⟩ := h c hc
    have hvj : cf_v q w a j = a 4 0 (j + 15 * q) / 10 := by
      unfold cf_v
      rw [e, if_neg (ei_m1 t ht), ei_nat (by omega), if_pos ht0]
    refine ⟨?_, ?_⟩
    · rw [ew_u_ne _ _ (by omega)]
      by_cases e1 : c = j
      · subst e1
        rw [ew_u_self, if_pos (by omega), hvj]
      · rw [ew_u_ne _ _ (by omega), h1, hvs c e1]
    · by_cases e1 : c = t
      · subst e1
        rw [ew_u_self]
        unfold cf_t
        have e2 := (ef_nb_op hc hj w).mp e
        rw [e2, if_neg (ei_m1 j hj), ei_nat (by omega), if_pos ⟨by omega, ht0⟩]
      · rw [ew_u_ne _ _ (by omega), ew_u_ne _ _ (by omega), h2]
        exact (hts c hc (fun z => e1 ((ei_inj (by omega) (by omega)).mp (z.symm.trans e)))).symm

/-! the walks -/
theorem xl_md1 {g g' : Nat} {w : Int32} (hR : rc q i z a s m) (hw : w = -1 ∨ w = 0 ∨ w = 1 ∨ w = 2 ∨ w = 3) (hlz : ∀ c, c < 15 → a 4 3 (c + 15 * q) ≠ 0 → a 4 0 (c + 15 * q) = 0)
    (k : ∀ s1 v, Fr (fun k _ _ => k = 401 ∨ k = 433) s s1 → rv q g g' 15 w a s1 → ew_W (ew_Call (d + 2)) 118 K (90, [some (ew_o 14 i), some (ew_i w), some (ew_o 401 g), some (ew_o 433 g'), some (ew_i v), none], [], ew_hp s1 m)) : ∀ (r j : Nat) (y : Int32) (v : Option ew_V) (s1 : ew_S), y = ei j → j + r = 15 → Fr (fun k _ _ => k = 401 ∨ k = 433) s s1 → rv q g g' j w a s1 →
    ew_W (ew_Call (d + 2)) 118 K (13, [some (ew_o 14 i), some (ew_i w), some (ew_o 401 g), some (ew_o 433 g'), some (ew_i y), v], [], ew_hp s1 m) := by
  sorry
end
