/-! The model's drift and freezing. -/
theorem ef_more {n : Nat} {x : Int32} (hn : n < 1000000000) (hx : 0 ≤ x ∧ x ≤ 9) : ew_max 0 (ew_min x (300 - ei n)) = if ei n < 300 then ew_min x (300 - ei n) else 0 := by
  have hxn := ei_of (x := x) (Int32.not_lt.mpr hx.1)
  have hx9 : x.toNatClampNeg ≤ 9 := by
    have q1 := hx.2
    rw [hxn] at q1
    exact (ei_le (b := 9) (by have h1 := Int32.toInt_lt x; have e1 : x.toNatClampNeg = x.toInt.toNat := rfl; omega) (by decide)).mp q1
  rw [hxn]
  generalize x.toNatClampNeg = y at hx9
  by_cases h : n < 300
  · rw [if_pos (show ei n < 300 from (ei_lt (b := 300) (by omega) (by decide)).mpr h), show (300 : Int32) = ei 300 from rfl, ei_sub (by omega)]
    have : ∃ v, v < 1000 ∧ ew_min (ei y) (ei (300 - n)) = ei v := by
      unfold ew_min
      split
      · exact ⟨_, by omega, rfl⟩
      · exact ⟨_, by omega, rfl⟩
    obtain ⟨v, hv, e⟩ := this
    rw [e]
    unfold ew_max
    by_cases z : v = 0
    · subst z; rfl
    · exact if_pos ((ei_lt (a := 0) (by decide) (by omega)).mpr (by omega))
  · rw [if_neg (show ¬ ei n < 300 from fun w => h ((ei_lt (b := 300) (by omega) (by decide)).mp w))]
    have h3 : ¬ (0 : Int32) < 300 - ei n := by
      rw [Int32.lt_iff_toInt_lt, show (300 : Int32) = ei 300 from rfl, Int32.toInt_sub, ei_int (by omega), ei_int (by omega), Int.bmod_def]
      show ¬ (0 : Int) < _
      have e9 : (((2 ^ 32 : Nat)) : Int) = 4294967296 := rfl
      rw [e9]
      split <;> omega
    have h4 : ¬ (0 : Int32) < ew_min (ei y) (300 - ei n) := by
      unfold ew_min
      by_cases w : 300 - ei n < ei y
      · rw [if_pos w]; exact h3
      · rw [if_neg w]
        exact fun h0 => h3 (Int32.lt_of_lt_of_le h0 (Int32.not_lt.mp w))
    unfold ew_max
    rw [if_neg h4]
/-- settled, by what is given and got -/
theorem sp_sg_ok (q : Nat) (w : Int32) (a : ew_S) (hz : ∀ c, c < 15 → a 4 4 (c + 15 * q) = 0) : Fr (fun k p i => k = 4 ∧ (p = 0 ∨ p = 1 ∨ p = 4) ∧ 15 * q ≤ i ∧ i < 15 + 15 * q) a (sp_s q (sp_g q w a 15) 15) ∧
    ∀ c, c < 15 → sp_s q (sp_g q w a 15) 15 4 0 (c + 15 * q) = a 4 0 (c + 15 * q) + (cf_t q w a 15 c - cf_v q w a c) ∧ sp_s q (sp_g q w a 15) 15 4 1 (c + 15 * q) = ew_max 0 (cf_t q w a 15 c - cf_v q w a c) := by
  obtain ⟨F1, G1⟩ := sp_g_ok (q := q) (w := w) (s := a) 15 (Nat.le_refl _)
  obtain ⟨F2, G2⟩ := sp_s_ok (q := q) (s := sp_g q w a 15) 15 (Nat.le_refl _)
  refine ⟨(F1.mono (fun k p i z => ⟨z.1, Or.inr (Or.inr z.2.1), z.2.2⟩)).tr F2, fun c hc => ?_⟩
  have e1 : sp_g q w a 15 4 4 (c + 15 * q) = cf_t q w a 15 c - cf_v q w a c := by
    rw [G1 c hc, if_pos hc, hz c hc, Int32.zero_add]
  rw [(G2 c hc).1, (G2 c hc).2.1, if_pos hc, if_pos hc, e1, F1 4 0 _ (fun z => by have := z.2.1; omega)]
  exact ⟨rfl, rfl⟩
section
variable {d : Nat} {K : ew_R → ew_H → Prop} {q i nb ns np T : Nat} {β σ : Nat → Nat} {ρ : Nat → Nat → Nat} {z : ew_Z3} {a s : ew_S} {m : ew_H}
/-- the two arrays of what is given and got, behind j cells -/
def rv (q g g' j : Nat) (w : Int32) (a s : ew_S) : Prop := ∀ c, c < 15 → s 401 c g = (if c < j then cf_v q w a c else 0) ∧ s 433 c g' = cf_t q w a j c
theorem cf_v_land {w : Int32} {c : Nat} (h : a 4 0 (c + 15 * q) = 0) : cf_v q w a c = 0 := by
  unfold cf_v
  rw [h]
  split
  · rfl
  · split <;> rfl
theorem rv.step {g g' j : Nat} {w : Int32} (h : rv q g g' j w a s) (hj : j < 15) (hl : a 4 3 (j + 15 * q) ≠ 0 → a 4 0 (j + 15 * q) = 0) :
    ((a 4 3 (j + 15 * q) ≠ 0 ∨ ef_nb j w = -1 ∨ ∃ t, t < 15 ∧ ef_nb j w = ei t ∧ a 4 3 (t + 15 * q) ≠ 0) → rv q g g' (j + 1) w a s) ∧
    ∀ t, t < 15 → a 4 3 (j + 15 * q) = 0 → ef_nb j w = ei t → a 4 3 (t + 15 * q) = 0 → rv q g g' (j + 1) w a (ew_u (ew_u s 401 j g (a 4 0 (j + 15 * q) / 10)) 433 t g' (a 4 0 (j + 15 * q) / 10)) := by
  have hv0 : (a 4 3 (j + 15 * q) ≠ 0 ∨ ef_nb j w = -1 ∨ ∃ t, t < 15 ∧ ef_nb j w = ei t ∧ a 4 3 (t + 15 * q) ≠ 0) → cf_v q w a j = 0 := fun k => by
    rcases k with k | k | ⟨t, ht, k, k2⟩
    · exact cf_v_land (hl k)
    · exact if_pos k
    · unfold cf_v
      rw [k, if_neg (ei_m1 t ht), ei_nat (by omega), if_neg k2]
  have hvs : ∀ c, c ≠ j → (if c < j + 1 then cf_v q w a c else 0) = (if c < j then cf_v q w a c else 0) := fun c hc => ei_if ⟨fun z => by omega, fun z => by omega⟩ _ _
  have hts : ∀ c, c < 15 → ¬ ef_nb j w = ei c → cf_t q w a (j + 1) c = cf_t q w a j c := fun c hc hne => by
    unfold cf_t
    by_cases e : ef_nb c (ef_op w) = -1
    · rw [if_pos e, if_pos e]
    · rw [if_neg e, if_neg e]
      obtain ⟨t, ht, e2, -⟩ := (ef_nb_r hc (ef_op w)).resolve_left e
      have : t ≠ j := fun z => hne ((ef_nb_op hc hj w).mpr (by rw [e2, z]))
      rw [e2, ei_nat (by omega)]
      exact ei_if ⟨fun z => ⟨by omega, z.2⟩, fun z => ⟨by omega, z.2⟩⟩ _ _
  refine ⟨fun k c hc => ?_, fun t ht h0 e ht0 c hc => ?_⟩
  · obtain ⟨h1, h2⟩ := h c hc
    refine ⟨?_, ?_⟩
    · by_cases e : c = j
      · subst e
        rw [h1, if_neg (by omega), if_pos (by omega), hv0 k]
      · rw [h1, hvs c e]
    · rw [h2]
      by_cases e : ef_nb j w = ei c
      · rcases k with k | k | ⟨t, ht, k, k2⟩
        · unfold cf_t
          have e2 := (ef_nb_op hc hj w).mp e
          rw [e2, if_neg (ei_m1 j hj), if_neg (ei_m1 j hj), ei_nat (by omega), if_neg (fun z => by omega), hl k]
          split <;> rfl
        · exact absurd (e.symm.trans k) (ei_m1 c hc)
        · have : t = c := (ei_inj (by omega) (by omega)).mp (k.symm.trans e)
          subst this
          unfold cf_t
          have e2 := (ef_nb_op hc hj w).mp e
          rw [e2, if_neg (ei_m1 j hj), if_neg (ei_m1 j hj), if_neg (fun z => k2 z.2), if_neg (fun z => k2 z.2)]
      · exact (hts c hc e).symm
  · obtain ⟨h1, h2⟩ := h c hc
    have hvj : cf_v q w a j = a 4 0 (j + 15 * q) / 10 := by
      unfold cf_v
      rw [e, if_neg (ei_m1 t ht), ei_nat (by omega), if_pos ht0]
    refine ⟨?_, ?_⟩
    · rw [ew_u_ne _ _ (by omega)]
      by_cases e1 : c = j
      · subst e1
        rw [ew_u_self, if_pos (by omega), hvj]
      · rw [ew_u_ne _ _ (by omega), h1, hvs c e1]
    · by_cases e1 : c = t
      · subst e1
        rw [ew_u_self]
        unfold cf_t
        have e2 := (ef_nb_op hc hj w).mp e
        rw [e2, if_neg (ei_m1 j hj), ei_nat (by omega), if_pos ⟨by omega, ht0⟩]
      · rw [ew_u_ne _ _ (by omega), ew_u_ne _ _ (by omega), h2]
        exact (hts c hc (fun z => e1 ((ei_inj (by omega) (by omega)).mp (z.symm.trans e)))).symm

/-! the walks -/
theorem xm_besideE (c : Nat) (hc : c < 15) {w x : Int32} (hw : w = 0 ∨ w = 1 ∨ w = 2 ∨ w = 3) (hx : ef_nb c w = x) (k : K (.inl (some (ew_i x))) (ew_hp s m)) : ew_Call (d + 2) 137 [ew_i (ei c), ew_i w] (ew_hp s m) K := by
  subst hx; exact xm_beside c hc hw k
theorem rv.none {g g' j : Nat} (h : rv q g g' j (-1) a s) : rv q g g' 15 (-1) a s := fun c hc => by
  obtain ⟨h1, h2⟩ := h c hc
  have e1 : cf_v q (-1) a c = 0 := if_pos (ef_nb_x (by decide))
  have e2 : ∀ j, cf_t q (-1) a j c = 0 := fun j => if_pos (ef_nb_x (by decide))
  rw [h1, h2, e1, e2, e2, if_pos hc]
  refine ⟨?_, rfl⟩
  split <;> rfl
abbrev ePd (g g' : Nat) : Nat → Nat → Nat → Prop := fun k _ o => (k = 401 ∧ o = g) ∨ (k = 433 ∧ o = g')
theorem xl_md1 {g g' : Nat} {w : Int32} (hR : rc q i z a s m) (hw : w = -1 ∨ w = 0 ∨ w = 1 ∨ w = 2 ∨ w = 3) (hlz : ∀ c, c < 15 → a 4 3 (c + 15 * q) ≠ 0 → a 4 0 (c + 15 * q) = 0)
    (k : ∀ s1 y v, Fr (ePd g g') s s1 → rv q g g' 15 w a s1 → ew_W (ew_Call (d + 2)) 118 K (90, [some (ew_o 14 i), some (ew_i w), some (ew_o 401 g), some (ew_o 433 g'), some (ew_i y), v], [], ew_hp s1 m)) : ∀ (r j : Nat) (y : Int32) (v : Option ew_V) (s1 : ew_S), y = ei j → j + r = 15 → Fr (ePd g g') s s1 → rv q g g' j w a s1 →
    ew_W (ew_Call (d + 2)) 118 K (13, [some (ew_o 14 i), some (ew_i w), some (ew_o 401 g), some (ew_o 433 g'), some (ew_i y), v], [], ew_hp s1 m) := by
  intro r
  induction r with
  | zero =>
    intro j y v s1 hy hj F h
    subst hy
    obtain rfl : j = 15 := by omega
    exact ew_go (fun pc => Nat.beq pc 13 || Nat.beq pc 90) 40 ⟨fun c => k s1 _ v F h, fun c => absurd (show ei 15 ≤ ei 15 by decide) c⟩
  | succ r ih =>
    intro j y v s1 hy hj F h
    subst hy
    have hj15 : j < 15 := by omega
    have hn : (ei j).toNatClampNeg = j := ei_nat (by omega)
    have ixj : ew_ix (ei j) 15 := ei_ix hj15 (by decide)
    have clt : ¬ ei 15 ≤ ei j := by rw [ei_le (by decide) (by omega)]; omega
    have f0 : s1 273 j i = a 4 0 (j + 15 * q) := (F 273 j i (show ¬ ((273 = 401 ∧ i = g) ∨ (273 = 433 ∧ i = g')) by omega)).trans (hR.2.2.2 j hj15).1
    have f3 : ∀ c, c < 15 → s1 50 c i = a 4 3 (c + 15 * q) := fun c hc => (F 50 c i (show ¬ ((50 = 401 ∧ i = g) ∨ (50 = 433 ∧ i = g')) by omega)).trans (hR.2.2.2 c hc).2.2.2
    obtain ⟨st1, st2⟩ := h.step hj15 (hlz j hj15)
    by_cases hm : w = -1
    · subst hm
      exact ew_go (fun pc => Nat.beq pc 13 || Nat.beq pc 90) 40 ⟨fun c => absurd c clt, fun c => ⟨fun _ => k s1 _ v F h.none, fun c1 => absurd rfl c1⟩⟩
    have hw4 := hw.resolve_left hm
    by_cases hb : ef_nb j w = -1
    · have nx := ih (j + 1) (ei j + 1) (some (ew_i (-1))) s1 (ei_1 _) (by omega) F (st1 (Or.inr (Or.inl hb)))
      exact ew_go (fun pc => Nat.beq pc 13 || Nat.beq pc 90) 80 ⟨fun c => absurd c clt, fun c => ⟨fun c1 => absurd c1 hm, fun _ => xm_besideE j hj15 hw4 hb ⟨ixj, fun e => nx, fun e => ⟨fun e1 => nx, fun e1 => absurd rfl e1⟩⟩⟩⟩
    obtain ⟨t, ht, e, -⟩ := (ef_nb_r hj15 w).resolve_left hb
    have htn : (ei t).toNatClampNeg = t := ei_nat (by omega)
    have ixt : ew_ix (ei t) 15 := ei_ix ht (by decide)
    by_cases hl : a 4 3 (j + 15 * q) = 0
    · by_cases hlt : a 4 3 (t + 15 * q) = 0
      · have nx := ih (j + 1) (ei j + 1) (some (ew_i (ei t))) _ (ei_1 _) (by omega) ((F.u (a 4 0 (j + 15 * q) / 10) (Or.inl ⟨rfl, rfl⟩)).u (k := 433) (p := t) (i := g') (a 4 0 (j + 15 * q) / 10) (Or.inr ⟨rfl, rfl⟩)) (st2 t ht hl e hlt)
        have s76 : ew_W (ew_Call (d + 2)) 118 K (76, [some (ew_o 14 i), some (ew_i w), some (ew_o 401 g), some (ew_o 433 g'), some (ew_i (ei j)), some (ew_i (ei t))], [], ew_hp (ew_u s1 401 j g (a 4 0 (j + 15 * q) / 10)) m) := by
          refine ew_go (fun pc => Nat.beq pc 84) 40 ⟨ixj, ⟨ixt, trivial⟩, ?_⟩
          show ew_W (ew_Call (d + 2)) 118 K (84, [some (ew_o 14 i), some (ew_i w), some (ew_o 401 g), some (ew_o 433 g'), some (ew_i (ei j)), some (ew_i (ei t))], [], ew_put (ew_hp (ew_u s1 401 j g (a 4 0 (j + 15 * q) / 10)) m) 433 g' (ei t).toNatClampNeg (ew_i (ew_u s1 401 j g (a 4 0 (j + 15 * q) / 10) 401 (ei j).toNatClampNeg g)))
          rw [htn, hn, ew_u_self]
          exact eq_1 rfl (ew_go (fun pc => Nat.beq pc 13) 40 nx)
        refine ew_go (fun pc => Nat.beq pc 13 || Nat.beq pc 90 || Nat.beq pc 76) 80 ⟨fun c => absurd c clt, fun c => ⟨fun c1 => absurd c1 hm, fun _ => xm_besideE j hj15 hw4 e ⟨ixj, fun e0 => absurd (show s1 50 (ei j).toNatClampNeg i = 0 from ?_) e0, fun e0 => ⟨fun e1 => absurd e1 (ei_m1 t ht), fun e1 => ⟨ixt, fun e2 => ⟨ixj, by decide, ⟨ixj, trivial⟩, ?_⟩, fun e2 => absurd (show s1 50 (ei t).toNatClampNeg i = 0 from ?_) e2⟩⟩⟩⟩⟩
        · rw [hn, f3 j hj15]; exact hl
        · show ew_W (ew_Call (d + 2)) 118 K (76, [some (ew_o 14 i), some (ew_i w), some (ew_o 401 g), some (ew_o 433 g'), some (ew_i (ei j)), some (ew_i (ei t))], [], ew_put (ew_hp s1 m) 401 g (ei j).toNatClampNeg (ew_i (s1 273 (ei j).toNatClampNeg i / 10)))
          rw [hn, f0]
          exact eq_1 rfl s76
        · rw [htn, f3 t ht]; exact hlt
      · have nx := ih (j + 1) (ei j + 1) (some (ew_i (ei t))) s1 (ei_1 _) (by omega) F (st1 (Or.inr (Or.inr ⟨t, ht, e, hlt⟩)))
        refine ew_go (fun pc => Nat.beq pc 13 || Nat.beq pc 90) 80 ⟨fun c => absurd c clt, fun c => ⟨fun c1 => absurd c1 hm, fun _ => xm_besideE j hj15 hw4 e ⟨ixj, fun e0 => nx, fun e0 => ⟨fun e1 => absurd e1 (ei_m1 t ht), fun e1 => ⟨ixt, fun e2 => absurd (show s1 50 (ei t).toNatClampNeg i = 0 from e2) ?_, fun e2 => nx⟩⟩⟩⟩⟩
        rw [htn, f3 t ht]; exact hlt
    · have nx := ih (j + 1) (ei j + 1) (some (ew_i (ei t))) s1 (ei_1 _) (by omega) F (st1 (Or.inl hl))
      refine ew_go (fun pc => Nat.beq pc 13 || Nat.beq pc 90) 40 ⟨fun c => absurd c clt, fun c => ⟨fun c1 => absurd c1 hm, fun _ => xm_besideE j hj15 hw4 e ⟨ixj, fun e0 => nx, fun e0 => absurd (show ¬ s1 50 (ei j).toNatClampNeg i = 0 from ?_) e0⟩⟩⟩
      rw [hn, f3 j hj15]; exact hl
/-- settling -/
theorem xl_md2 {g g' : Nat} {w w' : Int32} {v : Option ew_V} (hR : rc q i z a s m) (hv : rv q g g' 15 w a s)
    (k : ∀ s1, Fr (fun k _ o => (k = 273 ∨ k = 305) ∧ o = i) s s1 → (∀ c, c < 15 → s1 273 c i = a 4 0 (c + 15 * q) + (cf_t q w a 15 c - cf_v q w a c) ∧ s1 305 c i = ew_max 0 (cf_t q w a 15 c - cf_v q w a c)) → K (.inl none) (ew_hp s1 m)) : ∀ (r j : Nat) (y : Int32) (s1 : ew_S), y = ei j → j + r = 15 → Fr (fun k _ o => (k = 273 ∨ k = 305) ∧ o = i) s s1 → (∀ c, c < 15 → s1 273 c i = (if c < j then a 4 0 (c + 15 * q) + (cf_t q w a 15 c - cf_v q w a c) else a 4 0 (c + 15 * q)) ∧ (c < j → s1 305 c i = ew_max 0 (cf_t q w a 15 c - cf_v q w a c))) →
    ew_W (ew_Call (d + 2)) 118 K (93, [some (ew_o 14 i), some (ew_i w'), some (ew_o 401 g), some (ew_o 433 g'), some (ew_i y), v], [], ew_hp s1 m) := by
  intro r
  induction r with
  | zero =>
    intro j y s1 hy hj F h
    subst hy
    obtain rfl : j = 15 := by omega
    refine ew_go (fun pc => Nat.beq pc 93) 40 ⟨fun c => ⟨trivial, k s1 F (fun c hc => ?_)⟩, fun c => absurd (show ei 15 ≤ ei 15 by decide) c⟩
    obtain ⟨h1, h2⟩ := h c hc
    rw [if_pos hc] at h1
    exact ⟨h1, h2 hc⟩
  | succ r ih =>
    intro j y s1 hy hj F h
    subst hy
    have hj15 : j < 15 := by omega
    have hn : (ei j).toNatClampNeg = j := ei_nat (by omega)
    have ixj : ew_ix (ei j) 15 := ei_ix hj15 (by decide)
    have clt : ¬ ei 15 ≤ ei j := by rw [ei_le (by decide) (by omega)]; omega
    have f0 : s1 273 j i = a 4 0 (j + 15 * q) := by rw [(h j hj15).1, if_neg (by omega)]
    have f1 : s1 401 j g = cf_v q w a j := by rw [F 401 j g (fun w => by have := w.1; omega), (hv j hj15).1, if_pos hj15]
    have f2 : s1 433 j g' = cf_t q w a 15 j := by rw [F 433 j g' (fun w => by have := w.1; omega), (hv j hj15).2]
    have nx := ih (j + 1) (ei j + 1) (ew_u (ew_u s1 273 j i (a 4 0 (j + 15 * q) + (cf_t q w a 15 j - cf_v q w a j))) 305 j i (ew_max 0 (cf_t q w a 15 j - cf_v q w a j))) (ei_1 _) (by omega) ((F.u _ ⟨Or.inl rfl, rfl⟩).u _ ⟨Or.inr rfl, rfl⟩) (fun c hc => by
      obtain ⟨h1, h2⟩ := h c hc
      by_cases e : c = j
      · subst e
        rw [if_pos (by omega), ew_u_ne _ _ (by omega), ew_u_self, ew_u_self]
        exact ⟨rfl, fun _ => rfl⟩
      · rw [ew_u_ne _ _ (by omega), ew_u_ne _ _ (by omega), ew_u_ne _ _ (by omega), ew_u_ne _ _ (by omega), h1]
        exact ⟨ei_if ⟨fun z => by omega, fun z => by omega⟩ _ _, fun z => h2 (by omega)⟩)
    refine ew_go (fun pc => Nat.beq pc 93 || Nat.beq pc 119) 80 ⟨fun c => absurd c clt, fun c => ⟨ixj, ixj, ixj, ⟨ixj, trivial⟩, ?_⟩⟩
    show ew_W (ew_Call (d + 2)) 118 K (119, [some (ew_o 14 i), some (ew_i w'), some (ew_o 401 g), some (ew_o 433 g'), some (ew_i (ei j)), v], [], ew_put (ew_hp s1 m) 273 i (ei j).toNatClampNeg (ew_i (s1 273 (ei j).toNatClampNeg i + (s1 433 (ei j).toNatClampNeg g' - s1 401 (ei j).toNatClampNeg g))))
    rw [hn, f0, f1, f2]
    refine eq_1 rfl (ew_go (fun pc => Nat.beq pc 139) 80 ⟨ixj, ixj, ⟨ixj, trivial⟩, ?_⟩)
    show ew_W (ew_Call (d + 2)) 118 K (139, [some (ew_o 14 i), some (ew_i w'), some (ew_o 401 g), some (ew_o 433 g'), some (ew_i (ei j)), v], [], ew_put (ew_hp (ew_u s1 273 j i (a 4 0 (j + 15 * q) + (cf_t q w a 15 j - cf_v q w a j))) m) 305 i (ei j).toNatClampNeg (ew_i (ew_max 0 (s1 433 (ei j).toNatClampNeg g' - s1 401 (ei j).toNatClampNeg g))))
    rw [hn, f1, f2]
    exact eq_1 rfl (ew_go (fun pc => Nat.beq pc 93) 80 nx)
end
