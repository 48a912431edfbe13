/-! Drift and freezing, cell by cell. -/
theorem ei_if {p p' : Prop} [Decidable p] [Decidable p'] (h : p ↔ p') (a b : Int32) : (if p then a else b) = if p' then a else b := by
  by_cases z : p
  · rw [if_pos z, if_pos (h.mp z)]
  · rw [if_neg z, if_neg (fun y => z (h.mpr y))]
def ef_op (w : Int32) : Int32 := if w = 0 then 2 else if w = 1 then 3 else if w = 2 then 0 else if w = 3 then 1 else 4
theorem ef_nb_x {c : Nat} {w : Int32} (h : ¬ (w = 0 ∨ w = 1 ∨ w = 2 ∨ w = 3)) : ef_nb c w = -1 := by
  unfold ef_nb
  rw [if_neg (fun e => h (Or.inl e)), if_neg (fun e => h (Or.inr (Or.inl e))), if_neg (fun e => h (Or.inr (Or.inr (Or.inl e)))), if_neg (fun e => h (Or.inr (Or.inr (Or.inr e))))]
theorem ef_nb_d : ∀ w : Nat, w < 4 → ∀ c, c < 15 → ef_nb c (ei w) = -1 ∨ ((ef_nb c (ei w)).toNatClampNeg < 15 ∧ ef_nb c (ei w) = ei (ef_nb c (ei w)).toNatClampNeg ∧ (ef_nb c (ei w)).toNatClampNeg ≠ c) := by decide +kernel
theorem ef_nb_o : ∀ w : Nat, w < 4 → ∀ c, c < 15 → ∀ j, j < 15 → (ef_nb j (ei w) = ei c ↔ ef_nb c (ef_op (ei w)) = ei j) := by decide +kernel
theorem ef_w4 {w : Int32} : (∃ n, n < 4 ∧ w = ei n) ∨ ¬ (w = 0 ∨ w = 1 ∨ w = 2 ∨ w = 3) := by
  by_cases h : w = 0 ∨ w = 1 ∨ w = 2 ∨ w = 3
  · left
    rcases h with h | h | h | h
    · exact ⟨0, by decide, h⟩
    · exact ⟨1, by decide, h⟩
    · exact ⟨2, by decide, h⟩
    · exact ⟨3, by decide, h⟩
  · exact Or.inr h
theorem ef_nb_r {c : Nat} (hc : c < 15) (w : Int32) : ef_nb c w = -1 ∨ ∃ t, t < 15 ∧ ef_nb c w = ei t ∧ t ≠ c := by
  rcases ef_w4 (w := w) with ⟨n, hn, rfl⟩ | h
  · rcases ef_nb_d n hn c hc with e | ⟨e1, e2, e3⟩
    · exact Or.inl e
    · exact Or.inr ⟨_, e1, e2, e3⟩
  · exact Or.inl (ef_nb_x h)
theorem ef_nb_op {c j : Nat} (hc : c < 15) (hj : j < 15) (w : Int32) : ef_nb j w = ei c ↔ ef_nb c (ef_op w) = ei j := by
  rcases ef_w4 (w := w) with ⟨n, hn, rfl⟩ | h
  · exact ef_nb_o n hn c hc j hj
  · have h4 : ef_op w = 4 := by
      unfold ef_op
      rw [if_neg (fun e => h (Or.inl e)), if_neg (fun e => h (Or.inr (Or.inl e))), if_neg (fun e => h (Or.inr (Or.inr (Or.inl e)))), if_neg (fun e => h (Or.inr (Or.inr (Or.inr e))))]
    rw [h4, ef_nb_x h, ef_nb_x (w := 4) (by decide)]
    have : ∀ n, n < 15 → ¬ (-1 : Int32) = ei n := by decide +kernel
    exact ⟨fun e => absurd e (this c hc), fun e => absurd e (this j hj)⟩
theorem ei_m1 : ∀ n, n < 15 → ¬ ei n = (-1 : Int32) := by decide +kernel
/-- what cell c gives, and what it gets, of the first j cells -/
def cf_v (q : Nat) (w : Int32) (s : ew_S) (c : Nat) : Int32 := if ef_nb c w = -1 then 0 else if s 4 3 ((ef_nb c w).toNatClampNeg + 15 * q) = 0 then s 4 0 (c + 15 * q) / 10 else 0
def cf_t (q : Nat) (w : Int32) (s : ew_S) (j c : Nat) : Int32 := if ef_nb c (ef_op w) = -1 then 0 else if (ef_nb c (ef_op w)).toNatClampNeg < j ∧ s 4 3 (c + 15 * q) = 0 then s 4 0 ((ef_nb c (ef_op w)).toNatClampNeg + 15 * q) / 10 else 0
def Pc (q p0 : Nat) : Nat → Nat → Nat → Prop := fun k p i => k = 4 ∧ p = p0 ∧ 15 * q ≤ i ∧ i < 15 + 15 * q
theorem ei_ac (g v b : Int32) : g - b + v = g + v - b := by
  rw [Int32.sub_eq_add_neg, Int32.sub_eq_add_neg, Int32.add_assoc, Int32.add_comm (-b), ← Int32.add_assoc]
section
variable {q : Nat} {w : Int32} {s : ew_S}
theorem sp_g_ok : ∀ j, j ≤ 15 → Fr (Pc q 4) s (sp_g q w s j) ∧ ∀ c, c < 15 → sp_g q w s j 4 4 (c + 15 * q) = s 4 4 (c + 15 * q) + cf_t q w s j c - (if c < j then cf_v q w s c else 0)
  | 0, _ => by
    refine ⟨Fr.rf _ _, fun c hc => ?_⟩
    rw [if_neg (by omega)]
    have : cf_t q w s 0 c = 0 := by
      unfold cf_t
      split
      · rfl
      · rw [if_neg (by omega)]
    rw [this, Int32.add_zero, Int32.sub_zero]; rfl
  | j + 1, hj => by
    obtain ⟨F, G⟩ := sp_g_ok j (by omega)
    have hj15 : j < 15 := by omega
    have f0 : ∀ i, sp_g q w s j 4 0 i = s 4 0 i := fun i => F 4 0 i (fun z => by have := z.2.1; omega)
    have f3 : ∀ i, sp_g q w s j 4 3 i = s 4 3 i := fun i => F 4 3 i (fun z => by have := z.2.1; omega)
    show Fr _ _ (sp_g1 q w j (sp_g q w s j)) ∧ ∀ c, c < 15 → sp_g1 q w j (sp_g q w s j) 4 4 (c + 15 * q) = _
    generalize sp_g q w s j = s1 at *
    -- what the next step changes
    have ht : ∀ c, c < 15 → ¬ ef_nb j w = ei c → cf_t q w s (j + 1) c = cf_t q w s j c := fun c hc h => by
      unfold cf_t
      by_cases e : ef_nb c (ef_op w) = -1
      · rw [if_pos e, if_pos e]
      · rw [if_neg e, if_neg e]
        rcases ef_nb_r hc (ef_op w) with e2 | ⟨t, ht, e2, -⟩
        · exact absurd e2 e
        · have : t ≠ j := fun z => h ((ef_nb_op hc hj15 w).mpr (by rw [e2, z]))
          rw [e2, ei_nat (by omega)]
          exact ei_if ⟨fun z => ⟨by omega, z.2⟩, fun z => ⟨by omega, z.2⟩⟩ _ _
    rcases ef_nb_r hj15 w with e | ⟨t, ht15, e, htj⟩
    · have e1 : sp_g1 q w j s1 = s1 := if_pos e
      rw [e1]
      refine ⟨F, fun c hc => ?_⟩
      rw [G c hc, ht c hc (fun z => ei_m1 c hc (z.symm.trans e))]
      by_cases hcj : c = j
      · subst hcj
        rw [if_neg (by omega), if_pos (by omega)]
        have : cf_v q w s c = 0 := if_pos e
        rw [this]
      · have : ∀ (a b : Int32), (if c < j + 1 then a else b) = if c < j then a else b := fun a b => ei_if ⟨fun z => by omega, fun z => by omega⟩ a b
        rw [this]
    · have hne : ¬ ef_nb j w = -1 := fun z => ei_m1 t ht15 (e.symm.trans z)
      have e1 : sp_g1 q w j s1 = sp_give (j + 15 * q) (t + 15 * q) s1 := by
        unfold sp_g1
        rw [if_neg hne, e, ei_nat (by omega)]
      rw [e1]
      unfold sp_give
      rw [f3]
      have hv : ∀ c, c < 15 → c ≠ j → (if c < j + 1 then cf_v q w s c else 0) = (if c < j then cf_v q w s c else 0) := fun c _ h => by
        have : ∀ (a b : Int32), (if c < j + 1 then a else b) = if c < j then a else b := fun a b => ei_if ⟨fun z => by omega, fun z => by omega⟩ a b
        rw [this]
      by_cases hl : s 4 3 (t + 15 * q) = 0
      · rw [if_pos hl, f0]
        refine ⟨(F.u _ ⟨rfl, rfl, by omega, by omega⟩).u _ ⟨rfl, rfl, by omega, by omega⟩, fun c hc => ?_⟩
        have hcv : cf_v q w s j = s 4 0 (j + 15 * q) / 10 := by
          unfold cf_v
          rw [if_neg hne, e, ei_nat (by omega), if_pos hl]
        by_cases h1 : c = t
        · subst h1
          rw [ew_u_self, ew_u_ne _ _ (by omega), G c hc, hv c hc htj]
          have a1 : cf_t q w s j c = 0 := by
            unfold cf_t
            rw [(ef_nb_op hc hj15 w).mp e, if_neg (ei_m1 j hj15), ei_nat (by omega), if_neg (by omega)]
          have a2 : cf_t q w s (j + 1) c = s 4 0 (j + 15 * q) / 10 := by
            unfold cf_t
            rw [(ef_nb_op hc hj15 w).mp e, if_neg (ei_m1 j hj15), ei_nat (by omega), if_pos ⟨by omega, hl⟩]
          rw [a1, a2, Int32.add_zero, ei_ac]
        · rw [ew_u_ne _ _ (by omega)]
          have hce : ¬ ef_nb j w = ei c := fun z => h1 ((ei_inj (by omega) (by omega)).mp (z.symm.trans e))
          rw [ht c hc hce]
          by_cases h2 : c = j
          · subst h2
            rw [ew_u_self, G c hc, if_neg (by omega), if_pos (by omega), Int32.sub_zero, hcv]
          · rw [ew_u_ne _ _ (by omega), G c hc, hv c hc h2]
      · rw [if_neg hl]
        refine ⟨F, fun c hc => ?_⟩
        rw [G c hc]
        have a1 : cf_t q w s (j + 1) c = cf_t q w s j c := by
          by_cases h1 : c = t
          · subst h1
            unfold cf_t
            rw [(ef_nb_op hc hj15 w).mp e, if_neg (ei_m1 j hj15), if_neg (ei_m1 j hj15), if_neg (fun z => hl z.2), if_neg (fun z => hl z.2)]
          · exact ht c hc (fun z => h1 ((ei_inj (by omega) (by omega)).mp (z.symm.trans e)))
        rw [a1]
        by_cases h2 : c = j
        · subst h2
          rw [if_neg (by omega), if_pos (by omega)]
          have : cf_v q w s c = 0 := by
            unfold cf_v
            rw [if_neg hne, e, ei_nat (by omega), if_neg hl]
          rw [this]
        · rw [hv c hc h2]
/-- settled -/
theorem sp_s_ok : ∀ j, j ≤ 15 → Fr (fun k p i => k = 4 ∧ (p = 0 ∨ p = 1 ∨ p = 4) ∧ 15 * q ≤ i ∧ i < 15 + 15 * q) s (sp_s q s j) ∧ ∀ c, c < 15 → sp_s q s j 4 0 (c + 15 * q) = (if c < j then s 4 0 (c + 15 * q) + s 4 4 (c + 15 * q) else s 4 0 (c + 15 * q)) ∧ sp_s q s j 4 1 (c + 15 * q) = (if c < j then ew_max 0 (s 4 4 (c + 15 * q)) else s 4 1 (c + 15 * q)) ∧ sp_s q s j 4 4 (c + 15 * q) = (if c < j then 0 else s 4 4 (c + 15 * q))
  | 0, _ => ⟨Fr.rf _ _, fun c hc => by rw [if_neg (by omega), if_neg (by omega), if_neg (by omega)]; exact ⟨rfl, rfl, rfl⟩⟩
  | j + 1, hj => by
    obtain ⟨F, G⟩ := sp_s_ok j (by omega)
    show Fr _ _ (sp_s1 (j + 15 * q) (sp_s q s j)) ∧ ∀ c, c < 15 → sp_s1 (j + 15 * q) (sp_s q s j) 4 0 (c + 15 * q) = _ ∧ sp_s1 (j + 15 * q) (sp_s q s j) 4 1 (c + 15 * q) = _ ∧ sp_s1 (j + 15 * q) (sp_s q s j) 4 4 (c + 15 * q) = _
    generalize sp_s q s j = s1 at *
    unfold sp_s1
    refine ⟨((F.u _ ⟨rfl, Or.inl rfl, by omega, by omega⟩).u _ ⟨rfl, Or.inr (Or.inl rfl), by omega, by omega⟩).u _ ⟨rfl, Or.inr (Or.inr rfl), by omega, by omega⟩, fun c hc => ?_⟩
    obtain ⟨g1, g2, g3⟩ := G c hc
    by_cases h : c = j
    · subst h
      rw [if_neg (by omega)] at g1 g3
      rw [if_pos (by omega), if_pos (by omega), if_pos (by omega)]
      refine ⟨?_, ?_, ew_u_self _ _ _ _ _⟩
      · rw [ew_u_ne _ _ (by omega), ew_u_ne _ _ (by omega), ew_u_self, g1, g3]
      · rw [ew_u_ne _ _ (by omega), ew_u_self, g3]
    · have : ∀ (a b : Int32), (if c < j + 1 then a else b) = if c < j then a else b := fun a b => ei_if ⟨fun z => by omega, fun z => by omega⟩ a b
      rw [this, this, this]
      refine ⟨?_, ?_, ?_⟩
      · rw [ew_u_ne _ _ (by omega), ew_u_ne _ _ (by omega), ew_u_ne _ _ (by omega)]; exact g1
      · rw [ew_u_ne _ _ (by omega), ew_u_ne _ _ (by omega), ew_u_ne _ _ (by omega)]; exact g2
      · rw [ew_u_ne _ _ (by omega), ew_u_ne _ _ (by omega), ew_u_ne _ _ (by omega)]; exact g3
theorem sp_f_ok (x : Int32) : ∀ j, j ≤ 15 → Fr (fun k p i => (k = 4 ∧ (p = 0 ∨ p = 2) ∧ 15 * q ≤ i ∧ i < 15 + 15 * q) ∨ (k = 9 ∧ p = 6 ∧ i = q)) s (sp_f q x s j) ∧ sp_f q x s j 9 6 q = s 9 6 q + ef_sum (fun c => sp_fa x (c + 15 * q) s) j ∧ ∀ c, c < 15 → sp_f q x s j 4 0 (c + 15 * q) = (if c < j then s 4 0 (c + 15 * q) + sp_fa x (c + 15 * q) s else s 4 0 (c + 15 * q)) ∧ sp_f q x s j 4 2 (c + 15 * q) = (if c < j then ew_max 0 (s 4 2 (c + 15 * q) - if s 4 1 (c + 15 * q) < 3 then 1 else 3) else s 4 2 (c + 15 * q))
  | 0, _ => ⟨Fr.rf _ _, (Int32.add_zero _).symm, fun c hc => by rw [if_neg (by omega), if_neg (by omega)]; exact ⟨rfl, rfl⟩⟩
  | j + 1, hj => by
    obtain ⟨F, G1, G⟩ := sp_f_ok x j (by omega)
    show Fr _ _ (sp_f1 q x (j + 15 * q) (sp_f q x s j)) ∧ sp_f1 q x (j + 15 * q) (sp_f q x s j) 9 6 q = s 9 6 q + (ef_sum (fun c => sp_fa x (c + 15 * q) s) j + sp_fa x (j + 15 * q) s) ∧ ∀ c, c < 15 → sp_f1 q x (j + 15 * q) (sp_f q x s j) 4 0 (c + 15 * q) = _ ∧ sp_f1 q x (j + 15 * q) (sp_f q x s j) 4 2 (c + 15 * q) = _
    obtain ⟨g1, g2⟩ := G j (by omega)
    rw [if_neg (by omega)] at g1 g2
    have f1 : ∀ i, sp_f q x s j 4 1 i = s 4 1 i := fun i => F 4 1 i (fun z => by
      rcases z with z | z
      · have := z.2.1; omega
      · have := z.1; omega)
    have f3 : ∀ i, sp_f q x s j 4 3 i = s 4 3 i := fun i => F 4 3 i (fun z => by
      rcases z with z | z
      · have := z.2.1; omega
      · have := z.1; omega)
    generalize sp_f q x s j = s1 at *
    have ha : sp_fa x (j + 15 * q) s1 = sp_fa x (j + 15 * q) s := by unfold sp_fa; rw [g1, f3]
    have h0 : ∀ i, sp_fi x (j + 15 * q) s1 4 0 i = if i = j + 15 * q then s 4 0 i + sp_fa x i s else s1 4 0 i := fun i => by
      unfold sp_fi sp_fa
      by_cases hi : i = j + 15 * q
      · subst hi
        rw [if_pos rfl, g1, f3]
        split
        · rw [ew_u_self]
        · rw [g1, Int32.add_zero]
      · rw [if_neg hi]
        split
        · rw [ew_u_ne _ _ (by omega)]
        · rfl
    have hF : Fr (fun k p i => k = 4 ∧ p = 0 ∧ i = j + 15 * q) s1 (sp_fi x (j + 15 * q) s1) := by
      unfold sp_fi
      split
      · exact (Fr.rf _ _).u _ ⟨rfl, rfl, rfl⟩
      · exact Fr.rf _ _
    have hF' := F.tr (hF.mono (P' := (fun k p i => (k = 4 ∧ (p = 0 ∨ p = 2) ∧ 15 * q ≤ i ∧ i < 15 + 15 * q) ∨ (k = 9 ∧ p = 6 ∧ i = q))) (fun k p i z => Or.inl ⟨z.1, Or.inl z.2.1, by have := z.2.2; omega, by have := z.2.2; omega⟩))
    have hf : ∀ {p i : Nat}, p ≠ 0 → sp_fi x (j + 15 * q) s1 4 p i = s1 4 p i := fun h => hF _ _ _ (fun z => h z.2.1)
    unfold sp_f1 sp_cl
    rw [ha]
    generalize sp_fi x (j + 15 * q) s1 = s2 at *
    refine ⟨(hF'.u _ (Or.inr ⟨rfl, rfl, rfl⟩)).u _ (Or.inl ⟨rfl, Or.inr rfl, by omega, by omega⟩), ?_, fun c hc => ?_⟩
    · rw [ew_u_ne _ _ (by omega), ew_u_self, G1, Int32.add_assoc]
    · obtain ⟨k1, k2⟩ := G c hc
      rw [ew_u_ne _ _ (by omega), ew_u_ne _ _ (by omega), h0]
      by_cases h : c = j
      · subst h
        rw [if_pos rfl, if_pos (show c < c + 1 by omega), if_pos (show c < c + 1 by omega)]
        refine ⟨rfl, ?_⟩
        rw [ew_u_self, ew_u_ne _ _ (by omega), ew_u_ne _ _ (by omega), hf (by decide), hf (by decide), g2, f1]
      · have e2 : ∀ (a b : Int32), (if c < j + 1 then a else b) = if c < j then a else b := fun a b => ei_if ⟨fun z => by omega, fun z => by omega⟩ a b
        rw [e2, e2, if_neg (by omega)]
        refine ⟨k1, ?_⟩
        rw [ew_u_ne _ _ (by omega), ew_u_ne _ _ (by omega), hf (by decide)]
        exact k2
end
