/-! The hour keeps what holds. -/
theorem ei_div10 {n : Nat} (h : n < 2147483648) : ei n / 10 = ei (n / 10) := by
  rw [← Int32.toInt_inj, Int32.toInt_div_of_ne_right _ _ (by decide), ei_int h, ei_int (by omega), show (10 : Int32).toInt = 10 from rfl, Int.tdiv_eq_ediv_of_nonneg (by omega)]
  omega
theorem ew_max_nn (x : Int32) : 0 ≤ ew_max 0 x := by
  unfold ew_max
  split
  · rename_i h; exact Int32.le_of_lt h
  · exact Int32.le_refl _
theorem ef_sm_le (n : Nat → Nat) : ∀ j c, c < j → n c ≤ ef_sm n j
  | 0, _, h => absurd h (Nat.not_lt_zero _)
  | j + 1, c, h => by
    show n c ≤ ef_sm n j + n j
    by_cases e : c = j
    · subst e; omega
    · have := ef_sm_le n j c (by omega); omega
theorem ef_sm_le' (n m : Nat → Nat) : ∀ j, (∀ c, c < j → n c ≤ m c) → ef_sm n j ≤ ef_sm m j
  | 0, _ => Nat.le_refl _
  | j + 1, h => by
    have := ef_sm_le' n m j (fun c hc => h c (by omega))
    have := h j (by omega)
    show ef_sm n j + n j ≤ ef_sm m j + m j
    omega
theorem ef_sm_add (n : Nat → Nat) (k : Nat) : ∀ j, ef_sm (fun c => n c + k) j = ef_sm n j + j * k
  | 0 => by rw [Nat.zero_mul]; rfl
  | j + 1 => by
    show ef_sm (fun c => n c + k) j + (n j + k) = ef_sm n j + n j + (j + 1) * k
    rw [ef_sm_add n k j, Nat.succ_mul]; omega
theorem ef_sm_const (k : Nat) : ∀ j, ef_sm (fun _ => k) j = j * k
  | 0 => by rw [Nat.zero_mul]; rfl
  | j + 1 => by
    show ef_sm (fun _ => k) j + k = (j + 1) * k
    rw [ef_sm_const k j, Nat.succ_mul]
theorem ef_sum_ei (f : Nat → Int32) (n : Nat → Nat) : ∀ j, (∀ c, c < j → f c = ei (n c)) → ef_sum f j = ei (ef_sm n j)
  | 0, _ => rfl
  | j + 1, h => by
    show ef_sum f j + f j = ei (ef_sm n j + n j)
    rw [ef_sum_ei f n j (fun c hc => h c (by omega)), h j (by omega), ei_add]
theorem ef_sum_cg (f g : Nat → Int32) : ∀ j, (∀ c, c < j → f c = g c) → ef_sum f j = ef_sum g j
  | 0, _ => rfl
  | j + 1, h => by
    show ef_sum f j + f j = ef_sum g j + g j
    rw [ef_sum_cg f g j (fun c hc => h c (by omega)), h j (by omega)]
theorem ef_sum_up (f : Nat → Int32) (k : Nat) (x : Int32) : ∀ j, ef_sum (fun c => if c = k then f c + x else f c) j = ef_sum f j + if k < j then x else 0
  | 0 => by rw [if_neg (Nat.not_lt_zero _)]; exact (Int32.add_zero _).symm
  | j + 1 => by
    show ef_sum (fun c => if c = k then f c + x else f c) j + (if j = k then f j + x else f j) = ef_sum f j + f j + _
    rw [ef_sum_up f k x j]
    by_cases h : j = k
    · subst h
      rw [if_pos rfl, if_neg (Nat.lt_irrefl _), if_pos (Nat.lt_succ_self _), Int32.add_zero, Int32.add_assoc]
    · rw [if_neg h]
      by_cases h2 : k < j
      · rw [if_pos h2, if_pos (Nat.lt_succ_of_lt h2), Int32.add_assoc, Int32.add_assoc, Int32.add_comm x]
      · rw [if_neg h2, if_neg (by omega), Int32.add_zero, Int32.add_zero]
theorem ef_sum_add (f g : Nat → Int32) : ∀ j, ef_sum (fun c => f c + g c) j = ef_sum f j + ef_sum g j
  | 0 => rfl
  | j + 1 => by
    show ef_sum (fun c => f c + g c) j + (f j + g j) = ef_sum f j + f j + (ef_sum g j + g j)
    rw [ef_sum_add f g j, Int32.add_assoc, Int32.add_assoc, ← Int32.add_assoc (ef_sum g j), Int32.add_comm (ef_sum g j) (f j), Int32.add_assoc]
section
variable {q nb ns np T : Nat} {s s' : ew_S}
/-- what is given away is got -/
theorem sp_g_sum (q : Nat) (w : Int32) (s : ew_S) : ∀ j, j ≤ 15 → ef_sum (fun c => sp_g q w s j 4 4 (c + 15 * q)) 15 = ef_sum (fun c => s 4 4 (c + 15 * q)) 15
  | 0, _ => rfl
  | j + 1, hj => by
    rw [← sp_g_sum q w s j (by omega)]
    show ef_sum (fun c => sp_g1 q w j (sp_g q w s j) 4 4 (c + 15 * q)) 15 = _
    generalize sp_g q w s j = s1
    unfold sp_g1
    split
    · rfl
    · rename_i e
      obtain ⟨t, ht, e2, htj⟩ := (ef_nb_r (show j < 15 by omega) w).resolve_left e
      rw [e2, ei_nat (by omega)]
      unfold sp_give
      split
      · rw [ef_sum_cg _ (fun c => if c = t then (if c = j then s1 4 4 (c + 15 * q) + -(s1 4 0 (j + 15 * q) / 10) else s1 4 4 (c + 15 * q)) + s1 4 0 (j + 15 * q) / 10 else (if c = j then s1 4 4 (c + 15 * q) + -(s1 4 0 (j + 15 * q) / 10) else s1 4 4 (c + 15 * q))) 15 (fun c hc => ?_), ef_sum_up (fun c => if c = j then s1 4 4 (c + 15 * q) + -(s1 4 0 (j + 15 * q) / 10) else s1 4 4 (c + 15 * q)), ef_sum_up, if_pos ht, if_pos (by omega), Int32.add_assoc, Int32.add_comm (-_), ← Int32.sub_eq_add_neg, Int32.sub_self, Int32.add_zero]
        by_cases h1 : c = t
        · subst h1
          rw [ew_u_self, ew_u_ne _ _ (by omega), if_pos rfl, if_neg htj]
        · rw [ew_u_ne _ _ (by omega), if_neg h1]
          by_cases h2 : c = j
          · subst h2
            rw [ew_u_self, if_pos rfl, Int32.sub_eq_add_neg]
          · rw [ew_u_ne _ _ (by omega), if_neg h2]
      · rfl
theorem iv_mb (h : Iv q nb ns np T s) {b : Nat} (hb : b < nb) : ∃ c, c < 15 ∧ Fr (Pb (b + 2 * q) (c + 15 * q)) s (sp_mb q (b + 2 * q) s) ∧ iv_b (ea (sp_mb q (b + 2 * q) s) (b + 2 * q)) ∧ iv_c (ea (sp_mb q (b + 2 * q) s) (c + 15 * q)) := by
  obtain ⟨a1, a2⟩ := h.2.2.2.1 b hb
  have hc := h.2.2.1
  generalize hB : b + 2 * q = B at *
  have P : ∀ {C k p : Nat}, (k = 3 ∨ k = 8 ∨ k = 145) → Pb B C k p B := fun z => Or.inl ⟨rfl, z⟩
  unfold sp_mb
  split
  · exact ⟨0, by decide, (Fr.rf _ _).u _ (P (Or.inl rfl)), ⟨a1, a2⟩, hc 0 (by decide)⟩
  rename_i n0
  obtain ⟨c, c1, c2⟩ := a2.first n0
  have c2' : s 145 0 B = ei c := c2
  rw [c2', ei_nat (by omega)]
  split
  · rename_i n1
    split
    · obtain ⟨k1, k2, k3⟩ := hc c c1
      refine ⟨c, c1, ((((((((Fr.rf _ _).u _ (P (Or.inl rfl))).u _ (P (Or.inl rfl))).u _ (P (Or.inl rfl))).u _ (P (Or.inl rfl))).sh _ (fun p => P (Or.inr (Or.inr rfl)))).u _ (P (Or.inr (Or.inl rfl))))).u _ (Or.inr ⟨rfl, rfl, rfl⟩), ⟨⟨c, c1, ?_⟩, ?_⟩, ⟨?_, Or.inl n1.2, k3⟩⟩
      · exact ew_u_self _ 3 1 B (ei c)
      · have a2' : iv_r 8 145 (ea (ew_u (ew_u (ew_u (ew_u s 3 4 B (-1)) 3 2 B (s 3 2 B - (3 + s 4 0 (c + 15 * q) / 30))) 3 4 B (s 3 1 B)) 3 1 B (ei c)) B) := a2
        exact a2'.take n0 (by decide)
      · show 0 ≤ ew_u _ 4 2 (c + 15 * q) 12 4 2 (c + 15 * q)
        rw [ew_u_self]; decide
    · exact ⟨0, by decide, ((Fr.rf _ _).u _ (P (Or.inl rfl))).u _ (P (Or.inl rfl)), ⟨a1, a2⟩, hc 0 (by decide)⟩
  · exact ⟨0, by decide, ((Fr.rf _ _).u _ (P (Or.inl rfl))).u _ (P (Or.inr (Or.inl rfl))), ⟨a1, ⟨0, by decide, ew_u_self _ 8 1 B _, fun r hr => absurd hr (Nat.not_lt_zero _)⟩⟩, hc 0 (by decide)⟩
/-- the cells and breakers of sea q -/
def Pk (q : Nat) : Nat → Nat → Nat → Prop := fun k p i => (k = 4 ∧ 15 * q ≤ i ∧ i < 15 + 15 * q) ∨ (k = 9 ∧ (p = 5 ∨ p = 6) ∧ i = q) ∨ (2 * q ≤ i ∧ i < 2 + 2 * q ∧ (k = 3 ∨ k = 8 ∨ k = 145))
theorem iv_bs (h : Iv q nb ns np T s) : ∀ b, b ≤ nb → Fr (Pk q) s (sp_b q s b) ∧ Iv q nb ns np T (sp_b q s b) ∧ (∀ i, sp_b q s b 9 5 i = s 9 5 i) ∧ (∀ i, sp_b q s b 9 6 i = s 9 6 i)
  | 0, _ => ⟨Fr.rf _ _, h, fun _ => rfl, fun _ => rfl⟩
  | b + 1, hb => by
    obtain ⟨a1, a2, a3, a4⟩ := iv_bs h b (by omega)
    obtain ⟨c, c1, F, k1, k2⟩ := iv_mb a2 (b := b) (by omega)
    have := h.1
    refine ⟨a1.tr (F.mono (fun k p i w => ?_)), a2.brk F k1 (fun _ => k2), fun i => (F 9 5 i (fun w => ?_)).trans (a3 i), fun i => (F 9 6 i (fun w => ?_)).trans (a4 i)⟩
    · rcases w with w | w
      · exact Or.inr (Or.inr ⟨by have := w.1; omega, by have := w.1; omega, w.2⟩)
      · exact Or.inl ⟨w.1, by have := w.2.2; omega, by have := w.2.2; omega⟩
    · rcases w with w | w
      · have := w.2; omega
      · have := w.1; omega
    · rcases w with w | w
      · have := w.2; omega
      · have := w.1; omega
theorem ef_nb_0 (c : Nat) : ef_nb c (-1) = -1 := ef_nb_x (by decide)
/-- drift and freezing keep the cells right -/
theorem iv_ck (h : Iv q nb ns np T s) (hT : T ≤ 100000000) (x w : Int32) (hx : 0 ≤ x ∧ x ≤ 9) : Fr (Pk q) s (sp_f q x (sp_s q (sp_g q w (ew_u s 9 5 q (s 9 5 q + 1)) 15) 15) 15) ∧ Iv q nb ns np (T + 135) (sp_f q x (sp_s q (sp_g q w (ew_u s 9 5 q (s 9 5 q + 1)) 15) 15) 15) ∧ (∀ c, c < 15 → (sp_s q (sp_g q w (ew_u s 9 5 q (s 9 5 q + 1)) 15) 15) 4 3 (c + 15 * q) = s 4 3 (c + 15 * q) ∧ (∃ n, n < 1000000000 ∧ (sp_s q (sp_g q w (ew_u s 9 5 q (s 9 5 q + 1)) 15) 15) 4 0 (c + 15 * q) = ei n) ∧ (s 4 3 (c + 15 * q) ≠ 0 → (sp_s q (sp_g q w (ew_u s 9 5 q (s 9 5 q + 1)) 15) 15) 4 0 (c + 15 * q) = 0)) := by
  obtain ⟨b0, b1, hc, hb, hs, hp, n, ht, hn⟩ := h
  have hcn : ∀ c, c < 15 → n c ≤ T := fun c hc => Nat.le_trans (ef_sm_le n 15 c hc) ht
  have hs0c : ∀ p i, (ew_u s 9 5 q (s 9 5 q + 1)) 4 p i = s 4 p i := fun p i => rfl
  have F0 : Fr (Pk q) s (ew_u s 9 5 q (s 9 5 q + 1)) := (Fr.rf _ _).u _ (Or.inr (Or.inl ⟨rfl, Or.inl rfl, rfl⟩))
  generalize hs0 : ew_u s 9 5 q (s 9 5 q + 1) = s0 at *
  obtain ⟨F1, G1⟩ := sp_g_ok (q := q) (w := w) (s := s0) 15 (Nat.le_refl _)
  have S1 := sp_g_sum q w s0 15 (Nat.le_refl _)
  generalize hs1 : sp_g q w s0 15 = s1 at *
  obtain ⟨F2, G2⟩ := sp_s_ok (q := q) (s := s1) 15 (Nat.le_refl _)
  generalize hs2 : sp_s q s1 15 = s2 at *
  obtain ⟨F3, G31, G3⟩ := sp_f_ok (q := q) (s := s2) x 15 (Nat.le_refl _)
  generalize hs3 : sp_f q x s2 15 = s3 at *
  have F1' : Fr (Pk q) s0 s1 := F1.mono (fun k p i z => Or.inl ⟨z.1, z.2.2⟩)
  have F2' : Fr (Pk q) s1 s2 := F2.mono (fun k p i z => Or.inl ⟨z.1, z.2.2⟩)
  have F3' : Fr (Pk q) s2 s3 := F3.mono (fun k p i z => by
    rcases z with z | z
    · exact Or.inl ⟨z.1, z.2.2⟩
    · exact Or.inr (Or.inl ⟨z.1, Or.inr z.2.1, z.2.2⟩))
  have l1 : ∀ i, s1 4 3 i = s 4 3 i := fun i => (F1 4 3 i (fun z => by have := z.2.1; omega)).trans (hs0c 3 i)
  have l2 : ∀ i, s2 4 3 i = s 4 3 i := fun i => (F2 4 3 i (fun z => by have := z.2.1; omega)).trans (l1 i)
  have l3 : ∀ i, s3 4 3 i = s 4 3 i := fun i => (F3 4 3 i (fun z => by
    rcases z with z | z
    · have := z.2.1; omega
    · have := z.1; omega)).trans (l2 i)
  have e1 : ∀ i, s1 4 0 i = s 4 0 i := fun i => (F1 4 0 i (fun z => by have := z.2.1; omega)).trans (hs0c 0 i)
  have ch1 : ∀ i, s1 4 2 i = s 4 2 i := fun i => (F1 4 2 i (fun z => by have := z.2.1; omega)).trans (hs0c 2 i)
  have ch2 : ∀ i, s2 4 2 i = s 4 2 i := fun i => (F2 4 2 i (fun z => by have := z.2.1; omega)).trans (ch1 i)
  -- gains, as numbers
  have hv : ∀ c, c < 15 → ∃ v, v ≤ n c / 10 ∧ cf_v q w s0 c = ei v := fun c hc => by
    unfold cf_v
    split
    · exact ⟨0, Nat.zero_le _, rfl⟩
    · split
      · rw [hs0c, hn c hc, ei_div10 (by have := hcn c hc; omega)]
        exact ⟨_, Nat.le_refl _, rfl⟩
      · exact ⟨0, Nat.zero_le _, rfl⟩
  have hg : ∀ c, c < 15 → ∃ v, v ≤ T / 10 ∧ cf_t q w s0 15 c = ei v ∧ (s 4 3 (c + 15 * q) ≠ 0 → v = 0) := fun c hc => by
    unfold cf_t
    rcases ef_nb_r hc (ef_op w) with e | ⟨t, ht, e, -⟩
    · rw [if_pos e]; exact ⟨0, Nat.zero_le _, rfl, fun _ => rfl⟩
    · rw [e, if_neg (ei_m1 t ht), ei_nat (by omega)]
      by_cases z : s0 4 3 (c + 15 * q) = 0
      · rw [if_pos ⟨ht, z⟩, hs0c, hn t ht, ei_div10 (by have := hcn t ht; omega)]
        exact ⟨_, by have := hcn t ht; omega, rfl, fun k => absurd ((hs0c 3 _).symm.trans z) k⟩
      · rw [if_neg (fun k => z k.2)]; exact ⟨0, Nat.zero_le _, rfl, fun _ => rfl⟩
  have hgain : ∀ c, c < 15 → s1 4 4 (c + 15 * q) = cf_t q w s0 15 c - cf_v q w s0 c := fun c hc' => by
    rw [G1 c hc', if_pos hc', hs0c, show s 4 4 (c + 15 * q) = 0 from (hc c hc').2.2, Int32.zero_add]
  have hice2 : ∀ c, c < 15 → ∃ m, m ≤ n c + T / 10 ∧ s2 4 0 (c + 15 * q) = ei m ∧ (s 4 3 (c + 15 * q) ≠ 0 → m = 0) := fun c hc' => by
    obtain ⟨v, v1, v2⟩ := hv c hc'
    obtain ⟨g, g1, g2, g3⟩ := hg c hc'
    have := hcn c hc'
    refine ⟨n c + g - v, by omega, ?_, fun z => ?_⟩
    · rw [(G2 c hc').1, if_pos hc', e1, hn c hc', hgain c hc', g2, v2, Int32.sub_eq_add_neg, ← Int32.add_assoc, ← Int32.sub_eq_add_neg, ei_add, ei_sub (by omega)]
    · rcases (hc c hc').2.1 with k | k
      · exact absurd k z
      · have k0 : s 4 0 (c + 15 * q) = 0 := k.2.1
        rw [hn c hc'] at k0
        have := (ei_inj (b := 0) (by omega) (by decide)).mp k0
        have := g3 z
        omega
  have hchs : ∃ m : Nat → Nat, ∀ c, c < 15 → m c ≤ n c + T / 10 ∧ s2 4 0 (c + 15 * q) = ei (m c) ∧ (s 4 3 (c + 15 * q) ≠ 0 → m c = 0) := by
    refine ⟨fun c => (s2 4 0 (c + 15 * q)).toNatClampNeg, fun c hc' => ?_⟩
    obtain ⟨m, m1, m2, m3⟩ := hice2 c hc'
    have := hcn c hc'
    dsimp only
    rw [m2, ei_nat (by omega)]
    exact ⟨m1, rfl, m3⟩
  obtain ⟨m, hm⟩ := hchs
  -- all ice stays
  have hsum : ef_sm m 15 ≤ T := by
    have a : ef_sum (fun c => s2 4 0 (c + 15 * q)) 15 = ef_sum (fun c => s 4 0 (c + 15 * q)) 15 := by
      rw [ef_sum_cg _ (fun c => s 4 0 (c + 15 * q) + s1 4 4 (c + 15 * q)) 15 (fun c hc' => by rw [(G2 c hc').1, if_pos hc', e1]), ef_sum_add, S1]
      rw [ef_sum_cg (fun c => s0 4 4 (c + 15 * q)) (fun _ => ei 0) 15 (fun c hc' => by show s0 4 4 (c + 15 * q) = ei 0; rw [hs0c]; exact (hc c hc').2.2), ef_sum_ei _ (fun _ => 0) 15 (fun _ _ => rfl), ef_sm_const]
      exact Int32.add_zero _
    rw [ef_sum_ei _ m 15 (fun c hc' => (hm c hc').2.1), ef_sum_ei _ n 15 hn] at a
    have b : ef_sm m 15 ≤ ef_sm (fun c => n c + T / 10) 15 := ef_sm_le' _ _ 15 (fun c hc' => (hm c hc').1)
    rw [ef_sm_add] at b
    have := (ei_inj (by omega) (by omega)).mp a
    omega
  have hmT : ∀ c, c < 15 → m c ≤ T := fun c hc' => Nat.le_trans (ef_sm_le m 15 c hc') hsum
  -- freezing
  have hfa : ∀ c, c < 15 → ∃ a, a ≤ 9 ∧ sp_fa x (c + 15 * q) s2 = ei a ∧ (s 4 3 (c + 15 * q) ≠ 0 → a = 0) := fun c hc' => by
    unfold sp_fa
    obtain ⟨m1, m2, m3⟩ := hm c hc'
    have := hmT c hc'
    split
    · rename_i z
      rw [l2] at z
      rw [m2] at z ⊢
      have z2 : m c < 300 := (ei_lt (by omega) (by decide)).mp z.2
      have hxn := ei_of (x := x) (Int32.not_lt.mpr hx.1)
      have hx9 : x.toNatClampNeg ≤ 9 := by
        have q1 := hx.2
        rw [hxn] at q1
        exact (ei_le (b := 9) (by have h1 := Int32.toInt_lt x; have e1 : x.toNatClampNeg = x.toInt.toNat := rfl; omega) (by decide)).mp q1
      rw [show (300 : Int32) = ei 300 from rfl, ei_sub (by omega)]
      unfold ew_min
      split
      · rename_i y
        rw [hxn] at y
        have := (ei_lt (by omega) (by omega)).mp y
        exact ⟨300 - m c, by omega, rfl, fun k => absurd z.1 k⟩
      · exact ⟨_, hx9, hxn, fun k => absurd z.1 k⟩
    · exact ⟨0, by decide, rfl, fun _ => rfl⟩
  refine ⟨((F0.tr F1').tr F2').tr F3', ⟨b0, ⟨?_, ?_, ?_⟩, fun c hc' => ?_, fun b hb' => ?_, fun j hj => ?_, fun p hp' => ?_, ?_⟩, fun c hc' => ⟨l2 _, ⟨m c, by have := hmT c hc'; omega, (hm c hc').2.1⟩, fun z => ?_⟩⟩
  · rw [(((F0.tr F1').tr F2').tr F3') 9 3 q (fun z => by unfold Pk at z; omega)]; exact b1.1
  · rw [(((F0.tr F1').tr F2').tr F3') 9 4 q (fun z => by unfold Pk at z; omega)]; exact b1.2.1
  · rw [(((F0.tr F1').tr F2').tr F3') 7 1 0 (fun z => by unfold Pk at z; omega)]; exact b1.2.2
  · obtain ⟨k1, k2, k3⟩ := hc c hc'
    obtain ⟨g1, g2⟩ := G3 c hc'
    rw [if_pos hc'] at g1 g2
    refine ⟨?_, ?_, ?_⟩
    · show 0 ≤ s3 4 2 (c + 15 * q)
      rw [g2]; exact ew_max_nn _
    · show s3 4 3 (c + 15 * q) = 0 ∨ (s3 4 3 (c + 15 * q) = 1 ∧ s3 4 0 (c + 15 * q) = 0 ∧ s3 4 1 (c + 15 * q) = 0 ∧ s3 4 2 (c + 15 * q) = 0)
      rw [l3]
      rcases k2 with k | ⟨ka, kb, kc, kd⟩
      · exact Or.inl k
      · right
        have kz : s 4 3 (c + 15 * q) ≠ 0 := fun z => by
          have ka : s 4 3 (c + 15 * q) = 1 := ka
          rw [z] at ka; exact absurd ka (by decide)
        refine ⟨ka, ?_, ?_, ?_⟩
        · obtain ⟨a, -, a2, a3⟩ := hfa c hc'
          rw [g1, (hm c hc').2.1, (hm c hc').2.2 kz, a2, a3 kz]; rfl
        · rw [F3 4 1 _ (fun z => by
            rcases z with z | z
            · have := z.2.1; omega
            · have := z.1; omega), (G2 c hc').2.1, if_pos hc', hgain c hc']
          obtain ⟨v, v1, v2⟩ := hv c hc'
          obtain ⟨g, -, g3, g4⟩ := hg c hc'
          have kb : s 4 0 (c + 15 * q) = 0 := kb
          rw [hn c hc'] at kb
          have := (ei_inj (b := 0) (by have := hcn c hc'; omega) (by decide)).mp kb
          have hv0 : v = 0 := by omega
          rw [g3, v2, g4 kz, hv0]; rfl
        · have kd : s 4 2 (c + 15 * q) = 0 := kd
          rw [g2, ch2, kd]
          split <;> rfl
    · show s3 4 4 (c + 15 * q) = 0
      rw [F3 4 4 _ (fun z => by
            rcases z with z | z
            · have := z.2.1; omega
            · have := z.1; omega), (G2 c hc').2.2, if_pos hc']
  · have e : ∀ {k p : Nat}, (k = 3 ∨ k = 8 ∨ k = 145) → s3 k p (b + 2 * q) = s k p (b + 2 * q) := fun z => by
      rw [F3 _ _ _ (fun y => by omega), F2 _ _ _ (fun y => by have := y.1; omega), F1 _ _ _ (fun y => by have := y.1; omega), ← hs0, ew_u_ne _ _ (by omega)]
    exact (hb b hb').to (fun p => e (Or.inl rfl)) (fun p => e (Or.inr (Or.inl rfl))) (fun p => e (Or.inr (Or.inr rfl)))
  · have e : ∀ {k p : Nat}, (k = 10 ∨ k = 40 ∨ k = 593) → s3 k p (j + 5 * q) = s k p (j + 5 * q) := fun z => (((F0.tr F1').tr F2').tr F3') _ _ _ (fun y => by unfold Pk at y; omega)
    exact (hs j hj).to (fun p => e (Or.inl rfl)) (fun p => e (Or.inr (Or.inl rfl))) (fun p => e (Or.inr (Or.inr rfl)))
  · have e : ∀ {k r : Nat}, (k = 6 ∨ k = 18) → s3 k r p = s k r p := fun z => (((F0.tr F1').tr F2').tr F3') _ _ _ (fun y => by unfold Pk at y; omega)
    exact (hp p hp').to (fun r => e (Or.inl rfl)) (fun r => e (Or.inr rfl))
  · obtain ⟨a, ha⟩ : ∃ a : Nat → Nat, ∀ c, c < 15 → a c ≤ 9 ∧ sp_fa x (c + 15 * q) s2 = ei (a c) := ⟨fun c => (sp_fa x (c + 15 * q) s2).toNatClampNeg, fun c hc' => by
      obtain ⟨a, a1, a2, -⟩ := hfa c hc'
      dsimp only
      rw [a2, ei_nat (by omega)]; exact ⟨a1, rfl⟩⟩
    refine ⟨fun c => m c + a c, ?_, fun c hc' => ?_⟩
    · have b : ef_sm (fun c => m c + a c) 15 ≤ ef_sm (fun c => m c + 9) 15 := ef_sm_le' _ _ 15 (fun c hc' => by have := (ha c hc').1; omega)
      rw [ef_sm_add] at b
      omega
    · rw [(G3 c hc').1, if_pos hc', (hm c hc').2.1, (ha c hc').2, ei_add]
  · rw [(hm c hc').2.1, (hm c hc').2.2 z]; rfl
theorem iv_h1 (h : Iv q nb ns np T s) (hT : T ≤ 100000000) (x w : Int32) (hx : 0 ≤ x ∧ x ≤ 9) : Fr (Pk q) s (sp_h1 q x w s) ∧ Iv q nb ns np (T + 135) (sp_h1 q x w s) := by
  obtain ⟨F, I, -⟩ := iv_ck h hT x w hx
  have a := iv_bs I nb (Nat.le_refl _)
  unfold sp_h1
  rw [h.2.1.1, ei_nat (by have := h.1; omega)]
  exact ⟨F.tr a.1, a.2.1⟩
theorem iv_h (h : Iv q nb ns np T s) (hT : T ≤ 100000000) (x w : Int32) (hx : 0 ≤ x ∧ x ≤ 9) : Fr (fun k p i => Pk q k p i ∨ Pm q k p i) s (sp_h q x w s).2 ∧ Iv q nb ns np (T + 135) (sp_h q x w s).2 := by
  obtain ⟨F, I⟩ := iv_h1 h hT x w hx
  have a := iv_m I ns (Nat.le_refl _)
  unfold sp_h
  rw [h.2.1.2.1, ei_nat (by have := h.1; omega)]
  exact ⟨(F.mono (fun _ _ _ z => Or.inl z)).tr (a.1.mono (fun _ _ _ z => Or.inr z)), a.2⟩
end
