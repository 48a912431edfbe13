/-! The law's end: the checksum before and behind asking. -/
theorem sp_df_cg {f f' : Nat → Int32} (d : Int64) : ∀ n, (∀ w, w < n → f' w = f w) → sp_df f' d n = sp_df f d n
  | 0, _ => rfl
  | n + 1, h => by
    unfold sp_df
    rw [sp_df_cg d n (fun w hw => h w (by omega)), h n (by omega)]
section
variable {s s' : ew_S} {np T : Nat}
theorem sp_sn_pz (I : Iv 0 2 5 np T s) (F : Fr Pz s s') (x : Int32) : sp_sn x s' = sp_sn x s := by
  have e4 : (s' 9 4 0).toNatClampNeg = 5 := by rw [pz9 F, I.2.1.2.1]; decide
  have e4' : (s 9 4 0).toNatClampNeg = 5 := by rw [I.2.1.2.1]; decide
  unfold sp_sn
  rw [e4, e4']
  exact ef_sum_cg _ _ 5 (fun j hj => by rw [pz10 F hj, pz10 F hj])
theorem sp_cv_pt (I : Iv 0 2 5 np T s) (F : Fr Pct s s') {c : Nat} (hc : c < 15) (x w : Int32) : sp_cv c x w s' = sp_cv c x w s := by
  unfold sp_cv
  rw [pt4 F hc, pt4 F hc, pt4 F hc, pt4 F hc, sp_w_pt F hc, sp_sn_pz I F.pz]
theorem d2_pt (I : Iv 0 2 5 np T s) (F : Fr Pct s s') (d : Int64) : ∀ c, c ≤ 15 → sp_d2 s' d c = sp_d2 s d c
  | 0, _ => rfl
  | c + 1, hc => by
    unfold sp_d2
    rw [d2_pt I F d c (by omega)]
    exact sp_df_cg _ 6 (fun w _ => sp_cv_pt I F (by omega) _ _)
theorem d3_pt (I : Iv 0 2 5 np T s) (F : Fr Pct s s') (d : Int64) : ∀ b, b ≤ 2 → sp_d3 s' 5 d b = sp_d3 s 5 d b
  | 0, _ => rfl
  | b + 1, hb => by
    unfold sp_d3
    rw [d3_pt I F d b (by omega), sp_hn_pt I F (b := b) (by omega) 5 (Nat.le_refl _), sp_df_cg _ 6 (fun w _ => sp_bv_pt I F (b := b) (by omega) (ei b) (ei w))]
theorem d4_pt (I : Iv 0 2 5 np T s) (F : Fr Pct s s') (A : Nat → Int32) (d : Int64) : ∀ j, j ≤ 5 → sp_d4 A s' d j = sp_d4 A s d j
  | 0, _ => rfl
  | j + 1, hj => by
    obtain ⟨-, -, ⟨p, hp, ep⟩, -⟩ := I.2.2.2.2.1 j (by omega)
    have ep : s 10 6 j = ei p := ep
    obtain ⟨⟨c, hc, ec⟩, -⟩ := I.2.2.2.2.2.1 p hp
    have ec : s 6 4 p = ei c := ec
    have h3 := I.1.2.2
    have e : (s 6 4 (s 10 6 j).toNatClampNeg).toNatClampNeg < 15 := by
      rw [ep, ei_nat (by omega), ec, ei_nat (by omega)]; exact hc
    unfold sp_d4
    rw [d4_pt I F A d j (by omega), sp_df_cg _ 15 (fun w _ => sp_sv_pt I F (j := j) (by omega) (ei w)), sp_tb_pt I F (j := j) (by omega), pt10 F (show j < 5 by omega), pt6 F, sp_way_pt F (show j < 5 by omega) e]
theorem d5_pt (F : Fr Pct s s') (d : Int64) : ∀ p, sp_d5 s' d p = sp_d5 s d p
  | 0 => rfl
  | p + 1 => by
    unfold sp_d5
    rw [d5_pt F d p, sp_if_pt F, sp_if_pt F, pt9 F]
theorem dig_pt (I : Iv 0 2 5 np T s) (F : Fr Pct s s') (A : Nat → Int32) : sp_dig A 2 5 np s' = sp_dig A 2 5 np s := by
  unfold sp_dig
  rw [d5_pt F, d4_pt I F A _ 5 (Nat.le_refl _), d3_pt I F _ 2 (Nat.le_refl _), d2_pt I F _ 15 (Nat.le_refl _), sp_df_cg _ 11 (fun w _ => sp_mv_pz I F.pz (ei w))]
theorem A_is (I : Iv 0 2 5 np T s) (hT : T ≤ 90000000) {A : Nat → Int32} {j : Nat} (hj : j < 5) (h : sp_A 2 5 s A j) : A j = if s 10 7 j = 3 then 0 else sp_a0 j 1 (-1) s 6 0 := by
  by_cases e : s 10 7 j = 3
  · rw [if_pos e]; exact h.1 e
  · rw [if_neg e]
    obtain ⟨s1, a, F, c, q⟩ := h.2 e
    rw [q, ai_a0 (I.pt F) (by decide) c hj 6 0 (by omega)]
    exact a0_sm I (by decide) (Sm.pz F.pz) hj 6 0 (by omega)
theorem dig_same (I : Iv 0 2 5 np T s) (hT : T ≤ 90000000) (F : Fr Pct s s') {A A' : Nat → Int32} (h : ∀ j, j < 5 → sp_A 2 5 s A j) (h' : ∀ j, j < 5 → sp_A 2 5 s' A' j) : sp_dig A' 2 5 np s' = sp_dig A 2 5 np s := by
  rw [dig_pt I F]
  unfold sp_dig
  rw [sp_d4_cg (A := A) (A' := A') 5 (fun j hj => ?_)]
  rw [A_is (I.pt F) hT hj (h' j hj), A_is I hT hj (h j hj), pt10 F hj]
  by_cases e : s 10 7 j = 3
  · rw [if_pos e, if_pos e]
  · rw [if_neg e, if_neg e]
    exact a0_sm I (by decide) (Sm.pz F.pz) hj 6 0 (by omega)
theorem hn_rng (b : Nat) (s : ew_S) : ∀ n, (sp_hn b s n).1 = -1 ∨ ∃ j, j < n ∧ (sp_hn b s n).1 = ei j
  | 0 => Or.inl rfl
  | n + 1 => by
    unfold sp_hn
    split
    · exact Or.inr ⟨n, by omega, rfl⟩
    · rcases hn_rng b s n with h | ⟨j, hj, h⟩
      · exact Or.inl h
      · exact Or.inr ⟨j, by omega, h⟩
theorem hn_b (b : Nat) (s : ew_S) : ¬ 4 < (sp_hn b s 5).1 ∧ -1 ≤ (sp_hn b s 5).1 := by
  rcases hn_rng b s 5 with h | ⟨j, hj, h⟩
  · rw [h]; decide
  · rw [h]
    have : ∀ j, j < 5 → ¬ 4 < ei j ∧ -1 ≤ ei j := by decide
    exact this j hj
end
section
variable {d : Nat} {s : ew_S} {m : ew_H} {K : ew_R → ew_H → Prop} {np T : Nat}
theorem lw_help (I : Iv 0 2 5 np T s) {l2 l3 : Option ew_V} {D : Int64} {us : List (Option ew_V)} (k : ∀ s', Fr Pct s s' → ew_W (ew_Call (d + 8)) 242 K (859, some (ew_o 17 0) :: some (ew_o 11 0) :: l2 :: l3 :: some (ew_j D) :: none :: some (ew_i (ei 2)) :: us, [], ew_hp s' m)) : ∀ (r b : Nat) (y : Int32) (s1 : ew_S), y = ei b → b + r = 2 → Fr Pct s s1 →
    ew_W (ew_Call (d + 8)) 242 K (825, some (ew_o 17 0) :: some (ew_o 11 0) :: l2 :: l3 :: some (ew_j D) :: none :: some (ew_i y) :: us, [], ew_hp s1 m) := by
  intro r
  induction r with
  | zero =>
    intro b y s1 hy hb F
    obtain rfl : b = 2 := by omega
    subst hy
    exact ew_go (fun pc => Nat.beq pc 859) 20 ⟨fun _ => k s1 F, fun z => absurd (show (2 : Int32) ≤ ei 2 by decide) z⟩
  | succ r ih =>
    intro b y s1 hy hbr F
    subst hy
    have hb : b < 2 := by omega
    have h2 : ¬ (2 : Int32) ≤ ei b := fun z => by
      have := (ei_le (a := 2) (by decide) (by omega)).mp z
      omega
    obtain ⟨q1, q2⟩ := hn_b b s
    exact ew_go (fun pc => Nat.beq pc 825) 60 ⟨fun z => absurd z h2, fun _ => xq_help I F hb rfl (fun s2 F2 => ⟨fun z => absurd z q1, fun _ => xq_help I F2 hb rfl (fun s3 F3 => ⟨fun _ => ih (b + 1) _ s3 (ei_1 b) (by omega) F3, fun z => absurd q2 z⟩)⟩)⟩
theorem lw_end (I : Iv 0 2 5 np T s) (hT : T ≤ 90000000) (h0 : 0 ≤ s 9 5 0) {l2 : Option ew_V} {v3 v4 : Int32} {u5 u6 u7 u8 u9 u10 u11 u12 u13 : Option ew_V} (k : ∀ s', K (.inl (some (ew_i 1))) (ew_hp s' m)) :
    ew_W (ew_Call (d + 8)) 242 K (816, [some (ew_o 17 0), some (ew_o 11 0), l2, some (ew_i v3), some (ew_i v4), u5, u6, u7, u8, u9, u10, u11, u12, u13], [], ew_hp s m) := by
  refine ew_go (fun pc => Nat.beq pc 825) 20 (xp_digest I hT h0 (fun s1 A F1 hA => ?_))
  refine lw_help I (us := [u7, u8, u9, u10, u11, u12, u13]) (fun s2 F2 => ?_) 2 0 0 s1 rfl rfl F1
  have I2 := I.pt F2
  refine ew_go (fun _ => false) 20 (xp_digest I2 hT (by rw [pt9 F2]; exact h0) (fun s3 A' F3 hA' => ?_))
  have e := dig_same I hT F2 hA hA'
  exact ⟨fun _ => ⟨fun z => absurd rfl z, fun _ => ⟨Or.inr rfl, k s3⟩⟩, fun z => absurd e z⟩
end
