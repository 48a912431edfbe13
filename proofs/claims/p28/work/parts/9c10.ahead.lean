/-! The law's isAhead. -/
section
variable {d : Nat} {s s' : ew_S} {m : ew_H} {K : ew_R → ew_H → Prop} {np T t ρ j : Nat} {told x w : Int32}
theorem LI.hs (h : LI 2 5 np T t ρ told s) (hx : 0 ≤ x ∧ x ≤ 9) : ∀ g, T + 135 * g ≤ 90000000 → t + g ≤ 1000000 → LI 2 5 np (T + 135 * g) (t + g) ρ told (sp_hs 0 x w s g).2
  | 0, _, _ => h
  | g + 1, hT, ht => by
    have := (LI.hs h hx g (by omega) (by omega)).hour (by omega) (by omega) x w hx
    exact (show LI 2 5 np (T + 135 * g + 135) (t + g + 1) ρ told _ from this).leT (by omega)
theorem hs_mono (h : LI 2 5 np T t ρ told s) (hx : 0 ≤ x ∧ x ≤ 9) (hj : j < 5) {g : Nat} (hT : T + 135 * g ≤ 90000000) (ht : t + g ≤ 1000000) (q : (sp_hs 0 x w s g).2 10 7 j = 3) : (sp_hs 0 x w s (g + 1)).2 10 7 j = 3 := by
  have l := h.hs (w := w) hx g hT ht
  obtain ⟨-, ⟨B, -, o⟩, -⟩ := hour_all l.iv hT x w hx l.2.1.1
  obtain ⟨-, k⟩ := o j hj
  rcases k with ⟨-, -, a3, -⟩ | ⟨a1, -⟩
  · exact a3
  · exact absurd q a1
/-- what arriveIn says of five hours ahead -/
def sp_due (j : Nat) (x w : Int32) (s : ew_S) : Int32 := if s 10 7 j = 3 then 0 else sp_a0 j x w s 5 0
theorem due_0 (s : ew_S) : sp_due j x w s = 0 ↔ s 10 7 j = 3 := by
  unfold sp_due
  by_cases e : s 10 7 j = 3
  · rw [if_pos e]; exact ⟨fun _ => e, fun _ => rfl⟩
  · rw [if_neg e]
    refine ⟨fun z => ?_, fun z => absurd z e⟩
    rcases a0_is (x := x) (w := w) (s := s) j 5 0 with ⟨q, -⟩ | ⟨h0, q1, q2, q3, -⟩
    · rw [q] at z; exact absurd z (by decide)
    · rw [q3] at z
      have := (ei_inj (b := 0) (by omega) (by decide)).mp z
      omega
theorem due_g (h : LI 2 5 np T t ρ told s) (hx : 0 ≤ x ∧ x ≤ 9) (hj : j < 5) (hT : T + 1000 ≤ 90000000) (ht : t + 10 ≤ 1000000) {g : Nat} (hg : g < 5) : (sp_hs 0 x w s (g + 1)).2 10 7 j = 3 ↔ (¬ sp_due j x w s < 0 ∧ ¬ ei (g + 1) < sp_due j x w s) := by
  have up : ∀ a b, a ≤ b → b ≤ 5 → (sp_hs 0 x w s a).2 10 7 j = 3 → (sp_hs 0 x w s b).2 10 7 j = 3 := fun a b hab => by
    induction hab with
    | refl => exact fun _ q => q
    | step hab ih => exact fun h5 q => hs_mono h hx hj (by omega) (by omega) (ih (by omega) q)
  unfold sp_due
  by_cases e : s 10 7 j = 3
  · rw [if_pos e]
    exact ⟨fun _ => ⟨by decide, ei_nn (by omega)⟩, fun _ => up 0 (g + 1) (by omega) (by omega) e⟩
  · rw [if_neg e]
    rcases a0_is (x := x) (w := w) (s := s) j 5 0 with ⟨q, q1⟩ | ⟨h0, q1, q2, q3, q4, q5⟩
    · rw [q]
      exact ⟨fun z => absurd z (q1 (g + 1) (by omega) (by omega)), fun z => absurd (show (-1 : Int32) < 0 by decide) z.1⟩
    · rw [q3]
      refine ⟨fun z => ⟨ei_nn (by omega), fun w => ?_⟩, fun z => ?_⟩
      · rw [ei_lt (by omega) (by omega)] at w
        exact q5 (g + 1) (by omega) w z
      · have z2 := z.2
        rw [ei_lt (by omega) (by omega)] at z2
        exact up h0 (g + 1) (by omega) (by omega) q4
theorem MF.tr {c n c' n' : Nat} {m m' m'' : ew_H} (a : MF c n m m') (b : MF c' n' m' m'') : MF (c + c') (n + n') m m'' := ⟨b.1.trans a.1, by rw [b.2.1, a.2.1]; omega, by rw [b.2.2, a.2.2]; omega⟩
theorem arr5 (I : Iv 0 2 5 np T s) (hj : j < 5) (hx : 0 ≤ x ∧ x ≤ 9) (hw : -1 ≤ w ∧ w ≤ 3) (v : Int32) : vo_arr (ei j) 5 x w v s = (0, if s 10 7 j = 3 then 0 else v) := by
  unfold vo_arr
  rw [I.2.1.2.1, iN_t hj (by decide), cond_true, if_pos ⟨by decide, hx, hw⟩, ei_nat (by omega)]
  split <;> rfl
theorem xl_ah (h : LI 2 5 np T t ρ told s) (hx : 0 ≤ x ∧ x ≤ 9) (hw : -1 ≤ w ∧ w ≤ 3) (hj : j < 5) (hT : T + 1000 ≤ 90000000) (ht : t + 10 ≤ 1000000)
    (k : ∀ s' m', LI 2 5 np (T + 135 * 5) (t + 5) ρ told s' → MF 45 205 m m' → K (.inl (some (ew_i 1))) (ew_hp s' m')) : ∀ (r g : Nat) (y : Int32) (sg : ew_S) (mg : ew_H), y = ei (g + 1) → g + r = 5 → Sm 0 0 (sp_hs 0 x w s g).2 sg → LI 2 5 np (T + 135 * g) (t + g) ρ told sg → MF (9 * g) (41 * g) m mg →
    ew_W (ew_Call (d + 7)) 225 K (43, [some (ew_o 11 0), some (ew_i (ei j)), some (ew_i x), some (ew_i w), some (ew_i (sp_due j x w s)), some (ew_i y)], [], ew_hp sg mg) := by
  intro r
  induction r with
  | zero =>
    intro g y sg mg hy hg hS hL hM
    obtain rfl : g = 5 := by omega
    subst hy
    exact ew_go (fun _ => false) 20 ⟨fun _ => ⟨Or.inr rfl, k sg mg hL hM⟩, fun z => absurd (show (5 : Int32) < ei (5 + 1) by decide) z⟩
  | succ r ih =>
    intro g y sg mg hy hgr hS hL hM
    subst hy
    have hg : g < 5 := by omega
    have h5 : ¬ (5 : Int32) < ei (g + 1) := fun z => by
      have := (ei_lt (a := 5) (by decide) (by omega)).mp z
      omega
    have n1 : ¬ (1 : Int32) = 0 := by decide
    have Ig := (h.hs (w := w) hx g (by omega) (by omega)).iv
    refine ew_go (fun pc => Nat.beq pc 55) 20 ⟨fun z => absurd z h5, fun _ => xv_passed hL (by omega) (by omega) hx hw (fun s' m' S' L' M' => ?_)⟩
    have S1 : Sm 0 0 (sp_hs 0 x w s (g + 1)).2 s' := (sm_h hS Ig (by omega) x w hx).2.tr S'
    have e7 : s' 10 7 j = (sp_hs 0 x w s (g + 1)).2 10 7 j := S1.j (p := 7) (by omega) (by omega) hj
    have fin := ih (g + 1) (ei (g + 1) + 1) s' m' (ei_1 _) (by omega) S1 (L'.leT (by omega)) (by
      have := hM.tr M'
      rw [show 9 * (g + 1) = 9 * g + 9 by omega, show 41 * (g + 1) = 41 * g + 41 by omega]
      exact this)
    have hq := due_g h hx hj hT ht (w := w) hg
    rw [← e7] at hq
    by_cases e : s' 10 7 j = 3
    · obtain ⟨q1, q2⟩ := hq.mp e
      exact ew_go (fun pc => Nat.beq pc 43) 60 ⟨fun _ => xq_sv L'.iv (Fr.rf _ _) hj (w := 4) (by decide) rfl rfl ⟨fun z => absurd e z, fun _ => ⟨fun z => absurd z q1, fun _ => ⟨fun z => absurd z q2, fun _ => ⟨fun _ => fin, fun z => absurd rfl z⟩⟩⟩⟩, fun z => absurd n1 z⟩
    · have q : ¬ sp_due j x w s < 0 → ¬ ¬ ei (g + 1) < sp_due j x w s := fun q1 q2 => e (hq.mpr ⟨q1, q2⟩)
      exact ew_go (fun pc => Nat.beq pc 43) 60 ⟨fun _ => xq_sv L'.iv (Fr.rf _ _) hj (w := 4) (by decide) rfl rfl ⟨fun _ => ⟨fun _ => ⟨fun _ => fin, fun z => absurd rfl z⟩, fun q1 => ⟨fun _ => ⟨fun _ => fin, fun z => absurd rfl z⟩, fun q2 => absurd q2 (q q1)⟩⟩, fun z => absurd (fun q => e q) z⟩, fun z => absurd n1 z⟩
theorem xv_ahead (h : LI 2 5 np T t ρ told s) (hx : 0 ≤ x ∧ x ≤ 9) (hw : -1 ≤ w ∧ w ≤ 3) (hj : j < 5) (hT : T + 1000 ≤ 90000000) (ht : t + 10 ≤ 1000000) {y : Int32} (hy : y = ei j)
    (k : ∀ s' m', LI 2 5 np (T + 135 * 5) (t + 5) ρ told s' → MF 45 205 m m' → K (.inl (some (ew_i 1))) (ew_hp s' m')) : ew_Call (d + 8) 225 [ew_o 11 0, ew_i y, ew_i x, ew_i w] (ew_hp s m) K := by
  subst hy
  have I := h.iv
  have he : (ei j).toNatClampNeg = j := ei_nat (by omega)
  refine ew_call (ew_go (fun pc => Nat.beq pc 8) 20 (xp_arriveIn I (by omega) (ei j) 5 x w (fun s' v F hv => ?_)))
  rw [arr5 I hj hx hw]
  have Fz : Fr Pz s s' := F.mono (fun _ _ _ z => Or.inl (Or.inr z))
  have e7 : s' 10 7 j = s 10 7 j := pz10 Fz hj
  have hD : (if s 10 7 j = 3 then 0 else v) = sp_due j x w s := by
    unfold sp_due
    by_cases e : s 10 7 j = 3
    · rw [if_pos e, if_pos e]
    · rw [if_neg e, if_neg e]
      obtain ⟨a, c, ea⟩ := hv ⟨j, hj, rfl⟩ ⟨by decide, hx, hw⟩ (by rw [he]; exact e)
      rw [he] at ea
      rw [ea]
      exact ai_a0 I hx c hj 5 0 (by omega)
  show ew_W (ew_Call (d + 7)) 225 K (8, [some (ew_o 11 0), some (ew_i (ei j)), some (ew_i x), some (ew_i w), none, none], [ew_i (if s 10 7 j = 3 then 0 else v)], ew_hp s' m)
  rw [hD]
  have h' := h.pz Fz
  have fin := xl_ah (d := d) (m := m) h hx hw hj hT ht k 5 0 1 s' m rfl rfl (Sm.pz Fz) h' ⟨rfl, rfl, rfl⟩
  have d0 := due_0 (j := j) (x := x) (w := w) s
  rw [← e7] at d0
  by_cases e : s' 10 7 j = 3
  · have q := d0.mpr e
    exact ew_go (fun pc => Nat.beq pc 43) 60 ⟨fun z => absurd q z, fun _ => xq_sv h'.iv (Fr.rf _ _) hj (w := 4) (by decide) rfl rfl ⟨fun z => absurd e z, fun _ => ⟨fun _ => fin, fun z => absurd rfl z⟩⟩⟩
  · have q : ¬ sp_due j x w s = 0 := fun z => e (d0.mp z)
    exact ew_go (fun pc => Nat.beq pc 43) 60 ⟨fun _ => xq_sv h'.iv (Fr.rf _ _) hj (w := 4) (by decide) rfl rfl ⟨fun _ => ⟨fun _ => fin, fun z => absurd rfl z⟩, fun z => absurd (fun q => e q) z⟩, fun z => absurd q z⟩
end
