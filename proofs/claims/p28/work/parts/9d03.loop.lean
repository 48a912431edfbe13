/-! The law's loop. -/
section
variable {d : Nat} {s : ew_S} {m : ew_H} {K : ew_R → ew_H → Prop} {T t ρ b j : Nat} {told X Y kc q : Int32} {u5 u6 u7 u8 u9 u10 u11 u12 u13 : Option ew_V}
theorem lw_h3 (h : LI 2 5 2 T t ρ told s) (hρ : ρ ≤ 10) (hT : T + 1000 ≤ 90000000) (ht : t + 10 ≤ 1000000) (hb : b < 2) (hj : j < 5) (hq : ¬ q = 0 → s 10 2 j = s 3 1 b ∧ s 10 7 j < 3) (kk : lw_k d K kc X Y (s 10 7 j) q j b T t m) {r : Int32} : ew_W (ew_Call (d + 8)) 242 K (330, [some (ew_o 17 0), some (ew_o 11 0), some (ew_i told), some (ew_i (ei ρ)), some (ew_i kc), some (ew_i X), some (ew_i Y), some (ew_i (ei j)), some (ew_i (ei b)), some (ew_i (s 10 7 j)), some (ew_i q), u11, u12, u13], [ew_i r], ew_hp s m) :=
  ew_go (fun pc => Nat.beq pc 388 || (Nat.beq pc 445 || (Nat.beq pc 510 || (Nat.beq pc 562 || (Nat.beq pc 627 || (Nat.beq pc 680 || (Nat.beq pc 727 || Nat.beq pc 757))))))) 5
    ⟨fun _ => lw_c0 h hρ kk, fun _ => ⟨fun _ => lw_c0 h hρ kk, fun _ => ⟨fun _ => lw_c2 h hρ kk hb, fun _ => ⟨fun _ => lw_c2 h hρ kk hb, fun _ => ⟨fun _ => lw_c4 h hρ kk hj, fun _ => ⟨fun _ => lw_c4 h hρ kk hj, fun _ => ⟨fun _ => lw_c4 h hρ kk hj, fun _ => ⟨fun _ => lw_c7 h hρ kk hb hj hq, fun _ => ⟨fun _ => lw_c8 h hρ kk hb hj hq, fun _ => ⟨fun _ => lw_c9 h hρ kk, fun _ => ⟨fun _ => lw_c10 h hρ kk hj hT ht, fun _ => lw_cd h hρ kk hT ht⟩⟩⟩⟩⟩⟩⟩⟩⟩⟩⟩

theorem lw_h2 (h : LI 2 5 2 T t ρ told s) (hρ : ρ ≤ 10) (hT : T + 1000 ≤ 90000000) (ht : t + 10 ≤ 1000000) (hb : b < 2) (hj : j < 5) (kk : ∀ q, lw_k d K kc X Y (s 10 7 j) q j b T t m) : ew_W (ew_Call (d + 8)) 242 K (293, [some (ew_o 17 0), some (ew_o 11 0), some (ew_i told), some (ew_i (ei ρ)), some (ew_i kc), some (ew_i X), some (ew_i Y), some (ew_i (ei j)), some (ew_i (ei b)), some (ew_i (s 10 7 j)), u10, u11, u12, u13], [], ew_hp s m) := by
  have I := h.iv
  by_cases ec : s 10 2 j = s 3 1 b
  · by_cases h3 : 3 ≤ s 10 7 j
    · exact ew_go (fun pc => Nat.beq pc 330) 60 (xq_sv I (Fr.rf _ _) hj (w := 0) (by decide) rfl rfl (xq_bv I (Fr.rf _ _) hb (w := 0) (by decide) rfl rfl ⟨fun z => absurd ec z, fun _ => ⟨fun _ => xv_below _ 14 (by decide) (by decide) rfl (fun r _ => lw_h3 h hρ hT ht hb hj (fun z => absurd rfl z) (kk 0)), fun z => absurd h3 z⟩⟩))
    · exact ew_go (fun pc => Nat.beq pc 330) 60 (xq_sv I (Fr.rf _ _) hj (w := 0) (by decide) rfl rfl (xq_bv I (Fr.rf _ _) hb (w := 0) (by decide) rfl rfl ⟨fun z => absurd ec z, fun _ => ⟨fun z => absurd z h3, fun _ => xv_below _ 14 (by decide) (by decide) rfl (fun r _ => lw_h3 h hρ hT ht hb hj (fun _ => ⟨ec, Int32.not_le.mp h3⟩) (kk 1))⟩⟩))
  · exact ew_go (fun pc => Nat.beq pc 330) 60 (xq_sv I (Fr.rf _ _) hj (w := 0) (by decide) rfl rfl (xq_bv I (Fr.rf _ _) hb (w := 0) (by decide) rfl rfl ⟨fun _ => xv_below _ 14 (by decide) (by decide) rfl (fun r _ => lw_h3 h hρ hT ht hb hj (fun z => absurd rfl z) (kk 0)), fun z => absurd (fun q => ec q) z⟩))

end
section
variable {d : Nat} {s : ew_S} {m : ew_H} {K : ew_R → ew_H → Prop} {T t ρ b j kc : Nat} {told X Y q : Int32} {u5 u6 u7 u8 u9 u10 u11 u12 u13 : Option ew_V}
theorem lw_h1 (h : LI 2 5 2 T t ρ told s) (hρ : ρ ≤ 10) (hT : T + 1000 ≤ 90000000) (ht : t + 10 ≤ 1000000) (hL : m.2.1 17 0 ≤ 100000) (hk : kc < 48) (kk : ∀ X Y st q j b, lw_k d K (ei kc) X Y st q j b T t m) : ew_W (ew_Call (d + 8)) 242 K (221, [some (ew_o 17 0), some (ew_o 11 0), some (ew_i told), some (ew_i (ei ρ)), some (ew_i (ei kc)), u5, u6, u7, u8, u9, u10, u11, u12, u13], [], ew_hp s m) := by
  have I := h.iv
  have h48 : ¬ (48 : Int32) ≤ ei kc := fun z => by
    have := (ei_le (a := 48) (by decide) (by omega)).mp z
    omega
  have h16 : ¬ (16 : Int32) = 0 := by decide
  have e1 : ei kc - ei kc / 16 * 16 = ei (kc % 16) := ei_modn (n := 16) (by omega) (by decide) (by decide)
  have e2 : 7 * ei kc + 3 - (7 * ei kc + 3) / 16 * 16 = ei ((7 * kc + 3) % 16) := by
    have : (7 : Int32) * ei kc + 3 = ei (7 * kc + 3) := by
      rw [show (7 : Int32) * ei kc = ei (7 * kc) from (Int32.ofNat_mul 7 kc).symm]
      exact ei_add (7 * kc) 3
    rw [this]
    exact ei_modn (n := 16) (by omega) (by decide) (by decide)
  refine ew_go (fun pc => Nat.beq pc 293) 80 ⟨fun z => absurd z h48, fun _ => ⟨h16, xv_cell hL (c := kc % 16) (by omega) e1 (fun v1 => ⟨h16, xv_cell hL (c := (7 * kc + 3) % 16) (by omega) e2 (fun v2 => xv_below _ 5 (by decide) (by decide) rfl (fun j hj => xv_below _ 2 (by decide) (by decide) rfl (fun b hb => xq_sv I (Fr.rf _ _) hj (w := 4) (by decide) rfl rfl ?_)))⟩)⟩⟩
  exact lw_h2 h hρ hT ht hb hj (fun q => kk _ _ _ q j b)

theorem lw_tail (h : LI 2 5 2 T t ρ told s) (hT : T ≤ 90000000) {st : Int32} (k : ∀ s', Fr Pct s s' → ew_W (ew_Call (d + 8)) 242 K (221, [some (ew_o 17 0), some (ew_o 11 0), some (ew_i told), some (ew_i (ei ρ)), some (ew_i (ei kc + 1)), some (ew_i X), some (ew_i Y), some (ew_i (ei j)), some (ew_i (ei b)), some (ew_i st), some (ew_i q), u11, u12, u13], [], ew_hp s' m)) : ew_W (ew_Call (d + 8)) 242 K (785, [some (ew_o 17 0), some (ew_o 11 0), some (ew_i told), some (ew_i (ei ρ)), some (ew_i (ei kc)), some (ew_i X), some (ew_i Y), some (ew_i (ei j)), some (ew_i (ei b)), some (ew_i st), some (ew_i q), u11, u12, u13], [], ew_hp s m) := by
  have I := h.iv
  have e : ¬ ¬ sp_mv (ei 1) s = told + sp_mv (ei 9) s := fun z => z h.2.2.2.1
  have n1 : ¬ (1 : Int32) = 0 := by decide
  exact ew_go (fun pc => Nat.beq pc 221) 60 (xq_many I (w := 1) (by decide) rfl (xq_many I (w := 9) (by decide) rfl ⟨fun z => absurd z e, fun _ => xv_sound h hT (fun s' F => ⟨fun _ => k s' F, fun z => absurd n1 z⟩)⟩))

theorem nb1 {a b c k n : Nat} (q : a ≤ b + n) (h : b ≤ c + n * k) : a ≤ c + n * (k + 1) := by
  rw [Nat.mul_succ]; omega
theorem nb2 {a b k n : Nat} (q : a ≤ b + n) (h : b ≤ n * k) : a ≤ n * (k + 1) := by
  rw [Nat.mul_succ]; omega
theorem lw_ml {T0 c0 n0 : Nat} (hT0 : T0 ≤ 1000000)
    (k : ∀ (T' t' ρ' : Nat) (told' : Int32) (s' : ew_S) (m' : ew_H) (u5 u6 u7 u8 u9 u10 u11 u12 u13 : Option ew_V), LI 2 5 2 T' t' ρ' told' s' → T' ≤ T0 + 700 * 48 → t' ≤ 5 * 48 → m'.2.2.2.2.1 ≤ c0 + 45 * 48 → m'.2.2.2.2.2 ≤ n0 + 205 * 48 → ew_W (ew_Call (d + 8)) 242 K (816, [some (ew_o 17 0), some (ew_o 11 0), some (ew_i told'), some (ew_i (ei ρ')), some (ew_i (ei 48)), u5, u6, u7, u8, u9, u10, u11, u12, u13], [], ew_hp s' m')) :
    ∀ (r kc : Nat) (y : Int32) (T t ρ : Nat) (told : Int32) (s : ew_S) (m : ew_H) (u5 u6 u7 u8 u9 u10 u11 u12 u13 : Option ew_V), y = ei kc → kc + r = 48 → LI 2 5 2 T t ρ told s → T ≤ T0 + 700 * kc → t ≤ 5 * kc → ρ ≤ 10 → m.2.1 17 0 ≤ 100000 → m.2.2.2.2.1 ≤ c0 + 45 * kc → m.2.2.2.2.2 ≤ n0 + 205 * kc →
    ew_W (ew_Call (d + 8)) 242 K (221, [some (ew_o 17 0), some (ew_o 11 0), some (ew_i told), some (ew_i (ei ρ)), some (ew_i y), u5, u6, u7, u8, u9, u10, u11, u12, u13], [], ew_hp s m) := by
  intro r
  induction r with
  | zero =>
    intro kc y T t ρ told s m u5 u6 u7 u8 u9 u10 u11 u12 u13 hy hk h h1 h2 h3 h4 h5 h6
    obtain rfl : kc = 48 := by omega
    subst hy
    exact ew_go (fun pc => Nat.beq pc 816) 20 ⟨fun _ => k T t ρ told s m _ _ _ _ _ _ _ _ _ h h1 h2 h5 h6, fun z => absurd (show (48 : Int32) ≤ ei 48 by decide) z⟩
  | succ r ih =>
    intro kc y T t ρ told s m u5 u6 u7 u8 u9 u10 u11 u12 u13 hy hkr h h1 h2 h3 h4 h5 h6
    subst hy
    refine lw_h1 h h3 (by omega) (by omega) h4 (by omega) (fun X Y st q j b T' t' ρ' told' s' m' u11 u12 u13 h' q1 q2 q3 M => lw_tail h' (by omega) (fun s2 F => ?_))
    obtain ⟨M1, M2, M3⟩ := M
    have L2 := h'.pz F.pz
    have b1 : kc + 1 + r = 48 := (Nat.add_right_comm kc 1 r).trans hkr
    have b2 : T' ≤ T0 + 700 * (kc + 1) := nb1 q1 h1
    have b3 : t' ≤ 5 * (kc + 1) := nb2 q2 h2
    have b4 : m'.2.1 17 0 ≤ 100000 := by rw [M1]; exact h4
    have b5 : m'.2.2.2.2.1 ≤ c0 + 45 * (kc + 1) := nb1 M2 h5
    have b6 : m'.2.2.2.2.2 ≤ n0 + 205 * (kc + 1) := nb1 M3 h6
    exact ih (kc + 1) _ T' t' ρ' told' s2 m' _ _ _ _ _ _ _ _ _ (ei_1 kc) b1 L2 b2 b3 q3 b4 b5 b6
end
