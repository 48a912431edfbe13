/-! The law's loop: its cases. -/
/-- little more room -/
def MG (m m' : ew_H) : Prop := m'.2.1 17 0 = m.2.1 17 0 ∧ m'.2.2.2.2.1 ≤ m.2.2.2.2.1 + 45 ∧ m'.2.2.2.2.2 ≤ m.2.2.2.2.2 + 205
theorem MG.rf (m : ew_H) : MG m m := ⟨rfl, by omega, by omega⟩
/-- what goes on behind a case -/
def lw_k (d : Nat) (K : ew_R → ew_H → Prop) (kc X Y st q : Int32) (j b T t : Nat) (m : ew_H) : Prop := ∀ (T' t' ρ' : Nat) (told' : Int32) (s' : ew_S) (m' : ew_H) (u11 u12 u13 : Option ew_V), LI 2 5 2 T' t' ρ' told' s' → T' ≤ T + 700 → t' ≤ t + 5 → ρ' ≤ 10 → MG m m' →
  ew_W (ew_Call (d + 8)) 242 K (785, [some (ew_o 17 0), some (ew_o 11 0), some (ew_i told'), some (ew_i (ei ρ')), some (ew_i kc), some (ew_i X), some (ew_i Y), some (ew_i (ei j)), some (ew_i (ei b)), some (ew_i st), some (ew_i q), u11, u12, u13], [], ew_hp s' m')
theorem ei_w : ∀ r, r < 5 → -1 ≤ ei r - 1 ∧ ei r - 1 ≤ 3 := by decide
theorem ei_c : ∀ r, r < 10 → 0 ≤ ei r ∧ ei r ≤ 9 := by decide
section
variable {d : Nat} {s : ew_S} {m : ew_H} {K : ew_R → ew_H → Prop} {T t ρ b j c n : Nat} {told X Y kc q : Int32} {u11 u12 u13 : Option ew_V}
theorem lw_c0 (h : LI 2 5 2 T t ρ told s) (hρ : ρ ≤ 10) (kk : lw_k d K kc X Y (s 10 7 j) q j b T t m) : ew_W (ew_Call (d + 8)) 242 K (388, [some (ew_o 17 0), some (ew_o 11 0), some (ew_i told), some (ew_i (ei ρ)), some (ew_i kc), some (ew_i X), some (ew_i Y), some (ew_i (ei j)), some (ew_i (ei b)), some (ew_i (s 10 7 j)), some (ew_i q), u11, u12, u13], [], ew_hp s m) := by
  have I := h.iv
  refine ew_go (fun pc => Nat.beq pc 410) 40 (xv_below _ 15 (by decide) (by decide) rfl (fun c hc => xv_below _ 120 (by decide) (by decide) rfl (fun v hv => ?_)))
  show ew_W (ew_Call (d + 8)) 242 K (410, [some (ew_o 17 0), some (ew_o 11 0), some (ew_i told), some (ew_i (ei ρ)), some (ew_i kc), some (ew_i X), some (ew_i Y), some (ew_i (ei j)), some (ew_i (ei b)), some (ew_i (s 10 7 j)), some (ew_i q), some (ew_i (ei c)), some (ew_i (ei v)), u13], [], ew_hp s m)
  by_cases hl : s 4 3 c = 0
  · have e : ¬ sp_cv c (ei c) (ei 3) s = 1 := by
      show ¬ (if s 4 3 c = 0 then (0 : Int32) else 1) = 1
      rw [if_pos hl]; decide
    exact ew_go (fun pc => Nat.beq pc 785) 40 (xq_ofCell I hc (w := 3) (by decide) rfl rfl ⟨fun _ => xr_ice hc (show v ≤ 300 by omega) hl rfl rfl (kk (T + 300) t ρ _ _ m _ _ _ (h.ice hc (by omega) hl) (by omega) (by omega) hρ (MG.rf m)), fun z => absurd e z⟩)
  · have e : ¬ ¬ sp_cv c (ei c) (ei 3) s = 1 := by
      show ¬ ¬ (if s 4 3 c = 0 then (0 : Int32) else 1) = 1
      rw [if_neg hl]; decide
    exact ew_go (fun pc => Nat.beq pc 785) 40 (xq_ofCell I hc (w := 3) (by decide) rfl rfl ⟨fun z => absurd z e, fun _ => kk T t ρ told s m _ _ _ h (by omega) (by omega) hρ (MG.rf m)⟩)
theorem lw_c2b (h : LI 2 5 2 T t ρ told s) (hρ : ρ ≤ 10) (kk : lw_k d K kc X Y (s 10 7 j) q j b T t m) (hb : b < 2) (hc : c < 15) (en : s 8 1 b = ei n) (hn : n < 8) : ew_W (ew_Call (d + 8)) 242 K (495, [some (ew_o 17 0), some (ew_o 11 0), some (ew_i told), some (ew_i (ei ρ)), some (ew_i kc), some (ew_i X), some (ew_i Y), some (ew_i (ei j)), some (ew_i (ei b)), some (ew_i (s 10 7 j)), some (ew_i q), u11, u12, u13], [ew_i (ei c), ew_i (ei b), ew_o 11 0], ew_hp s m) := by
  have I := h.iv
  have L := h.steer hb en hn hc
  have e : ei (n + 1) = ew_u (ew_u s 145 n b (ei c)) 8 1 b (ei (n + 1)) 8 1 b := (ew_u_self _ 8 1 b _).symm
  exact ew_go (fun pc => Nat.beq pc 785) 40 (xr_steer I hb hc en hn rfl rfl (xq_bv L.iv (Fr.rf _ _) hb (w := 2) (by decide) rfl rfl ⟨fun _ => kk T t ρ told _ m _ _ _ L (by omega) (by omega) hρ (MG.rf m), fun z => absurd e z⟩))
theorem lw_c2 (h : LI 2 5 2 T t ρ told s) (hρ : ρ ≤ 10) (kk : lw_k d K kc X Y (s 10 7 j) q j b T t m) (hb : b < 2) : ew_W (ew_Call (d + 8)) 242 K (445, [some (ew_o 17 0), some (ew_o 11 0), some (ew_i told), some (ew_i (ei ρ)), some (ew_i kc), some (ew_i X), some (ew_i Y), some (ew_i (ei j)), some (ew_i (ei b)), some (ew_i (s 10 7 j)), some (ew_i q), u11, u12, u13], [], ew_hp s m) := by
  have I := h.iv
  obtain ⟨⟨c0, hc0, ec0⟩, n, h8, en, -⟩ := I.2.2.2.1 b hb
  have en : s 8 1 b = ei n := en
  have ec0 : s 3 1 b = ei c0 := ec0
  by_cases hn : n < 8
  · have hlt : ¬ 8 ≤ s 8 1 b := fun z => by
      rw [en] at z
      have := (ei_le (a := 8) (by decide) (by omega)).mp z
      omega
    refine ew_go (fun pc => Nat.beq pc 468) 40 (xq_bv I (Fr.rf _ _) hb (w := 2) (by decide) rfl rfl ⟨fun z => absurd z hlt, fun _ => xv_below _ 4 (by decide) (by decide) rfl (fun r hr => ?_)⟩)
    show ew_W (ew_Call (d + 8)) 242 K (468, [some (ew_o 17 0), some (ew_o 11 0), some (ew_i told), some (ew_i (ei ρ)), some (ew_i kc), some (ew_i X), some (ew_i Y), some (ew_i (ei j)), some (ew_i (ei b)), some (ew_i (s 10 7 j)), some (ew_i q), u11, u12, u13], [ew_i (ei r), ew_i (ei b), ew_o 11 0], ew_hp s m)
    by_cases hr0 : ei r = 0
    · exact ew_go (fun pc => Nat.beq pc 495) 40 ⟨fun z => absurd hr0 z, fun _ => xv_below _ 15 (by decide) (by decide) rfl (fun c hc => lw_c2b h hρ kk hb hc en hn)⟩
    · exact ew_go (fun pc => Nat.beq pc 495) 40 ⟨fun _ => xq_bv I (Fr.rf _ _) hb (w := 0) (by decide) rfl rfl (xv_next hc0 ec0 _ (fun c hc => lw_c2b h hρ kk hb hc en hn)), fun z => absurd hr0 z⟩
  · have hge : 8 ≤ s 8 1 b := by
      rw [en]
      exact (ei_le (a := 8) (by decide) (by omega)).mpr (by omega)
    exact ew_go (fun pc => Nat.beq pc 785) 40 (xq_bv I (Fr.rf _ _) hb (w := 2) (by decide) rfl rfl ⟨fun _ => kk T t ρ told s m _ _ _ h (by omega) (by omega) hρ (MG.rf m), fun z => absurd hge z⟩)
theorem lw_c4 (h : LI 2 5 2 T t ρ told s) (hρ : ρ ≤ 10) (kk : lw_k d K kc X Y (s 10 7 j) q j b T t m) (hj : j < 5) : ew_W (ew_Call (d + 8)) 242 K (510, [some (ew_o 17 0), some (ew_o 11 0), some (ew_i told), some (ew_i (ei ρ)), some (ew_i kc), some (ew_i X), some (ew_i Y), some (ew_i (ei j)), some (ew_i (ei b)), some (ew_i (s 10 7 j)), some (ew_i q), u11, u12, u13], [], ew_hp s m) := by
  have I := h.iv
  obtain ⟨⟨c0, hc0, ec0⟩, ⟨n, h8, en, -⟩, -⟩ := I.2.2.2.2.1 j hj
  have en : s 40 1 j = ei n := en
  have ec0 : s 10 2 j = ei c0 := ec0
  by_cases h3 : 3 ≤ s 10 7 j
  · exact ew_go (fun pc => Nat.beq pc 785) 40 ⟨fun _ => kk T t ρ told s m _ _ _ h (by omega) (by omega) hρ (MG.rf m), fun z => absurd h3 z⟩
  have n3 : ¬ s 10 7 j = 3 := fun z => h3 (by rw [z]; decide)
  by_cases hn : n < 8
  · have hlt : ¬ 8 ≤ s 40 1 j := fun z => by
      rw [en] at z
      have := (ei_le (a := 8) (by decide) (by omega)).mp z
      omega
    refine ew_go (fun pc => Nat.beq pc 546) 40 ⟨fun z => absurd z h3, fun _ => xq_sv I (Fr.rf _ _) hj (w := 6) (by decide) rfl rfl ⟨fun z => absurd z hlt, fun _ => xq_sv I (Fr.rf _ _) hj (w := 0) (by decide) rfl rfl (xv_next hc0 ec0 _ (fun c hc => ?_))⟩⟩
    have L := h.sail hj en hn hc
    have e : ei (n + 1) = ew_u (ew_u s 593 n j (ei c)) 40 1 j (ei (n + 1)) 40 1 j := (ew_u_self _ 40 1 j _).symm
    exact ew_go (fun pc => Nat.beq pc 785) 40 (xr_sail I hj hc n3 en hn rfl rfl (xq_sv L.iv (Fr.rf _ _) hj (w := 6) (by decide) rfl rfl ⟨fun _ => kk T t ρ told _ m _ _ _ L (by omega) (by omega) hρ (MG.rf m), fun z => absurd e z⟩))
  · have hge : 8 ≤ s 40 1 j := by
      rw [en]
      exact (ei_le (a := 8) (by decide) (by omega)).mpr (by omega)
    exact ew_go (fun pc => Nat.beq pc 785) 40 ⟨fun z => absurd z h3, fun _ => xq_sv I (Fr.rf _ _) hj (w := 6) (by decide) rfl rfl ⟨fun _ => kk T t ρ told s m _ _ _ h (by omega) (by omega) hρ (MG.rf m), fun z => absurd hge z⟩⟩
theorem lw_c7b (h : LI 2 5 2 T t ρ told s) (hρ : ρ ≤ 10) (kk : lw_k d K kc X Y (s 10 7 j) q j b T t m) (hb : b < 2) (hj : j < 5) (n3 : ¬ s 10 7 j = 3) (ec : s 10 2 j = s 3 1 b) (n1 : ¬ (s 10 7 j = 1 ∧ s 10 8 j = ei b)) (h2 : sp_led 1 (ei b) s < 2) : ew_W (ew_Call (d + 8)) 242 K (596, [some (ew_o 17 0), some (ew_o 11 0), some (ew_i told), some (ew_i (ei ρ)), some (ew_i kc), some (ew_i X), some (ew_i Y), some (ew_i (ei j)), some (ew_i (ei b)), some (ew_i (s 10 7 j)), some (ew_i q), u11, u12, u13], [], ew_hp s m) := by
  have I := h.iv
  have hcn : ef_cn (ef_bd s 1 (ei b)) 5 < 2 := by
    rw [led_ei I] at h2
    have := (h.1.2.2 b hb).1
    exact (ei_lt (b := 2) (by omega) (by decide)).mp h2
  have L := h.bd hj hb n3 (w := 1) (Or.inl ⟨rfl, hcn⟩)
  have e1 : ¬ ¬ sp_led 1 (ei b) (sp_bd 1 (ei b) j s) = sp_led 1 (ei b) (sp_bd 1 (ei b) j s) := fun z => z rfl
  have e7 : sp_bd 1 (ei b) j s 10 7 j = 1 := (ew_u_ne _ _ (by omega)).trans (ew_u_self _ _ _ _ _)
  exact ew_go (fun pc => Nat.beq pc 785) 60 (xr_lead I hb hj n3 ec n1 h2 rfl rfl (xq_bv L.iv (Fr.rf _ _) hb (w := 3) (by decide) rfl rfl ⟨fun z => absurd z e1, fun _ => xq_sv L.iv (Fr.rf _ _) hj (w := 4) (by decide) rfl rfl ⟨fun _ => kk T t ρ told _ m _ _ _ L (by omega) (by omega) hρ (MG.rf m), fun z => absurd e7 z⟩⟩))
theorem lw_c7 (h : LI 2 5 2 T t ρ told s) (hρ : ρ ≤ 10) (kk : lw_k d K kc X Y (s 10 7 j) q j b T t m) (hb : b < 2) (hj : j < 5) (hq : ¬ q = 0 → s 10 2 j = s 3 1 b ∧ s 10 7 j < 3) : ew_W (ew_Call (d + 8)) 242 K (562, [some (ew_o 17 0), some (ew_o 11 0), some (ew_i told), some (ew_i (ei ρ)), some (ew_i kc), some (ew_i X), some (ew_i Y), some (ew_i (ei j)), some (ew_i (ei b)), some (ew_i (s 10 7 j)), some (ew_i q), u11, u12, u13], [], ew_hp s m) := by
  have I := h.iv
  have go := fun u11 u12 u13 => kk T t ρ told s m u11 u12 u13 h (by omega) (by omega) hρ (MG.rf m)
  by_cases h0 : q = 0
  · exact ew_go (fun pc => Nat.beq pc 785) 40 ⟨fun _ => go _ _ _, fun z => absurd h0 z⟩
  obtain ⟨ec, h3⟩ := hq h0
  have n3 : ¬ s 10 7 j = 3 := fun z => by rw [z] at h3; exact absurd h3 (by decide)
  by_cases h2 : 2 ≤ sp_led 1 (ei b) s
  · exact ew_go (fun pc => Nat.beq pc 785) 40 ⟨fun z => absurd z h0, fun _ => xq_bv I (Fr.rf _ _) hb (w := 3) (by decide) rfl rfl ⟨fun _ => go _ _ _, fun z => absurd h2 z⟩⟩
  have h2' : sp_led 1 (ei b) s < 2 := Int32.not_le.mp h2
  by_cases h1 : s 10 7 j = 1
  · by_cases h8 : s 10 8 j = ei b
    · exact ew_go (fun pc => Nat.beq pc 785) 40 ⟨fun z => absurd z h0, fun _ => xq_bv I (Fr.rf _ _) hb (w := 3) (by decide) rfl rfl ⟨fun z => absurd z h2, fun _ => ⟨fun z => absurd h1 z, fun _ => xq_sv I (Fr.rf _ _) hj (w := 5) (by decide) rfl rfl ⟨fun _ => go _ _ _, fun z => absurd h8 z⟩⟩⟩⟩
    · have k := lw_c7b (u11 := u11) (u12 := u12) (u13 := u13) h hρ kk hb hj n3 ec (fun z => h8 z.2) h2'
      exact ew_go (fun pc => Nat.beq pc 596) 40 ⟨fun z => absurd z h0, fun _ => xq_bv I (Fr.rf _ _) hb (w := 3) (by decide) rfl rfl ⟨fun z => absurd z h2, fun _ => ⟨fun z => absurd h1 z, fun _ => xq_sv I (Fr.rf _ _) hj (w := 5) (by decide) rfl rfl ⟨fun z => absurd z h8, fun _ => k⟩⟩⟩⟩
  · have k := lw_c7b (u11 := u11) (u12 := u12) (u13 := u13) h hρ kk hb hj n3 ec (fun z => h1 z.1) h2'
    exact ew_go (fun pc => Nat.beq pc 596) 40 ⟨fun z => absurd z h0, fun _ => xq_bv I (Fr.rf _ _) hb (w := 3) (by decide) rfl rfl ⟨fun z => absurd z h2, fun _ => ⟨fun _ => k, fun z => absurd h1 z⟩⟩⟩
theorem lw_c8 (h : LI 2 5 2 T t ρ told s) (hρ : ρ ≤ 10) (kk : lw_k d K kc X Y (s 10 7 j) q j b T t m) (hb : b < 2) (hj : j < 5) (hq : ¬ q = 0 → s 10 2 j = s 3 1 b ∧ s 10 7 j < 3) : ew_W (ew_Call (d + 8)) 242 K (627, [some (ew_o 17 0), some (ew_o 11 0), some (ew_i told), some (ew_i (ei ρ)), some (ew_i kc), some (ew_i X), some (ew_i Y), some (ew_i (ei j)), some (ew_i (ei b)), some (ew_i (s 10 7 j)), some (ew_i q), u11, u12, u13], [], ew_hp s m) := by
  have I := h.iv
  have go := fun u11 u12 u13 => kk T t ρ told s m u11 u12 u13 h (by omega) (by omega) hρ (MG.rf m)
  by_cases h0 : q = 0
  · exact ew_go (fun pc => Nat.beq pc 785) 40 ⟨fun _ => go _ _ _, fun z => absurd h0 z⟩
  obtain ⟨ec, h3⟩ := hq h0
  have n3 : ¬ s 10 7 j = 3 := fun z => by rw [z] at h3; exact absurd h3 (by decide)
  by_cases h2 : sp_tug (ei b) s = -1
  · have h2' : ¬ ¬ sp_tug (ei b) s = -1 := fun z => z h2
    obtain ⟨-, -, -, ⟨r, hr, er, eb⟩, -⟩ := I.2.2.2.2.1 j hj
    have er : s 10 3 j = ei r := er
    have eb : s 10 4 j = ef_bears (ei r) := eb
    by_cases h1 : s 10 3 j ≤ 0
    · exact ew_go (fun pc => Nat.beq pc 785) 40 ⟨fun z => absurd z h0, fun _ => xq_bv I (Fr.rf _ _) hb (w := 4) (by decide) rfl rfl ⟨fun z => absurd z h2', fun _ => xq_sv I (Fr.rf _ _) hj (w := 1) (by decide) rfl rfl ⟨fun _ => go _ _ _, fun z => absurd h1 z⟩⟩⟩
    have hr1 : 1 ≤ r := by
      by_cases z : r = 0
      · exact absurd (by rw [er, z]; decide) h1
      · omega
    have h1' : 1 ≤ s 10 3 j := by rw [er]; exact (ei_le (a := 1) (by decide) (by omega)).mpr hr1
    have h30 : ¬ s 10 4 j < 30 := by
      rw [eb]
      have : ∀ r, r < 5 → 1 ≤ r → ¬ ef_bears (ei r) < 30 := by decide
      exact this r (by omega) hr1
    have hcn : ef_cn (ef_bd s 2 (ei b)) 5 < 1 := by
      rw [ef_cn_0 5 (tug_n I h2)]; decide
    have L := h.bd hj hb n3 (w := 2) (Or.inr ⟨rfl, hcn⟩)
    have ej := tug_j I hj h2
    exact ew_go (fun pc => Nat.beq pc 785) 60 ⟨fun z => absurd z h0, fun _ => xq_bv I (Fr.rf _ _) hb (w := 4) (by decide) rfl rfl ⟨fun z => absurd z h2', fun _ => xq_sv I (Fr.rf _ _) hj (w := 1) (by decide) rfl rfl ⟨fun z => absurd z h1, fun _ => xr_tow I hb hj n3 ec h1' h2 rfl rfl ⟨fun z => absurd z h30, fun _ => xq_bv L.iv (Fr.rf _ _) hb (w := 4) (by decide) rfl rfl ⟨fun _ => kk T t ρ told _ m _ _ _ L (by omega) (by omega) hρ (MG.rf m), fun z => absurd ej z⟩⟩⟩⟩⟩
  · exact ew_go (fun pc => Nat.beq pc 785) 40 ⟨fun z => absurd z h0, fun _ => xq_bv I (Fr.rf _ _) hb (w := 4) (by decide) rfl rfl ⟨fun _ => go _ _ _, fun z => absurd h2 z⟩⟩
theorem lw_c9 (h : LI 2 5 2 T t ρ told s) (hρ : ρ ≤ 10) (kk : lw_k d K kc X Y (s 10 7 j) q j b T t m) : ew_W (ew_Call (d + 8)) 242 K (680, [some (ew_o 17 0), some (ew_o 11 0), some (ew_i told), some (ew_i (ei ρ)), some (ew_i kc), some (ew_i X), some (ew_i Y), some (ew_i (ei j)), some (ew_i (ei b)), some (ew_i (s 10 7 j)), some (ew_i q), u11, u12, u13], [], ew_hp s m) := by
  have I := h.iv
  by_cases h10 : ei ρ = 10
  · exact ew_go (fun pc => Nat.beq pc 785) 40 ⟨fun z => absurd h10 z, fun _ => kk T t ρ told s m _ _ _ h (by omega) (by omega) hρ (MG.rf m)⟩
  have hρ9 : ρ < 10 := by
    by_cases z : ρ = 10
    · exact absurd (by rw [z]; rfl) h10
    · omega
  refine ew_go (fun pc => Nat.beq pc 709) 40 ⟨fun _ => xv_below _ 2 (by decide) (by decide) rfl (fun p hp => xv_below _ 5 (by decide) (by decide) rfl (fun a ha => ?_)), fun z => absurd h10 z⟩
  show ew_W (ew_Call (d + 8)) 242 K (709, [some (ew_o 17 0), some (ew_o 11 0), some (ew_i told), some (ew_i (ei ρ + 1)), some (ew_i kc), some (ew_i X), some (ew_i Y), some (ew_i (ei j)), some (ew_i (ei b)), some (ew_i (s 10 7 j)), some (ew_i q), u11, u12, u13], [ew_i (ei a), ew_i (ei p), ew_o 11 0], ew_hp s m)
  have hn : ∃ n, n < 10 ∧ s 6 3 p = ei n := by
    obtain ⟨a', b', hab, ea, eb⟩ := h.2.2.2.2.1
    have hp : p = 0 ∨ p = 1 := by omega
    rcases hp with rfl | rfl
    · exact ⟨a', by omega, ea⟩
    · exact ⟨b', by omega, eb⟩
  obtain ⟨n, hn, en⟩ := hn
  have L := h.rule hρ hp en hn (ei a) (s 9 5 0 + 24)
  rw [show ei ρ + 1 = ei (ρ + 1) from ei_1 ρ]
  have e0 : s 9 5 0 + 24 = s 9 5 0 + 24 := rfl
  exact ew_go (fun pc => Nat.beq pc 785) 60 (xr_rule I hp (show a ≤ 4 by omega) en hn rfl rfl rfl (xq_many L.iv (w := 0) (by decide) rfl ⟨fun _ => kk T t (ρ + 1) told _ m _ _ _ L (by omega) (by omega) (by omega) (MG.rf m), fun z => absurd e0 z⟩))
theorem lw_c10 (h : LI 2 5 2 T t ρ told s) (hρ : ρ ≤ 10) (kk : lw_k d K kc X Y (s 10 7 j) q j b T t m) (hj : j < 5) (hT : T + 1000 ≤ 90000000) (ht : t + 10 ≤ 1000000) : ew_W (ew_Call (d + 8)) 242 K (727, [some (ew_o 17 0), some (ew_o 11 0), some (ew_i told), some (ew_i (ei ρ)), some (ew_i kc), some (ew_i X), some (ew_i Y), some (ew_i (ei j)), some (ew_i (ei b)), some (ew_i (s 10 7 j)), some (ew_i q), u11, u12, u13], [], ew_hp s m) := by
  have n1 : ¬ (1 : Int32) = 0 := by decide
  exact ew_go (fun pc => Nat.beq pc 785) 60 (xv_below _ 10 (by decide) (by decide) rfl (fun r hr => xv_below _ 5 (by decide) (by decide) rfl (fun r2 hr2 => xv_ahead h (ei_c r hr) (ei_w r2 hr2) hj hT ht rfl (fun s' m' L M => ⟨fun _ => kk (T + 135 * 5) (t + 5) ρ told s' m' _ _ _ L (by omega) (by omega) hρ ⟨M.1, by rw [M.2.1]; omega, by rw [M.2.2]; omega⟩, fun z => absurd n1 z⟩))))
theorem lw_cd (h : LI 2 5 2 T t ρ told s) (hρ : ρ ≤ 10) (kk : lw_k d K kc X Y (s 10 7 j) q j b T t m) (hT : T + 1000 ≤ 90000000) (ht : t + 10 ≤ 1000000) : ew_W (ew_Call (d + 8)) 242 K (757, [some (ew_o 17 0), some (ew_o 11 0), some (ew_i told), some (ew_i (ei ρ)), some (ew_i kc), some (ew_i X), some (ew_i Y), some (ew_i (ei j)), some (ew_i (ei b)), some (ew_i (s 10 7 j)), some (ew_i q), u11, u12, u13], [], ew_hp s m) := by
  have n1 : ¬ (1 : Int32) = 0 := by decide
  exact ew_go (fun pc => Nat.beq pc 785) 60 (xv_below _ 10 (by decide) (by decide) rfl (fun r hr => xv_below _ 5 (by decide) (by decide) rfl (fun r2 hr2 => xv_passed h (by omega) (by omega) (ei_c r hr) (ei_w r2 hr2) (fun s' m' _ L M => ⟨fun _ => kk (T + 135) (t + 1) ρ told s' m' _ _ _ L (by omega) (by omega) hρ ⟨M.1, by rw [M.2.1]; omega, by rw [M.2.2]; omega⟩, fun z => absurd n1 z⟩))))
end
