/-! The law's isSound. -/
section
variable {d : Nat} {s s1 : ew_S} {m : ew_H} {K : ew_R → ew_H → Prop} {np T t ρ : Nat} {told : Int32}
theorem xl_so1 (h : LI 2 5 np T t ρ told s) (hT : T ≤ 90000000) (k : ∀ u3 u4, ew_W (ew_Call (d + 6)) 226 K (101, [some (ew_o 11 0), some (ew_i (ef_sum (fun c => if s 4 2 c ≤ 0 then 0 else 1) 15)), some (ew_i (ei 15)), u3, u4, none, none, none, none], [], ew_hp s m)) : ∀ (r c : Nat) (y v : Int32) (u3 u4 : Option ew_V), y = ei c → c + r = 15 → v = ef_sum (fun c => if s 4 2 c ≤ 0 then 0 else 1) c →
    ew_W (ew_Call (d + 6)) 226 K (4, [some (ew_o 11 0), some (ew_i v), some (ew_i y), u3, u4, none, none, none, none], [], ew_hp s m) := by
  intro r
  induction r with
  | zero =>
    intro c y v u3 u4 hy hc hv
    obtain rfl : c = 15 := by omega
    subst hy; subst hv
    exact ew_go (fun pc => Nat.beq pc 101) 40 ⟨fun _ => k u3 u4, fun z => absurd (show (15 : Int32) ≤ ei 15 by decide) z⟩
  | succ r ih =>
    intro c y v u3 u4 hy hcr hv
    have hc : c < 15 := by omega
    subst hy
    have I := h.iv
    obtain ⟨o, ho12, eo⟩ := h.2.1.1 c hc
    have hp := h.2.1.2.1 c hc
    obtain ⟨f, hf1, hf2⟩ := I.2.2.2.2.2.2
    have h15 : ¬ (15 : Int32) ≤ ei c := fun z => by
      have := (ei_le (a := 15) (by decide) (by omega)).mp z
      omega
    have hopen : ¬ s 4 2 c < 0 := by rw [eo]; exact ei_nn (by omega)
    have h12 : ¬ (12 : Int32) < s 4 2 c := fun z => by
      rw [eo] at z
      have := (ei_lt (a := 12) (by decide) (by omega)).mp z
      omega
    have hpr : ¬ s 4 1 c < 0 := Int32.not_lt.mpr hp
    have hice : ¬ s 4 0 c < 0 := by
      rw [show s 4 0 c = ei (f c) from hf2 c hc]
      have := ef_sm_le f 15 c hc
      exact ei_nn (by omega)
    by_cases ho : s 4 2 c ≤ 0
    · have fin := ih (c + 1) (ei c + 1) (v + 0) (some (ew_i (s 4 0 c))) (some (ew_i (s 4 2 c))) (ei_1 c) (by omega) (by rw [hv]; show _ = ef_sum _ c + (if s 4 2 c ≤ 0 then 0 else 1); rw [if_pos ho])
      have e : sp_w 0 c s = s 4 0 c + 5 * s 4 1 c := by unfold sp_w; rw [if_pos (show s 4 2 (c + 15 * 0) ≤ 0 from ho)]; rfl
      exact ew_go (fun pc => Nat.beq pc 4) 90 ⟨fun z => absurd z h15, fun _ => xq_ofCell I hc (w := 0) (by decide) rfl rfl (xq_ofCell I hc (w := 2) (by decide) rfl rfl ⟨fun _ => ⟨fun z => absurd z hice, fun _ => ⟨fun z => absurd z hopen, fun _ => ⟨fun z => absurd z h12, fun _ => xq_ofCell I hc (w := 1) (by decide) rfl rfl ⟨fun z => absurd z hpr, fun _ => xq_ofCell I hc (w := 4) (by decide) rfl rfl ⟨fun _ => xq_ofCell I hc (w := 1) (by decide) rfl rfl ⟨fun _ => fin, fun z => absurd e z⟩, fun z => absurd ho z⟩⟩⟩⟩⟩, fun z => absurd ho z⟩)⟩
    · have fin := ih (c + 1) (ei c + 1) (v + 1) (some (ew_i (s 4 0 c))) (some (ew_i (s 4 2 c))) (ei_1 c) (by omega) (by rw [hv]; show _ = ef_sum _ c + (if s 4 2 c ≤ 0 then 0 else 1); rw [if_neg ho])
      have e : sp_w 0 c s = s 4 0 c / 4 + 5 * s 4 1 c := by unfold sp_w; rw [if_neg (show ¬ s 4 2 (c + 15 * 0) ≤ 0 from ho)]; rfl
      exact ew_go (fun pc => Nat.beq pc 4) 90 ⟨fun z => absurd z h15, fun _ => xq_ofCell I hc (w := 0) (by decide) rfl rfl (xq_ofCell I hc (w := 2) (by decide) rfl rfl ⟨fun z => absurd z ho, fun _ => ⟨fun z => absurd z hice, fun _ => ⟨fun z => absurd z hopen, fun _ => ⟨fun z => absurd z h12, fun _ => xq_ofCell I hc (w := 1) (by decide) rfl rfl ⟨fun z => absurd z hpr, fun _ => xq_ofCell I hc (w := 4) (by decide) rfl rfl ⟨fun z => absurd z ho, fun _ => ⟨by decide, xq_ofCell I hc (w := 1) (by decide) rfl rfl ⟨fun _ => fin, fun z => absurd e z⟩⟩⟩⟩⟩⟩⟩⟩)⟩
/-- a ship's state and its breaker -/
theorem xl_soA (I : Iv 0 2 5 np T s) (F : Fr Pct s s1) {j : Nat} (hj : j < 5) {v va vd vm : Int32} {u6 u7 u8 : Option ew_V}
    (k : ew_W (ew_Call (d + 6)) 226 K (165, [some (ew_o 11 0), some (ew_i v), some (ew_i va), some (ew_i vd), some (ew_i vm), some (ew_i (ei j)), some (ew_i (s 10 7 j)), some (ew_i (s 10 8 j)), u8], [], ew_hp s1 m)) :
    ew_W (ew_Call (d + 6)) 226 K (111, [some (ew_o 11 0), some (ew_i v), some (ew_i va), some (ew_i vd), some (ew_i vm), some (ew_i (ei j)), u6, u7, u8], [], ew_hp s1 m) := by
  have h5 : ¬ (5 : Int32) ≤ ei j := fun z => by
    have := (ei_le (a := 5) (by decide) (by omega)).mp z
    omega
  obtain ⟨-, -, -, -, hs⟩ := I.2.2.2.2.1 j hj
  have n1 : ¬ ¬ (1 : Int32) = 1 := fun z => z rfl
  have n0 : ¬ ¬ (0 : Int32) = 0 := fun z => z rfl
  rcases hs with ⟨e1, e2⟩ | ⟨e1, e2⟩ | ⟨e1, b, hb, e2⟩
  · have e1 : s 10 7 j = 0 := e1
    have e2 : s 10 8 j < 0 := by rw [show s 10 8 j = -1 from e2]; decide
    have a1 : ¬ s 10 7 j = 1 := by rw [e1]; decide
    have a2 : ¬ s 10 7 j = 2 := by rw [e1]; decide
    exact ew_go (fun pc => Nat.beq pc 165) 60 ⟨fun z => absurd z h5, fun _ => xq_sv I F hj (w := 4) (by decide) rfl rfl (xq_sv I F hj (w := 5) (by decide) rfl rfl ⟨fun z => absurd z a1, fun _ => ⟨fun _ => ⟨fun _ => ⟨fun z => absurd z n0, fun _ => k⟩, fun z => absurd e2 z⟩, fun z => absurd a2 z⟩⟩)⟩
  · have e1 : s 10 7 j = 3 := e1
    have e2 : s 10 8 j < 0 := by rw [show s 10 8 j = -1 from e2]; decide
    have a1 : ¬ s 10 7 j = 1 := by rw [e1]; decide
    have a2 : ¬ s 10 7 j = 2 := by rw [e1]; decide
    exact ew_go (fun pc => Nat.beq pc 165) 60 ⟨fun z => absurd z h5, fun _ => xq_sv I F hj (w := 4) (by decide) rfl rfl (xq_sv I F hj (w := 5) (by decide) rfl rfl ⟨fun z => absurd z a1, fun _ => ⟨fun _ => ⟨fun _ => ⟨fun z => absurd z n0, fun _ => k⟩, fun z => absurd e2 z⟩, fun z => absurd a2 z⟩⟩)⟩
  · have e2 : ¬ s 10 8 j < 0 := by rw [show s 10 8 j = ei b from e2]; exact ei_nn (by omega)
    have e1 : s 10 7 j = 1 ∨ s 10 7 j = 2 := e1
    have a2 : ¬ s 10 7 j = 1 → ¬ ¬ s 10 7 j = 2 := fun z w => w (e1.resolve_left z)
    exact ew_go (fun pc => Nat.beq pc 165) 60 ⟨fun z => absurd z h5, fun _ => xq_sv I F hj (w := 4) (by decide) rfl rfl (xq_sv I F hj (w := 5) (by decide) rfl rfl ⟨fun _ => ⟨fun z => absurd z e2, fun _ => ⟨fun z => absurd z n1, fun _ => k⟩⟩, fun q => ⟨fun z => absurd z (a2 q), fun _ => ⟨fun z => absurd z e2, fun _ => ⟨fun z => absurd z n1, fun _ => k⟩⟩⟩⟩)⟩
/-- .. and the hour in which it arrived -/
theorem xl_soB (I : Iv 0 2 5 np T s) (F : Fr Pct s s1) {j : Nat} (hj : j < 5) (hx : xi_s s j) {ls : List (Option ew_V)} {v va vd vm : Int32} {u7 u8 : Option ew_V}
    (k : ew_W (ew_Call (d + 6)) 226 K (195, [some (ew_o 11 0), some (ew_i v), some (ew_i va), some (ew_i vd), some (ew_i vm), some (ew_i (ei j)), some (ew_i (s 10 7 j)), u7, u8], [], ew_hp s1 m)) :
    ew_W (ew_Call (d + 6)) 226 K (165, [some (ew_o 11 0), some (ew_i v), some (ew_i va), some (ew_i vd), some (ew_i vm), some (ew_i (ei j)), some (ew_i (s 10 7 j)), u7, u8], [], ew_hp s1 m) := by
  have n1 : ¬ ¬ (1 : Int32) = 1 := fun z => z rfl
  have n0 : ¬ ¬ (0 : Int32) = 0 := fun z => z rfl
  rcases hx with ⟨e1, e2, -⟩ | ⟨e1, e2⟩
  · have e2 : ¬ s 10 11 j < 0 := Int32.not_lt.mpr e2
    exact ew_go (fun pc => Nat.beq pc 195) 60 ⟨fun z => absurd e1 z, fun _ => xq_sv I F hj (w := 9) (by decide) rfl rfl ⟨fun z => absurd z e2, fun _ => ⟨fun z => absurd z n1, fun _ => k⟩⟩⟩
  · have e2 : s 10 11 j < 0 := by rw [e2]; decide
    exact ew_go (fun pc => Nat.beq pc 195) 60 ⟨fun _ => xq_sv I F hj (w := 9) (by decide) rfl rfl ⟨fun _ => ⟨fun z => absurd z n0, fun _ => k⟩, fun z => absurd e2 z⟩, fun z => absurd z (fun w => w e1)⟩
/-- its route, waits, dues and damage; what has to be broken -/
theorem xl_soC (I : Iv 0 2 5 np T s) (F : Fr Pct s s1) {j : Nat} (hj : j < 5) {v va vd vm : Int32} {u6 u7 u8 : Option ew_V}
    (k : ∀ s2, Fr Pct s s2 → ew_W (ew_Call (d + 6)) 226 K (249, [some (ew_o 11 0), some (ew_i v), some (ew_i (va + ef_sum (fun p => s 177 p j) 5)), some (ew_i (vd + s 10 10 j)), some (ew_i (vm + s 10 9 j)), some (ew_i (ei j)), u6, u7, u8], [ew_i (sp_tb j s)], ew_hp s2 m)) :
    ew_W (ew_Call (d + 6)) 226 K (195, [some (ew_o 11 0), some (ew_i v), some (ew_i va), some (ew_i vd), some (ew_i vm), some (ew_i (ei j)), u6, u7, u8], [], ew_hp s1 m) := by
  obtain ⟨-, ⟨n, h8, en, -⟩, -⟩ := I.2.2.2.2.1 j hj
  have en : s 40 1 j = ei n := en
  have h8' : s 40 1 j ≤ 8 := by rw [en]; exact (ei_le (b := 8) (by omega) (by decide)).mpr h8
  have e177 : ef_sum (fun p => s1 177 p j) 5 = ef_sum (fun p => s 177 p j) 5 := ef_sum_cg _ _ 5 (fun p _ => pt177 F hj)
  rw [← e177] at k
  exact ew_go (fun pc => Nat.beq pc 249) 60 (xq_sv I F hj (w := 6) (by decide) rfl rfl ⟨fun _ => xv_waits (I.pt F) hj rfl (xq_sv I F hj (w := 8) (by decide) rfl rfl (xq_sv I F hj (w := 7) (by decide) rfl rfl (xq_tb I F hj rfl (fun s2 F2 => k s2 F2)))), fun z => absurd h8' z⟩)
/-- the way to where it is, and the bounds of what has to be broken -/
theorem xl_soD (I : Iv 0 2 5 np T s) (F : Fr Pct s s1) {j : Nat} (hj : j < 5) (hx : xi_s s j) {v va vd vm : Int32} {u7 u8 : Option ew_V}
    (k : ∀ s2, Fr Pct s s2 → ew_W (ew_Call (d + 6)) 226 K (111, [some (ew_o 11 0), some (ew_i v), some (ew_i va), some (ew_i vd), some (ew_i vm), some (ew_i (ei j + 1)), some (ew_i (s 10 7 j)), u7, some (ew_i (sp_tb j s))], [], ew_hp s2 m)) (h7 : ∃ b, u7 = some (ew_i b)) :
    ew_W (ew_Call (d + 6)) 226 K (249, [some (ew_o 11 0), some (ew_i v), some (ew_i va), some (ew_i vd), some (ew_i vm), some (ew_i (ei j)), some (ew_i (s 10 7 j)), u7, u8], [ew_i (sp_tb j s)], ew_hp s1 m) := by
  obtain ⟨b, rfl⟩ := h7
  obtain ⟨⟨c, hc, ec⟩, -, ⟨p, hp, ep⟩, -⟩ := I.2.2.2.2.1 j hj
  have ec : s 10 2 j = ei c := ec
  have ep : s 10 6 j = ei p := ep
  have hnp := I.1.2.2
  obtain ⟨⟨cp, hcp, ecp⟩, -⟩ := I.2.2.2.2.2.1 p hp
  have ecp : s 6 4 p = ei cp := ecp
  have w0 : sp_way j c s = 0 := by
    unfold sp_way
    rw [ec, ei_nat (by omega)]
    exact d_res_self
  have etb : sp_tb j s = d_res (sp_pb 0 j s) c cp := by
    unfold sp_tb
    rw [ec, ep, ei_nat (show c < 2147483648 by omega), ei_nat (show p < 2147483648 by omega), ecp, ei_nat (by omega)]
  have b1 : ¬ sp_tb j s < -1 := by
    rw [etb]
    rcases d_res_rng (fr := c) (sp_pb_le 0 j s) hcp with e | ⟨n, hn, e⟩
    · rw [e]; decide
    · rw [e]
      have : ∀ n, n < 15 → ¬ ei n < -1 := by decide
      exact this n (by omega)
  have b2 : ¬ 14 < sp_tb j s := by
    rw [etb]
    rcases d_res_rng (fr := c) (sp_pb_le 0 j s) hcp with e | ⟨n, hn, e⟩
    · rw [e]; decide
    · rw [e]
      have : ∀ n, n < 15 → ¬ 14 < ei n := by decide
      exact this n (by omega)
  have b3 : ¬ ¬ s 10 7 j = 3 → sp_tb j s = 0 := fun h3 => by
    have h3 := Classical.not_not.mp h3
    rcases hx with ⟨-, -, e⟩ | ⟨e, -⟩
    · rw [ec, ep, ei_nat (by omega), ecp] at e
      rw [etb, (ei_inj (by omega) (by omega)).mp e]
      exact d_res_self
    · exact absurd h3 e
  have w0' : ¬ ¬ sp_way j c s = 0 := fun z => z w0
  exact ew_go (fun pc => Nat.beq pc 111) 60 (xq_sv I F hj (w := 0) (by decide) rfl rfl (xq_way I F hj hc rfl ec (fun s2 F2 => ⟨fun z => absurd z w0', fun _ => ⟨fun z => absurd z b1, fun _ => ⟨fun z => absurd z b2, fun _ => ⟨fun _ => k s2 F2, fun z => ⟨fun _ => k s2 F2, fun z2 => absurd (b3 z) z2⟩⟩⟩⟩⟩)))
theorem led_ei (I : Iv 0 2 5 np T s) (w : Int32) (b : Int32) : sp_led w b s = ei (ef_cn (ef_bd s w b) 5) := by
  unfold sp_led
  have e4 : (s 9 4 0).toNatClampNeg = 5 := by rw [I.2.1.2.1]; decide
  rw [e4]
  exact ef_cn_sum s w b 5
theorem led_3 (h : LI 2 5 np T t ρ told s) {b : Nat} (hb : b < 2) : ¬ 3 ≤ sp_led 1 (ei b) s := fun z => by
  rw [led_ei h.iv] at z
  have l := (h.1.2.2 b hb).1
  have := (ei_le (a := 3) (by decide) (by omega)).mp z
  omega
theorem xl_soE (h : LI 2 5 np T t ρ told s) (F : Fr Pct s s1) {u5 u6 u7 u8 : Option ew_V} (k : K (.inl (some (ew_i 1))) (ew_hp s1 m)) :
    ew_W (ew_Call (d + 6)) 226 K (299, [some (ew_o 11 0), some (ew_i (ef_sum (fun c => if s 4 2 c ≤ 0 then 0 else 1) 15)), some (ew_i (ef_sum (fun j => ef_sum (fun p => s 177 p j) 5) 5)), some (ew_i (ef_sum (fun j => s 10 10 j) 5)), some (ew_i (ef_sum (fun j => s 10 9 j) 5)), u5, u6, u7, u8], [], ew_hp s1 m) := by
  have I := h.iv
  have J := I.pt F
  have e4 : (s 9 4 0).toNatClampNeg = 5 := by rw [I.2.1.2.1]; decide
  have mv : ∀ w, sp_mv w s1 = sp_mv w s := fun w => sp_mv_pz I F.pz w
  have m2 : ¬ ¬ ef_sum (fun c => if s 4 2 c ≤ 0 then 0 else 1) 15 = sp_mv (ei 2) s1 := fun z => z (by rw [mv]; rfl)
  have m7 : ¬ ¬ ef_sum (fun j => ef_sum (fun p => s 177 p j) 5) 5 = sp_mv (ei 7) s1 := fun z => z (by rw [mv]; show _ = ef_sum (fun j => ef_sum (fun p => s 177 p j) 5) (s 9 4 0).toNatClampNeg; rw [e4])
  have m8 : ¬ ¬ ef_sum (fun j => s 10 10 j) 5 = sp_mv (ei 8) s1 := fun z => z (by rw [mv, ← e4]; rfl)
  have m10 : ¬ ¬ ef_sum (fun j => s 10 9 j) 5 = sp_mv (ei 10) s1 := fun z => z (by rw [mv, ← e4]; rfl)
  have l0 := led_3 h (b := 0) (by decide)
  have l1 := led_3 h (b := 1) (by decide)
  exact ew_go (fun _ => false) 60 (xq_many J (w := 2) (by decide) rfl ⟨fun z => absurd z m2, fun _ => xq_many J (w := 7) (by decide) rfl ⟨fun z => absurd z m7, fun _ => xq_many J (w := 8) (by decide) rfl ⟨fun z => absurd z m8, fun _ => xq_many J (w := 10) (by decide) rfl ⟨fun z => absurd z m10, fun _ => xq_bv I F (b := 0) (by decide) (w := 3) (by decide) rfl rfl ⟨fun z => absurd z l0, fun _ => xq_bv I F (b := 1) (by decide) (w := 3) (by decide) rfl rfl ⟨fun z => absurd z l1, fun _ => ⟨Or.inr rfl, k⟩⟩⟩⟩⟩⟩⟩)
theorem xl_so2 (h : LI 2 5 np T t ρ told s) {v : Int32} (hv : v = ef_sum (fun c => if s 4 2 c ≤ 0 then 0 else 1) 15) (k : ∀ s', Fr Pct s s' → K (.inl (some (ew_i 1))) (ew_hp s' m)) : ∀ (r j : Nat) (y va vd vm : Int32) (u6 u7 u8 : Option ew_V) (s1 : ew_S), y = ei j → j + r = 5 → va = ef_sum (fun j => ef_sum (fun p => s 177 p j) 5) j → vd = ef_sum (fun j => s 10 10 j) j → vm = ef_sum (fun j => s 10 9 j) j → Fr Pct s s1 →
    ew_W (ew_Call (d + 6)) 226 K (111, [some (ew_o 11 0), some (ew_i v), some (ew_i va), some (ew_i vd), some (ew_i vm), some (ew_i y), u6, u7, u8], [], ew_hp s1 m) := by
  intro r
  induction r with
  | zero =>
    intro j y va vd vm u6 u7 u8 s1 hy hj ha hd hm F
    obtain rfl : j = 5 := by omega
    subst hy; subst ha; subst hd; subst hm; subst hv
    exact ew_go (fun pc => Nat.beq pc 299) 40 ⟨fun _ => xl_soE h F (k s1 F), fun z => absurd (show (5 : Int32) ≤ ei 5 by decide) z⟩
  | succ r ih =>
    intro j y va vd vm u6 u7 u8 s1 hy hjr ha hd hm F
    have hj : j < 5 := by omega
    subst hy
    have hx := h.2.1.2.2 j hj
    exact xl_soA h.iv F hj (xl_soB (ls := []) h.iv F hj hx (xl_soC h.iv F hj (fun s2 F2 => xl_soD h.iv F2 hj hx (fun s3 F3 => ih (j + 1) _ _ _ _ _ _ _ s3 (ei_1 j) (by omega) (by rw [ha]; rfl) (by rw [hd]; rfl) (by rw [hm]; rfl) F3) ⟨_, rfl⟩)))
theorem xv_sound (h : LI 2 5 np T t ρ told s) (hT : T ≤ 90000000) (k : ∀ s', Fr Pct s s' → K (.inl (some (ew_i 1))) (ew_hp s' m)) : ew_Call (d + 7) 226 [ew_o 11 0] (ew_hp s m) K := by
  refine ew_call (ew_go (fun pc => Nat.beq pc 4) 40 (xl_so1 h hT (fun u3 u4 => ?_) 15 0 0 0 none none rfl rfl rfl))
  exact ew_go (fun pc => Nat.beq pc 111) 40 (xl_so2 h rfl k 5 0 0 0 0 0 none none none s rfl rfl rfl rfl rfl (Fr.rf _ _))
end
