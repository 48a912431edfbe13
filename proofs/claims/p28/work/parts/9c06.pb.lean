/-! The law's isPassed: the hour, and the breakers behind it. -/
theorem op_pass1 {x w : Int32} (hx : 0 ≤ x ∧ x ≤ 9) (hw : -1 ≤ w ∧ w ≤ 3) (s : ew_S) : op_pass x w 1 s = (0, (sp_h 0 x w s).1, (sp_h 0 x w s).2) := by
  unfold op_pass
  rw [if_pos ⟨⟨hx, hw⟩, by decide⟩]
  show (0, 0 + (sp_h 0 x w s).1, (sp_h 0 x w s).2) = _
  rw [Int32.zero_add]
/-- arrivals: as many more as the hour says -/
theorem arr_more {s s' : ew_S} {A : Nat → Int32} (I : (s 9 4 0).toNatClampNeg = 5) (I' : (s' 9 4 0).toNatClampNeg = 5) (h : ∀ j, j < 5 → hj_out s s' (A j) j) : sp_mv 4 s' = sp_mv 4 s + ef_sum A 5 := by
  show ef_sum (fun j => if s' 10 7 j = 3 then 1 else 0) (s' 9 4 0).toNatClampNeg = ef_sum (fun j => if s 10 7 j = 3 then 1 else 0) (s 9 4 0).toNatClampNeg + ef_sum A 5
  rw [I, I', ← ef_sum_add]
  refine ef_sum_cg _ _ 5 (fun j hj => ?_)
  obtain ⟨-, k⟩ := h j hj
  rcases k with ⟨a1, a2, a3, -⟩ | ⟨a1, g, -, k⟩
  · rw [if_pos a1, if_pos a3, a2]; rfl
  · rcases k with ⟨b1, b2, -⟩ | ⟨b1, b2, -⟩
    · rw [if_neg a1, if_pos b2, b1]; rfl
    · rw [if_neg a1, if_neg b2, b1]; rfl
section
variable {d : Nat} {s s' : ew_S} {m : ew_H} {K : ew_R → ew_H → Prop} {np T t ρ W i1 i2 i3 b : Nat} {told x w A now mny : Int32} {u7 u10 u11 u12 u13 u14 : Option ew_V}
theorem xv_besideT {a b : Int32} {h : ew_H} (e : ef_far a b = 1) (k : K (.inl (some (ew_i 1))) h) : ew_Call (d + 1) 221 [ew_i a, ew_i b] h K := xv_beside a b (by rw [if_pos e]; exact k)
theorem xl_pb (h : LI 2 5 np T t ρ told s) (hT : T ≤ 90000000) (ht : t ≤ 1000000) (hx : 0 ≤ x ∧ x ≤ 9) (hw : -1 ≤ w ∧ w ≤ 3)
    (k : ∀ A mny, ew_W (ew_Call (d + 6)) 224 K (212, [some (ew_o 11 0), some (ew_i x), some (ew_i w), some (ew_o 244 W), some (ew_o 625 i1), some (ew_o 657 i2), some (ew_o 689 i3), some (ew_i A), some (ew_i (s 9 5 0)), some (ew_i mny), some (ew_i 0), none, none, none, none], [], ew_hp (sp_h 0 x w s).2 m)) :
    ew_W (ew_Call (d + 6)) 224 K (159, [some (ew_o 11 0), some (ew_i x), some (ew_i w), some (ew_o 244 W), some (ew_o 625 i1), some (ew_o 657 i2), some (ew_o 689 i3), some (ew_i (ei 5)), none, none, none, none, none, none, none], [], ew_hp s m) := by
  have I := h.iv
  have h' := h.hour hT ht x w hx
  have I' := h'.iv
  obtain ⟨-, ⟨B, hB, hj⟩, -⟩ := hour_all I hT x w hx h.2.1.1
  have n4 : (s 9 4 0).toNatClampNeg = 5 := by rw [I.2.1.2.1]; decide
  have n4' : ((sp_h 0 x w s).2 9 4 0).toNatClampNeg = 5 := by rw [I'.2.1.2.1]; decide
  have e1 : ¬ ¬ (sp_h 0 x w s).2 9 5 0 = s 9 5 0 + 1 := fun z => z (by rw [h'.2.2.1, h.2.2.1, ei_1])
  have e2 : sp_mv 4 (sp_h 0 x w s).2 = sp_mv 4 s + (sp_h 0 x w s).1 := by rw [hB]; exact arr_more n4 n4' hj
  refine ew_go (fun pc => Nat.beq pc 180) 60 (xq_many I (w := 4) (by decide) rfl (xq_many I (w := 0) (by decide) rfl (xp_pass I hT x w 1 ?_)))
  rw [op_pass1 hx hw]
  exact ew_go (fun pc => Nat.beq pc 212) 60 (xq_many I' (w := 0) (by decide) rfl ⟨fun z => absurd z e1, fun _ => xq_many I' (w := 4) (by decide) rfl ⟨fun _ => k _ _, fun z => absurd e2 z⟩⟩)

/-- a breaker that stayed -/
theorem xl_bs (I : Iv 0 2 5 np T s') (hb : b < 2) (l1 : m.2.1 625 i1 = 2) (l2 : m.2.1 657 i2 = 2) (l3 : m.2.1 689 i3 = 2) (e1 : s' 3 1 b = s' 625 (ei b).toNatClampNeg i1) (e2 : s' 3 2 b = s' 689 (ei b).toNatClampNeg i3) (e3 : s' 3 3 b - s' 657 (ei b).toNatClampNeg i2 ≤ 1)
    (k : ew_W (ew_Call (d + 6)) 224 K (212, [some (ew_o 11 0), some (ew_i x), some (ew_i w), some (ew_o 244 W), some (ew_o 625 i1), some (ew_o 657 i2), some (ew_o 689 i3), some (ew_i A), some (ew_i now), some (ew_i mny), some (ew_i (ei b + 1)), some (ew_i 0), u12, u13, u14], [], ew_hp s' m)) : ew_W (ew_Call (d + 6)) 224 K (212, [some (ew_o 11 0), some (ew_i x), some (ew_i w), some (ew_o 244 W), some (ew_o 625 i1), some (ew_o 657 i2), some (ew_o 689 i3), some (ew_i A), some (ew_i now), some (ew_i mny), some (ew_i (ei b)), u11, u12, u13, u14], [], ew_hp s' m) := by
  have h2 : ¬ (2 : Int32) ≤ ei b := fun z => by
    have := (ei_le (a := 2) (by decide) (by omega)).mp z
    omega
  have x1 : ew_ix (ei b) (m.2.1 625 i1) := ei_ix (by omega) (by omega)
  have x2 : ew_ix (ei b) (m.2.1 657 i2) := ei_ix (by omega) (by omega)
  have x3 : ew_ix (ei b) (m.2.1 689 i3) := ei_ix (by omega) (by omega)
  have e2' : ¬ ¬ s' 3 2 b = s' 689 (ei b).toNatClampNeg i3 := fun z => z e2
  have n0 : ¬ ¬ (0 : Int32) = 0 := fun z => z rfl
  refine ew_go (fun pc => Nat.beq pc 240) 60 ⟨fun z => absurd z h2, fun _ => xq_bv I (Fr.rf _ _) hb (w := 0) (by decide) rfl rfl ⟨x1, ⟨fun _ => ?_, fun z => absurd e1 z⟩⟩⟩
  exact ew_go (fun pc => Nat.beq pc 212) 60 ⟨fun _ => ⟨fun z => absurd z n0, fun _ => xq_bv I (Fr.rf _ _) hb (w := 1) (by decide) rfl rfl ⟨x3, ⟨fun z => absurd z e2', fun _ => xq_bv I (Fr.rf _ _) hb (w := 5) (by decide) rfl rfl ⟨x2, ⟨fun _ => k, fun z => absurd e3 z⟩⟩⟩⟩⟩, fun z => absurd rfl z⟩
/-- a breaker that went -/
theorem xl_bg1 (I : Iv 0 2 5 np T s') (hb : b < 2) (l1 : m.2.1 625 i1 = 2) (e1 : ¬ s' 3 1 b = s' 625 (ei b).toNatClampNeg i1) (e4 : ef_far (s' 3 1 b) (s' 625 (ei b).toNatClampNeg i1) = 1)
    (k : ew_W (ew_Call (d + 6)) 224 K (263, [some (ew_o 11 0), some (ew_i x), some (ew_i w), some (ew_o 244 W), some (ew_o 625 i1), some (ew_o 657 i2), some (ew_o 689 i3), some (ew_i A), some (ew_i now), some (ew_i mny), some (ew_i (ei b)), some (ew_i 1), u12, u13, u14], [], ew_hp s' m)) : ew_W (ew_Call (d + 6)) 224 K (212, [some (ew_o 11 0), some (ew_i x), some (ew_i w), some (ew_o 244 W), some (ew_o 625 i1), some (ew_o 657 i2), some (ew_o 689 i3), some (ew_i A), some (ew_i now), some (ew_i mny), some (ew_i (ei b)), u11, u12, u13, u14], [], ew_hp s' m) := by
  have h2 : ¬ (2 : Int32) ≤ ei b := fun z => by
    have := (ei_le (a := 2) (by decide) (by omega)).mp z
    omega
  have x1 : ew_ix (ei b) (m.2.1 625 i1) := ei_ix (by omega) (by omega)
  have n1 : ¬ (1 : Int32) = 0 := by decide
  refine ew_go (fun pc => Nat.beq pc 240) 60 ⟨fun z => absurd z h2, fun _ => xq_bv I (Fr.rf _ _) hb (w := 0) (by decide) rfl rfl ⟨x1, ⟨fun z => absurd z e1, fun _ => ?_⟩⟩⟩
  exact ew_go (fun pc => Nat.beq pc 263) 60 ⟨fun z => absurd z n1, fun _ => xq_bv I (Fr.rf _ _) hb (w := 0) (by decide) rfl rfl ⟨x1, xv_besideT e4 ⟨fun z => absurd z n1, fun _ => k⟩⟩⟩
theorem xl_bg2 (I : Iv 0 2 5 np T s') (hb : b < 2) (l2 : m.2.1 657 i2 = 2) (l3 : m.2.1 689 i3 = 2) {c : Nat} (hc : c < 15) (ec : s' 3 1 b = ei c) (e2 : s' 4 2 c = 12) (e3 : ¬ s' 689 (ei b).toNatClampNeg i3 - 3 < s' 3 2 b) (e5 : s' 3 3 b = s' 657 (ei b).toNatClampNeg i2)
    (k : ew_W (ew_Call (d + 6)) 224 K (212, [some (ew_o 11 0), some (ew_i x), some (ew_i w), some (ew_o 244 W), some (ew_o 625 i1), some (ew_o 657 i2), some (ew_o 689 i3), some (ew_i A), some (ew_i now), some (ew_i mny), some (ew_i (ei b + 1)), some (ew_i 1), u12, u13, u14], [], ew_hp s' m)) : ew_W (ew_Call (d + 6)) 224 K (263, [some (ew_o 11 0), some (ew_i x), some (ew_i w), some (ew_o 244 W), some (ew_o 625 i1), some (ew_o 657 i2), some (ew_o 689 i3), some (ew_i A), some (ew_i now), some (ew_i mny), some (ew_i (ei b)), some (ew_i 1), u12, u13, u14], [], ew_hp s' m) := by
  have x2 : ew_ix (ei b) (m.2.1 657 i2) := ei_ix (by omega) (by omega)
  have x3 : ew_ix (ei b) (m.2.1 689 i3) := ei_ix (by omega) (by omega)
  have e2' : ¬ ¬ s' 4 2 c = 12 := fun z => z e2
  have n1 : ¬ (1 : Int32) = 0 := by decide
  refine ew_go (fun pc => Nat.beq pc 280) 60 (xq_bv I (Fr.rf _ _) hb (w := 0) (by decide) rfl rfl (xq_ofCell I hc (w := 2) (by decide) ec rfl ⟨fun z => absurd z e2', fun _ => ?_⟩))
  exact ew_go (fun pc => Nat.beq pc 212) 60 (xq_bv I (Fr.rf _ _) hb (w := 1) (by decide) rfl rfl ⟨x3, ⟨fun z => absurd z e3, fun _ => xq_bv I (Fr.rf _ _) hb (w := 5) (by decide) rfl rfl ⟨x2, ⟨fun _ => ⟨fun _ => k, fun z => absurd n1 z⟩, fun z => absurd e5 z⟩⟩⟩⟩)

/-- what the arrays of before say of breaker b -/
def BV (i1 i2 i3 : Nat) (s s' : ew_S) (b : Nat) : Prop := s' 625 b i1 = s 3 1 b ∧ s' 657 b i2 = s 3 3 b ∧ s' 689 b i3 = s 3 2 b
theorem ei_fuel {f : Int32} {n : Nat} (hn : n ≤ 1000000000) (h : 3 + ei n / 30 ≤ f) : ¬ f - 3 < f - (3 + ei n / 30) := by
  have e : ei n / 30 = ei (n / 30) := ei_divn (n := 30) (by omega) (by decide) (by decide)
  have e3 : (3 : Int32) + ei (n / 30) = ei (3 + n / 30) := ei_add 3 (n / 30)
  rw [e, e3] at h ⊢
  have h0 : ¬ f < 0 := fun z => by
    have h1 := Int32.le_iff_toInt_le.mp h
    have h2 := Int32.lt_iff_toInt_lt.mp z
    rw [ei_int (by omega)] at h1
    have e0 : (0 : Int32).toInt = 0 := rfl
    omega
  have ef := ei_of h0
  have hf : f.toNatClampNeg < 2147483648 := by
    have h1 := Int32.toInt_lt f
    show f.toInt.toNat < _
    omega
  rw [ef] at h ⊢
  have h2 := (ei_le (by omega) hf).mp h
  rw [show (3 : Int32) = ei 3 from rfl, ei_sub (by omega), ei_sub h2, ei_lt (by omega) (by omega)]
  omega
theorem xl_b1 (I : Iv 0 2 5 np T s') (hb : b < 2) (l1 : m.2.1 625 i1 = 2) (l2 : m.2.1 657 i2 = 2) (l3 : m.2.1 689 i3 = 2) (v : BV i1 i2 i3 s s' b) (o : hb_two s s' b)
    (k : ∀ g, ew_W (ew_Call (d + 6)) 224 K (212, [some (ew_o 11 0), some (ew_i x), some (ew_i w), some (ew_o 244 W), some (ew_o 625 i1), some (ew_o 657 i2), some (ew_o 689 i3), some (ew_i A), some (ew_i now), some (ew_i mny), some (ew_i (ei b + 1)), some (ew_i g), u12, u13, u14], [], ew_hp s' m)) : ew_W (ew_Call (d + 6)) 224 K (212, [some (ew_o 11 0), some (ew_i x), some (ew_i w), some (ew_o 244 W), some (ew_o 625 i1), some (ew_o 657 i2), some (ew_o 689 i3), some (ew_i A), some (ew_i now), some (ew_i mny), some (ew_i (ei b)), u11, u12, u13, u14], [], ew_hp s' m) := by
  obtain ⟨v1, v2, v3⟩ := v
  have eb : (ei b).toNatClampNeg = b := ei_nat (by omega)
  rcases o with ⟨a1, a2, a3, -⟩ | ⟨c, c', n, b1, b2, b3, b4, b5, b6, b7, b8, b9, -, b11⟩
  · refine xl_bs I hb l1 l2 l3 (by rw [eb, v1]; exact a1) (by rw [eb, v3]; exact a2) ?_ (k 0)
    rw [eb, v2]
    rcases a3 with a3 | a3
    · rw [a3, Int32.sub_self]; decide
    · rw [a3, Int32.add_comm, Int32.add_sub_cancel]; decide
  · obtain ⟨f1, f2⟩ := ef_far_0 c b1 c' b2 b6
    refine xl_bg1 I hb l1 (by rw [eb, v1, b4, b5]; exact f1) (by rw [eb, v1, b4, b5]; exact f2) (xl_bg2 I hb l2 l3 b2 b5 b11 ?_ (by rw [eb, v2]; exact b9) (k 1))
    rw [eb, v3, b8]
    exact ei_fuel b3 b7
theorem xl_b2 (I : Iv 0 2 5 np T s') (l1 : m.2.1 625 i1 = 2) (l2 : m.2.1 657 i2 = 2) (l3 : m.2.1 689 i3 = 2) (v : ∀ b, b < 2 → BV i1 i2 i3 s s' b) (o : ∀ b, b < 2 → hb_two s s' b)
    (k : ∀ g, ew_W (ew_Call (d + 6)) 224 K (362, [some (ew_o 11 0), some (ew_i x), some (ew_i w), some (ew_o 244 W), some (ew_o 625 i1), some (ew_o 657 i2), some (ew_o 689 i3), some (ew_i A), some (ew_i now), some (ew_i mny), some (ew_i 0), some (ew_i g), u12, u13, u14], [], ew_hp s' m)) : ew_W (ew_Call (d + 6)) 224 K (212, [some (ew_o 11 0), some (ew_i x), some (ew_i w), some (ew_o 244 W), some (ew_o 625 i1), some (ew_o 657 i2), some (ew_o 689 i3), some (ew_i A), some (ew_i now), some (ew_i mny), some (ew_i 0), u11, u12, u13, u14], [], ew_hp s' m) := by
  refine xl_b1 (b := 0) I (by decide) l1 l2 l3 (v 0 (by decide)) (o 0 (by decide)) (fun g => ?_)
  refine xl_b1 (b := 1) I (by decide) l1 l2 l3 (v 1 (by decide)) (o 1 (by decide)) (fun g => ?_)
  exact ew_go (fun pc => Nat.beq pc 362) 60 ⟨fun _ => k g, fun z => absurd (show (2 : Int32) ≤ ei 1 + 1 by decide) z⟩
end
