/-! The law's loop: what is asked. -/
section
variable {d : Nat} {s s1 : ew_S} {m m1 : ew_H} {K : ew_R → ew_H → Prop} {L c0 d0 nb ns np n T : Nat} {β σ : Nat → Nat} {ρ : Nat → Nat → Nat} {u5 u6 u7 u8 : Option ew_V} {c v : Int32} 
theorem lw_ofCell1 {o : ew_A2} (A : LA L c0 d0 nb ns np n β σ ρ s m) (D : MD m m1) (F : Fr Pct s s1) (ho : o = vo_ofCell (s 17 (ei (5 * n) + 1).toNatClampNeg 0) (s 17 (ei (5 * n) + 2).toNatClampNeg 0) s) (hc : c = ei ((fun n => n) o.1)) (hV : c = 0 → m1.1 19 0 0 = ew_j o.2.toInt64) (k : LK d K L c0 d0 n) : ew_W (ew_Call (d + 9)) 242 K (1140, [some (ew_o 17 0), some (ew_o 11 0), some (ew_o 16 0), some (ew_o 19 0), some (ew_i (ei (5 * n))), u5, u6, u7, u8], [ew_i c], ew_hp s1 m1) := by
  obtain ⟨⟨R, ⟨h16, h13⟩, ⟨u, l⟩, t, ht, hT⟩, W, hn, hi, hL⟩ := A
  have h5 := R.2.1.1
  have U := ul_pt u l (by omega) F
  have e17 : s1 17 = s 17 := U.1.k rfl
  rw [← e17] at ho
  have R1 := (R.cs U.1).ms D.1 D.2.2.1 D.2.2.2.1
  have g16 : m1.2.2.1 16 0 = true := by
    rw [D.2.2.1]
    exact h16
  have g13 : m1.2.2.2.1 13 = np := by
    rw [D.2.2.2.1]
    exact h13
  have ix1 := W.ix (m1 := m1) hi hL 1 (by decide) D.2.1
  have ix2 := W.ix (m1 := m1) hi hL 2 (by decide) D.2.1
  have fin : ∀ (s' : ew_S) (m' : ew_H), R0 nb ns np (3540 * n) β σ ρ s s' m' → Ex P6 1 s1 m1 s' m' → s' 16 0 0 = ei ((fun n => n) o.1) → ew_e17 (ew_hp s1 m1) (ew_hp s' m') → ew_e13 (ew_hp s1 m1) (ew_hp s' m') → ew_W (ew_Call (d + 9)) 242 K (1158, [some (ew_o 17 0), some (ew_o 11 0), some (ew_o 16 0), some (ew_o 19 0), some (ew_i (ei (5 * n))), some (ew_i c), u6, u7, u8], [ew_i o.2], ew_hp s' m') := fun s' m' R' E e x17 x13 =>
    lt_ofCell (e.trans hc.symm) (fun z => by rw [(E.1 19 rfl).2]; exact hV z) (lw_next k (MI.next g16 rfl (R'.pt F) (by omega) E (Eq.trans x13 g13) U.2.1 U.2.2.1 (show t ≤ 24 * (n + 1) by omega) (U.2.2.2.trans hT)) (W.next (m1 := m1) (by rw [D.2.1]) D.2.2.2.2.1 D.2.2.2.2.2 E (by decide) x17))
  subst ho
  exact ew_go (fun pc => Nat.beq pc 1158) 40 ⟨ix1, ix2, ew_c13 (by decide) (by decide) (ew_c17 (xw_ofCell R1 g16 _ _ (fun s' m' R' E e x17 x13 => fin s' m' R' E e x17 x13)))⟩
theorem lw_ofCell (A : LA L c0 d0 nb ns np n β σ ρ s m) (k : LK d K L c0 d0 n) : ew_W (ew_Call (d + 9)) 242 K (1123, [some (ew_o 17 0), some (ew_o 11 0), some (ew_o 16 0), some (ew_o 19 0), some (ew_i (ei (5 * n))), u5, u6, u7, u8], [], ew_hp s m) := by
  have A0 := A
  obtain ⟨⟨R, ⟨h16, h13⟩, ⟨u, l⟩, t, ht, hT⟩, W, hn, hi, hL⟩ := A0
  have ix1 := W.ix (m1 := m) hi hL 1 (by decide) rfl
  have ix2 := W.ix (m1 := m) hi hL 2 (by decide) rfl
  have h3 := cd12_3 _ (cc_ofCell (s 17 (ei (5 * n) + 1).toNatClampNeg 0) (s 17 (ei (5 * n) + 2).toNatClampNeg 0) s)
  have fin : ∀ m1 c, MD m m1 → c = ei ((fun n => n) (vo_ofCell (s 17 (ei (5 * n) + 1).toNatClampNeg 0) (s 17 (ei (5 * n) + 2).toNatClampNeg 0) s).1) → (c = 0 → m1.1 19 0 0 = ew_j (vo_ofCell (s 17 (ei (5 * n) + 1).toNatClampNeg 0) (s 17 (ei (5 * n) + 2).toNatClampNeg 0) s).2.toInt64) → ew_W (ew_Call (d + 9)) 242 K (1140, [some (ew_o 17 0), some (ew_o 11 0), some (ew_o 16 0), some (ew_o 19 0), some (ew_i (ei (5 * n))), u5, u6, u7, u8], [ew_i c], ew_hp s m1) := fun m1 c D hc hV => lw_ofCell1 A D (Fr.rf _ _) rfl hc hV k
  exact ew_go (fun pc => Nat.beq pc 1140) 40 ⟨ix1, ix2, xv_ofCell R.2.1 _ _ (KV.md rfl (Nat.lt_of_le_of_lt h3 (by decide)) fin)⟩
theorem lw_ofBreaker1 {o : ew_A2} (A : LA L c0 d0 nb ns np n β σ ρ s m) (D : MD m m1) (F : Fr Pct s s1) (ho : o = vo_ofBreaker (s 17 (ei (5 * n) + 1).toNatClampNeg 0) (s 17 (ei (5 * n) + 2).toNatClampNeg 0) s) (hc : c = ei ((fun n => n) o.1)) (hV : c = 0 → m1.1 19 0 0 = ew_j o.2.toInt64) (k : LK d K L c0 d0 n) : ew_W (ew_Call (d + 9)) 242 K (1208, [some (ew_o 17 0), some (ew_o 11 0), some (ew_o 16 0), some (ew_o 19 0), some (ew_i (ei (5 * n))), u5, u6, u7, u8], [ew_i c], ew_hp s1 m1) := by
  obtain ⟨⟨R, ⟨h16, h13⟩, ⟨u, l⟩, t, ht, hT⟩, W, hn, hi, hL⟩ := A
  have h5 := R.2.1.1
  have U := ul_pt u l (by omega) F
  have e17 : s1 17 = s 17 := U.1.k rfl
  rw [← e17] at ho
  have R1 := (R.cs U.1).ms D.1 D.2.2.1 D.2.2.2.1
  have g16 : m1.2.2.1 16 0 = true := by
    rw [D.2.2.1]
    exact h16
  have g13 : m1.2.2.2.1 13 = np := by
    rw [D.2.2.2.1]
    exact h13
  have ix1 := W.ix (m1 := m1) hi hL 1 (by decide) D.2.1
  have ix2 := W.ix (m1 := m1) hi hL 2 (by decide) D.2.1
  have fin : ∀ (s' : ew_S) (m' : ew_H), R0 nb ns np (3540 * n) β σ ρ s s' m' → Ex P6 1 s1 m1 s' m' → s' 16 0 0 = ei ((fun n => n) o.1) → ew_e17 (ew_hp s1 m1) (ew_hp s' m') → ew_e13 (ew_hp s1 m1) (ew_hp s' m') → ew_W (ew_Call (d + 9)) 242 K (1226, [some (ew_o 17 0), some (ew_o 11 0), some (ew_o 16 0), some (ew_o 19 0), some (ew_i (ei (5 * n))), some (ew_i c), u6, u7, u8], [ew_i o.2], ew_hp s' m') := fun s' m' R' E e x17 x13 =>
    lt_ofBreaker (e.trans hc.symm) (fun z => by rw [(E.1 19 rfl).2]; exact hV z) (lw_next k (MI.next g16 rfl (R'.pt F) (by omega) E (Eq.trans x13 g13) U.2.1 U.2.2.1 (show t ≤ 24 * (n + 1) by omega) (U.2.2.2.trans hT)) (W.next (m1 := m1) (by rw [D.2.1]) D.2.2.2.2.1 D.2.2.2.2.2 E (by decide) x17))
  subst ho
  exact ew_go (fun pc => Nat.beq pc 1226) 40 ⟨ix1, ix2, ew_c13 (by decide) (by decide) (ew_c17 (xw_ofBreaker R1 g16 _ _ (fun s' m' R' E e x17 x13 => fin s' m' R' E e x17 x13)))⟩
theorem lw_ofBreaker (A : LA L c0 d0 nb ns np n β σ ρ s m) (k : LK d K L c0 d0 n) : ew_W (ew_Call (d + 9)) 242 K (1191, [some (ew_o 17 0), some (ew_o 11 0), some (ew_o 16 0), some (ew_o 19 0), some (ew_i (ei (5 * n))), u5, u6, u7, u8], [], ew_hp s m) := by
  have A0 := A
  obtain ⟨⟨R, ⟨h16, h13⟩, ⟨u, l⟩, t, ht, hT⟩, W, hn, hi, hL⟩ := A0
  have ix1 := W.ix (m1 := m) hi hL 1 (by decide) rfl
  have ix2 := W.ix (m1 := m) hi hL 2 (by decide) rfl
  have h3 := cd12_3 _ (cc_ofBreaker (s 17 (ei (5 * n) + 1).toNatClampNeg 0) (s 17 (ei (5 * n) + 2).toNatClampNeg 0) s)
  have fin : ∀ m1 c, MD m m1 → c = ei ((fun n => n) (vo_ofBreaker (s 17 (ei (5 * n) + 1).toNatClampNeg 0) (s 17 (ei (5 * n) + 2).toNatClampNeg 0) s).1) → (c = 0 → m1.1 19 0 0 = ew_j (vo_ofBreaker (s 17 (ei (5 * n) + 1).toNatClampNeg 0) (s 17 (ei (5 * n) + 2).toNatClampNeg 0) s).2.toInt64) → ew_W (ew_Call (d + 9)) 242 K (1208, [some (ew_o 17 0), some (ew_o 11 0), some (ew_o 16 0), some (ew_o 19 0), some (ew_i (ei (5 * n))), u5, u6, u7, u8], [ew_i c], ew_hp s m1) := fun m1 c D hc hV => lw_ofBreaker1 A D (Fr.rf _ _) rfl hc hV k
  exact ew_go (fun pc => Nat.beq pc 1208) 40 ⟨ix1, ix2, xv_ofBreaker R.2.1 _ _ (KV.md rfl (Nat.lt_of_le_of_lt h3 (by decide)) fin)⟩
theorem lw_ofShip1 {o : ew_A2} (A : LA L c0 d0 nb ns np n β σ ρ s m) (D : MD m m1) (F : Fr Pct s s1) (ho : o = vo_ofShip (s 17 (ei (5 * n) + 1).toNatClampNeg 0) (s 17 (ei (5 * n) + 2).toNatClampNeg 0) s) (hc : c = ei ((fun n => n) o.1)) (hV : c = 0 → m1.1 19 0 0 = ew_j o.2.toInt64) (k : LK d K L c0 d0 n) : ew_W (ew_Call (d + 9)) 242 K (1276, [some (ew_o 17 0), some (ew_o 11 0), some (ew_o 16 0), some (ew_o 19 0), some (ew_i (ei (5 * n))), u5, u6, u7, u8], [ew_i c], ew_hp s1 m1) := by
  obtain ⟨⟨R, ⟨h16, h13⟩, ⟨u, l⟩, t, ht, hT⟩, W, hn, hi, hL⟩ := A
  have h5 := R.2.1.1
  have U := ul_pt u l (by omega) F
  have e17 : s1 17 = s 17 := U.1.k rfl
  rw [← e17] at ho
  have R1 := (R.cs U.1).ms D.1 D.2.2.1 D.2.2.2.1
  have g16 : m1.2.2.1 16 0 = true := by
    rw [D.2.2.1]
    exact h16
  have g13 : m1.2.2.2.1 13 = np := by
    rw [D.2.2.2.1]
    exact h13
  have ix1 := W.ix (m1 := m1) hi hL 1 (by decide) D.2.1
  have ix2 := W.ix (m1 := m1) hi hL 2 (by decide) D.2.1
  have fin : ∀ (s' : ew_S) (m' : ew_H), R0 nb ns np (3540 * n) β σ ρ s s' m' → Ex P6 1 s1 m1 s' m' → s' 16 0 0 = ei ((fun n => n) o.1) → ew_e17 (ew_hp s1 m1) (ew_hp s' m') → ew_e13 (ew_hp s1 m1) (ew_hp s' m') → ew_W (ew_Call (d + 9)) 242 K (1294, [some (ew_o 17 0), some (ew_o 11 0), some (ew_o 16 0), some (ew_o 19 0), some (ew_i (ei (5 * n))), some (ew_i c), u6, u7, u8], [ew_i o.2], ew_hp s' m') := fun s' m' R' E e x17 x13 =>
    lt_ofShip (e.trans hc.symm) (fun z => by rw [(E.1 19 rfl).2]; exact hV z) (lw_next k (MI.next g16 rfl (R'.pt F) (by omega) E (Eq.trans x13 g13) U.2.1 U.2.2.1 (show t ≤ 24 * (n + 1) by omega) (U.2.2.2.trans hT)) (W.next (m1 := m1) (by rw [D.2.1]) D.2.2.2.2.1 D.2.2.2.2.2 E (by decide) x17))
  subst ho
  exact ew_go (fun pc => Nat.beq pc 1294) 40 ⟨ix1, ix2, ew_c13 (by decide) (by decide) (ew_c17 (xw_ofShip R1 g16 _ _ (fun s' m' R' E e x17 x13 => fin s' m' R' E e x17 x13)))⟩
theorem lw_ofShip (A : LA L c0 d0 nb ns np n β σ ρ s m) (k : LK d K L c0 d0 n) : ew_W (ew_Call (d + 9)) 242 K (1259, [some (ew_o 17 0), some (ew_o 11 0), some (ew_o 16 0), some (ew_o 19 0), some (ew_i (ei (5 * n))), u5, u6, u7, u8], [], ew_hp s m) := by
  have A0 := A
  obtain ⟨⟨R, ⟨h16, h13⟩, ⟨u, l⟩, t, ht, hT⟩, W, hn, hi, hL⟩ := A0
  have ix1 := W.ix (m1 := m) hi hL 1 (by decide) rfl
  have ix2 := W.ix (m1 := m) hi hL 2 (by decide) rfl
  have h3 := cd12_3 _ (cc_ofShip (s 17 (ei (5 * n) + 1).toNatClampNeg 0) (s 17 (ei (5 * n) + 2).toNatClampNeg 0) s)
  have fin : ∀ m1 c, MD m m1 → c = ei ((fun n => n) (vo_ofShip (s 17 (ei (5 * n) + 1).toNatClampNeg 0) (s 17 (ei (5 * n) + 2).toNatClampNeg 0) s).1) → (c = 0 → m1.1 19 0 0 = ew_j (vo_ofShip (s 17 (ei (5 * n) + 1).toNatClampNeg 0) (s 17 (ei (5 * n) + 2).toNatClampNeg 0) s).2.toInt64) → ew_W (ew_Call (d + 9)) 242 K (1276, [some (ew_o 17 0), some (ew_o 11 0), some (ew_o 16 0), some (ew_o 19 0), some (ew_i (ei (5 * n))), u5, u6, u7, u8], [ew_i c], ew_hp s m1) := fun m1 c D hc hV => lw_ofShip1 A D (Fr.rf _ _) rfl hc hV k
  exact ew_go (fun pc => Nat.beq pc 1276) 40 ⟨ix1, ix2, xv_ofShip R.2.1 _ _ (KV.md rfl (Nat.lt_of_le_of_lt h3 (by decide)) fin)⟩
theorem lw_inForce1 {o : ew_A2} (A : LA L c0 d0 nb ns np n β σ ρ s m) (D : MD m m1) (F : Fr Pct s s1) (ho : o = vo_inForce (s 17 (ei (5 * n) + 1).toNatClampNeg 0) (s 17 (ei (5 * n) + 2).toNatClampNeg 0) s) (hc : c = ei ((fun n => n) o.1)) (hV : c = 0 → m1.1 19 0 0 = ew_j o.2.toInt64) (k : LK d K L c0 d0 n) : ew_W (ew_Call (d + 9)) 242 K (1344, [some (ew_o 17 0), some (ew_o 11 0), some (ew_o 16 0), some (ew_o 19 0), some (ew_i (ei (5 * n))), u5, u6, u7, u8], [ew_i c], ew_hp s1 m1) := by
  obtain ⟨⟨R, ⟨h16, h13⟩, ⟨u, l⟩, t, ht, hT⟩, W, hn, hi, hL⟩ := A
  have h5 := R.2.1.1
  have U := ul_pt u l (by omega) F
  have e17 : s1 17 = s 17 := U.1.k rfl
  rw [← e17] at ho
  have R1 := (R.cs U.1).ms D.1 D.2.2.1 D.2.2.2.1
  have g16 : m1.2.2.1 16 0 = true := by
    rw [D.2.2.1]
    exact h16
  have g13 : m1.2.2.2.1 13 = np := by
    rw [D.2.2.2.1]
    exact h13
  have ix1 := W.ix (m1 := m1) hi hL 1 (by decide) D.2.1
  have ix2 := W.ix (m1 := m1) hi hL 2 (by decide) D.2.1
  have fin : ∀ (s' : ew_S) (m' : ew_H), R0 nb ns np (3540 * n) β σ ρ s s' m' → Ex P6 0 s1 m1 s' m' → s' 16 0 0 = ei ((fun n => n) o.1) → ew_e17 (ew_hp s1 m1) (ew_hp s' m') → ew_e13 (ew_hp s1 m1) (ew_hp s' m') → ew_W (ew_Call (d + 9)) 242 K (1362, [some (ew_o 17 0), some (ew_o 11 0), some (ew_o 16 0), some (ew_o 19 0), some (ew_i (ei (5 * n))), some (ew_i c), u6, u7, u8], [ew_i o.2], ew_hp s' m') := fun s' m' R' E e x17 x13 =>
    lt_inForce (e.trans hc.symm) (fun z => by rw [(E.1 19 rfl).2]; exact hV z) (lw_next k (MI.next g16 rfl (R'.pt F) (by omega) E (Eq.trans x13 g13) U.2.1 U.2.2.1 (show t ≤ 24 * (n + 1) by omega) (U.2.2.2.trans hT)) (W.next (m1 := m1) (by rw [D.2.1]) D.2.2.2.2.1 D.2.2.2.2.2 E (by decide) x17))
  subst ho
  exact ew_go (fun pc => Nat.beq pc 1362) 40 ⟨ix1, ix2, ew_c13 (by decide) (by decide) (ew_c17 (xw_inForce R1  _ _ (fun s' m' R' E e x17 x13 => fin s' m' R' E e x17 x13)))⟩
theorem lw_inForce (A : LA L c0 d0 nb ns np n β σ ρ s m) (k : LK d K L c0 d0 n) : ew_W (ew_Call (d + 9)) 242 K (1327, [some (ew_o 17 0), some (ew_o 11 0), some (ew_o 16 0), some (ew_o 19 0), some (ew_i (ei (5 * n))), u5, u6, u7, u8], [], ew_hp s m) := by
  have A0 := A
  obtain ⟨⟨R, ⟨h16, h13⟩, ⟨u, l⟩, t, ht, hT⟩, W, hn, hi, hL⟩ := A0
  have ix1 := W.ix (m1 := m) hi hL 1 (by decide) rfl
  have ix2 := W.ix (m1 := m) hi hL 2 (by decide) rfl
  have h3 := cd12_3 _ (cc_inForce (s 17 (ei (5 * n) + 1).toNatClampNeg 0) (s 17 (ei (5 * n) + 2).toNatClampNeg 0) s)
  have fin : ∀ m1 c, MD m m1 → c = ei ((fun n => n) (vo_inForce (s 17 (ei (5 * n) + 1).toNatClampNeg 0) (s 17 (ei (5 * n) + 2).toNatClampNeg 0) s).1) → (c = 0 → m1.1 19 0 0 = ew_j (vo_inForce (s 17 (ei (5 * n) + 1).toNatClampNeg 0) (s 17 (ei (5 * n) + 2).toNatClampNeg 0) s).2.toInt64) → ew_W (ew_Call (d + 9)) 242 K (1344, [some (ew_o 17 0), some (ew_o 11 0), some (ew_o 16 0), some (ew_o 19 0), some (ew_i (ei (5 * n))), u5, u6, u7, u8], [ew_i c], ew_hp s m1) := fun m1 c D hc hV => lw_inForce1 A D (Fr.rf _ _) rfl hc hV k
  exact ew_go (fun pc => Nat.beq pc 1344) 40 ⟨ix1, ix2, xv_inForce R.2.1 _ _ (KV.md rfl (Nat.lt_of_le_of_lt h3 (by decide)) fin)⟩
theorem lw_many1 {o : ew_A2} (A : LA L c0 d0 nb ns np n β σ ρ s m) (D : MD m m1) (F : Fr Pct s s1) (ho : o = vo_many (s 17 (ei (5 * n) + 1).toNatClampNeg 0) s) (hc : c = ei (ef_ps o.1)) (hV : c = 0 → m1.1 19 0 0 = ew_j o.2.toInt64) (k : LK d K L c0 d0 n) : ew_W (ew_Call (d + 9)) 242 K (1406, [some (ew_o 17 0), some (ew_o 11 0), some (ew_o 16 0), some (ew_o 19 0), some (ew_i (ei (5 * n))), u5, u6, u7, u8], [ew_i c], ew_hp s1 m1) := by
  obtain ⟨⟨R, ⟨h16, h13⟩, ⟨u, l⟩, t, ht, hT⟩, W, hn, hi, hL⟩ := A
  have h5 := R.2.1.1
  have U := ul_pt u l (by omega) F
  have e17 : s1 17 = s 17 := U.1.k rfl
  rw [← e17] at ho
  have R1 := (R.cs U.1).ms D.1 D.2.2.1 D.2.2.2.1
  have g16 : m1.2.2.1 16 0 = true := by
    rw [D.2.2.1]
    exact h16
  have g13 : m1.2.2.2.1 13 = np := by
    rw [D.2.2.2.1]
    exact h13
  have ix1 := W.ix (m1 := m1) hi hL 1 (by decide) D.2.1
  have fin : ∀ (s' : ew_S) (m' : ew_H), R0 nb ns np (3540 * n) β σ ρ s s' m' → Ex P6 3 s1 m1 s' m' → s' 16 0 0 = ei (ef_ps o.1) → ew_e17 (ew_hp s1 m1) (ew_hp s' m') → ew_e13 (ew_hp s1 m1) (ew_hp s' m') → ew_W (ew_Call (d + 9)) 242 K (1418, [some (ew_o 17 0), some (ew_o 11 0), some (ew_o 16 0), some (ew_o 19 0), some (ew_i (ei (5 * n))), some (ew_i c), u6, u7, u8], [ew_i o.2], ew_hp s' m') := fun s' m' R' E e x17 x13 =>
    lt_many (e.trans hc.symm) (fun z => by rw [(E.1 19 rfl).2]; exact hV z) (lw_next k (MI.next g16 rfl (R'.pt F) (by omega) E (Eq.trans x13 g13) U.2.1 U.2.2.1 (show t ≤ 24 * (n + 1) by omega) (U.2.2.2.trans hT)) (W.next (m1 := m1) (by rw [D.2.1]) D.2.2.2.2.1 D.2.2.2.2.2 E (by decide) x17))
  have key : ∀ w : Int32, o = vo_many w s → (if 0 ≤ w ∧ w ≤ 10 then ((0, sp_mv w s) : ew_A2) else (1, 0)) = (ef_ps o.1, o.2) := fun w e => by
    rw [e]
    unfold vo_many
    by_cases q : 0 ≤ w ∧ w ≤ 10
    · rw [if_pos q, if_pos q]; rfl
    · rw [if_neg q, if_neg q]; rfl
  have key := key _ ho
  exact ew_go (fun pc => Nat.beq pc 1418) 40 ⟨ix1, ew_c13 (by decide) (by decide) (ew_c17 (xw_many R1 g16 _ (by
    rw [key]
    exact fun s' m' R' E e x17 x13 => fin s' m' R' E e x17 x13)))⟩
theorem lw_many (A : LA L c0 d0 nb ns np n β σ ρ s m) (k : LK d K L c0 d0 n) : ew_W (ew_Call (d + 9)) 242 K (1395, [some (ew_o 17 0), some (ew_o 11 0), some (ew_o 16 0), some (ew_o 19 0), some (ew_i (ei (5 * n))), u5, u6, u7, u8], [], ew_hp s m) := by
  have A0 := A
  obtain ⟨⟨R, ⟨h16, h13⟩, ⟨u, l⟩, t, ht, hT⟩, W, hn, hi, hL⟩ := A0
  have ix1 := W.ix (m1 := m) hi hL 1 (by decide) rfl
  have h3 := cd2_3 _ (cc_many (s 17 (ei (5 * n) + 1).toNatClampNeg 0) s)
  have fin : ∀ m1 c, MD m m1 → c = ei (ef_ps (vo_many (s 17 (ei (5 * n) + 1).toNatClampNeg 0) s).1) → (c = 0 → m1.1 19 0 0 = ew_j (vo_many (s 17 (ei (5 * n) + 1).toNatClampNeg 0) s).2.toInt64) → ew_W (ew_Call (d + 9)) 242 K (1406, [some (ew_o 17 0), some (ew_o 11 0), some (ew_o 16 0), some (ew_o 19 0), some (ew_i (ei (5 * n))), u5, u6, u7, u8], [ew_i c], ew_hp s m1) := fun m1 c D hc hV => lw_many1 A D (Fr.rf _ _) rfl hc hV k
  exact ew_go (fun pc => Nat.beq pc 1406) 40 ⟨ix1, xv_many R.2.1 _ (KV.md rfl (ef_ps_lt h3) fin)⟩
theorem lw_way1 {o : ew_A2} (A : LA L c0 d0 nb ns np n β σ ρ s m) (D : MD m m1) (F : Fr Pct s s1) (ho : o = vo_way (s 17 (ei (5 * n) + 1).toNatClampNeg 0) (s 17 (ei (5 * n) + 2).toNatClampNeg 0) s) (hc : c = ei ((fun n => n) o.1)) (hV : c = 0 → m1.1 19 0 0 = ew_j o.2.toInt64) (k : LK d K L c0 d0 n) : ew_W (ew_Call (d + 9)) 242 K (1509, [some (ew_o 17 0), some (ew_o 11 0), some (ew_o 16 0), some (ew_o 19 0), some (ew_i (ei (5 * n))), u5, u6, u7, u8], [ew_i c], ew_hp s1 m1) := by
  obtain ⟨⟨R, ⟨h16, h13⟩, ⟨u, l⟩, t, ht, hT⟩, W, hn, hi, hL⟩ := A
  have h5 := R.2.1.1
  have U := ul_pt u l (by omega) F
  have e17 : s1 17 = s 17 := U.1.k rfl
  rw [← e17] at ho
  have R1 := (R.cs U.1).ms D.1 D.2.2.1 D.2.2.2.1
  have g16 : m1.2.2.1 16 0 = true := by
    rw [D.2.2.1]
    exact h16
  have g13 : m1.2.2.2.1 13 = np := by
    rw [D.2.2.2.1]
    exact h13
  have ix1 := W.ix (m1 := m1) hi hL 1 (by decide) D.2.1
  have ix2 := W.ix (m1 := m1) hi hL 2 (by decide) D.2.1
  have fin : ∀ (s' : ew_S) (m' : ew_H), R0 nb ns np (3540 * n) β σ ρ s s' m' → Ex P6 1 s1 m1 s' m' → s' 16 0 0 = ei ((fun n => n) o.1) → ew_e17 (ew_hp s1 m1) (ew_hp s' m') → ew_e13 (ew_hp s1 m1) (ew_hp s' m') → ew_W (ew_Call (d + 9)) 242 K (1527, [some (ew_o 17 0), some (ew_o 11 0), some (ew_o 16 0), some (ew_o 19 0), some (ew_i (ei (5 * n))), some (ew_i c), u6, u7, u8], [ew_i o.2], ew_hp s' m') := fun s' m' R' E e x17 x13 =>
    lt_way (e.trans hc.symm) (fun z => by rw [(E.1 19 rfl).2]; exact hV z) (lw_next k (MI.next g16 rfl (R'.pt F) (by omega) E (Eq.trans x13 g13) U.2.1 U.2.2.1 (show t ≤ 24 * (n + 1) by omega) (U.2.2.2.trans hT)) (W.next (m1 := m1) (by rw [D.2.1]) D.2.2.2.2.1 D.2.2.2.2.2 E (by decide) x17))
  subst ho
  exact ew_go (fun pc => Nat.beq pc 1527) 40 ⟨ix1, ix2, ew_c13 (by decide) (by decide) (ew_c17 (xw_way R1 g16 _ _ (fun s' m' R' E e x17 x13 => fin s' m' R' E e x17 x13)))⟩
theorem lw_way (A : LA L c0 d0 nb ns np n β σ ρ s m) (k : LK d K L c0 d0 n) : ew_W (ew_Call (d + 9)) 242 K (1492, [some (ew_o 17 0), some (ew_o 11 0), some (ew_o 16 0), some (ew_o 19 0), some (ew_i (ei (5 * n))), u5, u6, u7, u8], [], ew_hp s m) := by
  have A0 := A
  obtain ⟨⟨R, ⟨h16, h13⟩, ⟨u, l⟩, t, ht, hT⟩, W, hn, hi, hL⟩ := A0
  have ix1 := W.ix (m1 := m) hi hL 1 (by decide) rfl
  have ix2 := W.ix (m1 := m) hi hL 2 (by decide) rfl
  have h3 := cd1_3 _ (cc_way (s 17 (ei (5 * n) + 1).toNatClampNeg 0) (s 17 (ei (5 * n) + 2).toNatClampNeg 0) s)
  have fin : ∀ s1, Fr Pch s s1 → ∀ m1 c, MD m m1 → c = ei ((fun n => n) (vo_way (s 17 (ei (5 * n) + 1).toNatClampNeg 0) (s 17 (ei (5 * n) + 2).toNatClampNeg 0) s).1) → (c = 0 → m1.1 19 0 0 = ew_j (vo_way (s 17 (ei (5 * n) + 1).toNatClampNeg 0) (s 17 (ei (5 * n) + 2).toNatClampNeg 0) s).2.toInt64) → ew_W (ew_Call (d + 9)) 242 K (1509, [some (ew_o 17 0), some (ew_o 11 0), some (ew_o 16 0), some (ew_o 19 0), some (ew_i (ei (5 * n))), u5, u6, u7, u8], [ew_i c], ew_hp s1 m1) := fun s1 F m1 c D hc hV => lw_way1 A D (Pch.ct F) rfl hc hV k
  exact ew_go (fun pc => Nat.beq pc 1509) 40 ⟨ix1, ix2, xv_way R.2.1 _ _ (fun s1 F => KV.md rfl (Nat.lt_of_le_of_lt h3 (by decide)) (fin s1 F))⟩
theorem lw_toBreak1 {o : ew_A2} (A : LA L c0 d0 nb ns np n β σ ρ s m) (D : MD m m1) (F : Fr Pct s s1) (ho : o = vo_toBreak (s 17 (ei (5 * n) + 1).toNatClampNeg 0) s) (hc : c = ei ((fun n => n) o.1)) (hV : c = 0 → m1.1 19 0 0 = ew_j o.2.toInt64) (k : LK d K L c0 d0 n) : ew_W (ew_Call (d + 9)) 242 K (1571, [some (ew_o 17 0), some (ew_o 11 0), some (ew_o 16 0), some (ew_o 19 0), some (ew_i (ei (5 * n))), u5, u6, u7, u8], [ew_i c], ew_hp s1 m1) := by
  obtain ⟨⟨R, ⟨h16, h13⟩, ⟨u, l⟩, t, ht, hT⟩, W, hn, hi, hL⟩ := A
  have h5 := R.2.1.1
  have U := ul_pt u l (by omega) F
  have e17 : s1 17 = s 17 := U.1.k rfl
  rw [← e17] at ho
  have R1 := (R.cs U.1).ms D.1 D.2.2.1 D.2.2.2.1
  have g16 : m1.2.2.1 16 0 = true := by
    rw [D.2.2.1]
    exact h16
  have g13 : m1.2.2.2.1 13 = np := by
    rw [D.2.2.2.1]
    exact h13
  have ix1 := W.ix (m1 := m1) hi hL 1 (by decide) D.2.1
  have fin : ∀ (s' : ew_S) (m' : ew_H), R0 nb ns np (3540 * n) β σ ρ s s' m' → Ex P6 1 s1 m1 s' m' → s' 16 0 0 = ei ((fun n => n) o.1) → ew_e17 (ew_hp s1 m1) (ew_hp s' m') → ew_e13 (ew_hp s1 m1) (ew_hp s' m') → ew_W (ew_Call (d + 9)) 242 K (1583, [some (ew_o 17 0), some (ew_o 11 0), some (ew_o 16 0), some (ew_o 19 0), some (ew_i (ei (5 * n))), some (ew_i c), u6, u7, u8], [ew_i o.2], ew_hp s' m') := fun s' m' R' E e x17 x13 =>
    lt_toBreak (e.trans hc.symm) (fun z => by rw [(E.1 19 rfl).2]; exact hV z) (lw_next k (MI.next g16 rfl (R'.pt F) (by omega) E (Eq.trans x13 g13) U.2.1 U.2.2.1 (show t ≤ 24 * (n + 1) by omega) (U.2.2.2.trans hT)) (W.next (m1 := m1) (by rw [D.2.1]) D.2.2.2.2.1 D.2.2.2.2.2 E (by decide) x17))
  subst ho
  exact ew_go (fun pc => Nat.beq pc 1583) 40 ⟨ix1, ew_c13 (by decide) (by decide) (ew_c17 (xw_toBreak R1 g16 _ (fun s' m' R' E e x17 x13 => fin s' m' R' E e x17 x13)))⟩
theorem lw_toBreak (A : LA L c0 d0 nb ns np n β σ ρ s m) (k : LK d K L c0 d0 n) : ew_W (ew_Call (d + 9)) 242 K (1560, [some (ew_o 17 0), some (ew_o 11 0), some (ew_o 16 0), some (ew_o 19 0), some (ew_i (ei (5 * n))), u5, u6, u7, u8], [], ew_hp s m) := by
  have A0 := A
  obtain ⟨⟨R, ⟨h16, h13⟩, ⟨u, l⟩, t, ht, hT⟩, W, hn, hi, hL⟩ := A0
  have ix1 := W.ix (m1 := m) hi hL 1 (by decide) rfl
  have h3 := cd1_3 _ (cc_toBreak (s 17 (ei (5 * n) + 1).toNatClampNeg 0) s)
  have fin : ∀ s1, Fr Pch s s1 → ∀ m1 c, MD m m1 → c = ei ((fun n => n) (vo_toBreak (s 17 (ei (5 * n) + 1).toNatClampNeg 0) s).1) → (c = 0 → m1.1 19 0 0 = ew_j (vo_toBreak (s 17 (ei (5 * n) + 1).toNatClampNeg 0) s).2.toInt64) → ew_W (ew_Call (d + 9)) 242 K (1571, [some (ew_o 17 0), some (ew_o 11 0), some (ew_o 16 0), some (ew_o 19 0), some (ew_i (ei (5 * n))), u5, u6, u7, u8], [ew_i c], ew_hp s1 m1) := fun s1 F m1 c D hc hV => lw_toBreak1 A D (Pch.ct F) rfl hc hV k
  exact ew_go (fun pc => Nat.beq pc 1571) 40 ⟨ix1, xv_toBreak R.2.1 _ (fun s1 F => KV.md rfl (Nat.lt_of_le_of_lt h3 (by decide)) (fin s1 F))⟩
theorem lw_helpNext1 {o : ew_A2} (A : LA L c0 d0 nb ns np n β σ ρ s m) (D : MD m m1) (F : Fr Pct s s1) (ho : o = vo_help (s 17 (ei (5 * n) + 1).toNatClampNeg 0) s) (hc : c = ei ((fun n => n) o.1)) (hV : c = 0 → m1.1 19 0 0 = ew_j o.2.toInt64) (k : LK d K L c0 d0 n) : ew_W (ew_Call (d + 9)) 242 K (1627, [some (ew_o 17 0), some (ew_o 11 0), some (ew_o 16 0), some (ew_o 19 0), some (ew_i (ei (5 * n))), u5, u6, u7, u8], [ew_i c], ew_hp s1 m1) := by
  obtain ⟨⟨R, ⟨h16, h13⟩, ⟨u, l⟩, t, ht, hT⟩, W, hn, hi, hL⟩ := A
  have h5 := R.2.1.1
  have U := ul_pt u l (by omega) F
  have e17 : s1 17 = s 17 := U.1.k rfl
  rw [← e17] at ho
  have R1 := (R.cs U.1).ms D.1 D.2.2.1 D.2.2.2.1
  have g16 : m1.2.2.1 16 0 = true := by
    rw [D.2.2.1]
    exact h16
  have g13 : m1.2.2.2.1 13 = np := by
    rw [D.2.2.2.1]
    exact h13
  have ix1 := W.ix (m1 := m1) hi hL 1 (by decide) D.2.1
  have fin : ∀ (s' : ew_S) (m' : ew_H), R0 nb ns np (3540 * n) β σ ρ s s' m' → Ex P6 ns s1 m1 s' m' → s' 16 0 0 = ei ((fun n => n) o.1) → ew_e17 (ew_hp s1 m1) (ew_hp s' m') → ew_e13 (ew_hp s1 m1) (ew_hp s' m') → ew_W (ew_Call (d + 9)) 242 K (1639, [some (ew_o 17 0), some (ew_o 11 0), some (ew_o 16 0), some (ew_o 19 0), some (ew_i (ei (5 * n))), some (ew_i c), u6, u7, u8], [ew_i o.2], ew_hp s' m') := fun s' m' R' E e x17 x13 =>
    lt_helpNext (e.trans hc.symm) (fun z => by rw [(E.1 19 rfl).2]; exact hV z) (lw_next k (MI.next g16 rfl (R'.pt F) (by omega) E (Eq.trans x13 g13) U.2.1 U.2.2.1 (show t ≤ 24 * (n + 1) by omega) (U.2.2.2.trans hT)) (W.next (m1 := m1) (by rw [D.2.1]) D.2.2.2.2.1 D.2.2.2.2.2 E (by omega) x17))
  subst ho
  exact ew_go (fun pc => Nat.beq pc 1639) 40 ⟨ix1, ew_c13 (by decide) (by decide) (ew_c17 (xw_helpNext R1 g16 _ (fun s' m' R' E e x17 x13 => fin s' m' R' E e x17 x13)))⟩
theorem lw_helpNext (A : LA L c0 d0 nb ns np n β σ ρ s m) (k : LK d K L c0 d0 n) : ew_W (ew_Call (d + 9)) 242 K (1616, [some (ew_o 17 0), some (ew_o 11 0), some (ew_o 16 0), some (ew_o 19 0), some (ew_i (ei (5 * n))), u5, u6, u7, u8], [], ew_hp s m) := by
  have A0 := A
  obtain ⟨⟨R, ⟨h16, h13⟩, ⟨u, l⟩, t, ht, hT⟩, W, hn, hi, hL⟩ := A0
  have ix1 := W.ix (m1 := m) hi hL 1 (by decide) rfl
  have h3 := cd1_3 _ (cc_helpNext (s 17 (ei (5 * n) + 1).toNatClampNeg 0) s)
  have fin : ∀ s1, Fr Pch s s1 → ∀ m1 c, MD m m1 → c = ei ((fun n => n) (vo_help (s 17 (ei (5 * n) + 1).toNatClampNeg 0) s).1) → (c = 0 → m1.1 19 0 0 = ew_j (vo_help (s 17 (ei (5 * n) + 1).toNatClampNeg 0) s).2.toInt64) → ew_W (ew_Call (d + 9)) 242 K (1627, [some (ew_o 17 0), some (ew_o 11 0), some (ew_o 16 0), some (ew_o 19 0), some (ew_i (ei (5 * n))), u5, u6, u7, u8], [ew_i c], ew_hp s1 m1) := fun s1 F m1 c D hc hV => lw_helpNext1 A D (Pch.ct F) rfl hc hV k
  exact ew_go (fun pc => Nat.beq pc 1627) 40 ⟨ix1, xv_helpNext R.2.1 _ (fun s1 F => KV.md rfl (Nat.lt_of_le_of_lt h3 (by decide)) (fin s1 F))⟩
theorem lw_arriveIn1 {o : ew_A2} {w : Int32} (A : LA L c0 d0 nb ns np n β σ ρ s m) (D : MD m m1) (F : Fr Pct s s1) (hw : (∃ c, c < ns ∧ (s 17 (ei (5 * n) + 1).toNatClampNeg 0) = ei c) → op_args (s 17 (ei (5 * n) + 2).toNatClampNeg 0) (s 17 (ei (5 * n) + 3).toNatClampNeg 0) (s 17 (ei (5 * n) + 4).toNatClampNeg 0) → ¬ s 10 7 (s 17 (ei (5 * n) + 1).toNatClampNeg 0).toNatClampNeg = 3 → ∃ a1 ac, Fr Pct s a1 ∧ cp_d nb ns a1 ac ∧ w = sp_ai (s 17 (ei (5 * n) + 1).toNatClampNeg 0).toNatClampNeg (s 17 (ei (5 * n) + 3).toNatClampNeg 0) (s 17 (ei (5 * n) + 4).toNatClampNeg 0) ac (s 17 (ei (5 * n) + 2).toNatClampNeg 0).toNatClampNeg 0) (ho : o = vo_arr (s 17 (ei (5 * n) + 1).toNatClampNeg 0) (s 17 (ei (5 * n) + 2).toNatClampNeg 0) (s 17 (ei (5 * n) + 3).toNatClampNeg 0) (s 17 (ei (5 * n) + 4).toNatClampNeg 0) w s) (hc : c = ei ((fun n => n) o.1)) (hV : c = 0 → m1.1 19 0 0 = ew_j o.2.toInt64) (k : LK d K L c0 d0 n) : ew_W (ew_Call (d + 9)) 242 K (1701, [some (ew_o 17 0), some (ew_o 11 0), some (ew_o 16 0), some (ew_o 19 0), some (ew_i (ei (5 * n))), u5, u6, u7, u8], [ew_i c], ew_hp s1 m1) := by
  obtain ⟨⟨R, ⟨h16, h13⟩, ⟨u, l⟩, t, ht, hT⟩, W, hn, hi, hL⟩ := A
  have h5 := R.2.1.1
  have U := ul_pt u l (by omega) F
  have e17 : s1 17 = s 17 := U.1.k rfl
  rw [← e17] at ho hw
  have R1 := (R.cs U.1).ms D.1 D.2.2.1 D.2.2.2.1
  have g16 : m1.2.2.1 16 0 = true := by
    rw [D.2.2.1]
    exact h16
  have g13 : m1.2.2.2.1 13 = np := by
    rw [D.2.2.2.1]
    exact h13
  have ix1 := W.ix (m1 := m1) hi hL 1 (by decide) D.2.1
  have ix2 := W.ix (m1 := m1) hi hL 2 (by decide) D.2.1
  have ix3 := W.ix (m1 := m1) hi hL 3 (by decide) D.2.1
  have ix4 := W.ix (m1 := m1) hi hL 4 (by decide) D.2.1
  have fin : ∀ (s' : ew_S) (m' : ew_H), R0 nb ns np (3540 * n) β σ ρ s s' m' → Ex P6 128 s1 m1 s' m' → s' 16 0 0 = ei ((fun n => n) o.1) → ew_e17 (ew_hp s1 m1) (ew_hp s' m') → ew_e13 (ew_hp s1 m1) (ew_hp s' m') → ew_W (ew_Call (d + 9)) 242 K (1731, [some (ew_o 17 0), some (ew_o 11 0), some (ew_o 16 0), some (ew_o 19 0), some (ew_i (ei (5 * n))), some (ew_i c), u6, u7, u8], [ew_i o.2], ew_hp s' m') := fun s' m' R' E e x17 x13 =>
    lt_arriveIn (e.trans hc.symm) (fun z => by rw [(E.1 19 rfl).2]; exact hV z) (lw_next k (MI.next g16 rfl (R'.pt F) (by omega) E (Eq.trans x13 g13) U.2.1 U.2.2.1 (show t ≤ 24 * (n + 1) by omega) (U.2.2.2.trans hT)) (W.next (m1 := m1) (by rw [D.2.1]) D.2.2.2.2.1 D.2.2.2.2.2 E (by decide) x17))
  subst ho
  exact ew_go (fun pc => Nat.beq pc 1731) 40 ⟨ix1, ix2, ix3, ix4, ew_c13 (by decide) (by decide) (ew_c17 (xw_arriveIn (v := w) R1 g16 (by omega) _ _ _ _ hw (fun s' m' R' E e x17 x13 => fin s' m' R' E e x17 x13)))⟩
theorem lw_arriveIn (A : LA L c0 d0 nb ns np n β σ ρ s m) (k : LK d K L c0 d0 n) : ew_W (ew_Call (d + 9)) 242 K (1672, [some (ew_o 17 0), some (ew_o 11 0), some (ew_o 16 0), some (ew_o 19 0), some (ew_i (ei (5 * n))), u5, u6, u7, u8], [], ew_hp s m) := by
  have A0 := A
  obtain ⟨⟨R, ⟨h16, h13⟩, ⟨u, l⟩, t, ht, hT⟩, W, hn, hi, hL⟩ := A0
  have ix1 := W.ix (m1 := m) hi hL 1 (by decide) rfl
  have ix2 := W.ix (m1 := m) hi hL 2 (by decide) rfl
  have ix3 := W.ix (m1 := m) hi hL 3 (by decide) rfl
  have ix4 := W.ix (m1 := m) hi hL 4 (by decide) rfl
  have h3 := fun w => cd12_3 _ (cc_arriveIn (s 17 (ei (5 * n) + 1).toNatClampNeg 0) (s 17 (ei (5 * n) + 2).toNatClampNeg 0) (s 17 (ei (5 * n) + 3).toNatClampNeg 0) (s 17 (ei (5 * n) + 4).toNatClampNeg 0) w s)
  have fin : ∀ s1 w, Fr Ptr s s1 → ((∃ c, c < ns ∧ (s 17 (ei (5 * n) + 1).toNatClampNeg 0) = ei c) → op_args (s 17 (ei (5 * n) + 2).toNatClampNeg 0) (s 17 (ei (5 * n) + 3).toNatClampNeg 0) (s 17 (ei (5 * n) + 4).toNatClampNeg 0) → ¬ s 10 7 (s 17 (ei (5 * n) + 1).toNatClampNeg 0).toNatClampNeg = 3 → ∃ a, cp_d nb ns s a ∧ w = sp_ai (s 17 (ei (5 * n) + 1).toNatClampNeg 0).toNatClampNeg (s 17 (ei (5 * n) + 3).toNatClampNeg 0) (s 17 (ei (5 * n) + 4).toNatClampNeg 0) a (s 17 (ei (5 * n) + 2).toNatClampNeg 0).toNatClampNeg 0) → ∀ m1 c, MD m m1 → c = ei ((fun n => n) (vo_arr (s 17 (ei (5 * n) + 1).toNatClampNeg 0) (s 17 (ei (5 * n) + 2).toNatClampNeg 0) (s 17 (ei (5 * n) + 3).toNatClampNeg 0) (s 17 (ei (5 * n) + 4).toNatClampNeg 0) w s).1) → (c = 0 → m1.1 19 0 0 = ew_j (vo_arr (s 17 (ei (5 * n) + 1).toNatClampNeg 0) (s 17 (ei (5 * n) + 2).toNatClampNeg 0) (s 17 (ei (5 * n) + 3).toNatClampNeg 0) (s 17 (ei (5 * n) + 4).toNatClampNeg 0) w s).2.toInt64) → ew_W (ew_Call (d + 9)) 242 K (1701, [some (ew_o 17 0), some (ew_o 11 0), some (ew_o 16 0), some (ew_o 19 0), some (ew_i (ei (5 * n))), u5, u6, u7, u8], [ew_i c], ew_hp s1 m1) := fun s1 w F hw m1 c D hc hV => lw_arriveIn1 A D (Ptr.ct F) (fun h1 h2 h3 => by
    obtain ⟨a, g1, g2⟩ := hw h1 h2 h3
    exact ⟨s, a, Fr.rf _ _, g1, g2⟩) rfl hc hV k
  exact ew_go (fun pc => Nat.beq pc 1701) 40 ⟨ix1, ix2, ix3, ix4, xv_arriveIn R.2.1 (by omega) _ _ _ _ (fun s1 w F hw => KV.md rfl (Nat.lt_of_le_of_lt (h3 w) (by decide)) (fin s1 w F hw))⟩
end
