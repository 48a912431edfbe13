/-! The law's loop: what is told. -/
section
variable {d : Nat} {s s1 : ew_S} {m m1 : ew_H} {K : ew_R → ew_H → Prop} {L c0 d0 nb ns np n T : Nat} {β σ : Nat → Nat} {ρ : Nat → Nat → Nat} {u5 u6 u7 u8 : Option ew_V} {c v : Int32} 
theorem lw_ice1 {o : ew_O} (A : LA L c0 d0 nb ns np n β σ ρ s m) (D : MD m m1) (ho : o = op_ice (s 17 (ei (5 * n) + 1).toNatClampNeg 0) (s 17 (ei (5 * n) + 2).toNatClampNeg 0) s) (e1 : s1 = o.2.2) (hc : c = ei ((fun n => n) o.1)) (hV : c = 0 → m1.1 19 0 0 = ew_j o.2.1.toInt64) (k : LK d K L c0 d0 n) : ew_W (ew_Call (d + 9)) 242 K (169, [some (ew_o 17 0), some (ew_o 11 0), some (ew_o 16 0), some (ew_o 19 0), some (ew_i (ei (5 * n))), u5, u6, u7, u8], [ew_i c], ew_hp s1 m1) := by
  obtain ⟨⟨R, ⟨h16, h13⟩, ⟨u, l⟩, t, ht, hT⟩, W, hn, hi, hL⟩ := A
  have U : UL nb ns np s o.2.2 := by
    rw [ho]
    exact ul_ice u l _ _
  have F : Fr Pcl s s1 := by
    rw [e1]
    exact U.1
  have e17 : s1 17 = s 17 := F.k rfl
  rw [← e17] at ho
  have R1 := (R.cs F).ms D.1 D.2.2.1 D.2.2.2.1
  have g16 : m1.2.2.1 16 0 = true := by
    rw [D.2.2.1]
    exact h16
  have g13 : m1.2.2.2.1 13 = np := by
    rw [D.2.2.2.1]
    exact h13
  have ix1 := W.ix (m1 := m1) hi hL 1 (by decide) D.2.1
  have ix2 := W.ix (m1 := m1) hi hL 2 (by decide) D.2.1
  have fin : ∀ (β' σ' : Nat → Nat) (ρ' : Nat → Nat → Nat) (s' : ew_S) (m' : ew_H), R0 nb ns np (3540 * n + 300) β' σ' ρ' o.2.2 s' m' → Ex PT 0 s1 m1 s' m' → s' 16 0 0 = ei ((fun n => n) o.1) → ew_e17 (ew_hp s1 m1) (ew_hp s' m') → ew_e13 (ew_hp s1 m1) (ew_hp s' m') → ew_W (ew_Call (d + 9)) 242 K (187, [some (ew_o 17 0), some (ew_o 11 0), some (ew_o 16 0), some (ew_o 19 0), some (ew_i (ei (5 * n))), some (ew_i c), u6, u7, u8], [ew_i o.2.1], ew_hp s' m') := fun β' σ' ρ' s' m' R' E e x17 x13 =>
    lt_ice (e.trans hc.symm) (fun z => by rw [(E.1 19 rfl).2]; exact hV z) (lw_next k (MI.next g16 e1 R' (by omega) E (Eq.trans x13 g13) U.2.1 U.2.2.1 (show t ≤ 24 * (n + 1) by omega) (U.2.2.2.trans hT)) (W.next (m1 := m1) (by rw [D.2.1]) D.2.2.2.2.1 D.2.2.2.2.2 E (by decide) x17))
  subst ho
  exact ew_go (fun pc => Nat.beq pc 187) 40 ⟨ix1, ix2, ew_c13 (by decide) (by decide) (ew_c17 (xw_ice R1  _ _ (fun β' σ' ρ' s' m' R' E e x17 x13 => fin β' σ' ρ' s' m' R' E e x17 x13)))⟩
theorem lw_ice (A : LA L c0 d0 nb ns np n β σ ρ s m) (k : LK d K L c0 d0 n) : ew_W (ew_Call (d + 9)) 242 K (152, [some (ew_o 17 0), some (ew_o 11 0), some (ew_o 16 0), some (ew_o 19 0), some (ew_i (ei (5 * n))), u5, u6, u7, u8], [], ew_hp s m) := by
  have A0 := A
  obtain ⟨⟨R, ⟨h16, h13⟩, ⟨u, l⟩, t, ht, hT⟩, W, hn, hi, hL⟩ := A0
  have ix1 := W.ix (m1 := m) hi hL 1 (by decide) rfl
  have ix2 := W.ix (m1 := m) hi hL 2 (by decide) rfl
  have h3 := cdA_3 _ (cc_ice (s 17 (ei (5 * n) + 1).toNatClampNeg 0) (s 17 (ei (5 * n) + 2).toNatClampNeg 0) s)
  have fin : ∀ m1 c, MD m m1 → c = ei ((fun n => n) (op_ice (s 17 (ei (5 * n) + 1).toNatClampNeg 0) (s 17 (ei (5 * n) + 2).toNatClampNeg 0) s).1) → (c = 0 → m1.1 19 0 0 = ew_j (op_ice (s 17 (ei (5 * n) + 1).toNatClampNeg 0) (s 17 (ei (5 * n) + 2).toNatClampNeg 0) s).2.1.toInt64) → ew_W (ew_Call (d + 9)) 242 K (169, [some (ew_o 17 0), some (ew_o 11 0), some (ew_o 16 0), some (ew_o 19 0), some (ew_i (ei (5 * n))), u5, u6, u7, u8], [ew_i c], ew_hp (op_ice (s 17 (ei (5 * n) + 1).toNatClampNeg 0) (s 17 (ei (5 * n) + 2).toNatClampNeg 0) s).2.2 m1) := fun m1 c D hc hV => lw_ice1 A D rfl rfl hc hV k
  exact ew_go (fun pc => Nat.beq pc 169) 40 ⟨ix1, ix2, xv_ice  _ _ (KV.md rfl (Nat.lt_of_le_of_lt h3 (by decide)) fin)⟩
theorem lw_land1 {o : ew_O} (A : LA L c0 d0 nb ns np n β σ ρ s m) (D : MD m m1) (ho : o = op_land (s 17 (ei (5 * n) + 1).toNatClampNeg 0) s) (e1 : s1 = o.2.2) (hc : c = ei (ef_tc o.1)) (hV : c = 0 → m1.1 19 0 0 = ew_j o.2.1.toInt64) (k : LK d K L c0 d0 n) : ew_W (ew_Call (d + 9)) 242 K (231, [some (ew_o 17 0), some (ew_o 11 0), some (ew_o 16 0), some (ew_o 19 0), some (ew_i (ei (5 * n))), u5, u6, u7, u8], [ew_i c], ew_hp s1 m1) := by
  obtain ⟨⟨R, ⟨h16, h13⟩, ⟨u, l⟩, t, ht, hT⟩, W, hn, hi, hL⟩ := A
  have U : UL nb ns np s o.2.2 := by
    rw [ho]
    exact ul_land u l _
  have F : Fr Pcl s s1 := by
    rw [e1]
    exact U.1
  have e17 : s1 17 = s 17 := F.k rfl
  rw [← e17] at ho
  have R1 := (R.cs F).ms D.1 D.2.2.1 D.2.2.2.1
  have g16 : m1.2.2.1 16 0 = true := by
    rw [D.2.2.1]
    exact h16
  have g13 : m1.2.2.2.1 13 = np := by
    rw [D.2.2.2.1]
    exact h13
  have ix1 := W.ix (m1 := m1) hi hL 1 (by decide) D.2.1
  have fin : ∀ (β' σ' : Nat → Nat) (ρ' : Nat → Nat → Nat) (s' : ew_S) (m' : ew_H), R0 nb ns np (3540 * n) β' σ' ρ' o.2.2 s' m' → Ex PT 3 s1 m1 s' m' → s' 16 0 0 = ei (ef_tc o.1) → ew_e17 (ew_hp s1 m1) (ew_hp s' m') → ew_e13 (ew_hp s1 m1) (ew_hp s' m') → ew_W (ew_Call (d + 9)) 242 K (243, [some (ew_o 17 0), some (ew_o 11 0), some (ew_o 16 0), some (ew_o 19 0), some (ew_i (ei (5 * n))), some (ew_i c), u6, u7, u8], [ew_i o.2.1], ew_hp s' m') := fun β' σ' ρ' s' m' R' E e x17 x13 =>
    lt_land (e.trans hc.symm) (fun z => by rw [(E.1 19 rfl).2]; exact hV z) (lw_next k (MI.next g16 e1 R' (by omega) E (Eq.trans x13 g13) U.2.1 U.2.2.1 (show t ≤ 24 * (n + 1) by omega) (U.2.2.2.trans hT)) (W.next (m1 := m1) (by rw [D.2.1]) D.2.2.2.2.1 D.2.2.2.2.2 E (by decide) x17))
  subst ho
  exact ew_go (fun pc => Nat.beq pc 243) 40 ⟨ix1, ew_c13 (by decide) (by decide) (ew_c17 (xw_land R1 g16 _ (fun β' σ' ρ' s' m' R' E e x17 x13 => fin β' σ' ρ' s' m' R' E e x17 x13)))⟩
theorem lw_land (A : LA L c0 d0 nb ns np n β σ ρ s m) (k : LK d K L c0 d0 n) : ew_W (ew_Call (d + 9)) 242 K (220, [some (ew_o 17 0), some (ew_o 11 0), some (ew_o 16 0), some (ew_o 19 0), some (ew_i (ei (5 * n))), u5, u6, u7, u8], [], ew_hp s m) := by
  have A0 := A
  obtain ⟨⟨R, ⟨h16, h13⟩, ⟨u, l⟩, t, ht, hT⟩, W, hn, hi, hL⟩ := A0
  have ix1 := W.ix (m1 := m) hi hL 1 (by decide) rfl
  have h3 := cdB_3 _ (cc_land (s 17 (ei (5 * n) + 1).toNatClampNeg 0) s)
  have fin : ∀ m1 c, MD m m1 → c = ei (ef_tc (op_land (s 17 (ei (5 * n) + 1).toNatClampNeg 0) s).1) → (c = 0 → m1.1 19 0 0 = ew_j (op_land (s 17 (ei (5 * n) + 1).toNatClampNeg 0) s).2.1.toInt64) → ew_W (ew_Call (d + 9)) 242 K (231, [some (ew_o 17 0), some (ew_o 11 0), some (ew_o 16 0), some (ew_o 19 0), some (ew_i (ei (5 * n))), u5, u6, u7, u8], [ew_i c], ew_hp (op_land (s 17 (ei (5 * n) + 1).toNatClampNeg 0) s).2.2 m1) := fun m1 c D hc hV => lw_land1 A D rfl rfl hc hV k
  exact ew_go (fun pc => Nat.beq pc 231) 40 ⟨ix1, xv_land R.2.1 _ (KV.md rfl (ef_tc_lt h3) fin)⟩
theorem lw_port1 {o : ew_O} (A : LA L c0 d0 nb ns np n β σ ρ s m) (D : MD m m1) (ho : o = op_port (s 17 (ei (5 * n) + 1).toNatClampNeg 0) s) (e1 : s1 = o.2.2) (hc : c = ei ((fun n => n) o.1)) (hV : c = 0 → m1.1 19 0 0 = ew_j o.2.1.toInt64) (k : LK d K L c0 d0 n) : ew_W (ew_Call (d + 9)) 242 K (287, [some (ew_o 17 0), some (ew_o 11 0), some (ew_o 16 0), some (ew_o 19 0), some (ew_i (ei (5 * n))), u5, u6, u7, u8], [ew_i c], ew_hp s1 m1) := by
  obtain ⟨⟨R, ⟨h16, h13⟩, ⟨u, l⟩, t, ht, hT⟩, W, hn, hi, hL⟩ := A
  have U0 : ¬ o.1 = 0 → UL nb ns np s o.2.2 := by
    rw [ho]
    exact ul_port0 u l _
  have U1 : o.1 = 0 → UL nb ns (np + 1) s o.2.2 := by
    rw [ho]
    exact ul_port1 R.2.1 u l _
  have F : Fr Pcl s s1 := by
    rw [e1]
    by_cases e : o.1 = 0
    · exact (U1 e).1
    · exact (U0 e).1
  have e17 : s1 17 = s 17 := F.k rfl
  rw [← e17] at ho
  have R1 := (R.cs F).ms D.1 D.2.2.1 D.2.2.2.1
  have g16 : m1.2.2.1 16 0 = true := by
    rw [D.2.2.1]
    exact h16
  have g13 : m1.2.2.2.1 13 = np := by
    rw [D.2.2.2.1]
    exact h13
  have ix1 := W.ix (m1 := m1) hi hL 1 (by decide) D.2.1
  have fin0 : ∀ w : ¬ o.1 = 0, ∀ (β' σ' : Nat → Nat) (ρ' : Nat → Nat → Nat) (s' : ew_S) (m' : ew_H), R0 nb ns np (3540 * n) β' σ' ρ' o.2.2 s' m' → Ex PT 1 s1 m1 s' m' → s' 16 0 0 = ei ((fun n => n) o.1) → ew_e17 (ew_hp s1 m1) (ew_hp s' m') → (ew_hp s' m').2.2.2.1 13 = np → ew_W (ew_Call (d + 9)) 242 K (299, [some (ew_o 17 0), some (ew_o 11 0), some (ew_o 16 0), some (ew_o 19 0), some (ew_i (ei (5 * n))), some (ew_i c), u6, u7, u8], [ew_i o.2.1], ew_hp s' m') := fun w β' σ' ρ' s' m' R' E e x17 x13 =>
    lt_port (e.trans hc.symm) (fun z => by rw [(E.1 19 rfl).2]; exact hV z) (lw_next k (MI.next g16 e1 R' (by omega) E (x13) (U0 w).2.1 (U0 w).2.2.1 (show t ≤ 24 * (n + 1) by omega) ((U0 w).2.2.2.trans hT)) (W.next (m1 := m1) (by rw [D.2.1]) D.2.2.2.2.1 D.2.2.2.2.2 E (by decide) x17))
  have fin1 : ∀ w : o.1 = 0, ∀ (β' σ' : Nat → Nat) (ρ' : Nat → Nat → Nat) (s' : ew_S) (m' : ew_H), R0 nb ns (np + 1) (3540 * n) β' σ' ρ' o.2.2 s' m' → Ex PT 5 s1 m1 s' m' → s' 16 0 0 = ei ((fun n => n) o.1) → ew_e17 (ew_hp s1 m1) (ew_hp s' m') → (ew_hp s' m').2.2.2.1 13 = np + 1 → ew_W (ew_Call (d + 9)) 242 K (299, [some (ew_o 17 0), some (ew_o 11 0), some (ew_o 16 0), some (ew_o 19 0), some (ew_i (ei (5 * n))), some (ew_i c), u6, u7, u8], [ew_i o.2.1], ew_hp s' m') := fun w β' σ' ρ' s' m' R' E e x17 x13 =>
    lt_port (e.trans hc.symm) (fun z => by rw [(E.1 19 rfl).2]; exact hV z) (lw_next k (MI.next g16 e1 R' (by omega) E (x13) (U1 w).2.1 (U1 w).2.2.1 (show t ≤ 24 * (n + 1) by omega) ((U1 w).2.2.2.trans hT)) (W.next (m1 := m1) (by rw [D.2.1]) D.2.2.2.2.1 D.2.2.2.2.2 E (by decide) x17))
  subst ho
  exact ew_go (fun pc => Nat.beq pc 299) 40 ⟨ix1, ew_c17 (xw_port R1 g16 u g13 _ (fun w β' σ' ρ' s' m' R' E e x13 x17 => fin0 w β' σ' ρ' s' m' R' E e x17 x13) (fun w β' σ' ρ' s' m' R' E e x13 x17 => fin1 w β' σ' ρ' s' m' R' E e x17 x13))⟩
theorem lw_port (A : LA L c0 d0 nb ns np n β σ ρ s m) (k : LK d K L c0 d0 n) : ew_W (ew_Call (d + 9)) 242 K (276, [some (ew_o 17 0), some (ew_o 11 0), some (ew_o 16 0), some (ew_o 19 0), some (ew_i (ei (5 * n))), u5, u6, u7, u8], [], ew_hp s m) := by
  have A0 := A
  obtain ⟨⟨R, ⟨h16, h13⟩, ⟨u, l⟩, t, ht, hT⟩, W, hn, hi, hL⟩ := A0
  have ix1 := W.ix (m1 := m) hi hL 1 (by decide) rfl
  have h3 := cdA_3 _ (cc_port (s 17 (ei (5 * n) + 1).toNatClampNeg 0) s)
  have fin : ∀ m1 c, MD m m1 → c = ei ((fun n => n) (op_port (s 17 (ei (5 * n) + 1).toNatClampNeg 0) s).1) → (c = 0 → m1.1 19 0 0 = ew_j (op_port (s 17 (ei (5 * n) + 1).toNatClampNeg 0) s).2.1.toInt64) → ew_W (ew_Call (d + 9)) 242 K (287, [some (ew_o 17 0), some (ew_o 11 0), some (ew_o 16 0), some (ew_o 19 0), some (ew_i (ei (5 * n))), u5, u6, u7, u8], [ew_i c], ew_hp (op_port (s 17 (ei (5 * n) + 1).toNatClampNeg 0) s).2.2 m1) := fun m1 c D hc hV => lw_port1 A D rfl rfl hc hV k
  exact ew_go (fun pc => Nat.beq pc 287) 40 ⟨ix1, xv_port R.2.1 _ (KV.md rfl (Nat.lt_of_le_of_lt h3 (by decide)) fin)⟩
theorem lw_rule1 {o : ew_O} (A : LA L c0 d0 nb ns np n β σ ρ s m) (D : MD m m1) (ho : o = op_rule (s 17 (ei (5 * n) + 1).toNatClampNeg 0) (s 17 (ei (5 * n) + 2).toNatClampNeg 0) (s 17 (ei (5 * n) + 3).toNatClampNeg 0) s) (e1 : s1 = o.2.2) (hc : c = ei ((fun n => n) o.1)) (hV : c = 0 → m1.1 19 0 0 = ew_j o.2.1.toInt64) (k : LK d K L c0 d0 n) : ew_W (ew_Call (d + 9)) 242 K (355, [some (ew_o 17 0), some (ew_o 11 0), some (ew_o 16 0), some (ew_o 19 0), some (ew_i (ei (5 * n))), u5, u6, u7, u8], [ew_i c], ew_hp s1 m1) := by
  obtain ⟨⟨R, ⟨h16, h13⟩, ⟨u, l⟩, t, ht, hT⟩, W, hn, hi, hL⟩ := A
  have U : UL nb ns np s o.2.2 := by
    rw [ho]
    exact ul_rule R.2.1 u l _ _ _
  have F : Fr Pcl s s1 := by
    rw [e1]
    exact U.1
  have e17 : s1 17 = s 17 := F.k rfl
  rw [← e17] at ho
  have R1 := (R.cs F).ms D.1 D.2.2.1 D.2.2.2.1
  have g16 : m1.2.2.1 16 0 = true := by
    rw [D.2.2.1]
    exact h16
  have g13 : m1.2.2.2.1 13 = np := by
    rw [D.2.2.2.1]
    exact h13
  have ix1 := W.ix (m1 := m1) hi hL 1 (by decide) D.2.1
  have ix2 := W.ix (m1 := m1) hi hL 2 (by decide) D.2.1
  have ix3 := W.ix (m1 := m1) hi hL 3 (by decide) D.2.1
  have fin : ∀ (β' σ' : Nat → Nat) (ρ' : Nat → Nat → Nat) (s' : ew_S) (m' : ew_H), R0 nb ns np (3540 * n) β' σ' ρ' o.2.2 s' m' → Ex PT 2 s1 m1 s' m' → s' 16 0 0 = ei ((fun n => n) o.1) → ew_e17 (ew_hp s1 m1) (ew_hp s' m') → ew_e13 (ew_hp s1 m1) (ew_hp s' m') → ew_W (ew_Call (d + 9)) 242 K (379, [some (ew_o 17 0), some (ew_o 11 0), some (ew_o 16 0), some (ew_o 19 0), some (ew_i (ei (5 * n))), some (ew_i c), u6, u7, u8], [ew_i o.2.1], ew_hp s' m') := fun β' σ' ρ' s' m' R' E e x17 x13 =>
    lt_rule (e.trans hc.symm) (fun z => by rw [(E.1 19 rfl).2]; exact hV z) (lw_next k (MI.next g16 e1 R' (by omega) E (Eq.trans x13 g13) U.2.1 U.2.2.1 (show t ≤ 24 * (n + 1) by omega) (U.2.2.2.trans hT)) (W.next (m1 := m1) (by rw [D.2.1]) D.2.2.2.2.1 D.2.2.2.2.2 E (by decide) x17))
  subst ho
  exact ew_go (fun pc => Nat.beq pc 379) 40 ⟨ix1, ix2, ix3, ew_c13 (by decide) (by decide) (ew_c17 (xw_rule R1 g16 _ _ _ (fun β' σ' ρ' s' m' R' E e x17 x13 => fin β' σ' ρ' s' m' R' E e x17 x13)))⟩
theorem lw_rule (A : LA L c0 d0 nb ns np n β σ ρ s m) (k : LK d K L c0 d0 n) : ew_W (ew_Call (d + 9)) 242 K (332, [some (ew_o 17 0), some (ew_o 11 0), some (ew_o 16 0), some (ew_o 19 0), some (ew_i (ei (5 * n))), u5, u6, u7, u8], [], ew_hp s m) := by
  have A0 := A
  obtain ⟨⟨R, ⟨h16, h13⟩, ⟨u, l⟩, t, ht, hT⟩, W, hn, hi, hL⟩ := A0
  have ix1 := W.ix (m1 := m) hi hL 1 (by decide) rfl
  have ix2 := W.ix (m1 := m) hi hL 2 (by decide) rfl
  have ix3 := W.ix (m1 := m) hi hL 3 (by decide) rfl
  have h3 := cdA_3 _ (cc_rule (s 17 (ei (5 * n) + 1).toNatClampNeg 0) (s 17 (ei (5 * n) + 2).toNatClampNeg 0) (s 17 (ei (5 * n) + 3).toNatClampNeg 0) s)
  have fin : ∀ m1 c, MD m m1 → c = ei ((fun n => n) (op_rule (s 17 (ei (5 * n) + 1).toNatClampNeg 0) (s 17 (ei (5 * n) + 2).toNatClampNeg 0) (s 17 (ei (5 * n) + 3).toNatClampNeg 0) s).1) → (c = 0 → m1.1 19 0 0 = ew_j (op_rule (s 17 (ei (5 * n) + 1).toNatClampNeg 0) (s 17 (ei (5 * n) + 2).toNatClampNeg 0) (s 17 (ei (5 * n) + 3).toNatClampNeg 0) s).2.1.toInt64) → ew_W (ew_Call (d + 9)) 242 K (355, [some (ew_o 17 0), some (ew_o 11 0), some (ew_o 16 0), some (ew_o 19 0), some (ew_i (ei (5 * n))), u5, u6, u7, u8], [ew_i c], ew_hp (op_rule (s 17 (ei (5 * n) + 1).toNatClampNeg 0) (s 17 (ei (5 * n) + 2).toNatClampNeg 0) (s 17 (ei (5 * n) + 3).toNatClampNeg 0) s).2.2 m1) := fun m1 c D hc hV => lw_rule1 A D rfl rfl hc hV k
  exact ew_go (fun pc => Nat.beq pc 355) 40 ⟨ix1, ix2, ix3, xv_rule R.2.1 _ _ _ (KV.md rfl (Nat.lt_of_le_of_lt h3 (by decide)) fin)⟩
theorem lw_exempt1 {o : ew_O} (A : LA L c0 d0 nb ns np n β σ ρ s m) (D : MD m m1) (ho : o = op_exempt (s 17 (ei (5 * n) + 1).toNatClampNeg 0) (s 17 (ei (5 * n) + 2).toNatClampNeg 0) s) (e1 : s1 = o.2.2) (hc : c = ei ((fun n => n) o.1)) (hV : c = 0 → m1.1 19 0 0 = ew_j (if o.2.1 = 0 then 0 else 1)) (k : LK d K L c0 d0 n) : ew_W (ew_Call (d + 9)) 242 K (429, [some (ew_o 17 0), some (ew_o 11 0), some (ew_o 16 0), some (ew_o 19 0), some (ew_i (ei (5 * n))), u5, u6, u7, u8], [ew_i c], ew_hp s1 m1) := by
  obtain ⟨⟨R, ⟨h16, h13⟩, ⟨u, l⟩, t, ht, hT⟩, W, hn, hi, hL⟩ := A
  have U : UL nb ns np s o.2.2 := by
    rw [ho]
    exact ul_exempt R.2.1 u l _ _
  have F : Fr Pcl s s1 := by
    rw [e1]
    exact U.1
  have e17 : s1 17 = s 17 := F.k rfl
  rw [← e17] at ho
  have R1 := (R.cs F).ms D.1 D.2.2.1 D.2.2.2.1
  have g16 : m1.2.2.1 16 0 = true := by
    rw [D.2.2.1]
    exact h16
  have g13 : m1.2.2.2.1 13 = np := by
    rw [D.2.2.2.1]
    exact h13
  have ix1 := W.ix (m1 := m1) hi hL 1 (by decide) D.2.1
  have ix2 := W.ix (m1 := m1) hi hL 2 (by decide) D.2.1
  have fin : ∀ (β' σ' : Nat → Nat) (ρ' : Nat → Nat → Nat) (s' : ew_S) (m' : ew_H), R0 nb ns np (3540 * n) β' σ' ρ' o.2.2 s' m' → Ex PT 0 s1 m1 s' m' → s' 16 0 0 = ei ((fun n => n) o.1) → ew_e17 (ew_hp s1 m1) (ew_hp s' m') → ew_e13 (ew_hp s1 m1) (ew_hp s' m') → ew_W (ew_Call (d + 9)) 242 K (447, [some (ew_o 17 0), some (ew_o 11 0), some (ew_o 16 0), some (ew_o 19 0), some (ew_i (ei (5 * n))), some (ew_i c), u6, u7, u8], [ew_i o.2.1], ew_hp s' m') := fun β' σ' ρ' s' m' R' E e x17 x13 =>
    lt_exempt (e.trans hc.symm) (fun z => by rw [(E.1 19 rfl).2]; exact hV z) (lw_next k (MI.next g16 e1 R' (by omega) E (Eq.trans x13 g13) U.2.1 U.2.2.1 (show t ≤ 24 * (n + 1) by omega) (U.2.2.2.trans hT)) (W.next (m1 := m1) (by rw [D.2.1]) D.2.2.2.2.1 D.2.2.2.2.2 E (by decide) x17))
  subst ho
  exact ew_go (fun pc => Nat.beq pc 447) 40 ⟨ix1, ix2, ew_c13 (by decide) (by decide) (ew_c17 (xw_exempt R1  _ _ (fun β' σ' ρ' s' m' R' E e x17 x13 => fin β' σ' ρ' s' m' R' E e x17 x13)))⟩
theorem lw_exempt (A : LA L c0 d0 nb ns np n β σ ρ s m) (k : LK d K L c0 d0 n) : ew_W (ew_Call (d + 9)) 242 K (412, [some (ew_o 17 0), some (ew_o 11 0), some (ew_o 16 0), some (ew_o 19 0), some (ew_i (ei (5 * n))), u5, u6, u7, u8], [], ew_hp s m) := by
  have A0 := A
  obtain ⟨⟨R, ⟨h16, h13⟩, ⟨u, l⟩, t, ht, hT⟩, W, hn, hi, hL⟩ := A0
  have ix1 := W.ix (m1 := m) hi hL 1 (by decide) rfl
  have ix2 := W.ix (m1 := m) hi hL 2 (by decide) rfl
  have h3 := cd1_3 _ (cc_exempt (s 17 (ei (5 * n) + 1).toNatClampNeg 0) (s 17 (ei (5 * n) + 2).toNatClampNeg 0) s)
  have fin : ∀ m1 c, MD m m1 → c = ei ((fun n => n) (op_exempt (s 17 (ei (5 * n) + 1).toNatClampNeg 0) (s 17 (ei (5 * n) + 2).toNatClampNeg 0) s).1) → (c = 0 → m1.1 19 0 0 = ew_j (if (op_exempt (s 17 (ei (5 * n) + 1).toNatClampNeg 0) (s 17 (ei (5 * n) + 2).toNatClampNeg 0) s).2.1 = 0 then 0 else 1)) → ew_W (ew_Call (d + 9)) 242 K (429, [some (ew_o 17 0), some (ew_o 11 0), some (ew_o 16 0), some (ew_o 19 0), some (ew_i (ei (5 * n))), u5, u6, u7, u8], [ew_i c], ew_hp (op_exempt (s 17 (ei (5 * n) + 1).toNatClampNeg 0) (s 17 (ei (5 * n) + 2).toNatClampNeg 0) s).2.2 m1) := fun m1 c D hc hV => lw_exempt1 A D rfl rfl hc hV k
  exact ew_go (fun pc => Nat.beq pc 429) 40 ⟨ix1, ix2, xv_exempt R.2.1 _ _ (KVb.md rfl (Nat.lt_of_le_of_lt h3 (by decide)) fin)⟩
theorem lw_breaker1 {o : ew_O} (A : LA L c0 d0 nb ns np n β σ ρ s m) (D : MD m m1) (ho : o = op_breaker (s 17 (ei (5 * n) + 1).toNatClampNeg 0) (s 17 (ei (5 * n) + 2).toNatClampNeg 0) s) (e1 : s1 = o.2.2) (hc : c = ei ((fun n => n) o.1)) (hV : c = 0 → m1.1 19 0 0 = ew_j o.2.1.toInt64) (k : LK d K L c0 d0 n) : ew_W (ew_Call (d + 9)) 242 K (504, [some (ew_o 17 0), some (ew_o 11 0), some (ew_o 16 0), some (ew_o 19 0), some (ew_i (ei (5 * n))), u5, u6, u7, u8], [ew_i c], ew_hp s1 m1) := by
  obtain ⟨⟨R, ⟨h16, h13⟩, ⟨u, l⟩, t, ht, hT⟩, W, hn, hi, hL⟩ := A
  have U0 : ¬ o.1 = 0 → UL nb ns np s o.2.2 := by
    rw [ho]
    exact ul_breaker0 u l _ _
  have U1 : o.1 = 0 → UL (nb + 1) ns np s o.2.2 := by
    rw [ho]
    exact ul_breaker1 R.2.1 u l _ _
  have F : Fr Pcl s s1 := by
    rw [e1]
    by_cases e : o.1 = 0
    · exact (U1 e).1
    · exact (U0 e).1
  have e17 : s1 17 = s 17 := F.k rfl
  rw [← e17] at ho
  have R1 := (R.cs F).ms D.1 D.2.2.1 D.2.2.2.1
  have g16 : m1.2.2.1 16 0 = true := by
    rw [D.2.2.1]
    exact h16
  have g13 : m1.2.2.2.1 13 = np := by
    rw [D.2.2.2.1]
    exact h13
  have ix1 := W.ix (m1 := m1) hi hL 1 (by decide) D.2.1
  have ix2 := W.ix (m1 := m1) hi hL 2 (by decide) D.2.1
  have fin0 : ∀ w : ¬ o.1 = 0, ∀ (β' σ' : Nat → Nat) (ρ' : Nat → Nat → Nat) (s' : ew_S) (m' : ew_H), R0 nb ns np (3540 * n) β' σ' ρ' o.2.2 s' m' → Ex PT 0 s1 m1 s' m' → s' 16 0 0 = ei ((fun n => n) o.1) → ew_e17 (ew_hp s1 m1) (ew_hp s' m') → ew_e13 (ew_hp s1 m1) (ew_hp s' m') → ew_W (ew_Call (d + 9)) 242 K (522, [some (ew_o 17 0), some (ew_o 11 0), some (ew_o 16 0), some (ew_o 19 0), some (ew_i (ei (5 * n))), some (ew_i c), u6, u7, u8], [ew_i o.2.1], ew_hp s' m') := fun w β' σ' ρ' s' m' R' E e x17 x13 =>
    lt_breaker (e.trans hc.symm) (fun z => by rw [(E.1 19 rfl).2]; exact hV z) (lw_next k (MI.next g16 e1 R' (by omega) E (Eq.trans x13 g13) (U0 w).2.1 (U0 w).2.2.1 (show t ≤ 24 * (n + 1) by omega) ((U0 w).2.2.2.trans hT)) (W.next (m1 := m1) (by rw [D.2.1]) D.2.2.2.2.1 D.2.2.2.2.2 E (by decide) x17))
  have fin1 : ∀ w : o.1 = 0, ∀ (β' σ' : Nat → Nat) (ρ' : Nat → Nat → Nat) (s' : ew_S) (m' : ew_H), R0 (nb + 1) ns np (3540 * n) β' σ' ρ' o.2.2 s' m' → Ex PT 3 s1 m1 s' m' → s' 16 0 0 = ei ((fun n => n) o.1) → ew_e17 (ew_hp s1 m1) (ew_hp s' m') → ew_e13 (ew_hp s1 m1) (ew_hp s' m') → ew_W (ew_Call (d + 9)) 242 K (522, [some (ew_o 17 0), some (ew_o 11 0), some (ew_o 16 0), some (ew_o 19 0), some (ew_i (ei (5 * n))), some (ew_i c), u6, u7, u8], [ew_i o.2.1], ew_hp s' m') := fun w β' σ' ρ' s' m' R' E e x17 x13 =>
    lt_breaker (e.trans hc.symm) (fun z => by rw [(E.1 19 rfl).2]; exact hV z) (lw_next k (MI.next g16 e1 R' (by omega) E (Eq.trans x13 g13) (U1 w).2.1 (U1 w).2.2.1 (show t ≤ 24 * (n + 1) by omega) ((U1 w).2.2.2.trans hT)) (W.next (m1 := m1) (by rw [D.2.1]) D.2.2.2.2.1 D.2.2.2.2.2 E (by decide) x17))
  subst ho
  exact ew_go (fun pc => Nat.beq pc 522) 40 ⟨ix1, ix2, ew_c13 (by decide) (by decide) (ew_c17 (xw_breaker R1 g16 u _ _ (fun w β' σ' ρ' s' m' R' E e x17 x13 => fin0 w β' σ' ρ' s' m' R' E e x17 x13) (fun w β' σ' ρ' s' m' R' E e x17 x13 => fin1 w β' σ' ρ' s' m' R' E e x17 x13)))⟩
theorem lw_breaker (A : LA L c0 d0 nb ns np n β σ ρ s m) (k : LK d K L c0 d0 n) : ew_W (ew_Call (d + 9)) 242 K (487, [some (ew_o 17 0), some (ew_o 11 0), some (ew_o 16 0), some (ew_o 19 0), some (ew_i (ei (5 * n))), u5, u6, u7, u8], [], ew_hp s m) := by
  have A0 := A
  obtain ⟨⟨R, ⟨h16, h13⟩, ⟨u, l⟩, t, ht, hT⟩, W, hn, hi, hL⟩ := A0
  have ix1 := W.ix (m1 := m) hi hL 1 (by decide) rfl
  have ix2 := W.ix (m1 := m) hi hL 2 (by decide) rfl
  have h3 := cdA_3 _ (cc_breaker (s 17 (ei (5 * n) + 1).toNatClampNeg 0) (s 17 (ei (5 * n) + 2).toNatClampNeg 0) s)
  have fin : ∀ m1 c, MD m m1 → c = ei ((fun n => n) (op_breaker (s 17 (ei (5 * n) + 1).toNatClampNeg 0) (s 17 (ei (5 * n) + 2).toNatClampNeg 0) s).1) → (c = 0 → m1.1 19 0 0 = ew_j (op_breaker (s 17 (ei (5 * n) + 1).toNatClampNeg 0) (s 17 (ei (5 * n) + 2).toNatClampNeg 0) s).2.1.toInt64) → ew_W (ew_Call (d + 9)) 242 K (504, [some (ew_o 17 0), some (ew_o 11 0), some (ew_o 16 0), some (ew_o 19 0), some (ew_i (ei (5 * n))), u5, u6, u7, u8], [ew_i c], ew_hp (op_breaker (s 17 (ei (5 * n) + 1).toNatClampNeg 0) (s 17 (ei (5 * n) + 2).toNatClampNeg 0) s).2.2 m1) := fun m1 c D hc hV => lw_breaker1 A D rfl rfl hc hV k
  exact ew_go (fun pc => Nat.beq pc 504) 40 ⟨ix1, ix2, xv_breaker R.2.1 _ _ (KV.md rfl (Nat.lt_of_le_of_lt h3 (by decide)) fin)⟩
theorem lw_ship1 {o : ew_O} (A : LA L c0 d0 nb ns np n β σ ρ s m) (D : MD m m1) (ho : o = op_ship (s 17 (ei (5 * n) + 1).toNatClampNeg 0) (s 17 (ei (5 * n) + 2).toNatClampNeg 0) (s 17 (ei (5 * n) + 3).toNatClampNeg 0) (s 17 (ei (5 * n) + 4).toNatClampNeg 0) s) (e1 : s1 = o.2.2) (hc : c = ei ((fun n => n) o.1)) (hV : c = 0 → m1.1 19 0 0 = ew_j o.2.1.toInt64) (k : LK d K L c0 d0 n) : ew_W (ew_Call (d + 9)) 242 K (584, [some (ew_o 17 0), some (ew_o 11 0), some (ew_o 16 0), some (ew_o 19 0), some (ew_i (ei (5 * n))), u5, u6, u7, u8], [ew_i c], ew_hp s1 m1) := by
  obtain ⟨⟨R, ⟨h16, h13⟩, ⟨u, l⟩, t, ht, hT⟩, W, hn, hi, hL⟩ := A
  have U0 : ¬ o.1 = 0 → UL nb ns np s o.2.2 := by
    rw [ho]
    exact ul_ship0 u l _ _ _ _
  have U1 : o.1 = 0 → UL nb (ns + 1) np s o.2.2 := by
    rw [ho]
    exact ul_ship1 R.2.1 u l _ _ _ _
  have F : Fr Pcl s s1 := by
    rw [e1]
    by_cases e : o.1 = 0
    · exact (U1 e).1
    · exact (U0 e).1
  have e17 : s1 17 = s 17 := F.k rfl
  rw [← e17] at ho
  have R1 := (R.cs F).ms D.1 D.2.2.1 D.2.2.2.1
  have g16 : m1.2.2.1 16 0 = true := by
    rw [D.2.2.1]
    exact h16
  have g13 : m1.2.2.2.1 13 = np := by
    rw [D.2.2.2.1]
    exact h13
  have ix1 := W.ix (m1 := m1) hi hL 1 (by decide) D.2.1
  have ix2 := W.ix (m1 := m1) hi hL 2 (by decide) D.2.1
  have ix3 := W.ix (m1 := m1) hi hL 3 (by decide) D.2.1
  have ix4 := W.ix (m1 := m1) hi hL 4 (by decide) D.2.1
  have fin0 : ∀ w : ¬ o.1 = 0, ∀ (β' σ' : Nat → Nat) (ρ' : Nat → Nat → Nat) (s' : ew_S) (m' : ew_H), R0 nb ns np (3540 * n) β' σ' ρ' o.2.2 s' m' → Ex PT 0 s1 m1 s' m' → s' 16 0 0 = ei ((fun n => n) o.1) → ew_e17 (ew_hp s1 m1) (ew_hp s' m') → ew_e13 (ew_hp s1 m1) (ew_hp s' m') → ew_W (ew_Call (d + 9)) 242 K (614, [some (ew_o 17 0), some (ew_o 11 0), some (ew_o 16 0), some (ew_o 19 0), some (ew_i (ei (5 * n))), some (ew_i c), u6, u7, u8], [ew_i o.2.1], ew_hp s' m') := fun w β' σ' ρ' s' m' R' E e x17 x13 =>
    lt_ship (e.trans hc.symm) (fun z => by rw [(E.1 19 rfl).2]; exact hV z) (lw_next k (MI.next g16 e1 R' (by omega) E (Eq.trans x13 g13) (U0 w).2.1 (U0 w).2.2.1 (show t ≤ 24 * (n + 1) by omega) ((U0 w).2.2.2.trans hT)) (W.next (m1 := m1) (by rw [D.2.1]) D.2.2.2.2.1 D.2.2.2.2.2 E (by decide) x17))
  have fin1 : ∀ w : o.1 = 0, ∀ (β' σ' : Nat → Nat) (ρ' : Nat → Nat → Nat) (s' : ew_S) (m' : ew_H), R0 nb (ns + 1) np (3540 * n) β' σ' ρ' o.2.2 s' m' → Ex PT 4 s1 m1 s' m' → s' 16 0 0 = ei ((fun n => n) o.1) → ew_e17 (ew_hp s1 m1) (ew_hp s' m') → ew_e13 (ew_hp s1 m1) (ew_hp s' m') → ew_W (ew_Call (d + 9)) 242 K (614, [some (ew_o 17 0), some (ew_o 11 0), some (ew_o 16 0), some (ew_o 19 0), some (ew_i (ei (5 * n))), some (ew_i c), u6, u7, u8], [ew_i o.2.1], ew_hp s' m') := fun w β' σ' ρ' s' m' R' E e x17 x13 =>
    lt_ship (e.trans hc.symm) (fun z => by rw [(E.1 19 rfl).2]; exact hV z) (lw_next k (MI.next g16 e1 R' (by omega) E (Eq.trans x13 g13) (U1 w).2.1 (U1 w).2.2.1 (show t ≤ 24 * (n + 1) by omega) ((U1 w).2.2.2.trans hT)) (W.next (m1 := m1) (by rw [D.2.1]) D.2.2.2.2.1 D.2.2.2.2.2 E (by decide) x17))
  subst ho
  exact ew_go (fun pc => Nat.beq pc 614) 40 ⟨ix1, ix2, ix3, ix4, ew_c13 (by decide) (by decide) (ew_c17 (xw_ship R1 g16 u _ _ _ _ (fun w β' σ' ρ' s' m' R' E e x17 x13 => fin0 w β' σ' ρ' s' m' R' E e x17 x13) (fun w β' σ' ρ' s' m' R' E e x17 x13 => fin1 w β' σ' ρ' s' m' R' E e x17 x13)))⟩
theorem lw_ship (A : LA L c0 d0 nb ns np n β σ ρ s m) (k : LK d K L c0 d0 n) : ew_W (ew_Call (d + 9)) 242 K (555, [some (ew_o 17 0), some (ew_o 11 0), some (ew_o 16 0), some (ew_o 19 0), some (ew_i (ei (5 * n))), u5, u6, u7, u8], [], ew_hp s m) := by
  have A0 := A
  obtain ⟨⟨R, ⟨h16, h13⟩, ⟨u, l⟩, t, ht, hT⟩, W, hn, hi, hL⟩ := A0
  have ix1 := W.ix (m1 := m) hi hL 1 (by decide) rfl
  have ix2 := W.ix (m1 := m) hi hL 2 (by decide) rfl
  have ix3 := W.ix (m1 := m) hi hL 3 (by decide) rfl
  have ix4 := W.ix (m1 := m) hi hL 4 (by decide) rfl
  have h3 := cdA_3 _ (cc_ship (s 17 (ei (5 * n) + 1).toNatClampNeg 0) (s 17 (ei (5 * n) + 2).toNatClampNeg 0) (s 17 (ei (5 * n) + 3).toNatClampNeg 0) (s 17 (ei (5 * n) + 4).toNatClampNeg 0) s)
  have fin : ∀ m1 c, MD m m1 → c = ei ((fun n => n) (op_ship (s 17 (ei (5 * n) + 1).toNatClampNeg 0) (s 17 (ei (5 * n) + 2).toNatClampNeg 0) (s 17 (ei (5 * n) + 3).toNatClampNeg 0) (s 17 (ei (5 * n) + 4).toNatClampNeg 0) s).1) → (c = 0 → m1.1 19 0 0 = ew_j (op_ship (s 17 (ei (5 * n) + 1).toNatClampNeg 0) (s 17 (ei (5 * n) + 2).toNatClampNeg 0) (s 17 (ei (5 * n) + 3).toNatClampNeg 0) (s 17 (ei (5 * n) + 4).toNatClampNeg 0) s).2.1.toInt64) → ew_W (ew_Call (d + 9)) 242 K (584, [some (ew_o 17 0), some (ew_o 11 0), some (ew_o 16 0), some (ew_o 19 0), some (ew_i (ei (5 * n))), u5, u6, u7, u8], [ew_i c], ew_hp (op_ship (s 17 (ei (5 * n) + 1).toNatClampNeg 0) (s 17 (ei (5 * n) + 2).toNatClampNeg 0) (s 17 (ei (5 * n) + 3).toNatClampNeg 0) (s 17 (ei (5 * n) + 4).toNatClampNeg 0) s).2.2 m1) := fun m1 c D hc hV => lw_ship1 A D rfl rfl hc hV k
  exact ew_go (fun pc => Nat.beq pc 584) 40 ⟨ix1, ix2, ix3, ix4, xv_ship R.2.1 _ _ _ _ (KV.md rfl (Nat.lt_of_le_of_lt h3 (by decide)) fin)⟩
theorem lw_steer1 {o : ew_O} (A : LA L c0 d0 nb ns np n β σ ρ s m) (D : MD m m1) (ho : o = op_steer (s 17 (ei (5 * n) + 1).toNatClampNeg 0) (s 17 (ei (5 * n) + 2).toNatClampNeg 0) s) (e1 : s1 = o.2.2) (hc : c = ei (ef_tc o.1)) (hV : c = 0 → m1.1 19 0 0 = ew_j o.2.1.toInt64) (k : LK d K L c0 d0 n) : ew_W (ew_Call (d + 9)) 242 K (664, [some (ew_o 17 0), some (ew_o 11 0), some (ew_o 16 0), some (ew_o 19 0), some (ew_i (ei (5 * n))), u5, u6, u7, u8], [ew_i c], ew_hp s1 m1) := by
  obtain ⟨⟨R, ⟨h16, h13⟩, ⟨u, l⟩, t, ht, hT⟩, W, hn, hi, hL⟩ := A
  have U : UL nb ns np s o.2.2 := by
    rw [ho]
    exact ul_steer R.2.1 u l _ _
  have F : Fr Pcl s s1 := by
    rw [e1]
    exact U.1
  have e17 : s1 17 = s 17 := F.k rfl
  rw [← e17] at ho
  have R1 := (R.cs F).ms D.1 D.2.2.1 D.2.2.2.1
  have g16 : m1.2.2.1 16 0 = true := by
    rw [D.2.2.1]
    exact h16
  have g13 : m1.2.2.2.1 13 = np := by
    rw [D.2.2.2.1]
    exact h13
  have ix1 := W.ix (m1 := m1) hi hL 1 (by decide) D.2.1
  have ix2 := W.ix (m1 := m1) hi hL 2 (by decide) D.2.1
  have fin : ∀ (β' σ' : Nat → Nat) (ρ' : Nat → Nat → Nat) (s' : ew_S) (m' : ew_H), R0 nb ns np (3540 * n) β' σ' ρ' o.2.2 s' m' → Ex PT 1 s1 m1 s' m' → s' 16 0 0 = ei (ef_tc o.1) → ew_e17 (ew_hp s1 m1) (ew_hp s' m') → ew_e13 (ew_hp s1 m1) (ew_hp s' m') → ew_W (ew_Call (d + 9)) 242 K (682, [some (ew_o 17 0), some (ew_o 11 0), some (ew_o 16 0), some (ew_o 19 0), some (ew_i (ei (5 * n))), some (ew_i c), u6, u7, u8], [ew_i o.2.1], ew_hp s' m') := fun β' σ' ρ' s' m' R' E e x17 x13 =>
    lt_steer (e.trans hc.symm) (fun z => by rw [(E.1 19 rfl).2]; exact hV z) (lw_next k (MI.next g16 e1 R' (by omega) E (Eq.trans x13 g13) U.2.1 U.2.2.1 (show t ≤ 24 * (n + 1) by omega) (U.2.2.2.trans hT)) (W.next (m1 := m1) (by rw [D.2.1]) D.2.2.2.2.1 D.2.2.2.2.2 E (by decide) x17))
  subst ho
  exact ew_go (fun pc => Nat.beq pc 682) 40 ⟨ix1, ix2, ew_c13 (by decide) (by decide) (ew_c17 (xw_steer R1 g16 _ _ (fun β' σ' ρ' s' m' R' E e x17 x13 => fin β' σ' ρ' s' m' R' E e x17 x13)))⟩
theorem lw_steer (A : LA L c0 d0 nb ns np n β σ ρ s m) (k : LK d K L c0 d0 n) : ew_W (ew_Call (d + 9)) 242 K (647, [some (ew_o 17 0), some (ew_o 11 0), some (ew_o 16 0), some (ew_o 19 0), some (ew_i (ei (5 * n))), u5, u6, u7, u8], [], ew_hp s m) := by
  have A0 := A
  obtain ⟨⟨R, ⟨h16, h13⟩, ⟨u, l⟩, t, ht, hT⟩, W, hn, hi, hL⟩ := A0
  have ix1 := W.ix (m1 := m) hi hL 1 (by decide) rfl
  have ix2 := W.ix (m1 := m) hi hL 2 (by decide) rfl
  have h3 := cdB_3 _ (cc_steer (s 17 (ei (5 * n) + 1).toNatClampNeg 0) (s 17 (ei (5 * n) + 2).toNatClampNeg 0) s)
  have fin : ∀ m1 c, MD m m1 → c = ei (ef_tc (op_steer (s 17 (ei (5 * n) + 1).toNatClampNeg 0) (s 17 (ei (5 * n) + 2).toNatClampNeg 0) s).1) → (c = 0 → m1.1 19 0 0 = ew_j (op_steer (s 17 (ei (5 * n) + 1).toNatClampNeg 0) (s 17 (ei (5 * n) + 2).toNatClampNeg 0) s).2.1.toInt64) → ew_W (ew_Call (d + 9)) 242 K (664, [some (ew_o 17 0), some (ew_o 11 0), some (ew_o 16 0), some (ew_o 19 0), some (ew_i (ei (5 * n))), u5, u6, u7, u8], [ew_i c], ew_hp (op_steer (s 17 (ei (5 * n) + 1).toNatClampNeg 0) (s 17 (ei (5 * n) + 2).toNatClampNeg 0) s).2.2 m1) := fun m1 c D hc hV => lw_steer1 A D rfl rfl hc hV k
  exact ew_go (fun pc => Nat.beq pc 664) 40 ⟨ix1, ix2, xv_steer R.2.1 _ _ (KV.md rfl (ef_tc_lt h3) fin)⟩
theorem lw_sail1 {o : ew_O} (A : LA L c0 d0 nb ns np n β σ ρ s m) (D : MD m m1) (ho : o = op_sail (s 17 (ei (5 * n) + 1).toNatClampNeg 0) (s 17 (ei (5 * n) + 2).toNatClampNeg 0) s) (e1 : s1 = o.2.2) (hc : c = ei (ef_tc o.1)) (hV : c = 0 → m1.1 19 0 0 = ew_j o.2.1.toInt64) (k : LK d K L c0 d0 n) : ew_W (ew_Call (d + 9)) 242 K (732, [some (ew_o 17 0), some (ew_o 11 0), some (ew_o 16 0), some (ew_o 19 0), some (ew_i (ei (5 * n))), u5, u6, u7, u8], [ew_i c], ew_hp s1 m1) := by
  obtain ⟨⟨R, ⟨h16, h13⟩, ⟨u, l⟩, t, ht, hT⟩, W, hn, hi, hL⟩ := A
  have U : UL nb ns np s o.2.2 := by
    rw [ho]
    exact ul_sail R.2.1 u l _ _
  have F : Fr Pcl s s1 := by
    rw [e1]
    exact U.1
  have e17 : s1 17 = s 17 := F.k rfl
  rw [← e17] at ho
  have R1 := (R.cs F).ms D.1 D.2.2.1 D.2.2.2.1
  have g16 : m1.2.2.1 16 0 = true := by
    rw [D.2.2.1]
    exact h16
  have g13 : m1.2.2.2.1 13 = np := by
    rw [D.2.2.2.1]
    exact h13
  have ix1 := W.ix (m1 := m1) hi hL 1 (by decide) D.2.1
  have ix2 := W.ix (m1 := m1) hi hL 2 (by decide) D.2.1
  have fin : ∀ (β' σ' : Nat → Nat) (ρ' : Nat → Nat → Nat) (s' : ew_S) (m' : ew_H), R0 nb ns np (3540 * n) β' σ' ρ' o.2.2 s' m' → Ex PT 1 s1 m1 s' m' → s' 16 0 0 = ei (ef_tc o.1) → ew_e17 (ew_hp s1 m1) (ew_hp s' m') → ew_e13 (ew_hp s1 m1) (ew_hp s' m') → ew_W (ew_Call (d + 9)) 242 K (750, [some (ew_o 17 0), some (ew_o 11 0), some (ew_o 16 0), some (ew_o 19 0), some (ew_i (ei (5 * n))), some (ew_i c), u6, u7, u8], [ew_i o.2.1], ew_hp s' m') := fun β' σ' ρ' s' m' R' E e x17 x13 =>
    lt_sail (e.trans hc.symm) (fun z => by rw [(E.1 19 rfl).2]; exact hV z) (lw_next k (MI.next g16 e1 R' (by omega) E (Eq.trans x13 g13) U.2.1 U.2.2.1 (show t ≤ 24 * (n + 1) by omega) (U.2.2.2.trans hT)) (W.next (m1 := m1) (by rw [D.2.1]) D.2.2.2.2.1 D.2.2.2.2.2 E (by decide) x17))
  subst ho
  exact ew_go (fun pc => Nat.beq pc 750) 40 ⟨ix1, ix2, ew_c13 (by decide) (by decide) (ew_c17 (xw_sail R1 g16 _ _ (fun β' σ' ρ' s' m' R' E e x17 x13 => fin β' σ' ρ' s' m' R' E e x17 x13)))⟩
theorem lw_sail (A : LA L c0 d0 nb ns np n β σ ρ s m) (k : LK d K L c0 d0 n) : ew_W (ew_Call (d + 9)) 242 K (715, [some (ew_o 17 0), some (ew_o 11 0), some (ew_o 16 0), some (ew_o 19 0), some (ew_i (ei (5 * n))), u5, u6, u7, u8], [], ew_hp s m) := by
  have A0 := A
  obtain ⟨⟨R, ⟨h16, h13⟩, ⟨u, l⟩, t, ht, hT⟩, W, hn, hi, hL⟩ := A0
  have ix1 := W.ix (m1 := m) hi hL 1 (by decide) rfl
  have ix2 := W.ix (m1 := m) hi hL 2 (by decide) rfl
  have h3 := cdB_3 _ (cc_sail (s 17 (ei (5 * n) + 1).toNatClampNeg 0) (s 17 (ei (5 * n) + 2).toNatClampNeg 0) s)
  have fin : ∀ m1 c, MD m m1 → c = ei (ef_tc (op_sail (s 17 (ei (5 * n) + 1).toNatClampNeg 0) (s 17 (ei (5 * n) + 2).toNatClampNeg 0) s).1) → (c = 0 → m1.1 19 0 0 = ew_j (op_sail (s 17 (ei (5 * n) + 1).toNatClampNeg 0) (s 17 (ei (5 * n) + 2).toNatClampNeg 0) s).2.1.toInt64) → ew_W (ew_Call (d + 9)) 242 K (732, [some (ew_o 17 0), some (ew_o 11 0), some (ew_o 16 0), some (ew_o 19 0), some (ew_i (ei (5 * n))), u5, u6, u7, u8], [ew_i c], ew_hp (op_sail (s 17 (ei (5 * n) + 1).toNatClampNeg 0) (s 17 (ei (5 * n) + 2).toNatClampNeg 0) s).2.2 m1) := fun m1 c D hc hV => lw_sail1 A D rfl rfl hc hV k
  exact ew_go (fun pc => Nat.beq pc 732) 40 ⟨ix1, ix2, xv_sail R.2.1 _ _ (KV.md rfl (ef_tc_lt h3) fin)⟩
theorem lw_halt1 {o : ew_O} (A : LA L c0 d0 nb ns np n β σ ρ s m) (D : MD m m1) (ho : o = op_halt (s 17 (ei (5 * n) + 1).toNatClampNeg 0) s) (e1 : s1 = o.2.2) (hc : c = ei ((fun n => n) o.1)) (hV : c = 0 → m1.1 19 0 0 = ew_j o.2.1.toInt64) (k : LK d K L c0 d0 n) : ew_W (ew_Call (d + 9)) 242 K (794, [some (ew_o 17 0), some (ew_o 11 0), some (ew_o 16 0), some (ew_o 19 0), some (ew_i (ei (5 * n))), u5, u6, u7, u8], [ew_i c], ew_hp s1 m1) := by
  obtain ⟨⟨R, ⟨h16, h13⟩, ⟨u, l⟩, t, ht, hT⟩, W, hn, hi, hL⟩ := A
  have U : UL nb ns np s o.2.2 := by
    rw [ho]
    exact ul_halt R.2.1 u l _
  have F : Fr Pcl s s1 := by
    rw [e1]
    exact U.1
  have e17 : s1 17 = s 17 := F.k rfl
  rw [← e17] at ho
  have R1 := (R.cs F).ms D.1 D.2.2.1 D.2.2.2.1
  have g16 : m1.2.2.1 16 0 = true := by
    rw [D.2.2.1]
    exact h16
  have g13 : m1.2.2.2.1 13 = np := by
    rw [D.2.2.2.1]
    exact h13
  have ix1 := W.ix (m1 := m1) hi hL 1 (by decide) D.2.1
  have fin : ∀ (β' σ' : Nat → Nat) (ρ' : Nat → Nat → Nat) (s' : ew_S) (m' : ew_H), R0 nb ns np (3540 * n) β' σ' ρ' o.2.2 s' m' → Ex PT 0 s1 m1 s' m' → s' 16 0 0 = ei ((fun n => n) o.1) → ew_e17 (ew_hp s1 m1) (ew_hp s' m') → ew_e13 (ew_hp s1 m1) (ew_hp s' m') → ew_W (ew_Call (d + 9)) 242 K (806, [some (ew_o 17 0), some (ew_o 11 0), some (ew_o 16 0), some (ew_o 19 0), some (ew_i (ei (5 * n))), some (ew_i c), u6, u7, u8], [ew_i o.2.1], ew_hp s' m') := fun β' σ' ρ' s' m' R' E e x17 x13 =>
    lt_halt (e.trans hc.symm) (fun z => by rw [(E.1 19 rfl).2]; exact hV z) (lw_next k (MI.next g16 e1 R' (by omega) E (Eq.trans x13 g13) U.2.1 U.2.2.1 (show t ≤ 24 * (n + 1) by omega) (U.2.2.2.trans hT)) (W.next (m1 := m1) (by rw [D.2.1]) D.2.2.2.2.1 D.2.2.2.2.2 E (by decide) x17))
  subst ho
  exact ew_go (fun pc => Nat.beq pc 806) 40 ⟨ix1, ew_c13 (by decide) (by decide) (ew_c17 (xw_halt R1 g16 _ (fun β' σ' ρ' s' m' R' E e x17 x13 => fin β' σ' ρ' s' m' R' E e x17 x13)))⟩
theorem lw_halt (A : LA L c0 d0 nb ns np n β σ ρ s m) (k : LK d K L c0 d0 n) : ew_W (ew_Call (d + 9)) 242 K (783, [some (ew_o 17 0), some (ew_o 11 0), some (ew_o 16 0), some (ew_o 19 0), some (ew_i (ei (5 * n))), u5, u6, u7, u8], [], ew_hp s m) := by
  have A0 := A
  obtain ⟨⟨R, ⟨h16, h13⟩, ⟨u, l⟩, t, ht, hT⟩, W, hn, hi, hL⟩ := A0
  have ix1 := W.ix (m1 := m) hi hL 1 (by decide) rfl
  have h3 := cd1_3 _ (cc_halt (s 17 (ei (5 * n) + 1).toNatClampNeg 0) s)
  have fin : ∀ m1 c, MD m m1 → c = ei ((fun n => n) (op_halt (s 17 (ei (5 * n) + 1).toNatClampNeg 0) s).1) → (c = 0 → m1.1 19 0 0 = ew_j (op_halt (s 17 (ei (5 * n) + 1).toNatClampNeg 0) s).2.1.toInt64) → ew_W (ew_Call (d + 9)) 242 K (794, [some (ew_o 17 0), some (ew_o 11 0), some (ew_o 16 0), some (ew_o 19 0), some (ew_i (ei (5 * n))), u5, u6, u7, u8], [ew_i c], ew_hp (op_halt (s 17 (ei (5 * n) + 1).toNatClampNeg 0) s).2.2 m1) := fun m1 c D hc hV => lw_halt1 A D rfl rfl hc hV k
  exact ew_go (fun pc => Nat.beq pc 794) 40 ⟨ix1, xv_halt R.2.1 _ (KV.md rfl (Nat.lt_of_le_of_lt h3 (by decide)) fin)⟩
theorem lw_lead1 {o : ew_O} (A : LA L c0 d0 nb ns np n β σ ρ s m) (D : MD m m1) (ho : o = op_lead (s 17 (ei (5 * n) + 1).toNatClampNeg 0) (s 17 (ei (5 * n) + 2).toNatClampNeg 0) s) (e1 : s1 = o.2.2) (hc : c = ei (ef_tc o.1)) (hV : c = 0 → m1.1 19 0 0 = ew_j o.2.1.toInt64) (k : LK d K L c0 d0 n) : ew_W (ew_Call (d + 9)) 242 K (856, [some (ew_o 17 0), some (ew_o 11 0), some (ew_o 16 0), some (ew_o 19 0), some (ew_i (ei (5 * n))), u5, u6, u7, u8], [ew_i c], ew_hp s1 m1) := by
  obtain ⟨⟨R, ⟨h16, h13⟩, ⟨u, l⟩, t, ht, hT⟩, W, hn, hi, hL⟩ := A
  have U : UL nb ns np s o.2.2 := by
    rw [ho]
    exact ul_lead R.2.1 u l _ _
  have F : Fr Pcl s s1 := by
    rw [e1]
    exact U.1
  have e17 : s1 17 = s 17 := F.k rfl
  rw [← e17] at ho
  have R1 := (R.cs F).ms D.1 D.2.2.1 D.2.2.2.1
  have g16 : m1.2.2.1 16 0 = true := by
    rw [D.2.2.1]
    exact h16
  have g13 : m1.2.2.2.1 13 = np := by
    rw [D.2.2.2.1]
    exact h13
  have ix1 := W.ix (m1 := m1) hi hL 1 (by decide) D.2.1
  have ix2 := W.ix (m1 := m1) hi hL 2 (by decide) D.2.1
  have fin : ∀ (β' σ' : Nat → Nat) (ρ' : Nat → Nat → Nat) (s' : ew_S) (m' : ew_H), R0 nb ns np (3540 * n) β' σ' ρ' o.2.2 s' m' → Ex PT 2 s1 m1 s' m' → s' 16 0 0 = ei (ef_tc o.1) → ew_e17 (ew_hp s1 m1) (ew_hp s' m') → ew_e13 (ew_hp s1 m1) (ew_hp s' m') → ew_W (ew_Call (d + 9)) 242 K (874, [some (ew_o 17 0), some (ew_o 11 0), some (ew_o 16 0), some (ew_o 19 0), some (ew_i (ei (5 * n))), some (ew_i c), u6, u7, u8], [ew_i o.2.1], ew_hp s' m') := fun β' σ' ρ' s' m' R' E e x17 x13 =>
    lt_lead (e.trans hc.symm) (fun z => by rw [(E.1 19 rfl).2]; exact hV z) (lw_next k (MI.next g16 e1 R' (by omega) E (Eq.trans x13 g13) U.2.1 U.2.2.1 (show t ≤ 24 * (n + 1) by omega) (U.2.2.2.trans hT)) (W.next (m1 := m1) (by rw [D.2.1]) D.2.2.2.2.1 D.2.2.2.2.2 E (by decide) x17))
  subst ho
  exact ew_go (fun pc => Nat.beq pc 874) 40 ⟨ix1, ix2, ew_c13 (by decide) (by decide) (ew_c17 (xw_lead R1 g16 l _ _ (fun β' σ' ρ' s' m' R' E e x17 x13 => fin β' σ' ρ' s' m' R' E e x17 x13)))⟩
theorem lw_lead (A : LA L c0 d0 nb ns np n β σ ρ s m) (k : LK d K L c0 d0 n) : ew_W (ew_Call (d + 9)) 242 K (839, [some (ew_o 17 0), some (ew_o 11 0), some (ew_o 16 0), some (ew_o 19 0), some (ew_i (ei (5 * n))), u5, u6, u7, u8], [], ew_hp s m) := by
  have A0 := A
  obtain ⟨⟨R, ⟨h16, h13⟩, ⟨u, l⟩, t, ht, hT⟩, W, hn, hi, hL⟩ := A0
  have ix1 := W.ix (m1 := m) hi hL 1 (by decide) rfl
  have ix2 := W.ix (m1 := m) hi hL 2 (by decide) rfl
  have h3 := cdB_3 _ (cc_lead (s 17 (ei (5 * n) + 1).toNatClampNeg 0) (s 17 (ei (5 * n) + 2).toNatClampNeg 0) s)
  have fin : ∀ m1 c, MD m m1 → c = ei (ef_tc (op_lead (s 17 (ei (5 * n) + 1).toNatClampNeg 0) (s 17 (ei (5 * n) + 2).toNatClampNeg 0) s).1) → (c = 0 → m1.1 19 0 0 = ew_j (op_lead (s 17 (ei (5 * n) + 1).toNatClampNeg 0) (s 17 (ei (5 * n) + 2).toNatClampNeg 0) s).2.1.toInt64) → ew_W (ew_Call (d + 9)) 242 K (856, [some (ew_o 17 0), some (ew_o 11 0), some (ew_o 16 0), some (ew_o 19 0), some (ew_i (ei (5 * n))), u5, u6, u7, u8], [ew_i c], ew_hp (op_lead (s 17 (ei (5 * n) + 1).toNatClampNeg 0) (s 17 (ei (5 * n) + 2).toNatClampNeg 0) s).2.2 m1) := fun m1 c D hc hV => lw_lead1 A D rfl rfl hc hV k
  exact ew_go (fun pc => Nat.beq pc 856) 40 ⟨ix1, ix2, xv_lead R.2.1 _ _ (KV.md rfl (ef_tc_lt h3) fin)⟩
theorem lw_tow1 {o : ew_O} (A : LA L c0 d0 nb ns np n β σ ρ s m) (D : MD m m1) (ho : o = op_tow (s 17 (ei (5 * n) + 1).toNatClampNeg 0) (s 17 (ei (5 * n) + 2).toNatClampNeg 0) s) (e1 : s1 = o.2.2) (hc : c = ei (ef_tc o.1)) (hV : c = 0 → m1.1 19 0 0 = ew_j o.2.1.toInt64) (k : LK d K L c0 d0 n) : ew_W (ew_Call (d + 9)) 242 K (924, [some (ew_o 17 0), some (ew_o 11 0), some (ew_o 16 0), some (ew_o 19 0), some (ew_i (ei (5 * n))), u5, u6, u7, u8], [ew_i c], ew_hp s1 m1) := by
  obtain ⟨⟨R, ⟨h16, h13⟩, ⟨u, l⟩, t, ht, hT⟩, W, hn, hi, hL⟩ := A
  have U : UL nb ns np s o.2.2 := by
    rw [ho]
    exact ul_tow R.2.1 u l _ _
  have F : Fr Pcl s s1 := by
    rw [e1]
    exact U.1
  have e17 : s1 17 = s 17 := F.k rfl
  rw [← e17] at ho
  have R1 := (R.cs F).ms D.1 D.2.2.1 D.2.2.2.1
  have g16 : m1.2.2.1 16 0 = true := by
    rw [D.2.2.1]
    exact h16
  have g13 : m1.2.2.2.1 13 = np := by
    rw [D.2.2.2.1]
    exact h13
  have ix1 := W.ix (m1 := m1) hi hL 1 (by decide) D.2.1
  have ix2 := W.ix (m1 := m1) hi hL 2 (by decide) D.2.1
  have fin : ∀ (β' σ' : Nat → Nat) (ρ' : Nat → Nat → Nat) (s' : ew_S) (m' : ew_H), R0 nb ns np (3540 * n) β' σ' ρ' o.2.2 s' m' → Ex PT 1 s1 m1 s' m' → s' 16 0 0 = ei (ef_tc o.1) → ew_e17 (ew_hp s1 m1) (ew_hp s' m') → ew_e13 (ew_hp s1 m1) (ew_hp s' m') → ew_W (ew_Call (d + 9)) 242 K (942, [some (ew_o 17 0), some (ew_o 11 0), some (ew_o 16 0), some (ew_o 19 0), some (ew_i (ei (5 * n))), some (ew_i c), u6, u7, u8], [ew_i o.2.1], ew_hp s' m') := fun β' σ' ρ' s' m' R' E e x17 x13 =>
    lt_tow (e.trans hc.symm) (fun z => by rw [(E.1 19 rfl).2]; exact hV z) (lw_next k (MI.next g16 e1 R' (by omega) E (Eq.trans x13 g13) U.2.1 U.2.2.1 (show t ≤ 24 * (n + 1) by omega) (U.2.2.2.trans hT)) (W.next (m1 := m1) (by rw [D.2.1]) D.2.2.2.2.1 D.2.2.2.2.2 E (by decide) x17))
  subst ho
  exact ew_go (fun pc => Nat.beq pc 942) 40 ⟨ix1, ix2, ew_c13 (by decide) (by decide) (ew_c17 (xw_tow R1 g16 l _ _ (fun β' σ' ρ' s' m' R' E e x17 x13 => fin β' σ' ρ' s' m' R' E e x17 x13)))⟩
theorem lw_tow (A : LA L c0 d0 nb ns np n β σ ρ s m) (k : LK d K L c0 d0 n) : ew_W (ew_Call (d + 9)) 242 K (907, [some (ew_o 17 0), some (ew_o 11 0), some (ew_o 16 0), some (ew_o 19 0), some (ew_i (ei (5 * n))), u5, u6, u7, u8], [], ew_hp s m) := by
  have A0 := A
  obtain ⟨⟨R, ⟨h16, h13⟩, ⟨u, l⟩, t, ht, hT⟩, W, hn, hi, hL⟩ := A0
  have ix1 := W.ix (m1 := m) hi hL 1 (by decide) rfl
  have ix2 := W.ix (m1 := m) hi hL 2 (by decide) rfl
  have h3 := cdB_3 _ (cc_tow (s 17 (ei (5 * n) + 1).toNatClampNeg 0) (s 17 (ei (5 * n) + 2).toNatClampNeg 0) s)
  have fin : ∀ m1 c, MD m m1 → c = ei (ef_tc (op_tow (s 17 (ei (5 * n) + 1).toNatClampNeg 0) (s 17 (ei (5 * n) + 2).toNatClampNeg 0) s).1) → (c = 0 → m1.1 19 0 0 = ew_j (op_tow (s 17 (ei (5 * n) + 1).toNatClampNeg 0) (s 17 (ei (5 * n) + 2).toNatClampNeg 0) s).2.1.toInt64) → ew_W (ew_Call (d + 9)) 242 K (924, [some (ew_o 17 0), some (ew_o 11 0), some (ew_o 16 0), some (ew_o 19 0), some (ew_i (ei (5 * n))), u5, u6, u7, u8], [ew_i c], ew_hp (op_tow (s 17 (ei (5 * n) + 1).toNatClampNeg 0) (s 17 (ei (5 * n) + 2).toNatClampNeg 0) s).2.2 m1) := fun m1 c D hc hV => lw_tow1 A D rfl rfl hc hV k
  exact ew_go (fun pc => Nat.beq pc 924) 40 ⟨ix1, ix2, xv_tow R.2.1 _ _ (KV.md rfl (ef_tc_lt h3) fin)⟩
theorem lw_fuel1 {o : ew_O} (A : LA L c0 d0 nb ns np n β σ ρ s m) (D : MD m m1) (ho : o = op_fuel (s 17 (ei (5 * n) + 1).toNatClampNeg 0) (s 17 (ei (5 * n) + 2).toNatClampNeg 0) s) (e1 : s1 = o.2.2) (hc : c = ei ((fun n => n) o.1)) (hV : c = 0 → m1.1 19 0 0 = ew_j o.2.1.toInt64) (k : LK d K L c0 d0 n) : ew_W (ew_Call (d + 9)) 242 K (992, [some (ew_o 17 0), some (ew_o 11 0), some (ew_o 16 0), some (ew_o 19 0), some (ew_i (ei (5 * n))), u5, u6, u7, u8], [ew_i c], ew_hp s1 m1) := by
  obtain ⟨⟨R, ⟨h16, h13⟩, ⟨u, l⟩, t, ht, hT⟩, W, hn, hi, hL⟩ := A
  have U : UL nb ns np s o.2.2 := by
    rw [ho]
    exact ul_fuel R.2.1 u l _ _
  have F : Fr Pcl s s1 := by
    rw [e1]
    exact U.1
  have e17 : s1 17 = s 17 := F.k rfl
  rw [← e17] at ho
  have R1 := (R.cs F).ms D.1 D.2.2.1 D.2.2.2.1
  have g16 : m1.2.2.1 16 0 = true := by
    rw [D.2.2.1]
    exact h16
  have g13 : m1.2.2.2.1 13 = np := by
    rw [D.2.2.2.1]
    exact h13
  have ix1 := W.ix (m1 := m1) hi hL 1 (by decide) D.2.1
  have ix2 := W.ix (m1 := m1) hi hL 2 (by decide) D.2.1
  have fin : ∀ (β' σ' : Nat → Nat) (ρ' : Nat → Nat → Nat) (s' : ew_S) (m' : ew_H), R0 nb ns np (3540 * n) β' σ' ρ' o.2.2 s' m' → Ex PT 1 s1 m1 s' m' → s' 16 0 0 = ei ((fun n => n) o.1) → ew_e17 (ew_hp s1 m1) (ew_hp s' m') → ew_e13 (ew_hp s1 m1) (ew_hp s' m') → ew_W (ew_Call (d + 9)) 242 K (1010, [some (ew_o 17 0), some (ew_o 11 0), some (ew_o 16 0), some (ew_o 19 0), some (ew_i (ei (5 * n))), some (ew_i c), u6, u7, u8], [ew_i o.2.1], ew_hp s' m') := fun β' σ' ρ' s' m' R' E e x17 x13 =>
    lt_fuel (e.trans hc.symm) (fun z => by rw [(E.1 19 rfl).2]; exact hV z) (lw_next k (MI.next g16 e1 R' (by omega) E (Eq.trans x13 g13) U.2.1 U.2.2.1 (show t ≤ 24 * (n + 1) by omega) (U.2.2.2.trans hT)) (W.next (m1 := m1) (by rw [D.2.1]) D.2.2.2.2.1 D.2.2.2.2.2 E (by decide) x17))
  subst ho
  exact ew_go (fun pc => Nat.beq pc 1010) 40 ⟨ix1, ix2, ew_c13 (by decide) (by decide) (ew_c17 (xw_fuel R1 g16 _ _ (fun β' σ' ρ' s' m' R' E e x17 x13 => fin β' σ' ρ' s' m' R' E e x17 x13)))⟩
theorem lw_fuel (A : LA L c0 d0 nb ns np n β σ ρ s m) (k : LK d K L c0 d0 n) : ew_W (ew_Call (d + 9)) 242 K (975, [some (ew_o 17 0), some (ew_o 11 0), some (ew_o 16 0), some (ew_o 19 0), some (ew_i (ei (5 * n))), u5, u6, u7, u8], [], ew_hp s m) := by
  have A0 := A
  obtain ⟨⟨R, ⟨h16, h13⟩, ⟨u, l⟩, t, ht, hT⟩, W, hn, hi, hL⟩ := A0
  have ix1 := W.ix (m1 := m) hi hL 1 (by decide) rfl
  have ix2 := W.ix (m1 := m) hi hL 2 (by decide) rfl
  have h3 := cdA_3 _ (cc_fuel (s 17 (ei (5 * n) + 1).toNatClampNeg 0) (s 17 (ei (5 * n) + 2).toNatClampNeg 0) s)
  have fin : ∀ m1 c, MD m m1 → c = ei ((fun n => n) (op_fuel (s 17 (ei (5 * n) + 1).toNatClampNeg 0) (s 17 (ei (5 * n) + 2).toNatClampNeg 0) s).1) → (c = 0 → m1.1 19 0 0 = ew_j (op_fuel (s 17 (ei (5 * n) + 1).toNatClampNeg 0) (s 17 (ei (5 * n) + 2).toNatClampNeg 0) s).2.1.toInt64) → ew_W (ew_Call (d + 9)) 242 K (992, [some (ew_o 17 0), some (ew_o 11 0), some (ew_o 16 0), some (ew_o 19 0), some (ew_i (ei (5 * n))), u5, u6, u7, u8], [ew_i c], ew_hp (op_fuel (s 17 (ei (5 * n) + 1).toNatClampNeg 0) (s 17 (ei (5 * n) + 2).toNatClampNeg 0) s).2.2 m1) := fun m1 c D hc hV => lw_fuel1 A D rfl rfl hc hV k
  exact ew_go (fun pc => Nat.beq pc 992) 40 ⟨ix1, ix2, xv_fuel R.2.1 _ _ (KV.md rfl (Nat.lt_of_le_of_lt h3 (by decide)) fin)⟩
end
