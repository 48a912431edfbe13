/-! The law's loop: hours pass; the mean; the digest; the loop. -/
theorem op_pass_t {x w v : Int32} {g : Nat} {a : ew_S} (hg : g ≤ 24) (hv : v = ei g) (ha : op_args v x w) : op_pass x w v a = (0, (sp_hs 0 x w a g).1, (sp_hs 0 x w a g).2) := by
  unfold op_pass
  rw [if_pos ⟨ha.2, ha.1⟩, hv, ei_nat (by omega)]
theorem op_pass_f {x w v : Int32} {a : ew_S} (ha : ¬ op_args v x w) : op_pass x w v a = (2, 0, a) := by
  unfold op_pass
  rw [if_neg (fun q => ha ⟨q.2, q.1⟩)]
theorem op_args_g {x w v : Int32} (ha : op_args v x w) : ∃ g, g ≤ 24 ∧ v = ei g := by
  obtain ⟨⟨h1, h2⟩, -⟩ := ha
  rcases ei_dec v 25 (by decide) with ⟨g, hg, rfl⟩ | ⟨h | h, -⟩
  · exact ⟨g, by omega, rfl⟩
  · exact absurd (Int32.le_trans h1 (Int32.le_of_lt h)) (by decide)
  · exact absurd (Int32.le_trans h h2) (by decide)
theorem fc_pass {nb ns np T : Nat} {a : ew_S} (h : Iv 0 nb ns np T a) (hT : T ≤ 90000000) (x w v : Int32) : Fr Pcl a (op_pass x w v a).2.2 := by
  by_cases ha : op_args v x w
  · obtain ⟨g, hg, hv⟩ := op_args_g ha
    rw [op_pass_t hg hv ha]
    exact fc_hs h x w ha.2.1 g (by omega)
  · rw [op_pass_f ha]
    exact Fr.rf _ _
section
variable {d : Nat} {s s1 : ew_S} {m m1 : ew_H} {K : ew_R → ew_H → Prop} {L c0 d0 nb ns np n T : Nat} {β σ : Nat → Nat} {ρ : Nat → Nat → Nat} {u5 u6 u7 u8 : Option ew_V} {c v : Int32} 
theorem lw_pass1 {o : ew_O} (A : LA L c0 d0 nb ns np n β σ ρ s m) (D : MD m m1) (ho : o = op_pass (s 17 (ei (5 * n) + 1).toNatClampNeg 0) (s 17 (ei (5 * n) + 2).toNatClampNeg 0) (s 17 (ei (5 * n) + 3).toNatClampNeg 0) s) (e1 : s1 = o.2.2) (hc : c = ei (ef_ps o.1)) (hV : c = 0 → m1.1 19 0 0 = ew_j o.2.1.toInt64) (k : LK d K L c0 d0 n) : ew_W (ew_Call (d + 9)) 242 K (1066, [some (ew_o 17 0), some (ew_o 11 0), some (ew_o 16 0), some (ew_o 19 0), some (ew_i (ei (5 * n))), u5, u6, u7, u8], [ew_i c], ew_hp s1 m1) := by
  obtain ⟨⟨R, ⟨h16, h13⟩, ⟨u, l⟩, t, ht, hT⟩, W, hn, hi, hL⟩ := A
  have F : Fr Pcl s s1 := by
    rw [e1, ho]
    exact fc_pass R.2.1 (by omega) _ _ _
  have e17 : s1 17 = s 17 := F.k rfl
  rw [← e17] at ho
  have R1 := (R.cs F).ms D.1 D.2.2.1 D.2.2.2.1
  have g16 : m1.2.2.1 16 0 = true := by
    rw [D.2.2.1]
    exact h16
  have g13 : m1.2.2.2.1 13 = np := by
    rw [D.2.2.2.1]
    exact h13
  have ix1 := W.ix (m1 := m1) hi hL 1 (by decide) D.2.1
  have ix2 := W.ix (m1 := m1) hi hL 2 (by decide) D.2.1
  have ix3 := W.ix (m1 := m1) hi hL 3 (by decide) D.2.1
  have fin1 : ∀ (x w v : Int32) (P : Nat → Nat → Nat → Prop) (s' : ew_S) (m' : ew_H) (g : Nat), o = op_pass x w v s → g ≤ 24 → v = ei g → op_args v x w → R0 nb ns np (3540 * n + 135 * g) β σ ρ (sp_hs 0 x w s g).2 s' m' → Ex P (3 * g) s1 m1 s' m' → s' 16 0 0 = 0 → ew_e17 (ew_hp s1 m1) (ew_hp s' m') → ew_e13 (ew_hp s1 m1) (ew_hp s' m') → ew_W (ew_Call (d + 9)) 242 K (1090, [some (ew_o 17 0), some (ew_o 11 0), some (ew_o 16 0), some (ew_o 19 0), some (ew_i (ei (5 * n))), some (ew_i c), u6, u7, u8], [ew_i (sp_hs 0 x w s g).1], ew_hp s' m') := fun x w v P s' m' g ho hg hv ha R' E e x17 x13 => by
    rw [op_pass_t hg hv ha] at ho
    obtain ⟨u1, l1, t1⟩ := un_hs R.2.1 x w ha.2.1 u l hT g (by omega)
    exact lt_pass (e.trans (by rw [hc, ho]; rfl)) (fun z => by
      rw [(E.1 19 rfl).2, hV z, ho]) (lw_next k (MI.next g16 (e1.trans (by rw [ho])) R' (by omega) E (Eq.trans x13 g13) u1 l1 (show t + g ≤ 24 * (n + 1) by omega) t1) (W.next (m1 := m1) (by rw [D.2.1]) D.2.2.2.2.1 D.2.2.2.2.2 E (by omega) x17))
  have fin2 : ∀ (x w v : Int32), o = op_pass x w v s → ¬ op_args v x w → ew_W (ew_Call (d + 9)) 242 K (1090, [some (ew_o 17 0), some (ew_o 11 0), some (ew_o 16 0), some (ew_o 19 0), some (ew_i (ei (5 * n))), some (ew_i c), u6, u7, u8], [ew_i 0], ew_hp (ew_tw s1 1) m1) := fun x w v ho ha => by
    rw [op_pass_f ha] at ho
    have e2 : s1 = s := e1.trans (by rw [ho])
    have c1 : c = 1 := by
      rw [hc, ho]
      rfl
    exact lt_pass ((ew_u_self _ _ _ _ _).trans c1.symm) (fun z => absurd (c1.symm.trans z) (by decide)) (lw_next k (MI.next g16 e2 (R1.tw 1) (by omega) (Ex.tw s1 m1 1) g13 u l (show t ≤ 24 * (n + 1) by omega) hT) (W.next (m1 := m1) (by rw [D.2.1]) D.2.2.2.2.1 D.2.2.2.2.2 (Ex.tw s1 m1 1) (by decide) rfl))
  exact ew_go (fun pc => Nat.beq pc 1090) 40 ⟨ix1, ix2, ix3, ew_c13 (by decide) (by decide) (ew_c17 (xw_pass R1 g16 (by omega) _ _ _ (fun s' m' g hg hv ha R' E e x17 x13 => fin1 _ _ _ _ s' m' g ho hg hv ha R' E e x17 x13) (fun ha x17 x13 => fin2 _ _ _ ho ha)))⟩
theorem lw_pass (A : LA L c0 d0 nb ns np n β σ ρ s m) (k : LK d K L c0 d0 n) : ew_W (ew_Call (d + 9)) 242 K (1043, [some (ew_o 17 0), some (ew_o 11 0), some (ew_o 16 0), some (ew_o 19 0), some (ew_i (ei (5 * n))), u5, u6, u7, u8], [], ew_hp s m) := by
  have A0 := A
  obtain ⟨⟨R, ⟨h16, h13⟩, ⟨u, l⟩, t, ht, hT⟩, W, hn, hi, hL⟩ := A0
  have ix1 := W.ix (m1 := m) hi hL 1 (by decide) rfl
  have ix2 := W.ix (m1 := m) hi hL 2 (by decide) rfl
  have ix3 := W.ix (m1 := m) hi hL 3 (by decide) rfl
  have h3 := cd2_3 _ (cc_pass (s 17 (ei (5 * n) + 1).toNatClampNeg 0) (s 17 (ei (5 * n) + 2).toNatClampNeg 0) (s 17 (ei (5 * n) + 3).toNatClampNeg 0) s)
  have fin : ∀ m1 c, MD m m1 → c = ei (ef_ps (op_pass (s 17 (ei (5 * n) + 1).toNatClampNeg 0) (s 17 (ei (5 * n) + 2).toNatClampNeg 0) (s 17 (ei (5 * n) + 3).toNatClampNeg 0) s).1) → (c = 0 → m1.1 19 0 0 = ew_j (op_pass (s 17 (ei (5 * n) + 1).toNatClampNeg 0) (s 17 (ei (5 * n) + 2).toNatClampNeg 0) (s 17 (ei (5 * n) + 3).toNatClampNeg 0) s).2.1.toInt64) → ew_W (ew_Call (d + 9)) 242 K (1066, [some (ew_o 17 0), some (ew_o 11 0), some (ew_o 16 0), some (ew_o 19 0), some (ew_i (ei (5 * n))), u5, u6, u7, u8], [ew_i c], ew_hp (op_pass (s 17 (ei (5 * n) + 1).toNatClampNeg 0) (s 17 (ei (5 * n) + 2).toNatClampNeg 0) (s 17 (ei (5 * n) + 3).toNatClampNeg 0) s).2.2 m1) := fun m1 c D hc hV => lw_pass1 A D rfl rfl hc hV k
  exact ew_go (fun pc => Nat.beq pc 1066) 40 ⟨ix1, ix2, ix3, xv_pass R.2.1 (by omega) _ _ _ (KV.md rfl (ef_ps_lt h3) fin)⟩
theorem lw_meanIce (A : LA L c0 d0 nb ns np n β σ ρ s m) (k : LK d K L c0 d0 n) : ew_W (ew_Call (d + 9)) 242 K (1451, [some (ew_o 17 0), some (ew_o 11 0), some (ew_o 16 0), some (ew_o 19 0), some (ew_i (ei (5 * n))), u5, u6, u7, u8], [], ew_hp s m) := by
  obtain ⟨⟨R, ⟨h16, h13⟩, ⟨u, l⟩, t, ht, hT⟩, W, hn, hi, hL⟩ := A
  have fin : ∀ (s' : ew_S) (v5 v6 v7 v8 : Option ew_V), R0 nb ns np (3540 * n) β σ ρ s s' m → Ex P6 0 s m s' m → ew_W (ew_Call (d + 9)) 242 K (1778, [some (ew_o 17 0), some (ew_o 11 0), some (ew_o 16 0), some (ew_o 19 0), some (ew_i (ei (5 * n))), v5, v6, v7, v8], [], ew_hp s' m) := fun s' v5 v6 v7 v8 R' E =>
    lw_next k (MI.next h16 rfl R' (by omega) E h13 u l (show t ≤ 24 * (n + 1) by omega) hT) (W.next (m1 := m) rfl (Nat.le_succ _) (Nat.le_add_right _ _) E (by decide) rfl)
  exact ew_go (fun pc => Nat.beq pc 1778) 40 (xp_meanIce vi_div (xw_meanIce R vi_div (fun s' R' E e => ⟨fun _ => fin s' _ _ _ _ R' E, fun z => ⟨fun w => absurd w z, fun _ => ⟨fun _ => fin s' _ _ _ _ R' E, fun w => absurd z w⟩⟩⟩)))
theorem lw_digest (A : LA L c0 d0 nb ns np n β σ ρ s m) (k : LK d K L c0 d0 n) : ew_W (ew_Call (d + 9)) 242 K (1764, [some (ew_o 17 0), some (ew_o 11 0), some (ew_o 16 0), some (ew_o 19 0), some (ew_i (ei (5 * n))), u5, u6, u7, u8], [], ew_hp s m) := by
  obtain ⟨⟨R, ⟨h16, h13⟩, ⟨u, l⟩, t, ht, hT⟩, W, hn, hi, hL⟩ := A
  have h5 := R.2.1.1
  have h0 : 0 ≤ s 9 5 0 := by
    rw [hT]
    exact Int32.not_lt.mp (ei_nn (by omega))
  have fin : ∀ (s1 s' : ew_S) (m' : ew_H), Fr Pct s s1 → R0 nb ns np (3540 * n) β σ ρ s s' m' → Ex P6 880 s1 m s' m' → ew_e17 (ew_hp s1 m) (ew_hp s' m') → ew_e13 (ew_hp s1 m) (ew_hp s' m') → ew_W (ew_Call (d + 9)) 242 K (1778, [some (ew_o 17 0), some (ew_o 11 0), some (ew_o 16 0), some (ew_o 19 0), some (ew_i (ei (5 * n))), u5, u6, u7, u8], [], ew_hp s' m') := fun s1 s' m' F R' E x17 x13 => by
    have U := ul_pt u l (by omega) F
    exact lw_next k (MI.next h16 rfl (R'.pt F) (by omega) E (Eq.trans x13 h13) U.2.1 U.2.2.1 (show t ≤ 24 * (n + 1) by omega) (U.2.2.2.trans hT)) (W.next (m1 := m) rfl (Nat.le_succ _) (Nat.le_add_right _ _) E (by decide) x17)
  have R1 : ∀ s1, Fr Pct s s1 → R0 nb ns np (3540 * n) β σ ρ s s1 m := fun s1 F => R.cs (ul_pt u l (by omega) F).1
  exact ew_go (fun pc => Nat.beq pc 1778) 40 (xp_digest R.2.1 (by omega) h0 (fun s1 A F hA => ew_c13 (by decide) (by decide) (ew_c17 (xw_digest (R1 s1 F) (by omega) hA (fun s' m' R' E x17 x13 => ⟨fun _ => ⟨fun _ => fin s1 s' m' F R' E x17 x13, fun z => absurd rfl z⟩, fun z => absurd rfl z⟩)))))
end
