/-! A new ship, a new port: the model. -/
section
variable {d : Nat} {K : ew_R → ew_H → Prop} {nb ns np T : Nat} {β σ : Nat → Nat} {ρ : Nat → Nat → Nat} {a s : ew_S} {m : ew_H}
theorem xw_ship (h : RR 0 0 nb ns np T β σ ρ (fun _ _ _ => 0) a s m) (h16 : m.2.2.1 16 0 = true) (u : Un nb ns np a) (x r w p : Int32) (k0 : ¬ (op_ship x r w p a).1 = 0 → KT nb ns np T 0 s m K (fun n => n) (op_ship x r w p a)) (k1 : (op_ship x r w p a).1 = 0 → KT nb (ns + 1) np T 4 s m K (fun n => n) (op_ship x r w p a)) : ew_Call (d + 6) 157 [ew_o 16 0, ew_i x, ew_i r, ew_i w, ew_i p] (ew_hp s m) K := by
  unfold op_ship at k0 k1
  have h5 := h.2.1.1
  have h2 := h.tw 0
  have hL := h2.1.2.2.1
  have hLp := h.1.2.2.2.1
  rw [h.2.1.2.1.2.1, h.2.1.2.1.2.2] at k0 k1
  rcases ei_dec x 15 (by decide) with ⟨c, hc, rfl⟩ | ⟨h1, -⟩
  · have hN : iN (ei c) 15 = true := iN_t hc (by decide)
    rw [hN, Bool.true_and] at k0 k1
    rcases ei_dec p np (by omega) with ⟨c2, hc2, rfl⟩ | ⟨h1, -⟩
    · have hP : iN (ei c2) (ei np) = true := iN_t hc2 (by omega)
      rw [hP, cond_true, ei_nat (by omega), ei_nat (by omega)] at k0 k1
      have ix := ei_ix (j := c) (n := 15) hc (by decide)
      have hn : (ei c).toNatClampNeg = c := ei_nat (by omega)
      obtain ⟨-, -, -, f3⟩ := h.1.1.2.2.2 c hc
      have e3 : s 50 (ei c).toNatClampNeg 0 = a 4 3 c := by rw [hn]; exact f3
      have pre : ew_W (ew_Call (d + 5)) 157 K (29, [some (ew_o 16 0), some (ew_i (ei c)), some (ew_i r), some (ew_i w), some (ew_i (ei c2))], [], ew_hp (ew_tw s 0) m) → ew_Call (d + 6) 157 [ew_o 16 0, ew_i (ei c), ew_i r, ew_i w, ew_i (ei c2)] (ew_hp s m) K := fun g =>
        ew_call (ew_go (fun pc => Nat.beq pc 29) 80 (xm_noCell (fun z => absurd (z.symm.trans hN) (by decide)) (fun _ => ⟨fun z => absurd rfl z, fun _ => xm_noPort hLp (by omega) (fun z => absurd (z.symm.trans hP) (by decide)) (fun _ => ⟨fun _ => xm_start0 rfl ⟨fun z => absurd rfl z, fun _ => g⟩, fun z => absurd rfl z⟩)⟩)))
      refine pre ?_
      have ref : KT nb ns np T 0 s m K (fun n => n) (2, 0, a) → ew_W (ew_Call (d + 5)) 157 K (66, [some (ew_o 16 0), some (ew_i (ei c)), some (ew_i r), some (ew_i w), some (ew_i (ei c2))], [ew_i 1, ew_o 16 0], ew_hp (ew_tw s 0) m) := fun k => ew_go (fun _ => false) 40 (xm_ref1 (ew_u_self _ _ _ _ _) (show ¬ (1 : Int32) = 0 by decide) (show ¬ (2 : Int32) ≤ 0 by decide) ⟨fun _ => ⟨trivial, k.no2 h⟩, fun z => absurd (show ¬ (1 : Int32) = 0 by decide) z⟩)
      by_cases hl : a 4 3 c = 0
      · by_cases hr : 0 ≤ r ∧ r ≤ 4
        · by_cases hw : 1 ≤ w ∧ w ≤ 9
          · rw [if_pos ⟨hl, hr, hw⟩] at k0 k1
            have go : ew_W (ew_Call (d + 5)) 157 K (66, [some (ew_o 16 0), some (ew_i (ei c)), some (ew_i r), some (ew_i w), some (ew_i (ei c2))], [ew_i 0, ew_o 16 0], ew_hp (ew_tw s 0) m) → ew_W (ew_Call (d + 5)) 157 K (29, [some (ew_o 16 0), some (ew_i (ei c)), some (ew_i r), some (ew_i w), some (ew_i (ei c2))], [], ew_hp (ew_tw s 0) m) := fun g =>
              ew_go (fun pc => Nat.beq pc 66) 60 ⟨ix, fun z => absurd (e3.trans hl) z, fun _ => xm_isInT hr ⟨fun z => absurd z (show ¬ (1 : Int32) = 0 by decide), fun _ => xm_isInT hw ⟨fun _ => g, fun z => absurd (show ¬ (1 : Int32) = 0 by decide) z⟩⟩⟩
            refine go ?_
            by_cases wn : ei ns < 5
            · have hb2 : ns < 5 := (ei_lt (b := 5) (by omega) (by decide)).mp wn
              have ne : ¬ ei ns = 5 := fun z => by rw [z] at wn; exact absurd wn (by decide)
              rw [if_pos wn, ei_1] at k1
              have k := k1 rfl
              have hr' : ei 0 ≤ r ∧ r ≤ ei 4 := hr
              obtain ⟨r0, -, hr0, rfl⟩ := ei_rng (a := 0) (b := 4) (by decide) hr' (by decide)
              obtain ⟨o, ho⟩ : ∃ o, o = m.2.2.2.1 15 := ⟨_, rfl⟩
              have e0 := ex_Shp (x := ei c) (r := ei r0) (w := w) (q := ei c2) (s := ew_tw s 0) h.2.2.1 ho.symm
              have fin : ∀ (s2 : ew_S) (m2 : ew_H), LR 34 0 (ns + 1) (fun j => if j = ns then ew_o 15 o else ew_o 15 (σ j)) s2 m2 → Ex (Pl 34 0) 1 (sShp o (ei c) (ei r0) w (ei c2) (ew_tw s 0)) (mShp o m) s2 m2 → GI m2 → ew_W (ew_Call (d + 5)) 157 K (124, [some (ew_o 16 0), some (ew_i (ei c)), some (ew_i (ei r0)), some (ew_i w), some (ew_i (ei c2))], [ew_i 1], ew_hp s2 m2) := fun s2 m2 L E G => by
                have R := h2.newS u hb2 ho.symm hc hr0 hc2 w L E G
                have tw2 : s2 16 0 0 = 0 := (E.2.2.1 16 0 0 (e0.2.1 _ _ h16) (fun w => by have := w.2; omega)).1.trans ((e0.2.2.1 16 0 0 h16 (fun w => w)).1.trans (ew_u_self _ _ _ _ _))
                have k := k _ _ _ _ _ R ((((Ex.tw s m 0).pt (Nat.le_refl 0)).tr (e0.pt (Nat.le_refl 3))).tr (E.pt (Nat.le_refl 1))) tw2
                have k : K (.inl (some (ew_i (ei (ns + 1) - 1)))) (ew_hp s2 m2) := by
                  rw [show ei (ns + 1) - 1 = ei ns by rw [← ei_1, Int32.add_sub_cancel]]
                  exact k
                exact ew_go (fun _ => false) 40 (xm_size34 R.1.2.2.1 ⟨trivial, k⟩)
              have mid : ew_W (ew_Call (d + 5)) 157 K (118, [some (ew_o 16 0), some (ew_i (ei c)), some (ew_i (ei r0)), some (ew_i w), some (ew_i (ei c2))], [ew_i (ei c2), ew_i w, ew_i (ei r0), ew_i (ei c), ew_o 15 (m.2.2.2.1 15), ew_o 15 (m.2.2.2.1 15), ew_o 34 0], ew_mk (ew_hp (ew_tw s 0) m) 15 (m.2.2.2.1 15) 11 (et_dv 15)) := by
                rw [← ho]
                exact ew_go (fun pc => Nat.beq pc 124) 40 (xg_Shp (h.2.2.1.2.2.2.2.1.2.trans ho.symm) (h.2.2.1.2.2.2.2.1.1.trans ho.symm) (xm_add34 (hL.ex rfl e0 (fun _ n => n) (fun _ n => n)) (gi_Shp h.2.2.1 ho.symm) (by omega) o fin))
              exact ew_go (fun pc => Nat.beq pc 118) 60 (xm_ref0 (ew_u_self _ _ _ _ _) rfl ⟨fun z => absurd rfl z, fun _ => xm_size34 hL ⟨fun _ => xm_ref0 (ew_u_self _ _ _ _ _) rfl ⟨fun _ => mid, fun z => absurd rfl z⟩, fun z => absurd (Classical.not_not.mp z) ne⟩⟩)
            · have e2 : ei ns = 5 := by
                have : ¬ ns < 5 := fun q => wn ((ei_lt (b := 5) (by omega) (by decide)).mpr q)
                rw [show ns = 5 by omega]; rfl
              rw [if_neg wn] at k0
              have k := k0 (show ¬ (3 : Nat) = 0 by decide)
              exact ew_go (fun pc => Nat.beq pc 118) 60 (xm_ref0 (ew_u_self _ _ _ _ _) rfl ⟨fun z => absurd rfl z, fun _ => xm_size34 hL ⟨fun z => absurd e2 z, fun _ => xm_ref1 (ew_u_self _ _ _ _ _) (show ¬ (1 : Int32) = 0 by decide) (show ¬ (3 : Int32) ≤ 0 by decide) ⟨fun z => absurd z (show ¬ (1 : Int32) = 0 by decide), fun _ => ⟨trivial, k.no2 h⟩⟩⟩⟩)
          · rw [if_neg (fun z => hw z.2.2)] at k0
            have k := ref (k0 (show ¬ (2 : Nat) = 0 by decide))
            exact ew_go (fun pc => Nat.beq pc 66) 60 ⟨ix, fun z => absurd (e3.trans hl) z, fun _ => xm_isInT hr ⟨fun z => absurd z (show ¬ (1 : Int32) = 0 by decide), fun _ => xm_isInF hw ⟨fun z => absurd rfl z, fun _ => k⟩⟩⟩
        · rw [if_neg (fun z => hr z.2.1)] at k0
          have k := ref (k0 (show ¬ (2 : Nat) = 0 by decide))
          exact ew_go (fun pc => Nat.beq pc 66) 60 ⟨ix, fun z => absurd (e3.trans hl) z, fun _ => xm_isInF hr ⟨fun _ => k, fun z => absurd rfl z⟩⟩
      · rw [if_neg (fun z => hl z.1)] at k0
        have k := ref (k0 (show ¬ (2 : Nat) = 0 by decide))
        exact ew_go (fun pc => Nat.beq pc 66) 60 ⟨ix, fun _ => k, fun z => absurd (fun q => hl (e3.symm.trans q)) z⟩
    · have hP : iN p (ei np) = false := iN_f h1
      rw [hP, cond_false] at k0
      have k := k0 (show ¬ (1 : Nat) = 0 by decide)
      exact ew_call (ew_go (fun _ => false) 80 (xm_noCell (fun z => absurd (z.symm.trans hN) (by decide)) (fun _ => ⟨fun z => absurd rfl z, fun _ => xm_noPort hLp (by omega) (fun _ => ⟨fun z => absurd z (show ¬ (1 : Int32) = 0 by decide), fun _ => xm_start1 (show ¬ (1 : Int32) = 0 by decide) (show ¬ (1 : Int32) ≤ 0 by decide) ⟨fun _ => ⟨trivial, k.no h⟩, fun z => absurd (show ¬ (1 : Int32) = 0 by decide) z⟩⟩) (fun z => absurd (hP.symm.trans z) (by decide))⟩)))
  · have hN : iN x 15 = false := iN_f h1
    rw [hN, Bool.false_and, cond_false] at k0
    have k := k0 (show ¬ (1 : Nat) = 0 by decide)
    exact ew_call (ew_go (fun _ => false) 80 (xm_noCell (fun _ => ⟨fun _ => xm_start1 (show ¬ (1 : Int32) = 0 by decide) (show ¬ (1 : Int32) ≤ 0 by decide) ⟨fun _ => ⟨trivial, k.no h⟩, fun z => absurd (show ¬ (1 : Int32) = 0 by decide) z⟩, fun z => absurd (show ¬ (1 : Int32) = 0 by decide) z⟩) (fun z => absurd (hN.symm.trans z) (by decide))))
theorem xw_port (h : RR 0 0 nb ns np T β σ ρ (fun _ _ _ => 0) a s m) (h16 : m.2.2.1 16 0 = true) (u : Un nb ns np a) (h13 : m.2.2.2.1 13 = np) (x : Int32) (k0 : ¬ (op_port x a).1 = 0 → KT nb ns np T 1 s m (fun r h' => h'.2.2.2.1 13 = np → K r h') (fun n => n) (op_port x a)) (k1 : (op_port x a).1 = 0 → KT nb ns (np + 1) T 5 s m (fun r h' => h'.2.2.2.1 13 = np + 1 → K r h') (fun n => n) (op_port x a)) : ew_Call (d + 6) 153 [ew_o 16 0, ew_i x] (ew_hp s m) K := by
  unfold op_port at k0 k1
  have h5 := h.2.1.1
  have h2 := h.tw 0
  rw [h.2.1.2.1.2.2] at k0 k1
  rcases ei_dec x 15 (by decide) with ⟨c, hc, rfl⟩ | ⟨h1, -⟩
  · have hN : iN (ei c) 15 = true := iN_t hc (by decide)
    rw [hN, cond_true, ei_nat (by omega), ei_nat (by omega)] at k0 k1
    have ix := ei_ix (j := c) (n := 15) hc (by decide)
    have hn : (ei c).toNatClampNeg = c := ei_nat (by omega)
    obtain ⟨-, -, -, f3⟩ := h.1.1.2.2.2 c hc
    have e3 : s 50 (ei c).toNatClampNeg 0 = a 4 3 c := by rw [hn]; exact f3
    have kp : ∀ {n : Nat} {s1 : ew_S} {m1 : ew_H}, Ex P1 n (ew_tw s 0) m s1 m1 → s1 16 0 0 = 0 := fun E => (E.2.2.1 16 0 0 h16 (fun w => by unfold P1 at w; omega)).1.trans (ew_u_self _ _ _ _ _)
    have no : ∀ {n v : Nat} {s1 : ew_S} {m1 : ew_H}, m1.2.2.2.1 13 = np → n ≤ 1 → KT nb ns np T 1 s m (fun r h' => h'.2.2.2.1 13 = np → K r h') (fun n => n) (v, 0, a) → RR 0 0 nb ns np T β σ ρ (fun _ _ _ => 0) a s1 m1 → Ex P1 n (ew_tw s 0) m s1 m1 → K (.inl (some (ew_i 0))) (ew_hp (ew_tw s1 (ei v)) m1) := fun hm hn k R E => k _ _ _ _ _ (R.tw _) ((((Ex.tw s m 0).tr E.p6).tr (Ex.tw _ _ _)).pt (by omega)) (ew_u_self _ _ _ _ _) hm
    have ref : ∀ {n : Nat} {s1 : ew_S} {m1 : ew_H}, m1.2.2.2.1 13 = np → n ≤ 1 → KT nb ns np T 1 s m (fun r h' => h'.2.2.2.1 13 = np → K r h') (fun n => n) (2, 0, a) → RR 0 0 nb ns np T β σ ρ (fun _ _ _ => 0) a s1 m1 → Ex P1 n (ew_tw s 0) m s1 m1 → ew_W (ew_Call (d + 5)) 153 K (38, [some (ew_o 16 0), some (ew_i (ei c))], [ew_i 1, ew_o 16 0], ew_hp s1 m1) := fun hm hn k R E => ew_go (fun _ => false) 40 (xm_ref1 (kp E) (show ¬ (1 : Int32) = 0 by decide) (show ¬ (2 : Int32) ≤ 0 by decide) ⟨fun _ => ⟨trivial, no (v := 2) hm hn k R E⟩, fun z => absurd (show ¬ (1 : Int32) = 0 by decide) z⟩)
    by_cases hl : a 4 3 c = 0
    · rw [if_pos hl] at k0 k1
      have go : (sp_pA (ei c) a = true → ∀ s1 m1, RR 0 0 nb ns np T β σ ρ (fun _ _ _ => 0) a s1 m1 → Ex P1 1 (ew_tw s 0) m s1 m1 → m1.2.2.2.1 13 = np → ew_W (ew_Call (d + 5)) 153 K (38, [some (ew_o 16 0), some (ew_i (ei c))], [ew_i 1, ew_o 16 0], ew_hp s1 m1)) → (sp_pA (ei c) a = false → ∀ s1 m1, RR 0 0 nb ns np T β σ ρ (fun _ _ _ => 0) a s1 m1 → Ex P1 1 (ew_tw s 0) m s1 m1 → m1.2.2.2.1 13 = np → ew_W (ew_Call (d + 5)) 153 K (38, [some (ew_o 16 0), some (ew_i (ei c))], [ew_i 0, ew_o 16 0], ew_hp s1 m1)) → ew_Call (d + 6) 153 [ew_o 16 0, ew_i (ei c)] (ew_hp s m) K := fun g1 g0 =>
        ew_call (ew_go (fun pc => Nat.beq pc 38) 80 (xm_noCell (fun z => absurd (z.symm.trans hN) (by decide)) (fun _ => xm_start0 rfl ⟨fun z => absurd rfl z, fun _ => ⟨ix, fun z => absurd (e3.trans hl) z, fun _ => ew_c13 (by decide) (by decide) (xm_mport h2 rfl (fun hP s1 m1 R E e13 => ⟨fun z => absurd z (show ¬ (1 : Int32) = 0 by decide), fun _ => g1 hP s1 m1 R E (Eq.trans e13 h13)⟩) (fun hP s1 m1 R E e13 => ⟨fun _ => g0 hP s1 m1 R E (Eq.trans e13 h13), fun z => absurd rfl z⟩))⟩⟩)))
      refine go (fun hP s1 m1 R E hm => ?_) (fun hP s1 m1 R E h13' => ?_)
      · rw [hP, cond_true] at k0
        exact ref hm (Nat.le_refl 1) (k0 (show ¬ (2 : Nat) = 0 by decide)) R E
      · rw [hP, cond_false] at k0 k1
        by_cases w : ei np < 3
        · have hb2 : np < 3 := (ei_lt (b := 3) (by omega) (by decide)).mp w
          have ne : ¬ ei np = 3 := fun z => by rw [z] at w; exact absurd w (by decide)
          rw [if_pos w] at k1
          have k := k1 rfl
          have e0 := ex_Prt (x := ei c) (s := s1) R.2.2.1 h13'
          have fin : ∀ (s2 : ew_S) (m2 : ew_H), LR 66 0 (np + 1) (fun j => if j = np then ew_o 13 np else ew_o 13 j) s2 m2 → Ex (Pl 66 0) 1 (sPrt np (ei c) s1) (mPrt np m1) s2 m2 → GI m2 → m2.2.2.2.1 13 = np + 1 → ew_W (ew_Call (d + 5)) 153 K (92, [some (ew_o 16 0), some (ew_i (ei c))], [ew_i 1], ew_hp s2 m2) := fun s2 m2 L E2 G hm => by
            have R2 := R.newP u hb2 h13' hc L E2 G
            rw [h.2.1.2.1.2.2] at R2
            have tw2 : s2 16 0 0 = 0 := (E2.2.2.1 16 0 0 (e0.2.1 _ _ (E.2.1 _ _ h16)) (fun w => by have := w.2; omega)).1.trans ((e0.2.2.1 16 0 0 (E.2.1 _ _ h16) (fun w => w)).1.trans (kp E))
            have k := k _ _ _ _ _ R2 (((((Ex.tw s m 0).pt (Nat.le_refl 0)).tr (E.pt (Nat.le_refl 1))).tr (e0.pt (Nat.le_refl 3))).tr (E2.pt (Nat.le_refl 1))) tw2 hm
            have k : K (.inl (some (ew_i (ei (np + 1) - 1)))) (ew_hp s2 m2) := by
              rw [show ei (np + 1) - 1 = ei np by rw [← ei_1, Int32.add_sub_cancel]]
              exact k
            exact ew_go (fun _ => false) 40 (xm_size66 R2.1.2.2.2.1 ⟨trivial, k⟩)
          have mid : ew_W (ew_Call (d + 5)) 153 K (86, [some (ew_o 16 0), some (ew_i (ei c))], [ew_i (ei c), ew_o 13 (m1.2.2.2.1 13), ew_o 13 (m1.2.2.2.1 13), ew_o 66 0], ew_mk (ew_hp s1 m1) 13 (m1.2.2.2.1 13) 3 (et_dv 13)) := by
            rw [h13']
            exact ew_go (fun pc => Nat.beq pc 92) 40 (xg_Prt (R.2.2.1.2.2.2.2.2.1.trans h13') (R.2.2.1.2.2.2.2.2.2.trans h13') (ew_c13 (by decide) (by decide) (xm_add66 (R.1.2.2.2.1.ex rfl e0 (fun _ n => n) (fun _ n => n)) (gi_Prt R.2.2.1 h13') (by omega) np (fun s2 m2 L E2 G e13 => fin s2 m2 L E2 G (Eq.trans e13 (congrArg Nat.succ h13'))))))
          exact ew_go (fun pc => Nat.beq pc 86) 60 (xm_ref0 (kp E) rfl ⟨fun z => absurd rfl z, fun _ => xm_size66 R.1.2.2.2.1 ⟨fun _ => xm_ref0 (kp E) rfl ⟨fun _ => mid, fun z => absurd rfl z⟩, fun z => absurd (Classical.not_not.mp z) ne⟩⟩)
        · have e2 : ei np = 3 := by
            have : ¬ np < 3 := fun q => w ((ei_lt (b := 3) (by omega) (by decide)).mpr q)
            rw [show np = 3 by omega]; rfl
          rw [if_neg w] at k0
          have k := k0 (show ¬ (3 : Nat) = 0 by decide)
          exact ew_go (fun pc => Nat.beq pc 86) 60 (xm_ref0 (kp E) rfl ⟨fun z => absurd rfl z, fun _ => xm_size66 R.1.2.2.2.1 ⟨fun z => absurd e2 z, fun _ => xm_ref1 (kp E) (show ¬ (1 : Int32) = 0 by decide) (show ¬ (3 : Int32) ≤ 0 by decide) ⟨fun z => absurd z (show ¬ (1 : Int32) = 0 by decide), fun _ => ⟨trivial, no (v := 3) h13' (Nat.le_refl 1) k R E⟩⟩⟩⟩)
    · rw [if_neg hl] at k0
      have k := ref (n := 0) h13 (by decide) (k0 (show ¬ (2 : Nat) = 0 by decide)) h2 (Ex.rf _ _ _)
      exact ew_call (ew_go (fun pc => Nat.beq pc 38) 80 (xm_noCell (fun z => absurd (z.symm.trans hN) (by decide)) (fun _ => xm_start0 rfl ⟨fun z => absurd rfl z, fun _ => ⟨ix, fun _ => k, fun z => absurd (fun q => hl (e3.symm.trans q)) z⟩⟩)))
  · have hN : iN x 15 = false := iN_f h1
    rw [hN, cond_false] at k0
    have k := k0 (show ¬ (1 : Nat) = 0 by decide)
    exact ew_call (ew_go (fun _ => false) 80 (xm_noCell (fun _ => xm_start1 (show ¬ (1 : Int32) = 0 by decide) (show ¬ (1 : Int32) ≤ 0 by decide) ⟨fun _ => ⟨trivial, k.no h h13⟩, fun z => absurd (show ¬ (1 : Int32) = 0 by decide) z⟩) (fun z => absurd (hN.symm.trans z) (by decide))))
end
