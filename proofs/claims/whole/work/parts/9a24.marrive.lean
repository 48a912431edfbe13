/-! Hours on a copy: the model. -/
def ef_inv (f : Nat → Nat) (o : Nat) : Nat → Nat
  | 0 => 0
  | n + 1 => if f n = o then n else ef_inv f o n
theorem ef_inv_at {f : Nat → Nat} {b : Nat} : ∀ n, (∀ i i', i < n → i' < n → f i = f i' → i = i') → b < n → ef_inv f (f b) n = b
  | 0, _, h => absurd h (Nat.not_lt_zero _)
  | n + 1, hj, h => by
    show (if f n = f b then n else ef_inv f (f b) n) = b
    by_cases e : f n = f b
    · rw [if_pos e]; exact hj n b (by omega) h e
    · rw [if_neg e]
      exact ef_inv_at n (fun i i' h1 h2 => hj i i' (by omega) (by omega)) (by
        have : b ≠ n := fun q => e (by rw [q])
        omega)
def ef_zz (nb ns i : Nat) (β' σ' : Nat → Nat) (a s : ew_S) : ew_Z3 := fun k p o =>
  if k = 14 then a 9 6 1 - s 14 p o else if k = 12 then a 3 3 (ef_inv β' o nb + 2) - s 12 p o else if k = 15 then (if p = 6 then a 10 9 (ef_inv σ' o ns + 5) - s 15 p o else a 10 10 (ef_inv σ' o ns + 5) - s 15 p o) else a 177 p (ef_inv σ' o ns + 5) - s 369 p o
theorem ei_dz (x y : Int32) : x + (y - x) = y := by rw [Int32.add_comm, Int32.sub_add_cancel]
section
variable {d : Nat} {K : ew_R → ew_H → Prop} {nb ns np T i : Nat} {β σ β' σ' : Nat → Nat} {ρ : Nat → Nat → Nat} {z : ew_Z3} {a a1 ac s s2 : ew_S} {m m2 m0 : ew_H} {P : Nat → Nat → Nat → Prop}
theorem cp_rm (R : RR 0 0 nb ns np T β σ ρ (fun _ _ _ => 0) a s m) (F : Fr Pct a a1) (cd : cp_d nb ns a1 ac) (cp : CP nb ns np i β' σ' a m0 s m) : RR 1 i nb ns np T β' σ' ρ (ef_zz nb ns i β' σ' ac s) ac s m := by
  have hI := R.2.1
  have h5 := hI.1
  have I1 := cp_Iv (hI.pt F) cd
  obtain ⟨cd9, cdc, cdb, cds, cdF⟩ := cd
  obtain ⟨⟨c1, c2, c3⟩, l2, l34, l66, cb, cs, jb, js, -⟩ := cp
  refine ⟨⟨⟨c1, ?_, ei_dz _ _, fun c hc => ?_⟩, l2, l34, l66, fun b hb => ?_, fun j hj => ?_, fun p hp => ?_, jb, js⟩, I1, R.2.2.1, R.2.2.2⟩
  · rw [c2, cd9 5 (by decide) (by decide), pt9 F]
  · obtain ⟨e0, e1, e2, e3⟩ := c3 c hc
    have q : ∀ p, p < 5 → ac 4 p (c + 15 * 1) = a 4 p c := fun p hp => (cdc c hc p hp).trans (pt4 F hc)
    rw [q 0 (by decide), q 1 (by decide), q 2 (by decide), q 3 (by decide)]
    exact ⟨e0, e1, e2, e3⟩
  · obtain ⟨⟨g1, g2, g3, g5⟩, -⟩ := cb b hb
    obtain ⟨b1, b2, b3⟩ := cdb b hb
    obtain ⟨n, hn, en, -⟩ := (hI.2.2.2.1 b hb).2
    have en : a 8 1 b = ei n := en
    have q : ∀ p, 0 < p → p < 5 → ac 3 p (b + 2 * 1) = a 3 p b := fun p h1 h2 => (b1 p h1 h2).trans (pt3 F (by omega))
    have q8 : ac 8 1 (b + 2 * 1) = a 8 1 b := b2.trans (pt8 F (by omega))
    refine ⟨g1, g2.trans (q 1 (by decide) (by decide)).symm, g3.trans (q 2 (by decide) (by decide)).symm, ?_, ?_⟩
    · show s 12 2 (β' b) + (ac 3 3 (ef_inv β' (β' b) nb + 2) - s 12 2 (β' b)) = ac 3 3 (b + 2 * 1)
      rw [ei_dz, ef_inv_at nb jb hb]
    · rw [q8]
      refine g5.cg (fun r hr => ?_)
      rw [en, ei_nat (by omega)] at hr
      rw [show ac 145 r (b + 2 * 1) = a 145 r b from (b3 r (by omega)).trans (pt145 F (by omega))]
  · obtain ⟨⟨g1, ⟨g20, g21, g22, g23, g24, g25, g28⟩, g5⟩, -⟩ := cs j hj
    obtain ⟨b1, b2, b3, b4⟩ := cds j hj
    obtain ⟨n, hn, en, -⟩ := (hI.2.2.2.2.1 j hj).2.1
    have en : a 40 1 j = ei n := en
    have q : ∀ p, 1 < p → p < 12 → ac 10 p (j + 5 * 1) = a 10 p j := fun p h1 h2 => (b1 p h1 h2).trans (pt10 F (by omega))
    have q8 : ac 40 1 (j + 5 * 1) = a 40 1 j := b2.trans (pt40 F (by omega))
    refine ⟨g1, ⟨g20.trans (q 2 (by decide) (by decide)).symm, g21.trans (q 3 (by decide) (by decide)).symm, g22.trans (q 5 (by decide) (by decide)).symm, g23.trans (q 6 (by decide) (by decide)).symm, g24.trans (q 7 (by decide) (by decide)).symm, g25.trans (q 8 (by decide) (by decide)).symm, g28.trans (q 11 (by decide) (by decide)).symm⟩, ⟨?_, ?_⟩, fun w hw => ?_, ?_⟩
    · show s 15 6 (σ' j) + (ac 10 9 (ef_inv σ' (σ' j) ns + 5) - s 15 6 (σ' j)) = ac 10 9 (j + 5 * 1)
      rw [ei_dz, ef_inv_at ns js hj]
    · show s 15 7 (σ' j) + (ac 10 10 (ef_inv σ' (σ' j) ns + 5) - s 15 7 (σ' j)) = ac 10 10 (j + 5 * 1)
      rw [ei_dz, ef_inv_at ns js hj]
    · show s 369 w (σ' j) + (ac 177 w (ef_inv σ' (σ' j) ns + 5) - s 369 w (σ' j)) = ac 177 w (j + 5 * 1)
      rw [ei_dz, ef_inv_at ns js hj]
    · rw [q8]
      refine g5.cg (fun r hr => ?_)
      rw [en, ei_nat (by omega)] at hr
      rw [show ac 593 r (j + 5 * 1) = a 593 r j from (b3 r (by omega)).trans (pt593 F (by omega))]
  · have f : ∀ {k r o : Nat}, (k = 6 ∨ k = 18 ∨ k = 81 ∨ k = 113) → ac k r o = a k r o := fun hk => (cdF _ _ _ (fun w => by unfold Ptr at w; omega)).trans (F _ _ _ (Pct.no (by omega) (by omega) (by omega)))
    exact (R.1.2.2.2.2.2.2.1 p hp).cg (fun r => f (by omega)) (fun r => f (by omega)) (fun r => f (by omega)) (fun r => f (by omega))
theorem Qh.no0 (cp : CP nb ns np i β' σ' a m0 s m) {k p o : Nat} (q : m0.2.2.1 k o = true) : ¬ Qh i nb ns β' σ' k p o := fun w => by
  obtain ⟨-, -, -, -, cb, cs, -, -, n1, n2, n3, n4⟩ := cp
  rcases w with ⟨rfl, w⟩ | ⟨b, hb, rfl, w⟩ | ⟨j, hj, rfl, w⟩
  · rcases w with rfl | rfl | rfl | rfl
    · rw [n1] at q; cases q
    · rw [n2] at q; cases q
    · rw [n3] at q; cases q
    · rw [n4] at q; cases q
  · obtain ⟨-, x1, x2, x3⟩ := cb b hb
    rcases w with rfl | rfl | rfl
    · rw [x1] at q; cases q
    · rw [x2] at q; cases q
    · rw [x3] at q; cases q
  · obtain ⟨-, x1, x2, x3, x4⟩ := cs j hj
    rcases w with rfl | rfl | rfl | rfl
    · rw [x1] at q; cases q
    · rw [x2] at q; cases q
    · rw [x3] at q; cases q
    · rw [x4] at q; cases q
theorem xl_mai (h : RR 0 0 nb ns np T β σ ρ (fun _ _ _ => 0) a s m) (hT : T ≤ 90000000) {j n : Nat} (hj : j < ns) (hn : n ≤ 24) {x w y1 : Int32} (hx : 0 ≤ x ∧ x ≤ 9) (hw : w = -1 ∨ w = 0 ∨ w = 1 ∨ w = 2 ∨ w = 3) (hq : ∀ k p o, m.2.2.1 k o = true → ¬ Qh i nb ns β' σ' k p o) (hy : y1 = ei j) (k : ∀ s' m', RR 0 0 nb ns np T β σ ρ (fun _ _ _ => 0) a s' m' → Ex P0 (56 + 3 * n) s m s' m' → K (.inl (some (ew_i (sp_ai j x w ac n 0)))) (ew_hp s' m')) : ∀ (r g : Nat) (y : Int32) (s1 : ew_S) (m1 : ew_H), y = ei (g + 1) → g + r = n → sp_ai j x w ac n 0 = sp_ai j x w ac r g → RR 1 i nb ns np (T + 135 * g) β' σ' ρ z (sp_hs 1 x w ac g).2 s1 m1 → Ex P0 (56 + 3 * g) s m s1 m1 →
    ew_W (ew_Call (d + 7)) 181 K (35, [some (ew_o 16 0), some (ew_i y1), some (ew_i (ei n)), some (ew_i x), some (ew_i w), some (ew_o 14 i), some (ew_i y)], [], ew_hp s1 m1) := by
  subst hy
  intro r
  induction r with
  | zero =>
    intro g y s1 m1 hy hg he R E
    subst hy
    obtain rfl : g = n := by omega
    have e : ei g < ei (g + 1) := (ei_lt (by omega) (by omega)).mpr (by omega)
    have k := k s1 m1 (h.ex1 E.p1 R.2.2.1) E
    rw [he] at k
    exact ew_go (fun pc => Nat.beq pc 35) 40 ⟨fun _ => ⟨trivial, k⟩, fun z => absurd e z⟩
  | succ r ih =>
    intro g y s1 m1 hy hg he R E
    subst hy
    have e : ¬ ei n < ei (g + 1) := by rw [ei_lt (by omega) (by omega)]; omega
    have hstep : sp_ai j x w ac (r + 1) g = if (sp_hs 1 x w ac (g + 1)).2 10 7 (j + 5) = 3 then ei (g + 1) else sp_ai j x w ac r (g + 1) := rfl
    have fin : ∀ s2 m2, RR 1 i nb ns np (T + 135 * g + 135) β' σ' ρ z (sp_hs 1 x w ac (g + 1)).2 s2 m2 → Ex (Qh i nb ns β' σ') 3 s1 m1 s2 m2 → ew_W (ew_Call (d + 7)) 181 K (50, [some (ew_o 16 0), some (ew_i (ei j)), some (ew_i (ei n)), some (ew_i x), some (ew_i w), some (ew_o 14 i), some (ew_i (ei (g + 1)))], [], ew_hp s2 m2) := fun s2 m2 R2 E2 => by
      have E3 : Ex P0 (56 + 3 * (g + 1)) s m s2 m2 := (E.tr0 E2 hq).le (by omega)
      have f4 : s2 15 4 (σ' j) = (sp_hs 1 x w ac (g + 1)).2 10 7 (j + 5) := (R2.1.2.2.2.2.2.1 j hj).2.1.2.2.2.2.1
      by_cases hA : (sp_hs 1 x w ac (g + 1)).2 10 7 (j + 5) = 3
      · rw [hstep, if_pos hA] at he
        have k := k s2 m2 (h.ex1 E3.p1 R2.2.2.1) (E3.le (by omega))
        rw [he] at k
        exact ew_go (fun pc => Nat.beq pc 35) 60 (xm_get34 R2.1.2.2.1 hj rfl rfl ⟨fun z => absurd (f4.trans hA) z, fun _ => ⟨trivial, k⟩⟩)
      · rw [hstep, if_neg hA] at he
        exact ew_go (fun pc => Nat.beq pc 35) 60 (xm_get34 R2.1.2.2.1 hj rfl rfl ⟨fun _ => ih (g + 1) _ s2 m2 (ei_1 _) (by omega) he (by rw [show T + 135 * (g + 1) = T + 135 * g + 135 by omega]; exact R2) E3, fun z => absurd (fun q => hA (f4.symm.trans q)) z⟩)
    exact ew_go (fun pc => Nat.beq pc 50) 60 ⟨fun z => absurd z e, fun _ => xm_hour R (by omega) hx hw fin⟩
theorem xm_arriveInNow (h : RR 0 0 nb ns np T β σ ρ (fun _ _ _ => 0) a s m) (hT : T ≤ 90000000) {j n : Nat} (hj : j < ns) (hn : n ≤ 24) {x w y1 y2 : Int32} (hx : 0 ≤ x ∧ x ≤ 9) (hw : -1 ≤ w ∧ w ≤ 3) (hy : y1 = ei j) (hy2 : y2 = ei n) {v : Int32} (h3 : a 10 7 j = 3 → v = 0) (hv : ¬ a 10 7 j = 3 → ∃ a1 ac, Fr Pct a a1 ∧ cp_d nb ns a1 ac ∧ v = sp_ai j x w ac n 0) (k : ∀ s' m', RR 0 0 nb ns np T β σ ρ (fun _ _ _ => 0) a s' m' → Ex P0 128 s m s' m' → K (.inl (some (ew_i v))) (ew_hp s' m')) : ew_Call (d + 8) 181 [ew_o 16 0, ew_i y1, ew_i y2, ew_i x, ew_i w] (ew_hp s m) K := by
  subst hy; subst hy2
  obtain ⟨-, -, f4, -⟩ := h.sc hj
  by_cases c3 : a 10 7 j = 3
  · have k := k s m h ((Ex.rf _ _ _).le (Nat.zero_le _))
    rw [h3 c3] at k
    exact ew_call (ew_go (fun _ => false) 40 (xm_get34 h.1.2.2.1 hj rfl rfl ⟨fun z => absurd (f4.trans c3) z, fun _ => ⟨trivial, k⟩⟩))
  · obtain ⟨a1, ac, F, cd, rfl⟩ := hv c3
    have fin : ∀ s1 m1 i β' σ', RR 0 0 nb ns np T β σ ρ (fun _ _ _ => 0) a s1 m1 → Ex P0 56 s m s1 m1 → CP nb ns np i β' σ' a m s1 m1 → ew_W (ew_Call (d + 7)) 181 K (30, [some (ew_o 16 0), some (ew_i (ei j)), some (ew_i (ei n)), some (ew_i x), some (ew_i w), none, none], [ew_o 14 i], ew_hp s1 m1) := fun s1 m1 i β' σ' R E cp => by
      have R1 := cp_rm R F cd cp
      exact ew_go (fun pc => Nat.beq pc 35) 40 (xl_mai (d := d) h hT hj hn hx (ew_wind hw) (fun k p o q => Qh.no0 cp q) rfl (fun s' m' R' E' => k s' m' R' (E'.le (by omega))) n 0 1 s1 m1 rfl (by omega) rfl R1 E)
    exact ew_call (ew_go (fun pc => Nat.beq pc 30) 40 (xm_get34 h.1.2.2.1 hj rfl rfl ⟨fun _ => xm_copy h h.1.1.1.1 fin, fun z => absurd (fun q => c3 (f4.symm.trans q)) z⟩))
theorem xw_arriveIn (h : RR 0 0 nb ns np T β σ ρ (fun _ _ _ => 0) a s m) (h16 : m.2.2.1 16 0 = true) (hT : T ≤ 90000000) (j n x w v : Int32) (hv : (∃ c, c < ns ∧ j = ei c) → op_args n x w → ¬ a 10 7 j.toNatClampNeg = 3 → ∃ a1 ac, Fr Pct a a1 ∧ cp_d nb ns a1 ac ∧ v = sp_ai j.toNatClampNeg x w ac n.toNatClampNeg 0) (k : KM nb ns np T β σ ρ (fun _ _ _ => 0) a 128 s m K (vo_arr j n x w v a)) : ew_Call (d + 9) 182 [ew_o 16 0, ew_i j, ew_i n, ew_i x, ew_i w] (ew_hp s m) K := by
  unfold vo_arr at k
  have h5 := h.2.1.1
  have h2 := h.tw 0
  have hL := h.1.2.2.1
  rw [h.2.1.2.1.2.1] at k
  rcases ei_dec j ns (by omega) with ⟨c, hc, rfl⟩ | ⟨h1, -⟩
  · have hN : iN (ei c) (ei ns) = true := iN_t hc (by omega)
    rw [hN, cond_true, ei_nat (by omega)] at k
    by_cases ha' : (1 ≤ n ∧ n ≤ 24) ∧ ((0 ≤ x ∧ x ≤ 9) ∧ (-1 ≤ w ∧ w ≤ 3))
    · rw [if_pos ha'] at k
      have ha : op_args n x w := ha'
      have hn' : ei 1 ≤ n ∧ n ≤ ei 24 := ha.1
      obtain ⟨n0, -, hn0, rfl⟩ := ei_rng (a := 1) (b := 24) (by decide) hn' (by decide)
      have hv := hv ⟨c, hc, rfl⟩ ha
      rw [ei_nat (by omega), ei_nat (by omega)] at hv
      have now : ∀ v' : Int32, (a 10 7 c = 3 → v' = 0) → (¬ a 10 7 c = 3 → v' = v) → KM nb ns np T β σ ρ (fun _ _ _ => 0) a 128 s m K (0, v') → ew_Call (d + 9) 182 [ew_o 16 0, ew_i (ei c), ew_i (ei n0), ew_i x, ew_i w] (ew_hp s m) K := fun v' q3 qv k => by
        have fin : ∀ s' m', RR 0 0 nb ns np T β σ ρ (fun _ _ _ => 0) a s' m' → Ex P0 128 (ew_tw s 0) m s' m' → K (.inl (some (ew_i v'))) (ew_hp s' m') := fun s' m' R E => k s' m' R (((Ex.tw s m 0).tr E.p1.p6).le (by decide)) ((E.2.2.1 16 0 0 h16 (fun w => w)).1.trans (ew_u_self _ _ _ _ _))
        exact ew_call (ew_go (fun _ => false) 80 (xm_noShip hL (by omega) (fun z => absurd (z.symm.trans hN) (by decide)) (fun _ => xm_start0 rfl ⟨fun z => absurd rfl z, fun _ => xm_noWeather (fun z => absurd ha z) (fun _ => xm_ref0 (ew_u_self _ _ _ _ _) rfl ⟨fun _ => xm_arriveInNow h2 hT hc hn0 ha.2.1 ha.2.2 rfl rfl q3 (fun q => by rw [qv q]; exact hv q) (fun s' m' R E => ⟨trivial, fin s' m' R E⟩), fun z => absurd rfl z⟩)⟩)))
      by_cases c3 : a 10 7 c = 3
      · rw [if_pos c3] at k
        exact now 0 (fun _ => rfl) (fun q => absurd c3 q) k
      · rw [if_neg c3] at k
        exact now v (fun q => absurd q c3) (fun _ => rfl) k
    · rw [if_neg ha'] at k
      have ha : ¬ op_args n x w := ha'
      exact ew_call (ew_go (fun _ => false) 80 (xm_noShip hL (by omega) (fun z => absurd (z.symm.trans hN) (by decide)) (fun _ => xm_start0 rfl ⟨fun z => absurd rfl z, fun _ => xm_noWeather (fun _ => xm_ref1 (ew_u_self _ _ _ _ _) (show ¬ (1 : Int32) = 0 by decide) (show ¬ (2 : Int32) ≤ 0 by decide) ⟨fun z => absurd z (show ¬ (1 : Int32) = 0 by decide), fun _ => ⟨trivial, k.no2 h⟩⟩) (fun z => absurd z ha)⟩)))
  · have hN : iN j (ei ns) = false := iN_f h1
    rw [hN, cond_false] at k
    exact ew_call (ew_go (fun _ => false) 80 (xm_noShip hL (by omega) (fun _ => xm_start1 (show ¬ (1 : Int32) = 0 by decide) (show ¬ (1 : Int32) ≤ 0 by decide) ⟨fun _ => ⟨trivial, k.no h⟩, fun z => absurd (show ¬ (1 : Int32) = 0 by decide) z⟩) (fun z => absurd (hN.symm.trans z) (by decide))))
end
