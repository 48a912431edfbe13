/-! New breakers, ships, ports: the model. -/
/-- making an object -/
theorem eq_nw {C : Nat → List ew_V → ew_H → (ew_R → ew_H → Prop) → Prop} (hC : ew_M C) {K : ew_R → ew_H → Prop} {y pc nx tg k c n : Nat} {cv : Int32} {ls : List (Option ew_V)} {st : List ew_V} {h : ew_H} (hp : ew_pg y pc = some (.new n, nx, tg, cv)) (hq : et_nw (et_cls y) n = some c) (hc : Nat.blt c 17 = true) (hk : et_si y pc = k) (hk2 : (Nat.beq (ew_ct k) c && ew_ctr k) = true)
    (g : ew_W C y K (nx, ls, ew_o k (h.2.2.2.1 k) :: st, ew_mk h k (h.2.2.2.1 k) (et_N c) (et_dv c))) : ew_W C y K (pc, ls, st, h) := by
  refine ew_W.fold hC ?_
  unfold ew_G
  dsimp only
  rw [hp]
  dsimp only
  have e : ew_st y (et_cls y) (.new n) pc nx tg cv ls st h = ewG (nx, ls, ew_o k (h.2.2.2.1 k) :: st, ew_mk h k (h.2.2.2.1 k) (et_N c) (et_dv c)) := by
    simp only [ew_st]
    rw [hq]
    dsimp only
    rw [hc, hk, hk2]
    rfl
  rw [e]
  exact g
/-- making an array of booleans -/
theorem eq_nb {C : Nat → List ew_V → ew_H → (ew_R → ew_H → Prop) → Prop} (hC : ew_M C) {K : ew_R → ew_H → Prop} {y pc nx tg k : Nat} {cv n : Int32} {ls : List (Option ew_V)} {st : List ew_V} {h : ew_H} (hp : ew_pg y pc = some (.newarray .boolean, nx, tg, cv)) (hk : et_si y pc = k) (hk2 : (Nat.beq (ew_ct k) 18 && ew_ctr k) = true)
    (hn : ¬ n < 0 ∧ n.toNatClampNeg ≤ 1000000 ∧ ew_sl k n.toNatClampNeg = n.toNatClampNeg) (g : ew_W C y K (nx, ls, ew_o k (h.2.2.2.1 k) :: st, ew_mk h k (h.2.2.2.1 k) n.toNatClampNeg (fun _ => ew_i 0))) : ew_W C y K (pc, ls, ew_i n :: st, h) := by
  refine ew_W.fold hC ?_
  unfold ew_G
  dsimp only
  rw [hp]
  dsimp only
  have e : ew_st y (et_cls y) (.newarray .boolean) pc nx tg cv ls (ew_i n :: st) h = ewN (¬ n < 0 ∧ n.toNatClampNeg ≤ 1000000 ∧ ew_sl k n.toNatClampNeg = n.toNatClampNeg) (nx, ls, ew_o k (h.2.2.2.1 k) :: st, ew_mk h k (h.2.2.2.1 k) n.toNatClampNeg (fun _ => ew_i 0)) := by
    simp only [ew_st]
    rw [hk, hk2]
    rfl
  rw [e]
  exact ⟨hn, g⟩
section
variable {d : Nat} {K : ew_R → ew_H → Prop} {nb ns np T : Nat} {β σ : Nat → Nat} {ρ : Nat → Nat → Nat} {a s : ew_S} {m : ew_H}
theorem xg_Brk {o : Nat} {x f : Int32} (ho : m.2.2.2.1 98 = o) (k : K (.inl none) (ew_hp (sBrk o x f s) (mBrk o m))) : ew_Call (d + 4) 109 [ew_o 12 o, ew_i x, ew_i f] (ew_mk (ew_hp s m) 12 o 6 (et_dv 12)) K := by
  rw [← hp_Brk] at k
  unfold hBrk at k
  refine ew_call (ew_go (fun pc => Nat.beq pc 5) 40 (eq_nw (k := 98) (c := 2) (ew_Call_mono _) rfl rfl rfl rfl rfl ?_))
  show ew_W (ew_Call (d + 3)) 109 K (8, [some (ew_o 12 o), some (ew_i x), some (ew_i f)], [ew_o 98 (m.2.2.2.1 98), ew_o 12 o], ew_mk (ew_mk (ew_hp s m) 12 o 6 (et_dv 12)) 98 (m.2.2.2.1 98) 3 (et_dv 2))
  rw [ho]
  exact ew_go (fun _ => false) 40 (xm_linit98 ⟨rfl, trivial, trivial, trivial, k⟩)
theorem xg_Shp {o : Nat} {x r w q : Int32} (ho : m.2.2.2.1 130 = o) (ho2 : m.2.2.2.1 369 = o) (k : K (.inl none) (ew_hp (sShp o x r w q s) (mShp o m))) : ew_Call (d + 4) 131 [ew_o 15 o, ew_i x, ew_i r, ew_i w, ew_i q] (ew_mk (ew_hp s m) 15 o 11 (et_dv 15)) K := by
  rw [← hp_Shp] at k
  unfold hShp at k
  refine ew_call (ew_go (fun pc => Nat.beq pc 21) 40 ⟨trivial, trivial, trivial, eq_na (k := 369) (ew_Call_mono _) rfl rfl rfl ⟨by decide, by decide, by decide⟩ ?_⟩)
  show ew_W (ew_Call (d + 3)) 131 K (23, [some (ew_o 15 o), some (ew_i x), some (ew_i r), some (ew_i w), some (ew_i q)], [ew_o 369 (m.2.2.2.1 369), ew_o 15 o], ew_mk (ew_put (ew_put (ew_put (ew_mk (ew_hp s m) 15 o 11 (et_dv 15)) 15 o 4 (ew_i 0)) 15 o 5 (ew_i (-1))) 15 o 8 (ew_i (-1))) 369 (m.2.2.2.1 369) 5 (fun _ => ew_i 0))
  rw [ho2]
  refine ew_go (fun pc => Nat.beq pc 27) 40 ⟨rfl, eq_nw (k := 130) (c := 2) (ew_Call_mono _) rfl rfl rfl rfl rfl ?_⟩
  show ew_W (ew_Call (d + 3)) 131 K (30, [some (ew_o 15 o), some (ew_i x), some (ew_i r), some (ew_i w), some (ew_i q)], [ew_o 130 (m.2.2.2.1 130), ew_o 15 o], ew_mk (ew_put (ew_mk (ew_put (ew_put (ew_put (ew_mk (ew_hp s m) 15 o 11 (et_dv 15)) 15 o 4 (ew_i 0)) 15 o 5 (ew_i (-1))) 15 o 8 (ew_i (-1))) 369 o 5 (fun _ => ew_i 0)) 15 o 9 (ew_o 369 o)) 130 (m.2.2.2.1 130) 3 (et_dv 2))
  rw [ho]
  exact ew_go (fun _ => false) 40 (xm_linit130 ⟨rfl, trivial, trivial, trivial, trivial, trivial, k⟩)
theorem xg_Prt {o : Nat} {x : Int32} (ho : m.2.2.2.1 162 = o) (ho2 : m.2.2.2.1 82 = o) (k : K (.inl none) (ew_hp (sPrt o x s) (mPrt o m))) : ew_Call (d + 4) 111 [ew_o 13 o, ew_i x] (ew_mk (ew_hp s m) 13 o 3 (et_dv 13)) K := by
  rw [← hp_Prt] at k
  unfold hPrt at k
  refine ew_call (ew_go (fun pc => Nat.beq pc 5) 40 (eq_nw (k := 162) (c := 2) (ew_Call_mono _) rfl rfl rfl rfl rfl ?_))
  show ew_W (ew_Call (d + 3)) 111 K (8, [some (ew_o 13 o), some (ew_i x)], [ew_o 162 (m.2.2.2.1 162), ew_o 13 o], ew_mk (ew_mk (ew_hp s m) 13 o 3 (et_dv 13)) 162 (m.2.2.2.1 162) 3 (et_dv 2))
  rw [ho]
  refine ew_go (fun pc => Nat.beq pc 17) 40 (xm_linit162 ⟨rfl, eq_nb (k := 82) (ew_Call_mono _) rfl rfl rfl ⟨by decide, by decide, by decide⟩ ?_⟩)
  show ew_W (ew_Call (d + 3)) 111 K (19, [some (ew_o 13 o), some (ew_i x)], [ew_o 82 (m.2.2.2.1 82), ew_o 13 o], ew_mk (ew_put (ew_put (ew_put (ew_mk (ew_mk (ew_hp s m) 13 o 3 (et_dv 13)) 162 o 3 (et_dv 2)) 162 o 0 (ew_i 0)) 162 o 1 (ew_o 212 0)) 13 o 1 (ew_o 162 o)) 82 (m.2.2.2.1 82) 5 (fun _ => ew_i 0))
  rw [ho2]
  exact ew_go (fun _ => false) 40 ⟨rfl, trivial, trivial, k⟩
theorem xw_breaker (h : RR 0 0 nb ns np T β σ ρ (fun _ _ _ => 0) a s m) (h16 : m.2.2.1 16 0 = true) (u : Un nb ns np a) (x f : Int32) (k0 : ¬ (op_breaker x f a).1 = 0 → KT nb ns np T 0 s m K (fun n => n) (op_breaker x f a)) (k1 : (op_breaker x f a).1 = 0 → KT (nb + 1) ns np T 3 s m K (fun n => n) (op_breaker x f a)) : ew_Call (d + 6) 156 [ew_o 16 0, ew_i x, ew_i f] (ew_hp s m) K := by
  unfold op_breaker at k0 k1
  have h5 := h.2.1.1
  have h2 := h.tw 0
  have hL := h2.1.2.1
  rw [h.2.1.2.1.1] at k0 k1
  rcases ei_dec x 15 (by decide) with ⟨c, hc, rfl⟩ | ⟨h1, -⟩
  · have hN : iN (ei c) 15 = true := iN_t hc (by decide)
    rw [hN, cond_true, ei_nat (by omega), ei_nat (by omega)] at k0 k1
    have ix := ei_ix (j := c) (n := 15) hc (by decide)
    have hn : (ei c).toNatClampNeg = c := ei_nat (by omega)
    obtain ⟨-, -, -, f3⟩ := h.1.1.2.2.2 c hc
    have e3 : s 50 (ei c).toNatClampNeg 0 = a 4 3 c := by rw [hn]; exact f3
    have ref : KT nb ns np T 0 s m K (fun n => n) (2, 0, a) → ew_W (ew_Call (d + 5)) 156 K (41, [some (ew_o 16 0), some (ew_i (ei c)), some (ew_i f)], [ew_i 1, ew_o 16 0], ew_hp (ew_tw s 0) m) := fun k => ew_go (fun _ => false) 40 (xm_ref1 (ew_u_self _ _ _ _ _) (show ¬ (1 : Int32) = 0 by decide) (show ¬ (2 : Int32) ≤ 0 by decide) ⟨fun _ => ⟨trivial, k.no2 h⟩, fun z => absurd (show ¬ (1 : Int32) = 0 by decide) z⟩)
    by_cases hl : a 4 3 c = 0
    · by_cases hv : 0 ≤ f ∧ f ≤ 999
      · rw [if_pos ⟨hl, hv⟩] at k0 k1
        by_cases w : ei nb < 2
        · have hb2 : nb < 2 := (ei_lt (b := 2) (by omega) (by decide)).mp w
          have ne : ¬ ei nb = 2 := fun z => by rw [z] at w; exact absurd w (by decide)
          rw [if_pos w] at k1
          have k := k1 rfl
          obtain ⟨o, ho⟩ : ∃ o, o = m.2.2.2.1 12 := ⟨_, rfl⟩
          have fin : ∀ (s2 : ew_S) (m2 : ew_H), LR 2 0 (nb + 1) (fun j => if j = nb then ew_o 12 o else ew_o 12 (β j)) s2 m2 → Ex (Pl 2 0) 1 (sBrk o (ei c) f (ew_tw s 0)) (mBrk o m) s2 m2 → GI m2 → ew_W (ew_Call (d + 5)) 156 K (96, [some (ew_o 16 0), some (ew_i (ei c)), some (ew_i f)], [ew_i 1], ew_hp s2 m2) := fun s2 m2 L E G => by
            have R := h2.newB u hb2 ho.symm hc f L E G
            have e0 := ex_Brk (x := ei c) (f := f) (s := ew_tw s 0) h.2.2.1 ho.symm
            rw [h.2.1.2.1.1] at R
            have tw2 : s2 16 0 0 = 0 := (E.2.2.1 16 0 0 (e0.2.1 _ _ h16) (fun w => by have := w.2; omega)).1.trans ((e0.2.2.1 16 0 0 h16 (fun w => w)).1.trans (ew_u_self _ _ _ _ _))
            have k := k _ _ _ _ _ R ((((Ex.tw s m 0).pt (Nat.le_refl 0)).tr (e0.pt (Nat.le_refl 2))).tr (E.pt (Nat.le_refl 1))) tw2
            rw [show ((0, ei nb, ew_u (ew_u (ew_u a 9 3 0 (ei nb + 1)) 3 1 nb (ei c)) 3 2 nb f) : ew_O).2.1 = ei (nb + 1) - 1 by rw [← ei_1, Int32.add_sub_cancel]] at k
            exact ew_go (fun _ => false) 40 (xm_size2 R.1.2.1 ⟨trivial, k⟩)
          have mid : ew_W (ew_Call (d + 5)) 156 K (90, [some (ew_o 16 0), some (ew_i (ei c)), some (ew_i f)], [ew_i f, ew_i (ei c), ew_o 12 (m.2.2.2.1 12), ew_o 12 (m.2.2.2.1 12), ew_o 2 0], ew_mk (ew_hp (ew_tw s 0) m) 12 (m.2.2.2.1 12) 6 (et_dv 12)) := by
            rw [← ho]
            have e0 := ex_Brk (x := ei c) (f := f) (s := ew_tw s 0) h.2.2.1 ho.symm
            exact ew_go (fun pc => Nat.beq pc 96) 40 (xg_Brk (h.2.2.1.2.2.2.1.trans ho.symm) (xm_add2 (hL.ex rfl e0 (fun _ n => n) (fun _ n => n)) (gi_Brk h.2.2.1 ho.symm) (by omega) o fin))
          have pre : ew_W (ew_Call (d + 5)) 156 K (41, [some (ew_o 16 0), some (ew_i (ei c)), some (ew_i f)], [ew_i 0, ew_o 16 0], ew_hp (ew_tw s 0) m) :=
            ew_go (fun pc => Nat.beq pc 90) 60 (xm_ref0 (ew_u_self _ _ _ _ _) rfl ⟨fun z => absurd rfl z, fun _ => xm_size2 hL ⟨fun _ => xm_ref0 (ew_u_self _ _ _ _ _) rfl ⟨fun _ => mid, fun z => absurd rfl z⟩, fun z => absurd (Classical.not_not.mp z) ne⟩⟩)
          exact ew_call (ew_go (fun pc => Nat.beq pc 41) 80 (xm_noCell (fun z => absurd (z.symm.trans hN) (by decide)) (fun _ => xm_start0 rfl ⟨fun z => absurd rfl z, fun _ => ⟨ix, fun z => absurd (e3.trans hl) z, fun _ => xm_isInT hv ⟨fun _ => pre, fun z => absurd (show ¬ (1 : Int32) = 0 by decide) z⟩⟩⟩)))
        · have e2 : ei nb = 2 := by
            have : ¬ nb < 2 := fun q => w ((ei_lt (b := 2) (by omega) (by decide)).mpr q)
            rw [show nb = 2 by omega]; rfl
          rw [if_neg w] at k0
          have k := k0 (show ¬ (3 : Nat) = 0 by decide)
          have pre : ew_W (ew_Call (d + 5)) 156 K (41, [some (ew_o 16 0), some (ew_i (ei c)), some (ew_i f)], [ew_i 0, ew_o 16 0], ew_hp (ew_tw s 0) m) :=
            ew_go (fun pc => Nat.beq pc 90) 60 (xm_ref0 (ew_u_self _ _ _ _ _) rfl ⟨fun z => absurd rfl z, fun _ => xm_size2 hL ⟨fun z => absurd e2 z, fun _ => xm_ref1 (ew_u_self _ _ _ _ _) (show ¬ (1 : Int32) = 0 by decide) (show ¬ (3 : Int32) ≤ 0 by decide) ⟨fun z => absurd z (show ¬ (1 : Int32) = 0 by decide), fun _ => ⟨trivial, k.no2 h⟩⟩⟩⟩)
          exact ew_call (ew_go (fun pc => Nat.beq pc 41) 80 (xm_noCell (fun z => absurd (z.symm.trans hN) (by decide)) (fun _ => xm_start0 rfl ⟨fun z => absurd rfl z, fun _ => ⟨ix, fun z => absurd (e3.trans hl) z, fun _ => xm_isInT hv ⟨fun _ => pre, fun z => absurd (show ¬ (1 : Int32) = 0 by decide) z⟩⟩⟩)))
      · rw [if_neg (fun z => hv z.2)] at k0
        have k := ref (k0 (show ¬ (2 : Nat) = 0 by decide))
        exact ew_call (ew_go (fun pc => Nat.beq pc 41) 80 (xm_noCell (fun z => absurd (z.symm.trans hN) (by decide)) (fun _ => xm_start0 rfl ⟨fun z => absurd rfl z, fun _ => ⟨ix, fun z => absurd (e3.trans hl) z, fun _ => xm_isInF hv ⟨fun z => absurd rfl z, fun _ => k⟩⟩⟩)))
    · rw [if_neg (fun z => hl z.1)] at k0
      have k := ref (k0 (show ¬ (2 : Nat) = 0 by decide))
      exact ew_call (ew_go (fun pc => Nat.beq pc 41) 80 (xm_noCell (fun z => absurd (z.symm.trans hN) (by decide)) (fun _ => xm_start0 rfl ⟨fun z => absurd rfl z, fun _ => ⟨ix, fun _ => k, fun z => absurd (fun q => hl (e3.symm.trans q)) z⟩⟩)))
  · have hN : iN x 15 = false := iN_f h1
    rw [hN, cond_false] at k0
    have k := k0 (show ¬ (1 : Nat) = 0 by decide)
    exact ew_call (ew_go (fun _ => false) 80 (xm_noCell (fun _ => xm_start1 (show ¬ (1 : Int32) = 0 by decide) (show ¬ (1 : Int32) ≤ 0 by decide) ⟨fun _ => ⟨trivial, k.no h⟩, fun z => absurd (show ¬ (1 : Int32) = 0 by decide) z⟩) (fun z => absurd (hN.symm.trans z) (by decide))))
end
