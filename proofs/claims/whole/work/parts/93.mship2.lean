/-! Of a ship: the model's answer. -/
section
variable {d : Nat} {K : ew_R → ew_H → Prop} {nb ns np T : Nat} {β σ : Nat → Nat} {ρ : Nat → Nat → Nat} {a s : ew_S} {m : ew_H}
theorem xs_sh {j l n : Nat} (hn : n < 10) (e0 : s 15 0 (σ j) = a 10 2 j) (e1 : s 15 1 (σ j) = a 10 3 j) (e2 : s 15 2 (σ j) = a 10 5 j) (e3 : s 15 3 (σ j) = a 10 6 j) (e4 : s 15 4 (σ j) = a 10 7 j) (e5 : s 15 5 (σ j) = a 10 8 j) (e6 : s 15 6 (σ j) = a 10 9 j) (e7 : s 15 7 (σ j) = a 10 10 j) (e8 : s 15 8 (σ j) = a 10 11 j) (el : a 40 1 j = ei l) : (ew_u (ew_u (ew_u (ew_u (ew_u (ew_u (ew_u (ew_u (ew_u (ew_u (ef_z s 497 (m.2.2.2.1 497)) 497 0 (m.2.2.2.1 497) (s 15 0 (σ j))) 497 1 (m.2.2.2.1 497) (s 15 1 (σ j))) 497 2 (m.2.2.2.1 497) (s 15 2 (σ j))) 497 3 (m.2.2.2.1 497) (s 15 3 (σ j))) 497 4 (m.2.2.2.1 497) (s 15 4 (σ j))) 497 5 (m.2.2.2.1 497) (s 15 5 (σ j))) 497 6 (m.2.2.2.1 497) (ei l)) 497 7 (m.2.2.2.1 497) (s 15 6 (σ j))) 497 8 (m.2.2.2.1 497) (s 15 7 (σ j))) 497 9 (m.2.2.2.1 497) (s 15 8 (σ j))) 497 n (m.2.2.2.1 497) = sp_sv j (ei n) a := by
  have hn : n = 0 ∨ n = 1 ∨ n = 2 ∨ n = 3 ∨ n = 4 ∨ n = 5 ∨ n = 6 ∨ n = 7 ∨ n = 8 ∨ n = 9 := by omega
  unfold sp_sv
  rcases hn with rfl | rfl | rfl | rfl | rfl | rfl | rfl | rfl | rfl | rfl
  · rw [ew_u_ne _ _ (by omega), ew_u_ne _ _ (by omega), ew_u_ne _ _ (by omega), ew_u_ne _ _ (by omega), ew_u_ne _ _ (by omega), ew_u_ne _ _ (by omega), ew_u_ne _ _ (by omega), ew_u_ne _ _ (by omega), ew_u_ne _ _ (by omega), ew_u_self]
    exact (e0).trans (if_pos (by decide)).symm
  · rw [ew_u_ne _ _ (by omega), ew_u_ne _ _ (by omega), ew_u_ne _ _ (by omega), ew_u_ne _ _ (by omega), ew_u_ne _ _ (by omega), ew_u_ne _ _ (by omega), ew_u_ne _ _ (by omega), ew_u_ne _ _ (by omega), ew_u_self]
    exact (e1).trans ((if_neg (by decide)).trans (if_pos (by decide))).symm
  · rw [ew_u_ne _ _ (by omega), ew_u_ne _ _ (by omega), ew_u_ne _ _ (by omega), ew_u_ne _ _ (by omega), ew_u_ne _ _ (by omega), ew_u_ne _ _ (by omega), ew_u_ne _ _ (by omega), ew_u_self]
    exact (e2).trans ((if_neg (by decide)).trans ((if_neg (by decide)).trans (if_pos (by decide)))).symm
  · rw [ew_u_ne _ _ (by omega), ew_u_ne _ _ (by omega), ew_u_ne _ _ (by omega), ew_u_ne _ _ (by omega), ew_u_ne _ _ (by omega), ew_u_ne _ _ (by omega), ew_u_self]
    exact (e3).trans ((if_neg (by decide)).trans ((if_neg (by decide)).trans ((if_neg (by decide)).trans (if_pos (by decide))))).symm
  · rw [ew_u_ne _ _ (by omega), ew_u_ne _ _ (by omega), ew_u_ne _ _ (by omega), ew_u_ne _ _ (by omega), ew_u_ne _ _ (by omega), ew_u_self]
    exact (e4).trans ((if_neg (by decide)).trans ((if_neg (by decide)).trans ((if_neg (by decide)).trans ((if_neg (by decide)).trans (if_pos (by decide)))))).symm
  · rw [ew_u_ne _ _ (by omega), ew_u_ne _ _ (by omega), ew_u_ne _ _ (by omega), ew_u_ne _ _ (by omega), ew_u_self]
    exact (e5).trans ((if_neg (by decide)).trans ((if_neg (by decide)).trans ((if_neg (by decide)).trans ((if_neg (by decide)).trans ((if_neg (by decide)).trans (if_pos (by decide))))))).symm
  · rw [ew_u_ne _ _ (by omega), ew_u_ne _ _ (by omega), ew_u_ne _ _ (by omega), ew_u_self]
    exact (el.symm).trans ((if_neg (by decide)).trans ((if_neg (by decide)).trans ((if_neg (by decide)).trans ((if_neg (by decide)).trans ((if_neg (by decide)).trans ((if_neg (by decide)).trans (if_pos (by decide)))))))).symm
  · rw [ew_u_ne _ _ (by omega), ew_u_ne _ _ (by omega), ew_u_self]
    exact (e6).trans ((if_neg (by decide)).trans ((if_neg (by decide)).trans ((if_neg (by decide)).trans ((if_neg (by decide)).trans ((if_neg (by decide)).trans ((if_neg (by decide)).trans ((if_neg (by decide)).trans (if_pos (by decide))))))))).symm
  · rw [ew_u_ne _ _ (by omega), ew_u_self]
    exact (e7).trans ((if_neg (by decide)).trans ((if_neg (by decide)).trans ((if_neg (by decide)).trans ((if_neg (by decide)).trans ((if_neg (by decide)).trans ((if_neg (by decide)).trans ((if_neg (by decide)).trans ((if_neg (by decide)).trans (if_pos (by decide)))))))))).symm
  · rw [ew_u_self]
    exact (e8).trans ((if_neg (by decide)).trans ((if_neg (by decide)).trans ((if_neg (by decide)).trans ((if_neg (by decide)).trans ((if_neg (by decide)).trans ((if_neg (by decide)).trans ((if_neg (by decide)).trans ((if_neg (by decide)).trans ((if_neg (by decide)).trans (if_pos (by decide))))))))))).symm
theorem xm_ofShipNow (h : RR 0 0 nb ns np T β σ ρ (fun _ _ _ => 0) a s m) {j : Nat} (hj : j < ns) {x w : Int32} (hx : x = ei j) (hw : 0 ≤ w ∧ w ≤ 14) (k : ∀ s' m', RR 0 0 nb ns np T β σ ρ (fun _ _ _ => 0) a s' m' → Ex P1 1 s m s' m' → K (.inl (some (ew_i (sp_sv j w a)))) (ew_hp s' m')) : ew_Call (d + 4) 171 [ew_o 16 0, ew_i x, ew_i w] (ew_hp s m) K := by
  subst hx
  have h5 := h.2.1.1
  have hs : rs j (σ j) (fun _ _ _ => 0) a s m := h.1.2.2.2.2.2.1 j hj
  obtain ⟨-, ⟨e0, e1, e2, e3, e4, e5, e8⟩, ⟨e6, e7⟩, ew, hL⟩ := hs
  have e6 : s 15 6 (σ j) = a 10 9 j := (Int32.add_zero _).symm.trans e6
  have e7 : s 15 7 (σ j) = a 10 10 j := (Int32.add_zero _).symm.trans e7
  obtain ⟨l, hl, el, -⟩ := (h.2.1.2.2.2.2.1 j hj).2.1
  have el : a 40 1 j = ei l := el
  rw [el, ei_nat (by omega)] at hL
  have hw' : ei 0 ≤ w ∧ w ≤ ei 14 := hw
  obtain ⟨n, -, hn, rfl⟩ := ei_rng (a := 0) (b := 14) (by decide) hw' (by decide)
  by_cases c : n < 10
  · have lt : ei n ≤ ei 9 := (ei_le (by omega) (by decide)).mpr (by omega)
    have n1 := h.2.2.1.new (k := 497) rfl
    have E := (((((((((((((Ex.rf P1 s m).mk (k := 497) (i := (m.2.2.2.1 497)) (N := 10) (fun _ => ew_i 0) rfl (by decide) n1 (fun k' h' e => by have := ef_L_or h'; omega)).zs rfl n1).u (k := 497) (p := 0) (i := (m.2.2.2.1 497)) (s 15 0 (σ j)) rfl (Or.inl (Or.inr (Or.inr (Or.inr (Or.inr (Or.inl rfl))))))).u (k := 497) (p := 1) (i := (m.2.2.2.1 497)) (s 15 1 (σ j)) rfl (Or.inl (Or.inr (Or.inr (Or.inr (Or.inr (Or.inl rfl))))))).u (k := 497) (p := 2) (i := (m.2.2.2.1 497)) (s 15 2 (σ j)) rfl (Or.inl (Or.inr (Or.inr (Or.inr (Or.inr (Or.inl rfl))))))).u (k := 497) (p := 3) (i := (m.2.2.2.1 497)) (s 15 3 (σ j)) rfl (Or.inl (Or.inr (Or.inr (Or.inr (Or.inr (Or.inl rfl))))))).u (k := 497) (p := 4) (i := (m.2.2.2.1 497)) (s 15 4 (σ j)) rfl (Or.inl (Or.inr (Or.inr (Or.inr (Or.inr (Or.inl rfl))))))).u (k := 497) (p := 5) (i := (m.2.2.2.1 497)) (s 15 5 (σ j)) rfl (Or.inl (Or.inr (Or.inr (Or.inr (Or.inr (Or.inl rfl))))))).u (k := 497) (p := 6) (i := (m.2.2.2.1 497)) (ei l) rfl (Or.inl (Or.inr (Or.inr (Or.inr (Or.inr (Or.inl rfl))))))).u (k := 497) (p := 7) (i := (m.2.2.2.1 497)) (s 15 6 (σ j)) rfl (Or.inl (Or.inr (Or.inr (Or.inr (Or.inr (Or.inl rfl))))))).u (k := 497) (p := 8) (i := (m.2.2.2.1 497)) (s 15 7 (σ j)) rfl (Or.inl (Or.inr (Or.inr (Or.inr (Or.inr (Or.inl rfl))))))).u (k := 497) (p := 9) (i := (m.2.2.2.1 497)) (s 15 8 (σ j)) rfl (Or.inl (Or.inr (Or.inr (Or.inr (Or.inr (Or.inl rfl)))))))
    have G1 : GI (ew_mk m 497 (m.2.2.2.1 497) 10 (fun _ => ew_i 0)) := h.2.2.1.mk1 (k := 497) rfl
    have R := h.ex1 E G1
    have k := k _ _ R E
    rw [← xs_sh (σ := σ) c e0 e1 e2 e3 e4 e5 e6 e7 e8 el] at k
    have hL6 : LR 130 (σ j) l (fun r => ew_o 0 ((a 593 r j).toNatClampNeg + 128)) (ew_u (ew_u (ew_u (ew_u (ew_u (ew_u (ef_z s 497 (m.2.2.2.1 497)) 497 0 (m.2.2.2.1 497) (s 15 0 (σ j))) 497 1 (m.2.2.2.1 497) (s 15 1 (σ j))) 497 2 (m.2.2.2.1 497) (s 15 2 (σ j))) 497 3 (m.2.2.2.1 497) (s 15 3 (σ j))) 497 4 (m.2.2.2.1 497) (s 15 4 (σ j))) 497 5 (m.2.2.2.1 497) (s 15 5 (σ j))) (ew_mk m 497 (m.2.2.2.1 497) 10 (fun _ => ew_i 0)) := hL
    refine ew_call (ew_go (fun pc => Nat.beq pc 33) 40 (xm_get34 h.1.2.2.1 hj rfl rfl ⟨fun _ => eq_na (k := 497) (ew_Call_mono _) rfl rfl rfl ⟨by decide, by decide, by decide⟩ ?_, fun z => absurd lt z⟩))
    show ew_W (ew_Call (d + 3)) 171 K (35, [some (ew_o 16 0), some (ew_i (ei j)), some (ew_i (ei n)), some (ew_o 15 (σ j)), none], [ew_o 497 (m.2.2.2.1 497)], ew_mk (ew_hp s m) 497 (m.2.2.2.1 497) 10 (fun _ => ew_i 0))
    exact eq_n (fun _ => rfl) (xl_sh0 (l := l) (xl_sh2 (l := l) (xl_sh4 (l := l) (xl_sh6 hL6 (xl_sh8 (l := l) (xl_sh10 (l := l) c k))))))
  · have nl : ¬ ei n ≤ ei 9 := by rw [ei_le (by omega) (by decide)]; omega
    have es : ei n - ei 10 = ei (n - 10) := ei_sub (by omega)
    have ix : ew_ix (ei n - ei 10) 5 := by rw [es]; exact ei_ix (by omega) (by decide)
    have k := k s m h ((Ex.rf P1 s m).le (by decide))
    have ev : sp_sv j (ei n) a = s 369 (ei n - ei 10).toNatClampNeg (σ j) := by
      have ne : ∀ c, c < 10 → ¬ ei n = ei c := fun c hc w => by
        rw [ei_inj (by omega) (by omega)] at w
        omega
      unfold sp_sv
      rw [if_neg (show ¬ ei n = 0 from ne 0 (by decide)), if_neg (show ¬ ei n = 1 from ne 1 (by decide)), if_neg (show ¬ ei n = 2 from ne 2 (by decide)), if_neg (show ¬ ei n = 3 from ne 3 (by decide)), if_neg (show ¬ ei n = 4 from ne 4 (by decide)), if_neg (show ¬ ei n = 5 from ne 5 (by decide)), if_neg (show ¬ ei n = 6 from ne 6 (by decide)), if_neg (show ¬ ei n = 7 from ne 7 (by decide)), if_neg (show ¬ ei n = 8 from ne 8 (by decide)), if_neg (show ¬ ei n = 9 from ne 9 (by decide)), show ei n - 10 = ei (n - 10) from es, es, ei_nat (by omega)]
      exact ((Int32.add_zero _).symm.trans (ew (n - 10) (by omega))).symm
    rw [ev] at k
    exact ew_call (ew_go (fun pc => Nat.beq pc 33) 40 (xm_get34 h.1.2.2.1 hj rfl rfl ⟨fun z => absurd z nl, fun _ => ⟨ix, trivial, k⟩⟩))
theorem xw_ofShip (h : RR 0 0 nb ns np T β σ ρ (fun _ _ _ => 0) a s m) (h16 : m.2.2.1 16 0 = true) (x w : Int32) (k : KM nb ns np T β σ ρ (fun _ _ _ => 0) a 1 s m K (vo_ofShip x w a)) : ew_Call (d + 5) 172 [ew_o 16 0, ew_i x, ew_i w] (ew_hp s m) K := by
  have hI := h.2.1
  have h5 := hI.1
  have h2 := h.tw 0
  have hL := h.1.2.2.1
  unfold vo_ofShip at k
  rw [hI.2.1.2.1] at k
  rcases ei_dec x ns (by omega) with ⟨c, hc, rfl⟩ | ⟨h1, -⟩
  · have hN : iN (ei c) (ei ns) = true := iN_t hc (by omega)
    rw [hN, cond_true, ei_nat (by omega)] at k
    by_cases hw : 0 ≤ w ∧ w ≤ 14
    · rw [if_pos hw] at k
      exact ew_call (ew_go (fun _ => false) 80 (xm_noShip hL (by omega) (fun z => absurd (z.symm.trans hN) (by decide)) (fun _ => xm_start0 rfl ⟨fun z => absurd rfl z, fun _ => xm_isInT hw ⟨fun _ => xm_ref0 (ew_u_self _ _ _ _ _) rfl ⟨fun _ => xm_ofShipNow h2 hc rfl hw (fun s' m' R E => ⟨trivial, k s' m' R (((Ex.tw s m 0).tr E.p6).le (by decide)) ((E.2.2.1 16 0 0 h16 (fun w => by unfold P1 at w; omega)).1.trans (ew_u_self _ _ _ _ _))⟩), fun z => absurd rfl z⟩, fun z => absurd (show ¬ (1 : Int32) = 0 by decide) z⟩⟩)))
    · rw [if_neg hw] at k
      exact ew_call (ew_go (fun _ => false) 80 (xm_noShip hL (by omega) (fun z => absurd (z.symm.trans hN) (by decide)) (fun _ => xm_start0 rfl ⟨fun z => absurd rfl z, fun _ => xm_isInF hw ⟨fun z => absurd rfl z, fun _ => xm_ref1 (ew_u_self _ _ _ _ _) (show ¬ (1 : Int32) = 0 by decide) (show ¬ (2 : Int32) ≤ 0 by decide) ⟨fun z => absurd z (show ¬ (1 : Int32) = 0 by decide), fun _ => ⟨trivial, k.no2 h⟩⟩⟩⟩)))
  · have hN : iN x (ei ns) = false := iN_f h1
    rw [hN, cond_false] at k
    exact ew_call (ew_go (fun _ => false) 80 (xm_noShip hL (by omega) (fun _ => xm_start1 (show ¬ (1 : Int32) = 0 by decide) (show ¬ (1 : Int32) ≤ 0 by decide) ⟨fun _ => ⟨trivial, k.no h⟩, fun z => absurd (show ¬ (1 : Int32) = 0 by decide) z⟩) (fun z => absurd (hN.symm.trans z) (by decide))))
end
