/-! How many: the model's answer. -/
theorem xs_mn {n g : Nat} {S0 s5 a : ew_S} {x0 v1 v2 v3 v4 v5 v6 v7 v8 v9 v10 : Int32} (hn : n < 11) (h5 : ∀ p, s5 529 p g = (ew_u (ew_u (ew_u (ew_u S0 529 0 g x0) 529 1 g v1) 529 2 g v2) 529 3 g v3) 529 p g) (e0 : x0 = a 9 5 0) (e1 : v1 = sp_ice a) (e2 : v2 = ef_sum (fun c => if a 4 2 c ≤ 0 then 0 else 1) 15) (e3 : v3 = a 9 4 0) (e4 : v4 = ef_sum (fun j => if a 10 7 j = 3 then 1 else 0) (a 9 4 0).toNatClampNeg) (e5 : v5 = a 9 3 0) (e6 : v6 = a 7 1 0) (e7 : v7 = ef_sum (fun j => ef_sum (fun p => a 177 p j) 5) (a 9 4 0).toNatClampNeg) (e8 : v8 = ef_sum (fun j => a 10 10 j) (a 9 4 0).toNatClampNeg) (e9 : v9 = a 9 6 0) (e10 : v10 = ef_sum (fun j => a 10 9 j) (a 9 4 0).toNatClampNeg) : (ew_u (ew_u (ew_u (ew_u (ew_u (ew_u (ew_u s5 529 4 g v4) 529 5 g v5) 529 6 g v6) 529 7 g v7) 529 8 g v8) 529 9 g v9) 529 10 g v10) 529 n g = sp_mv (ei n) a := by
  have hn : n = 0 ∨ n = 1 ∨ n = 2 ∨ n = 3 ∨ n = 4 ∨ n = 5 ∨ n = 6 ∨ n = 7 ∨ n = 8 ∨ n = 9 ∨ n = 10 := by omega
  unfold sp_mv
  rcases hn with rfl | rfl | rfl | rfl | rfl | rfl | rfl | rfl | rfl | rfl | rfl
  · rw [ew_u_ne _ _ (by omega), ew_u_ne _ _ (by omega), ew_u_ne _ _ (by omega), ew_u_ne _ _ (by omega), ew_u_ne _ _ (by omega), ew_u_ne _ _ (by omega), ew_u_ne _ _ (by omega), h5, ew_u_ne _ _ (by omega), ew_u_ne _ _ (by omega), ew_u_ne _ _ (by omega), ew_u_self]
    exact e0.trans (if_pos (by decide)).symm
  · rw [ew_u_ne _ _ (by omega), ew_u_ne _ _ (by omega), ew_u_ne _ _ (by omega), ew_u_ne _ _ (by omega), ew_u_ne _ _ (by omega), ew_u_ne _ _ (by omega), ew_u_ne _ _ (by omega), h5, ew_u_ne _ _ (by omega), ew_u_ne _ _ (by omega), ew_u_self]
    exact e1.trans ((if_neg (by decide)).trans (if_pos (by decide))).symm
  · rw [ew_u_ne _ _ (by omega), ew_u_ne _ _ (by omega), ew_u_ne _ _ (by omega), ew_u_ne _ _ (by omega), ew_u_ne _ _ (by omega), ew_u_ne _ _ (by omega), ew_u_ne _ _ (by omega), h5, ew_u_ne _ _ (by omega), ew_u_self]
    exact e2.trans ((if_neg (by decide)).trans ((if_neg (by decide)).trans (if_pos (by decide)))).symm
  · rw [ew_u_ne _ _ (by omega), ew_u_ne _ _ (by omega), ew_u_ne _ _ (by omega), ew_u_ne _ _ (by omega), ew_u_ne _ _ (by omega), ew_u_ne _ _ (by omega), ew_u_ne _ _ (by omega), h5, ew_u_self]
    exact e3.trans ((if_neg (by decide)).trans ((if_neg (by decide)).trans ((if_neg (by decide)).trans (if_pos (by decide))))).symm
  · rw [ew_u_ne _ _ (by omega), ew_u_ne _ _ (by omega), ew_u_ne _ _ (by omega), ew_u_ne _ _ (by omega), ew_u_ne _ _ (by omega), ew_u_ne _ _ (by omega), ew_u_self]
    exact e4.trans ((if_neg (by decide)).trans ((if_neg (by decide)).trans ((if_neg (by decide)).trans ((if_neg (by decide)).trans (if_pos (by decide)))))).symm
  · rw [ew_u_ne _ _ (by omega), ew_u_ne _ _ (by omega), ew_u_ne _ _ (by omega), ew_u_ne _ _ (by omega), ew_u_ne _ _ (by omega), ew_u_self]
    exact e5.trans ((if_neg (by decide)).trans ((if_neg (by decide)).trans ((if_neg (by decide)).trans ((if_neg (by decide)).trans ((if_neg (by decide)).trans (if_pos (by decide))))))).symm
  · rw [ew_u_ne _ _ (by omega), ew_u_ne _ _ (by omega), ew_u_ne _ _ (by omega), ew_u_ne _ _ (by omega), ew_u_self]
    exact e6.trans ((if_neg (by decide)).trans ((if_neg (by decide)).trans ((if_neg (by decide)).trans ((if_neg (by decide)).trans ((if_neg (by decide)).trans ((if_neg (by decide)).trans (if_pos (by decide)))))))).symm
  · rw [ew_u_ne _ _ (by omega), ew_u_ne _ _ (by omega), ew_u_ne _ _ (by omega), ew_u_self]
    exact e7.trans ((if_neg (by decide)).trans ((if_neg (by decide)).trans ((if_neg (by decide)).trans ((if_neg (by decide)).trans ((if_neg (by decide)).trans ((if_neg (by decide)).trans ((if_neg (by decide)).trans (if_pos (by decide))))))))).symm
  · rw [ew_u_ne _ _ (by omega), ew_u_ne _ _ (by omega), ew_u_self]
    exact e8.trans ((if_neg (by decide)).trans ((if_neg (by decide)).trans ((if_neg (by decide)).trans ((if_neg (by decide)).trans ((if_neg (by decide)).trans ((if_neg (by decide)).trans ((if_neg (by decide)).trans ((if_neg (by decide)).trans (if_pos (by decide)))))))))).symm
  · rw [ew_u_ne _ _ (by omega), ew_u_self]
    exact e9.trans ((if_neg (by decide)).trans ((if_neg (by decide)).trans ((if_neg (by decide)).trans ((if_neg (by decide)).trans ((if_neg (by decide)).trans ((if_neg (by decide)).trans ((if_neg (by decide)).trans ((if_neg (by decide)).trans ((if_neg (by decide)).trans (if_pos (by decide))))))))))).symm
  · rw [ew_u_self]
    exact e10.trans ((if_neg (by decide)).trans ((if_neg (by decide)).trans ((if_neg (by decide)).trans ((if_neg (by decide)).trans ((if_neg (by decide)).trans ((if_neg (by decide)).trans ((if_neg (by decide)).trans ((if_neg (by decide)).trans ((if_neg (by decide)).trans (if_neg (by decide))))))))))).symm
section
variable {d : Nat} {K : ew_R → ew_H → Prop} {nb ns np T : Nat} {β σ : Nat → Nat} {ρ : Nat → Nat → Nat} {a s : ew_S} {m : ew_H}
theorem xl_mn (h : RR 0 0 nb ns np T β σ ρ (fun _ _ _ => 0) a s m) {n t : Nat} (hn : n < 11) {u : Option ew_V} (k : ∀ s' m', RR 0 0 nb ns np T β σ ρ (fun _ _ _ => 0) a s' m' → Ex P1 2 s m s' m' → K (.inl (some (ew_i (sp_mv (ei n) a)))) (ew_hp s' m')) : ew_W (ew_Call (d + 3)) 174 K (130, [some (ew_o 16 0), some (ew_i (ei n)), some (ew_i (sp_ice a)), some (ew_i (ef_sum (fun c => if a 4 2 c ≤ 0 then 0 else 1) 15)), some (ew_i (ef_sum (fun j => ef_sum (fun p => a 177 p j) 5) ns)), some (ew_i (ef_sum (fun j => a 10 10 j) ns)), some (ew_i (ef_sum (fun j => a 10 9 j) ns)), some (ew_o 1 t), u], [], ew_hp s m) := by
  have h5 := h.2.1.1
  obtain ⟨eb, es, ep⟩ := h.2.1.2.1
  have n1 := h.2.2.1.new (k := 529) rfl
  have G1 : GI (ew_mk m 529 (m.2.2.2.1 529) 11 (fun _ => ew_i 0)) := h.2.2.1.mk1 (k := 529) rfl
  have E0 : Ex P1 1 s m (ef_z s 529 (m.2.2.2.1 529)) (ew_mk m 529 (m.2.2.2.1 529) 11 (fun _ => ew_i 0)) := ((Ex.rf P1 s m).mk (k := 529) (i := m.2.2.2.1 529) (N := 11) (fun _ => ew_i 0) rfl (by decide) n1 (fun k' h' e => by have := ef_L_or h'; omega)).zs rfl n1
  have U : ∀ {S : ew_S} {M : ew_H} {c : Nat} (p : Nat) (x : Int32), Ex P1 c s m S M → Ex P1 c s m (ew_u S 529 p (m.2.2.2.1 529) x) M := fun p x E => E.u x rfl (Or.inr n1)
  have hx1 : (ew_mk m 529 (m.2.2.2.1 529) 11 (fun _ => ew_i 0)).2.2.1 529 (m.2.2.2.1 529) = true := em_xs _ _ _ _ _
  refine ew_go (fun pc => Nat.beq pc 132) 40 (eq_na (k := 529) (ew_Call_mono _) rfl rfl rfl ⟨by decide, by decide, by decide⟩ ?_)
  show ew_W (ew_Call (d + 3)) 174 K (134, [some (ew_o 16 0), some (ew_i (ei n)), some (ew_i (sp_ice a)), some (ew_i (ef_sum (fun c => if a 4 2 c ≤ 0 then 0 else 1) 15)), some (ew_i (ef_sum (fun j => ef_sum (fun p => a 177 p j) 5) ns)), some (ew_i (ef_sum (fun j => a 10 10 j) ns)), some (ew_i (ef_sum (fun j => a 10 9 j) ns)), some (ew_o 1 t), u], [ew_o 529 (m.2.2.2.1 529)], ew_mk (ew_hp s m) 529 (m.2.2.2.1 529) 11 (fun _ => ew_i 0))
  have E2 := U 1 (sp_ice a) (U 0 ((ef_z s 529 (m.2.2.2.1 529)) 14 0 0) E0)
  have R2 := h.ex1 E2 G1
  have E4 := U 3 (ei ns) (U 2 (ef_sum (fun c => if a 4 2 c ≤ 0 then 0 else 1) 15) E2)
  have R4 := h.ex1 E4 G1
  refine eq_n (fun _ => rfl) (xl_mn0 (xl_mn2 R2.1.2.2.1 (xl_mn4 R4 (fun s5 m5 R5 E5 => ?_))))
  have hx5 := E5.2.1 _ _ hx1
  have W : ∀ {S : ew_S} {M : ew_H} {c : Nat} (p : Nat) (x : Int32), Ex P1 c s m S M → Ex P1 c s m (ew_u S 529 p (m.2.2.2.1 529) x) M := fun p x E => E.u x rfl (Or.inr n1)
  have E5' : Ex P1 2 s m s5 m5 := E4.tr E5.p1
  have E6 := W 4 (ef_sum (fun j => if a 10 7 j = 3 then 1 else 0) ns) E5'
  have R6 := h.ex1 E6 R5.2.2.1
  have E11 := W 10 (ef_sum (fun j => a 10 9 j) ns) (W 9 (s5 14 1 0) (W 8 (ef_sum (fun j => a 10 10 j) ns) (W 7 (ef_sum (fun j => ef_sum (fun p => a 177 p j) 5) ns) (W 6 (ei np) (W 5 (ei nb) E6)))))
  have k := k _ _ (h.ex1 E11 R5.2.2.1) E11
  have f9 : s5 14 1 0 = a 9 6 0 := (Int32.add_zero _).symm.trans R5.1.1.2.2.1
  have f5 : (ef_z s 529 (m.2.2.2.1 529)) 14 0 0 = a 9 5 0 := h.1.1.2.1
  have eN : (a 9 4 0).toNatClampNeg = ns := by rw [es, ei_nat (by omega)]
  rw [← xs_mn hn (fun p => (E5.2.2.1 529 p _ hx1 (fun w => w)).1) f5 rfl rfl es.symm (by rw [eN]) eb.symm ep.symm (by rw [eN]) (by rw [eN]) f9 (by rw [eN])] at k
  exact xl_mn5 R6.1.2.1 R6.1.2.2.2.1 (xl_mn7 (xl_mn9 (xl_mn11 hn k)))
theorem xm_manyNow (h : RR 0 0 nb ns np T β σ ρ (fun _ _ _ => 0) a s m) {n : Nat} (hn : n < 11) {x : Int32} (hx : x = ei n) (k : ∀ s' m', RR 0 0 nb ns np T β σ ρ (fun _ _ _ => 0) a s' m' → Ex P1 3 s m s' m' → K (.inl (some (ew_i (sp_mv (ei n) a)))) (ew_hp s' m')) : ew_Call (d + 4) 174 [ew_o 16 0, ew_i x] (ew_hp s m) K := by
  subst hx
  refine ew_call (ew_go (fun pc => Nat.beq pc 7) 40 (xl_mm1 h (ew_go (fun pc => Nat.beq pc 75) 40 (xm_iter34 h.2.2.1 h.1.2.2.1.1 (fun s1 m1 t i1 i2 i3 i4 i5 => xl_mm2 (s := s1) (fun s2 u R E => xl_mn R hn (fun s' m' R' E' => k s' m' R' ((i2.p1.tr (E.tr E')).le (by decide)))) ns 0 0 0 0 none s1 (by omega) rfl rfl rfl (h.ex1 i2.p1 i3) i1 (Ex.rf _ _ _)))) 15 0 0 0 0 rfl rfl rfl rfl))
theorem xw_many (h : RR 0 0 nb ns np T β σ ρ (fun _ _ _ => 0) a s m) (h16 : m.2.2.1 16 0 = true) (w : Int32) (k : KM nb ns np T β σ ρ (fun _ _ _ => 0) a 3 s m K (if 0 ≤ w ∧ w ≤ 10 then (0, sp_mv w a) else (1, 0))) : ew_Call (d + 5) 175 [ew_o 16 0, ew_i w] (ew_hp s m) K := by
  have h2 := h.tw 0
  by_cases hw : 0 ≤ w ∧ w ≤ 10
  · rw [if_pos hw] at k
    obtain ⟨n, hn, rfl⟩ := sp_mv_cases hw
    exact ew_call (ew_go (fun _ => false) 80 (xm_isInT hw ⟨fun _ => xm_start0 rfl ⟨fun _ => xm_manyNow h2 (by omega) rfl (fun s' m' R E => ⟨trivial, k s' m' R (((Ex.tw s m 0).tr E.p6).le (by decide)) ((E.2.2.1 16 0 0 h16 (fun w => by unfold P1 at w; omega)).1.trans (ew_u_self _ _ _ _ _))⟩), fun z => absurd rfl z⟩, fun z => absurd (show ¬ (1 : Int32) = 0 by decide) z⟩))
  · rw [if_neg hw] at k
    exact ew_call (ew_go (fun _ => false) 80 (xm_isInF hw ⟨fun z => absurd rfl z, fun _ => xm_start1 (show ¬ (1 : Int32) = 0 by decide) (show ¬ (1 : Int32) ≤ 0 by decide) ⟨fun z => absurd z (show ¬ (1 : Int32) = 0 by decide), fun _ => ⟨trivial, k.no h⟩⟩⟩))
end
