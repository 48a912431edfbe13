/-! Of a cell: the model. -/
section
variable {d : Nat} {K : ew_R → ew_H → Prop} {nb ns np T : Nat} {β σ : Nat → Nat} {ρ : Nat → Nat → Nat} {z : ew_Z3} {a s : ew_S} {m : ew_H}
theorem xm_ofCellNow (h : RR 0 0 nb ns np T β σ ρ z a s m) {c : Nat} (hc : c < 15) {x w : Int32} (hx : x = ei c) (k : ∀ s' m', RR 0 0 nb ns np T β σ ρ z a s' m' → Ex P1 1 s m s' m' → K (.inl (some (ew_i (sp_cv c (ei c) w a)))) (ew_hp s' m')) : ew_Call (d + 4) 166 [ew_o 16 0, ew_i x, ew_i w] (ew_hp s m) K := by
  subst hx
  obtain ⟨e0, e1, e2, e3⟩ := h.1.1.2.2.2 c hc
  have k0 : ∀ v, sp_cv c (ei c) w a = v → K (.inl (some (ew_i v))) (ew_hp s m) := fun v e => by rw [← e]; exact k s m h ((Ex.rf P1 s m).le (by decide))
  refine ew_call (ew_go (fun _ => false) 60 ⟨fun e => ⟨ei_ix (n := 15) hc (by decide), trivial, k0 _ ?_⟩, fun n0 => ⟨fun e => ⟨ei_ix (n := 15) hc (by decide), trivial, k0 _ ?_⟩, fun n1 => ⟨fun e => ⟨ei_ix (n := 15) hc (by decide), trivial, k0 _ ?_⟩, fun n2 => ⟨fun e => ⟨ei_ix (n := 15) hc (by decide), fun u => ⟨trivial, k0 _ ?_⟩, fun u => ⟨trivial, k0 _ ?_⟩⟩, fun n3 => ⟨fun e => xm_worth h.1.1 hc (h.2.1.2.2.1 c hc) ⟨trivial, k0 _ ?_⟩, fun n4 => xm_shipsAt h rfl (fun s' m' R E => ⟨trivial, ?_⟩)⟩⟩⟩⟩⟩)
  · have e : w = 0 := e
    show _ = s 273 (ei c).toNatClampNeg 0
    rw [ei_nat (by omega), e0]
    exact if_pos e
  · have e : w = 1 := e
    have n0 : ¬ w = 0 := n0
    show _ = s 305 (ei c).toNatClampNeg 0
    rw [ei_nat (by omega), e1]
    exact (if_neg n0).trans (if_pos e)
  · have e : w = 2 := e
    have n0 : ¬ w = 0 := n0
    have n1 : ¬ w = 1 := n1
    show _ = s 337 (ei c).toNatClampNeg 0
    rw [ei_nat (by omega), e2]
    exact (if_neg n0).trans ((if_neg n1).trans (if_pos e))
  · have e : w = 3 := e
    have n0 : ¬ w = 0 := n0
    have n1 : ¬ w = 1 := n1
    have n2 : ¬ w = 2 := n2
    have u : s 50 (ei c).toNatClampNeg 0 = 0 := u
    rw [ei_nat (by omega), e3] at u
    exact (if_neg n0).trans ((if_neg n1).trans ((if_neg n2).trans ((if_pos e).trans (if_pos u))))
  · have e : w = 3 := e
    have n0 : ¬ w = 0 := n0
    have n1 : ¬ w = 1 := n1
    have n2 : ¬ w = 2 := n2
    have u : ¬ s 50 (ei c).toNatClampNeg 0 = 0 := u
    rw [ei_nat (by omega), e3] at u
    exact (if_neg n0).trans ((if_neg n1).trans ((if_neg n2).trans ((if_pos e).trans (if_neg u))))
  · have e : w = 4 := e
    have n0 : ¬ w = 0 := n0
    have n1 : ¬ w = 1 := n1
    have n2 : ¬ w = 2 := n2
    have n3 : ¬ w = 3 := n3
    exact (if_neg n0).trans ((if_neg n1).trans ((if_neg n2).trans ((if_neg n3).trans (if_pos e))))
  · have k := k s' m' R E
    have n0 : ¬ w = 0 := n0
    have n1 : ¬ w = 1 := n1
    have n2 : ¬ w = 2 := n2
    have n3 : ¬ w = 3 := n3
    have n4 : ¬ w = 4 := n4
    rw [show sp_cv c (ei c) w a = sp_sn (ei c) a from (if_neg n0).trans ((if_neg n1).trans ((if_neg n2).trans ((if_neg n3).trans (if_neg n4))))] at k
    exact k
theorem xw_ofCell (h : RR 0 0 nb ns np T β σ ρ z a s m) (h16 : m.2.2.1 16 0 = true) (x w : Int32) (k : KM nb ns np T β σ ρ z a 1 s m K (vo_ofCell x w a)) : ew_Call (d + 5) 167 [ew_o 16 0, ew_i x, ew_i w] (ew_hp s m) K := by
  have hI := h.2.1
  have h5 := hI.1
  have h2 := h.tw 0
  unfold vo_ofCell at k
  rcases ei_dec x 15 (by decide) with ⟨c, hc, rfl⟩ | ⟨h1, -⟩
  · have hN : iN (ei c) 15 = true := iN_t (n := 15) hc (by decide)
    rw [hN, cond_true, ei_nat (by omega)] at k
    by_cases hw : 0 ≤ w ∧ w ≤ 5
    · rw [if_pos hw] at k
      exact ew_call (ew_go (fun _ => false) 80 (xm_noCell (fun z => absurd (z.symm.trans hN) (by decide)) (fun _ => xm_start0 rfl ⟨fun z => absurd rfl z, fun _ => xm_isInT hw ⟨fun _ => xm_ref0 (ew_u_self _ _ _ _ _) rfl ⟨fun _ => xm_ofCellNow h2 hc rfl (fun s' m' R E => ⟨trivial, k s' m' R (((Ex.tw s m 0).tr E.p6).le (by decide)) ((E.2.2.1 16 0 0 h16 (fun w => by unfold P1 at w; omega)).1.trans (ew_u_self _ _ _ _ _))⟩), fun z => absurd rfl z⟩, fun z => absurd (show ¬ (1 : Int32) = 0 by decide) z⟩⟩)))
    · rw [if_neg hw] at k
      exact ew_call (ew_go (fun _ => false) 80 (xm_noCell (fun z => absurd (z.symm.trans hN) (by decide)) (fun _ => xm_start0 rfl ⟨fun z => absurd rfl z, fun _ => xm_isInF hw ⟨fun z => absurd rfl z, fun _ => xm_ref1 (ew_u_self _ _ _ _ _) (show ¬ (1 : Int32) = 0 by decide) (show ¬ (2 : Int32) ≤ 0 by decide) ⟨fun z => absurd z (show ¬ (1 : Int32) = 0 by decide), fun _ => ⟨trivial, k.no2 h⟩⟩⟩⟩)))
  · have hN : iN x 15 = false := iN_f (n := 15) h1
    rw [hN, cond_false] at k
    exact ew_call (ew_go (fun _ => false) 80 (xm_noCell (fun _ => xm_start1 (show ¬ (1 : Int32) = 0 by decide) (show ¬ (1 : Int32) ≤ 0 by decide) ⟨fun _ => ⟨trivial, k.no h⟩, fun z => absurd (show ¬ (1 : Int32) = 0 by decide) z⟩) (fun z => absurd (hN.symm.trans z) (by decide))))
end
