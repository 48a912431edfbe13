/-! Of a breaker: the model. -/
section
variable {d : Nat} {K : ew_R → ew_H → Prop} {nb ns np T : Nat} {β σ : Nat → Nat} {ρ : Nat → Nat → Nat} {a s : ew_S} {m : ew_H}
theorem xm_ofBreakerNow (h : RR 0 0 nb ns np T β σ ρ (fun _ _ _ => 0) a s m) {b : Nat} (hb : b < nb) {x w : Int32} (hx : x = ei b) (k : ∀ s' m', RR 0 0 nb ns np T β σ ρ (fun _ _ _ => 0) a s' m' → Ex P1 1 s m s' m' → K (.inl (some (ew_i (sp_bv b (ei b) w a)))) (ew_hp s' m')) : ew_Call (d + 5) 169 [ew_o 16 0, ew_i x, ew_i w] (ew_hp s m) K := by
  subst hx
  have h5 := h.2.1.1
  have hb1 : rb b (β b) (fun _ _ _ => 0) a s m := h.1.2.2.2.2.1 b hb
  obtain ⟨-, e0, e1, e2, hL⟩ := hb1
  have e2 : s 12 2 (β b) = a 3 3 b := (Int32.add_zero _).symm.trans e2
  obtain ⟨n, hn, en, -⟩ := (h.2.1.2.2.2.1 b hb).2
  have en : a 8 1 b = ei n := en
  rw [en, ei_nat (by omega)] at hL
  have k0 : ∀ v, sp_bv b (ei b) w a = v → K (.inl (some (ew_i v))) (ew_hp s m) := fun v e => by rw [← e]; exact k s m h ((Ex.rf P1 s m).le (by decide))
  refine ew_call (ew_go (fun _ => false) 60 (xm_get2 h.1.2.1 hb rfl rfl ⟨fun e => ⟨trivial, k0 _ ?_⟩, fun n0 => ⟨fun e => ⟨trivial, k0 _ ?_⟩, fun n1 => ⟨fun e => xm_size98 hL ⟨trivial, k0 _ ?_⟩, fun n2 => ⟨fun e => xm_led h rfl (fun s' m' R E => ⟨trivial, ?_⟩), fun n3 => ⟨fun e => xm_towedBy h rfl ⟨trivial, k0 _ ?_⟩, fun n4 => ⟨trivial, k0 _ ?_⟩⟩⟩⟩⟩⟩))
  · have e : w = 0 := e
    exact (if_pos e).trans e0.symm
  · have e : w = 1 := e
    have n0 : ¬ w = 0 := n0
    exact ((if_neg n0).trans (if_pos e)).trans e1.symm
  · have e : w = 2 := e
    have n0 : ¬ w = 0 := n0
    have n1 : ¬ w = 1 := n1
    exact ((if_neg n0).trans ((if_neg n1).trans (if_pos e))).trans en
  · have k := k s' m' R E
    have e : w = 3 := e
    have n0 : ¬ w = 0 := n0
    have n1 : ¬ w = 1 := n1
    have n2 : ¬ w = 2 := n2
    rw [show sp_bv b (ei b) w a = sp_led 1 (ei b) a from (if_neg n0).trans ((if_neg n1).trans ((if_neg n2).trans (if_pos e)))] at k
    exact k
  · have e : w = 4 := e
    have n0 : ¬ w = 0 := n0
    have n1 : ¬ w = 1 := n1
    have n2 : ¬ w = 2 := n2
    have n3 : ¬ w = 3 := n3
    exact (if_neg n0).trans ((if_neg n1).trans ((if_neg n2).trans ((if_neg n3).trans (if_pos e))))
  · have n0 : ¬ w = 0 := n0
    have n1 : ¬ w = 1 := n1
    have n2 : ¬ w = 2 := n2
    have n3 : ¬ w = 3 := n3
    have n4 : ¬ w = 4 := n4
    exact ((if_neg n0).trans ((if_neg n1).trans ((if_neg n2).trans ((if_neg n3).trans (if_neg n4))))).trans e2.symm
theorem xw_ofBreaker (h : RR 0 0 nb ns np T β σ ρ (fun _ _ _ => 0) a s m) (h16 : m.2.2.1 16 0 = true) (x w : Int32) (k : KM nb ns np T β σ ρ (fun _ _ _ => 0) a 1 s m K (vo_ofBreaker x w a)) : ew_Call (d + 6) 170 [ew_o 16 0, ew_i x, ew_i w] (ew_hp s m) K := by
  have hI := h.2.1
  have h5 := hI.1
  have h2 := h.tw 0
  have hL := h.1.2.1
  unfold vo_ofBreaker at k
  rw [hI.2.1.1] at k
  rcases ei_dec x nb (by omega) with ⟨c, hc, rfl⟩ | ⟨h1, -⟩
  · have hN : iN (ei c) (ei nb) = true := iN_t hc (by omega)
    rw [hN, cond_true, ei_nat (by omega)] at k
    by_cases hw : 0 ≤ w ∧ w ≤ 5
    · rw [if_pos hw] at k
      exact ew_call (ew_go (fun _ => false) 80 (xm_noBreaker hL (by omega) (fun z => absurd (z.symm.trans hN) (by decide)) (fun _ => xm_start0 rfl ⟨fun z => absurd rfl z, fun _ => xm_isInT hw ⟨fun _ => xm_ref0 (ew_u_self _ _ _ _ _) rfl ⟨fun _ => xm_ofBreakerNow h2 hc rfl (fun s' m' R E => ⟨trivial, k s' m' R (((Ex.tw s m 0).tr E.p6).le (by decide)) ((E.2.2.1 16 0 0 h16 (fun w => by unfold P1 at w; omega)).1.trans (ew_u_self _ _ _ _ _))⟩), fun z => absurd rfl z⟩, fun z => absurd (show ¬ (1 : Int32) = 0 by decide) z⟩⟩)))
    · rw [if_neg hw] at k
      exact ew_call (ew_go (fun _ => false) 80 (xm_noBreaker hL (by omega) (fun z => absurd (z.symm.trans hN) (by decide)) (fun _ => xm_start0 rfl ⟨fun z => absurd rfl z, fun _ => xm_isInF hw ⟨fun z => absurd rfl z, fun _ => xm_ref1 (ew_u_self _ _ _ _ _) (show ¬ (1 : Int32) = 0 by decide) (show ¬ (2 : Int32) ≤ 0 by decide) ⟨fun z => absurd z (show ¬ (1 : Int32) = 0 by decide), fun _ => ⟨trivial, k.no2 h⟩⟩⟩⟩)))
  · have hN : iN x (ei nb) = false := iN_f h1
    rw [hN, cond_false] at k
    exact ew_call (ew_go (fun _ => false) 80 (xm_noBreaker hL (by omega) (fun _ => xm_start1 (show ¬ (1 : Int32) = 0 by decide) (show ¬ (1 : Int32) ≤ 0 by decide) ⟨fun _ => ⟨trivial, k.no h⟩, fun z => absurd (show ¬ (1 : Int32) = 0 by decide) z⟩) (fun z => absurd (hN.symm.trans z) (by decide))))
end
