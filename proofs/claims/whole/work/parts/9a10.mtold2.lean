/-! What is told and done: the model, ships and ports. -/
theorem ew_u_cm (s : ew_S) {k p i k' p' i' : Nat} (x x' : Int32) (h : ¬ (k' = k ∧ p' = p ∧ i' = i)) : ew_u (ew_u s k p i x) k' p' i' x' = ew_u (ew_u s k' p' i' x') k p i x := by
  funext k2 p2 i2
  by_cases e : k2 = k' ∧ p2 = p' ∧ i2 = i'
  · obtain ⟨rfl, rfl, rfl⟩ := e
    rw [ew_u_self, ew_u_ne _ _ h, ew_u_self]
  · rw [ew_u_ne _ _ e]
    by_cases e2 : k2 = k ∧ p2 = p ∧ i2 = i
    · obtain ⟨rfl, rfl, rfl⟩ := e2
      rw [ew_u_self, ew_u_self]
    · rw [ew_u_ne _ _ e2, ew_u_ne _ _ e2, ew_u_ne _ _ e]
def Qpo : Nat → Nat → Nat → Prop := fun k _ _ => k = 13 ∨ k = 82 ∨ k = 162 ∨ k = 180 ∨ k = 561
section
variable {d : Nat} {K : ew_R → ew_H → Prop} {q i nb ns np T c : Nat} {β σ : Nat → Nat} {ρ ρ' : Nat → Nat → Nat} {z : ew_Z3} {a a' s s' : ew_S} {m m' : ew_H} {P : Nat → Nat → Nat → Prop}
theorem RM.prt (h : RM q i nb ns np β σ ρ z a s m) (F : Fr Ppo a a') (e : Ex Qpo c s m s' m') (k : ∀ p, p < np → rp p ρ' a' s' m') : RM q i nb ns np β σ ρ' z a' s' m' := by
  obtain ⟨h1, h2, h3, h4, h5, h6, h7, h8⟩ := h
  have nq : ∀ {k p o : Nat}, k ≠ 13 → k ≠ 82 → k ≠ 162 → k ≠ 180 → k ≠ 561 → ¬ Qpo k p o := fun n1 n2 n3 n4 n5 w => by unfold Qpo at w; omega
  have nf : ∀ {k p o : Nat}, k ≠ 6 → k ≠ 18 → k ≠ 81 → k ≠ 113 → a' k p o = a k p o := fun n1 n2 n3 n4 => F _ _ _ (fun w => by unfold Ppo at w; omega)
  exact ⟨(h1.ex e (fun k p hk => nq (by omega) (by omega) (by omega) (by omega) (by omega))).cg (nf (by decide) (by decide) (by decide) (by decide)) (nf (by decide) (by decide) (by decide) (by decide)) (fun p i _ => nf (by decide) (by decide) (by decide) (by decide)), h2.ex rfl e (fun p => nq (by decide) (by decide) (by decide) (by decide) (by decide)) (fun p => nq (by decide) (by decide) (by decide) (by decide) (by decide)), h3.ex rfl e (fun p => nq (by decide) (by decide) (by decide) (by decide) (by decide)) (fun p => nq (by decide) (by decide) (by decide) (by decide) (by decide)), h4.ex rfl e (fun p => nq (by decide) (by decide) (by decide) (by decide) (by decide)) (fun p => nq (by decide) (by decide) (by decide) (by decide) (by decide)),
    fun b hb => ((h5 b hb).ex e (fun k p hk => nq (by omega) (by omega) (by omega) (by omega) (by omega))).cg (fun p => nf (by decide) (by decide) (by decide) (by decide)) (nf (by decide) (by decide) (by decide) (by decide)) (fun p => nf (by decide) (by decide) (by decide) (by decide)),
    fun j hj => ((h6 j hj).ex e (fun k p hk => nq (by omega) (by omega) (by omega) (by omega) (by omega))).cg (fun p => nf (by decide) (by decide) (by decide) (by decide)) (nf (by decide) (by decide) (by decide) (by decide)) (fun p => nf (by decide) (by decide) (by decide) (by decide)) (fun p => nf (by decide) (by decide) (by decide) (by decide)), k, h8⟩
theorem rp.ex2 {p : Nat} (h : rp p ρ a s m) (e : Ex P c s m s' m') (n : ∀ k r, (k = 13 ∨ k = 82 ∨ k = 162 ∨ k = 180) → ¬ P k r p) (n2 : ∀ r j, ¬ P 561 r j) : rp p ρ a s' m' := by
  obtain ⟨⟨h1, h1'⟩, h2, h3, h4, h5⟩ := h
  refine ⟨⟨e.2.1 _ _ h1, e.2.1 _ _ h1'⟩, ?_, fun j hj => ?_, h4.ex rfl e (fun r => n _ r (Or.inr (Or.inr (Or.inl rfl)))) (fun r => n _ r (Or.inr (Or.inr (Or.inr rfl)))), fun r hr => ?_⟩
  · rw [(e.2.2.1 13 0 p h1 (n _ _ (Or.inl rfl))).1]; exact h2
  · rw [(e.2.2.1 82 j p h1' (n _ _ (Or.inr (Or.inl rfl)))).1]; exact h3 j hj
  · obtain ⟨k1, k2, k3⟩ := h5 r hr
    refine ⟨e.2.1 _ _ k1, ?_, ?_⟩
    · rw [(e.2.2.1 561 0 _ k1 (n2 _ _)).1]; exact k2
    · rw [(e.2.2.1 561 1 _ k1 (n2 _ _)).1]; exact k3
theorem xw_exempt (h : RR 0 0 nb ns np T β σ ρ (fun _ _ _ => 0) a s m) (p j : Int32) (k : KT nb ns np T 0 s m K (fun n => n) (op_exempt p j a)) : ew_Call (d + 6) 155 [ew_o 16 0, ew_i p, ew_i j] (ew_hp s m) K := by
  unfold op_exempt at k
  have h5 := h.2.1.1
  have hLp := h.1.2.2.2.1
  have hLs := h.1.2.2.1
  have h2 := h.tw 0
  rw [h.2.1.2.1.2.2, h.2.1.2.1.2.1] at k
  rcases ei_dec p np (by omega) with ⟨c, hc, rfl⟩ | ⟨h1, -⟩
  · have hN : iN (ei c) (ei np) = true := iN_t hc (by omega)
    rw [hN, Bool.true_and] at k
    rcases ei_dec j ns (by omega) with ⟨c2, hc2, rfl⟩ | ⟨h1, -⟩
    · have hM : iN (ei c2) (ei ns) = true := iN_t hc2 (by omega)
      rw [hM, cond_true, ei_nat (by omega), ei_nat (by omega)] at k
      have ix := ei_ix (j := c2) (n := 5) (by omega) (by decide)
      have hn : (ei c2).toNatClampNeg = c2 := ei_nat (by omega)
      have hp := h.1.2.2.2.2.2.2.1 c hc
      have f82 : s 82 c2 c = a 18 c2 c := hp.2.2.1 c2 (by omega)
      have v01 : a 18 c2 c = 0 ∨ a 18 c2 c = 1 := (h.2.1.2.2.2.2.2.1 c hc).2.2 c2 (by omega)
      have er : (if a 18 c2 c = 0 then (0 : Int32) else 1) = a 18 c2 c := by
        rcases v01 with e | e
        · rw [if_pos e, e]
        · rw [e]; decide
      rw [er] at k
      have E : Ex (fun k r o => k = 82 ∧ r = c2 ∧ o = c) 0 (ew_tw s 0) m (ew_u (ew_tw s 0) 82 c2 c 1) m := (Ex.rf _ _ _).u _ rfl (Or.inl ⟨rfl, rfl, rfl⟩)
      have R : RR 0 0 nb ns np T β σ ρ (fun _ _ _ => 0) (ew_u a 18 c2 c 1) (ew_u (ew_tw s 0) 82 c2 c 1) m := by
        refine ⟨h2.1.prt ((Fr.rf _ _).u _ (Or.inr (Or.inl rfl))) (E.mono (fun k p o _ w => Or.inr (Or.inl w.1)) (Nat.le_refl _)) (fun p hp' => ?_), iv_exempt h.2.1 c2 c, h.2.2.1, h2.2.2.2.ex E⟩
        obtain ⟨g1, g2, g3, g4, g5⟩ := h2.1.2.2.2.2.2.2.1 p hp'
        refine ⟨g1, g2, fun i hi => ?_, g4, g5⟩
        by_cases e : i = c2 ∧ p = c
        · rw [e.1, e.2, ew_u_self, ew_u_self]
        · rw [ew_u_ne _ _ (by omega), ew_u_ne _ _ (by omega)]
          exact g3 i hi
      have k := k _ _ _ _ _ R (((Ex.tw s m 0).pt (Nat.le_refl 0)).tr (E.pt (Nat.le_refl 0))) (show ew_tw s 0 16 0 0 = 0 from ew_u_self _ _ _ _ _)
      refine ew_call (ew_go (fun _ => false) 80 (xm_noPort hLp (by omega) (fun z => absurd (z.symm.trans hN) (by decide)) (fun _ => ⟨fun z => absurd rfl z, fun _ => xm_noShip hLs (by omega) (fun z => absurd (z.symm.trans hM) (by decide)) (fun _ => ⟨fun _ => xm_start0 rfl ⟨fun _ => xm_get66 h2.1.2.2.2.1 hc rfl rfl ⟨ix, xm_get66 h2.1.2.2.2.1 hc rfl rfl ⟨⟨ix, Or.inr rfl⟩, ?_, ?_⟩⟩, fun z => absurd rfl z⟩, fun z => absurd rfl z⟩)⟩)))
      · show s 82 (ei c2).toNatClampNeg c = 0 ∨ s 82 (ei c2).toNatClampNeg c = 1
        rw [hn, f82]; exact v01
      · show K (.inl (some (ew_i (s 82 (ei c2).toNatClampNeg c)))) (ew_put (ew_hp (ew_tw s 0) m) 82 c (ei c2).toNatClampNeg (ew_i 1))
        rw [hn, f82]
        exact ek_p rfl k
    · have hM : iN j (ei ns) = false := iN_f h1
      rw [hM, cond_false] at k
      exact ew_call (ew_go (fun _ => false) 80 (xm_noPort hLp (by omega) (fun z => absurd (z.symm.trans hN) (by decide)) (fun _ => ⟨fun z => absurd rfl z, fun _ => xm_noShip hLs (by omega) (fun _ => ⟨fun z => absurd z (show ¬ (1 : Int32) = 0 by decide), fun _ => xm_start1 (show ¬ (1 : Int32) = 0 by decide) (show ¬ (1 : Int32) ≤ 0 by decide) ⟨fun z => absurd z (show ¬ (1 : Int32) = 0 by decide), fun _ => ⟨Or.inl rfl, k.no h⟩⟩⟩) (fun z => absurd (hM.symm.trans z) (by decide))⟩)))
  · have hN : iN p (ei np) = false := iN_f h1
    rw [hN, Bool.false_and, cond_false] at k
    exact ew_call (ew_go (fun _ => false) 80 (xm_noPort hLp (by omega) (fun _ => ⟨fun _ => xm_start1 (show ¬ (1 : Int32) = 0 by decide) (show ¬ (1 : Int32) ≤ 0 by decide) ⟨fun z => absurd z (show ¬ (1 : Int32) = 0 by decide), fun _ => ⟨Or.inl rfl, k.no h⟩⟩, fun z => absurd (show ¬ (1 : Int32) = 0 by decide) z⟩) (fun z => absurd (hN.symm.trans z) (by decide))))
/-- a ship's route is emptied -/
theorem RR.drop (h : RR 0 0 nb ns np T β σ ρ z a s m) {j : Nat} (hj : j < ns) {es : Nat → ew_V} (hL : LR 130 (σ j) 0 es s' m') (e : Ex (Pl 130 (σ j)) c s m s' m') : rs j (σ j) z (ew_u a 40 1 j 0) s' m' ∧ Ex (Qs (σ j)) c s m s' m' := by
  have hs : rs j (σ j) z a s m := h.1.2.2.2.2.2.1 j hj
  refine ⟨hs.route e (fun p w => by have := w.2; omega) (fun p w => by have := w.2; omega) (fun p => rfl) (fun p => rfl) ?_, e.mono (fun k p o _ w => ⟨w.1, by have := w.2; omega⟩) (Nat.le_refl _)⟩
  rw [ew_u_self]
  exact hL.cg (fun j hj => absurd hj (Nat.not_lt_zero _))
theorem xw_halt (h : RR 0 0 nb ns np T β σ ρ (fun _ _ _ => 0) a s m) (h16 : m.2.2.1 16 0 = true) (j : Int32) (k : KT nb ns np T 0 s m K (fun n => n) (op_halt j a)) : ew_Call (d + 6) 160 [ew_o 16 0, ew_i j] (ew_hp s m) K := by
  unfold op_halt at k
  have h5 := h.2.1.1
  have hLs := h.1.2.2.1
  have h2 := h.tw 0
  rw [h.2.1.2.1.2.1] at k
  rcases ei_dec j ns (by omega) with ⟨c, hc, rfl⟩ | ⟨h1, -⟩
  · have hN : iN (ei c) (ei ns) = true := iN_t hc (by omega)
    rw [hN, cond_true, ei_nat (by omega)] at k
    obtain ⟨l, hl, el, -⟩ := (h.2.1.2.2.2.2.1 c hc).2.1
    have el : a 40 1 c = ei l := el
    have hs2 : rs c (σ c) (fun _ _ _ => 0) a (ew_tw s 0) m := h2.1.2.2.2.2.2.1 c hc
    have hL2 := hs2.2.2.2.2
    rw [el, ei_nat (by omega)] at hL2
    obtain ⟨F, I, -⟩ := iv_halt h.2.1 hc
    rw [show ((0, a 40 1 c, ew_u (if a 10 7 c = 3 then a else sp_fr c a) 40 1 c 0) : ew_O) = (0, ei l, ew_u (if a 10 7 c = 3 then a else sp_fr c a) 40 1 c 0) by rw [el]] at k
    have fin : ∀ (s1 : ew_S) (m1 : ew_H) (es' : Nat → ew_V), LR 130 (σ c) 0 es' s1 m1 → Ex (Pl 130 (σ c)) 0 (ew_tw s 0) m s1 m1 → GI m1 → ew_W (ew_Call (d + 5)) 160 K (45, [some (ew_o 16 0), some (ew_i (ei c)), some (ew_o 15 (σ c)), some (ew_i (ei l))], [], ew_hp s1 m1) := fun s1 m1 es' L1 E1 G1 => by
      obtain ⟨r1, E2⟩ := h2.drop hc L1 E1
      have f4 : s1 15 4 (σ c) = a 10 7 c := r1.2.1.2.2.2.2.1
      have f16 : s1 16 0 0 = 0 := (E1.2.2.1 16 0 0 h16 (fun w => by have := w.2; omega)).1.trans (ew_u_self _ _ _ _ _)
      have tw0 := (Ex.tw s m 0).pt (Nat.le_refl 0)
      by_cases c3 : a 10 7 c = 3
      · rw [if_pos c3] at k F I
        have k := k _ _ _ _ _ (h2.ship hc F I E2 r1 G1) (tw0.tr (E2.pt (Nat.le_refl 0))) f16
        exact ew_go (fun _ => false) 40 ⟨fun _ => ⟨trivial, k⟩, fun z => absurd (f4.trans c3) z⟩
      · rw [if_neg c3] at k F I
        have e9 : ew_u (sp_fr c a) 40 1 c 0 = ew_u (ew_u (ew_u a 40 1 c 0) 10 7 c 0) 10 8 c (-1) := by
          show ew_u (ew_u (ew_u a 10 7 c 0) 10 8 c (-1)) 40 1 c 0 = _
          rw [ew_u_cm (ew_u a 10 7 c 0) (-1) 0 (by omega), ew_u_cm a 0 0 (by omega)]
        rw [e9] at k F I
        have E3 : Ex (Qs (σ c)) 0 (ew_tw s 0) m (ew_u (ew_u s1 15 4 (σ c) 0) 15 5 (σ c) (-1)) m1 := (E2.u _ rfl (Or.inl ⟨rfl, Or.inl rfl⟩)).u _ rfl (Or.inl ⟨rfl, Or.inl rfl⟩)
        have k := k _ _ _ _ _ (h2.ship hc F I E3 ((r1.state 0).brk (-1)) G1) (tw0.tr (E3.pt (Nat.le_refl 0))) f16
        exact ew_go (fun _ => false) 40 ⟨fun z => absurd (f4.symm.trans z) c3, fun _ => xm_free (σ c) ⟨trivial, k⟩⟩
    exact ew_call (ew_go (fun pc => Nat.beq pc 45) 80 (xm_noShip hLs (by omega) (fun z => absurd (z.symm.trans hN) (by decide)) (fun _ => xm_start0 rfl ⟨fun _ => xm_get34 h2.1.2.2.1 hc rfl rfl (xm_size130 hL2 (xm_clear130 hL2 h2.2.2.1 fin)), fun z => absurd rfl z⟩)))
  · have hN : iN j (ei ns) = false := iN_f h1
    rw [hN, cond_false] at k
    exact ew_call (ew_go (fun _ => false) 80 (xm_noShip hLs (by omega) (fun _ => xm_start1 (show ¬ (1 : Int32) = 0 by decide) (show ¬ (1 : Int32) ≤ 0 by decide) ⟨fun z => absurd z (show ¬ (1 : Int32) = 0 by decide), fun _ => ⟨trivial, k.no h⟩⟩) (fun z => absurd (hN.symm.trans z) (by decide))))
end
