/-! What is told: the model, cells. -/
def PT : Nat → Nat → Nat → Prop := fun _ _ _ => True
def ef_tc (n : Nat) : Nat := bif Nat.beq n 3 then 2 else n
def Qc5 (i : Nat) : Nat → Nat → Nat → Prop := fun k _ j => j = i ∧ (k = 14 ∨ k = 273 ∨ k = 305 ∨ k = 337 ∨ k = 50)
def Pcs : Nat → Nat → Nat → Prop := fun k _ o => o = 0 ∧ (k = 273 ∨ k = 305 ∨ k = 337 ∨ k = 50)
section
variable {d : Nat} {K : ew_R → ew_H → Prop} {q i nb ns np T c : Nat} {β σ : Nat → Nat} {ρ : Nat → Nat → Nat} {z : ew_Z3} {a a' s s' : ew_S} {m m' : ew_H} {P : Nat → Nat → Nat → Prop}
theorem Ex.pt (e : Ex P c s m s' m') {c' : Nat} (h : c ≤ c') : Ex PT c' s m s' m' := e.mono (fun _ _ _ _ _ => trivial) h
theorem RM.cells5 (h : RM q i nb ns np β σ ρ z a s m) (F : Fr (fun k p _ => k = 4 ∨ (k = 9 ∧ (p = 5 ∨ p = 6))) a a') (e : Ex (Qc5 i) c s m s' m') (k : rc q i z a' s' m') : RM q i nb ns np β σ ρ z a' s' m' := by
  obtain ⟨h1, h2, h3, h4, h5, h6, h7, h8⟩ := h
  have nq : ∀ {k p o : Nat}, k ≠ 14 → k ≠ 273 → k ≠ 305 → k ≠ 337 → k ≠ 50 → ¬ Qc5 i k p o := fun n1 n2 n3 n4 n5 w => by have := w.2; omega
  have nf : ∀ {k p o : Nat}, k ≠ 4 → k ≠ 9 → a' k p o = a k p o := fun n1 n2 => F _ _ _ (fun w => by omega)
  exact ⟨k, h2.ex rfl e (fun p => nq (by decide) (by decide) (by decide) (by decide) (by decide)) (fun p => nq (by decide) (by decide) (by decide) (by decide) (by decide)), h3.ex rfl e (fun p => nq (by decide) (by decide) (by decide) (by decide) (by decide)) (fun p => nq (by decide) (by decide) (by decide) (by decide) (by decide)), h4.ex rfl e (fun p => nq (by decide) (by decide) (by decide) (by decide) (by decide)) (fun p => nq (by decide) (by decide) (by decide) (by decide) (by decide)),
    fun b hb => ((h5 b hb).ex e (fun k p hk => nq (by omega) (by omega) (by omega) (by omega) (by omega))).cg (fun p => nf (by decide) (by decide)) (nf (by decide) (by decide)) (fun p => nf (by decide) (by decide)),
    fun j hj => ((h6 j hj).ex e (fun k p hk => nq (by omega) (by omega) (by omega) (by omega) (by omega))).cg (fun p => nf (by decide) (by decide)) (nf (by decide) (by decide)) (fun p => nf (by decide) (by decide)) (fun p => nf (by decide) (by decide)),
    fun p hp => ((h7 p hp).ex e (fun k r j hk => nq (by omega) (by omega) (by omega) (by omega) (by omega))).cg (fun p => nf (by decide) (by decide)) (fun p => nf (by decide) (by decide)) (fun p => nf (by decide) (by decide)) (fun p => nf (by decide) (by decide)), h8⟩
theorem RR.cells (h : RR 0 0 nb ns np T β σ ρ z a s m) {T' : Nat} (F : Fr (fun k _ _ => k = 4) a a') (Fs : Fr Pcs s s') (k : ∀ c, c < 15 → s' 273 c 0 = a' 4 0 c ∧ s' 305 c 0 = a' 4 1 c ∧ s' 337 c 0 = a' 4 2 c ∧ s' 50 c 0 = a' 4 3 c) (I : Iv 0 nb ns np T' a') : RR 0 0 nb ns np T' β σ ρ z a' s' m ∧ Ex (Qc5 0) 0 s m s' m := by
  have e : Ex (Qc5 0) 0 s m s' m := (Ex.rf _ _ _).fr Fs (fun k p o w => ⟨by
    obtain ⟨-, rfl | rfl | rfl | rfl⟩ := w <;> rfl, Or.inl ⟨w.1, Or.inr w.2⟩⟩)
  obtain ⟨g1, g2, g3, g4⟩ := h.1.1
  refine ⟨⟨h.1.cells5 (F.mono (fun k p i w => Or.inl w)) e ⟨g1, ?_, ?_, k⟩, I, h.2.2.1, h.2.2.2.ex e⟩, e⟩
  · rw [Fs 14 0 0 (fun w => by have := w.2; omega), F 9 5 0 (fun w => by omega)]; exact g2
  · rw [Fs 14 1 0 (fun w => by have := w.2; omega), F 9 6 0 (fun w => by omega)]; exact g3
/-- what the model says to an order, and what it leaves -/
def KT (nb ns np T : Nat) (c : Nat) (s : ew_S) (m : ew_H) (K : ew_R → ew_H → Prop) (f : Nat → Nat) (o : ew_O) : Prop := ∀ β σ ρ s' m', RR 0 0 nb ns np T β σ ρ (fun _ _ _ => 0) o.2.2 s' m' → Ex PT c s m s' m' → s' 16 0 0 = ei (f o.1) → K (.inl (some (ew_i o.2.1))) (ew_hp s' m')
theorem KT.no {n : Nat} {v : Int32} {f : Nat → Nat} (h : RR 0 0 nb ns np T β σ ρ (fun _ _ _ => 0) a s m) (k : KT nb ns np T c s m K f (n, v, a)) : K (.inl (some (ew_i v))) (ew_hp (ew_tw s (ei (f n))) m) := k _ _ _ _ _ (h.tw _) ((Ex.tw s m _).pt (Nat.zero_le _)) (ew_u_self _ _ _ _ _)
theorem KT.no2 {n : Nat} {v x : Int32} {f : Nat → Nat} (h : RR 0 0 nb ns np T β σ ρ (fun _ _ _ => 0) a s m) (k : KT nb ns np T c s m K f (n, v, a)) : K (.inl (some (ew_i v))) (ew_hp (ew_tw (ew_tw s x) (ei (f n))) m) := by
  rw [show ew_tw (ew_tw s x) (ei (f n)) = ew_tw s (ei (f n)) from ew_u_u _ _ _ _ _ _]
  exact k.no h
theorem xw_ice (h : RR 0 0 nb ns np T β σ ρ (fun _ _ _ => 0) a s m) (x v : Int32) (k : KT nb ns np (T + 300) 0 s m K (fun n => n) (op_ice x v a)) : ew_Call (d + 6) 151 [ew_o 16 0, ew_i x, ew_i v] (ew_hp s m) K := by
  unfold op_ice at k
  have h3 := h.leT (show T ≤ T + 300 by omega)
  rcases ei_dec x 15 (by decide) with ⟨c, hc, rfl⟩ | ⟨h1, -⟩
  · have hN : iN (ei c) 15 = true := iN_t hc (by decide)
    rw [hN, cond_true, ei_nat (by omega)] at k
    have ix := ei_ix (j := c) (n := 15) hc (by decide)
    have hn : (ei c).toNatClampNeg = c := ei_nat (by omega)
    obtain ⟨f0, f1, f2, f3⟩ := h.1.1.2.2.2 c hc
    have e0 : s 273 (ei c).toNatClampNeg 0 = a 4 0 c := by rw [hn]; exact f0
    have e3 : s 50 (ei c).toNatClampNeg 0 = a 4 3 c := by rw [hn]; exact f3
    by_cases hv : 0 ≤ v ∧ v ≤ 300
    · rw [if_pos hv] at k
      by_cases hl : a 4 3 c = 0
      · rw [if_pos hl] at k
        obtain ⟨R, E⟩ := (h.tw 0).cells (a' := ew_u a 4 0 c v) (s' := ew_u (ew_tw s 0) 273 c 0 v) ((Fr.rf _ _).u _ rfl) ((Fr.rf _ _).u _ ⟨rfl, Or.inl rfl⟩) (fun c' hc' => by
          obtain ⟨g0, g1, g2, g3⟩ := h.1.1.2.2.2 c' hc'
          refine ⟨?_, g1, g2, g3⟩
          by_cases e : c' = c
          · rw [e, ew_u_self, ew_u_self]
          · rw [ew_u_ne _ _ (by omega), ew_u_ne _ _ (by omega)]; exact g0) (iv_ice h.2.1 hc hv hl)
        have k := k _ _ _ _ _ R (((Ex.tw s m 0).pt (Nat.le_refl 0)).tr (E.pt (Nat.le_refl 0))) (show ew_tw s 0 16 0 0 = 0 from ew_u_self _ _ _ _ _)
        refine ew_call (ew_go (fun _ => false) 80 (xm_noCell (fun z => absurd (z.symm.trans hN) (by decide)) (fun _ => xm_start0 rfl ⟨fun z => absurd rfl z, fun _ => xm_isInT hv ⟨fun _ => xm_ref0 (ew_u_self _ _ _ _ _) rfl ⟨fun z => absurd rfl z, fun _ => ⟨ix, xm_ref0 (ew_u_self _ _ _ _ _) (e3.trans hl) ⟨fun _ => ⟨ix, ⟨ix, trivial⟩, trivial, ?_⟩, fun z => absurd rfl z⟩⟩⟩, fun z => absurd (show ¬ (1 : Int32) = 0 by decide) z⟩⟩)))
        show K (.inl (some (ew_i (s 273 (ei c).toNatClampNeg 0)))) (ew_put (ew_hp (ew_tw s 0) m) 273 0 (ei c).toNatClampNeg (ew_i v))
        rw [e0, hn]
        exact ek_p rfl k
      · rw [if_neg hl] at k
        exact ew_call (ew_go (fun _ => false) 80 (xm_noCell (fun z => absurd (z.symm.trans hN) (by decide)) (fun _ => xm_start0 rfl ⟨fun z => absurd rfl z, fun _ => xm_isInT hv ⟨fun _ => xm_ref0 (ew_u_self _ _ _ _ _) rfl ⟨fun z => absurd rfl z, fun _ => ⟨ix, xm_ref1 (ew_u_self _ _ _ _ _) (fun w => hl (e3.symm.trans w)) (show ¬ (3 : Int32) ≤ 0 by decide) ⟨fun z => absurd z (show ¬ (1 : Int32) = 0 by decide), fun _ => ⟨trivial, k.no2 h3⟩⟩⟩⟩, fun z => absurd (show ¬ (1 : Int32) = 0 by decide) z⟩⟩)))
    · rw [if_neg hv] at k
      exact ew_call (ew_go (fun _ => false) 80 (xm_noCell (fun z => absurd (z.symm.trans hN) (by decide)) (fun _ => xm_start0 rfl ⟨fun z => absurd rfl z, fun _ => xm_isInF hv ⟨fun z => absurd rfl z, fun _ => xm_ref1 (ew_u_self _ _ _ _ _) (show ¬ (1 : Int32) = 0 by decide) (show ¬ (2 : Int32) ≤ 0 by decide) ⟨fun _ => ⟨trivial, k.no2 h3⟩, fun z => absurd (show ¬ (1 : Int32) = 0 by decide) z⟩⟩⟩)))
  · have hN : iN x 15 = false := iN_f h1
    rw [hN, cond_false] at k
    exact ew_call (ew_go (fun _ => false) 80 (xm_noCell (fun _ => xm_start1 (show ¬ (1 : Int32) = 0 by decide) (show ¬ (1 : Int32) ≤ 0 by decide) ⟨fun _ => ⟨trivial, k.no h3⟩, fun z => absurd (show ¬ (1 : Int32) = 0 by decide) z⟩) (fun z => absurd (hN.symm.trans z) (by decide))))
theorem xl_landR {c : Nat} {u : Option ew_V} (e0 : s 16 0 0 = 0) (k : K (.inl (some (ew_i 0))) (ew_hp (ew_tw s 2) m)) : ew_W (ew_Call (d + 5)) 152 K (54, [some (ew_o 16 0), some (ew_i (ei c)), u], [ew_i 1, ew_o 16 0], ew_hp s m) :=
  ew_go (fun _ => false) 40 (xm_ref1 e0 (show ¬ (1 : Int32) = 0 by decide) (show ¬ (2 : Int32) ≤ 0 by decide) ⟨fun z => absurd z (show ¬ (1 : Int32) = 0 by decide), fun _ => ⟨trivial, k⟩⟩)
theorem xl_landD {c : Nat} (hc : c < 15) {u : Option ew_V} (e0 : s 16 0 0 = 0) (k : K (.inl (some (ew_i (s 273 c 0)))) (ew_hp (ew_u (ew_u (ew_u (ew_u s 50 c 0 1) 273 c 0 0) 305 c 0 0) 337 c 0 0) m)) : ew_W (ew_Call (d + 5)) 152 K (54, [some (ew_o 16 0), some (ew_i (ei c)), u], [ew_i 0, ew_o 16 0], ew_hp s m) := by
  have ix := ei_ix (j := c) (n := 15) hc (by decide)
  have hn : (ei c).toNatClampNeg = c := ei_nat (by omega)
  refine ew_go (fun _ => false) 60 (xm_ref0 e0 rfl ⟨fun _ => ⟨ix, ⟨ix, Or.inr rfl⟩, ⟨ix, trivial⟩, ⟨ix, trivial⟩, ⟨ix, trivial⟩, trivial, ?_⟩, fun z => absurd rfl z⟩)
  show K (.inl (some (ew_i (s 273 (ei c).toNatClampNeg 0)))) (ew_put (ew_put (ew_put (ew_put (ew_hp s m) 50 0 (ei c).toNatClampNeg (ew_i 1)) 273 0 (ei c).toNatClampNeg (ew_i 0)) 305 0 (ei c).toNatClampNeg (ew_i 0)) 337 0 (ei c).toNatClampNeg (ew_i 0))
  rw [hn, ew_hp_put rfl]
  exact ek_3 rfl rfl rfl k
theorem xw_land (h : RR 0 0 nb ns np T β σ ρ (fun _ _ _ => 0) a s m) (h16 : m.2.2.1 16 0 = true) (x : Int32) (k : KT nb ns np T 3 s m K ef_tc (op_land x a)) : ew_Call (d + 6) 152 [ew_o 16 0, ew_i x] (ew_hp s m) K := by
  unfold op_land at k
  rcases ei_dec x 15 (by decide) with ⟨c, hc, rfl⟩ | ⟨h1, -⟩
  · have hN : iN (ei c) 15 = true := iN_t hc (by decide)
    rw [hN, cond_true, ei_nat (by omega)] at k
    have ix := ei_ix (j := c) (n := 15) hc (by decide)
    have hn : (ei c).toNatClampNeg = c := ei_nat (by omega)
    obtain ⟨f0, f1, f2, f3⟩ := h.1.1.2.2.2 c hc
    have e3 : s 50 (ei c).toNatClampNeg 0 = a 4 3 c := by rw [hn]; exact f3
    have kp : ∀ {n : Nat} {s1 : ew_S} {m1 : ew_H}, Ex P1 n (ew_tw s 0) m s1 m1 → s1 16 0 0 = 0 := fun E => (E.2.2.1 16 0 0 h16 (fun w => by unfold P1 at w; omega)).1.trans (ew_u_self _ _ _ _ _)
    have no : ∀ {n : Nat} {s1 : ew_S} {m1 : ew_H}, n ≤ 3 → KT nb ns np T 3 s m K ef_tc (3, 0, a) → RR 0 0 nb ns np T β σ ρ (fun _ _ _ => 0) a s1 m1 → Ex P1 n (ew_tw s 0) m s1 m1 → K (.inl (some (ew_i 0))) (ew_hp (ew_tw s1 2) m1) := fun hn k R E => k _ _ _ _ _ (R.tw 2) ((((Ex.tw s m 0).tr E.p6).tr (Ex.tw _ _ 2)).pt (by omega)) (ew_u_self _ _ _ _ _)
    by_cases hl : a 4 3 c = 0
    · rw [if_pos hl] at k
      have go : (∀ s1 m1, RR 0 0 nb ns np T β σ ρ (fun _ _ _ => 0) a s1 m1 → Ex P1 1 (ew_tw s 0) m s1 m1 → (¬ sp_sn (ei c) a ≤ 0 → ew_W (ew_Call (d + 5)) 152 K (54, [some (ew_o 16 0), some (ew_i (ei c)), none], [ew_i 1, ew_o 16 0], ew_hp s1 m1)) ∧ (sp_sn (ei c) a ≤ 0 → ew_W (ew_Call (d + 5)) 152 K (33, [some (ew_o 16 0), some (ew_i (ei c)), none], [ew_o 16 0], ew_hp s1 m1))) → ew_Call (d + 6) 152 [ew_o 16 0, ew_i (ei c)] (ew_hp s m) K := fun g => by
        refine ew_call (ew_go (fun pc => Nat.beq pc 54 || Nat.beq pc 33) 80 (xm_noCell (fun z => absurd (z.symm.trans hN) (by decide)) (fun _ => xm_start0 rfl ⟨fun z => absurd rfl z, fun _ => ⟨ix, fun z => absurd (e3.trans hl) z, fun _ => xm_shipsAt (h.tw 0) rfl (fun s1 m1 R E => ⟨fun w => (g s1 m1 R E).1 (Int32.not_le.mpr w), fun w => (g s1 m1 R E).2 (Int32.not_lt.mp w)⟩)⟩⟩)))
      refine go (fun s1 m1 R E => ⟨fun w => ?_, fun w => ?_⟩)
      · have hS : sp_sA (ei c) a = true := decide_eq_true w
        rw [hS, Bool.or_true, Bool.true_or, cond_true] at k
        exact xl_landR (kp E) (no (by decide) k R E)
      · have hS : sp_sA (ei c) a = false := decide_eq_false (fun z => z w)
        rw [hS, Bool.or_false] at k
        refine ew_go (fun pc => Nat.beq pc 54) 40 (xm_mbrk R rfl (fun hB s2 m2 R2 E2 => ?_) (fun hB s2 m2 R2 E2 => ?_))
        · rw [hB, Bool.true_or, cond_true] at k
          exact ⟨fun _ => xl_landR (kp (E.tr E2)) (no (by decide) k R2 (E.tr E2)), fun z => absurd (show ¬ (1 : Int32) = 0 by decide) z⟩
        · rw [hB, Bool.false_or] at k
          refine ⟨fun z => absurd rfl z, fun _ => xm_mport R2 rfl (fun hP s3 m3 R3 E3 => ?_) (fun hP s3 m3 R3 E3 => ?_)⟩
          · rw [hP, cond_true] at k
            exact ⟨fun z => absurd z (show ¬ (1 : Int32) = 0 by decide), fun _ => xl_landR (kp ((E.tr E2).tr E3)) (no (by decide) k R3 ((E.tr E2).tr E3))⟩
          · rw [hP, cond_false] at k
            have E4 := (E.tr E2).tr E3
            have f0 : s3 273 c 0 = a 4 0 c := (R3.1.1.2.2.2 c hc).1
            obtain ⟨R5, E5⟩ := R3.cells (a' := sp_land c a) (s' := ew_u (ew_u (ew_u (ew_u s3 50 c 0 1) 273 c 0 0) 305 c 0 0) 337 c 0 0) (((((Fr.rf _ _).u _ rfl).u _ rfl).u _ rfl).u _ rfl) (((((Fr.rf _ _).u _ ⟨rfl, Or.inr (Or.inr (Or.inr rfl))⟩).u _ ⟨rfl, Or.inl rfl⟩).u _ ⟨rfl, Or.inr (Or.inl rfl)⟩).u _ ⟨rfl, Or.inr (Or.inr (Or.inl rfl))⟩) (fun c' hc' => by
              obtain ⟨g0, g1, g2, g3⟩ := R3.1.1.2.2.2 c' hc'
              unfold sp_land
              by_cases e : c' = c
              · rw [e]
                refine ⟨?_, ?_, ?_, ?_⟩
                · rw [ew_u_ne _ _ (by omega), ew_u_ne _ _ (by omega), ew_u_self, ew_u_ne _ _ (by omega), ew_u_ne _ _ (by omega), ew_u_self]
                · rw [ew_u_ne _ _ (by omega), ew_u_self, ew_u_ne _ _ (by omega), ew_u_self]
                · rw [ew_u_self, ew_u_self]
                · rw [ew_u_ne _ _ (by omega), ew_u_ne _ _ (by omega), ew_u_ne _ _ (by omega), ew_u_self, ew_u_ne _ _ (by omega), ew_u_ne _ _ (by omega), ew_u_ne _ _ (by omega), ew_u_self]
              · refine ⟨?_, ?_, ?_, ?_⟩
                · rw [ew_u_ne _ _ (by omega), ew_u_ne _ _ (by omega), ew_u_ne _ _ (by omega), ew_u_ne _ _ (by omega), ew_u_ne _ _ (by omega), ew_u_ne _ _ (by omega), ew_u_ne _ _ (by omega), ew_u_ne _ _ (by omega)]; exact g0
                · rw [ew_u_ne _ _ (by omega), ew_u_ne _ _ (by omega), ew_u_ne _ _ (by omega), ew_u_ne _ _ (by omega), ew_u_ne _ _ (by omega), ew_u_ne _ _ (by omega), ew_u_ne _ _ (by omega), ew_u_ne _ _ (by omega)]; exact g1
                · rw [ew_u_ne _ _ (by omega), ew_u_ne _ _ (by omega), ew_u_ne _ _ (by omega), ew_u_ne _ _ (by omega), ew_u_ne _ _ (by omega), ew_u_ne _ _ (by omega), ew_u_ne _ _ (by omega), ew_u_ne _ _ (by omega)]; exact g2
                · rw [ew_u_ne _ _ (by omega), ew_u_ne _ _ (by omega), ew_u_ne _ _ (by omega), ew_u_ne _ _ (by omega), ew_u_ne _ _ (by omega), ew_u_ne _ _ (by omega), ew_u_ne _ _ (by omega), ew_u_ne _ _ (by omega)]; exact g3) (iv_land R3.2.1 hc)
            have k := k _ _ _ _ _ R5 ((((Ex.tw s m 0).pt (Nat.le_refl 0)).tr (E4.pt (Nat.le_refl _))).tr (E5.pt (Nat.le_refl 0))) (show s3 16 0 0 = 0 from kp E4)
            rw [show ((0, a 4 0 c, sp_land c a) : ew_O).2.1 = s3 273 c 0 from f0.symm] at k
            exact ⟨fun _ => xl_landD hc (kp E4) k, fun z => absurd rfl z⟩
    · rw [if_neg hl] at k
      exact ew_call (ew_go (fun pc => Nat.beq pc 54) 80 (xm_noCell (fun z => absurd (z.symm.trans hN) (by decide)) (fun _ => xm_start0 rfl ⟨fun z => absurd rfl z, fun _ => ⟨ix, fun _ => xl_landR (ew_u_self _ _ _ _ _) (no (n := 0) (by decide) k (h.tw 0) (Ex.rf _ _ _)), fun z => absurd (fun w => hl (e3.symm.trans w)) z⟩⟩)))
  · have hN : iN x 15 = false := iN_f h1
    rw [hN, cond_false] at k
    exact ew_call (ew_go (fun _ => false) 80 (xm_noCell (fun _ => xm_start1 (show ¬ (1 : Int32) = 0 by decide) (show ¬ (1 : Int32) ≤ 0 by decide) ⟨fun _ => ⟨trivial, k.no h⟩, fun z => absurd (show ¬ (1 : Int32) = 0 by decide) z⟩) (fun z => absurd (hN.symm.trans z) (by decide))))
end
