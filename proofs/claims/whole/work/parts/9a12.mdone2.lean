/-! What is done: the model, towing and fuel. -/
def Qbb (o : Nat) : Nat → Nat → Nat → Prop := fun k _ j => j = o ∧ (k = 12 ∨ k = 98 ∨ k = 116)
section
variable {P : Nat → Nat → Nat → Prop} {c q i nb ns np T : Nat} {β σ : Nat → Nat} {ρ : Nat → Nat → Nat} {z : ew_Z3} {a a' s s' : ew_S} {m m' : ew_H}
theorem RM.brk0 (h : RM q i nb ns np β σ ρ z a s m) {b : Nat} (hb : b < nb) (F : Fr (Pbb (b + 2 * q)) a a') (e : Ex (Qbb (β b)) c s m s' m') (k : rb (b + 2 * q) (β b) z a' s' m') : RM q i nb ns np β σ ρ z a' s' m' := by
  obtain ⟨h1, h2, h3, h4, h5, h6, h7, h8, h9⟩ := h
  have nq : ∀ {k p o : Nat}, k ≠ 12 → k ≠ 98 → k ≠ 116 → ¬ Qbb (β b) k p o := fun n1 n2 n3 w => by have := w.2; omega
  have nf : ∀ {k p o : Nat}, k ≠ 3 → k ≠ 8 → k ≠ 145 → a' k p o = a k p o := fun n1 n2 n3 => F _ _ _ (fun w => by have := w.2; omega)
  refine ⟨(h1.ex e (fun k p hk => nq (by omega) (by omega) (by omega))).cg (nf (by decide) (by decide) (by decide)) (nf (by decide) (by decide) (by decide)) (fun p i _ => nf (by decide) (by decide) (by decide)), h2.ex rfl e (fun p => nq (by decide) (by decide) (by decide)) (fun p => nq (by decide) (by decide) (by decide)), h3.ex rfl e (fun p => nq (by decide) (by decide) (by decide)) (fun p => nq (by decide) (by decide) (by decide)), h4.ex rfl e (fun p => nq (by decide) (by decide) (by decide)) (fun p => nq (by decide) (by decide) (by decide)), fun b' hb' => ?_, fun j hj => ?_, fun p hp => ?_, h8, h9⟩
  · by_cases e1 : b' = b
    · rw [e1]; exact k
    · have n2 : ∀ k p, (k = 12 ∨ k = 98 ∨ k = 116) → ¬ Qbb (β b) k p (β b') := fun k p hk w => e1 (h8 b' b hb' hb w.1)
      have n3 : ∀ {k p}, a' k p (b' + 2 * q) = a k p (b' + 2 * q) := F _ _ _ (fun w => by have := w.1; omega)
      exact ((h5 b' hb').ex e n2).cg (fun p => n3) n3 (fun p => n3)
  · exact ((h6 j hj).ex e (fun k p hk => nq (by omega) (by omega) (by omega))).cg (fun p => nf (by decide) (by decide) (by decide)) (nf (by decide) (by decide) (by decide)) (fun p => nf (by decide) (by decide) (by decide)) (fun p => nf (by decide) (by decide) (by decide))
  · exact ((h7 p hp).ex e (fun k r j hk => nq (by omega) (by omega) (by omega))).cg (fun p => nf (by decide) (by decide) (by decide)) (fun p => nf (by decide) (by decide) (by decide)) (fun p => nf (by decide) (by decide) (by decide)) (fun p => nf (by decide) (by decide) (by decide))
theorem RR.ub (h : RR 0 0 nb ns np T β σ ρ z a s m) {b : Nat} (hb : b < nb) (F : Fr (Pbb b) a a') (I : Iv 0 nb ns np T a') (e : Ex (Qbb (β b)) c s m s' m') (k : rb b (β b) z a' s' m') (G : GI m') : RR 0 0 nb ns np T β σ ρ z a' s' m' := ⟨h.1.brk0 (q := 0) hb F e k, I, G, h.2.2.2.ex e⟩
end
section
variable {d : Nat} {K : ew_R → ew_H → Prop} {nb ns np T : Nat} {β σ : Nat → Nat} {ρ : Nat → Nat → Nat} {a s : ew_S} {m : ew_H}
theorem xw_tow (h : RR 0 0 nb ns np T β σ ρ (fun _ _ _ => 0) a s m) (h16 : m.2.2.1 16 0 = true) (l : Lb nb ns a) (b j : Int32) (k : KT nb ns np T 1 s m K ef_tc (op_tow b j a)) : ew_Call (d + 6) 163 [ew_o 16 0, ew_i b, ew_i j] (ew_hp s m) K := by
  unfold op_tow at k
  have h5 := h.2.1.1
  have h2 := h.tw 0
  rw [h.2.1.2.1.1, h.2.1.2.1.2.1] at k
  cases hN : (iN b (ei nb) && iN j (ei ns)) with
  | false =>
    rw [hN, cond_false] at k
    exact xm_bsF (v := 0) h (Or.inr rfl) hN (k.no h)
  | true =>
    have hN' := hN
    rw [Bool.and_eq_true] at hN'
    obtain ⟨hB, hS⟩ := hN'
    rcases ei_dec b nb (by omega) with ⟨c, hc, rfl⟩ | ⟨w, -⟩
    · rcases ei_dec j ns (by omega) with ⟨c2, hc2, rfl⟩ | ⟨w, -⟩
      · rw [hN, cond_true, ei_nat (by omega), ei_nat (by omega)] at k
        obtain ⟨-, f1, f4, f5⟩ := h2.sc hc2
        obtain ⟨-, -, -, ⟨r, hr, er, eb⟩, -⟩ := h.2.1.2.2.2.2.1 c2 hc2
        have er : a 10 3 c2 = ei r := er
        have eb : a 10 4 c2 = ef_bears (ei r) := eb
        have kp : ∀ {n : Nat} {s1 : ew_S} {m1 : ew_H}, Ex P1 n (ew_tw s 0) m s1 m1 → s1 16 0 0 = 0 := fun E => (E.2.2.1 16 0 0 h16 (fun w => by unfold P1 at w; omega)).1.trans (ew_u_self _ _ _ _ _)
        have no : ∀ {n : Nat} {s1 : ew_S} {m1 : ew_H}, n ≤ 1 → KT nb ns np T 1 s m K ef_tc (3, 0, a) → RR 0 0 nb ns np T β σ ρ (fun _ _ _ => 0) a s1 m1 → Ex P1 n (ew_tw s 0) m s1 m1 → K (.inl (some (ew_i 0))) (ew_hp (ew_tw s1 2) m1) := fun hn k R E => k _ _ _ _ _ (R.tw 2) ((((Ex.tw s m 0).tr E.p6).tr (Ex.tw _ _ 2)).pt (by omega)) (ew_u_self _ _ _ _ _)
        have el : sp_led 2 (ei c) a = ei (ef_cn (ef_bd a 2 (ei c)) ns) := by
          unfold sp_led
          rw [h.2.1.2.1.2.1, ei_nat (by omega)]
          exact ef_cn_sum a 2 (ei c) ns
        have ll := (l c hc).2
        have et : sp_tug (ei c) a = -1 ↔ ef_cn (ef_bd a 2 (ei c)) ns = 0 := by
          unfold sp_tug
          rw [h.2.1.2.1.2.1, ei_nat (by omega), ef_find_n ns 0 (by omega)]
          refine ⟨fun w => ef_cn_0 ns (fun i hi => w i (Nat.zero_le _) (by omega)), fun w i _ hi => ?_⟩
          cases e : decide (a 10 7 i = 2 ∧ a 10 8 i = ei c) with
          | false => rfl
          | true =>
            have := ef_cn_pos (p := ef_bd a 2 (ei c)) (c := i) e ns (by omega)
            omega
        have pre : (ew_W (ew_Call (d + 5)) 163 K (46, [some (ew_o 16 0), some (ew_i (ei c)), some (ew_i (ei c2)), some (ew_o 15 (σ c2))], [], ew_hp (ew_tw s 0) m)) → ew_Call (d + 6) 163 [ew_o 16 0, ew_i (ei c), ew_i (ei c2)] (ew_hp s m) K := fun g =>
          ew_call (ew_go (fun pc => Nat.beq pc 46) 80 (xm_noBreaker h.1.2.1 (by omega) (fun z => absurd (z.symm.trans hB) (by decide)) (fun _ => ⟨fun z => absurd rfl z, fun _ => xm_noShip h.1.2.2.1 (by omega) (fun z => absurd (z.symm.trans hS) (by decide)) (fun _ => ⟨fun _ => xm_start0 rfl ⟨fun _ => xm_get34 h2.1.2.2.1 hc2 rfl rfl g, fun z => absurd rfl z⟩, fun z => absurd rfl z⟩)⟩)))
        refine pre ?_
        by_cases w1 : ¬ a 10 7 c2 = 3 ∧ a 10 2 c2 = a 3 1 c
        · by_cases w2 : a 10 3 c2 = 0
          · have w2' : ¬ 1 ≤ a 10 3 c2 := fun z => by rw [w2] at z; exact absurd z (by decide)
            rw [if_neg (fun z => w2' z.2.1)] at k
            exact ew_go (fun pc => Nat.beq pc 81) 60 (xm_isAway h2 hc hc2 (fun z => absurd w1 z) (fun _ => ⟨fun z => absurd rfl z, fun _ => ⟨fun _ => xl_leadR (Or.inr ⟨rfl, rfl⟩) (ew_u_self _ _ _ _ _) (no (n := 0) (by decide) k h2 (Ex.rf _ _ _)), fun z => absurd (f1.trans w2) z⟩⟩))
          · have w2' : 1 ≤ a 10 3 c2 := by
              rw [er] at w2 ⊢
              refine (ei_le (a := 1) (by decide) (by omega)).mpr ?_
              have : ¬ r = 0 := fun z => w2 (by rw [z]; rfl)
              omega
            have wk : (∀ (s1 : ew_S) (m1 : ew_H), RR 0 0 nb ns np T β σ ρ (fun _ _ _ => 0) a s1 m1 → Ex P1 1 (ew_tw s 0) m s1 m1 → (¬ sp_led 2 (ei c) a = 1 → ew_W (ew_Call (d + 5)) 163 K (81, [some (ew_o 16 0), some (ew_i (ei c)), some (ew_i (ei c2)), some (ew_o 15 (σ c2))], [ew_i 0, ew_o 16 0], ew_hp s1 m1)) ∧ (sp_led 2 (ei c) a = 1 → ew_W (ew_Call (d + 5)) 163 K (81, [some (ew_o 16 0), some (ew_i (ei c)), some (ew_i (ei c2)), some (ew_o 15 (σ c2))], [ew_i 1, ew_o 16 0], ew_hp s1 m1))) → ew_W (ew_Call (d + 5)) 163 K (46, [some (ew_o 16 0), some (ew_i (ei c)), some (ew_i (ei c2)), some (ew_o 15 (σ c2))], [], ew_hp (ew_tw s 0) m) := fun g =>
              ew_go (fun pc => Nat.beq pc 81) 60 (xm_isAway h2 hc hc2 (fun z => absurd w1 z) (fun _ => ⟨fun z => absurd rfl z, fun _ => ⟨fun z => absurd (f1.symm.trans z) w2, fun _ => xm_led h2 rfl (fun s1 m1 R E => ⟨fun z => (g s1 m1 R E).1 z, fun z => (g s1 m1 R E).2 (Classical.not_not.mp z)⟩)⟩⟩))
            refine wk (fun s1 m1 R E => ?_)
            by_cases w3 : sp_tug (ei c) a = -1
            · rw [if_pos ⟨w1, w2', w3⟩] at k
              have n2 : ¬ sp_led 2 (ei c) a = 1 := fun z => by
                rw [el, et.mp w3] at z
                exact absurd z (by decide)
              obtain ⟨R2, E2⟩ := R.bind hc hc2 (Or.inr rfl)
              have k := k _ _ _ _ _ R2 ((((Ex.tw s m 0).pt (Nat.le_refl 0)).tr (E.pt (Nat.le_refl 1))).tr (E2.pt (Nat.le_refl 0))) (show s1 16 0 0 = 0 from kp E)
              rw [show ((0, a 10 4 c2, sp_bd 2 (ei c) c2 a) : ew_O).2.1 = ef_bears (ei r) from eb] at k
              refine ⟨fun _ => ?_, fun z => absurd z n2⟩
              refine ew_go (fun pc => Nat.beq pc 100) 40 (xm_ref0 (kp E) rfl ⟨fun _ => ⟨trivial, trivial, ?_⟩, fun z => absurd rfl z⟩)
              show ew_W (ew_Call (d + 5)) 163 K (100, [some (ew_o 16 0), some (ew_i (ei c)), some (ew_i (ei c2)), some (ew_o 15 (σ c2))], [], ew_put (ew_put (ew_hp s1 m1) 15 (σ c2) 4 (ew_i 2)) 15 (σ c2) 5 (ew_i (ei c)))
              exact eq_2 rfl rfl (ew_go (fun _ => false) 40 (xm_bears R2.2.2.2 hr ((R.sc hc2).2.1.trans er) ⟨trivial, k⟩))
            · rw [if_neg (fun z => w3 z.2.2)] at k
              have e2 : sp_led 2 (ei c) a = 1 := by
                have : ¬ ef_cn (ef_bd a 2 (ei c)) ns = 0 := fun z => w3 (et.mpr z)
                rw [el, show ef_cn (ef_bd a 2 (ei c)) ns = 1 by omega]
                rfl
              exact ⟨fun z => absurd e2 z, fun _ => xl_leadR (Or.inr ⟨rfl, rfl⟩) (kp E) (no (by decide) k R E)⟩
        · rw [if_neg (fun z => w1 z.1)] at k
          exact ew_go (fun pc => Nat.beq pc 81) 60 (xm_isAway h2 hc hc2 (fun _ => ⟨fun _ => xl_leadR (Or.inr ⟨rfl, rfl⟩) (ew_u_self _ _ _ _ _) (no (n := 0) (by decide) k h2 (Ex.rf _ _ _)), fun z => absurd (show ¬ (1 : Int32) = 0 by decide) z⟩) (fun z => absurd z w1))
      · rw [iN_f w] at hS; cases hS
    · rw [iN_f w] at hB; cases hB
theorem xw_fuel (h : RR 0 0 nb ns np T β σ ρ (fun _ _ _ => 0) a s m) (h16 : m.2.2.1 16 0 = true) (b f : Int32) (k : KT nb ns np T 1 s m K (fun n => n) (op_fuel b f a)) : ew_Call (d + 6) 164 [ew_o 16 0, ew_i b, ew_i f] (ew_hp s m) K := by
  unfold op_fuel at k
  have h5 := h.2.1.1
  have h2 := h.tw 0
  have hL := h.1.2.1
  rw [h.2.1.2.1.1] at k
  rcases ei_dec b nb (by omega) with ⟨c, hc, rfl⟩ | ⟨h1, -⟩
  · have hN : iN (ei c) (ei nb) = true := iN_t hc (by omega)
    rw [hN, cond_true, ei_nat (by omega)] at k
    by_cases hv : 1 ≤ f ∧ f ≤ 500
    · rw [if_pos hv] at k
      have fc : ew_tw s 0 12 0 (β c) = a 3 1 c := (h2.bc hc).1
      have kp : ∀ {n : Nat} {s1 : ew_S} {m1 : ew_H}, Ex P1 n (ew_tw s 0) m s1 m1 → s1 16 0 0 = 0 := fun E => (E.2.2.1 16 0 0 h16 (fun w => by unfold P1 at w; omega)).1.trans (ew_u_self _ _ _ _ _)
      have wk : (sp_pA (a 3 1 c) a = true → ∀ (s1 : ew_S) (m1 : ew_H), RR 0 0 nb ns np T β σ ρ (fun _ _ _ => 0) a s1 m1 → Ex P1 1 (ew_tw s 0) m s1 m1 → ew_W (ew_Call (d + 5)) 164 K (67, [some (ew_o 16 0), some (ew_i (ei c)), some (ew_i f), none], [ew_i 0, ew_o 16 0], ew_hp s1 m1)) → (sp_pA (a 3 1 c) a = false → ∀ (s1 : ew_S) (m1 : ew_H), RR 0 0 nb ns np T β σ ρ (fun _ _ _ => 0) a s1 m1 → Ex P1 1 (ew_tw s 0) m s1 m1 → ew_W (ew_Call (d + 5)) 164 K (67, [some (ew_o 16 0), some (ew_i (ei c)), some (ew_i f), none], [ew_i 1, ew_o 16 0], ew_hp s1 m1)) → ew_Call (d + 6) 164 [ew_o 16 0, ew_i (ei c), ew_i f] (ew_hp s m) K := fun g1 g0 =>
        ew_call (ew_go (fun pc => Nat.beq pc 67) 80 (xm_noBreaker hL (by omega) (fun z => absurd (z.symm.trans hN) (by decide)) (fun _ => xm_start0 rfl ⟨fun z => absurd rfl z, fun _ => xm_isInT hv ⟨fun _ => xm_ref0 (ew_u_self _ _ _ _ _) rfl ⟨fun z => absurd rfl z, fun _ => xm_get2 h2.1.2.1 hc rfl rfl (xm_mport h2 fc (fun hP s1 m1 R E => ⟨fun _ => g1 hP s1 m1 R E, fun z => absurd (show ¬ (1 : Int32) = 0 by decide) z⟩) (fun hP s1 m1 R E => ⟨fun z => absurd rfl z, fun _ => g0 hP s1 m1 R E⟩))⟩, fun z => absurd (show ¬ (1 : Int32) = 0 by decide) z⟩⟩)))
      refine wk (fun hP s1 m1 R E => ?_) (fun hP s1 m1 R E => ?_)
      · rw [hP, cond_true] at k
        have hs1 := R.bc hc
        obtain ⟨F, I⟩ := iv_fuel R.2.1 hc (ew_min 999 (a 3 2 c + f))
        have hb : rb c (β c) (fun _ _ _ => 0) a s1 m1 := R.1.2.2.2.2.1 c hc
        have E2 : Ex (Qbb (β c)) 0 s1 m1 (ew_u s1 12 1 (β c) (ew_min 999 (a 3 2 c + f))) m1 := (Ex.rf _ _ _).u _ rfl (Or.inl ⟨rfl, Or.inl rfl⟩)
        have R2 : RR 0 0 nb ns np T β σ ρ (fun _ _ _ => 0) (ew_u a 3 2 c (ew_min 999 (a 3 2 c + f))) (ew_u s1 12 1 (β c) (ew_min 999 (a 3 2 c + f))) m1 := R.ub hc F I E2 (hb.fuel _) R.2.2.1
        have k := k _ _ _ _ _ R2 ((((Ex.tw s m 0).pt (Nat.le_refl 0)).tr (E.pt (Nat.le_refl 1))).tr (E2.pt (Nat.le_refl 0))) (show s1 16 0 0 = 0 from kp E)
        refine ew_go (fun _ => false) 60 (xm_ref0 (kp E) rfl ⟨fun _ => xm_get2 R.1.2.1 hc rfl rfl ⟨trivial, trivial, ?_⟩, fun z => absurd rfl z⟩)
        show K (.inl (some (ew_i (ew_u s1 12 1 (β c) (ew_min 999 (s1 12 1 (β c) + f)) 12 1 (β c))))) (ew_put (ew_hp s1 m1) 12 (β c) 1 (ew_i (ew_min 999 (s1 12 1 (β c) + f))))
        rw [ew_u_self, hs1.2]
        exact ek_p rfl k
      · rw [hP, cond_false] at k
        have k := k _ _ _ _ _ (R.tw 3) ((((Ex.tw s m 0).tr E.p6).tr (Ex.tw _ _ 3)).pt (Nat.le_refl 1)) (ew_u_self _ _ _ _ _)
        exact ew_go (fun _ => false) 60 (xm_ref1 (kp E) (show ¬ (1 : Int32) = 0 by decide) (show ¬ (3 : Int32) ≤ 0 by decide) ⟨fun z => absurd z (show ¬ (1 : Int32) = 0 by decide), fun _ => ⟨trivial, k⟩⟩)
    · rw [if_neg hv] at k
      exact ew_call (ew_go (fun _ => false) 80 (xm_noBreaker hL (by omega) (fun z => absurd (z.symm.trans hN) (by decide)) (fun _ => xm_start0 rfl ⟨fun z => absurd rfl z, fun _ => xm_isInF hv ⟨fun z => absurd rfl z, fun _ => xm_ref1 (ew_u_self _ _ _ _ _) (show ¬ (1 : Int32) = 0 by decide) (show ¬ (2 : Int32) ≤ 0 by decide) ⟨fun _ => ⟨trivial, k.no2 h⟩, fun z => absurd (show ¬ (1 : Int32) = 0 by decide) z⟩⟩⟩)))
  · have hN : iN b (ei nb) = false := iN_f h1
    rw [hN, cond_false] at k
    exact ew_call (ew_go (fun _ => false) 80 (xm_noBreaker hL (by omega) (fun _ => xm_start1 (show ¬ (1 : Int32) = 0 by decide) (show ¬ (1 : Int32) ≤ 0 by decide) ⟨fun _ => ⟨trivial, k.no h⟩, fun z => absurd (show ¬ (1 : Int32) = 0 by decide) z⟩) (fun z => absurd (hN.symm.trans z) (by decide))))
end
