/-! What is done: the model. -/
section
variable {d : Nat} {K : ew_R → ew_H → Prop} {q i nb ns np T c : Nat} {β σ : Nat → Nat} {ρ : Nat → Nat → Nat} {z : ew_Z3} {a a' s s' : ew_S} {m m' : ew_H} {P : Nat → Nat → Nat → Prop}
theorem RR.sc (h : RR 0 0 nb ns np T β σ ρ z a s m) {j : Nat} (hj : j < ns) : s 15 0 (σ j) = a 10 2 j ∧ s 15 1 (σ j) = a 10 3 j ∧ s 15 4 (σ j) = a 10 7 j ∧ s 15 5 (σ j) = a 10 8 j := by
  have hs : rs j (σ j) z a s m := h.1.2.2.2.2.2.1 j hj
  obtain ⟨-, ⟨e0, e1, -, -, e4, e5, -⟩, -⟩ := hs
  exact ⟨e0, e1, e4, e5⟩
theorem RR.bc (h : RR 0 0 nb ns np T β σ ρ z a s m) {b : Nat} (hb : b < nb) : s 12 0 (β b) = a 3 1 b ∧ s 12 1 (β b) = a 3 2 b := by
  have hs : rb b (β b) z a s m := h.1.2.2.2.2.1 b hb
  exact ⟨hs.2.1, hs.2.2.1⟩
theorem xm_isAway (h : RR 0 0 nb ns np T β σ ρ z a s m) {b j : Nat} (hb : b < nb) (hj : j < ns) (k1 : ¬ (¬ a 10 7 j = 3 ∧ a 10 2 j = a 3 1 b) → K (.inl (some (ew_i 1))) (ew_hp s m)) (k0 : ¬ a 10 7 j = 3 ∧ a 10 2 j = a 3 1 b → K (.inl (some (ew_i 0))) (ew_hp s m)) : ew_Call (d + 4) 161 [ew_o 16 0, ew_i (ei b), ew_i (ei j)] (ew_hp s m) K := by
  obtain ⟨e0, -, e4, -⟩ := h.sc hj
  obtain ⟨f0, -⟩ := h.bc hb
  by_cases c1 : a 10 7 j = 3
  · exact ew_call (ew_go (fun _ => false) 60 (xm_get34 h.1.2.2.1 hj rfl rfl ⟨fun _ => ⟨Or.inr rfl, k1 (fun w => w.1 c1)⟩, fun z => absurd (e4.trans c1) z⟩))
  · by_cases c2 : a 10 2 j = a 3 1 b
    · exact ew_call (ew_go (fun _ => false) 60 (xm_get34 h.1.2.2.1 hj rfl rfl ⟨fun z => absurd (e4.symm.trans z) c1, fun _ => xm_get34 h.1.2.2.1 hj rfl rfl (xm_get2 h.1.2.1 hb rfl rfl ⟨fun _ => ⟨Or.inl rfl, k0 ⟨c1, c2⟩⟩, fun z => absurd (e0.trans (c2.trans f0.symm)) z⟩)⟩))
    · exact ew_call (ew_go (fun _ => false) 60 (xm_get34 h.1.2.2.1 hj rfl rfl ⟨fun z => absurd (e4.symm.trans z) c1, fun _ => xm_get34 h.1.2.2.1 hj rfl rfl (xm_get2 h.1.2.1 hb rfl rfl ⟨fun z => absurd (e0.symm.trans ((show s 15 0 (σ j) = s 12 0 (β b) from z).trans f0)) c2, fun _ => ⟨Or.inr rfl, k1 (fun w => c2 w.2)⟩⟩)⟩))
/-- two numbers that are both asked for: none of them is there -/
theorem xm_bsF {y : Nat} (h : RR 0 0 nb ns np T β σ ρ z a s m) {b j : Int32} (hy : y = 162 ∨ y = 163) {v : Int32} (hN : (iN b (ei nb) && iN j (ei ns)) = false) (k : K (.inl (some (ew_i 0))) (ew_hp (ew_tw s 1) m)) : ew_Call (d + 6) y [ew_o 16 0, ew_i b, ew_i j] (ew_hp s m) K := by
  have h5 := h.2.1.1
  cases hb : iN b (ei nb) with
  | false =>
    rcases hy with rfl | rfl
    · exact ew_call (ew_go (fun _ => false) 80 (xm_noBreaker h.1.2.1 (by omega) (fun _ => ⟨fun _ => xm_start1 (show ¬ (1 : Int32) = 0 by decide) (show ¬ (1 : Int32) ≤ 0 by decide) ⟨fun z => absurd z (show ¬ (1 : Int32) = 0 by decide), fun _ => ⟨trivial, k⟩⟩, fun z => absurd (show ¬ (1 : Int32) = 0 by decide) z⟩) (fun z => absurd (hb.symm.trans z) (by decide))))
    · exact ew_call (ew_go (fun _ => false) 80 (xm_noBreaker h.1.2.1 (by omega) (fun _ => ⟨fun _ => xm_start1 (show ¬ (1 : Int32) = 0 by decide) (show ¬ (1 : Int32) ≤ 0 by decide) ⟨fun z => absurd z (show ¬ (1 : Int32) = 0 by decide), fun _ => ⟨trivial, k⟩⟩, fun z => absurd (show ¬ (1 : Int32) = 0 by decide) z⟩) (fun z => absurd (hb.symm.trans z) (by decide))))
  | true =>
    rw [hb, Bool.true_and] at hN
    rcases hy with rfl | rfl
    · exact ew_call (ew_go (fun _ => false) 80 (xm_noBreaker h.1.2.1 (by omega) (fun z => absurd (z.symm.trans hb) (by decide)) (fun _ => ⟨fun z => absurd rfl z, fun _ => xm_noShip h.1.2.2.1 (by omega) (fun _ => ⟨fun z => absurd z (show ¬ (1 : Int32) = 0 by decide), fun _ => xm_start1 (show ¬ (1 : Int32) = 0 by decide) (show ¬ (1 : Int32) ≤ 0 by decide) ⟨fun z => absurd z (show ¬ (1 : Int32) = 0 by decide), fun _ => ⟨trivial, k⟩⟩⟩) (fun z => absurd (hN.symm.trans z) (by decide))⟩)))
    · exact ew_call (ew_go (fun _ => false) 80 (xm_noBreaker h.1.2.1 (by omega) (fun z => absurd (z.symm.trans hb) (by decide)) (fun _ => ⟨fun z => absurd rfl z, fun _ => xm_noShip h.1.2.2.1 (by omega) (fun _ => ⟨fun z => absurd z (show ¬ (1 : Int32) = 0 by decide), fun _ => xm_start1 (show ¬ (1 : Int32) = 0 by decide) (show ¬ (1 : Int32) ≤ 0 by decide) ⟨fun z => absurd z (show ¬ (1 : Int32) = 0 by decide), fun _ => ⟨trivial, k⟩⟩⟩) (fun z => absurd (hN.symm.trans z) (by decide))⟩)))
/-- a ship is bound to a breaker -/
theorem RR.bind (h : RR 0 0 nb ns np T β σ ρ z a s m) {b j : Nat} (hb : b < nb) (hj : j < ns) {w : Int32} (hw : w = 1 ∨ w = 2) : RR 0 0 nb ns np T β σ ρ z (sp_bd w (ei b) j a) (ew_u (ew_u s 15 4 (σ j) w) 15 5 (σ j) (ei b)) m ∧ Ex (Qs (σ j)) 0 s m (ew_u (ew_u s 15 4 (σ j) w) 15 5 (σ j) (ei b)) m := by
  obtain ⟨F, I⟩ := iv_bd h.2.1 hj hb hw
  have hs : rs j (σ j) z a s m := h.1.2.2.2.2.2.1 j hj
  have E : Ex (Qs (σ j)) 0 s m (ew_u (ew_u s 15 4 (σ j) w) 15 5 (σ j) (ei b)) m := ((Ex.rf _ _ _).u _ rfl (Or.inl ⟨rfl, Or.inl rfl⟩)).u _ rfl (Or.inl ⟨rfl, Or.inl rfl⟩)
  exact ⟨h.ship hj F I E ((hs.state w).brk (ei b)) h.2.2.1, E⟩
theorem xl_leadR {y : Nat} {pc : Nat} (hy : (y = 162 ∧ pc = 90) ∨ (y = 163 ∧ pc = 81)) {l : List (Option ew_V)} (e0 : s 16 0 0 = 0) (k : K (.inl (some (ew_i 0))) (ew_hp (ew_tw s 2) m)) : ew_W (ew_Call (d + 5)) y K (pc, l, [ew_i 1, ew_o 16 0], ew_hp s m) := by
  rcases hy with ⟨rfl, rfl⟩ | ⟨rfl, rfl⟩
  · exact ew_go (fun _ => false) 40 (xm_ref1 e0 (show ¬ (1 : Int32) = 0 by decide) (show ¬ (2 : Int32) ≤ 0 by decide) ⟨fun z => absurd z (show ¬ (1 : Int32) = 0 by decide), fun _ => ⟨trivial, k⟩⟩)
  · exact ew_go (fun _ => false) 40 (xm_ref1 e0 (show ¬ (1 : Int32) = 0 by decide) (show ¬ (2 : Int32) ≤ 0 by decide) ⟨fun z => absurd z (show ¬ (1 : Int32) = 0 by decide), fun _ => ⟨trivial, k⟩⟩)
theorem xw_lead (h : RR 0 0 nb ns np T β σ ρ (fun _ _ _ => 0) a s m) (h16 : m.2.2.1 16 0 = true) (l : Lb nb ns a) (b j : Int32) (k : KT nb ns np T 2 s m K ef_tc (op_lead b j a)) : ew_Call (d + 6) 162 [ew_o 16 0, ew_i b, ew_i j] (ew_hp s m) K := by
  unfold op_lead at k
  have h5 := h.2.1.1
  have h2 := h.tw 0
  rw [h.2.1.2.1.1, h.2.1.2.1.2.1] at k
  cases hN : (iN b (ei nb) && iN j (ei ns)) with
  | false =>
    rw [hN, cond_false] at k
    exact xm_bsF (v := 0) h (Or.inl rfl) hN (k.no h)
  | true =>
    have hN' := hN
    rw [Bool.and_eq_true] at hN'
    obtain ⟨hB, hS⟩ := hN'
    rcases ei_dec b nb (by omega) with ⟨c, hc, rfl⟩ | ⟨w, -⟩
    · rcases ei_dec j ns (by omega) with ⟨c2, hc2, rfl⟩ | ⟨w, -⟩
      · rw [hN, cond_true, ei_nat (by omega), ei_nat (by omega)] at k
        obtain ⟨-, -, f4, f5⟩ := h2.sc hc2
        have kp : ∀ {n : Nat} {s1 : ew_S} {m1 : ew_H}, Ex P1 n (ew_tw s 0) m s1 m1 → s1 16 0 0 = 0 := fun E => (E.2.2.1 16 0 0 h16 (fun w => by unfold P1 at w; omega)).1.trans (ew_u_self _ _ _ _ _)
        have no : ∀ {n : Nat} {s1 : ew_S} {m1 : ew_H}, n ≤ 2 → KT nb ns np T 2 s m K ef_tc (3, 0, a) → RR 0 0 nb ns np T β σ ρ (fun _ _ _ => 0) a s1 m1 → Ex P1 n (ew_tw s 0) m s1 m1 → K (.inl (some (ew_i 0))) (ew_hp (ew_tw s1 2) m1) := fun hn k R E => k _ _ _ _ _ (R.tw 2) ((((Ex.tw s m 0).tr E.p6).tr (Ex.tw _ _ 2)).pt (by omega)) (ew_u_self _ _ _ _ _)
        have el : sp_led 1 (ei c) a = ei (ef_cn (ef_bd a 1 (ei c)) ns) := by
          unfold sp_led
          rw [h.2.1.2.1.2.1, ei_nat (by omega)]
          exact ef_cn_sum a 1 (ei c) ns
        have ll := (l c hc).1
        have pre : (ew_W (ew_Call (d + 5)) 162 K (46, [some (ew_o 16 0), some (ew_i (ei c)), some (ew_i (ei c2)), some (ew_o 15 (σ c2))], [], ew_hp (ew_tw s 0) m)) → ew_Call (d + 6) 162 [ew_o 16 0, ew_i (ei c), ew_i (ei c2)] (ew_hp s m) K := fun g =>
          ew_call (ew_go (fun pc => Nat.beq pc 46) 80 (xm_noBreaker h.1.2.1 (by omega) (fun z => absurd (z.symm.trans hB) (by decide)) (fun _ => ⟨fun z => absurd rfl z, fun _ => xm_noShip h.1.2.2.1 (by omega) (fun z => absurd (z.symm.trans hS) (by decide)) (fun _ => ⟨fun _ => xm_start0 rfl ⟨fun _ => xm_get34 h2.1.2.2.1 hc2 rfl rfl g, fun z => absurd rfl z⟩, fun z => absurd rfl z⟩)⟩)))
        refine pre ?_
        by_cases w1 : ¬ a 10 7 c2 = 3 ∧ a 10 2 c2 = a 3 1 c
        · have led : ¬ (a 10 7 c2 = 1 ∧ a 10 8 c2 = ei c) → ew_W (ew_Call (d + 5)) 162 K (72, [some (ew_o 16 0), some (ew_i (ei c)), some (ew_i (ei c2)), some (ew_o 15 (σ c2))], [ew_o 16 0], ew_hp (ew_tw s 0) m) := fun w2 => by
            by_cases w3 : sp_led 1 (ei c) a < 2
            · rw [if_pos ⟨w1, w2, w3⟩] at k
              have n2 : ¬ sp_led 1 (ei c) a = 2 := fun z => by rw [z] at w3; exact absurd w3 (by decide)
              have fin : ∀ (s1 : ew_S) (m1 : ew_H), RR 0 0 nb ns np T β σ ρ (fun _ _ _ => 0) a s1 m1 → Ex P1 1 (ew_tw s 0) m s1 m1 → ew_W (ew_Call (d + 5)) 162 K (90, [some (ew_o 16 0), some (ew_i (ei c)), some (ew_i (ei c2)), some (ew_o 15 (σ c2))], [ew_i 0, ew_o 16 0], ew_hp s1 m1) := fun s1 m1 R E => by
                obtain ⟨R2, E2⟩ := R.bind hc hc2 (Or.inl rfl)
                have k' : ∀ s3 m3, RR 0 0 nb ns np T β σ ρ (fun _ _ _ => 0) (sp_bd 1 (ei c) c2 a) s3 m3 → Ex P1 1 (ew_u (ew_u s1 15 4 (σ c2) 1) 15 5 (σ c2) (ei c)) m1 s3 m3 → K (.inl (some (ew_i (sp_led 1 (ei c) (sp_bd 1 (ei c) c2 a))))) (ew_hp s3 m3) := fun s3 m3 R3 E3 => k _ _ _ _ _ R3 (((((Ex.tw s m 0).pt (Nat.le_refl 0)).tr (E.pt (Nat.le_refl 1))).tr (E2.pt (Nat.le_refl 0))).tr (E3.pt (Nat.le_refl 1))) ((E3.2.2.1 16 0 0 (E2.2.1 _ _ (E.2.1 _ _ h16)) (fun w => by unfold P1 at w; omega)).1.trans (show s1 16 0 0 = 0 from kp E))
                refine ew_go (fun pc => Nat.beq pc 109) 40 (xm_ref0 (kp E) rfl ⟨fun _ => ⟨trivial, trivial, ?_⟩, fun z => absurd rfl z⟩)
                show ew_W (ew_Call (d + 5)) 162 K (109, [some (ew_o 16 0), some (ew_i (ei c)), some (ew_i (ei c2)), some (ew_o 15 (σ c2))], [], ew_put (ew_put (ew_hp s1 m1) 15 (σ c2) 4 (ew_i 1)) 15 (σ c2) 5 (ew_i (ei c)))
                exact eq_2 rfl rfl (ew_go (fun _ => false) 40 (xm_led R2 rfl (fun s3 m3 R3 E3 => ⟨trivial, k' s3 m3 R3 E3⟩)))
              exact ew_go (fun pc => Nat.beq pc 90) 40 (xm_led h2 rfl (fun s1 m1 R E => ⟨fun _ => fin s1 m1 R E, fun z => absurd (Classical.not_not.mp z) n2⟩))
            · rw [if_neg (fun z => w3 z.2.2)] at k
              have e2 : sp_led 1 (ei c) a = 2 := by
                rw [el] at w3 ⊢
                have h3 : ¬ ef_cn (ef_bd a 1 (ei c)) ns < 2 := fun z => w3 ((ei_lt (b := 2) (by omega) (by decide)).mpr z)
                rw [show ef_cn (ef_bd a 1 (ei c)) ns = 2 by omega]
                rfl
              exact ew_go (fun pc => Nat.beq pc 90) 40 (xm_led h2 rfl (fun s1 m1 R E => ⟨fun z => absurd e2 z, fun _ => xl_leadR (Or.inl ⟨rfl, rfl⟩) (kp E) (no (by decide) k R E)⟩))
          by_cases w2 : a 10 7 c2 = 1
          · by_cases w3 : a 10 8 c2 = ei c
            · rw [if_neg (fun z => z.2.1 ⟨w2, w3⟩)] at k
              exact ew_go (fun pc => Nat.beq pc 90 || Nat.beq pc 72) 60 (xm_isAway h2 hc hc2 (fun z => absurd w1 z) (fun _ => ⟨fun z => absurd rfl z, fun _ => ⟨fun z => absurd (f4.trans w2) z, fun _ => ⟨fun _ => xl_leadR (Or.inl ⟨rfl, rfl⟩) (ew_u_self _ _ _ _ _) (no (n := 0) (by decide) k h2 (Ex.rf _ _ _)), fun z => absurd (f5.trans w3) z⟩⟩⟩))
            · exact ew_go (fun pc => Nat.beq pc 90 || Nat.beq pc 72) 60 (xm_isAway h2 hc hc2 (fun z => absurd w1 z) (fun _ => ⟨fun z => absurd rfl z, fun _ => ⟨fun z => absurd (f4.trans w2) z, fun _ => ⟨fun z => absurd (f5.symm.trans z) w3, fun _ => led (fun z => w3 z.2)⟩⟩⟩))
          · exact ew_go (fun pc => Nat.beq pc 90 || Nat.beq pc 72) 60 (xm_isAway h2 hc hc2 (fun z => absurd w1 z) (fun _ => ⟨fun z => absurd rfl z, fun _ => ⟨fun _ => led (fun z => w2 z.1), fun z => absurd (fun y => w2 (f4.symm.trans y)) z⟩⟩))
        · rw [if_neg (fun z => w1 z.1)] at k
          exact ew_go (fun pc => Nat.beq pc 90) 60 (xm_isAway h2 hc hc2 (fun _ => ⟨fun _ => xl_leadR (Or.inl ⟨rfl, rfl⟩) (ew_u_self _ _ _ _ _) (no (n := 0) (by decide) k h2 (Ex.rf _ _ _)), fun z => absurd (show ¬ (1 : Int32) = 0 by decide) z⟩) (fun z => absurd z w1))
      · rw [iN_f w] at hS; cases hS
    · rw [iN_f w] at hB; cases hB
end
