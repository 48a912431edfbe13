/-! What is told, and done: the class, further. -/
def op_steer (b x : Int32) (s : ew_S) : ew_O := bif iN b (s 9 3 0) && iN x 15 then (if s 8 1 b.toNatClampNeg < 8 then (0, s 8 1 b.toNatClampNeg + 1, ew_u (ew_u s 145 (s 8 1 b.toNatClampNeg).toNatClampNeg b.toNatClampNeg x) 8 1 b.toNatClampNeg (s 8 1 b.toNatClampNeg + 1)) else (3, 0, s)) else (1, 0, s)
def op_sail (j x : Int32) (s : ew_S) : ew_O := bif iN j (s 9 4 0) && iN x 15 then (if ¬ s 10 7 j.toNatClampNeg = 3 ∧ s 40 1 j.toNatClampNeg < 8 then (0, s 40 1 j.toNatClampNeg + 1, ew_u (ew_u s 593 (s 40 1 j.toNatClampNeg).toNatClampNeg j.toNatClampNeg x) 40 1 j.toNatClampNeg (s 40 1 j.toNatClampNeg + 1)) else (3, 0, s)) else (1, 0, s)
def op_halt (j : Int32) (s : ew_S) : ew_O := bif iN j (s 9 4 0) then (0, s 40 1 j.toNatClampNeg, ew_u (if s 10 7 j.toNatClampNeg = 3 then s else sp_fr j.toNatClampNeg s) 40 1 j.toNatClampNeg 0) else (1, 0, s)
def sp_led (w x : Int32) (s : ew_S) : Int32 := ef_sum (fun j => if s 10 7 j = w ∧ s 10 8 j = x then 1 else 0) (s 9 4 0).toNatClampNeg
def sp_tug (x : Int32) (s : ew_S) : Int32 := ef_find (fun j => decide (s 10 7 j = 2 ∧ s 10 8 j = x)) (s 9 4 0).toNatClampNeg 0
def sp_bd (w b : Int32) (j : Nat) (s : ew_S) : ew_S := ew_u (ew_u s 10 7 j w) 10 8 j b
def op_lead (b j : Int32) (s : ew_S) : ew_O := bif iN b (s 9 3 0) && iN j (s 9 4 0) then (if (¬ s 10 7 j.toNatClampNeg = 3 ∧ s 10 2 j.toNatClampNeg = s 3 1 b.toNatClampNeg) ∧ ¬ (s 10 7 j.toNatClampNeg = 1 ∧ s 10 8 j.toNatClampNeg = b) ∧ sp_led 1 b s < 2 then (0, sp_led 1 b (sp_bd 1 b j.toNatClampNeg s), sp_bd 1 b j.toNatClampNeg s) else (3, 0, s)) else (1, 0, s)
def op_tow (b j : Int32) (s : ew_S) : ew_O := bif iN b (s 9 3 0) && iN j (s 9 4 0) then (if (¬ s 10 7 j.toNatClampNeg = 3 ∧ s 10 2 j.toNatClampNeg = s 3 1 b.toNatClampNeg) ∧ 1 ≤ s 10 3 j.toNatClampNeg ∧ sp_tug b s = -1 then (0, s 10 4 j.toNatClampNeg, sp_bd 2 b j.toNatClampNeg s) else (3, 0, s)) else (1, 0, s)
def op_fuel (b f : Int32) (s : ew_S) : ew_O := bif iN b (s 9 3 0) then (if 1 ≤ f ∧ f ≤ 500 then (bif sp_pA (s 3 1 b.toNatClampNeg) s then (0, ew_min 999 (s 3 2 b.toNatClampNeg + f), ew_u s 3 2 b.toNatClampNeg (ew_min 999 (s 3 2 b.toNatClampNeg + f))) else (3, 0, s)) else (2, 0, s)) else (1, 0, s)
/-- hours, one behind the other -/
def sp_hs (q : Nat) (x w : Int32) (s : ew_S) : Nat → Int32 × ew_S
  | 0 => (0, s)
  | n + 1 => ((sp_hs q x w s n).1 + (sp_h q x w (sp_hs q x w s n).2).1, (sp_h q x w (sp_hs q x w s n).2).2)
def op_pass (x w n : Int32) (s : ew_S) : ew_O := if ((0 ≤ x ∧ x ≤ 9) ∧ (-1 ≤ w ∧ w ≤ 3)) ∧ (1 ≤ n ∧ n ≤ 24) then (0, (sp_hs 0 x w s n.toNatClampNeg).1, (sp_hs 0 x w s n.toNatClampNeg).2) else (2, 0, s)
theorem ei_rng {x : Int32} {a b : Nat} (hb : b < 2147483648) (h : ei a ≤ x ∧ x ≤ ei b) (ha : a < 2147483648) : ∃ n, a ≤ n ∧ n ≤ b ∧ x = ei n := by
  have h0 : ¬ x < 0 := fun w => by
    have := Int32.lt_of_le_of_lt h.1 w
    exact ei_nn ha this
  have e := ei_of h0
  have hx : x.toNatClampNeg < 2147483648 := by
    have h1 := Int32.toInt_lt x
    have e1 : x.toNatClampNeg = x.toInt.toNat := rfl
    omega
  refine ⟨x.toNatClampNeg, ?_, ?_, e⟩
  · have := h.1
    rw [e] at this
    exact (ei_le ha hx).mp this
  · have := h.2
    rw [e] at this
    exact (ei_le hx hb).mp this
section
variable {d : Nat} {s : ew_S} {m : ew_H} {K : ew_R → ew_H → Prop} {nb ns np T : Nat}
theorem xc_withT {x a b : Int32} (h : a ≤ x ∧ x ≤ b) (k : K (.inl (some (ew_i 1))) (ew_hp s m)) : ew_Call (d + 1) 104 [ew_i x, ew_i a, ew_i b] (ew_hp s m) K := xc_within x a b (by unfold ef_in; rw [if_pos h]; exact k)
theorem xc_withF {x a b : Int32} (h : ¬ (a ≤ x ∧ x ≤ b)) (k : K (.inl (some (ew_i 0))) (ew_hp s m)) : ew_Call (d + 1) 104 [ew_i x, ew_i a, ew_i b] (ew_hp s m) K := xc_within x a b (by unfold ef_in; rw [if_neg h]; exact k)
theorem xp_rule (h : Iv 0 nb ns np T s) (p x y : Int32) (k : KO K m (op_rule p x y s)) : ew_Call (d + 2) 76 [ew_o 11 0, ew_i p, ew_i x, ew_i y] (ew_hp s m) K := by
  unfold op_rule at k
  have hb := h.1
  have hnp := h.2.1.2.2
  rw [hnp] at k
  rcases ei_dec p np (by omega) with ⟨c, hc, rfl⟩ | ⟨h1, -⟩
  · rw [iN_t hc (by omega), cond_true, ei_nat (by omega)] at k
    obtain ⟨-, ⟨n, hn, e⟩, -⟩ := h.2.2.2.2.2.1 c hc
    have e : s 6 3 c = ei n := e
    by_cases w1 : 0 ≤ x ∧ x ≤ 4
    · by_cases w2 : 24 ≤ y ∧ y ≤ 200
      · rw [if_pos ⟨w1, w2⟩] at k
        by_cases w3 : s 6 3 c < 10
        · rw [if_pos w3, e, ei_nat (by omega), ei_1] at k
          have hn10 : n < 10 := by
            rw [e] at w3
            exact (ei_lt (b := 10) (by omega) (by decide)).mp w3
          exact ew_call (ew_go (fun _ => false) 80 (xc_portAtE c np hnp (by omega) hc rfl (xc_withT w1 ⟨fun z => absurd z (show ¬ (1 : Int32) = 0 by decide), fun _ => xc_withT w2 ⟨fun z => absurd z (show ¬ (1 : Int32) = 0 by decide), fun _ => xc_dA1 ⟨fun z => absurd w3 (Int32.not_lt.mpr z), fun _ => xc_dS1 (xc_addRule c n x _ e hn10 ⟨trivial, k⟩)⟩⟩⟩)))
        · rw [if_neg w3] at k
          exact ew_call (ew_go (fun _ => false) 80 (xc_portAtE c np hnp (by omega) hc rfl (xc_withT w1 ⟨fun z => absurd z (show ¬ (1 : Int32) = 0 by decide), fun _ => xc_withT w2 ⟨fun z => absurd z (show ¬ (1 : Int32) = 0 by decide), fun _ => xc_dA1 ⟨fun z => xc_dS0 ⟨rfl, k⟩, fun z => absurd (Int32.not_lt.mp w3) z⟩⟩⟩)))
      · rw [if_neg (fun z => w2 z.2)] at k
        exact ew_call (ew_go (fun _ => false) 80 (xc_portAtE c np hnp (by omega) hc rfl (xc_withT w1 ⟨fun z => absurd z (show ¬ (1 : Int32) = 0 by decide), fun _ => xc_withF w2 ⟨fun _ => xc_dA0 ⟨rfl, k⟩, fun z => absurd rfl z⟩⟩)))
    · rw [if_neg (fun z => w1 z.1)] at k
      exact ew_call (ew_go (fun _ => false) 80 (xc_portAtE c np hnp (by omega) hc rfl (xc_withF w1 ⟨fun _ => xc_dA0 ⟨rfl, k⟩, fun z => absurd rfl z⟩)))
  · rw [iN_f h1, cond_false] at k
    exact ew_call (ew_go (fun _ => false) 60 (xc_prtX hnp (by omega) h1 ⟨rfl, k⟩))
theorem xp_breaker (h : Iv 0 nb ns np T s) (x f : Int32) (k : KO K m (op_breaker x f s)) : ew_Call (d + 3) 78 [ew_o 11 0, ew_i x, ew_i f] (ew_hp s m) K := by
  unfold op_breaker at k
  have hb := h.1
  have hnb := h.2.1.1
  rcases ei_dec x 15 (by decide) with ⟨c, hc, rfl⟩ | ⟨h1, -⟩
  · rw [show (15 : Int32) = ei 15 from rfl, iN_t hc (by decide), cond_true, ei_nat (by omega)] at k
    by_cases hl : s 4 3 c = 0
    · by_cases w1 : 0 ≤ f ∧ f ≤ 999
      · rw [if_pos ⟨hl, w1⟩] at k
        by_cases w : s 9 3 0 < 2
        · rw [if_pos w] at k
          have e9 : (s 9 3 0).toNatClampNeg = nb := by rw [hnb, ei_nat (by omega)]
          rw [e9] at k
          have hb2 : nb < 2 := by
            rw [hnb] at w
            exact (ei_lt (b := 2) (by omega) (by decide)).mp w
          have e8 : ew_u s 9 3 0 (s 9 3 0 + 1) 9 3 0 = ei (nb + 1) := by rw [ew_u_self, hnb, ei_1]
          exact ew_call (ew_go (fun _ => false) 80 (xc_cellAt 0 c hc ⟨fun z => absurd hl z, fun _ => xc_withT w1 ⟨fun z => absurd z (show ¬ (1 : Int32) = 0 by decide), fun _ => xc_dA1 ⟨fun z => absurd w (Int32.not_lt.mpr z), fun _ => xc_dS1 (ew_call (ew_go (fun _ => false) 60 ⟨trivial, ec_1 rfl (xc_breakerAtE 0 nb (nb + 1) e8 (by omega) (by omega) hnb ⟨trivial, trivial, trivial, trivial, ek_2 rfl rfl k⟩)⟩))⟩⟩⟩))
        · rw [if_neg w] at k
          exact ew_call (ew_go (fun _ => false) 80 (xc_cellAt 0 c hc ⟨fun z => absurd hl z, fun _ => xc_withT w1 ⟨fun z => absurd z (show ¬ (1 : Int32) = 0 by decide), fun _ => xc_dA1 ⟨fun _ => xc_dS0 ⟨rfl, k⟩, fun z => absurd (Int32.not_lt.mp w) z⟩⟩⟩))
      · rw [if_neg (fun z => w1 z.2)] at k
        exact ew_call (ew_go (fun _ => false) 80 (xc_cellAt 0 c hc ⟨fun z => absurd hl z, fun _ => xc_withF w1 ⟨fun _ => xc_dA0 ⟨rfl, k⟩, fun z => absurd rfl z⟩⟩))
    · rw [if_neg (fun z => hl z.1)] at k
      exact ew_call (ew_go (fun _ => false) 60 (xc_cellAt 0 c hc ⟨fun _ => xc_dA0 ⟨rfl, k⟩, fun z => absurd hl z⟩))
  · rw [show (15 : Int32) = ei 15 from rfl, iN_f h1, cond_false] at k
    exact ew_call (ew_go (fun _ => false) 60 (xc_cellX 0 h1 ⟨rfl, k⟩))
theorem xc_addShip (x r w p : Int32) (hns : s 9 4 0 = ei ns) (h5 : ns < 5) (k : K (.inl (some (ew_i (s 9 4 0)))) (ew_hp (ew_u (ew_u (ew_u (ew_u (ew_u (ew_u s 9 4 0 (s 9 4 0 + 1)) 10 2 ns x) 10 3 ns r) 10 4 ns (ef_bears r)) 10 5 ns w) 10 6 ns p) m)) : ew_Call (d + 2) 41 [ew_o 9 0, ew_i x, ew_i r, ew_i w, ew_i p] (ew_hp s m) K := by
  have e8 : ew_u s 9 4 0 (s 9 4 0 + 1) 9 4 0 = ei (ns + 1) := by rw [ew_u_self, hns, ei_1]
  have at5 : ∀ {K' : ew_R → ew_H → Prop}, K' (.inl (some (ew_o 10 ns))) (ew_hp (ew_u s 9 4 0 (s 9 4 0 + 1)) m) → ew_Call (d + 1) 39 [ew_o 9 0, ew_i (s 9 4 0)] (ew_hp (ew_u s 9 4 0 (s 9 4 0 + 1)) m) K' := fun g => by
    rw [hns] at e8 g ⊢
    exact xc_shipAt 0 ns (ns + 1) e8 (by omega) (by omega) g
  exact ew_call (ew_go (fun _ => false) 80 ⟨trivial, ec_1 rfl (at5 ⟨trivial, ec_1 rfl (xc_setClass _ _ ⟨trivial, trivial, trivial, ek_2 rfl rfl k⟩)⟩)⟩)
theorem xp_ship (h : Iv 0 nb ns np T s) (x r w p : Int32) (k : KO K m (op_ship x r w p s)) : ew_Call (d + 3) 79 [ew_o 11 0, ew_i x, ew_i r, ew_i w, ew_i p] (ew_hp s m) K := by
  unfold op_ship at k
  have hb := h.1
  have hns := h.2.1.2.1
  have hnp := h.2.1.2.2
  rcases ei_dec x 15 (by decide) with ⟨c, hc, rfl⟩ | ⟨h1, -⟩
  · rw [show (15 : Int32) = ei 15 from rfl, iN_t hc (by decide), Bool.true_and, hnp, ei_nat (by omega)] at k
    rcases ei_dec p np (by omega) with ⟨c2, hc2, rfl⟩ | ⟨h2, -⟩
    · rw [iN_t hc2 (by omega), cond_true] at k
      have pt : ∀ {K' : ew_R → ew_H → Prop}, K' (.inl (some (ew_o 6 c2))) (ew_hp s m) → ew_Call (d + 2) 26 [ew_o 7 0, ew_i (ei c2)] (ew_hp s m) K' := fun g => xc_portAtE c2 np hnp (by omega) hc2 rfl g
      by_cases hl : s 4 3 c = 0
      · by_cases w1 : 0 ≤ r ∧ r ≤ 4
        · by_cases w2 : 1 ≤ w ∧ w ≤ 9
          · rw [if_pos ⟨hl, w1, w2⟩] at k
            by_cases w3 : s 9 4 0 < 5
            · rw [if_pos w3] at k
              have e9 : (s 9 4 0).toNatClampNeg = ns := by rw [hns, ei_nat (by omega)]
              rw [e9] at k
              have h5 : ns < 5 := by
                rw [hns] at w3
                exact (ei_lt (b := 5) (by omega) (by decide)).mp w3
              exact ew_call (ew_go (fun _ => false) 80 (xc_cellAt 0 c hc (pt ⟨fun z => absurd hl z, fun _ => xc_withT w1 ⟨fun z => absurd z (show ¬ (1 : Int32) = 0 by decide), fun _ => xc_withT w2 ⟨fun z => absurd z (show ¬ (1 : Int32) = 0 by decide), fun _ => xc_dA1 ⟨fun z => absurd w3 (Int32.not_lt.mpr z), fun _ => xc_dS1 (xc_addShip _ _ _ _ hns h5 ⟨trivial, k⟩)⟩⟩⟩⟩)))
            · rw [if_neg w3] at k
              exact ew_call (ew_go (fun _ => false) 80 (xc_cellAt 0 c hc (pt ⟨fun z => absurd hl z, fun _ => xc_withT w1 ⟨fun z => absurd z (show ¬ (1 : Int32) = 0 by decide), fun _ => xc_withT w2 ⟨fun z => absurd z (show ¬ (1 : Int32) = 0 by decide), fun _ => xc_dA1 ⟨fun _ => xc_dS0 ⟨rfl, k⟩, fun z => absurd (Int32.not_lt.mp w3) z⟩⟩⟩⟩)))
          · rw [if_neg (fun z => w2 z.2.2)] at k
            exact ew_call (ew_go (fun _ => false) 80 (xc_cellAt 0 c hc (pt ⟨fun z => absurd hl z, fun _ => xc_withT w1 ⟨fun z => absurd z (show ¬ (1 : Int32) = 0 by decide), fun _ => xc_withF w2 ⟨fun _ => xc_dA0 ⟨rfl, k⟩, fun z => absurd rfl z⟩⟩⟩)))
        · rw [if_neg (fun z => w1 z.2.1)] at k
          exact ew_call (ew_go (fun _ => false) 80 (xc_cellAt 0 c hc (pt ⟨fun z => absurd hl z, fun _ => xc_withF w1 ⟨fun _ => xc_dA0 ⟨rfl, k⟩, fun z => absurd rfl z⟩⟩)))
      · rw [if_neg (fun z => hl z.1)] at k
        exact ew_call (ew_go (fun _ => false) 60 (xc_cellAt 0 c hc (pt ⟨fun _ => xc_dA0 ⟨rfl, k⟩, fun z => absurd hl z⟩)))
    · rw [iN_f h2, cond_false] at k
      exact ew_call (ew_go (fun _ => false) 60 (xc_cellAt 0 c hc (xc_prtX hnp (by omega) h2 ⟨rfl, k⟩)))
  · rw [show (15 : Int32) = ei 15 from rfl, iN_f h1, Bool.false_and, cond_false] at k
    exact ew_call (ew_go (fun _ => false) 60 (xc_cellX 0 h1 ⟨rfl, k⟩))
theorem xp_steer (h : Iv 0 nb ns np T s) (b x : Int32) (k : KO K m (op_steer b x s)) : ew_Call (d + 2) 80 [ew_o 11 0, ew_i b, ew_i x] (ew_hp s m) K := by
  unfold op_steer at k
  have hb := h.1
  have hnb := h.2.1.1
  rw [hnb] at k
  rcases ei_dec b nb (by omega) with ⟨c, hc, rfl⟩ | ⟨h1, -⟩
  · rw [iN_t hc (by omega), Bool.true_and, ei_nat (by omega)] at k
    rcases ei_dec x 15 (by decide) with ⟨c2, hc2, rfl⟩ | ⟨h2, -⟩
    · rw [show (15 : Int32) = ei 15 from rfl, iN_t hc2 (by decide), cond_true] at k
      obtain ⟨-, n, hn, e, -⟩ := h.2.2.2.1 c hc
      have e : s 8 1 c = ei n := e
      have e9 : (s 8 1 c).toNatClampNeg = n := by rw [e, ei_nat (by omega)]
      rw [e9] at k
      by_cases w : s 8 1 c < 8
      · rw [if_pos w, e, ei_1] at k
        have h8 : n < 8 := by
          rw [e] at w
          exact (ei_lt (b := 8) (by omega) (by decide)).mp w
        refine ew_call (ew_go (fun _ => false) 60 (xc_breakerAt 0 c nb hnb (by omega) hc (xc_cellAt 0 c2 hc2 (xc_isFull8 c n e hn ⟨fun z => ?_, fun z => xc_dS1 (xc_add8 c n _ e h8 ⟨trivial, k⟩)⟩))))
        exact absurd (show (if n = 8 then (1 : Int32) else 0) = 0 by rw [if_neg (by omega)]) z
      · rw [if_neg w] at k
        have h8 : n = 8 := by
          rw [e] at w
          have : ¬ n < 8 := fun q => w ((ei_lt (b := 8) (by omega) (by decide)).mpr q)
          omega
        refine ew_call (ew_go (fun _ => false) 60 (xc_breakerAt 0 c nb hnb (by omega) hc (xc_cellAt 0 c2 hc2 (xc_isFull8 c n e hn ⟨fun z => xc_dS0 ⟨rfl, k⟩, fun z => ?_⟩))))
        exact absurd (show ¬ (if n = 8 then (1 : Int32) else 0) = 0 by rw [if_pos h8]; decide) z
    · rw [show (15 : Int32) = ei 15 from rfl, iN_f h2, cond_false] at k
      exact ew_call (ew_go (fun _ => false) 60 (xc_breakerAt 0 c nb hnb (by omega) hc (xc_cellX 0 h2 ⟨rfl, k⟩)))
  · rw [iN_f h1, Bool.false_and, cond_false] at k
    exact ew_call (ew_go (fun _ => false) 60 (xc_brkX 0 hnb (by omega) h1 ⟨rfl, k⟩))
theorem xp_sail (h : Iv 0 nb ns np T s) (j x : Int32) (k : KO K m (op_sail j x s)) : ew_Call (d + 2) 81 [ew_o 11 0, ew_i j, ew_i x] (ew_hp s m) K := by
  unfold op_sail at k
  have hb := h.1
  have hns := h.2.1.2.1
  rw [hns] at k
  rcases ei_dec j ns (by omega) with ⟨c, hc, rfl⟩ | ⟨h1, -⟩
  · rw [iN_t hc (by omega), Bool.true_and, ei_nat (by omega)] at k
    rcases ei_dec x 15 (by decide) with ⟨c2, hc2, rfl⟩ | ⟨h2, -⟩
    · rw [show (15 : Int32) = ei 15 from rfl, iN_t hc2 (by decide), cond_true] at k
      obtain ⟨-, ⟨n, hn, e, -⟩, -⟩ := h.2.2.2.2.1 c hc
      have e : s 40 1 c = ei n := e
      have e9 : (s 40 1 c).toNatClampNeg = n := by rw [e, ei_nat (by omega)]
      rw [e9] at k
      by_cases w0 : s 10 7 c = 3
      · rw [if_neg (fun z => z.1 w0)] at k
        exact ew_call (ew_go (fun _ => false) 60 (xc_shipAt 0 c ns hns (by omega) hc (xc_cellAt 0 c2 hc2 ⟨fun _ => xc_dS0 ⟨rfl, k⟩, fun z => absurd w0 z⟩)))
      · by_cases w : s 40 1 c < 8
        · rw [if_pos ⟨w0, w⟩, e, ei_1] at k
          have h8 : n < 8 := by
            rw [e] at w
            exact (ei_lt (b := 8) (by omega) (by decide)).mp w
          refine ew_call (ew_go (fun _ => false) 60 (xc_shipAt 0 c ns hns (by omega) hc (xc_cellAt 0 c2 hc2 ⟨fun z => absurd z w0, fun _ => xc_isFull40 c n e hn ⟨fun z => ?_, fun z => xc_dS1 (xc_add40 c n _ e h8 ⟨trivial, k⟩)⟩⟩)))
          exact absurd (show (if n = 8 then (1 : Int32) else 0) = 0 by rw [if_neg (by omega)]) z
        · rw [if_neg (fun z => w z.2)] at k
          have h8 : n = 8 := by
            rw [e] at w
            have : ¬ n < 8 := fun q => w ((ei_lt (b := 8) (by omega) (by decide)).mpr q)
            omega
          refine ew_call (ew_go (fun _ => false) 60 (xc_shipAt 0 c ns hns (by omega) hc (xc_cellAt 0 c2 hc2 ⟨fun z => absurd z w0, fun _ => xc_isFull40 c n e hn ⟨fun z => xc_dS0 ⟨rfl, k⟩, fun z => ?_⟩⟩)))
          exact absurd (show ¬ (if n = 8 then (1 : Int32) else 0) = 0 by rw [if_pos h8]; decide) z
    · rw [show (15 : Int32) = ei 15 from rfl, iN_f h2, cond_false] at k
      exact ew_call (ew_go (fun _ => false) 60 (xc_shipAt 0 c ns hns (by omega) hc (xc_cellX 0 h2 ⟨rfl, k⟩)))
  · rw [iN_f h1, Bool.false_and, cond_false] at k
    exact ew_call (ew_go (fun _ => false) 60 (xc_shpX 0 hns (by omega) h1 ⟨rfl, k⟩))
end
