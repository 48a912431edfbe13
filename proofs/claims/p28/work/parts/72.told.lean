/-! What is told: the class. Answers: 0 and a number, or 1, 2, 3 for what is thrown. -/
def iN (x y : Int32) : Bool := decide (¬ x < 0 ∧ x < y)
theorem iN_t {c n : Nat} (hc : c < n) (hn : n < 2147483648) : iN (ei c) (ei n) = true := decide_eq_true ⟨ei_nn (by omega), (ei_lt (by omega) hn).mpr hc⟩
theorem iN_f {x : Int32} {n : Nat} (h : x < 0 ∨ ei n ≤ x) : iN x (ei n) = false := decide_eq_false (fun w => by
  rcases h with h | h
  · exact w.1 h
  · exact Int32.not_lt.mpr h w.2)
abbrev ew_O : Type := Nat × Int32 × ew_S
def KO (K : ew_R → ew_H → Prop) (m : ew_H) (o : ew_O) : Prop := match o with
  | (0, r, s) => K (.inl (some (ew_i r))) (ew_hp s m)
  | (n + 1, _, s) => K (.inr n) (ew_hp s (ew_pay m 1 6))
def op_ice (x v : Int32) (s : ew_S) : ew_O := bif iN x 15 then (if 0 ≤ v ∧ v ≤ 300 then (if s 4 3 x.toNatClampNeg = 0 then (0, s 4 0 x.toNatClampNeg, ew_u s 4 0 x.toNatClampNeg v) else (3, 0, s)) else (2, 0, s)) else (1, 0, s)
/-- a breaker, a ship that has not arrived, a port in cell c -/
def sp_bk (c : Nat) (s : ew_S) : Prop := ∃ b, b < (s 9 3 0).toNatClampNeg ∧ s 3 1 b = ei c
def sp_sn (x : Int32) (s : ew_S) : Int32 := ef_sum (fun j => if s 10 2 j = x ∧ ¬ s 10 7 j = 3 then 1 else 0) (s 9 4 0).toNatClampNeg
def ef_any (p : Nat → Bool) : Nat → Bool
  | 0 => false
  | j + 1 => ef_any p j || p j
theorem ef_any_t {p : Nat → Bool} : ∀ {n : Nat}, (∃ j, j < n ∧ p j = true) → ef_any p n = true
  | 0, h => by obtain ⟨j, h, -⟩ := h; omega
  | n + 1, h => by
    obtain ⟨j, hj, h⟩ := h
    show (ef_any p n || p n) = true
    by_cases e : j = n
    · subst e; rw [h, Bool.or_true]
    · rw [ef_any_t ⟨j, by omega, h⟩, Bool.true_or]
theorem ef_any_f {p : Nat → Bool} : ∀ {n : Nat}, (∀ j, j < n → p j = false) → ef_any p n = false
  | 0, _ => rfl
  | n + 1, h => by
    show (ef_any p n || p n) = false
    rw [ef_any_f (fun j hj => h j (by omega)), h n (by omega)]; rfl
def sp_bA (x : Int32) (s : ew_S) : Bool := ef_any (fun b => decide (s 3 1 b = x)) (s 9 3 0).toNatClampNeg
def sp_pA (x : Int32) (s : ew_S) : Bool := ef_any (fun p => decide (s 6 4 p = x)) (s 7 1 0).toNatClampNeg
def sp_sA (x : Int32) (s : ew_S) : Bool := decide (¬ sp_sn x s ≤ 0)
def sp_land (i : Nat) (s : ew_S) : ew_S := ew_u (ew_u (ew_u (ew_u s 4 3 i 1) 4 0 i 0) 4 1 i 0) 4 2 i 0
def op_land (x : Int32) (s : ew_S) : ew_O := bif iN x 15 then (if s 4 3 x.toNatClampNeg = 0 then (bif sp_bA x s || sp_sA x s || sp_pA x s then (3, 0, s) else (0, s 4 0 x.toNatClampNeg, sp_land x.toNatClampNeg s)) else (3, 0, s)) else (1, 0, s)
def op_port (x : Int32) (s : ew_S) : ew_O := bif iN x 15 then (if s 4 3 x.toNatClampNeg = 0 then (bif sp_pA x s then (2, 0, s) else if s 7 1 0 < 3 then (0, s 7 1 0, ew_u (ew_u s 7 1 0 (s 7 1 0 + 1)) 6 4 (s 7 1 0).toNatClampNeg x) else (3, 0, s)) else (2, 0, s)) else (1, 0, s)
def op_rule (p x y : Int32) (s : ew_S) : ew_O := bif iN p (s 7 1 0) then (if (0 ≤ x ∧ x ≤ 4) ∧ (24 ≤ y ∧ y ≤ 200) then (if s 6 3 p.toNatClampNeg < 10 then (0, s 9 5 0 + y, ew_u (ew_u (ew_u s 81 (s 6 3 p.toNatClampNeg).toNatClampNeg p.toNatClampNeg x) 113 (s 6 3 p.toNatClampNeg).toNatClampNeg p.toNatClampNeg (s 9 5 0 + y)) 6 3 p.toNatClampNeg (s 6 3 p.toNatClampNeg + 1)) else (3, 0, s)) else (2, 0, s)) else (1, 0, s)
def op_exempt (p j : Int32) (s : ew_S) : ew_O := bif iN p (s 7 1 0) && iN j (s 9 4 0) then (0, if s 18 j.toNatClampNeg p.toNatClampNeg = 0 then 0 else 1, ew_u s 18 j.toNatClampNeg p.toNatClampNeg 1) else (1, 0, s)
def op_breaker (x f : Int32) (s : ew_S) : ew_O := bif iN x 15 then (if s 4 3 x.toNatClampNeg = 0 ∧ (0 ≤ f ∧ f ≤ 999) then (if s 9 3 0 < 2 then (0, s 9 3 0, ew_u (ew_u (ew_u s 9 3 0 (s 9 3 0 + 1)) 3 1 (s 9 3 0).toNatClampNeg x) 3 2 (s 9 3 0).toNatClampNeg f) else (3, 0, s)) else (2, 0, s)) else (1, 0, s)
def op_ship (x r w p : Int32) (s : ew_S) : ew_O := bif iN x 15 && iN p (s 7 1 0) then (if s 4 3 x.toNatClampNeg = 0 ∧ (0 ≤ r ∧ r ≤ 4) ∧ (1 ≤ w ∧ w ≤ 9) then (if s 9 4 0 < 5 then (0, s 9 4 0, ew_u (ew_u (ew_u (ew_u (ew_u (ew_u s 9 4 0 (s 9 4 0 + 1)) 10 2 (s 9 4 0).toNatClampNeg x) 10 3 (s 9 4 0).toNatClampNeg r) 10 4 (s 9 4 0).toNatClampNeg (ef_bears r)) 10 5 (s 9 4 0).toNatClampNeg w) 10 6 (s 9 4 0).toNatClampNeg p) else (3, 0, s)) else (2, 0, s)) else (1, 0, s)
section
variable {d : Nat} {s : ew_S} {m : ew_H} {K : ew_R → ew_H → Prop} {nb ns np T : Nat}
theorem xc_dA1 (k : K (.inl none) (ew_hp s m)) : ew_Call (d + 1) 105 [ew_i 1] (ew_hp s m) K := xc_demandArgument 1 (fun _ => k) (fun w => absurd w (by decide))
theorem xc_dA0 (k : K (.inr 1) (ew_hp s (ew_pay m 1 6))) : ew_Call (d + 1) 105 [ew_i 0] (ew_hp s m) K := xc_demandArgument 0 (fun w => absurd rfl w) (fun _ => k)
theorem xc_dS1 (k : K (.inl none) (ew_hp s m)) : ew_Call (d + 1) 106 [ew_i 1] (ew_hp s m) K := xc_demandState 1 (fun _ => k) (fun w => absurd w (by decide))
theorem xc_dS0 (k : K (.inr 2) (ew_hp s (ew_pay m 1 6))) : ew_Call (d + 1) 106 [ew_i 0] (ew_hp s m) K := xc_demandState 0 (fun w => absurd rfl w) (fun _ => k)
theorem xc_dAi {x a b : Int32} (k1 : a ≤ x ∧ x ≤ b → K (.inl none) (ew_hp s m)) (k0 : ¬ (a ≤ x ∧ x ≤ b) → K (.inr 1) (ew_hp s (ew_pay m 1 6))) : ew_Call (d + 1) 105 [ew_i (ef_in x a b)] (ew_hp s m) K :=
  xc_demandArgument _ (fun w => k1 (Classical.not_not.mp (fun z => w (ef_in0.mpr z)))) (fun w => k0 (ef_in0.mp w))
theorem xc_cellX (q : Nat) {x : Int32} (h : x < 0 ∨ ei 15 ≤ x) (k : K (.inr 0) (ew_hp s (ew_pay m 1 6))) : ew_Call (d + 1) 37 [ew_o 9 q, ew_i x] (ew_hp s m) K :=
  xc_cellAtX q x (fun c hc e => by subst e; exact absurd (iN_t hc (by decide)) (by rw [iN_f h]; decide)) (fun _ => k)
theorem xc_brkX (q : Nat) {x : Int32} {n : Nat} (hn : s 9 3 q = ei n) (h8 : n ≤ 2) (h : x < 0 ∨ ei n ≤ x) (k : K (.inr 0) (ew_hp s (ew_pay m 1 6))) : ew_Call (d + 1) 38 [ew_o 9 q, ew_i x] (ew_hp s m) K :=
  xc_breakerAtX q n x hn h8 (fun c hc e => by subst e; exact absurd (iN_t hc (by omega)) (by rw [iN_f h]; decide)) (fun _ => k)
theorem xc_shpX (q : Nat) {x : Int32} {n : Nat} (hn : s 9 4 q = ei n) (h8 : n ≤ 5) (h : x < 0 ∨ ei n ≤ x) (k : K (.inr 0) (ew_hp s (ew_pay m 1 6))) : ew_Call (d + 1) 39 [ew_o 9 q, ew_i x] (ew_hp s m) K :=
  xc_shipAtX q n x hn h8 (fun c hc e => by subst e; exact absurd (iN_t hc (by omega)) (by rw [iN_f h]; decide)) (fun _ => k)
theorem xc_prtX {x : Int32} {n : Nat} (hn : s 7 1 0 = ei n) (h8 : n ≤ 3) (h : x < 0 ∨ ei n ≤ x) (k : K (.inr 0) (ew_hp s (ew_pay m 1 6))) : ew_Call (d + 1) 26 [ew_o 7 0, ew_i x] (ew_hp s m) K :=
  xc_portAtX 0 n x hn h8 (fun c hc e => by subst e; exact absurd (iN_t hc (by omega)) (by rw [iN_f h]; decide)) (fun _ => k)
theorem xp_ice (x v : Int32) (k : KO K m (op_ice x v s)) : ew_Call (d + 2) 73 [ew_o 11 0, ew_i x, ew_i v] (ew_hp s m) K := by
  unfold op_ice at k
  rcases ei_dec x 15 (by decide) with ⟨c, hc, rfl⟩ | ⟨h1, -⟩
  · rw [show (15 : Int32) = ei 15 from rfl, iN_t hc (by decide), cond_true, ei_nat (by omega)] at k
    refine ew_call (ew_go (fun _ => false) 60 (xc_cellAt 0 c hc (xc_within v 0 300 (xc_dAi (fun w => ?_) (fun w => ?_)))))
    · rw [if_pos w] at k
      refine ⟨fun z => ?_, fun z => ?_⟩
      · have z : ¬ s 4 3 c = 0 := z
        rw [if_neg z] at k
        exact xc_dS0 ⟨rfl, k⟩
      · have z : s 4 3 c = 0 := Classical.not_not.mp z
        rw [if_pos z] at k
        exact xc_dS1 ⟨trivial, trivial, ek_p rfl k⟩
    · rw [if_neg w] at k
      exact ⟨rfl, k⟩
  · rw [show (15 : Int32) = ei 15 from rfl, iN_f h1, cond_false] at k
    exact ew_call (ew_go (fun _ => false) 60 (xc_cellX 0 h1 ⟨rfl, k⟩))
theorem xc_isPortB {x : Int32} (hn : s 7 1 0 = ei np) (h3 : np ≤ 3) (k : K (.inl (some (ew_i (bif sp_pA x s then 1 else 0)))) (ew_hp s m)) : ew_Call (d + 2) 28 [ew_o 7 0, ew_i x] (ew_hp s m) K := by
  have e : (s 7 1 0).toNatClampNeg = np := by rw [hn, ei_nat (by omega)]
  unfold sp_pA at k
  rw [e] at k
  refine xc_isPort 0 np x hn h3 (fun ⟨j, hj, w⟩ => ?_) (fun w => ?_)
  · rw [ef_any_t ⟨j, hj, decide_eq_true w⟩] at k; exact k
  · have w : ∀ j, j < np → ¬ s 6 4 j = x := w
    rw [ef_any_f (fun j hj => decide_eq_false (w j hj))] at k; exact k
theorem xc_isPortT {x : Int32} (hn : s 7 1 0 = ei np) (h3 : np ≤ 3) (e : sp_pA x s = true) (k : K (.inl (some (ew_i 1))) (ew_hp s m)) : ew_Call (d + 2) 28 [ew_o 7 0, ew_i x] (ew_hp s m) K := xc_isPortB hn h3 (by rw [e]; exact k)
theorem xc_isPortF {x : Int32} (hn : s 7 1 0 = ei np) (h3 : np ≤ 3) (e : sp_pA x s = false) (k : K (.inl (some (ew_i 0))) (ew_hp s m)) : ew_Call (d + 2) 28 [ew_o 7 0, ew_i x] (ew_hp s m) K := xc_isPortB hn h3 (by rw [e]; exact k)
theorem xp_port (h : Iv 0 nb ns np T s) (x : Int32) (k : KO K m (op_port x s)) : ew_Call (d + 3) 75 [ew_o 11 0, ew_i x] (ew_hp s m) K := by
  unfold op_port at k
  have hb := h.1
  have hnp := h.2.1.2.2
  rcases ei_dec x 15 (by decide) with ⟨c, hc, rfl⟩ | ⟨h1, -⟩
  · rw [show (15 : Int32) = ei 15 from rfl, iN_t hc (by decide), cond_true, ei_nat (by omega)] at k
    by_cases hl : s 4 3 c = 0
    · rw [if_pos hl] at k
      cases hP : sp_pA (ei c) s with
      | true =>
        rw [hP, cond_true] at k
        exact ew_call (ew_go (fun _ => false) 60 (xc_cellAt 0 c hc ⟨fun z => absurd hl z, fun _ => xc_isPortT hnp (by omega) hP ⟨fun _ => xc_dA0 ⟨rfl, k⟩, fun z => absurd (show ¬ (1 : Int32) = 0 by decide) z⟩⟩))
      | false =>
        rw [hP, cond_false] at k
        by_cases w : s 7 1 0 < 3
        · rw [if_pos w] at k
          have e9 : (s 7 1 0).toNatClampNeg = np := by rw [hnp, ei_nat (by omega)]
          rw [e9] at k
          have hp3 : np < 3 := by
            rw [hnp] at w
            exact (ei_lt (b := 3) (by omega) (by decide)).mp w
          have e8 : ew_u s 7 1 0 (s 7 1 0 + 1) 7 1 0 = ei (np + 1) := by rw [ew_u_self, hnp, ei_1]
          exact ew_call (ew_go (fun _ => false) 60 (xc_cellAt 0 c hc ⟨fun z => absurd hl z, fun _ => xc_isPortF hnp (by omega) hP ⟨fun z => absurd rfl z, fun _ => xc_dA1 ⟨fun z => absurd w (Int32.not_lt.mpr z), fun _ => xc_dS1 (ew_call (ew_go (fun _ => false) 60 ⟨trivial, ec_1 rfl (xc_portAtE np (np + 1) e8 (by omega) (by omega) hnp ⟨trivial, trivial, trivial, ek_p rfl k⟩)⟩))⟩⟩⟩))
        · rw [if_neg w] at k
          exact ew_call (ew_go (fun _ => false) 60 (xc_cellAt 0 c hc ⟨fun z => absurd hl z, fun _ => xc_isPortF hnp (by omega) hP ⟨fun z => absurd rfl z, fun _ => xc_dA1 ⟨fun _ => xc_dS0 ⟨rfl, k⟩, fun z => absurd (Int32.not_lt.mp w) z⟩⟩⟩))
    · rw [if_neg hl] at k
      exact ew_call (ew_go (fun _ => false) 60 (xc_cellAt 0 c hc ⟨fun _ => xc_dA0 ⟨rfl, k⟩, fun z => absurd hl z⟩))
  · rw [show (15 : Int32) = ei 15 from rfl, iN_f h1, cond_false] at k
    exact ew_call (ew_go (fun _ => false) 60 (xc_cellX 0 h1 ⟨rfl, k⟩))
end
