/-! What one asks: the class. -/
abbrev ew_A2 : Type := Nat × Int32
def KQ (K : ew_R → ew_H → Prop) (m : ew_H) (s : ew_S) (o : ew_A2) : Prop := match o with
  | (0, r) => K (.inl (some (ew_i r))) (ew_hp s m)
  | (n + 1, _) => K (.inr n) (ew_hp s (ew_pay m 1 6))
def sp_cv (c : Nat) (x w : Int32) (s : ew_S) : Int32 := if w = 0 then s 4 0 c else if w = 1 then s 4 1 c else if w = 2 then s 4 2 c else if w = 3 then (if s 4 3 c = 0 then 0 else 1) else if w = 4 then sp_w 0 c s else sp_sn x s
def vo_ofCell (x w : Int32) (s : ew_S) : ew_A2 := bif iN x 15 then (if 0 ≤ w ∧ w ≤ 5 then (0, sp_cv x.toNatClampNeg x w s) else (2, 0)) else (1, 0)
def sp_bv (b : Nat) (x w : Int32) (s : ew_S) : Int32 := if w = 0 then s 3 1 b else if w = 1 then s 3 2 b else if w = 2 then s 8 1 b else if w = 3 then sp_led 1 x s else if w = 4 then sp_tug x s else s 3 3 b
def vo_ofBreaker (x w : Int32) (s : ew_S) : ew_A2 := bif iN x (s 9 3 0) then (if 0 ≤ w ∧ w ≤ 5 then (0, sp_bv x.toNatClampNeg x w s) else (2, 0)) else (1, 0)
def sp_sv (j : Nat) (w : Int32) (s : ew_S) : Int32 := if w = 0 then s 10 2 j else if w = 1 then s 10 3 j else if w = 2 then s 10 5 j else if w = 3 then s 10 6 j else if w = 4 then s 10 7 j else if w = 5 then s 10 8 j else if w = 6 then s 40 1 j else if w = 7 then s 10 9 j else if w = 8 then s 10 10 j else if w = 9 then s 10 11 j else s 177 (w - 10).toNatClampNeg j
def vo_ofShip (x w : Int32) (s : ew_S) : ew_A2 := bif iN x (s 9 4 0) then (if 0 ≤ w ∧ w ≤ 14 then (0, sp_sv x.toNatClampNeg w s) else (2, 0)) else (1, 0)
def sp_if (p : Nat) (x : Int32) (s : ew_S) : Int32 := ef_least (fun r => s 113 r p) (fun r => s 81 r p) x (s 6 3 p).toNatClampNeg
def vo_inForce (p x : Int32) (s : ew_S) : ew_A2 := bif iN p (s 7 1 0) then (if 0 ≤ x then (0, sp_if p.toNatClampNeg x s) else (2, 0)) else (1, 0)
def sp_ice (s : ew_S) : Int32 := ef_sum (fun c => s 4 0 c) 15
def sp_mv (w : Int32) (s : ew_S) : Int32 := if w = 0 then s 9 5 0 else if w = 1 then sp_ice s else if w = 2 then ef_sum (fun c => if s 4 2 c ≤ 0 then 0 else 1) 15 else if w = 3 then s 9 4 0 else if w = 4 then ef_sum (fun j => if s 10 7 j = 3 then 1 else 0) (s 9 4 0).toNatClampNeg else if w = 5 then s 9 3 0 else if w = 6 then s 7 1 0 else if w = 7 then ef_sum (fun j => ef_sum (fun p => s 177 p j) 5) (s 9 4 0).toNatClampNeg else if w = 8 then ef_sum (fun j => s 10 10 j) (s 9 4 0).toNatClampNeg else if w = 9 then s 9 6 0 else ef_sum (fun j => s 10 9 j) (s 9 4 0).toNatClampNeg
def vo_many (w : Int32) (s : ew_S) : ew_A2 := if 0 ≤ w ∧ w ≤ 10 then (0, sp_mv w s) else (2, 0)
def sp_open (s : ew_S) : Int32 := ef_sum (fun c => if s 4 3 c = 0 then 1 else 0) 15
section
variable {d : Nat} {s : ew_S} {m : ew_H} {K : ew_R → ew_H → Prop} {nb ns np T : Nat}

theorem xc_sn {x : Int32} (h : Iv 0 nb ns np T s) (k : K (.inl (some (ew_i (sp_sn x s)))) (ew_hp s m)) : ew_Call (d + 2) 49 [ew_o 9 0, ew_i x] (ew_hp s m) K := by
  have hb := h.1
  unfold sp_sn at k
  rw [h.2.1.2.1, ei_nat (by omega)] at k
  exact xc_countShipsIn 0 ns x h.2.1.2.1 (by omega) k
theorem xl_ofCell (h : Iv 0 nb ns np T s) (c : Nat) (w : Int32) (k : K (.inl (some (ew_i (sp_cv c (ei c) w s)))) (ew_hp s m)) : ew_W (ew_Call (d + 2)) 87 K (18, [some (ew_o 11 0), some (ew_i (ei c)), some (ew_i w), some (ew_o 4 c)], [], ew_hp s m) := by
  refine ew_go (fun _ => false) 60 ⟨fun e => ?_, fun n0 => ⟨fun e => ?_, fun n1 => ⟨fun e => ?_, fun n2 => ⟨fun e => ?_, fun n3 => ⟨fun e => ?_, fun n4 => ?_⟩⟩⟩⟩⟩
  · have e : w = 0 := e
    rw [show sp_cv c (ei c) w s = s 4 0 c by unfold sp_cv; rw [if_pos e]] at k
    exact ⟨trivial, k⟩
  · have e : w = 1 := e
    have n0 : ¬ w = 0 := n0
    rw [show sp_cv c (ei c) w s = s 4 1 c by unfold sp_cv; rw [if_neg n0, if_pos e]] at k
    exact ⟨trivial, k⟩
  · have e : w = 2 := e
    have n0 : ¬ w = 0 := n0
    have n1 : ¬ w = 1 := n1
    rw [show sp_cv c (ei c) w s = s 4 2 c by unfold sp_cv; rw [if_neg n0, if_neg n1, if_pos e]] at k
    exact ⟨trivial, k⟩
  · have e : w = 3 := e
    have n0 : ¬ w = 0 := n0
    have n1 : ¬ w = 1 := n1
    have n2 : ¬ w = 2 := n2
    rw [show sp_cv c (ei c) w s = (if s 4 3 c = 0 then 0 else 1) by unfold sp_cv; rw [if_neg n0, if_neg n1, if_neg n2, if_pos e]] at k
    refine ⟨fun z => ?_, fun z => ?_⟩
    · rw [if_pos (show s 4 3 c = 0 from z)] at k; exact ⟨trivial, k⟩
    · rw [if_neg (show ¬ s 4 3 c = 0 from z)] at k; exact ⟨trivial, k⟩
  · have e : w = 4 := e
    have n0 : ¬ w = 0 := n0
    have n1 : ¬ w = 1 := n1
    have n2 : ¬ w = 2 := n2
    have n3 : ¬ w = 3 := n3
    rw [show sp_cv c (ei c) w s = sp_w 0 c s by unfold sp_cv; rw [if_neg n0, if_neg n1, if_neg n2, if_neg n3, if_pos e]] at k
    exact xc_worth c ⟨trivial, k⟩
  · have k0 := k
    have n0 : ¬ w = 0 := n0
    have n1 : ¬ w = 1 := n1
    have n2 : ¬ w = 2 := n2
    have n3 : ¬ w = 3 := n3
    have n4 : ¬ w = 4 := n4
    rw [show sp_cv c (ei c) w s = sp_sn (ei c) s by unfold sp_cv; rw [if_neg n0, if_neg n1, if_neg n2, if_neg n3, if_neg n4]] at k
    exact xc_sn h ⟨trivial, k⟩
theorem xp_ofCell (h : Iv 0 nb ns np T s) (x w : Int32) (k : KQ K m s (vo_ofCell x w s)) : ew_Call (d + 3) 87 [ew_o 11 0, ew_i x, ew_i w] (ew_hp s m) K := by
  unfold vo_ofCell at k
  rcases ei_dec x 15 (by decide) with ⟨c, hc, rfl⟩ | ⟨h1, -⟩
  · rw [show (15 : Int32) = ei 15 from rfl, iN_t hc (by decide), cond_true, ei_nat (by omega)] at k
    by_cases w1 : 0 ≤ w ∧ w ≤ 5
    · rw [if_pos w1] at k
      exact ew_call (ew_go (fun pc => Nat.beq pc 18) 60 (xc_cellAt 0 c hc (xc_withT w1 (xc_dA1 (xl_ofCell (d := d) h c w k)))))
    · rw [if_neg w1] at k
      exact ew_call (ew_go (fun pc => Nat.beq pc 18) 60 (xc_cellAt 0 c hc (xc_withF w1 (xc_dA0 ⟨rfl, k⟩))))
  · rw [show (15 : Int32) = ei 15 from rfl, iN_f h1, cond_false] at k
    exact ew_call (ew_go (fun pc => Nat.beq pc 18) 60 (xc_cellX 0 h1 ⟨rfl, k⟩))
theorem xl_ofBreaker (h : Iv 0 nb ns np T s) (b : Nat) (x w : Int32) (k : K (.inl (some (ew_i (sp_bv b x w s)))) (ew_hp s m)) : ew_W (ew_Call (d + 2)) 88 K (18, [some (ew_o 11 0), some (ew_i x), some (ew_i w), some (ew_o 3 b)], [], ew_hp s m) := by
  refine ew_go (fun _ => false) 60 ⟨fun e => ?_, fun n0 => ⟨fun e => ?_, fun n1 => ⟨fun e => ?_, fun n2 => ⟨fun e => ?_, fun n3 => ⟨fun e => ?_, fun n4 => ?_⟩⟩⟩⟩⟩
  · have e : w = 0 := e
    rw [show sp_bv b x w s = s 3 1 b by unfold sp_bv; rw [if_pos e]] at k
    exact ⟨trivial, k⟩
  · have e : w = 1 := e
    have n0 : ¬ w = 0 := n0
    rw [show sp_bv b x w s = s 3 2 b by unfold sp_bv; rw [if_neg n0, if_pos e]] at k
    exact ⟨trivial, k⟩
  · have e : w = 2 := e
    have n0 : ¬ w = 0 := n0
    have n1 : ¬ w = 1 := n1
    rw [show sp_bv b x w s = s 8 1 b by unfold sp_bv; rw [if_neg n0, if_neg n1, if_pos e]] at k
    exact ⟨trivial, k⟩
  · have e : w = 3 := e
    have n0 : ¬ w = 0 := n0
    have n1 : ¬ w = 1 := n1
    have n2 : ¬ w = 2 := n2
    rw [show sp_bv b x w s = sp_led 1 x s by unfold sp_bv; rw [if_neg n0, if_neg n1, if_neg n2, if_pos e]] at k
    exact xc_led h.2.1.2.1 h.1.2.1 ⟨trivial, k⟩
  · have e : w = 4 := e
    have n0 : ¬ w = 0 := n0
    have n1 : ¬ w = 1 := n1
    have n2 : ¬ w = 2 := n2
    have n3 : ¬ w = 3 := n3
    rw [show sp_bv b x w s = sp_tug x s by unfold sp_bv; rw [if_neg n0, if_neg n1, if_neg n2, if_neg n3, if_pos e]] at k
    exact xc_tug h.2.1.2.1 h.1.2.1 ⟨trivial, k⟩
  · have k0 := k
    have n0 : ¬ w = 0 := n0
    have n1 : ¬ w = 1 := n1
    have n2 : ¬ w = 2 := n2
    have n3 : ¬ w = 3 := n3
    have n4 : ¬ w = 4 := n4
    rw [show sp_bv b x w s = s 3 3 b by unfold sp_bv; rw [if_neg n0, if_neg n1, if_neg n2, if_neg n3, if_neg n4]] at k
    exact ⟨trivial, k⟩
theorem xp_ofBreaker (h : Iv 0 nb ns np T s) (x w : Int32) (k : KQ K m s (vo_ofBreaker x w s)) : ew_Call (d + 3) 88 [ew_o 11 0, ew_i x, ew_i w] (ew_hp s m) K := by
  unfold vo_ofBreaker at k
  have hb := h.1
  have hnb := h.2.1.1
  rw [hnb] at k
  rcases ei_dec x nb (by omega) with ⟨c, hc, rfl⟩ | ⟨h1, -⟩
  · rw [iN_t hc (by omega), cond_true, ei_nat (by omega)] at k
    by_cases w1 : 0 ≤ w ∧ w ≤ 5
    · rw [if_pos w1] at k
      exact ew_call (ew_go (fun pc => Nat.beq pc 18) 60 (xc_breakerAt 0 c nb hnb (by omega) hc (xc_withT w1 (xc_dA1 (xl_ofBreaker (d := d) h c (ei c) w k)))))
    · rw [if_neg w1] at k
      exact ew_call (ew_go (fun pc => Nat.beq pc 18) 60 (xc_breakerAt 0 c nb hnb (by omega) hc (xc_withF w1 (xc_dA0 ⟨rfl, k⟩))))
  · rw [iN_f h1, cond_false] at k
    exact ew_call (ew_go (fun pc => Nat.beq pc 18) 60 (xc_brkX 0 hnb (by omega) h1 ⟨rfl, k⟩))
theorem xc_waitsE (i j : Nat) (hj : j < 5) {x : Int32} (hx : x = ei j) (k : K (.inl (some (ew_i (s 177 j i)))) (ew_hp s m)) : ew_Call (d + 1) 69 [ew_o 10 i, ew_i x] (ew_hp s m) K := by
  subst hx; exact xc_waitsBy i j hj k
theorem xl_ofShip (j : Nat) (x w : Int32) (hw : ei 0 ≤ w ∧ w ≤ ei 14) (k : K (.inl (some (ew_i (sp_sv j w s)))) (ew_hp s m)) : ew_W (ew_Call (d + 2)) 89 K (19, [some (ew_o 11 0), some (ew_i x), some (ew_i w), some (ew_o 10 j)], [], ew_hp s m) := by
  refine ew_go (fun _ => false) 60 ⟨fun e => ?_, fun n0 => ⟨fun e => ?_, fun n1 => ⟨fun e => ?_, fun n2 => ⟨fun e => ?_, fun n3 => ⟨fun e => ?_, fun n4 => ⟨fun e => ?_, fun n5 => ⟨fun e => ?_, fun n6 => ⟨fun e => ?_, fun n7 => ⟨fun e => ?_, fun n8 => ⟨fun e => ?_, fun n9 => ?_⟩⟩⟩⟩⟩⟩⟩⟩⟩⟩
  · have e : w = 0 := e
    rw [show sp_sv j w s = s 10 2 j by unfold sp_sv; rw [if_pos e]] at k
    exact ⟨trivial, k⟩
  · have e : w = 1 := e
    have n0 : ¬ w = 0 := n0
    rw [show sp_sv j w s = s 10 3 j by unfold sp_sv; rw [if_neg n0, if_pos e]] at k
    exact ⟨trivial, k⟩
  · have e : w = 2 := e
    have n0 : ¬ w = 0 := n0
    have n1 : ¬ w = 1 := n1
    rw [show sp_sv j w s = s 10 5 j by unfold sp_sv; rw [if_neg n0, if_neg n1, if_pos e]] at k
    exact ⟨trivial, k⟩
  · have e : w = 3 := e
    have n0 : ¬ w = 0 := n0
    have n1 : ¬ w = 1 := n1
    have n2 : ¬ w = 2 := n2
    rw [show sp_sv j w s = s 10 6 j by unfold sp_sv; rw [if_neg n0, if_neg n1, if_neg n2, if_pos e]] at k
    exact ⟨trivial, k⟩
  · have e : w = 4 := e
    have n0 : ¬ w = 0 := n0
    have n1 : ¬ w = 1 := n1
    have n2 : ¬ w = 2 := n2
    have n3 : ¬ w = 3 := n3
    rw [show sp_sv j w s = s 10 7 j by unfold sp_sv; rw [if_neg n0, if_neg n1, if_neg n2, if_neg n3, if_pos e]] at k
    exact ⟨trivial, k⟩
  · have e : w = 5 := e
    have n0 : ¬ w = 0 := n0
    have n1 : ¬ w = 1 := n1
    have n2 : ¬ w = 2 := n2
    have n3 : ¬ w = 3 := n3
    have n4 : ¬ w = 4 := n4
    rw [show sp_sv j w s = s 10 8 j by unfold sp_sv; rw [if_neg n0, if_neg n1, if_neg n2, if_neg n3, if_neg n4, if_pos e]] at k
    exact ⟨trivial, k⟩
  · have e : w = 6 := e
    have n0 : ¬ w = 0 := n0
    have n1 : ¬ w = 1 := n1
    have n2 : ¬ w = 2 := n2
    have n3 : ¬ w = 3 := n3
    have n4 : ¬ w = 4 := n4
    have n5 : ¬ w = 5 := n5
    rw [show sp_sv j w s = s 40 1 j by unfold sp_sv; rw [if_neg n0, if_neg n1, if_neg n2, if_neg n3, if_neg n4, if_neg n5, if_pos e]] at k
    exact ⟨trivial, k⟩
  · have e : w = 7 := e
    have n0 : ¬ w = 0 := n0
    have n1 : ¬ w = 1 := n1
    have n2 : ¬ w = 2 := n2
    have n3 : ¬ w = 3 := n3
    have n4 : ¬ w = 4 := n4
    have n5 : ¬ w = 5 := n5
    have n6 : ¬ w = 6 := n6
    rw [show sp_sv j w s = s 10 9 j by unfold sp_sv; rw [if_neg n0, if_neg n1, if_neg n2, if_neg n3, if_neg n4, if_neg n5, if_neg n6, if_pos e]] at k
    exact ⟨trivial, k⟩
  · have e : w = 8 := e
    have n0 : ¬ w = 0 := n0
    have n1 : ¬ w = 1 := n1
    have n2 : ¬ w = 2 := n2
    have n3 : ¬ w = 3 := n3
    have n4 : ¬ w = 4 := n4
    have n5 : ¬ w = 5 := n5
    have n6 : ¬ w = 6 := n6
    have n7 : ¬ w = 7 := n7
    rw [show sp_sv j w s = s 10 10 j by unfold sp_sv; rw [if_neg n0, if_neg n1, if_neg n2, if_neg n3, if_neg n4, if_neg n5, if_neg n6, if_neg n7, if_pos e]] at k
    exact ⟨trivial, k⟩
  · have e : w = 9 := e
    have n0 : ¬ w = 0 := n0
    have n1 : ¬ w = 1 := n1
    have n2 : ¬ w = 2 := n2
    have n3 : ¬ w = 3 := n3
    have n4 : ¬ w = 4 := n4
    have n5 : ¬ w = 5 := n5
    have n6 : ¬ w = 6 := n6
    have n7 : ¬ w = 7 := n7
    have n8 : ¬ w = 8 := n8
    rw [show sp_sv j w s = s 10 11 j by unfold sp_sv; rw [if_neg n0, if_neg n1, if_neg n2, if_neg n3, if_neg n4, if_neg n5, if_neg n6, if_neg n7, if_neg n8, if_pos e]] at k
    exact ⟨trivial, k⟩
  · have k0 := k
    have n0 : ¬ w = 0 := n0
    have n1 : ¬ w = 1 := n1
    have n2 : ¬ w = 2 := n2
    have n3 : ¬ w = 3 := n3
    have n4 : ¬ w = 4 := n4
    have n5 : ¬ w = 5 := n5
    have n6 : ¬ w = 6 := n6
    have n7 : ¬ w = 7 := n7
    have n8 : ¬ w = 8 := n8
    have n9 : ¬ w = 9 := n9
    rw [show sp_sv j w s = s 177 (w - 10).toNatClampNeg j by unfold sp_sv; rw [if_neg n0, if_neg n1, if_neg n2, if_neg n3, if_neg n4, if_neg n5, if_neg n6, if_neg n7, if_neg n8, if_neg n9]] at k
    obtain ⟨n, -, hn, rfl⟩ := ei_rng (a := 0) (b := 14) (by decide) hw (by decide)
    have hge : 10 ≤ n := by
      have q0 : ¬ n = 0 := fun z => n0 (by rw [z]; rfl)
      have q1 : ¬ n = 1 := fun z => n1 (by rw [z]; rfl)
      have q2 : ¬ n = 2 := fun z => n2 (by rw [z]; rfl)
      have q3 : ¬ n = 3 := fun z => n3 (by rw [z]; rfl)
      have q4 : ¬ n = 4 := fun z => n4 (by rw [z]; rfl)
      have q5 : ¬ n = 5 := fun z => n5 (by rw [z]; rfl)
      have q6 : ¬ n = 6 := fun z => n6 (by rw [z]; rfl)
      have q7 : ¬ n = 7 := fun z => n7 (by rw [z]; rfl)
      have q8 : ¬ n = 8 := fun z => n8 (by rw [z]; rfl)
      have q9 : ¬ n = 9 := fun z => n9 (by rw [z]; rfl)
      omega
    have e10 : ei n - 10 = ei (n - 10) := ei_sub (b := 10) hge
    rw [e10, ei_nat (by omega)] at k
    exact xc_waitsE j (n - 10) (by omega) e10 ⟨trivial, k⟩
theorem xp_ofShip (h : Iv 0 nb ns np T s) (x w : Int32) (k : KQ K m s (vo_ofShip x w s)) : ew_Call (d + 3) 89 [ew_o 11 0, ew_i x, ew_i w] (ew_hp s m) K := by
  unfold vo_ofShip at k
  have hb := h.1
  have hns := h.2.1.2.1
  rw [hns] at k
  rcases ei_dec x ns (by omega) with ⟨c, hc, rfl⟩ | ⟨h1, -⟩
  · rw [iN_t hc (by omega), cond_true, ei_nat (by omega)] at k
    by_cases w1 : 0 ≤ w ∧ w ≤ 14
    · rw [if_pos w1] at k
      exact ew_call (ew_go (fun pc => Nat.beq pc 19) 60 (xc_shipAt 0 c ns hns (by omega) hc (xc_withT w1 (xc_dA1 (xl_ofShip (d := d) c (ei c) w w1 k)))))
    · rw [if_neg w1] at k
      exact ew_call (ew_go (fun pc => Nat.beq pc 19) 60 (xc_shipAt 0 c ns hns (by omega) hc (xc_withF w1 (xc_dA0 ⟨rfl, k⟩))))
  · rw [iN_f h1, cond_false] at k
    exact ew_call (ew_go (fun pc => Nat.beq pc 19) 60 (xc_shpX 0 hns (by omega) h1 ⟨rfl, k⟩))
theorem xp_inForce (h : Iv 0 nb ns np T s) (p x : Int32) (k : KQ K m s (vo_inForce p x s)) : ew_Call (d + 2) 90 [ew_o 11 0, ew_i p, ew_i x] (ew_hp s m) K := by
  unfold vo_inForce at k
  have hb := h.1
  have hnp := h.2.1.2.2
  rw [hnp] at k
  rcases ei_dec p np (by omega) with ⟨c, hc, rfl⟩ | ⟨h1, -⟩
  · rw [iN_t hc (by omega), cond_true, ei_nat (by omega)] at k
    obtain ⟨-, ⟨n, hn, e⟩, -⟩ := h.2.2.2.2.2.1 c hc
    have e : s 6 3 c = ei n := e
    unfold sp_if at k
    rw [e, ei_nat (by omega)] at k
    by_cases w1 : 0 ≤ x
    · rw [if_pos w1] at k
      exact ew_call (ew_go (fun _ => false) 60 (xc_portAtE c np hnp (by omega) hc rfl ⟨fun z => absurd w1 (Int32.not_le.mpr z), fun _ => xc_dA1 (xc_leastAt c n x e hn ⟨trivial, k⟩)⟩))
    · rw [if_neg w1] at k
      exact ew_call (ew_go (fun _ => false) 60 (xc_portAtE c np hnp (by omega) hc rfl ⟨fun _ => xc_dA0 ⟨rfl, k⟩, fun z => absurd (Int32.not_le.mp w1) z⟩))
  · rw [iN_f h1, cond_false] at k
    exact ew_call (ew_go (fun _ => false) 60 (xc_prtX hnp (by omega) h1 ⟨rfl, k⟩))
theorem xl_many (h : Iv 0 nb ns np T s) (w : Int32) (k : K (.inl (some (ew_i (sp_mv w s)))) (ew_hp s m)) : ew_W (ew_Call (d + 2)) 91 K (10, [some (ew_o 11 0), some (ew_i w)], [], ew_hp s m) := by
  have h5 := h.1.2.1
  have hns := h.2.1.2.1
  have e9 : (s 9 4 0).toNatClampNeg = ns := by rw [hns, ei_nat (by omega)]
  refine ew_go (fun _ => false) 60 ⟨fun e => ?_, fun n0 => ⟨fun e => ?_, fun n1 => ⟨fun e => ?_, fun n2 => ⟨fun e => ?_, fun n3 => ⟨fun e => ?_, fun n4 => ⟨fun e => ?_, fun n5 => ⟨fun e => ?_, fun n6 => ⟨fun e => ?_, fun n7 => ⟨fun e => ?_, fun n8 => ⟨fun e => ?_, fun n9 => ?_⟩⟩⟩⟩⟩⟩⟩⟩⟩⟩
  · have e : w = 0 := e
    rw [show sp_mv w s = s 9 5 0 by unfold sp_mv; rw [e9, if_pos e]] at k
    exact ⟨trivial, k⟩
  · have e : w = 1 := e
    have n0 : ¬ w = 0 := n0
    rw [show sp_mv w s = sp_ice s by unfold sp_mv; rw [e9, if_neg n0, if_pos e]] at k
    exact xc_allIce 0 ⟨trivial, k⟩
  · have e : w = 2 := e
    have n0 : ¬ w = 0 := n0
    have n1 : ¬ w = 1 := n1
    rw [show sp_mv w s = ef_sum (fun c => if s 4 2 c ≤ 0 then 0 else 1) 15 by unfold sp_mv; rw [e9, if_neg n0, if_neg n1, if_pos e]] at k
    exact xc_countChannels 0 ⟨trivial, k⟩
  · have e : w = 3 := e
    have n0 : ¬ w = 0 := n0
    have n1 : ¬ w = 1 := n1
    have n2 : ¬ w = 2 := n2
    rw [show sp_mv w s = s 9 4 0 by unfold sp_mv; rw [e9, if_neg n0, if_neg n1, if_neg n2, if_pos e]] at k
    exact ⟨trivial, k⟩
  · have e : w = 4 := e
    have n0 : ¬ w = 0 := n0
    have n1 : ¬ w = 1 := n1
    have n2 : ¬ w = 2 := n2
    have n3 : ¬ w = 3 := n3
    rw [show sp_mv w s = ef_sum (fun j => if s 10 7 j = 3 then 1 else 0) ns by unfold sp_mv; rw [e9, if_neg n0, if_neg n1, if_neg n2, if_neg n3, if_pos e]] at k
    exact xc_countArrived 0 ns hns h5 ⟨trivial, k⟩
  · have e : w = 5 := e
    have n0 : ¬ w = 0 := n0
    have n1 : ¬ w = 1 := n1
    have n2 : ¬ w = 2 := n2
    have n3 : ¬ w = 3 := n3
    have n4 : ¬ w = 4 := n4
    rw [show sp_mv w s = s 9 3 0 by unfold sp_mv; rw [e9, if_neg n0, if_neg n1, if_neg n2, if_neg n3, if_neg n4, if_pos e]] at k
    exact ⟨trivial, k⟩
  · have e : w = 6 := e
    have n0 : ¬ w = 0 := n0
    have n1 : ¬ w = 1 := n1
    have n2 : ¬ w = 2 := n2
    have n3 : ¬ w = 3 := n3
    have n4 : ¬ w = 4 := n4
    have n5 : ¬ w = 5 := n5
    rw [show sp_mv w s = s 7 1 0 by unfold sp_mv; rw [e9, if_neg n0, if_neg n1, if_neg n2, if_neg n3, if_neg n4, if_neg n5, if_pos e]] at k
    exact ⟨trivial, k⟩
  · have e : w = 7 := e
    have n0 : ¬ w = 0 := n0
    have n1 : ¬ w = 1 := n1
    have n2 : ¬ w = 2 := n2
    have n3 : ¬ w = 3 := n3
    have n4 : ¬ w = 4 := n4
    have n5 : ¬ w = 5 := n5
    have n6 : ¬ w = 6 := n6
    rw [show sp_mv w s = ef_sum (fun j => ef_sum (fun p => s 177 p j) 5) ns by unfold sp_mv; rw [e9, if_neg n0, if_neg n1, if_neg n2, if_neg n3, if_neg n4, if_neg n5, if_neg n6, if_pos e]] at k
    exact xc_allWaitsSea 0 ns hns h5 ⟨trivial, k⟩
  · have e : w = 8 := e
    have n0 : ¬ w = 0 := n0
    have n1 : ¬ w = 1 := n1
    have n2 : ¬ w = 2 := n2
    have n3 : ¬ w = 3 := n3
    have n4 : ¬ w = 4 := n4
    have n5 : ¬ w = 5 := n5
    have n6 : ¬ w = 6 := n6
    have n7 : ¬ w = 7 := n7
    rw [show sp_mv w s = ef_sum (fun j => s 10 10 j) ns by unfold sp_mv; rw [e9, if_neg n0, if_neg n1, if_neg n2, if_neg n3, if_neg n4, if_neg n5, if_neg n6, if_neg n7, if_pos e]] at k
    exact xc_allDues 0 ns hns h5 ⟨trivial, k⟩
  · have e : w = 9 := e
    have n0 : ¬ w = 0 := n0
    have n1 : ¬ w = 1 := n1
    have n2 : ¬ w = 2 := n2
    have n3 : ¬ w = 3 := n3
    have n4 : ¬ w = 4 := n4
    have n5 : ¬ w = 5 := n5
    have n6 : ¬ w = 6 := n6
    have n7 : ¬ w = 7 := n7
    have n8 : ¬ w = 8 := n8
    rw [show sp_mv w s = s 9 6 0 by unfold sp_mv; rw [e9, if_neg n0, if_neg n1, if_neg n2, if_neg n3, if_neg n4, if_neg n5, if_neg n6, if_neg n7, if_neg n8, if_pos e]] at k
    exact ⟨trivial, k⟩
  · have k0 := k
    have n0 : ¬ w = 0 := n0
    have n1 : ¬ w = 1 := n1
    have n2 : ¬ w = 2 := n2
    have n3 : ¬ w = 3 := n3
    have n4 : ¬ w = 4 := n4
    have n5 : ¬ w = 5 := n5
    have n6 : ¬ w = 6 := n6
    have n7 : ¬ w = 7 := n7
    have n8 : ¬ w = 8 := n8
    have n9 : ¬ w = 9 := n9
    rw [show sp_mv w s = ef_sum (fun j => s 10 9 j) ns by unfold sp_mv; rw [e9, if_neg n0, if_neg n1, if_neg n2, if_neg n3, if_neg n4, if_neg n5, if_neg n6, if_neg n7, if_neg n8, if_neg n9]] at k
    exact xc_allDamage 0 ns hns h5 ⟨trivial, k⟩
theorem xp_many (h : Iv 0 nb ns np T s) (w : Int32) (k : KQ K m s (vo_many w s)) : ew_Call (d + 3) 91 [ew_o 11 0, ew_i w] (ew_hp s m) K := by
  unfold vo_many at k
  by_cases w1 : 0 ≤ w ∧ w ≤ 10
  · rw [if_pos w1] at k
    exact ew_call (ew_go (fun pc => Nat.beq pc 10) 60 (xc_withT w1 (xc_dA1 (xl_many (d := d) h w k))))
  · rw [if_neg w1] at k
    exact ew_call (ew_go (fun pc => Nat.beq pc 10) 60 (xc_withF w1 (xc_dA0 ⟨rfl, k⟩)))
end
