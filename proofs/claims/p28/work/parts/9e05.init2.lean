/-! The heap behind both constructors is of the form that all calls keep. -/
section
variable {xs : Nat → Int32} {L : Nat} {S : List cx_U}
theorem cx_f0_cst {k i : Nat} (h : cx_f0 k i = true) : ew_cst k = true := by
  unfold cx_f0 at h
  rw [Bool.and_eq_true] at h
  rw [ew_beq h.1]
  rfl
theorem cx_ctr_cst {k : Nat} (h : ew_cst k = true) : ew_ctr k = false := by
  unfold ew_ctr
  rw [h, Bool.not_true, Bool.and_false, Bool.false_and]
theorem cx_ln_no {k i : Nat} (f : (cx_ap (cx_h0 xs L) S).2.2.1 k i = true) (e : cx_ln S k i = none) : cx_f0 k i = true := by
  rw [(cx_ln_none S e).2] at f
  exact f
theorem cx_hq {k : Nat} (i p : Nat) (hk : ew_cst k = false) : ew_hq (cx_s1 xs) (fun k _ p => cx_t k p) k i p = cx_T k i p := by
  unfold ew_hq cx_T
  cases ew_sh k p with
  | none => rfl
  | some o =>
    cases o with
    | none =>
      show ew_i (cx_s1 xs k p i) = ew_i (cx_s k p)
      unfold cx_s1
      rw [hk, cond_false]
    | some q => rfl
theorem cx_hq0 {k : Nat} (i p : Nat) (hk : ew_cst k = true) : ew_hq (cx_s1 xs) (fun k _ p => cx_t k p) k i p = ew_hq (cx_s0 xs) (fun k _ p => cx_t k p) k i p := by
  unfold ew_hq
  cases ew_sh k p with
  | none => rfl
  | some o =>
    cases o with
    | none =>
      show ew_i (cx_s1 xs k p i) = ew_i (cx_s0 xs k p i)
      unfold cx_s1
      rw [hk, cond_true]
    | some q => rfl
theorem cx_e1 (hS : cx_ob S S = true) (k i p : Nat) (f : (cx_ap (cx_h0 xs L) S).2.2.1 k i = true) (hp : p < (bif Nat.blt (ew_ct k) 17 then et_N (ew_ct k) else ew_len (cx_ap (cx_h0 xs L) S) k i)) : (ew_hp (cx_s1 xs) (cx_m1 (cx_ap (cx_h0 xs L) S))).1 k i p = (cx_ap (cx_h0 xs L) S).1 k i p := by
  show ew_hq (cx_s1 xs) (fun k _ p => cx_t k p) k i p = (cx_ap (cx_h0 xs L) S).1 k i p
  cases e : cx_ln S k i with
  | none =>
    have c := cx_f0_cst (cx_ln_no f e)
    rw [cx_rd_none S (cx_ob_cst S S hS i p c), cx_hq0 i p c]
    rfl
  | some N =>
    obtain ⟨⟨⟨a1, a2⟩, ⟨a3, a4⟩, a5⟩, a6, a7⟩ := cx_ob_ln S S hS e
    have hN : p < N := by
      cases hb : Nat.blt (ew_ct k) 17 with
      | true =>
        rw [hb, cond_true] at hp a6
        rw [ew_beq a6]
        exact hp
      | false =>
        rw [hb, cond_false] at hp a6
        have el : ew_len (cx_ap (cx_h0 xs L) S) k i = N := by
          show ew_sl k ((cx_ap (cx_h0 xs L) S).2.1 k i) = N
          rw [cx_ln_some S e]
          exact ew_beq a6
        rw [el] at hp
        exact hp
    have g := cx_all_ok a7 p (by omega)
    unfold cx_pk at g
    rw [Bool.and_eq_true] at g
    have g1 := g.1
    rw [show Nat.blt p N = true from Nat.ble_eq_true_of_le hN, cond_true] at g1
    split at g1
    · rename_i v hv
      rw [cx_rd_some S hv, cx_hq i p a1, cx_eqv_ok g1]
    · cases g1
theorem cx_fl (k i : Nat) (h : (cx_ln S k i).isSome = true) : (cx_ap (cx_h0 xs L) S).2.2.1 k i = true := by
  cases e : cx_ln S k i with
  | none => rw [e] at h; cases h
  | some N => exact cx_ln_fl S e
theorem cx_fl0 {k i : Nat} (h : cx_f0 k i = true) : (cx_ap (cx_h0 xs L) S).2.2.1 k i = true := by
  cases e : cx_ln S k i with
  | none => rw [(cx_ln_none S e).2]; exact h
  | some N => exact cx_ln_fl S e
theorem cx_fl_no (hS : cx_ob S S = true) {k i : Nat} (h : ew_ctr k = false) (h0 : cx_f0 k i = false) : (cx_ap (cx_h0 xs L) S).2.2.1 k i = false := by
  cases e : cx_ln S k i with
  | none => rw [(cx_ln_none S e).2]; exact h0
  | some N =>
    have := (cx_ob_ln S S hS e).1.1.2
    rw [h] at this
    exact Bool.noConfusion this
theorem cx_wh (hS : cx_ob S S = true) (k i p : Nat) (f : (cx_ap (cx_h0 xs L) S).2.2.1 k i = true) : ew_wh (ew_hp (cx_s1 xs) (cx_m1 (cx_ap (cx_h0 xs L) S))) ((ew_hp (cx_s1 xs) (cx_m1 (cx_ap (cx_h0 xs L) S))).1 k i p) := by
  show ew_wh (ew_hp (cx_s1 xs) (cx_m1 (cx_ap (cx_h0 xs L) S))) (ew_hq (cx_s1 xs) (fun k _ p => cx_t k p) k i p)
  cases e : cx_ln S k i with
  | none =>
    have c := cx_ln_no f e
    unfold cx_f0 at c
    rw [Bool.and_eq_true] at c
    rw [ew_beq c.1]
    exact trivial
  | some N =>
    obtain ⟨⟨⟨a1, a2⟩, -⟩, -, a7⟩ := cx_ob_ln S S hS e
    rw [cx_hq i p a1]
    have key : ∀ p, p < 17 → ew_wh (ew_hp (cx_s1 xs) (cx_m1 (cx_ap (cx_h0 xs L) S))) (cx_T k i p) := fun p hp => by
      have g := cx_all_ok a7 p hp
      unfold cx_pk at g
      rw [Bool.and_eq_true] at g
      have g2 := g.2
      cases hT : cx_T k i p with
      | inl v =>
        rw [hT] at g2
        cases v <;> first | exact trivial | exact Bool.noConfusion g2
      | inr q =>
        rw [hT] at g2
        exact cx_fl _ _ g2
    by_cases hp : p < 17
    · exact key p hp
    · have k16 := key 16 (by decide)
      obtain ⟨t1, t2⟩ := cx_T16 k i (p := p) (by omega)
      cases hT : cx_T k i p with
      | inl v =>
        cases v with
        | ref x => rw [t2 x hT] at k16; exact k16.elim
        | _ => exact trivial
      | inr q => rw [t1 q hT] at k16; exact k16
theorem cx_sz_ok {h0 : ew_H} : ∀ S : List cx_U, (cx_ap h0 S).2.2.2.2.1 = h0.2.2.2.2.1 + (cx_sz S).1 ∧ (cx_ap h0 S).2.2.2.2.2 = h0.2.2.2.2.2 + (cx_sz S).2
  | [] => ⟨rfl, rfl⟩
  | .inl (k, i, N, c) :: S => by
    obtain ⟨a, b⟩ := cx_sz_ok (h0 := h0) S
    exact ⟨show (cx_ap h0 S).2.2.2.2.1 + 1 = h0.2.2.2.2.1 + ((cx_sz S).1 + 1) by omega, show (cx_ap h0 S).2.2.2.2.2 + N = h0.2.2.2.2.2 + ((cx_sz S).2 + N) by omega⟩
  | .inr (k, i, p, v) :: S => cx_sz_ok (h0 := h0) S
theorem cx_SI : SI 0 0 0 0 0 (cx_s1 xs) ∧ ∀ i, i < 15 → cx_s1 xs 4 0 i = 0 := by
  refine ⟨⟨⟨⟨⟨⟨by decide, by decide, by decide⟩, ⟨rfl, rfl, rfl⟩, fun c _ => ⟨show (0 : Int32) ≤ 0 by decide, Or.inl rfl, rfl⟩, fun b hb => absurd hb (Nat.not_lt_zero b), fun b hb => absurd hb (Nat.not_lt_zero b), fun b hb => absurd hb (Nat.not_lt_zero b), fun _ => 0, by decide, fun c _ => rfl⟩, ⟨fun b _ _ => ⟨rfl, rfl⟩, fun j _ _ => ⟨⟨rfl, rfl, rfl, rfl, rfl⟩, rfl, fun w _ => rfl⟩, fun p _ _ => ⟨rfl, fun j _ => rfl⟩⟩, fun b hb => absurd hb (Nat.not_lt_zero b)⟩, ⟨fun c _ => ⟨0, by decide, rfl⟩, fun c _ => show (0 : Int32) ≤ 0 by decide, fun j _ => Or.inr ⟨show ¬ (0 : Int32) = 3 by decide, rfl⟩⟩, rfl, ?_, ⟨0, 0, by decide, rfl, rfl⟩, fun j _ => ⟨0, by decide, rfl⟩⟩, fun c _ => rfl, rfl⟩, fun i _ => rfl⟩
  show ef_sum (fun _ => 0) 15 = (0 : Int32) + 0
  decide
theorem cx_b (hC : cx_ck S = true) : (cx_m1 (cx_ap (cx_h0 xs L) S)).2.1 17 0 = L ∧ (cx_m1 (cx_ap (cx_h0 xs L) S)).2.2.2.2.1 ≤ 1000 ∧ (cx_m1 (cx_ap (cx_h0 xs L) S)).2.2.2.2.2 ≤ 4000 := by
  unfold cx_ck at hC
  simp only [Bool.and_eq_true] at hC
  obtain ⟨hS, z1, z2⟩ := hC
  refine ⟨?_, ?_, ?_⟩
  · show (cx_ap (cx_h0 xs L) S).2.1 17 0 = L
    cases e : cx_ln S 17 0 with
    | none => rw [(cx_ln_none S e).1]; rfl
    | some N =>
      have := (cx_ob_ln S S hS e).1.1.1
      exact Bool.noConfusion this
  · show (cx_ap (cx_h0 xs L) S).2.2.2.2.1 ≤ _
    have := (cx_sz_ok (h0 := cx_h0 xs L) S).1
    have z := Nat.le_of_ble_eq_true z1
    have e : (cx_h0 xs L).2.2.2.2.1 = 0 := rfl
    omega
  · show (cx_ap (cx_h0 xs L) S).2.2.2.2.2 ≤ _
    have := (cx_sz_ok (h0 := cx_h0 xs L) S).2
    have z := Nat.le_of_ble_eq_true z2
    have e : (cx_h0 xs L).2.2.2.2.2 = 0 := rfl
    omega
end
