/-! The first heap, and the heap behind both constructors. -/
def cx_s0 (xs : Nat → Int32) : ew_S := fun k p _ => bif Nat.beq k 17 then xs p else 0
def cx_f0 (k i : Nat) : Bool := Nat.beq k 17 && Nat.beq i 0
def cx_m0 (L : Nat) : ew_H := (fun k _ p => cx_t k p, fun k _ => bif Nat.beq k 17 then L else 0, cx_f0, fun _ => 0, 0, 0)
def cx_h0 (xs : Nat → Int32) (L : Nat) : ew_H := ew_hp (cx_s0 xs) (cx_m0 L)
def cx_s1 (xs : Nat → Int32) : ew_S := fun k p i => bif ew_cst k then cx_s0 xs k p i else cx_s k p
def cx_m1 (h2 : ew_H) : ew_H := (fun k _ p => cx_t k p, h2.2)
theorem arrV_cg (c : ClassId) (N : Nat) {f g : Nat → Value} (h : ∀ j, j < N → f j = g j) : arrV c N f = arrV c N g := by
  unfold arrV
  have : (fun j : Fin N => f j.val) = fun j : Fin N => g j.val := funext fun j => h j.val j.isLt
  rw [this]
theorem cx_NN : vwCl.map (fun r => r.2.2) = (List.range 17).map et_N := by decide +kernel
theorem cx_Nr {c : Nat} {r : vw_C} (h : vwCl[c]? = some r) (hc : c < 17) : r.2.2 = et_N c := by
  have e : (vwCl.map (fun r => r.2.2))[c]? = some r.2.2 := by rw [List.getElem?_map, h]; rfl
  rw [cx_NN, List.getElem?_map, List.getElem?_range hc] at e
  exact (Option.some.inj e).symm
theorem ew_I.cg {G : va_G} {TY : Nat → ClassId} {sz : Nat} {H0 H : Heap} {a : Nat → Nat → Nat} {h h' : ew_H} (I : ew_I G TY sz H0 a h H) (e2 : h'.2 = h.2) (e1 : ∀ k i p, h.2.2.1 k i = true → p < (bif Nat.blt (ew_ct k) 17 then et_N (ew_ct k) else ew_len h k i) → h'.1 k i p = h.1 k i p) (ew : ∀ k i p, h.2.2.1 k i = true → ew_wh h' (h'.1 k i p)) : ew_I G TY sz H0 a h' H := by
  obtain ⟨i1, i2, i3, i4, i5, i6⟩ := I
  have f : h'.2.2.1 = h.2.2.1 := by rw [e2]
  have g : h'.2.2.2.1 = h.2.2.2.1 := by rw [e2]
  refine ⟨fun k i e => ?_, fun k i k' i' e e' => ?_, fun k i s e => ew k i s (by rw [← f]; exact e), fun k i c e => ?_, i5, i6⟩
  · rw [f] at e
    obtain ⟨⟨cx, cc⟩, c3⟩ := i1 k i e
    have el : ew_len h' k i = ew_len h k i := by
      show ew_sl k (h'.2.1 k i) = ew_sl k (h.2.1 k i)
      rw [e2]
    have p1 : ew_ct k < 17 → ∀ r : vw_C, vwCl[ew_ct k]? = some r → ∀ p, p < r.2.2 → h'.1 k i p = h.1 k i p := fun hk r hr p hp => e1 k i p e (by rw [show Nat.blt (ew_ct k) 17 = true from Nat.ble_eq_true_of_le hk, cond_true, ← cx_Nr hr hk]; exact hp)
    have p2 : 17 ≤ ew_ct k → ∀ p, p < ew_len h k i → h'.1 k i p = h.1 k i p := fun h1 p hp => e1 k i p e (by
      have : Nat.blt (ew_ct k) 17 = false := by
        cases hb : Nat.blt (ew_ct k) 17 with
        | false => rfl
        | true => have := Nat.le_of_ble_eq_true hb; omega
      rw [this, cond_false]
      exact hp)
    refine ⟨⟨fun hc => ?_, fun hc => ?_⟩, c3⟩
    · obtain ⟨c1, c2⟩ := cx hc
      refine ⟨fun hk => ?_, fun h1 h2 => ?_⟩
      · obtain ⟨r, hr, ho⟩ := c1 hk
        exact ⟨r, hr, ho.to (fun p hp => by rw [p1 hk r hr p hp])⟩
      · rw [c2 h1 h2, el]
        exact congrArg some (arrV_cg _ _ (fun p hp => by rw [p2 h1 p hp]))
    · obtain ⟨cell, q1, q2, q3, q4⟩ := cc hc
      refine ⟨cell, q1, q2, fun hk => ?_, fun h1 h2 => ?_⟩
      · obtain ⟨r, r1, r2, r3⟩ := q3 hk
        exact ⟨r, r1, r2, fun p hp => by rw [p1 hk r r1 p hp]; exact r3 p hp⟩
      · obtain ⟨t1, t2, t3⟩ := q4 h1 h2
        rw [el]
        exact ⟨t1, t2, fun j hj => by rw [p2 h1 j hj]; exact t3 j hj⟩
  · rw [f] at e e'
    exact i2 k i k' i' e e'
  · rw [g] at e
    rw [f]
    exact i4 k i c e
theorem cx_ob_ln (S : List cx_U) : ∀ (S' : List cx_U), cx_ob S S' = true → ∀ {k i N : Nat}, cx_ln S' k i = some N → ((ew_cst k = false ∧ ew_ctr k = true) ∧ (i < cx_cn S k ∧ N ≤ 17) ∧ ew_ct k < 25) ∧ ((bif Nat.blt (ew_ct k) 17 then Nat.beq N (et_N (ew_ct k)) else Nat.beq (ew_sl k N) N) = true ∧ cx_all (cx_pk S k i N) 17 = true)
  | [], _, _, _, _, h => by cases h
  | .inl (k', i', N', c) :: S', hS, k, i, N, h => by
    have hS : (((!ew_cst k' && ew_ctr k') && ((Nat.blt i' (cx_cn S k') && Nat.ble N' 17) && Nat.blt (ew_ct k') 25)) && ((bif Nat.blt (ew_ct k') 17 then Nat.beq N' (et_N (ew_ct k')) else Nat.beq (ew_sl k' N') N') && cx_all (cx_pk S k' i' N') 17) && cx_ob S S') = true := hS
    simp only [Bool.and_eq_true] at hS
    obtain ⟨⟨⟨⟨a1, a2⟩, ⟨a3, a4⟩, a5⟩, a6, a7⟩, a8⟩ := hS
    have h9 : (bif Nat.beq k k' && Nat.beq i i' then some N' else cx_ln S' k i) = some N := h
    cases hb : Nat.beq k k' && Nat.beq i i' with
    | false => rw [hb, cond_false] at h9; exact cx_ob_ln S S' a8 h9
    | true =>
      rw [hb, cond_true] at h9
      rw [Bool.and_eq_true] at hb
      obtain rfl := ew_beq hb.1
      obtain rfl := ew_beq hb.2
      obtain rfl := Option.some.inj h9
      exact ⟨⟨⟨(Bool.not_eq_true' _).mp a1, a2⟩, ⟨Nat.le_of_ble_eq_true a3, Nat.le_of_ble_eq_true a4⟩, Nat.le_of_ble_eq_true a5⟩, a6, a7⟩
  | .inr (k', i', p', v) :: S', hS, k, i, N, h => by
    have hS : (!ew_cst k' && cx_ob S S') = true := hS
    rw [Bool.and_eq_true] at hS
    exact cx_ob_ln S S' hS.2 (k := k) (i := i) h
theorem cx_ob_cst (S : List cx_U) : ∀ (S' : List cx_U), cx_ob S S' = true → ∀ {k : Nat} (i p : Nat), ew_cst k = true → cx_rd S' k i p = none
  | [], _, _, _, _, _ => rfl
  | .inl (k', i', N', c) :: S', hS, k, i, p, h => by
    have hS : (((!ew_cst k' && ew_ctr k') && ((Nat.blt i' (cx_cn S k') && Nat.ble N' 17) && Nat.blt (ew_ct k') 25)) && ((bif Nat.blt (ew_ct k') 17 then Nat.beq N' (et_N (ew_ct k')) else Nat.beq (ew_sl k' N') N') && cx_all (cx_pk S k' i' N') 17) && cx_ob S S') = true := hS
    simp only [Bool.and_eq_true] at hS
    obtain ⟨⟨⟨⟨a1, a2⟩, ⟨a3, a4⟩, a5⟩, a6, a7⟩, a8⟩ := hS
    show (bif Nat.beq k k' && Nat.beq i i' then some (cx_z c p) else cx_rd S' k i p) = none
    rw [ew_bne (fun e => by rw [← e, h] at a1; exact Bool.noConfusion a1), Bool.false_and, cond_false]
    exact cx_ob_cst S S' a8 i p h
  | .inr (k', i', p', v) :: S', hS, k, i, p, h => by
    have hS : (!ew_cst k' && cx_ob S S') = true := hS
    rw [Bool.and_eq_true] at hS
    show (bif Nat.beq k k' && (Nat.beq p p' && Nat.beq i i') then some v else cx_rd S' k i p) = none
    rw [ew_bne (fun e => by have := hS.1; rw [← e, h] at this; exact Bool.noConfusion this), Bool.false_and, cond_false]
    exact cx_ob_cst S S' hS.2 i p h
/-- beyond place 16 nothing changes -/
theorem cx_wi16 {n p : Nat} (hn : n ≤ 16) (hp : 16 ≤ p) : ew_wi n p = ew_wi n 16 := by
  have b : ∀ q, 16 ≤ q → Nat.blt q n = false := fun q hq => by
    cases e : Nat.blt q n with
    | false => rfl
    | true => have := Nat.le_of_ble_eq_true e; omega
  unfold ew_wi
  rw [b p hp, b 16 (by decide), cond_false, cond_false]
theorem cx_gi16 (c i : Nat) {p : Nat} (hp : 16 ≤ p) : ew_gi c i p = ew_gi c i 16 := by
  unfold ew_gi
  rw [cx_wi16 (n := 2) (by decide) hp, cx_wi16 (n := 15) (by decide) hp, cx_wi16 (n := 3) (by decide) hp, cx_wi16 (n := 5) (by decide) hp]
theorem cx_sh16 (k : Nat) {p : Nat} (hp : 16 ≤ p) : ew_sh k p = ew_sh k 16 := by
  have b : ∀ c, c < 16 → Nat.beq p c = false := fun c hc => ew_bne (by omega)
  have t : Nat.blt p 2 = false := by
    cases e : Nat.blt p 2 with
    | false => rfl
    | true => have := Nat.le_of_ble_eq_true e; omega
  unfold ew_sh
  rw [b 0 (by decide), b 1 (by decide), b 2 (by decide), b 3 (by decide), b 4 (by decide), b 5 (by decide), b 6 (by decide), b 7 (by decide), b 8 (by decide), b 9 (by decide), b 10 (by decide), t]
  rfl
theorem cx_T16 (k i : Nat) {p : Nat} (hp : 16 ≤ p) : (∀ q, cx_T k i p = .inr q → cx_T k i 16 = .inr q) ∧ (∀ x, cx_T k i p = .inl (.ref x) → cx_T k i 16 = .inl (.ref x)) := by
  unfold cx_T
  rw [cx_sh16 k hp]
  split
  · exact ⟨fun _ e => e, fun _ e => e⟩
  · exact ⟨fun _ e => (by cases e), fun _ e => (by cases e)⟩
  · rw [cx_gi16 _ i hp]
    exact ⟨fun _ e => e, fun _ e => e⟩
