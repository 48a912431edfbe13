/-! The start of the law by computing: what its two constructors make. -/
def cx_eqv (v w : ew_V) : Bool := match v, w with
  | .inl (.int x), .inl (.int y) => decide (x = y)
  | .inl (.long x), .inl (.long y) => decide (x = y)
  | .inl .null, .inl .null => true
  | .inr (a, b), .inr (c, d) => Nat.beq a c && Nat.beq b d
  | _, _ => false
theorem cx_eqv_ok {v w : ew_V} (h : cx_eqv v w = true) : v = w := by
  unfold cx_eqv at h
  split at h
  · rw [of_decide_eq_true h]
  · rw [of_decide_eq_true h]
  · rfl
  · rw [Bool.and_eq_true] at h
    rw [ew_beq h.1, ew_beq h.2]
  · cases h
def cx_eql : List (Option ew_V) → List (Option ew_V) → Bool
  | [], [] => true
  | none :: l, none :: l' => cx_eql l l'
  | some v :: l, some w :: l' => cx_eqv v w && cx_eql l l'
  | _, _ => false
theorem cx_eql_ok : ∀ {l l' : List (Option ew_V)}, cx_eql l l' = true → l = l'
  | [], [], _ => rfl
  | none :: l, none :: l', h => by rw [cx_eql_ok (l := l) (l' := l') h]
  | some v :: l, some w :: l', h => by
    have h : (cx_eqv v w && cx_eql l l') = true := h
    rw [Bool.and_eq_true] at h
    rw [cx_eqv_ok h.1, cx_eql_ok h.2]
  | [], _ :: _, h => by cases h
  | none :: _, [], h => by cases h
  | some _ :: _, [], h => by cases h
  | none :: _, some _ :: _, h => by cases h
  | some _ :: _, none :: _, h => by cases h
/-- the numbers of a new sea -/
def cx_s (k p : Nat) : Int32 := bif (Nat.beq k 3 && Nat.beq p 4) || (Nat.beq k 10 && (Nat.beq p 8 || Nat.beq p 11)) then -1 else 0
/-- what varies, at the start -/
def cx_t (_ _ : Nat) : ew_V := ew_0
def cx_T (k i p : Nat) : ew_V := match ew_sh k p with
  | none => cx_t k p
  | some none => ew_i (cx_s k p)
  | some (some (k', c)) => ew_o k' (ew_gi c i p)
def cx_pk (S : List cx_U) (k i N p : Nat) : Bool :=
  (bif Nat.blt p N then (match cx_rd S k i p with
    | some v => cx_eqv v (cx_T k i p)
    | none => false) else true) && (match cx_T k i p with
    | .inr (k', i') => (cx_ln S k' i').isSome
    | .inl (.ref _) => false
    | _ => true)
def cx_all (p : Nat → Bool) : Nat → Bool
  | 0 => true
  | n + 1 => p n && cx_all p n
theorem cx_all_ok {p : Nat → Bool} : ∀ {n : Nat}, cx_all p n = true → ∀ i, i < n → p i = true
  | n + 1, h, i, hi => by
    have h : (p n && cx_all p n) = true := h
    rw [Bool.and_eq_true] at h
    by_cases e : i = n
    · rw [e]; exact h.1
    · exact cx_all_ok h.2 i (by omega)
/-- each object of S is as it should be -/
def cx_ob (S : List cx_U) : List cx_U → Bool
  | [] => true
  | .inl (k, i, N, _) :: S' => ((!ew_cst k && ew_ctr k) && ((Nat.blt i (cx_cn S k) && Nat.ble N 17) && Nat.blt (ew_ct k) 25)) && ((bif Nat.blt (ew_ct k) 17 then Nat.beq N (et_N (ew_ct k)) else Nat.beq (ew_sl k N) N) && cx_all (cx_pk S k i N) 17) && cx_ob S S'
  | .inr (k, _, _, _) :: S' => !ew_cst k && cx_ob S S'
def cx_sz : List cx_U → Nat × Nat
  | [] => (0, 0)
  | .inl (_, _, N, _) :: S => ((cx_sz S).1 + 1, (cx_sz S).2 + N)
  | .inr _ :: S => cx_sz S
def cx_ls : List (Option ew_V) := [some (ew_o 17 0), some (ew_o 11 0), none, none, none, none, none, none, none, none, none, none, none, none]
def cx_R : Option (Bool × cx_C) := cx_go (cx_cl 9) (fun pc => Nat.beq pc 8) 242 100 (0, [some (ew_o 17 0), none, none, none, none, none, none, none, none, none, none, none, none, none], [], [])
def cx_ck (S : List cx_U) : Bool := cx_ob S S && (Nat.ble (cx_sz S).1 1000 && Nat.ble (cx_sz S).2 4000)
def cx_ro : Bool := match cx_R with
  | some (false, (pc, ls, st, S)) => Nat.beq pc 8 && (cx_eql ls cx_ls && (st.isEmpty && cx_ck S))
  | _ => false
theorem cx_ro_ok : cx_ro = true := by decide +kernel
theorem cx_main : ∃ S, cx_R = some (false, (8, cx_ls, [], S)) ∧ cx_ck S = true := by
  have h := cx_ro_ok
  unfold cx_ro at h
  split at h
  · rename_i pc ls st S hR
    rw [Bool.and_eq_true, Bool.and_eq_true, Bool.and_eq_true] at h
    obtain ⟨h1, h2, h3, h4⟩ := h
    have e1 := ew_beq h1
    have e2 := cx_eql_ok h2
    cases st with
    | nil =>
      subst e1; subst e2
      exact ⟨S, hR, h4⟩
    | cons a l => cases h3
  · cases h
