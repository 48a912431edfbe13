/-! Constructors by computing: what was made and written, as a list, over any heap. -/
abbrev cx_U : Type := (Nat × Nat × Nat × Nat) ⊕ (Nat × Nat × Nat × ew_V)
def cx_z (c : Nat) : Nat → ew_V := bif Nat.blt c 17 then et_dv c else bif Nat.beq c 100 then (fun _ => ew_i 0) else bif Nat.beq c 101 then (fun _ => ew_j 0) else (fun _ => ew_0)
def cx_ap (h0 : ew_H) : List cx_U → ew_H
  | [] => h0
  | .inl (k, i, N, c) :: S => ew_mk (cx_ap h0 S) k i N (cx_z c)
  | .inr (k, i, p, v) :: S => ew_put (cx_ap h0 S) k i p v
def cx_rd : List cx_U → Nat → Nat → Nat → Option ew_V
  | [], _, _, _ => none
  | .inl (k, i, _, c) :: S, k', i', p' => bif Nat.beq k' k && Nat.beq i' i then some (cx_z c p') else cx_rd S k' i' p'
  | .inr (k, i, p, v) :: S, k', i', p' => bif Nat.beq k' k && (Nat.beq p' p && Nat.beq i' i) then some v else cx_rd S k' i' p'
def cx_ln : List cx_U → Nat → Nat → Option Nat
  | [], _, _ => none
  | .inl (k, i, N, _) :: S, k', i' => bif Nat.beq k' k && Nat.beq i' i then some N else cx_ln S k' i'
  | .inr (_, _, _, _) :: S, k', i' => cx_ln S k' i'
def cx_cn : List cx_U → Nat → Nat
  | [], _ => 0
  | .inl (k, _, _, _) :: S, k' => bif Nat.beq k' k then cx_cn S k' + 1 else cx_cn S k'
  | .inr (_, _, _, _) :: S, k' => cx_cn S k'
section
variable {h0 : ew_H}
theorem cx_rd_some : ∀ (S : List cx_U) {k i p : Nat} {v : ew_V}, cx_rd S k i p = some v → (cx_ap h0 S).1 k i p = v
  | [], k, i, p, v, h => by cases h
  | .inl (k', i', N, c) :: S, k, i, p, v, h => by
    show (bif Nat.beq k k' then (bif Nat.beq i i' then cx_z c p else (cx_ap h0 S).1 k i p) else (cx_ap h0 S).1 k i p) = v
    have h : (bif Nat.beq k k' && Nat.beq i i' then some (cx_z c p) else cx_rd S k i p) = some v := h
    cases h1 : Nat.beq k k' with
    | false => rw [h1, Bool.false_and, cond_false] at h; rw [cond_false]; exact cx_rd_some S h
    | true =>
      rw [h1, Bool.true_and] at h
      rw [cond_true]
      cases h2 : Nat.beq i i' with
      | false => rw [h2, cond_false] at h; rw [cond_false]; exact cx_rd_some S h
      | true => rw [h2, cond_true] at h; rw [cond_true]; exact Option.some.inj h
  | .inr (k', i', p', w) :: S, k, i, p, v, h => by
    show (bif Nat.beq k k' then ew_mg (Nat.beq p p' && Nat.beq i i') w ((cx_ap h0 S).1 k i p) else (cx_ap h0 S).1 k i p) = v
    have h : (bif Nat.beq k k' && (Nat.beq p p' && Nat.beq i i') then some w else cx_rd S k i p) = some v := h
    rw [ew_mg_eq]
    cases h1 : Nat.beq k k' with
    | false => rw [h1, Bool.false_and, cond_false] at h; rw [cond_false]; exact cx_rd_some S h
    | true =>
      rw [h1, Bool.true_and] at h
      rw [cond_true]
      cases h2 : Nat.beq p p' && Nat.beq i i' with
      | false => rw [h2, cond_false] at h; rw [cond_false]; exact cx_rd_some S h
      | true => rw [h2, cond_true] at h; rw [cond_true]; exact Option.some.inj h
theorem cx_rd_none : ∀ (S : List cx_U) {k i p : Nat}, cx_rd S k i p = none → (cx_ap h0 S).1 k i p = h0.1 k i p
  | [], k, i, p, _ => rfl
  | .inl (k', i', N, c) :: S, k, i, p, h => by
    show (bif Nat.beq k k' then (bif Nat.beq i i' then cx_z c p else (cx_ap h0 S).1 k i p) else (cx_ap h0 S).1 k i p) = h0.1 k i p
    have h : (bif Nat.beq k k' && Nat.beq i i' then some (cx_z c p) else cx_rd S k i p) = none := h
    cases h1 : Nat.beq k k' with
    | false => rw [h1, Bool.false_and, cond_false] at h; rw [cond_false]; exact cx_rd_none S h
    | true =>
      rw [h1, Bool.true_and] at h
      rw [cond_true]
      cases h2 : Nat.beq i i' with
      | false => rw [h2, cond_false] at h; rw [cond_false]; exact cx_rd_none S h
      | true => rw [h2, cond_true] at h; cases h
  | .inr (k', i', p', w) :: S, k, i, p, h => by
    show (bif Nat.beq k k' then ew_mg (Nat.beq p p' && Nat.beq i i') w ((cx_ap h0 S).1 k i p) else (cx_ap h0 S).1 k i p) = h0.1 k i p
    have h : (bif Nat.beq k k' && (Nat.beq p p' && Nat.beq i i') then some w else cx_rd S k i p) = none := h
    rw [ew_mg_eq]
    cases h1 : Nat.beq k k' with
    | false => rw [h1, Bool.false_and, cond_false] at h; rw [cond_false]; exact cx_rd_none S h
    | true =>
      rw [h1, Bool.true_and] at h
      rw [cond_true]
      cases h2 : Nat.beq p p' && Nat.beq i i' with
      | false => rw [h2, cond_false] at h; rw [cond_false]; exact cx_rd_none S h
      | true => rw [h2, cond_true] at h; cases h
theorem cx_ln_some : ∀ (S : List cx_U) {k i N : Nat}, cx_ln S k i = some N → (cx_ap h0 S).2.1 k i = N
  | [], k, i, N, h => by cases h
  | .inl (k', i', N', c) :: S, k, i, N, h => by
    show (bif Nat.beq k k' then (bif Nat.beq i i' then N' else (cx_ap h0 S).2.1 k i) else (cx_ap h0 S).2.1 k i) = N
    have h : (bif Nat.beq k k' && Nat.beq i i' then some N' else cx_ln S k i) = some N := h
    cases h1 : Nat.beq k k' with
    | false => rw [h1, Bool.false_and, cond_false] at h; rw [cond_false]; exact cx_ln_some S h
    | true =>
      rw [h1, Bool.true_and] at h
      rw [cond_true]
      cases h2 : Nat.beq i i' with
      | false => rw [h2, cond_false] at h; rw [cond_false]; exact cx_ln_some S h
      | true => rw [h2, cond_true] at h; rw [cond_true]; exact Option.some.inj h
  | .inr (k', i', p', w) :: S, k, i, N, h => cx_ln_some S (k := k) (i := i) h
theorem cx_ln_none : ∀ (S : List cx_U) {k i : Nat}, cx_ln S k i = none → (cx_ap h0 S).2.1 k i = h0.2.1 k i ∧ (cx_ap h0 S).2.2.1 k i = h0.2.2.1 k i
  | [], k, i, _ => ⟨rfl, rfl⟩
  | .inl (k', i', N', c) :: S, k, i, h => by
    show (bif Nat.beq k k' then (bif Nat.beq i i' then N' else (cx_ap h0 S).2.1 k i) else (cx_ap h0 S).2.1 k i) = h0.2.1 k i ∧ (bif Nat.beq k k' then (bif Nat.beq i i' then true else (cx_ap h0 S).2.2.1 k i) else (cx_ap h0 S).2.2.1 k i) = h0.2.2.1 k i
    have h : (bif Nat.beq k k' && Nat.beq i i' then some N' else cx_ln S k i) = none := h
    cases h1 : Nat.beq k k' with
    | false => rw [h1, Bool.false_and, cond_false] at h; rw [cond_false, cond_false]; exact cx_ln_none S h
    | true =>
      rw [h1, Bool.true_and] at h
      rw [cond_true, cond_true]
      cases h2 : Nat.beq i i' with
      | false => rw [h2, cond_false] at h; rw [cond_false, cond_false]; exact cx_ln_none S h
      | true => rw [h2, cond_true] at h; cases h
  | .inr (k', i', p', w) :: S, k, i, h => cx_ln_none S (k := k) (i := i) h
theorem cx_ln_fl : ∀ (S : List cx_U) {k i N : Nat}, cx_ln S k i = some N → (cx_ap h0 S).2.2.1 k i = true
  | [], k, i, N, h => by cases h
  | .inl (k', i', N', c) :: S, k, i, N, h => by
    show (bif Nat.beq k k' then (bif Nat.beq i i' then true else (cx_ap h0 S).2.2.1 k i) else (cx_ap h0 S).2.2.1 k i) = true
    have h : (bif Nat.beq k k' && Nat.beq i i' then some N' else cx_ln S k i) = some N := h
    cases h1 : Nat.beq k k' with
    | false => rw [h1, Bool.false_and, cond_false] at h; rw [cond_false]; exact cx_ln_fl S h
    | true =>
      rw [h1, Bool.true_and] at h
      rw [cond_true]
      cases h2 : Nat.beq i i' with
      | false => rw [h2, cond_false] at h; rw [cond_false]; exact cx_ln_fl S h
      | true => rfl
  | .inr (k', i', p', w) :: S, k, i, N, h => cx_ln_fl S (k := k) (i := i) h
theorem cx_cn_ok (hz : ∀ k, h0.2.2.2.1 k = 0) : ∀ (S : List cx_U) (k : Nat), (cx_ap h0 S).2.2.2.1 k = cx_cn S k
  | [], k => hz k
  | .inl (k', i', N', c) :: S, k => by
    show (bif Nat.beq k k' then (cx_ap h0 S).2.2.2.1 k + 1 else (cx_ap h0 S).2.2.2.1 k) = (bif Nat.beq k k' then cx_cn S k + 1 else cx_cn S k)
    rw [cx_cn_ok hz S k]
  | .inr (k', i', p', w) :: S, k => cx_cn_ok hz S k
end
/-! One step. -/
abbrev cx_C : Type := Nat × List (Option ew_V) × List ew_V × List cx_U
abbrev cx_N : Type := Option (cx_C ⊕ Unit ⊕ (Nat × ew_V × List ew_V × Nat))
abbrev cxG (c : cx_C) : cx_N := some (.inl c)
def cx_hD : ew_H := (fun _ _ _ => ew_0, fun _ _ => 0, fun _ _ => false, fun _ => 0, 0, 0)
/-- steps that neither read nor write objects -/
def cx_fr (i : Instr) : Bool := match i with
  | .iconst _ => true
  | .bipush _ => true
  | .aload_n _ => true
  | .iload_n _ => true
  | .iload _ => true
  | .istore_n _ => true
  | .istore _ => true
  | .astore_n _ => true
  | .dup => true
  | .goto _ => true
  | .iinc _ _ => true
  | .getstatic _ => true
  | _ => false
def cx_rh (h : ew_H) (n : ew_N) : ew_N := match n with
  | some (.inl c) => ewG (c.1, c.2.1, c.2.2.1, h)
  | _ => none
def cx_fit (t : Nat) (v : ew_V) : Bool := match t, v with
  | 0, .inl (.int _) => true
  | 1, .inl (.int x) => decide (x = 0 ∨ x = 1)
  | 2, .inr q => !(Nat.beq q.1 31 || (Nat.beq q.1 17 || Nat.beq q.1 49))
  | 2, .inl .null => true
  | 3, .inl (.long _) => true
  | _, _ => false
theorem cx_fit_ok {t : Nat} {v : ew_V} (h : cx_fit t v = true) : ew_fit t v := by
  unfold cx_fit at h
  split at h
  · trivial
  · rename_i x
    exact (of_decide_eq_true h : x = 0 ∨ x = 1)
  · exact (Bool.not_eq_true' _).mp h
  · trivial
  · trivial
  · cases h
def cx_na (k : Nat) (n : Int32) (c : Nat) (nx : Nat) (ls : List (Option ew_V)) (st : List ew_V) (S : List cx_U) : cx_N :=
  bif decide (¬ n < 0 ∧ n.toNatClampNeg ≤ 1000000 ∧ ew_sl k n.toNatClampNeg = n.toNatClampNeg) then cxG (nx, ls, ew_o k (cx_cn S k) :: st, .inl (k, (cx_cn S k), n.toNatClampNeg, c) :: S) else none
def cx_st (y cl : Nat) (i : Instr) (pc nx tg : Nat) (cv : Int32) (ls : List (Option ew_V)) (st : List ew_V) (S : List cx_U) : cx_N :=
  bif cx_fr i then (match ew_st y cl i pc nx tg cv ls st cx_hD with
    | some (.inl c) => cxG (c.1, c.2.1, c.2.2.1, S)
    | _ => none) else match i, st with
  | .if_icmp .ge _, .inl (.int b) :: .inl (.int a) :: st => bif decide (b ≤ a) then cxG (tg, ls, st, S) else cxG (nx, ls, st, S)
  | .getfield n, .inr (k, i) :: st => match et_fd cl n with
    | some (c, s, _) => bif Nat.beq (ew_ct k) c then (match cx_rd S k i s with
      | some v => cxG (nx, ls, v :: st, S)
      | none => none) else none
    | none => none
  | .putfield n, v :: .inr (k, i) :: st => match et_fd cl n with
    | some (c, s, t) => bif (Nat.beq (ew_ct k) c && !et_fn cl n && !ew_cst k && (!et_fin c s || (et_ini y && Nat.beq cl c))) && cx_fit t v then cxG (nx, ls, st, .inr (k, i, s, v) :: S) else none
    | none => none
  | .arraylength, .inr (k, i) :: st => bif Nat.ble 17 (ew_ct k) && Nat.blt (ew_ct k) 25 then (match cx_ln S k i with
      | some N => cxG (nx, ls, ew_i (Int32.ofNat (ew_sl k N)) :: st, S)
      | none => none) else none
  | .aastore, v :: .inl (.int j) :: .inr (k, i) :: st => match cx_ln S k i with
      | some N => bif (!ew_cst k && (Nat.ble 20 (ew_ct k) && Nat.blt (ew_ct k) 25 && ew_asg k v)) && (decide (¬ (j < 0 ∨ ew_sl k N ≤ j.toNatClampNeg)) && cx_fit 2 v) then cxG (nx, ls, st, .inr (k, i, j.toNatClampNeg, v) :: S) else none
      | none => none
  | .new n, st => match et_nw cl n with
    | some c => bif Nat.blt c 17 && (Nat.beq (ew_ct (et_si y pc)) c && ew_ctr (et_si y pc)) then cxG (nx, ls, ew_o (et_si y pc) (cx_cn S (et_si y pc)) :: st, .inl ((et_si y pc), (cx_cn S (et_si y pc)), (et_N c), c) :: S) else none
    | none => none
  | .newarray .int, .inl (.int n) :: st => bif Nat.beq (ew_ct (ew_kn y (et_si y pc) ls)) 17 && ew_ctr (ew_kn y (et_si y pc) ls) then cx_na (ew_kn y (et_si y pc) ls) n 100 nx ls st S else none
  | .newarray .boolean, .inl (.int n) :: st => bif Nat.beq (ew_ct (et_si y pc)) 18 && ew_ctr (et_si y pc) then cx_na (et_si y pc) n 100 nx ls st S else none
  | .anewarray m, .inl (.int n) :: st => match et_nw cl m with
    | some c => bif (Nat.ble 20 (ew_ct (et_si y pc)) && Nat.blt (ew_ct (et_si y pc)) 25 && Nat.beq c (ew_cl (ew_ct (et_si y pc)))) && ew_ctr (et_si y pc) then cx_na (et_si y pc) n 102 nx ls st S else none
    | none => none
  | .invokespecial n, .inr (k, i) :: rest => match et_md cl n with
    | some (z, a, _) => bif Nat.beq a 0 then (bif Nat.beq z 904 then (bif Nat.ble (ew_cats rest) 8 then cxG (nx, ls, rest, S) else none)
        else bif Nat.beq (et_kd z) 2 && Nat.ble (ew_cats rest) 8 then some (.inr (.inr (z, .inr (k, i), rest, nx))) else none) else none
    | none => none
  | .return_, [] => some (.inr (.inl ()))
  | _, _ => none
/-- what one step of the small machine may be, when it goes to c -/
def cx_J (n : ew_N) (c : ew_C) : Prop := n = ewG c ∨ (∃ p, p ∧ n = ewN p c) ∨ (∃ p a, p ∧ n = ewB p c a) ∨ ∃ p a, ¬ p ∧ n = ewB p a c
def cx_c (h0 : ew_H) (c : cx_C) : ew_C := (c.1, c.2.1, c.2.2.1, cx_ap h0 c.2.2.2)
theorem cx_J.G {C : Nat → List ew_V → ew_H → (ew_R → ew_H → Prop) → Prop} {y pc nx tg : Nat} {cv : Int32} {i : Instr} {ls : List (Option ew_V)} {st : List ew_V} {h : ew_H} {c : ew_C} {P : ew_C → Prop} {K : ew_R → ew_H → Prop} (hp : ew_pg y pc = some (i, nx, tg, cv)) (j : cx_J (ew_st y (et_cls y) i pc nx tg cv ls st h) c) (g : P c) : ew_G C y P K (pc, ls, st, h) := by
  unfold ew_G
  dsimp only
  rw [hp]
  dsimp only
  rcases j with e | ⟨p, hp, e⟩ | ⟨p, a, hp, e⟩ | ⟨p, a, hp, e⟩ <;> rw [e]
  · exact g
  · exact ⟨hp, g⟩
  · exact ⟨fun _ => g, fun w => absurd hp w⟩
  · exact ⟨fun w => absurd w hp, fun _ => g⟩
section
variable {y cl pc nx tg : Nat} {cv : Int32} {ls : List (Option ew_V)} {st : List ew_V} {h h' : ew_H} {i : Instr}
theorem cx_ld (t k : Nat) : ew_ld t ls st h nx k = cx_rh h (ew_ld t ls st h' nx k) := by
  unfold ew_ld
  split
  · rename_i v _
    cases Nat.beq (ew_tag v) t <;> rfl
  · rfl
theorem cx_sto (t k : Nat) : ew_sto t ls st h nx k = cx_rh h (ew_sto t ls st h' nx k) := by
  unfold ew_sto
  split
  · rename_i v _
    cases Nat.beq (ew_tag v) t
    · rfl
    · rw [cond_true, cond_true]
      cases Nat.beq t 0 || Nat.beq t 3
      · rw [cond_false, cond_false]
        cases Nat.blt (k + 1) ls.length <;> rfl
      · rw [cond_true, cond_true]
        cases Nat.blt k ls.length <;> rfl
  · rfl
theorem cx_fr_ok (hi : cx_fr i = true) : ew_st y cl i pc nx tg cv ls st h = cx_rh h (ew_st y cl i pc nx tg cv ls st h') := by
  cases i <;> first | exact Bool.noConfusion hi | exact cx_ld _ _ | exact cx_sto _ _ | rfl | skip
  case iinc n q =>
    simp only [ew_st]
    split
    · cases Nat.blt n ls.length <;> rfl
    · rfl
  case dup =>
    simp only [ew_st]
    split
    · rename_i v _
      cases Nat.beq (ew_cat v) 1 <;> rfl
    · rfl
end
