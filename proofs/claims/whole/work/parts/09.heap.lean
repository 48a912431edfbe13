/-! The class's objects: all references stand from the start, all else is numbers: s k p i is the number in place p of object i of kind k. -/
/-- what place p of a kind holds: a number (some none), object (k', g) (some (some ..)), or it is none of the class's -/
def ew_sh (k p : Nat) : Option (Option (Nat × Nat)) :=
  bif Nat.blt k 25 then
    (bif Nat.blt k 12 then
      (bif Nat.beq k 3 then (bif Nat.beq p 0 then some (some (8, 0)) else some none)
      else bif Nat.beq k 4 then some none
      else bif Nat.beq k 5 then (bif Nat.beq p 0 then some (some (209, 0)) else some (some (241, 0)))
      else bif Nat.beq k 6 then (bif Nat.beq p 0 then some (some (81, 0)) else bif Nat.beq p 1 then some (some (113, 0)) else bif Nat.beq p 2 then some (some (18, 0)) else some none)
      else bif Nat.beq k 7 then (bif Nat.beq p 0 then some (some (23, 0)) else some none)
      else bif Nat.beq k 8 then (bif Nat.beq p 0 then some (some (145, 0)) else some none)
      else bif Nat.beq k 9 then (bif Nat.beq p 0 then some (some (22, 0)) else bif Nat.beq p 1 then some (some (21, 0)) else bif Nat.beq p 2 then some (some (24, 0)) else some none)
      else bif Nat.beq k 10 then (bif Nat.beq p 0 then some (some (40, 0)) else bif Nat.beq p 1 then some (some (177, 0)) else some none)
      else bif Nat.beq k 11 then (bif Nat.beq p 0 then some (some (7, 1)) else bif Nat.beq p 1 then some (some (9, 1)) else bif Nat.beq p 2 then some (some (9, 2)) else some (some (5, 1)))
      else none)
    else (bif Nat.beq k 18 then some none
      else bif Nat.beq k 21 then some (some (3, 3))
      else bif Nat.beq k 22 then some (some (4, 4))
      else bif Nat.beq k 23 then some (some (6, 5))
      else bif Nat.beq k 24 then some (some (10, 6))
      else none))
  else (bif Nat.beq k 40 then (bif Nat.beq p 0 then some (some (593, 0)) else some none)
    else bif Nat.beq k 81 || Nat.beq k 113 || Nat.beq k 145 || Nat.beq k 177 || Nat.beq k 209 || Nat.beq k 241 || Nat.beq k 593 then some none
    else none)
def ew_gi (c i p : Nat) : Nat := bif Nat.beq c 0 then i else bif Nat.beq c 1 then 0 else bif Nat.beq c 2 then 1 else bif Nat.beq c 3 then p + 2 * i else bif Nat.beq c 4 then p + 15 * i else bif Nat.beq c 5 then p + 3 * i else p + 5 * i
def ew_hq (s : Nat → Nat → Nat → Int32) (t : Nat → Nat → Nat → ew_V) (k i p : Nat) : ew_V := match ew_sh k p with
  | none => t k i p
  | some none => ew_i (s k p i)
  | some (some (k', c)) => ew_o k' (ew_gi c i p)
def ew_hp (s : Nat → Nat → Nat → Int32) (m : ew_H) : ew_H := (ew_hq s m.1, m.2)
def ew_u (s : Nat → Nat → Nat → Int32) (k p i : Nat) (x : Int32) : Nat → Nat → Nat → Int32 := fun k' p' i' => bif Nat.beq k' k && (Nat.beq p' p && Nat.beq i' i) then x else s k' p' i'
theorem ew_beq {a b : Nat} (h : Nat.beq a b = true) : a = b := Nat.eq_of_beq_eq_true h
theorem ew_mg_eq (b : Bool) (v w : ew_V) : ew_mg b v w = bif b then v else w := by
  unfold ew_mg
  rcases v with v | ⟨k, i⟩
  · cases v <;> rcases w with w | w <;> cases b <;> first | rfl | (cases w <;> rfl)
  · rcases w with w | ⟨k', i'⟩
    · rfl
    · dsimp only
      cases hk : Nat.beq k k' with
      | false => rfl
      | true =>
        have e := Nat.eq_of_beq_eq_true hk
        subst e
        cases b <;> rfl
theorem ew_hp_put {s : Nat → Nat → Nat → Int32} {m : ew_H} {k i p : Nat} {x : Int32} (h : ew_sh k p = some none) : ew_put (ew_hp s m) k i p (ew_i x) = ew_hp (ew_u s k p i x) m := by
  unfold ew_put ew_hp
  refine Prod.ext ?_ rfl
  funext k' i' p'
  dsimp only
  cases hk : Nat.beq k' k with
  | false =>
    rw [cond_false]
    unfold ew_hq
    simp only [ew_u, hk, Bool.false_and, cond_false]
  | true =>
    have e := ew_beq hk
    subst e
    rw [cond_true, ew_mg_eq]
    cases hp : Nat.beq p' p with
    | false =>
      rw [Bool.false_and, cond_false]
      unfold ew_hq
      simp only [ew_u, hk, hp, Bool.false_and, Bool.and_false, cond_false]
    | true =>
      have e := ew_beq hp
      subst e
      unfold ew_hq
      rw [h]
      simp only [ew_u, hk, hp, Bool.true_and]
      cases Nat.beq i' i <;> rfl
theorem zz_worth (d : Nat) (s : Nat → Nat → Nat → Int32) (m : ew_H) (i : Nat) (K : ew_R → ew_H → Prop) (k : K (.inl (some (ew_i ((if s 4 2 i ≤ 0 then s 4 0 i else s 4 0 i / 4) + 5 * s 4 1 i)))) (ew_hp s m)) : ew_Call (d + 1) 4 [ew_o 4 i] (ew_hp s m) K := by
  refine ew_call (ew_go (fun _ => false) 40 ⟨fun c => ?_, fun c => ?_⟩)
  · have c : s 4 2 i ≤ 0 := c
    rw [if_pos c] at k
    exact ⟨trivial, k⟩
  · have c : ¬ s 4 2 i ≤ 0 := c
    rw [if_neg c] at k
    exact ⟨by decide, trivial, k⟩
theorem zz_freeze (d : Nat) (s : Nat → Nat → Nat → Int32) (m : ew_H) (i : Nat) (x : Int32) (K : ew_R → ew_H → Prop)
  (k : K (.inl (some (ew_i (if s 4 3 i = 0 then if ¬ 300 ≤ s 4 0 i then ew_min x (300 - s 4 0 i) else 0 else 0)))) (ew_hp (if s 4 3 i = 0 then if ¬ 300 ≤ s 4 0 i then ew_u s 4 0 i (s 4 0 i + ew_min x (300 - s 4 0 i)) else s else s) m)) : ew_Call (d + 1) 10 [ew_o 4 i, ew_i x] (ew_hp s m) K := by
  refine ew_call (ew_go (fun _ => false) 40 ⟨fun c => ?_, fun c => ?_⟩)
  · have c : ¬ s 4 3 i = 0 := c
    rw [if_neg c, if_neg c] at k
    exact ⟨trivial, k⟩
  · have c : ¬ ¬ s 4 3 i = 0 := c
    rw [if_pos (Classical.not_not.mp c), if_pos (Classical.not_not.mp c)] at k
    refine ⟨fun e => ?_, fun e => ?_⟩
    · have e : s 4 0 i < 300 := e
      sorry
    · sorry
