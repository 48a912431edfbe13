/-! The objects of both programs: references that stand are a shape, numbers are s k p i: the number in place p of object i of kind k; what varies lies in m. -/
/-- what place p of a kind holds: a number (some none), an object by its kind and rule (some (some ..)), or what m holds (none) -/
def ew_sh (k p : Nat) : Option (Option (Nat × Nat)) :=
  bif Nat.blt k 25 then
    (bif Nat.blt k 12 then
      (bif Nat.beq k 0 then some none
      else bif Nat.beq k 1 then (bif Nat.beq p 3 then none else some none)
      else bif Nat.beq k 2 then (bif Nat.beq p 1 then none else some none)
      else bif Nat.beq k 3 then (bif Nat.beq p 0 then some (some (8, 0)) else some none)
      else bif Nat.beq k 4 then some none
      else bif Nat.beq k 5 then (bif Nat.beq p 0 then some (some (209, 0)) else some (some (241, 0)))
      else bif Nat.beq k 6 then (bif Nat.beq p 0 then some (some (81, 0)) else bif Nat.beq p 1 then some (some (113, 0)) else bif Nat.beq p 2 then some (some (18, 0)) else some none)
      else bif Nat.beq k 7 then (bif Nat.beq p 0 then some (some (23, 0)) else some none)
      else bif Nat.beq k 8 then (bif Nat.beq p 0 then some (some (145, 0)) else some none)
      else bif Nat.beq k 9 then (bif Nat.beq p 0 then some (some (22, 0)) else bif Nat.beq p 1 then some (some (21, 0)) else bif Nat.beq p 2 then some (some (24, 0)) else some none)
      else bif Nat.beq k 10 then (bif Nat.beq p 0 then some (some (40, 0)) else bif Nat.beq p 1 then some (some (177, 0)) else some none)
      else bif Nat.beq k 11 then (bif Nat.beq p 0 then some (some (7, 1)) else bif Nat.beq p 1 then some (some (9, 1)) else bif Nat.beq p 2 then some (some (9, 2)) else some (some (5, 1)))
      else none)
    else (bif Nat.beq k 12 then (bif Nat.beq p 5 then some (some (98, 0)) else some none)
      else bif Nat.beq k 13 then (bif Nat.beq p 0 then some none else bif Nat.beq p 1 then some (some (162, 0)) else bif Nat.beq p 2 then some (some (82, 0)) else some none)
      else bif Nat.beq k 14 then (bif Nat.blt p 2 then some none else bif Nat.beq p 2 then some (some (273, 0)) else bif Nat.beq p 3 then some (some (305, 0)) else bif Nat.beq p 4 then some (some (337, 0)) else bif Nat.beq p 5 then some (some (50, 0)) else bif Nat.beq p 6 then some (some (2, 0)) else bif Nat.beq p 7 then some (some (34, 0)) else bif Nat.beq p 8 then some (some (66, 0)) else some none)
      else bif Nat.beq k 15 then (bif Nat.beq p 9 then some (some (369, 0)) else bif Nat.beq p 10 then some (some (130, 0)) else some none)
      else bif Nat.beq k 16 then (bif Nat.beq p 0 then some none else some (some (14, 0)))
      else bif Nat.beq k 17 || Nat.beq k 18 then some none
      else bif Nat.beq k 21 then some (some (3, 3))
      else bif Nat.beq k 22 then some (some (4, 4))
      else bif Nat.beq k 23 then some (some (6, 5))
      else bif Nat.beq k 24 then some (some (10, 6))
      else none))
  else (bif Nat.beq k 34 || Nat.beq k 66 || Nat.beq k 98 || Nat.beq k 130 || Nat.beq k 162 then (bif Nat.beq p 1 then none else some none)
    else bif Nat.beq k 40 then (bif Nat.beq p 0 then some (some (593, 0)) else some none)
    else bif Nat.beq k 49 || Nat.beq k 50 || Nat.beq k 81 || Nat.beq k 82 || Nat.beq k 113 || Nat.beq k 145 || Nat.beq k 177 || Nat.beq k 209 || Nat.beq k 241 || Nat.beq k 593 then some none
    else bif Nat.beq k 273 || Nat.beq k 305 || Nat.beq k 337 || Nat.beq k 369 || Nat.beq k 401 || Nat.beq k 433 || Nat.beq k 465 || Nat.beq k 497 || Nat.beq k 529 || Nat.beq k 561 || Nat.beq k 625 || Nat.beq k 657 || Nat.beq k 689 || Nat.beq k 721 then some none
    else none)
/-- a place within an array of n places -/
def ew_wi (n p : Nat) : Nat := bif Nat.blt p n then p else 0
theorem ew_wi_lt {n p : Nat} (h : p < n) : ew_wi n p = p := by
  unfold ew_wi
  rw [show Nat.blt p n = true from Nat.ble_eq_true_of_le h]
  rfl
def ew_gi (c i p : Nat) : Nat := bif Nat.beq c 0 then i else bif Nat.beq c 1 then 0 else bif Nat.beq c 2 then 1 else bif Nat.beq c 3 then ew_wi 2 p + 2 * i else bif Nat.beq c 4 then ew_wi 15 p + 15 * i else bif Nat.beq c 5 then ew_wi 3 p + 3 * i else ew_wi 5 p + 5 * i
def ew_hq (s : Nat → Nat → Nat → Int32) (t : Nat → Nat → Nat → ew_V) (k i p : Nat) : ew_V := match ew_sh k p with
  | none => t k i p
  | some none => ew_i (s k p i)
  | some (some (k', c)) => ew_o k' (ew_gi c i p)
def ew_hp (s : Nat → Nat → Nat → Int32) (m : ew_H) : ew_H := (ew_hq s m.1, m.2)
def ew_u (s : Nat → Nat → Nat → Int32) (k p i : Nat) (x : Int32) : Nat → Nat → Nat → Int32 := fun k' p' i' => bif Nat.beq k' k && (Nat.beq p' p && Nat.beq i' i) then x else s k' p' i'
theorem ew_hp_put {s : Nat → Nat → Nat → Int32} {m : ew_H} {k i p : Nat} {x : Int32} (h : ew_sh k p = some none) : ew_put (ew_hp s m) k i p (ew_i x) = ew_hp (ew_u s k p i x) m := by
  unfold ew_put ew_hp
  refine Prod.ext ?_ rfl
  funext k' i' p'
  dsimp only
  cases hk : Nat.beq k' k with
  | false =>
    rw [cond_false]
    unfold ew_hq
    simp only [ew_u, hk, Bool.false_and, cond_false]
  | true =>
    have e := ew_beq hk
    subst e
    rw [cond_true, ew_mg_eq]
    cases hp : Nat.beq p' p with
    | false =>
      rw [Bool.false_and, cond_false]
      unfold ew_hq
      simp only [ew_u, hk, hp, Bool.false_and, Bool.and_false, cond_false]
    | true =>
      have e := ew_beq hp
      subst e
      unfold ew_hq
      rw [h]
      simp only [ew_u, hk, hp, Bool.true_and]
      cases Nat.beq i' i <;> rfl
theorem ek_p {s : Nat → Nat → Nat → Int32} {m : ew_H} {k i p : Nat} {x : Int32} {K : ew_R → ew_H → Prop} {r : ew_R} (h : ew_sh k p = some none) (g : K r (ew_hp (ew_u s k p i x) m)) : K r (ew_put (ew_hp s m) k i p (ew_i x)) := by
  rw [ew_hp_put h]; exact g
theorem ek_2 {s : Nat → Nat → Nat → Int32} {m : ew_H} {k i p k2 i2 p2 : Nat} {x x2 : Int32} {K : ew_R → ew_H → Prop} {r : ew_R} (h : ew_sh k p = some none) (h2 : ew_sh k2 p2 = some none) (g : K r (ew_hp (ew_u (ew_u s k p i x) k2 p2 i2 x2) m)) : K r (ew_put (ew_put (ew_hp s m) k i p (ew_i x)) k2 i2 p2 (ew_i x2)) := by
  rw [ew_hp_put h, ew_hp_put h2]; exact g
theorem ek_3 {s : Nat → Nat → Nat → Int32} {m : ew_H} {k i p k2 i2 p2 k3 i3 p3 : Nat} {x x2 x3 : Int32} {K : ew_R → ew_H → Prop} {r : ew_R} (h : ew_sh k p = some none) (h2 : ew_sh k2 p2 = some none) (h3 : ew_sh k3 p3 = some none) (g : K r (ew_hp (ew_u (ew_u (ew_u s k p i x) k2 p2 i2 x2) k3 p3 i3 x3) m)) : K r (ew_put (ew_put (ew_put (ew_hp s m) k i p (ew_i x)) k2 i2 p2 (ew_i x2)) k3 i3 p3 (ew_i x3)) := by
  rw [ew_hp_put h, ew_hp_put h2, ew_hp_put h3]; exact g
abbrev ew_S : Type := Nat → Nat → Nat → Int32
section
variable {d : Nat} {s : ew_S} {m : ew_H} {K : ew_R → ew_H → Prop}
/-! The class's cells. -/
theorem xc_worth (i : Nat) (k : K (.inl (some (ew_i ((if s 4 2 i ≤ 0 then s 4 0 i else s 4 0 i / 4) + 5 * s 4 1 i)))) (ew_hp s m)) : ew_Call (d + 1) 4 [ew_o 4 i] (ew_hp s m) K := by
  refine ew_call (ew_go (fun _ => false) 40 ⟨fun c => ?_, fun c => ?_⟩)
  · have c : s 4 2 i ≤ 0 := c
    rw [if_pos c] at k
    exact ⟨trivial, k⟩
  · have c : ¬ s 4 2 i ≤ 0 := c
    rw [if_neg c] at k
    exact ⟨by decide, trivial, k⟩
theorem xc_worthInChannel (i : Nat) (k : K (.inl (some (ew_i (s 4 0 i / 4 + 5 * s 4 1 i)))) (ew_hp s m)) : ew_Call (d + 1) 5 [ew_o 4 i] (ew_hp s m) K :=
  ew_call (ew_go (fun _ => false) 40 ⟨by decide, trivial, k⟩)
theorem xc_worthUnbroken (i : Nat) (k : K (.inl (some (ew_i (s 4 0 i + 5 * s 4 1 i)))) (ew_hp s m)) : ew_Call (d + 1) 6 [ew_o 4 i] (ew_hp s m) K :=
  ew_call (ew_go (fun _ => false) 40 ⟨trivial, k⟩)
theorem xc_giveTenthTo (i j : Nat) (k : K (.inl none) (ew_hp (if s 4 3 j = 0 then ew_u (ew_u s 4 4 i (s 4 4 i - s 4 0 i / 10)) 4 4 j (ew_u s 4 4 i (s 4 4 i - s 4 0 i / 10) 4 4 j + s 4 0 i / 10) else s) m)) : ew_Call (d + 1) 8 [ew_o 4 i, ew_o 4 j] (ew_hp s m) K := by
  refine ew_call (ew_go (fun _ => false) 40 ⟨fun c => ?_, fun c => ?_⟩)
  · have c : ¬ s 4 3 j = 0 := c
    rw [if_neg c] at k
    exact ⟨trivial, k⟩
  · have c : ¬ ¬ s 4 3 j = 0 := c
    rw [if_pos (Classical.not_not.mp c)] at k
    exact ⟨by decide, trivial, trivial, trivial, ek_2 rfl rfl k⟩
theorem xc_settleDrift (i : Nat) (k : K (.inl none) (ew_hp (ew_u (ew_u (ew_u s 4 0 i (s 4 0 i + s 4 4 i)) 4 1 i (ew_max 0 (s 4 4 i))) 4 4 i 0) m)) : ew_Call (d + 1) 9 [ew_o 4 i] (ew_hp s m) K :=
  ew_call (ew_go (fun _ => false) 40 ⟨trivial, trivial, trivial, trivial, ek_3 rfl rfl rfl k⟩)
theorem xc_freeze (i : Nat) (x : Int32) (k : K (.inl (some (ew_i (if s 4 3 i = 0 ∧ s 4 0 i < 300 then ew_min x (300 - s 4 0 i) else 0)))) (ew_hp (if s 4 3 i = 0 ∧ s 4 0 i < 300 then ew_u s 4 0 i (s 4 0 i + ew_min x (300 - s 4 0 i)) else s) m)) : ew_Call (d + 1) 10 [ew_o 4 i, ew_i x] (ew_hp s m) K := by
  refine ew_call (ew_go (fun _ => false) 40 ⟨fun c => ?_, fun c => ⟨fun e => ?_, fun e => ?_⟩⟩)
  · have c : ¬ s 4 3 i = 0 := c
    rw [if_neg (fun q => c q.1), if_neg (fun q => c q.1)] at k
    exact ⟨trivial, k⟩
  · have c : ¬ ¬ s 4 3 i = 0 := c
    have e : s 4 0 i < 300 := e
    rw [if_pos ⟨Classical.not_not.mp c, e⟩, if_pos ⟨Classical.not_not.mp c, e⟩] at k
    exact ⟨trivial, trivial, ek_p rfl k⟩
  · have e : ¬ s 4 0 i < 300 := e
    rw [if_neg (fun q => e q.2), if_neg (fun q => e q.2)] at k
    exact ⟨trivial, k⟩
theorem xc_closeChannel (i : Nat) (k : K (.inl none) (ew_hp (ew_u s 4 2 i (ew_max 0 (s 4 2 i - if s 4 1 i < 3 then 1 else 3))) m)) : ew_Call (d + 1) 11 [ew_o 4 i] (ew_hp s m) K := by
  refine ew_call (ew_go (fun _ => false) 40 ⟨fun c => ?_, fun c => ?_⟩)
  · have c : s 4 1 i < 3 := c
    rw [if_pos c] at k
    exact ⟨trivial, trivial, ek_p rfl k⟩
  · have c : ¬ s 4 1 i < 3 := c
    rw [if_neg c] at k
    exact ⟨trivial, trivial, ek_p rfl k⟩
end
