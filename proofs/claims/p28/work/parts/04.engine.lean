/-! A small machine over numbered objects: what an instruction does to locals, stack and objects. Its runs are tied to the machine's own in a later part. -/
/-- a value: a number or null, or object i of kind k -/
abbrev ew_V : Type := Value ⊕ (Nat × Nat)
/-- objects by kind, number, place: what each place holds; lengths; which are there; how many of a kind were made; cells and places made in all -/
abbrev ew_H : Type := (Nat → Nat → Nat → ew_V) × (Nat → Nat → Nat) × (Nat → Nat → Bool) × (Nat → Nat) × Nat × Nat
/-- pc, locals, stack, objects -/
abbrev ew_C : Type := Nat × List (Option ew_V) × List ew_V × ew_H
/-- an answer, or an exception by its number -/
abbrev ew_R : Type := Option ew_V ⊕ Nat
/-- what one step gives: stuck; a state; a branch; a state under a condition; a call (method, arguments, rest of the stack, pc behind); an end; a switch -/
abbrev ew_N : Type := Option (ew_C ⊕ (Prop × ew_C × ew_C) ⊕ (Prop × ew_C) ⊕ (Nat × List ew_V × List ew_V × Nat) ⊕ (Prop × ew_R × ew_H) ⊕ (Int32 × Int32 × List ew_C × ew_C))
abbrev ew_i (x : Int32) : ew_V := .inl (.int x)
abbrev ew_j (x : Int64) : ew_V := .inl (.long x)
abbrev ew_o (k i : Nat) : ew_V := .inr (k, i)
abbrev ew_0 : ew_V := .inl .null
abbrev ewG (c : ew_C) : ew_N := some (.inl c)
abbrev ewB (p : Prop) (a b : ew_C) : ew_N := some (.inr (.inl (p, a, b)))
abbrev ewN (p : Prop) (a : ew_C) : ew_N := some (.inr (.inr (.inl (p, a))))
abbrev ewK (y : Nat) (as rest : List ew_V) (nx : Nat) : ew_N := some (.inr (.inr (.inr (.inl (y, as, rest, nx)))))
abbrev ewE (p : Prop) (r : ew_R) (h : ew_H) : ew_N := some (.inr (.inr (.inr (.inr (.inl (p, r, h))))))
abbrev ewS (x v : Int32) (l : List ew_C) (d : ew_C) : ew_N := some (.inr (.inr (.inr (.inr (.inr (x, v, l, d))))))
/-- the value as the machine has it, object i of kind k at a k i -/
def ew_c (a : Nat → Nat → Nat) (v : ew_V) : Value := match v with
  | .inl v => v
  | .inr q => .ref (a q.1 q.2)
def ew_cat (v : ew_V) : Nat := match v with
  | .inl v => v.category
  | .inr _ => 1
/-- 0 int, 1 long, 2 double, 3 a reference or null -/
def ew_tag (v : ew_V) : Nat := match v with
  | .inl (.int _) => 0
  | .inl (.long _) => 1
  | .inl (.double _) => 2
  | .inl .null => 3
  | .inr _ => 3
  | _ => 9
def ew_clr (ls : List (Option ew_V)) (i : Nat) : List (Option ew_V) := match i with
  | 0 => ls
  | j + 1 => match (ls[j]? : Option (Option ew_V)) with
    | some (some v) => bif Nat.beq (ew_cat v) 2 then ls.set j none else ls
    | _ => ls
def ew_st1 (ls : List (Option ew_V)) (i : Nat) (v : ew_V) : List (Option ew_V) := (ew_clr ls i).set i (some v)
def ew_st2 (ls : List (Option ew_V)) (i : Nat) (v : ew_V) : List (Option ew_V) := ((ew_clr ls i).set i (some v)).set (i + 1) none
/-- the locals without what place i held -/
def ew_un (ls : List (Option ew_V)) (i : Nat) : List (Option ew_V) := (ew_clr ls i).set i none
/-- a choice that shows at once what both have in common -/
def ew_mg (b : Bool) (v w : ew_V) : ew_V := match v with
  | .inl (.int x) => (match w with
    | .inl (.int y) => .inl (.int (bif b then x else y))
    | w => bif b then .inl (.int x) else w)
  | .inr (k, i) => (match w with
    | .inr (k', i') => bif Nat.beq k k' then .inr (k, bif b then i else i') else bif b then .inr (k, i) else .inr (k', i')
    | w => bif b then .inr (k, i) else w)
  | v => bif b then v else w
/-- writing one place -/
def ew_put (h : ew_H) (k i s : Nat) (v : ew_V) : ew_H := (fun k' i' s' => bif Nat.beq k' k then (ew_mg (Nat.beq s' s && Nat.beq i' i) v (h.1 k' i' s')) else h.1 k' i' s', h.2)
/-- writing n places of an array from place s on -/
def ew_cpy (h : ew_H) (k i s : Nat) (n : Nat) (f : Nat → ew_V) : ew_H := (fun k' i' s' => bif Nat.beq k' k then (bif Nat.beq i' i then (bif Nat.ble s s' && Nat.blt s' (s + n) then f (s' - s) else h.1 k' i' s') else h.1 k' i' s') else h.1 k' i' s', h.2)
/-- making object i of kind k, of N places -/
def ew_mk (h : ew_H) (k i N : Nat) (z : Nat → ew_V) : ew_H :=
  (fun k' i' s' => bif Nat.beq k' k then (bif Nat.beq i' i then z s' else h.1 k' i' s') else h.1 k' i' s',
   fun k' i' => bif Nat.beq k' k then (bif Nat.beq i' i then N else h.2.1 k' i') else h.2.1 k' i',
   fun k' i' => bif Nat.beq k' k then (bif Nat.beq i' i then true else h.2.2.1 k' i') else h.2.2.1 k' i',
   fun k' => bif Nat.beq k' k then h.2.2.2.1 k' + 1 else h.2.2.2.1 k',
   h.2.2.2.2.1 + 1, h.2.2.2.2.2 + N)
/-- the room that a throw takes, nothing else -/
def ew_pay (h : ew_H) (c s : Nat) : ew_H := (h.1, h.2.1, h.2.2.1, h.2.2.2.1, h.2.2.2.2.1 + c, h.2.2.2.2.2 + s)
/-- the class or array class of a kind -/
abbrev ew_ct (k : Nat) : Nat := k % 32
/-- kinds that nobody writes -/
def ew_cst (k : Nat) : Bool := Nat.beq k 0 || Nat.beq k 17 || Nat.beq k 49 || Nat.beq k 212
/-- the arrays behind the lists are named by the list, all others by their number -/
def ew_ctr (k : Nat) : Bool := !(Nat.beq (k % 32) 20 && Nat.blt k 192) && !(ew_cst k) && !(Nat.beq k 31)
/-- lengths that a kind fixes -/
def ew_sl (k n : Nat) : Nat :=
  bif Nat.beq (k % 32) 17 then
    (bif Nat.beq k 17 then n else bif Nat.beq k 49 then 5 else bif Nat.beq k 81 then 10 else bif Nat.beq k 113 then 10 else bif Nat.beq k 145 then 8 else bif Nat.beq k 177 then 5 else bif Nat.beq k 209 then 15 else bif Nat.beq k 241 then 15 else
     bif Nat.beq k 273 then 15 else bif Nat.beq k 305 then 15 else bif Nat.beq k 337 then 15 else bif Nat.beq k 369 then 5 else bif Nat.beq k 401 then 15 else bif Nat.beq k 433 then 15 else bif Nat.beq k 465 then 15 else bif Nat.beq k 497 then 10 else bif Nat.beq k 529 then 11 else bif Nat.beq k 561 then 2 else bif Nat.beq k 593 then 8 else n)
  else bif Nat.beq (k % 32) 18 then (bif Nat.beq k 50 then 15 else 5)
  else bif Nat.beq k 19 then 1
  else bif Nat.beq (k % 32) 20 then (bif Nat.blt k 192 then 10 else bif Nat.beq k 212 then 0 else n)
  else bif Nat.beq k 21 then 2 else bif Nat.beq k 22 then 15 else bif Nat.beq k 23 then 3 else bif Nat.beq k 24 then 5 else n
abbrev ew_len (h : ew_H) (k i : Nat) : Nat := ew_sl k (h.2.1 k i)
def ew_c1 (o : Jvm.ClassFile.Cond) (x : Int32) : Prop := match o with
  | .eq => x = 0
  | .ne => ¬ x = 0
  | .lt => x < 0
  | .ge => 0 ≤ x
  | .gt => 0 < x
  | .le => x ≤ 0
def ew_c2 (o : Jvm.ClassFile.Cond) (x y : Int32) : Prop := match o with
  | .eq => x = y
  | .ne => ¬ x = y
  | .lt => x < y
  | .ge => y ≤ x
  | .gt => y < x
  | .le => x ≤ y
/-- the place i of an array of n places is there -/
def ew_ix (i : Int32) (n : Nat) : Prop := ¬ (i < 0 ∨ n ≤ i.toNatClampNeg)
def ew_ld (t : Nat) (ls : List (Option ew_V)) (st : List ew_V) (h : ew_H) (nx n : Nat) : ew_N := match (ls[n]? : Option (Option ew_V)) with
  | some (some v) => bif Nat.beq (ew_tag v) t then ewG (nx, ls, v :: st, h) else none
  | _ => none
def ew_sto (t : Nat) (ls : List (Option ew_V)) (st : List ew_V) (h : ew_H) (nx n : Nat) : ew_N := match st with
  | v :: st => bif Nat.beq (ew_tag v) t then (bif Nat.beq t 0 || Nat.beq t 3 then (bif Nat.blt n ls.length then ewG (nx, ew_st1 ls n v, st, h) else none) else (bif Nat.blt (n + 1) ls.length then ewG (nx, ew_st2 ls n v, st, h) else none)) else none
  | _ => none
def ew_bin (f : Int32 → Int32 → Int32) (ls : List (Option ew_V)) (st : List ew_V) (h : ew_H) (nx : Nat) : ew_N := match st with
  | .inl (.int y) :: .inl (.int x) :: st => ewG (nx, ls, ew_i (f x y) :: st, h)
  | _ => none
def ew_binl (f : Int64 → Int64 → Int64) (ls : List (Option ew_V)) (st : List ew_V) (h : ew_H) (nx : Nat) : ew_N := match st with
  | .inl (.long y) :: .inl (.long x) :: st => ewG (nx, ls, ew_j (f x y) :: st, h)
  | _ => none
/-- reading an array of a type out of ts -/
def ew_ald (t : Nat) (ls : List (Option ew_V)) (st : List ew_V) (h : ew_H) (nx : Nat) : ew_N := match st with
  | .inl (.int j) :: .inr (k, i) :: st => bif (bif Nat.beq t 20 then Nat.ble 20 (ew_ct k) && Nat.blt (ew_ct k) 25 else Nat.beq (ew_ct k) t) then ewN (ew_ix j (ew_len h k i)) (nx, ls, h.1 k i j.toNatClampNeg :: st, h) else none
  | _ => none
/-- what may stand in a place of type t: 0 int, 1 boolean, 2 a reference -/
def ew_fit (t : Nat) (v : ew_V) : Prop := match t, v with
  | 0, .inl (.int _) => True
  | 1, .inl (.int x) => x = 0 ∨ x = 1
  | 2, .inr q => (Nat.beq q.1 31 || (Nat.beq q.1 17 || Nat.beq q.1 49)) = false
  | 2, .inl .null => True
  | 3, .inl (.long _) => True
  | _, _ => False
/-- an array of references takes objects of its own class, or all -/
def ew_asg (k : Nat) (v : ew_V) : Bool := match v with
  | .inr (k', _) => (Nat.beq (ew_ct k) 20 && Nat.beq (ew_ct k') 17) || (Nat.beq (ew_ct k) 21 && Nat.beq (ew_ct k') 3) || (Nat.beq (ew_ct k) 22 && Nat.beq (ew_ct k') 4) || (Nat.beq (ew_ct k) 23 && Nat.beq (ew_ct k') 6) || (Nat.beq (ew_ct k) 24 && Nat.beq (ew_ct k') 10)
  | _ => false
def ew_ast (t : Nat) (ls : List (Option ew_V)) (st : List ew_V) (h : ew_H) (nx : Nat) : ew_N := match st with
  | v :: .inl (.int j) :: .inr (k, i) :: st => bif !ew_cst k && (bif Nat.beq t 20 then Nat.ble 20 (ew_ct k) && Nat.blt (ew_ct k) 25 && ew_asg k v else Nat.beq (ew_ct k) t) then
      ewN (ew_ix j (ew_len h k i) ∧ ew_fit (bif Nat.beq t 17 then 0 else bif Nat.beq t 18 then 1 else bif Nat.beq t 19 then 3 else 2) v) (nx, ls, st, ew_put h k i j.toNatClampNeg v) else none
  | _ => none
def ew_new (k N : Nat) (z : Nat → ew_V) (ls : List (Option ew_V)) (st : List ew_V) (h : ew_H) (nx : Nat) : ew_N := ewG (nx, ls, ew_o k (h.2.2.2.1 k) :: st, ew_mk h k (h.2.2.2.1 k) N z)
/-- kinds of what a constructor makes for objects of several kinds -/
def ew_kn (y k : Nat) (ls : List (Option ew_V)) : Nat := bif Nat.beq y 29 then (match (ls[0]? : Option (Option ew_V)) with
  | some (some (.inr (k', _))) => bif Nat.beq k' 8 then 145 else 593
  | _ => k) else k
def ew_newa (k : Nat) (z : ew_V) (ls : List (Option ew_V)) (st : List ew_V) (h : ew_H) (nx : Nat) : ew_N := match st with
  | .inl (.int n) :: st => ewN (¬ n < 0 ∧ n.toNatClampNeg ≤ 1000000 ∧ ew_sl k n.toNatClampNeg = n.toNatClampNeg) (nx, ls, ew_o k (h.2.2.2.1 k) :: st, ew_mk h k (h.2.2.2.1 k) n.toNatClampNeg (fun _ => z))
  | _ => none
def ew_cats (l : List ew_V) : Nat := match l with
  | [] => 0
  | v :: l => ew_cat v + ew_cats l
/-- a switch: the states by x = v, v + 1 .., and else d -/
def ew_sw (P : ew_C → Prop) (x v : Int32) (l : List ew_C) (d : ew_C) : Prop := match l with
  | [] => P d
  | c :: l => (x = v → P c) ∧ (¬ x = v → ew_sw P x (v + 1) l d)
def ew_max (x y : Int32) : Int32 := if x < y then y else x
def ew_min (x y : Int32) : Int32 := if y < x then y else x
def ew_abs (x : Int32) : Int32 := if 0 ≤ x then x else 0 - x
