/-! One step. -/
def ew_cl (t : Nat) : Nat := bif Nat.beq t 20 then 17 else bif Nat.beq t 21 then 3 else bif Nat.beq t 22 then 4 else bif Nat.beq t 23 then 6 else 10
def ew_st (y cl : Nat) (i : Instr) (pc nx tg : Nat) (cv : Int32) (ls : List (Option ew_V)) (st : List ew_V) (h : ew_H) : ew_N := match i with
  | .aconst_null => ewG (nx, ls, ew_0 :: st, h)
  | .iconst _ => ewG (nx, ls, ew_i cv :: st, h)
  | .bipush _ => ewG (nx, ls, ew_i cv :: st, h)
  | .sipush _ => ewG (nx, ls, ew_i cv :: st, h)
  | .lconst n => ewG (nx, ls, ew_j (Int64.ofNat n) :: st, h)
  | .ldc2_w n => match et_cl cl n with
    | some v => ewG (nx, ls, ew_j v :: st, h)
    | none => none
  | .ldc n => match et_ci cl n with
    | some v => ewG (nx, ls, ew_i v :: st, h)
    | none => none
  | .iload n => ew_ld 0 ls st h nx n
  | .iload_n n => ew_ld 0 ls st h nx n
  | .lload n => ew_ld 1 ls st h nx n
  | .lload_n n => ew_ld 1 ls st h nx n
  | .dload n => ew_ld 2 ls st h nx n
  | .dload_n n => ew_ld 2 ls st h nx n
  | .aload n => ew_ld 3 ls st h nx n
  | .aload_n n => ew_ld 3 ls st h nx n
  | .istore n => ew_sto 0 ls st h nx n
  | .istore_n n => ew_sto 0 ls st h nx n
  | .lstore n => ew_sto 1 ls st h nx n
  | .lstore_n n => ew_sto 1 ls st h nx n
  | .dstore n => ew_sto 2 ls st h nx n
  | .dstore_n n => ew_sto 2 ls st h nx n
  | .astore n => ew_sto 3 ls st h nx n
  | .astore_n n => ew_sto 3 ls st h nx n
  | .iinc n _ => match (ls[n]? : Option (Option ew_V)) with
    | some (some (.inl (.int x))) => bif Nat.blt n ls.length then ewG (nx, ew_st1 ls n (ew_i (x + cv)), st, h) else none
    | _ => none
  | .iadd => ew_bin (fun x y => x + y) ls st h nx
  | .isub => ew_bin (fun x y => x - y) ls st h nx
  | .imul => ew_bin (fun x y => x * y) ls st h nx
  | .iand => ew_bin (fun x y => x &&& y) ls st h nx
  | .ishr => ew_bin (fun (x y : Int32) => x >>> (y &&& 31)) ls st h nx
  | .idiv => match st with
    | .inl (.int b) :: .inl (.int a) :: st => ewN (¬ b = 0) (nx, ls, ew_i (a / b) :: st, h)
    | _ => none
  | .irem => match st with
    | .inl (.int b) :: .inl (.int a) :: st => ewN (¬ b = 0) (nx, ls, ew_i (a - a / b * b) :: st, h)
    | _ => none
  | .ladd => ew_binl (fun x y => x + y) ls st h nx
  | .lmul => ew_binl (fun x y => x * y) ls st h nx
  | .i2l => match st with
    | .inl (.int a) :: st => ewG (nx, ls, ew_j a.toInt64 :: st, h)
    | _ => none
  | .dconst n => bif Nat.beq n 0 then ewG (nx, ls, .inl (.double FP.dconst0) :: st, h) else none
  | .i2d => match st with
    | .inl (.int a) :: st => ewG (nx, ls, .inl (.double (FP.i2d a)) :: st, h)
    | _ => none
  | .ddiv => match st with
    | .inl (.double b) :: .inl (.double a) :: st => ewN (vf_n64 (FP.ddiv a b)) (nx, ls, .inl (.double (FP.ddiv a b)) :: st, h)
    | _ => none
  | .dcmp o => match st with
    | .inl (.double b) :: .inl (.double a) :: st => ewG (nx, ls, ew_i (Op.cmpValue (FP.dcmp a b) o) :: st, h)
    | _ => none
  | .dreturn => match st with
    | [.inl (.double x)] => ewE True (.inl (some (.inl (.double x)))) h
    | _ => none
  | .lcmp => match st with
    | .inl (.long b) :: .inl (.long a) :: st => ewB (a = b) (nx, ls, ew_i 0 :: st, h) (nx, ls, ew_i (if a < b then -1 else 1) :: st, h)
    | _ => none
  | .dup => match st with
    | v :: st => bif Nat.beq (ew_cat v) 1 then ewG (nx, ls, v :: v :: st, h) else none
    | _ => none
  | .pop => match st with
    | v :: st => bif Nat.beq (ew_cat v) 1 then ewG (nx, ls, st, h) else none
    | _ => none
  | .dup_x1 => match st with
    | v :: w :: st => bif Nat.beq (ew_cat v) 1 && Nat.beq (ew_cat w) 1 then ewG (nx, ls, v :: w :: v :: st, h) else none
    | _ => none
  | .dup2 => match st with
    | v :: w :: st => bif Nat.beq (ew_cat v) 1 && Nat.beq (ew_cat w) 1 then ewG (nx, ls, v :: w :: v :: w :: st, h) else none
    | _ => none
  | .ifCond o _ => match st with
    | .inl (.int a) :: st => ewB (ew_c1 o a) (tg, ls, st, h) (nx, ls, st, h)
    | _ => none
  | .if_icmp o _ => match st with
    | .inl (.int b) :: .inl (.int a) :: st => ewB (ew_c2 o a b) (tg, ls, st, h) (nx, ls, st, h)
    | _ => none
  | .if_acmp .eq _ => match st with
    | .inr q :: .inr p :: st => bif Nat.beq p.1 q.1 && Nat.beq p.2 q.2 then ewG (tg, ls, st, h) else bif Nat.beq p.1 q.1 || (Nat.beq p.1 31 || Nat.beq q.1 31) then none else ewG (nx, ls, st, h)
    | _ => none
  | .goto _ => ewG (tg, ls, st, h)
  | .tableswitch d lo _ os => match st with
    | .inl (.int x) :: st => ewS x (Int32.ofInt lo) (os.toList.map (fun (o : Int) => (((pc : Int) + o).toNat, ls, st, h))) (((pc : Int) + d).toNat, ls, st, h)
    | _ => none
  | .getfield n => match et_fd cl n with
    | some (c, s, _) => (match st with
      | .inr (k, i) :: st => bif Nat.beq (ew_ct k) c then ewG (nx, ls, h.1 k i s :: st, h) else none
      | _ => none)
    | none => none
  | .putfield n => match et_fd cl n with
    | some (c, s, t) => (match st with
      | v :: .inr (k, i) :: st => bif Nat.beq (ew_ct k) c && !et_fn cl n && !ew_cst k && (!et_fin c s || (et_ini y && Nat.beq cl c)) then ewN (ew_fit t v) (nx, ls, st, ew_put h k i s v) else none
      | _ => none)
    | none => none
  | .getstatic n => match et_sd cl n with
    | some v => ewG (nx, ls, v :: st, h)
    | none => none
  | .arraylength => match st with
    | .inr (k, i) :: st => bif Nat.ble 17 (ew_ct k) && Nat.blt (ew_ct k) 25 then ewG (nx, ls, ew_i (Int32.ofNat (ew_len h k i)) :: st, h) else none
    | _ => none
  | .iaload => ew_ald 17 ls st h nx
  | .baload => ew_ald 18 ls st h nx
  | .aaload => ew_ald 20 ls st h nx
  | .iastore => ew_ast 17 ls st h nx
  | .bastore => ew_ast 18 ls st h nx
  | .aastore => ew_ast 20 ls st h nx
  | .new n => match et_nw cl n with
    | some c => bif Nat.blt c 17 then (bif Nat.beq (ew_ct (et_si y pc)) c && ew_ctr (et_si y pc) then ew_new (et_si y pc) (et_N c) (et_dv c) ls st h nx else none) else bif Nat.ble 100 c && Nat.ble (ew_cats st) 20 then ewE True (.inr (c - 100)) (ew_pay h 1 6) else none
    | none => none
  | .newarray .int => bif Nat.beq (ew_ct (ew_kn y (et_si y pc) ls)) 17 && ew_ctr (ew_kn y (et_si y pc) ls) then ew_newa (ew_kn y (et_si y pc) ls) (ew_i 0) ls st h nx else none
  | .newarray .boolean => bif Nat.beq (ew_ct (et_si y pc)) 18 && ew_ctr (et_si y pc) then ew_newa (et_si y pc) (ew_i 0) ls st h nx else none
  | .anewarray n => match et_nw cl n with
    | some c => bif (Nat.ble 20 (ew_ct (et_si y pc)) && Nat.blt (ew_ct (et_si y pc)) 25 && Nat.beq c (ew_cl (ew_ct (et_si y pc)))) && ew_ctr (et_si y pc) then ew_newa (et_si y pc) ew_0 ls st h nx else none
    | none => none
  | .checkcast n => match et_nw cl n with
    | some c => (match st with
      | .inr (k, i) :: st => bif Nat.beq (ew_ct k) c && (Nat.ble c 17 && (Nat.blt c 17 || !ew_cst k)) then ewG (nx, ls, .inr (k, i) :: st, h) else none
      | _ => none)
    | none => none
  | .invokestatic n => match et_md cl n with
    | some (z, a, _) => bif Nat.ble 900 z then
        bif Nat.beq z 900 then (bif Nat.ble (ew_cats (st.drop 2)) 20 then ew_bin ew_max ls st h nx else none) else bif Nat.beq z 901 then (bif Nat.ble (ew_cats (st.drop 2)) 20 then ew_bin ew_min ls st h nx else none) else bif Nat.beq z 902 then (match st with
        | .inl (.int a) :: st => bif Nat.ble (ew_cats st) 20 then ewG (nx, ls, ew_i (ew_abs a) :: st, h) else none
        | _ => none) else none
      else bif Nat.beq (et_kd z) 0 && (Nat.ble (ew_cats (st.drop a)) 8 && Nat.ble a st.length) then ewK z (st.take a).reverse (st.drop a) nx else none
    | none => none
  | .invokevirtual n => match et_md cl n with
    | some (z, a, c) => match st.drop a with
      | .inr (k, i) :: rest => bif (Nat.beq (et_kd z) 1 && !et_if cl n) && (Nat.beq (ew_ct k) c && Nat.ble (ew_cats rest) 8) then ewK z (.inr (k, i) :: (st.take a).reverse) rest nx else none
      | _ => none
    | none => none
  | .invokespecial n => match et_md cl n with
    | some (z, a, c) => match st.drop a with
      | .inr (k, i) :: rest => bif Nat.beq z 904 then (bif Nat.ble (ew_cats rest) 8 then ewG (nx, ls, rest, h) else none)
        else bif Nat.beq (et_kd z) 2 && Nat.ble (ew_cats rest) 8 then ewK z (.inr (k, i) :: (st.take a).reverse) rest nx else none
      | _ => none
    | none => none
  | .invokeinterface n _ => match et_md cl n with
    | some (z, a, c) => match st.drop a with
      | .inr (k, i) :: rest => bif et_if cl n && (Nat.beq (ew_ct k) c && Nat.ble (ew_cats rest) 8) then ewK z (.inr (k, i) :: (st.take a).reverse) rest nx else none
      | _ => none
    | none => none
  | .ireturn => match st with
    | [.inl (.int x)] => ewE (bif et_bl y then x = 0 ∨ x = 1 else True) (.inl (some (ew_i x))) h
    | _ => none
  | .lreturn => match st with
    | [.inl (.long x)] => ewE True (.inl (some (ew_j x))) h
    | _ => none
  | .areturn => match st with
    | [v] => bif Nat.beq (ew_tag v) 3 then ewE True (.inl (some v)) h else none
    | _ => none
  | .return_ => match st with
    | [] => ewE True (.inl none) h
    | _ => none
  | _ => none
/-- where a thrown exception is caught: the pc behind its being stored, and where it is stored -/
def ew_hd (y pc x : Nat) : Option (Nat × Nat) := et_hd y pc x
/-- methods of which it is told that they throw: no constructors, none of the library -/
def ew_th (z : Nat) : Bool := et_tw z && !(Nat.beq (et_kd z) 2) && Nat.blt z 185
/-- one step of method y, with what calls do in C: P of the states behind it, K of its end -/
def ew_G (C : Nat → List ew_V → ew_H → (ew_R → ew_H → Prop) → Prop) (y : Nat) (P : ew_C → Prop) (K : ew_R → ew_H → Prop) (c : ew_C) : Prop := match ew_pg y c.1 with
  | none => False
  | some (i, nx, tg, cv) => match ew_st y (et_cls y) i c.1 nx tg cv c.2.1 c.2.2.1 c.2.2.2 with
    | none => False
    | some (.inl c') => P c'
    | some (.inr (.inl (p, a, b))) => (p → P a) ∧ (¬ p → P b)
    | some (.inr (.inr (.inl (p, a)))) => p ∧ P a
    | some (.inr (.inr (.inr (.inl (z, as, rest, nx))))) => C z as c.2.2.2 (fun r h' => match r with
      | .inl v => P (nx, c.2.1, v.toList ++ rest, h')
      | .inr x => ew_th z = true ∧ match ew_hd y c.1 x with
        | some t => P (t.1, ew_un c.2.1 t.2, [], h')
        | none => K (.inr x) h')
    | some (.inr (.inr (.inr (.inr (.inl (p, r, h)))))) => p ∧ K r h
    | some (.inr (.inr (.inr (.inr (.inr (x, v, l, d)))))) => ew_sw P x v l d
