/-! Any step: all instructions. -/
section EY
variable {p : Program} {l : Launch} {e : Env} {R : Room} {s : State} {m : MethodId} {args : Array Value} {below : List Frame} {meth : Method} {c0 : Code} {Q : State → Prop}
variable {G : va_G} {TY : Nat → ClassId} {sz : Nat} {H0 : Heap} {NW : List Cond} {Wd : State → Prop} {d y : Nat} {hS hE : ew_H} {aS : Nat → Nat → Nat}
variable {pc nx tg : Nat} {cv : Int32} {ls : List (Option ew_V)} {st : List ew_V} {h : ew_H} {i : Instr} {n : Nat} {r : ew_R}
theorem ed_if {b : Bool} {x : ew_N} {P : ew_C → Prop} {K : Nat → List ew_V → List ew_V → Nat → Prop} {E : Prop → ew_R → ew_H → Prop} (g : ew_U P K E (bif b then x else none)) : b = true ∧ ew_U P K E x := by
  cases b with
  | true => exact ⟨rfl, g⟩
  | false => exact g.elim
theorem ed_fi {b : Bool} {x : ew_N} {P : ew_C → Prop} {K : Nat → List ew_V → List ew_V → Nat → Prop} {E : Prop → ew_R → ew_H → Prop} (g : ew_U P K E (bif b then none else x)) : b = false ∧ ew_U P K E x := by
  cases b with
  | true => exact g.elim
  | false => exact ⟨rfl, g⟩
theorem ed_el {b : Bool} {x z : ew_N} {P : ew_C → Prop} {K : Nat → List ew_V → List ew_V → Nat → Prop} {E : Prop → ew_R → ew_H → Prop} (g : ew_U P K E (bif b then x else z)) : (b = true ∧ ew_U P K E x) ∨ (b = false ∧ ew_U P K E z) := by
  cases b with
  | true => exact Or.inl ⟨rfl, g⟩
  | false => exact Or.inr ⟨rfl, g⟩
theorem ed_ty {t : Nat} (h1 : 21 ≤ t) (h2 : t < 25) : ew_ty t = .object (ew_on (ew_cl t)) := by
  have : t = 21 ∨ t = 22 ∨ t = 23 ∨ t = 24 := by omega
  rcases this with rfl | rfl | rfl | rfl <;> rfl
/-- the step's meaning -/
abbrev ew_UQ (p : Program) (l : Launch) (e : Env) (R : Room) (s : State) (m : MethodId) (args : Array Value) (below : List Frame) (meth : Method) (c0 : Code) (G : va_G) (TY : Nat → ClassId) (sz : Nat) (H0 : Heap) (Q : State → Prop) (y : Nat) (hS hE : ew_H) (aS : Nat → Nat → Nat) (pc : Nat) (ls : List (Option ew_V)) (h : ew_H) (d : Nat) (r : ew_R) : ew_N → Prop :=
  ew_U (ew_Q p l e R s m args below meth c0 G TY sz H0 Q y hS hE aS) (fun z as rest nx => ew_Call d z as h (fun r1 h' => match r1 with
      | .inl v => ew_Q p l e R s m args below meth c0 G TY sz H0 Q y hS hE aS (nx, ls, v.toList ++ rest, h')
      | .inr x => ew_th z = true ∧ match ew_hd y pc x with
        | some t => ew_Q p l e R s m args below meth c0 G TY sz H0 Q y hS hE aS (t.1, ew_un ls t.2, [], h')
        | none => (.inr x : ew_R) = r ∧ h' = hE)) (fun q r1 h1 => q ∧ r1 = r ∧ h1 = hE)
theorem ed_plain (X : ew_Cx p l e R s m args below meth c0 NW G TY Wd d y) (T : ew_Tab NW Wd) (hpg : ew_pg y pc = some (i, nx, tg, cv))
    (hi : match i with | .aconst_null | .iconst _ | .bipush _ | .sipush _ | .lconst _ | .ldc2_w _ | .ldc _ | .iload _ | .iload_n _ | .lload _ | .lload_n _ | .dload _ | .dload_n _ | .aload _ | .aload_n _ | .istore _ | .istore_n _ | .lstore _ | .lstore_n _ | .dstore _ | .dstore_n _ | .astore _ | .astore_n _ | .iinc _ _ | .iadd | .isub | .imul | .iand | .ishr | .idiv | .irem | .ladd | .lmul | .i2l | .dconst _ | .i2d | .ddiv | .dcmp _ | .dup | .pop | .dup_x1 | .dup2 | .goto _ => True | _ => False)
    (g : ew_UQ p l e R s m args below meth c0 G TY sz H0 Q y hS hE aS pc ls h d r (ew_st y (et_cls y) i pc nx tg cv ls st h)) : ew_Q p l e R s m args below meth c0 G TY sz H0 Q y hS hE aS (pc, ls, st, h) := by
  obtain ⟨n, hd, hnx, hst, hoj, hoc⟩ := ew_okb_spec (T.1 _ _ _ hpg)
  obtain ⟨hx, hb, hml, hown, hts, hW, hwd, hfr, hlo, hini⟩ := X
  subst hnx
  cases i <;> try exact hi.elim
  case aconst_null => obtain rfl : n = 1 := ew_beq hst; exact es_null hx hb hd g
  case iconst k => obtain rfl : n = 1 := ew_beq hst; exact es_iconst (of_decide_eq_true hoc) hx hb hd g
  case bipush k => obtain rfl : n = 2 := ew_beq hst; exact es_bipush (of_decide_eq_true hoc) hx hb hd g
  case sipush k => obtain rfl : n = 3 := ew_beq hst; exact es_sipush (of_decide_eq_true hoc) hx hb hd g
  case lconst k => obtain rfl : n = 1 := ew_beq hst; exact es_lconst hx hb hd g
  case ldc2_w k =>
    obtain rfl : n = 3 := ew_beq hst
    cases hv : et_cl (et_cls y) k with
    | none => dsimp only [ew_st] at g; rw [hv] at g; exact g.elim
    | some v => dsimp only [ew_st] at g; rw [hv] at g; exact es_ldc2 hown (hts _ (T.2.2.2.2.2.2.2.2.2.2.1.1 _ _ _ hv)) hx hb hd g
  case ldc k =>
    obtain rfl : n = 2 := ew_beq hst
    cases hv : et_ci (et_cls y) k with
    | none => dsimp only [ew_st] at g; rw [hv] at g; exact g.elim
    | some v => dsimp only [ew_st] at g; rw [hv] at g; exact es_ldc hown (hts _ (T.2.2.2.2.2.2.2.2.2.2.1.2 _ _ _ hv)) hx hb hd g
  case iload k => obtain ⟨v, a1, a2, a3⟩ := eu_ld g; obtain rfl : n = 2 := ew_beq hst; exact es_ld a1 a2 hx hb hd (Or.inl ⟨rfl, Or.inl ⟨rfl, rfl⟩⟩) a3
  case iload_n k => obtain ⟨v, a1, a2, a3⟩ := eu_ld g; obtain rfl : n = 1 := ew_beq hst; exact es_ld a1 a2 hx hb hd (Or.inl ⟨rfl, Or.inr ⟨k, rfl, rfl, rfl⟩⟩) a3
  case lload k => obtain ⟨v, a1, a2, a3⟩ := eu_ld g; obtain rfl : n = 2 := ew_beq hst; exact es_ld a1 a2 hx hb hd (Or.inr (Or.inl ⟨rfl, Or.inl ⟨rfl, rfl⟩⟩)) a3
  case lload_n k => obtain ⟨v, a1, a2, a3⟩ := eu_ld g; obtain rfl : n = 1 := ew_beq hst; exact es_ld a1 a2 hx hb hd (Or.inr (Or.inl ⟨rfl, Or.inr ⟨k, rfl, rfl, rfl⟩⟩)) a3
  case dload k => obtain ⟨v, a1, a2, a3⟩ := eu_ld g; obtain rfl : n = 2 := ew_beq hst; exact es_ld a1 a2 hx hb hd (Or.inr (Or.inr (Or.inl ⟨rfl, Or.inl ⟨rfl, rfl⟩⟩))) a3
  case dload_n k => obtain ⟨v, a1, a2, a3⟩ := eu_ld g; obtain rfl : n = 1 := ew_beq hst; exact es_ld a1 a2 hx hb hd (Or.inr (Or.inr (Or.inl ⟨rfl, Or.inr ⟨k, rfl, rfl, rfl⟩⟩))) a3
  case aload k => obtain ⟨v, a1, a2, a3⟩ := eu_ld g; obtain rfl : n = 2 := ew_beq hst; exact es_ld a1 a2 hx hb hd (Or.inr (Or.inr (Or.inr ⟨rfl, Or.inl ⟨rfl, rfl⟩⟩))) a3
  case aload_n k => obtain ⟨v, a1, a2, a3⟩ := eu_ld g; obtain rfl : n = 1 := ew_beq hst; exact es_ld a1 a2 hx hb hd (Or.inr (Or.inr (Or.inr ⟨rfl, Or.inr ⟨k, rfl, rfl, rfl⟩⟩))) a3
  case istore k =>
    obtain ⟨v, st', rfl, a2, a3⟩ := eu_sto g
    obtain rfl : n = 2 := ew_beq hst
    rcases a3 with ⟨-, a3, a4⟩ | ⟨a3, -, -⟩
    · exact es_sto1 a2 a3 hx hb hd (Or.inl ⟨rfl, Or.inl ⟨rfl, rfl⟩⟩) a4
    · exact absurd (Or.inl rfl) a3
  case istore_n k =>
    obtain ⟨v, st', rfl, a2, a3⟩ := eu_sto g
    obtain rfl : n = 1 := ew_beq hst
    rcases a3 with ⟨-, a3, a4⟩ | ⟨a3, -, -⟩
    · exact es_sto1 a2 a3 hx hb hd (Or.inl ⟨rfl, Or.inr ⟨k, rfl, rfl, rfl⟩⟩) a4
    · exact absurd (Or.inl rfl) a3
  case astore k =>
    obtain ⟨v, st', rfl, a2, a3⟩ := eu_sto g
    obtain rfl : n = 2 := ew_beq hst
    rcases a3 with ⟨-, a3, a4⟩ | ⟨a3, -, -⟩
    · exact es_sto1 a2 a3 hx hb hd (Or.inr ⟨rfl, Or.inl ⟨rfl, rfl⟩⟩) a4
    · exact absurd (Or.inr rfl) a3
  case astore_n k =>
    obtain ⟨v, st', rfl, a2, a3⟩ := eu_sto g
    obtain rfl : n = 1 := ew_beq hst
    rcases a3 with ⟨-, a3, a4⟩ | ⟨a3, -, -⟩
    · exact es_sto1 a2 a3 hx hb hd (Or.inr ⟨rfl, Or.inr ⟨k, rfl, rfl, rfl⟩⟩) a4
    · exact absurd (Or.inr rfl) a3
  case lstore k =>
    obtain ⟨v, st', rfl, a2, a3⟩ := eu_sto g
    obtain rfl : n = 2 := ew_beq hst
    rcases a3 with ⟨a3, -, -⟩ | ⟨-, a3, a4⟩
    · rcases a3 with a3 | a3 <;> cases a3
    · exact es_sto2 a2 a3 hx hb hd (Or.inl ⟨rfl, Or.inl ⟨rfl, rfl⟩⟩) a4
  case lstore_n k =>
    obtain ⟨v, st', rfl, a2, a3⟩ := eu_sto g
    obtain rfl : n = 1 := ew_beq hst
    rcases a3 with ⟨a3, -, -⟩ | ⟨-, a3, a4⟩
    · rcases a3 with a3 | a3 <;> cases a3
    · exact es_sto2 a2 a3 hx hb hd (Or.inl ⟨rfl, Or.inr ⟨k, rfl, rfl, rfl⟩⟩) a4
  case dstore k =>
    obtain ⟨v, st', rfl, a2, a3⟩ := eu_sto g
    obtain rfl : n = 2 := ew_beq hst
    rcases a3 with ⟨a3, -, -⟩ | ⟨-, a3, a4⟩
    · rcases a3 with a3 | a3 <;> cases a3
    · exact es_sto2 a2 a3 hx hb hd (Or.inr ⟨rfl, Or.inl ⟨rfl, rfl⟩⟩) a4
  case dstore_n k =>
    obtain ⟨v, st', rfl, a2, a3⟩ := eu_sto g
    obtain rfl : n = 1 := ew_beq hst
    rcases a3 with ⟨a3, -, -⟩ | ⟨-, a3, a4⟩
    · rcases a3 with a3 | a3 <;> cases a3
    · exact es_sto2 a2 a3 hx hb hd (Or.inr ⟨rfl, Or.inr ⟨k, rfl, rfl, rfl⟩⟩) a4
  case iinc k c =>
    obtain rfl : n = 3 := ew_beq hst
    cases hk : (ls[k]? : Option (Option ew_V)) with
    | none => dsimp only [ew_st] at g; rw [hk] at g; exact g.elim
    | some o =>
      dsimp only [ew_st] at g
      rw [hk] at g
      rcases o with _ | v | v
      · exact g.elim
      · cases v <;> first | exact g.elim | skip
        obtain ⟨hlt, g⟩ := ed_if g
        exact es_iinc hk (Nat.le_of_ble_eq_true hlt) (of_decide_eq_true hoc) hx hb hd g
      · exact g.elim
  case iadd => obtain ⟨x, z, st', rfl, g⟩ := eu_bin g; obtain rfl : n = 1 := ew_beq hst; exact es_bin hx hb hd (Or.inl ⟨rfl, rfl⟩) g
  case isub => obtain ⟨x, z, st', rfl, g⟩ := eu_bin g; obtain rfl : n = 1 := ew_beq hst; exact es_bin hx hb hd (Or.inr (Or.inl ⟨rfl, rfl⟩)) g
  case imul => obtain ⟨x, z, st', rfl, g⟩ := eu_bin g; obtain rfl : n = 1 := ew_beq hst; exact es_bin hx hb hd (Or.inr (Or.inr (Or.inl ⟨rfl, rfl⟩))) g
  case iand => obtain ⟨x, z, st', rfl, g⟩ := eu_bin g; obtain rfl : n = 1 := ew_beq hst; exact es_bin hx hb hd (Or.inr (Or.inr (Or.inr (Or.inl ⟨rfl, rfl⟩)))) g
  case ishr => obtain ⟨x, z, st', rfl, g⟩ := eu_bin g; obtain rfl : n = 1 := ew_beq hst; exact es_bin hx hb hd (Or.inr (Or.inr (Or.inr (Or.inr ⟨rfl, rfl⟩)))) g
  case ladd => obtain ⟨x, z, st', rfl, g⟩ := eu_binl g; obtain rfl : n = 1 := ew_beq hst; exact es_binl hx hb hd (Or.inl ⟨rfl, rfl⟩) g
  case lmul => obtain ⟨x, z, st', rfl, g⟩ := eu_binl g; obtain rfl : n = 1 := ew_beq hst; exact es_binl hx hb hd (Or.inr ⟨rfl, rfl⟩) g
  case idiv =>
    obtain rfl : n = 1 := ew_beq hst
    rcases st with _ | ⟨b | b, _ | ⟨a | a, st⟩⟩ <;> first | exact g.elim | skip
    all_goals cases b <;> first | exact g.elim | skip
    all_goals cases a <;> first | exact g.elim | skip
    exact es_idiv g.1 hx hb hd g.2
  case irem =>
    obtain rfl : n = 1 := ew_beq hst
    rcases st with _ | ⟨b | b, _ | ⟨a | a, st⟩⟩ <;> first | exact g.elim | skip
    all_goals cases b <;> first | exact g.elim | skip
    all_goals cases a <;> first | exact g.elim | skip
    exact es_irem g.1 hx hb hd g.2
  case ddiv =>
    obtain rfl : n = 1 := ew_beq hst
    rcases st with _ | ⟨b | b, _ | ⟨a | a, st⟩⟩ <;> first | exact g.elim | skip
    all_goals cases b <;> first | exact g.elim | skip
    all_goals cases a <;> first | exact g.elim | skip
    exact es_ddiv g.1 hx hb hd g.2
  case dcmp o =>
    obtain rfl : n = 1 := ew_beq hst
    rcases st with _ | ⟨b | b, _ | ⟨a | a, st⟩⟩ <;> first | exact g.elim | skip
    all_goals cases b <;> first | exact g.elim | skip
    all_goals cases a <;> first | exact g.elim | skip
    exact es_dcmp hx hb hd g
  case i2l =>
    obtain rfl : n = 1 := ew_beq hst
    rcases st with _ | ⟨a | a, st⟩ <;> first | exact g.elim | skip
    cases a <;> first | exact g.elim | exact es_i2l hx hb hd g
  case i2d =>
    obtain rfl : n = 1 := ew_beq hst
    rcases st with _ | ⟨a | a, st⟩ <;> first | exact g.elim | skip
    cases a <;> first | exact g.elim | exact es_i2d hx hb hd g
  case dconst k =>
    obtain rfl : n = 1 := ew_beq hst
    obtain ⟨hk, g⟩ := ed_if g
    obtain rfl : k = 0 := Fin.ext (ew_beq hk)
    exact es_dconst hx hb hd g
  case dup =>
    obtain rfl : n = 1 := ew_beq hst
    rcases st with _ | ⟨v, st⟩
    · exact g.elim
    · obtain ⟨hv, g⟩ := ed_if g
      exact es_dup hv hx hb hd g
  case pop =>
    obtain rfl : n = 1 := ew_beq hst
    rcases st with _ | ⟨v, st⟩
    · exact g.elim
    · obtain ⟨hv, g⟩ := ed_if g
      exact es_pop hv hx hb hd g
  case dup_x1 =>
    obtain rfl : n = 1 := ew_beq hst
    rcases st with _ | ⟨v, _ | ⟨w, st⟩⟩
    · exact g.elim
    · exact g.elim
    · obtain ⟨hv, g⟩ := ed_if g
      rw [Bool.and_eq_true] at hv
      exact es_dup_x1 hv.1 hv.2 hx hb hd g
  case dup2 =>
    obtain rfl : n = 1 := ew_beq hst
    rcases st with _ | ⟨v, _ | ⟨w, st⟩⟩
    · exact g.elim
    · exact g.elim
    · obtain ⟨hv, g⟩ := ed_if g
      rw [Bool.and_eq_true] at hv
      exact es_dup2 hv.1 hv.2 hx hb hd g
  case goto o => obtain rfl : n = 3 := ew_beq hst; exact es_goto (of_decide_eq_true hoj) hx hb hd g
end EY
