/-! Any step, on both machines. -/
def ew_il (i : Instr) : Nat := match i with
  | .bipush _ | .iload _ | .lload _ | .dload _ | .aload _ | .istore _ | .lstore _ | .dstore _ | .astore _ | .newarray _ | .ldc _ => 2
  | .sipush _ | .iinc _ _ | .ifCond _ _ | .if_icmp _ _ | .if_acmp _ _ | .goto _ | .getfield _ | .putfield _ | .getstatic _ | .new _ | .anewarray _ | .checkcast _ | .invokevirtual _ | .invokespecial _ | .invokestatic _ | .ldc2_w _ | .ldc_w _ => 3
  | .invokeinterface _ _ => 5
  | _ => 1
def ew_ist (i : Instr) (n : Nat) : Bool := match i with
  | .tableswitch _ _ _ _ => true
  | i => Nat.beq n (ew_il i)
def ew_ioj (i : Instr) (x tg : Nat) : Bool := match i with
  | .ifCond _ o => decide ((x : Int) + o = (tg : Int))
  | .if_icmp _ o => decide ((x : Int) + o = (tg : Int))
  | .if_acmp _ o => decide ((x : Int) + o = (tg : Int))
  | .goto o => decide ((x : Int) + o = (tg : Int))
  | .tableswitch d lo hi os => decide (0 ≤ (x : Int) + d) && os.toList.all (fun o => decide (0 ≤ (x : Int) + o)) && decide (hi = lo + (os.size : Int) - 1) && decide (-1000 ≤ lo) && decide (hi ≤ 1000)
  | _ => true
def ew_ioc (i : Instr) (cv : Int32) : Bool := match i with
  | .iconst n => decide (Int32.ofInt n = cv)
  | .bipush n => decide ((Int8.ofInt n).toInt32 = cv)
  | .sipush n => decide ((Int16.ofInt n).toInt32 = cv)
  | .iinc _ n => decide (Int32.ofInt n = cv)
  | _ => true
def ew_okb (cc : ByteArray) (x : Nat) (q : Instr × Nat × Nat × Int32) : Bool := match decode cc x with
  | .ok (i, n) => decide (i = q.1) && (Nat.beq q.2.1 (x + n) && (ew_ist i n && (ew_ioj i x q.2.2.1 && ew_ioc i q.2.2.2)))
  | _ => false
theorem ew_okb_spec {cc : ByteArray} {x : Nat} {i : Instr} {nx tg : Nat} {cv : Int32} (h : ew_okb cc x (i, nx, tg, cv) = true) : ∃ n, decode cc x = .ok (i, n) ∧ nx = x + n ∧ ew_ist i n = true ∧ ew_ioj i x tg = true ∧ ew_ioc i cv = true := by
  unfold ew_okb at h
  split at h
  · rename_i i' n hd
    simp only [Bool.and_eq_true, decide_eq_true_eq] at h
    obtain ⟨rfl, h2, h3, h4, h5⟩ := h
    exact ⟨n, hd, Nat.eq_of_beq_eq_true h2, h3, h4, h5⟩
  · cases h
/-- a method's returns are of its type -/
def ew_okr (y : Nat) (i : Instr) : Prop := match i with
  | .ireturn => (ew_rt y = some .int ∧ et_bl y = false) ∨ (ew_rt y = some .boolean ∧ et_bl y = true)
  | .lreturn => ew_rt y = some .long
  | .dreturn => ew_rt y = some .double
  | .areturn => ∃ t, ew_rt y = some t ∧ ((∃ n, t = .object n) ∨ ∃ u, t = .array u)
  | .return_ => ew_rt y = none
  | _ => True
def ew_mathW : List Cond := [.static Lib.Math.max.name, .initialized "java/lang/Math", .code Lib.Math.max.name Lib.Math.max.code 2 (some .int), .static Lib.Math.min.name, .code Lib.Math.min.name Lib.Math.min.code 2 (some .int)]
def ew_absW : List Cond := [.static Lib.Math.abs.name, .initialized "java/lang/Math", .code Lib.Math.abs.name Lib.Math.abs.code 1 (some .int)]
/-- what the tables are checked for -/
def ew_Tab (NW : List Cond) (Wd : State → Prop) : Prop :=
  (∀ y x q, ew_pg y x = some q → ew_okb (ew_cd y) x q = true) ∧
  (∀ cl x q, et_fd cl x = some q → ew_FdP NW (ew_on cl) x q.1 q.2.1 q.2.2 ∧ q.1 < 17 ∧ (et_fn cl x = false → ew_FdP [] (ew_on cl) x q.1 q.2.1 q.2.2)) ∧
  (∀ ci r, vwCl[ci]? = some r → r.1 = ew_on ci ∧ ew_ClP ci r ∧ Cond.instantiable r.1 r.2.2 ∈ ew_TW ∧ Cond.initialized r.1 ∈ ew_TW) ∧
  (∀ cl x c, et_nw cl x = some c → (c < 17 → Cond.classLink (ew_on cl) x (ew_on c) ∈ ew_TW) ∧ (c = 17 → Cond.classLink (ew_on cl) x "[I" ∈ ew_TW) ∧ (c = 90 → Cond.classLink (ew_on cl) x "java/lang/Object" ∈ ew_TW)) ∧
  (∀ cl x z n c, et_md cl x = some (z, n, c) → z < 900 → et_wr z = false → ew_YP z ∧ (et_if cl x = false → ew_LP NW (ew_on cl) x z n ∧ (et_kd z = 1 → c < 17 ∧ (ew_nm z).cls = ew_on c ∧ Cond.selects (ew_nm z).cls (ew_nm z) (ew_nm z) ∈ ew_TW)) ∧
    (et_if cl x = true → c < 17 ∧ et_kd z = 1 ∧ ∃ xn : MethodName, Cond.methodLink (ew_on cl) x xn ∈ ew_TW ∧ Cond.selects (ew_on c) xn (ew_nm z) ∈ ew_TW ∧ (∀ U, Wd U → va_Fw (ew_on c) xn (ew_nm z) U) ∧ xn.cls ≠ "java/lang/invoke/MethodHandle" ∧ xn.cls ≠ "java/lang/invoke/VarHandle" ∧ (parseMethodDescriptor xn.desc).map (fun d => d.parameters.length) = some n)) ∧
  (∀ cl x n c, (et_md cl x = some (900, n, c) → Cond.methodLink (ew_on cl) x Lib.Math.max.name ∈ ew_TW) ∧ (et_md cl x = some (901, n, c) → Cond.methodLink (ew_on cl) x Lib.Math.min.name ∈ ew_TW) ∧ (et_md cl x = some (902, n, c) → Cond.methodLink (ew_on cl) x Lib.Math.abs.name ∈ ew_TW) ∧
    (et_md cl x = some (903, n, c) → Cond.methodLink (ew_on cl) x arraycopyName ∈ ew_TW) ∧ (et_md cl x = some (904, n, c) → n = 0 ∧ Cond.methodLink (ew_on cl) x objectInit ∈ ew_TW)) ∧
  (∀ w ∈ ew_mathW, w ∈ ew_TW) ∧ (∀ w ∈ ew_absW, w ∈ ew_TW) ∧ True ∧ (Cond.instanceMethod objectInit ∈ ew_TW ∧ Cond.code objectInit ⟨#[0xb1]⟩ 1 none ∈ ew_TW) ∧
  ((∀ cl x v, et_cl cl x = some v → Cond.constantLong (ew_on cl) x v ∈ ew_TW) ∧ ∀ cl x v, et_ci cl x = some v → Cond.constant (ew_on cl) x v ∈ ew_TW) ∧ (Cond.arrayClass .int ∈ ew_TW ∧ Cond.arrayClass .boolean ∈ ew_TW) ∧
  (∀ U, Wd U → ew_AA U ∧ va_AO "ChannelWinter$Breaker" U ∧ va_AO "ChannelWinter$Cell" U ∧ va_AO "ChannelWinter$Port" U ∧ va_AO "ChannelWinter$Ship" U) ∧
  (∀ cl x z n c, et_md cl x = some (z, n, c) → (et_wr z = true → et_kd z = 0 ∧ 185 ≤ z) ∧ (900 ≤ z → et_kd z = 9) ∧ (et_if cl x = true → z < 900 ∧ et_wr z = false ∧ 185 ≤ z)) ∧
  (∀ y x q, ew_pg y x = some q → x < 65535 ∧ ew_okr y q.1 ∧ plainName (ew_nm y).cls = true ∧ ew_on (et_cls y) = (ew_nm y).cls ∧ (et_ini y = true → (ew_nm y).name = "<init>")) ∧
  (∀ cl x z n c, et_md cl x = some (z, n, c) → z < 900 → ew_th z = true → et_if cl x = false → Cond.methodLink (ew_on cl) x (ew_nm z) ∈ ew_TW)
theorem ew_Call_get {d z : Nat} {as : List ew_V} {h : ew_H} {K : ew_R → ew_H → Prop} (g : ew_Call d z as h K) : ∃ r0 h0, ew_Call d z as h (fun r h => r = r0 ∧ h = h0) ∧ K r0 h0 := by
  cases d with
  | zero => exact g.elim
  | succ d =>
    rcases g with ⟨r0, h0, w0, k0⟩ | g
    · exact ⟨r0, h0, Or.inl ⟨r0, h0, w0, rfl, rfl⟩, k0⟩
    · exact g.elim
section ED
theorem ed_bin {f : Int32 → Int32 → Int32} {ls : List (Option ew_V)} {st : List ew_V} {h : ew_H} {nx : Nat} {n : ew_C ⊕ (Prop × ew_C × ew_C) ⊕ (Prop × ew_C) ⊕ (Nat × List ew_V × List ew_V × Nat) ⊕ (Prop × ew_R × ew_H) ⊕ (Int32 × Int32 × List ew_C × ew_C)} (hh : ew_bin f ls st h nx = some n) : ∃ x z st', st = ew_i z :: ew_i x :: st' ∧ n = .inl (nx, ls, ew_i (f x z) :: st', h) := by
  unfold ew_bin at hh
  split at hh
  · cases hh; exact ⟨_, _, _, rfl, rfl⟩
  · cases hh
theorem ed_binl {f : Int64 → Int64 → Int64} {ls : List (Option ew_V)} {st : List ew_V} {h : ew_H} {nx : Nat} {n : ew_C ⊕ (Prop × ew_C × ew_C) ⊕ (Prop × ew_C) ⊕ (Nat × List ew_V × List ew_V × Nat) ⊕ (Prop × ew_R × ew_H) ⊕ (Int32 × Int32 × List ew_C × ew_C)} (hh : ew_binl f ls st h nx = some n) : ∃ x z st', st = ew_j z :: ew_j x :: st' ∧ n = .inl (nx, ls, ew_j (f x z) :: st', h) := by
  unfold ew_binl at hh
  split at hh
  · cases hh; exact ⟨_, _, _, rfl, rfl⟩
  · cases hh
theorem ed_ld {t k : Nat} {ls : List (Option ew_V)} {st : List ew_V} {h : ew_H} {nx : Nat} {n : ew_C ⊕ (Prop × ew_C × ew_C) ⊕ (Prop × ew_C) ⊕ (Nat × List ew_V × List ew_V × Nat) ⊕ (Prop × ew_R × ew_H) ⊕ (Int32 × Int32 × List ew_C × ew_C)} (hh : ew_ld t ls st h nx k = some n) : ∃ v, ls[k]? = some (some v) ∧ Nat.beq (ew_tag v) t = true ∧ n = .inl (nx, ls, v :: st, h) := by
  unfold ew_ld at hh
  split at hh
  · rename_i v hv
    cases ht : Nat.beq (ew_tag v) t with
    | false => rw [ht] at hh; cases hh
    | true => rw [ht] at hh; cases hh; exact ⟨v, hv, ht, rfl⟩
  · cases hh
theorem ed_sto {t k : Nat} {ls : List (Option ew_V)} {st : List ew_V} {h : ew_H} {nx : Nat} {n : ew_C ⊕ (Prop × ew_C × ew_C) ⊕ (Prop × ew_C) ⊕ (Nat × List ew_V × List ew_V × Nat) ⊕ (Prop × ew_R × ew_H) ⊕ (Int32 × Int32 × List ew_C × ew_C)} (hh : ew_sto t ls st h nx k = some n) : ∃ v st', st = v :: st' ∧ Nat.beq (ew_tag v) t = true ∧
    (((t = 0 ∨ t = 3) ∧ k < ls.length ∧ n = .inl (nx, ew_st1 ls k v, st', h)) ∨ (¬ (t = 0 ∨ t = 3) ∧ k + 1 < ls.length ∧ n = .inl (nx, ew_st2 ls k v, st', h))) := by
  unfold ew_sto at hh
  split at hh
  · rename_i v st'
    cases ht : Nat.beq (ew_tag v) t with
    | false => rw [ht] at hh; cases hh
    | true =>
      rw [ht, cond_true] at hh
      refine ⟨v, st', rfl, ht, ?_⟩
      cases h03 : (Nat.beq t 0 || Nat.beq t 3) with
      | true =>
        rw [h03, cond_true] at hh
        cases hl : Nat.blt k ls.length with
        | false => rw [hl] at hh; cases hh
        | true =>
          rw [hl] at hh
          cases hh
          simp only [Bool.or_eq_true] at h03
          exact Or.inl ⟨h03.imp ew_beq ew_beq, Nat.le_of_ble_eq_true hl, rfl⟩
      | false =>
        rw [h03, cond_false] at hh
        cases hl : Nat.blt (k + 1) ls.length with
        | false => rw [hl] at hh; cases hh
        | true =>
          rw [hl] at hh
          cases hh
          refine Or.inr ⟨fun q => ?_, Nat.le_of_ble_eq_true hl, rfl⟩
          rcases q with rfl | rfl <;> cases h03
  · cases hh
end ED
