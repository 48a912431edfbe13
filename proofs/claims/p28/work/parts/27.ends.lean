/-! Ends: returns, throws. -/
def ew_xn (x : Nat) : String := match x with
  | 0 => "java/lang/IndexOutOfBoundsException"
  | 1 => "java/lang/IllegalArgumentException"
  | _ => "java/lang/IllegalStateException"
def ew_xs : List String := ["java/lang/RuntimeException", "java/lang/Exception"]
def ew_XC (G : va_G) (TY : Nat → ClassId) (sz : Nat) (H0 : Heap) (h : ew_H) (a : Nat → Nat → Nat) (x : Nat) (h' : ew_H) : String → State → State → Prop := fun E _ t => E = ew_xn x ∧ ∃ a', ew_ex h a a' ∧ ew_I G TY sz H0 a' h' t.heap
/-- method z throws x, with the objects h' then -/
def ew_Mx (l : Launch) (G : va_G) (TY : Nat → ClassId) (sz : Nat) (H0 : Heap) (CK : Nat → Nat → Option Nat) (Wd : State → Prop) (d z : Nat) (as : List ew_V) (h : ew_H) (x : Nat) (h' : ew_H) : Prop :=
  ∀ a, vx_Met l (ew_nm z) (ew_cw z :: ew_TW) (ew_rm d h h') (ew_Pc G TY sz H0 CK Wd as h a) (fun _ _ _ _ => False) (ew_XC G TY sz H0 h a x h') (h'.2.2.2.2.1 - h.2.2.2.2.1) (h'.2.2.2.2.2 - h.2.2.2.2.2) (fun q => sz ≤ q)
/-- what is told of a place where method y throws x: 'new' at pc, by the class's entry ik -/
def ew_XP (Wd : State → Prop) (y pc ik x : Nat) : Prop := ∃ (ic is sa : Nat) (text : String), Bundle.fit (ew_xn x) = true ∧ (∀ n ∈ ew_xs, Bundle.fit n = true) ∧ Cond.classLink (ew_on (et_cls y)) ik (ew_xn x) ∈ ew_TW ∧ Cond.initialized (ew_xn x) ∈ ew_TW ∧
  (∀ w ∈ vx_atS (ew_on (et_cls y)) ic (ew_xn x) ew_xs, w ∈ ew_TW ∨ (vx_ot w = true ∧ ∀ (U : State) (A : Array Value), Wd U → w.before A U = true)) ∧ (∀ U, Wd U → vk_R (ew_on (et_cls y)) is text sa U) ∧
  decode (ew_cd y) pc = .ok (.new ik, 3) ∧ decode (ew_cd y) (pc + 3) = .ok (.dup, 1) ∧
  ((decode (ew_cd y) (pc + 4) = .ok (.ldc is, 2) ∧ decode (ew_cd y) (pc + 6) = .ok (.invokespecial ic, 3) ∧ decode (ew_cd y) (pc + 9) = .ok (.athrow, 1)) ∨
   (decode (ew_cd y) (pc + 4) = .ok (.ldc_w is, 3) ∧ decode (ew_cd y) (pc + 7) = .ok (.invokespecial ic, 3) ∧ decode (ew_cd y) (pc + 10) = .ok (.athrow, 1)))
/-- the machine's own statics, and those of two arrays -/
def ew_ZP (CK : Nat → Nat → Option Nat) (Wd : State → Prop) (sz : Nat) (H0 : Heap) : Prop := H0.size = sz ∧ ∀ U, Wd U → vx_Zq Bundle.tN "UNASSIGNED_STACK" Bundle.steD (fun q => sz ≤ q) U H0 ∧ vx_Zq Bundle.tN "SUPPRESSED_SENTINEL" Bundle.listD (fun q => sz ≤ q) U H0
section GB
variable {p : Program} {l : Launch} {e : Env} {R : Room} {s : State} {m : MethodId} {args : Array Value} {below : List Frame} {meth : Method} {c0 : Code} {Q : State → Prop}
variable {G : va_G} {TY : Nat → ClassId} {sz : Nat} {H0 : Heap} {NW : List Cond} {Wd : State → Prop} {CK : Nat → Nat → Option Nat} {d y : Nat} {hS hE : ew_H} {aS : Nat → Nat → Nat}
variable {pc nx tg : Nat} {cv : Int32} {ls : List (Option ew_V)} {st : List ew_V} {h : ew_H} {i : Instr} {n : Nat} {r : ew_R}
theorem ew_I.more {a : Nat → Nat → Nat} {H H1 : Heap} (I : ew_I G TY sz H0 a h H) (hz : H.size ≤ H1.size) (hq : ∀ q : Nat, q < H.size → H1[q]? = H[q]?) (c t : Nat) : ew_I G TY sz H0 a (ew_pay h c t) H1 := by
  obtain ⟨i1, i2, i3, i4, i5, i6⟩ := I
  refine ⟨fun k i e => ?_, i2, fun k i s e => ?_, i4, Nat.le_trans i5 hz, fun q z => by rw [hq q (Nat.lt_of_lt_of_le z i5)]; exact i6 q z⟩
  · obtain ⟨c1, c2, c3, c4⟩ := i1 k i e
    exact ⟨ew_cell_kept c1 rfl (fun _ => rfl) rfl (hq _ c2), Nat.lt_of_lt_of_le c2 hz, c3, c4⟩
  · exact (i3 k i s e).le (ew_pay_le h c t)
theorem ew_sized {H : Heap} {locs : List Loc} {cells slots : Nat} {g : JFrame} (k : s.heap.size ≤ H.size → W p l e R s m args below meth c0 H locs cells slots Q g) : W p l e R s m args below meth c0 H locs cells slots Q g := by
  intro T hT X
  have h := (vx_frame X.same).1
  exact k (by rw [← hT]; exact h) T hT X
/-- a return -/
theorem ee_ret (X : ew_Cx p l e R s m args below meth c0 NW G TY Wd d y) (hr : meth.sig.returnType = ew_rt y) (hlocks : meth.locks = false) {v : Option ew_V} {ins : Instr} (hd : decode (ew_cd y) pc = .ok (ins, 1)) (hok : ew_okr y ins)
    (hv : (ins = .ireturn ∧ ∃ x, v = some (ew_i x) ∧ (et_bl y = true → x = 0 ∨ x = 1)) ∨ (ins = .lreturn ∧ ∃ x, v = some (ew_j x)) ∨ (ins = .dreturn ∧ ∃ x, v = some (.inl (.double x))) ∨ (ins = .areturn ∧ ∃ w, v = some w ∧ Nat.beq (ew_tag w) 3 = true) ∨ (ins = .return_ ∧ v = none)) :
    ew_Q p l e R s m args below meth c0 G TY sz H0 (MQ below (ew_Qc G TY sz H0 hS aS v hE) args s (hE.2.2.2.2.1 - hS.2.2.2.2.1) (hE.2.2.2.2.2 - hS.2.2.2.2.2) (fun q => sz ≤ q)) y hS hE aS (pc, ls, v.toList, hE) := by
  obtain ⟨hx, hb, hml, hown, hts, hW, hwd, hfr, hlo, hini⟩ := X
  intro hle
  refine ⟨ew_le.rf _, fun a H locs cells slots L hSt => ?_⟩
  obtain ⟨s1, s2, s3, s4, s5, s6, s7, s8, s9⟩ := hSt
  dsimp only at s1 s2 s6 s8 s9 ⊢
  have e1 : cells = hE.2.2.2.2.1 - hS.2.2.2.2.1 := by omega
  have e2 : slots = hE.2.2.2.2.2 - hS.2.2.2.2.2 := by omega
  subst e1; subst e2
  rcases hv with ⟨rfl, x, rfl, hbl⟩ | ⟨rfl, x, rfl⟩ | ⟨rfl, x, rfl⟩ | ⟨rfl, w, rfl, hw⟩ | ⟨rfl, rfl⟩
  · have hq : ∀ t : State, t.heap = H → s.WarmedH t.vm → ew_Qc G TY sz H0 hS aS (some (ew_i x)) hE args s (.returned (some (.int x))) t := fun t ht _ => ⟨a, s1, rfl, by rw [ht]; exact s2, fun w e => s6 w (by cases e; exact List.mem_cons_self)⟩
    rcases hok with ⟨o1, o2⟩ | ⟨o1, o2⟩
    · exact W.iret hx hb (hr.trans o1) hq s7 hd hlocks
    · exact W.zret hx hb (hr.trans o1) (by rcases hbl o2 with rfl | rfl <;> rfl) hq s7 hd hlocks
  · exact W.lret hx hb (hr.trans hok) (fun t ht _ => ⟨a, s1, rfl, by rw [ht]; exact s2, fun w e => s6 w (by cases e; exact List.mem_cons_self)⟩) s7 hd hlocks
  · exact W.dret hx hb (hr.trans hok) (fun t ht _ => ⟨a, s1, rfl, by rw [ht]; exact s2, fun w e => s6 w (by cases e; exact List.mem_cons_self)⟩) s7 hd hlocks
  · obtain ⟨rt, o1, o2⟩ := hok
    refine W.aret hx hb (hr.trans o1) o2 ?_ (fun t ht _ => ⟨a, s1, rfl, by rw [ht]; exact s2, fun w e => s6 w (by cases e; exact List.mem_cons_self)⟩) s7 hd hlocks
    rcases ew_tag3 hw with rfl | ⟨q, rfl⟩
    · exact Or.inl rfl
    · exact Or.inr ⟨_, rfl⟩
  · exact W.vret hx hb (hr.trans hok) (fun t ht _ => ⟨a, s1, rfl, by rw [ht]; exact s2, fun w e => by cases e⟩) s7 hd hlocks
/-- its own throw -/
theorem ee_throw (X : ew_Cx p l e R s m args below meth c0 NW G TY Wd d y) (hl : l.stackTraces = false) (hlocks : meth.locks = false) (hnt : ∀ x ∈ c0.exceptionTable.toList, False) (hZ : ew_ZP CK Wd sz H0) (hs0 : ∀ q : Nat, q < sz → s.heap[q]? = H0[q]?) {ik x : Nat} (hXP : ew_XP Wd y pc ik x) (hc8 : ew_cats st ≤ 20) (hE1 : ew_pay h 1 6 = hE)
    (hRc : hE.2.2.2.2.1 - hS.2.2.2.2.1 ≤ R.cells) (hRs : hE.2.2.2.2.2 - hS.2.2.2.2.2 ≤ R.slots) {Qc : Array Value → State → Outcome → State → Prop} :
    ew_Q p l e R s m args below meth c0 G TY sz H0 (vx_MQ below Qc (ew_XC G TY sz H0 hS aS x hE) args s (hE.2.2.2.2.1 - hS.2.2.2.2.1) (hE.2.2.2.2.2 - hS.2.2.2.2.2) (fun q => sz ≤ q)) y hS hE aS (pc, ls, st, h) := by
  obtain ⟨hx, hb, hml, hown, hts, hW, hwd, hfr, hlo, hini⟩ := X
  subst hE1
  intro hle
  refine ⟨ew_pay_le _ _ _, fun a H locs cells slots L hSt => ?_⟩
  obtain ⟨s1, s2, s3, s4, s5, s6, s7, s8, s9⟩ := hSt
  dsimp only at s1 s2 s6 s8 s9 ⊢
  refine ew_sized (fun hsz => ?_)
  obtain ⟨hZs, hZ2⟩ := hZ
  obtain ⟨z1, z2⟩ := hZ2 s hwd
  have k0 : ∀ a : Nat, a < H0.size → ¬ sz ≤ a → s.heap[a]? = H0[a]? := fun a h1 h2 => hs0 a (by omega)
  have hSv : va_S (fun q => sz ≤ q) s.heap H locs := ⟨hsz, fun q h1 h2 => by
    have h2' : q < sz := Nat.lt_of_not_le h2
    rw [s2.2.2.2.2.2 q h2', hs0 q h2'], s7⟩
  obtain ⟨ic, is, sa, text, x1, x2, x3, x4, x5, x6, x7, x8, x9⟩ := hXP
  have b1 := hle.2.1
  have b2 := hle.2.2
  have e1 : (ew_pay h 1 6).2.2.2.2.1 = h.2.2.2.2.1 + 1 := rfl
  have e2 : (ew_pay h 1 6).2.2.2.2.2 = h.2.2.2.2.2 + 6 := rfl
  rw [e1] at hRc ⊢
  rw [e2] at hRs ⊢
  dsimp only at b1 b2
  have hat : ∀ w ∈ vx_atS (ew_on (et_cls y)) ic (ew_xn x) ew_xs, w.before args s = true := fun w hw => by
    rcases x5 w hw with q | q
    · exact hts w q
    · exact q.2 s args hwd
  have hot : ∀ w ∈ ew_TW, vx_ot w = true := fun w hw => by
    unfold vx_ot
    rw [(List.mem_filter.mp hw).2, Bool.or_true]
  have hgood : ∀ w ∈ Cond.classLink (ew_on (et_cls y)) ik (ew_xn x) :: Cond.initialized (ew_xn x) :: vx_atS (ew_on (et_cls y)) ic (ew_xn x) ew_xs, vx_ot w = true := fun w hw => by
    rcases List.mem_cons.mp hw with rfl | hw
    · exact hot _ x3
    rcases List.mem_cons.mp hw with rfl | hw
    · exact hot _ x4
    rcases x5 w hw with q | q
    · exact hot w q
    · exact q.1
  have hxx : ∀ t : State, s.vm.Alike t.vm → H.size ≤ t.heap.size → (∀ q : Nat, q < H.size → t.heap[q]? = H[q]?) → ew_XC G TY sz H0 hS aS x (ew_pay h 1 6) (ew_xn x) s t := fun t _ t1 t2 => ⟨rfl, a, s1, s2.more t1 t2 1 6⟩
  have hcs : ((st.map (ew_c a)).map fun v => v.category).sum = ew_cats st := ew_cats_map a st
  rcases x9 with ⟨d4, d6, d9⟩ | ⟨d4, d7, d10⟩
  · exact vx_throwS hx hb hl hown x1 x2 (hts _ x3) (hts _ x4) (x6 s hwd) hat hgood (z1.kept k0) (z2.kept k0) hSv (by rw [hml]; exact s3.1) x7 x8 d4 d6 d9 (fun z hz => (hnt z hz).elim) (show 2 + 3 < R.frames by omega) (by rw [hcs]; show ew_cats st + (13 * 3 + 43) ≤ R.locals; omega) (by omega) (by omega) hlocks hxx s7 (by omega) (by omega)
  · exact vx_throwSW hx hb hl hown x1 x2 (hts _ x3) (hts _ x4) (x6 s hwd) hat hgood (z1.kept k0) (z2.kept k0) hSv (by rw [hml]; exact s3.1) x7 x8 d4 d7 d10 (fun z hz => (hnt z hz).elim) (show 2 + 3 < R.frames by omega) (by rw [hcs]; show ew_cats st + (13 * 3 + 43) ≤ R.locals; omega) (by omega) (by omega) hlocks hxx s7 (by omega) (by omega)
end GB
