section
-- ===== PART A: goes FIRST, ahead of the names: the tables' words, and 'selects' of the private methods out of them =====
/-- a private method of a class that the tables say can be made, by its rows of tables_1 -/
def lw_okq (q : MethodName × Nat) : Prop := (q.1.cls ≠ "java/lang/invoke/MethodHandle" ∧ q.1.cls ≠ "java/lang/invoke/VarHandle") ∧ Cond.instantiable q.1.cls q.2 ∈ tables_1 ∧ Cond.privateMethod q.1 ∈ tables_1 ∧ Cond.instanceMethod q.1 ∈ tables_1
theorem lw_p0 : lw_okq (⟨"java/lang/Throwable", "fillInStackTrace", "(I)Ljava/lang/Throwable;"⟩, 6) := ⟨⟨by decide +kernel, by decide +kernel⟩, List.mem_of_getElem? (i := 316) (by decide +kernel), List.mem_of_getElem? (i := 314) (by decide +kernel), List.mem_of_getElem? (i := 315) (by decide +kernel)⟩
theorem lw_p1 : lw_okq (⟨"ChannelWinter", "channelsNeeded", "(LChannelWinter$Ship;)I"⟩, 4) := ⟨⟨by decide +kernel, by decide +kernel⟩, List.mem_of_getElem? (i := 18) (by decide +kernel), List.mem_of_getElem? (i := 558) (by decide +kernel), List.mem_of_getElem? (i := 559) (by decide +kernel)⟩
theorem lw_p2 : lw_okq (⟨"ChannelWinter", "portCellOf", "(LChannelWinter$Ship;)I"⟩, 4) := ⟨⟨by decide +kernel, by decide +kernel⟩, List.mem_of_getElem? (i := 18) (by decide +kernel), List.mem_of_getElem? (i := 580) (by decide +kernel), List.mem_of_getElem? (i := 581) (by decide +kernel)⟩
theorem lw_p3 : lw_okq (⟨"ChannelWinter$Chart", "relax", "()Z"⟩, 2) := ⟨⟨by decide +kernel, by decide +kernel⟩, List.mem_of_getElem? (i := 244) (by decide +kernel), List.mem_of_getElem? (i := 588) (by decide +kernel), List.mem_of_getElem? (i := 589) (by decide +kernel)⟩
theorem lw_p4 : lw_okq (⟨"ChannelWinter$Chart", "cheapestNeighbour", "(I)I"⟩, 2) := ⟨⟨by decide +kernel, by decide +kernel⟩, List.mem_of_getElem? (i := 244) (by decide +kernel), List.mem_of_getElem? (i := 592) (by decide +kernel), List.mem_of_getElem? (i := 593) (by decide +kernel)⟩
theorem lw_p5 : lw_okq (⟨"ChannelWinter$Chart", "costAt", "(I)I"⟩, 2) := ⟨⟨by decide +kernel, by decide +kernel⟩, List.mem_of_getElem? (i := 244) (by decide +kernel), List.mem_of_getElem? (i := 599) (by decide +kernel), List.mem_of_getElem? (i := 600) (by decide +kernel)⟩
theorem lw_p6 : lw_okq (⟨"ChannelWinter$Sea", "drift", "(I)V"⟩, 7) := ⟨⟨by decide +kernel, by decide +kernel⟩, List.mem_of_getElem? (i := 68) (by decide +kernel), List.mem_of_getElem? (i := 659) (by decide +kernel), List.mem_of_getElem? (i := 660) (by decide +kernel)⟩
theorem lw_p7 : lw_okq (⟨"ChannelWinter$Sea", "moveBreaker", "(LChannelWinter$Breaker;)V"⟩, 7) := ⟨⟨by decide +kernel, by decide +kernel⟩, List.mem_of_getElem? (i := 68) (by decide +kernel), List.mem_of_getElem? (i := 684) (by decide +kernel), List.mem_of_getElem? (i := 685) (by decide +kernel)⟩
theorem lw_p8 : lw_okq (⟨"ChannelWinter$Sea", "moveShip", "(ILChannelWinter$Ports;)Z"⟩, 7) := ⟨⟨by decide +kernel, by decide +kernel⟩, List.mem_of_getElem? (i := 68) (by decide +kernel), List.mem_of_getElem? (i := 710) (by decide +kernel), List.mem_of_getElem? (i := 711) (by decide +kernel)⟩
theorem lw_p9 : lw_okq (⟨"ChannelWinter$Sea", "goFree", "(LChannelWinter$Ship;)I"⟩, 7) := ⟨⟨by decide +kernel, by decide +kernel⟩, List.mem_of_getElem? (i := 68) (by decide +kernel), List.mem_of_getElem? (i := 714) (by decide +kernel), List.mem_of_getElem? (i := 715) (by decide +kernel)⟩
theorem lw_p10 : lw_okq (⟨"ChannelWinter$Sea", "goBound", "(LChannelWinter$Ship;)I"⟩, 7) := ⟨⟨by decide +kernel, by decide +kernel⟩, List.mem_of_getElem? (i := 68) (by decide +kernel), List.mem_of_getElem? (i := 721) (by decide +kernel), List.mem_of_getElem? (i := 722) (by decide +kernel)⟩
def lw_privs_1 : List (MethodName × Nat) := [(⟨"java/lang/Throwable", "fillInStackTrace", "(I)Ljava/lang/Throwable;"⟩, 6), (⟨"ChannelWinter", "channelsNeeded", "(LChannelWinter$Ship;)I"⟩, 4), (⟨"ChannelWinter", "portCellOf", "(LChannelWinter$Ship;)I"⟩, 4), (⟨"ChannelWinter$Chart", "relax", "()Z"⟩, 2), (⟨"ChannelWinter$Chart", "cheapestNeighbour", "(I)I"⟩, 2), (⟨"ChannelWinter$Chart", "costAt", "(I)I"⟩, 2), (⟨"ChannelWinter$Sea", "drift", "(I)V"⟩, 7), (⟨"ChannelWinter$Sea", "moveBreaker", "(LChannelWinter$Breaker;)V"⟩, 7), (⟨"ChannelWinter$Sea", "moveShip", "(ILChannelWinter$Ports;)Z"⟩, 7), (⟨"ChannelWinter$Sea", "goFree", "(LChannelWinter$Ship;)I"⟩, 7), (⟨"ChannelWinter$Sea", "goBound", "(LChannelWinter$Ship;)I"⟩, 7)]
theorem lw_r1 : ∀ q ∈ lw_privs_1, lw_okq q := List.forall_mem_cons.mpr ⟨lw_p0, List.forall_mem_cons.mpr ⟨lw_p1, List.forall_mem_cons.mpr ⟨lw_p2, List.forall_mem_cons.mpr ⟨lw_p3, List.forall_mem_cons.mpr ⟨lw_p4, List.forall_mem_cons.mpr ⟨lw_p5, List.forall_mem_cons.mpr ⟨lw_p6, List.forall_mem_cons.mpr ⟨lw_p7, List.forall_mem_cons.mpr ⟨lw_p8, List.forall_mem_cons.mpr ⟨lw_p9, List.forall_mem_cons.mpr ⟨lw_p10, fun _ h => absurd h List.not_mem_nil⟩⟩⟩⟩⟩⟩⟩⟩⟩⟩⟩
def lw_privs : List (MethodName × Nat) := lw_privs_1
def lw_tbl : List Cond := k2_sels lw_privs ++ tables_1
theorem lw_privs_ok : ∀ q ∈ lw_privs, lw_okq q := lw_r1
end
section
/-! ===== BEGIN words of one list among another's, by their places ===== -/
theorem goodIn_r {big : List Cond} (ws : List Cond) (ps : List Nat) (hp : ws = ps.filterMap (fun i => big[i]?)) (h : ws.all goodWord = true) : GoodIn big ws := by
  intro w hw
  have h1 := List.all_eq_true.mp h w hw
  rw [hp] at hw
  obtain ⟨i, -, hi⟩ := List.mem_filterMap.mp hw
  have hm : w ∈ big := by first | exact List.mem_of_getElem? hi | exact List.getElem?_mem hi
  exact ⟨hm, good_of_word h1⟩
theorem goodIn_app {big a b : List Cond} (ha : GoodIn big a) (hb : GoodIn big b) : GoodIn big (a ++ b) := fun w h => (List.mem_append.mp h).elim (ha w) (hb w)
theorem goodIn_ca {big a b : List Cond} {c : Cond} (ha : GoodIn big (c :: a)) (hb : GoodIn big b) : GoodIn big (c :: (a ++ b)) := fun w h => (List.mem_cons.mp h).elim (fun e => ha w (List.mem_cons.mpr (Or.inl e))) (fun h => (List.mem_append.mp h).elim (fun h => ha w (List.mem_cons.mpr (Or.inr h))) (hb w))
theorem goodIn_sub {big ws : List Cond} (hm : ∀ w ∈ ws, w ∈ big) (h : ws.all goodWord = true) : GoodIn big ws := fun w hw => ⟨hm w hw, good_of_word (List.all_eq_true.mp h w hw)⟩
/-! ===== END ===== -/

/-! ===== BEGIN exceptions that leave a method, and their catching by the caller (launches without stack traces) ===== -/
section VXA
/-! The laws vx_back, vx_callV, vx_callS, vx_callSW, vx_throw0, vx_throwS follow proofs of the library, with one case more: JvmDerived/Free/Laws.lean (Back.of_free), Shelf42/LK1.lean (callV, callS), Shelf/KitTraced.lean (throwNew0V, throwNewS). -/
/-- where a method has thrown q: the class by its name, the cell, what was written, the world -/
def vx_T (XC : String → State → State → Prop) (st : State) (q : Addr) (t : State) (mc ms : Nat) (free : Addr → Prop) : Prop :=
  ∃ (E : String) (ce : Cell) (L : List Loc), XC E st t ∧ t.heap[q]? = some ce ∧ ce.vm = .none ∧ st.vm.findClass E = some ce.cls ∧ st.WarmedH t.vm ∧ st.sameButNew ({ t with vm := st.vm } : State) L mc ms ∧ ∀ z ∈ L, free z.base
def vx_Q (Qc : Array Value → State → Outcome → State → Prop) (XC : String → State → State → Prop) (mc ms : Nat) (free : Addr → Prop) : Array Value → State → Outcome → State → Prop := fun a st o t =>
  (Qc a st o t ∧ ∃ L, FrameEnd st o t L mc ms ∧ ∀ q ∈ L, free q.base) ∨ ∃ q, o = .threw q ∧ vx_T XC st q t mc ms free
/-- a callee that returns or throws -/
def vx_Met (l : Launch) (y : MethodName) (ws : List Cond) (rm : Room) (Pc : Array Value → State → Prop) (Qc : Array Value → State → Outcome → State → Prop) (XC : String → State → State → Prop) (mc ms : Nat) (free : Addr → Prop) : Prop :=
  MetFree l y (headSpec ws rm) Pc (fun _ _ _ _ _ => True) (vx_Q Qc XC mc ms free)
def vx_Post (XC : String → State → State → Prop) (mc ms : Nat) (free : Addr → Prop) : Pt → Array Value → Addr → Pt → Prop := fun A a q B =>
  ∃ (g : JFrame) (mk : MethodId) (t : State) (L : List Loc) (E : String) (ce : Cell), B.U.heap = t.heap ∧ B.U.vm = t.vm ∧ XC E (A.U.calling g mk a) t ∧ t.heap[q]? = some ce ∧ ce.vm = .none ∧ A.U.vm.findClass E = some ce.cls ∧ B.locs = A.locs ++ L ∧ (∀ z ∈ L, free z.base) ∧ B.cells = A.cells + mc ∧ B.slots = A.slots + ms
def vx_Back (l : Launch) (R : Room) (p : Program) (e : Env) (below : List Frame) (s : State) (sargs : Array Value) (y : MethodName) (len W9 : Nat)
    (Pre : Pt → Array Value → Prop) (Post : Pt → Array Value → Option Value → Pt → Prop) (PostX : Pt → Array Value → Addr → Pt → Prop) : Prop :=
  ∀ (m : MethodId) (meth : Method) (c : Code) (A : Pt) (g : JFrame) (ig : Instr) (mk : MethodId) (a : Array Value),
    Stand p l e R s m sargs below meth c A.U A.locs A.cells A.slots → g.method = m → g.locals.size = c.maxLocals → decode c.code g.pc = .ok (ig, len) →
    2 * g.monitorRoom + (g.stack.map fun v => v.category).sum ≤ W9 → A.U.methodNamed? y = some mk → Pre A a →
    (∃ (v : Option Value) (B : Pt), Stand p l e R s m sargs below meth c B.U B.locs B.cells B.slots ∧ Post A a v B ∧
      Steps p.tables e below (doInvoke e (A.U.setTop g) [] mk a).1 (B.U.setTop { g with pc := g.pc + len, stack := v.toList ++ g.stack })) ∨
    (∃ (q : Addr) (B : Pt), Stand p l e R s m sargs below meth c B.U B.locs B.cells B.slots ∧ PostX A a q B ∧
      Steps p.tables e below (doInvoke e (A.U.setTop g) [] mk a).1 ((B.U.setTop g).pushFrame (.throwing q)))
section Payer
variable {l : Launch} {R : Room} {p : Program} {e : Env} {below : List Frame} {s : State} {sargs : Array Value} {y : MethodName} {len W9 : Nat}
theorem vx_back {ws : List Cond} {rm : Room} {Pc : Array Value → State → Prop} {Qc : Array Value → State → Outcome → State → Prop} {XC : String → State → State → Prop} {mc ms : Nat} {free : Addr → Prop} {bytes : ByteArray} {maxL : Nat} {ret : Option FieldType}
    (hM : vx_Met l y ws rm Pc Qc XC mc ms free) (hblind : FrameBlind Pc) (hrc : rm.cells = mc) (hrs : rm.slots = ms)
    (hframes : rm.frames + 1 ≤ R.frames) (hlocals : W9 + (maxL + 11) + rm.locals ≤ R.locals)
    (hws : ∀ w ∈ ws, ∀ a' U, s.WarmedH U.vm → w.before a' U = true) (hcode : Cond.code y bytes maxL ret ∈ ws) (hinit : ∀ a' U, s.WarmedH U.vm → (Cond.initialized y.cls).before a' U = true) :
    vx_Back l R p e below s sargs y len W9 (PreOf R mc ms Pc) (PostOf Qc mc ms free) (vx_Post XC mc ms free) := by
  intro m meth c A g ig mk a X hg hsize hdg hW hn hp
  have h1 : (headSpec ws rm).pre.before a A.U = true := atoms_intro fun w hw => hws w hw _ _ X.warmed
  have h2 : (Cond.code y bytes maxL ret).before a A.U = true := hws _ hcode _ _ X.warmed
  have h3 : (Cond.initialized y.cls).before a A.U = true := hinit _ _ X.warmed
  have h4 : A.cells + (headSpec ws rm).room.cells ≤ R.cells := by rw [show (headSpec ws rm).room.cells = mc from hrc]; exact hp.1
  have h5 : A.slots + (headSpec ws rm).room.slots ≤ R.slots := by rw [show (headSpec ws rm).room.slots = ms from hrs]; exact hp.2.1
  have hPc : Pc a (A.U.calling g mk a) := hblind _ _ _ _ hp.2.2
  obtain ⟨U, Ls, c0, s0⟩ := A
  dsimp only [Pt.U, Pt.locs, Pt.cells, Pt.slots] at h1 h2 h3 h4 h5 X hn hPc ⊢
  obtain ⟨methY, cY, hmY, hcY, -, hlY, -, -, -, -⟩ := Cond.code_spec hn h2
  obtain ⟨kY, hkY, -⟩ := className_of_methodNamed hn
  have hinitY : kY.init = .initialized := Cond.initialized_spec (findClass_of_methodNamed hn) hkY h3
  have h : At U g.method c below := by rw [hg]; exact X.here
  have hlocals9 : W9 + (maxL + 11) + (headSpec ws rm).room.locals ≤ R.locals := hlocals
  have happ : (headSpec ws rm).appliesLoose y e.platform (U.calling g mk a) = true :=
    Spec.appliesLoose_calling (g := g) h hdg hn hkY hinitY
      (X.room_calling (g := g) (R' := (headSpec ws rm).room) hsize hmY hcY hframes (by rw [hlY]; omega) h4 h5) h1
  obtain ⟨mid, hmid⟩ := h.above
  have hfr : (U.setTop g).frames = (.java g :: mid) ++ below := by rw [State.frames_setTop' g h.top, hmid]; rfl
  obtain ⟨o, s₂, hsteps, -, hend, hq⟩ := Steps.callFree hM p X.admits X.cas X.clock (acts := []) hfr happ hPc trivial
  have hq' : vx_Q Qc XC mc ms free a (U.calling g mk a) o s₂ := hq
  rw [State.frames_setTop' g h.top] at hend
  obtain ⟨g₀, hg0⟩ := Option.isSome_iff_exists.mp h.top
  obtain ⟨r, hr⟩ := State.topJava?_eq_some.mp hg0
  have hr' : (({ U with heap := s₂.heap, slotsUsed := s₂.slotsUsed } : State).setVm s₂.vm).frames = .java g₀ :: r := hr
  rcases hq' with ⟨hqc, L, hfe, hL⟩ | ⟨q, rfl, E, ce, L, hx, hce, hcv, hcl, hW₂, hsm, hL⟩
  · obtain ⟨⟨v, rfl⟩, hW₂, e2, q2, q3, q4, q5, q6⟩ := id hfe
    have e3 : s₂ = ({ (U.calling g mk a).setFrames s₂.frames with heap := s₂.heap, slotsUsed := s₂.slotsUsed } : State).setVm s₂.vm := by
      have : s₂ = ({ s₂ with vm := (U.calling g mk a).vm } : State).setVm s₂.vm := rfl
      rw [e2] at this
      exact this
    obtain ⟨c₂, i₂, len₂, hc₂, hd₂, hf₂⟩ := hend
    have hW' : U.WarmedH s₂.vm := hW₂
    have hcc : c₂ = c := by
      have h1 : s₂.code? g.method = U.code? g.method := by
        rw [State.code?_eq, State.code?_eq, hW'.alike.method?]
      exact Option.some.inj (hc₂.symm.trans (h1.trans h.code))
    subst hcc
    have hlen : len₂ = len := by rw [hdg] at hd₂; cases hd₂; rfl
    subst hlen
    have hs₂ : s₂ = (({ U with heap := s₂.heap, slotsUsed := s₂.slotsUsed } : State).setVm s₂.vm).setTop { g with pc := g.pc + len₂, stack := v.toList ++ g.stack } := by
      refine e3.trans ?_
      rw [hf₂, State.calling_eq h.top, State.setFrames_setFrames, State.setTop_of_frames _ hr', hr]
      rfl
    have hsame : U.sameButNew ({ U with heap := s₂.heap, slotsUsed := s₂.slotsUsed } : State) L mc ms := by
      refine ⟨?_, q2, q3, q4, q5, q6⟩
      obtain ⟨t, ht, -⟩ := State.frames_cons hr
      show ({ U with heap := s₂.heap, slotsUsed := s₂.slotsUsed } : State) = { U.setFrames U.frames with heap := s₂.heap, slotsUsed := s₂.slotsUsed }
      rw [State.setFrames_self ht]
    subst hg
    refine Or.inl ⟨v, ⟨(({ U with heap := s₂.heap, slotsUsed := s₂.slotsUsed } : State).setVm s₂.vm), Ls ++ L, c0 + mc, s0 + ms⟩,
      ⟨X.admits, X.cas, X.clock, X.frames, X.room, X.hears, X.method, X.code, (X.here.setHeapUsed s₂.heap s₂.slotsUsed).setVm hW'.alike, X.tail, State.WarmedH.trans X.warmed hW', X.limits, X.bytes, X.same.trans (hsame.setVm s.vm)⟩,
      ⟨g, mk, s₂, L, rfl, rfl, hqc, rfl, hL, rfl, rfl⟩, ?_⟩
    show Steps p.tables e below _ ((({ U with heap := s₂.heap, slotsUsed := s₂.slotsUsed } : State).setVm s₂.vm).setTop { g with pc := g.pc + len₂, stack := v.toList ++ g.stack })
    rw [← hs₂]
    exact hsteps
  · obtain ⟨e2, q2, q3, q4, q5, q6⟩ := id hsm
    have e3 : s₂ = ({ (U.calling g mk a).setFrames s₂.frames with heap := s₂.heap, slotsUsed := s₂.slotsUsed } : State).setVm s₂.vm := by
      have : s₂ = ({ s₂ with vm := (U.calling g mk a).vm } : State).setVm s₂.vm := rfl
      rw [e2] at this
      exact this
    have hf₂ : s₂.frames = .throwing q :: .java g :: U.frames.tail := hend
    have hW' : U.WarmedH s₂.vm := hW₂
    have hs₂ : s₂ = ((({ U with heap := s₂.heap, slotsUsed := s₂.slotsUsed } : State).setVm s₂.vm).setTop g).pushFrame (.throwing q) := by
      refine e3.trans ?_
      rw [hf₂, State.calling_eq h.top, State.setFrames_setFrames, State.pushFrame, State.frames_setTop _ hr', State.setTop_of_frames _ hr', State.setFrames_setFrames, hr]
      rfl
    have hsame : U.sameButNew ({ U with heap := s₂.heap, slotsUsed := s₂.slotsUsed } : State) L mc ms := by
      refine ⟨?_, q2, q3, q4, q5, q6⟩
      obtain ⟨t, ht, -⟩ := State.frames_cons hr
      show ({ U with heap := s₂.heap, slotsUsed := s₂.slotsUsed } : State) = { U.setFrames U.frames with heap := s₂.heap, slotsUsed := s₂.slotsUsed }
      rw [State.setFrames_self ht]
    subst hg
    refine Or.inr ⟨q, ⟨(({ U with heap := s₂.heap, slotsUsed := s₂.slotsUsed } : State).setVm s₂.vm), Ls ++ L, c0 + mc, s0 + ms⟩,
      ⟨X.admits, X.cas, X.clock, X.frames, X.room, X.hears, X.method, X.code, (X.here.setHeapUsed s₂.heap s₂.slotsUsed).setVm hW'.alike, X.tail, State.WarmedH.trans X.warmed hW', X.limits, X.bytes, X.same.trans (hsame.setVm s.vm)⟩,
      ⟨g, mk, s₂, L, E, ce, rfl, rfl, hx, hce, hcv, hcl, rfl, hL, rfl, rfl⟩, ?_⟩
    show Steps p.tables e below _ (((({ U with heap := s₂.heap, slotsUsed := s₂.slotsUsed } : State).setVm s₂.vm).setTop g).pushFrame (.throwing q))
    rw [← hs₂]
    exact hsteps
end Payer
section Calls
variable {p : Program} {l : Launch} {e : Env} {R : Room} {s : State} {m : MethodId} {args : Array Value} {below : List Frame} {meth : Method} {c : Code} {T : State} {locs : List Loc} {cells slots : Nat}
theorem vx_callV (X : Stand p l e R s m args below meth c T locs cells slots) (hexec : p.tables.exec = Jvm.exec) {own C : String} {index : Nat} {y : MethodName} {bytes : ByteArray} {maxL : Nat} {ret : Option FieldType}
    (hown : s.vm.findClass own = some m.cls) (hlink : (Cond.methodLink own index y).before args s = true) (hinst : (Cond.instanceMethod y).before args s = true) (hsel : (Cond.selects C y y).before args s = true)
    (hcode : (Cond.code y bytes maxL ret).before args s = true) (hy : y.cls ≠ "java/lang/invoke/MethodHandle" ∧ y.cls ≠ "java/lang/invoke/VarHandle")
    {W9 : Nat} {Pre : Pt → Array Value → Prop} {Post : Pt → Array Value → Option Value → Pt → Prop} {PostX : Pt → Array Value → Addr → Pt → Prop} (hK : vx_Back l R p e below s args y 3 W9 Pre Post PostX)
    {b : Addr} {cellB : Cell} (hcell : T.heap[b]? = some cellB) (hobj : cellB.vm.isStatics = false) (hcls : s.vm.findClass C = some cellB.cls)
    {g : JFrame} (hg : g.method = m) (hsize : g.locals.size = c.maxLocals) {argsL rest : List Value} (hlen : ∀ sig, parseMethodDescriptor y.desc = some sig → argsL.length = sig.parameters.length)
    (hstack : g.stack = argsL.reverse ++ .ref b :: rest) (hW : 2 * g.monitorRoom + (rest.map fun v => v.category).sum ≤ W9) (hdg : decode c.code g.pc = .ok (.invokevirtual index, 3))
    (hpre : ∀ vm₁, s.WarmedH vm₁ → Pre ⟨T.setVm vm₁, locs, cells, slots⟩ (Value.ref b :: argsL).toArray) :
    (∃ (v : Option Value) (vm₁ : Vm) (B : Pt), s.WarmedH vm₁ ∧ Stand p l e R s m args below meth c B.U B.locs B.cells B.slots ∧ Post ⟨T.setVm vm₁, locs, cells, slots⟩ (Value.ref b :: argsL).toArray v B ∧
      ∀ target, Steps p.tables e below (B.U.setTop { g with pc := g.pc + 3, stack := v.toList ++ rest }) target → Steps p.tables e below (T.setTop g) target) ∨
    (∃ (q : Addr) (vm₁ : Vm) (B : Pt), s.WarmedH vm₁ ∧ Stand p l e R s m args below meth c B.U B.locs B.cells B.slots ∧ PostX ⟨T.setVm vm₁, locs, cells, slots⟩ (Value.ref b :: argsL).toArray q B ∧
      Steps p.tables e below (T.setTop g) ((B.U.setTop { g with stack := rest }).pushFrame (.throwing q))) := by
  obtain ⟨mk, methM, hnamed, hmethM, hstM, habM⟩ := Cond.instanceMethod_spec hinst
  obtain ⟨methM', cM, hmethM', -, -, -, -, -, -, hsigM⟩ := Cond.code_spec hnamed hcode
  cases hmethM.symm.trans hmethM'
  obtain ⟨c2, r2, m2, q1, q2, q3, q4, kP, hkP, hkPi⟩ := Cond.selects_spec hsel
  cases hcls.symm.trans q1
  cases (State.methodFound?_of_named hnamed hy).symm.trans q2
  cases hnamed.symm.trans q3
  have hselP : selectMethod e.platform s.vm cellB.cls mk = .method mk := by rw [Launch.admits_selectMethod X.admits]; exact q4
  obtain ⟨vm₁, X₁, hstep₁⟩ := X.invokevirtual hexec hown hlink hnamed hmethM hstM hkP hkPi hy (a := b) (cell := cellB) hcell
    (fun z h => by rw [h] at hobj; cases hobj) hselP hmethM habM hkP hkPi (g := g) hg (argsL := argsL) (rest := rest) (hlen _ hsigM) hstack hdg
  rcases hK m meth c ⟨T.setVm vm₁, locs, cells, slots⟩ { g with stack := rest } (.invokevirtual index) mk (Value.ref b :: argsL).toArray X₁ hg hsize hdg hW (X₁.named hnamed) (hpre vm₁ X₁.warmed) with ⟨v, B, X', hpost, hsteps⟩ | ⟨q, B, X', hpost, hsteps⟩
  · exact Or.inl ⟨v, vm₁, B, X₁.warmed, X', hpost, fun target h => hstep₁ _ fun acts => by rw [doInvoke_state]; exact hsteps.trans h⟩
  · exact Or.inr ⟨q, vm₁, B, X₁.warmed, X', hpost, hstep₁ _ fun acts => by rw [doInvoke_state]; exact hsteps⟩
theorem vx_callS (X : Stand p l e R s m args below meth c T locs cells slots) (hexec : p.tables.exec = Jvm.exec) {own : String} {index : Nat} {y : MethodName} {bytes : ByteArray} {maxL : Nat} {ret : Option FieldType}
    (hown : s.vm.findClass own = some m.cls) (hlink : (Cond.methodLink own index y).before args s = true) (hstat : (Cond.static y).before args s = true) (hinit : (Cond.initialized y.cls).before args s = true)
    (hcode : (Cond.code y bytes maxL ret).before args s = true) (hy : y.cls ≠ "java/lang/invoke/MethodHandle" ∧ y.cls ≠ "java/lang/invoke/VarHandle")
    {W9 : Nat} {Pre : Pt → Array Value → Prop} {Post : Pt → Array Value → Option Value → Pt → Prop} {PostX : Pt → Array Value → Addr → Pt → Prop} (hK : vx_Back l R p e below s args y 3 W9 Pre Post PostX)
    {g : JFrame} (hg : g.method = m) (hsize : g.locals.size = c.maxLocals) {argsL rest : List Value} (hlen : ∀ sig, parseMethodDescriptor y.desc = some sig → argsL.length = sig.parameters.length)
    (hstack : g.stack = argsL.reverse ++ rest) (hW : 2 * g.monitorRoom + (rest.map fun v => v.category).sum ≤ W9) (hdg : decode c.code g.pc = .ok (.invokestatic index, 3))
    (hpre : ∀ vm₁, s.WarmedH vm₁ → Pre ⟨T.setVm vm₁, locs, cells, slots⟩ argsL.toArray) :
    (∃ (v : Option Value) (vm₁ : Vm) (B : Pt), s.WarmedH vm₁ ∧ Stand p l e R s m args below meth c B.U B.locs B.cells B.slots ∧ Post ⟨T.setVm vm₁, locs, cells, slots⟩ argsL.toArray v B ∧
      ∀ target, Steps p.tables e below (B.U.setTop { g with pc := g.pc + 3, stack := v.toList ++ rest }) target → Steps p.tables e below (T.setTop g) target) ∨
    (∃ (q : Addr) (vm₁ : Vm) (B : Pt), s.WarmedH vm₁ ∧ Stand p l e R s m args below meth c B.U B.locs B.cells B.slots ∧ PostX ⟨T.setVm vm₁, locs, cells, slots⟩ argsL.toArray q B ∧
      Steps p.tables e below (T.setTop g) ((B.U.setTop { g with stack := rest }).pushFrame (.throwing q))) := by
  obtain ⟨mk, hnamed⟩ := Cond.code_named hcode
  obtain ⟨methM, cM, hmethM, -, -, -, -, -, -, hsigM⟩ := Cond.code_spec hnamed hcode
  have hstatic : methM.isStatic = true := Cond.static_spec hnamed hmethM hstat
  obtain ⟨kP, hkP, -⟩ := className_of_methodNamed hnamed
  have hinitP : kP.init = .initialized := Cond.initialized_spec (findClass_of_methodNamed hnamed) hkP hinit
  obtain ⟨vm₁, X₁, hstep₁⟩ := X.invokestatic hexec hown hlink hnamed hmethM hstatic hkP hinitP hy (g := g) hg (argsL := argsL) (rest := rest) (hlen _ hsigM) hstack hdg
  rcases hK m meth c ⟨T.setVm vm₁, locs, cells, slots⟩ { g with stack := rest } (.invokestatic index) mk argsL.toArray X₁ hg hsize hdg hW (X₁.named hnamed) (hpre vm₁ X₁.warmed) with ⟨v, B, X', hpost, hsteps⟩ | ⟨q, B, X', hpost, hsteps⟩
  · exact Or.inl ⟨v, vm₁, B, X₁.warmed, X', hpost, fun target h => hstep₁ _ fun acts => by rw [doInvoke_state]; exact hsteps.trans h⟩
  · exact Or.inr ⟨q, vm₁, B, X₁.warmed, X', hpost, hstep₁ _ fun acts => by rw [doInvoke_state]; exact hsteps⟩
end Calls
theorem vx_cls {s : State} {T : State} {vm₁ : Vm} {E : String} {k : ClassId} (hW : s.WarmedH vm₁) (h : (T.setVm vm₁).vm.findClass E = some k) : s.vm.findClass E = some k := by
  have h1 : vm₁.findClass E = some k := h
  rw [hW.alike.findClass] at h1
  exact h1
/-- the method's frame g, with q thrown over it -/
def vx_W (p : Program) (l : Launch) (e : Env) (R : Room) (s : State) (m : MethodId) (args : Array Value) (below : List Frame) (meth : Method) (c : Code) (H : Heap) (locs : List Loc) (cells slots : Nat) (Q : State → Prop) (g : JFrame) (q : Addr) : Prop :=
  ∀ T : State, T.heap = H → Stand p l e R s m args below meth c T locs cells slots → ∃ t, Steps p.tables e below ((T.setTop g).pushFrame (.throwing q)) t ∧ Q t
def vx_Run (p : Program) (l : Launch) (e : Env) (R : Room) (s : State) (m : MethodId) (args : Array Value) (below : List Frame) (meth : Method) (c : Code) (H : Heap) (locs : List Loc) (cells slots mc ms : Nat) (g : JFrame) (rest : List Value) (Qa : State → Outcome → State → Prop) (XC : String → State → State → Prop) (free : Addr → Prop) : Prop :=
  ∀ T : State, T.heap = H → Stand p l e R s m args below meth c T locs cells slots →
    (∃ (v : Option Value) (st₀ t T' : State) (L : List Loc), st₀.heap = H ∧ Stand p l e R s m args below meth c T' (locs ++ L) (cells + mc) (slots + ms) ∧ (∀ q ∈ L, free q.base) ∧ T'.heap = t.heap ∧ T'.vm = t.vm ∧ Qa st₀ (.returned v) t ∧
      Goes p e below T g T' { g with pc := g.pc + 3, stack := v.toList ++ rest }) ∨
    (∃ (q : Addr) (st₀ t T' : State) (L : List Loc) (E : String) (ce : Cell), st₀.heap = H ∧ Stand p l e R s m args below meth c T' (locs ++ L) (cells + mc) (slots + ms) ∧ (∀ z ∈ L, free z.base) ∧ T'.heap = t.heap ∧ T'.vm = t.vm ∧ XC E st₀ t ∧ t.heap[q]? = some ce ∧ ce.vm = .none ∧ s.vm.findClass E = some ce.cls ∧
      Steps p.tables e below (T.setTop g) ((T'.setTop { g with stack := rest }).pushFrame (.throwing q)))
def vx_X {S : Type} (px : S → Prop) (B : String → S → State → Prop) (A : Nat → Prop) : String → State → State → Prop := fun E st t => ∃ u : S, px u ∧ B E u t ∧ va_F A st t
section Runs
variable {p : Program} {l : Launch} {e : Env} {R : Room} {s : State} {m : MethodId} {args : Array Value} {below : List Frame} {meth : Method} {c : Code} {H : Heap} {locs : List Loc} {cells slots : Nat}
variable {y : MethodName} {bytes cc : ByteArray} {maxL nL mc ms n index : Nat} {ret : Option FieldType} {ws : List Cond} {rm : Room} {Pc : Array Value → State → Prop} {Qc : Array Value → State → Outcome → State → Prop} {XC : String → State → State → Prop} {free : Addr → Prop} {Ts : List Cond} {own C : String} {b : Addr} {As rest : List Value} {g : JFrame}
theorem vx_callBack (cb : CallB R s args own index y bytes maxL ret ws rm mc ms n) (hM : vx_Met l y ws rm Pc Qc XC mc ms free) (hbl : FrameBlind Pc) : vx_Back l R p e below s args y 3 8 (PreOf R mc ms Pc) (PostOf Qc mc ms free) (vx_Post XC mc ms free) := by
  obtain ⟨hrc, hrs, hfr, hlo, hws, hcw, -, hini, -⟩ := cb
  exact vx_back (bytes := bytes) (maxL := maxL) (ret := ret) hM hbl hrc hrs hfr hlo hws hcw (fun a' U hW => word_at hW (Or.inl (by first | rfl | simp [Cond.onTables, Cond.keeps, Cond.steady])) hini)
theorem vx_runV (S : CallFix p m c cc nL s args Ts own) (hM : vx_Met l y ws rm Pc Qc XC mc ms free) (cw : CallW R s args own C index y bytes maxL ret ws rm mc ms n) (hp : PreV s H C b Pc As)
    (hg : g.method = m) (hn : As.length = n) (hsize : g.locals.size = nL) (hstack : g.stack = As.reverse ++ .ref b :: rest) (hW : 2 * g.monitorRoom + (rest.map fun v => v.category).sum ≤ 8) (hdg : decode cc g.pc = .ok (.invokevirtual index, 3)) (hf : cells + mc ≤ R.cells ∧ slots + ms ≤ R.slots) :
    vx_Run p l e R s m args below meth c H locs cells slots mc ms g rest (Qc (Value.ref b :: As).toArray) XC free := by
  have hK : vx_Back l R p e below s args y 3 8 (PreOf R mc ms Pc) (PostOf Qc mc ms free) (vx_Post XC mc ms free) := vx_callBack cw.1 hM hp.1
  obtain ⟨⟨-, -, -, -, -, -, hcode, -, hy, hlen, hl⟩, hin, hse⟩ := cw
  obtain ⟨hx, hb, hml, ho, -⟩ := S
  obtain ⟨-, ⟨cellB, hcB, hoB, hclB⟩, hPc⟩ := hp
  intro T hT X
  rcases vx_callV X hx (C := C) (bytes := bytes) (maxL := maxL) (ret := ret) ho hl hin hse hcode hy hK (by rw [hT]; exact hcB) hoB hclB hg (hsize.trans hml.symm) (argsL := As) (rest := rest) (fun sig h => hn.trans (hlen sig h)) hstack hW (by rw [hb]; exact hdg)
    (fun vm₁ hW₁ => ⟨hf.1, hf.2, hPc (T.setVm vm₁) hT hW₁⟩) with ⟨v, vm₁, ⟨U', l2, c2, s2⟩, hW₁, X', ⟨g', mk, t, L, e1, e2, hq, h1, hL, h2, h3⟩, st⟩ | ⟨q, vm₁, ⟨U', l2, c2, s2⟩, hW₁, X', ⟨g', mk, t, L, E, ce, e1, e2, hq, hce, hcv, hcl, h1, hL, h2, h3⟩, st⟩
  · dsimp only [Pt.U, Pt.locs, Pt.cells, Pt.slots] at X' e1 e2 h1 h2 h3 st
    subst h1; subst h2; subst h3
    exact Or.inl ⟨v, (T.setVm vm₁).calling g' mk (Value.ref b :: As).toArray, t, U', L, hT, X', hL, e1, e2, hq, st⟩
  · dsimp only [Pt.U, Pt.locs, Pt.cells, Pt.slots] at X' e1 e2 h1 h2 h3 st hcl
    subst h1; subst h2; subst h3
    exact Or.inr ⟨q, (T.setVm vm₁).calling g' mk (Value.ref b :: As).toArray, t, U', L, E, ce, hT, X', hL, e1, e2, hq, hce, hcv, vx_cls hW₁ hcl, st⟩
theorem vx_runS (S : CallFix p m c cc nL s args Ts own) (hM : vx_Met l y ws rm Pc Qc XC mc ms free) (cw : CallB R s args own index y bytes maxL ret ws rm mc ms n ∧ (Cond.static y).before args s = true) (hp : PreS s H Pc As)
    (hg : g.method = m) (hn : As.length = n) (hsize : g.locals.size = nL) (hstack : g.stack = As.reverse ++ rest) (hW : 2 * g.monitorRoom + (rest.map fun v => v.category).sum ≤ 8) (hdg : decode cc g.pc = .ok (.invokestatic index, 3)) (hf : cells + mc ≤ R.cells ∧ slots + ms ≤ R.slots) :
    vx_Run p l e R s m args below meth c H locs cells slots mc ms g rest (Qc As.toArray) XC free := by
  have hK : vx_Back l R p e below s args y 3 8 (PreOf R mc ms Pc) (PostOf Qc mc ms free) (vx_Post XC mc ms free) := vx_callBack cw.1 hM hp.1
  obtain ⟨⟨-, -, -, -, -, -, hcode, hini, hy, hlen, hl⟩, hstt⟩ := cw
  obtain ⟨hx, hb, hml, ho, -⟩ := S
  intro T hT X
  rcases vx_callS X hx (bytes := bytes) (maxL := maxL) (ret := ret) ho hl hstt hini hcode hy hK hg (hsize.trans hml.symm) (argsL := As) (rest := rest) (fun sig h => hn.trans (hlen sig h)) hstack hW (by rw [hb]; exact hdg)
    (fun vm₁ hW₁ => ⟨hf.1, hf.2, hp.2 (T.setVm vm₁) hT hW₁⟩) with ⟨v, vm₁, ⟨U', l2, c2, s2⟩, hW₁, X', ⟨g', mk, t, L, e1, e2, hq, h1, hL, h2, h3⟩, st⟩ | ⟨q, vm₁, ⟨U', l2, c2, s2⟩, hW₁, X', ⟨g', mk, t, L, E, ce, e1, e2, hq, hce, hcv, hcl, h1, hL, h2, h3⟩, st⟩
  · dsimp only [Pt.U, Pt.locs, Pt.cells, Pt.slots] at X' e1 e2 h1 h2 h3 st
    subst h1; subst h2; subst h3
    exact Or.inl ⟨v, (T.setVm vm₁).calling g' mk As.toArray, t, U', L, hT, X', hL, e1, e2, hq, st⟩
  · dsimp only [Pt.U, Pt.locs, Pt.cells, Pt.slots] at X' e1 e2 h1 h2 h3 st hcl
    subst h1; subst h2; subst h3
    exact Or.inr ⟨q, (T.setVm vm₁).calling g' mk As.toArray, t, U', L, E, ce, hT, X', hL, e1, e2, hq, hce, hcv, vx_cls hW₁ hcl, st⟩
end Runs
section Rows
variable {p : Program} {l : Launch} {e : Env} {R : Room} {s : State} {m : MethodId} {args : Array Value} {below : List Frame} {meth : Method} {c : Code} {H : Heap} {locs : List Loc} {cells slots : Nat} {Q : State → Prop}
variable {mc ms : Nat} {free : Addr → Prop} {A0 A1 : Nat → Prop} {H0 : Heap} {a : Array Value} {pc : Nat} {ls : Array Slot} {st0 rest : List Value}
theorem vx_keep {st₀ t T' : State} {L : List Loc} (h0 : st₀.heap = H) (e1 : T'.heap = t.heap) (hS : va_S A0 H0 H locs) (hA : ∀ q, q < H.size → A1 q → A0 q) (hf : ∀ q, free q → A0 q) (hL : ∀ q ∈ L, free q.base) (hF : va_F A1 st₀ t) :
    H.size ≤ T'.heap.size ∧ (∀ q : Nat, q < H.size → ¬ A1 q → T'.heap[q]? = H[q]?) ∧ va_S A0 H0 T'.heap (locs ++ L) := by
  obtain ⟨hz, hk⟩ := hF
  rw [h0] at hz hk
  exact ⟨by rw [e1]; exact hz, fun q h1 h2 => by rw [e1]; exact hk q h1 h2,
    ⟨Nat.le_trans hS.1 (by rw [e1]; exact hz), fun q h1 h2 => by rw [e1, hk q (Nat.lt_of_lt_of_le h1 hS.1) (fun z => h2 (hA q (Nat.lt_of_lt_of_le h1 hS.1) z))]; exact hS.2.1 q h1 h2, fun q hq => by
      rcases List.mem_append.mp hq with h | h
      · exact hS.2.2 q h
      · exact hf _ (hL q h)⟩⟩
theorem vx_calli {S SX : Type} {post : Int32 → S → Prop} {px : SX → Prop} {B : S → State → Prop} {BX : String → SX → State → Prop} {AX : Nat → Prop} (hr : vx_Run p l e R s m args below meth c H locs cells slots mc ms (F0 m pc ls st0) rest (va_Qi post B A1 a) (vx_X px BX AX) free) (hS : va_S A0 H0 H locs) (hA : ∀ q, q < H.size → A1 q → A0 q) (hf : ∀ q, free q → A0 q) (hAX : ∀ q, q < H.size → AX q → A0 q)
    (kx : ∀ (E : String) (ce : Cell) (q9 : Addr) (u : SX) (t : State) (H1 : Heap) (locs1 : List Loc), t.heap = H1 → s.vm.Alike t.vm → px u → BX E u t → H.size ≤ H1.size → (∀ q : Nat, q < H.size → ¬ AX q → H1[q]? = H[q]?) → va_S A0 H0 H1 locs1 → H1[q9]? = some ce → ce.vm = .none → s.vm.findClass E = some ce.cls → vx_W p l e R s m args below meth c H1 locs1 (cells + mc) (slots + ms) Q (F0 m pc ls rest) q9)
    (kk : ∀ (r : Int32) (u : S) (t : State) (H1 : Heap) (locs1 : List Loc), t.heap = H1 → s.vm.Alike t.vm → post r u → B u t → H.size ≤ H1.size → (∀ q : Nat, q < H.size → ¬ A1 q → H1[q]? = H[q]?) → va_S A0 H0 H1 locs1 → W p l e R s m args below meth c H1 locs1 (cells + mc) (slots + ms) Q (F0 m (pc + 3) ls (.int r :: rest))) : W p l e R s m args below meth c H locs cells slots Q (F0 m pc ls st0) := by
  intro T hT X
  rcases hr T hT X with ⟨v, st₀, t, T', L, h0, X', hL, e1, e2, ⟨⟨r, u, hv, hp, hb⟩, hF⟩, st⟩ | ⟨q, st₀, t, T', L, E, ce, h0, X', hL, e1, e2, ⟨u, hp, hb, hF⟩, hce, hcv, hcl, st⟩
  · cases hv
    obtain ⟨k1, k2, k3⟩ := vx_keep h0 e1 hS hA hf hL hF
    obtain ⟨t2, a1, b1⟩ := kk r u t T'.heap (locs ++ L) e1.symm (by rw [← e2]; exact X'.warmed.alike) hp hb k1 k2 k3 T' rfl X'
    exact ⟨t2, st t2 a1, b1⟩
  · obtain ⟨k1, k2, k3⟩ := vx_keep h0 e1 hS hAX hf hL hF
    obtain ⟨t2, a1, b1⟩ := kx E ce q u t T'.heap (locs ++ L) e1.symm (by rw [← e2]; exact X'.warmed.alike) hp hb k1 k2 k3 (by rw [e1]; exact hce) hcv hcl T' rfl X'
    exact ⟨t2, st.trans a1, b1⟩
theorem vx_calll {S SX : Type} {post : Int64 → S → Prop} {px : SX → Prop} {B : S → State → Prop} {BX : String → SX → State → Prop} {AX : Nat → Prop} (hr : vx_Run p l e R s m args below meth c H locs cells slots mc ms (F0 m pc ls st0) rest (va_Ql post B A1 a) (vx_X px BX AX) free) (hS : va_S A0 H0 H locs) (hA : ∀ q, q < H.size → A1 q → A0 q) (hf : ∀ q, free q → A0 q) (hAX : ∀ q, q < H.size → AX q → A0 q)
    (kx : ∀ (E : String) (ce : Cell) (q9 : Addr) (u : SX) (t : State) (H1 : Heap) (locs1 : List Loc), t.heap = H1 → s.vm.Alike t.vm → px u → BX E u t → H.size ≤ H1.size → (∀ q : Nat, q < H.size → ¬ AX q → H1[q]? = H[q]?) → va_S A0 H0 H1 locs1 → H1[q9]? = some ce → ce.vm = .none → s.vm.findClass E = some ce.cls → vx_W p l e R s m args below meth c H1 locs1 (cells + mc) (slots + ms) Q (F0 m pc ls rest) q9)
    (kk : ∀ (r : Int64) (u : S) (t : State) (H1 : Heap) (locs1 : List Loc), t.heap = H1 → s.vm.Alike t.vm → post r u → B u t → H.size ≤ H1.size → (∀ q : Nat, q < H.size → ¬ A1 q → H1[q]? = H[q]?) → va_S A0 H0 H1 locs1 → W p l e R s m args below meth c H1 locs1 (cells + mc) (slots + ms) Q (F0 m (pc + 3) ls (.long r :: rest))) : W p l e R s m args below meth c H locs cells slots Q (F0 m pc ls st0) := by
  intro T hT X
  rcases hr T hT X with ⟨v, st₀, t, T', L, h0, X', hL, e1, e2, ⟨⟨r, u, hv, hp, hb⟩, hF⟩, st⟩ | ⟨q, st₀, t, T', L, E, ce, h0, X', hL, e1, e2, ⟨u, hp, hb, hF⟩, hce, hcv, hcl, st⟩
  · cases hv
    obtain ⟨k1, k2, k3⟩ := vx_keep h0 e1 hS hA hf hL hF
    obtain ⟨t2, a1, b1⟩ := kk r u t T'.heap (locs ++ L) e1.symm (by rw [← e2]; exact X'.warmed.alike) hp hb k1 k2 k3 T' rfl X'
    exact ⟨t2, st t2 a1, b1⟩
  · obtain ⟨k1, k2, k3⟩ := vx_keep h0 e1 hS hAX hf hL hF
    obtain ⟨t2, a1, b1⟩ := kx E ce q u t T'.heap (locs ++ L) e1.symm (by rw [← e2]; exact X'.warmed.alike) hp hb k1 k2 k3 (by rw [e1]; exact hce) hcv hcl T' rfl X'
    exact ⟨t2, st.trans a1, b1⟩
theorem vx_callf {S SX : Type} {post : UInt32 → S → Prop} {px : SX → Prop} {B : S → State → Prop} {BX : String → SX → State → Prop} {AX : Nat → Prop} (hr : vx_Run p l e R s m args below meth c H locs cells slots mc ms (F0 m pc ls st0) rest (va_Qf post B A1 a) (vx_X px BX AX) free) (hS : va_S A0 H0 H locs) (hA : ∀ q, q < H.size → A1 q → A0 q) (hf : ∀ q, free q → A0 q) (hAX : ∀ q, q < H.size → AX q → A0 q)
    (kx : ∀ (E : String) (ce : Cell) (q9 : Addr) (u : SX) (t : State) (H1 : Heap) (locs1 : List Loc), t.heap = H1 → s.vm.Alike t.vm → px u → BX E u t → H.size ≤ H1.size → (∀ q : Nat, q < H.size → ¬ AX q → H1[q]? = H[q]?) → va_S A0 H0 H1 locs1 → H1[q9]? = some ce → ce.vm = .none → s.vm.findClass E = some ce.cls → vx_W p l e R s m args below meth c H1 locs1 (cells + mc) (slots + ms) Q (F0 m pc ls rest) q9)
    (kk : ∀ (r : UInt32) (u : S) (t : State) (H1 : Heap) (locs1 : List Loc), t.heap = H1 → s.vm.Alike t.vm → post r u → B u t → H.size ≤ H1.size → (∀ q : Nat, q < H.size → ¬ A1 q → H1[q]? = H[q]?) → va_S A0 H0 H1 locs1 → W p l e R s m args below meth c H1 locs1 (cells + mc) (slots + ms) Q (F0 m (pc + 3) ls (.float r :: rest))) : W p l e R s m args below meth c H locs cells slots Q (F0 m pc ls st0) := by
  intro T hT X
  rcases hr T hT X with ⟨v, st₀, t, T', L, h0, X', hL, e1, e2, ⟨⟨r, u, hv, hp, hb⟩, hF⟩, st⟩ | ⟨q, st₀, t, T', L, E, ce, h0, X', hL, e1, e2, ⟨u, hp, hb, hF⟩, hce, hcv, hcl, st⟩
  · cases hv
    obtain ⟨k1, k2, k3⟩ := vx_keep h0 e1 hS hA hf hL hF
    obtain ⟨t2, a1, b1⟩ := kk r u t T'.heap (locs ++ L) e1.symm (by rw [← e2]; exact X'.warmed.alike) hp hb k1 k2 k3 T' rfl X'
    exact ⟨t2, st t2 a1, b1⟩
  · obtain ⟨k1, k2, k3⟩ := vx_keep h0 e1 hS hAX hf hL hF
    obtain ⟨t2, a1, b1⟩ := kx E ce q u t T'.heap (locs ++ L) e1.symm (by rw [← e2]; exact X'.warmed.alike) hp hb k1 k2 k3 (by rw [e1]; exact hce) hcv hcl T' rfl X'
    exact ⟨t2, st.trans a1, b1⟩
theorem vx_calld {S SX : Type} {post : UInt64 → S → Prop} {px : SX → Prop} {B : S → State → Prop} {BX : String → SX → State → Prop} {AX : Nat → Prop} (hr : vx_Run p l e R s m args below meth c H locs cells slots mc ms (F0 m pc ls st0) rest (va_Qd post B A1 a) (vx_X px BX AX) free) (hS : va_S A0 H0 H locs) (hA : ∀ q, q < H.size → A1 q → A0 q) (hf : ∀ q, free q → A0 q) (hAX : ∀ q, q < H.size → AX q → A0 q)
    (kx : ∀ (E : String) (ce : Cell) (q9 : Addr) (u : SX) (t : State) (H1 : Heap) (locs1 : List Loc), t.heap = H1 → s.vm.Alike t.vm → px u → BX E u t → H.size ≤ H1.size → (∀ q : Nat, q < H.size → ¬ AX q → H1[q]? = H[q]?) → va_S A0 H0 H1 locs1 → H1[q9]? = some ce → ce.vm = .none → s.vm.findClass E = some ce.cls → vx_W p l e R s m args below meth c H1 locs1 (cells + mc) (slots + ms) Q (F0 m pc ls rest) q9)
    (kk : ∀ (r : UInt64) (u : S) (t : State) (H1 : Heap) (locs1 : List Loc), t.heap = H1 → s.vm.Alike t.vm → post r u → B u t → H.size ≤ H1.size → (∀ q : Nat, q < H.size → ¬ A1 q → H1[q]? = H[q]?) → va_S A0 H0 H1 locs1 → W p l e R s m args below meth c H1 locs1 (cells + mc) (slots + ms) Q (F0 m (pc + 3) ls (.double r :: rest))) : W p l e R s m args below meth c H locs cells slots Q (F0 m pc ls st0) := by
  intro T hT X
  rcases hr T hT X with ⟨v, st₀, t, T', L, h0, X', hL, e1, e2, ⟨⟨r, u, hv, hp, hb⟩, hF⟩, st⟩ | ⟨q, st₀, t, T', L, E, ce, h0, X', hL, e1, e2, ⟨u, hp, hb, hF⟩, hce, hcv, hcl, st⟩
  · cases hv
    obtain ⟨k1, k2, k3⟩ := vx_keep h0 e1 hS hA hf hL hF
    obtain ⟨t2, a1, b1⟩ := kk r u t T'.heap (locs ++ L) e1.symm (by rw [← e2]; exact X'.warmed.alike) hp hb k1 k2 k3 T' rfl X'
    exact ⟨t2, st t2 a1, b1⟩
  · obtain ⟨k1, k2, k3⟩ := vx_keep h0 e1 hS hAX hf hL hF
    obtain ⟨t2, a1, b1⟩ := kx E ce q u t T'.heap (locs ++ L) e1.symm (by rw [← e2]; exact X'.warmed.alike) hp hb k1 k2 k3 (by rw [e1]; exact hce) hcv hcl T' rfl X'
    exact ⟨t2, st.trans a1, b1⟩
theorem vx_callv {S SX : Type} {post : S → Prop} {px : SX → Prop} {B : S → State → Prop} {BX : String → SX → State → Prop} {AX : Nat → Prop} (hr : vx_Run p l e R s m args below meth c H locs cells slots mc ms (F0 m pc ls st0) rest (va_Qv post B A1 a) (vx_X px BX AX) free) (hS : va_S A0 H0 H locs) (hA : ∀ q, q < H.size → A1 q → A0 q) (hf : ∀ q, free q → A0 q) (hAX : ∀ q, q < H.size → AX q → A0 q)
    (kx : ∀ (E : String) (ce : Cell) (q9 : Addr) (u : SX) (t : State) (H1 : Heap) (locs1 : List Loc), t.heap = H1 → s.vm.Alike t.vm → px u → BX E u t → H.size ≤ H1.size → (∀ q : Nat, q < H.size → ¬ AX q → H1[q]? = H[q]?) → va_S A0 H0 H1 locs1 → H1[q9]? = some ce → ce.vm = .none → s.vm.findClass E = some ce.cls → vx_W p l e R s m args below meth c H1 locs1 (cells + mc) (slots + ms) Q (F0 m pc ls rest) q9)
    (kk : ∀ (u : S) (t : State) (H1 : Heap) (locs1 : List Loc), t.heap = H1 → s.vm.Alike t.vm → post u → B u t → H.size ≤ H1.size → (∀ q : Nat, q < H.size → ¬ A1 q → H1[q]? = H[q]?) → va_S A0 H0 H1 locs1 → W p l e R s m args below meth c H1 locs1 (cells + mc) (slots + ms) Q (F0 m (pc + 3) ls (rest))) : W p l e R s m args below meth c H locs cells slots Q (F0 m pc ls st0) := by
  intro T hT X
  rcases hr T hT X with ⟨v, st₀, t, T', L, h0, X', hL, e1, e2, ⟨⟨u, hv, hp, hb⟩, hF⟩, st⟩ | ⟨q, st₀, t, T', L, E, ce, h0, X', hL, e1, e2, ⟨u, hp, hb, hF⟩, hce, hcv, hcl, st⟩
  · cases hv
    obtain ⟨k1, k2, k3⟩ := vx_keep h0 e1 hS hA hf hL hF
    obtain ⟨t2, a1, b1⟩ := kk u t T'.heap (locs ++ L) e1.symm (by rw [← e2]; exact X'.warmed.alike) hp hb k1 k2 k3 T' rfl X'
    exact ⟨t2, st t2 a1, b1⟩
  · obtain ⟨k1, k2, k3⟩ := vx_keep h0 e1 hS hAX hf hL hF
    obtain ⟨t2, a1, b1⟩ := kx E ce q u t T'.heap (locs ++ L) e1.symm (by rw [← e2]; exact X'.warmed.alike) hp hb k1 k2 k3 (by rw [e1]; exact hce) hcv hcl T' rfl X'
    exact ⟨t2, st.trans a1, b1⟩
/-- caught by the row x of this method's table; the rows ahead don't take it -/
theorem vx_catch {own name : String} {E : String} {ce : Cell} {q : Addr} (hown : s.vm.findClass own = some m.cls) (pre : List ExceptionTableEntry) (x : ExceptionTableEntry) (suf : List ExceptionTableEntry) (hsplit : c.exceptionTable.toList = pre ++ x :: suf)
    (hpass : ∀ z ∈ pre, covers z pc = false ∨ (z.catchType ≠ 0 ∧ ∃ nm : String, (Cond.classLink own z.catchType nm).before args s = true ∧ va_Nc E nm s)) (hx : covers x pc = true) (h0 : x.catchType ≠ 0)
    (hlink : (Cond.classLink own x.catchType name).before args s = true) (hcast : (Cond.castable E name).before args s = true) (hcell : H[q]? = some ce) (hv : ce.vm = .none) (hcl : s.vm.findClass E = some ce.cls)
    (kk : W p l e R s m args below meth c H locs cells slots Q (F0 m x.handlerPc ls [.ref q])) : vx_W p l e R s m args below meth c H locs cells slots Q (F0 m pc ls rest) q := by
  intro T hT X
  have hpl : e.platform.magicAccessors = ({} : Platform).magicAccessors := by rw [X.admits.platform]
  obtain ⟨c3, c4, hc3, hc4, hasg⟩ := Cond.castable_spec hcast
  cases Option.some.inj (hc3.symm.trans hcl)
  obtain ⟨c5, hc5, hcl5⟩ := Cond.classLink_spec hown hlink e.platform hpl
  cases Option.some.inj (hc4.symm.trans hc5)
  obtain ⟨vm', X', st⟩ := X.thenCaughtThrough q (g := F0 m pc ls rest) rfl (Steps.refl _) (by rw [hT]; exact hcell) (by rw [hv]; rfl) (by obtain ⟨k9, h9, -⟩ := Vm.findClass_spec hcl; exact ⟨k9, h9⟩) pre x suf hsplit
    (fun z hz => by
      rcases hpass z hz with h | ⟨hz0, nm, hl1, hn1⟩
      · exact Or.inl h
      · obtain ⟨c6, hc6, hcl6⟩ := Cond.classLink_spec hown hl1 e.platform hpl
        obtain ⟨a8, b8, h1, h2, h3⟩ := hn1
        cases Option.some.inj (h1.symm.trans hcl)
        cases Option.some.inj (h2.symm.trans hc6)
        exact Or.inr ⟨hz0, _, hcl6, h3⟩) hx (Or.inr ⟨h0, c4, hcl5, hasg⟩)
  obtain ⟨t, a1, b1⟩ := kk (T.setVm vm') hT X'
  exact ⟨t, st.trans a1, b1⟩
end Rows
section Ends
variable {p : Program} {l : Launch} {e : Env} {R : Room} {s : State} {m : MethodId} {args : Array Value} {below : List Frame} {meth : Method} {c : Code} {H : Heap} {locs : List Loc} {cells slots : Nat} {Q : State → Prop}
variable {mc ms : Nat} {free : Addr → Prop} {A0 A1 : Nat → Prop} {H0 : Heap} {a : Array Value} {ls : Array Slot} {st0 rest : List Value}
variable {Qc : Array Value → State → Outcome → State → Prop} {XC : String → State → State → Prop}
/-- what a body that may throw owes at its end -/
def vx_MQ (below : List Frame) (Qc : Array Value → State → Outcome → State → Prop) (XC : String → State → State → Prop) (a : Array Value) (s : State) (mc ms : Nat) (free : Addr → Prop) : State → Prop := fun t =>
  ∃ o, t.status = .running ∧ Ended t below o ∧ vx_Q Qc XC mc ms free a s o t
theorem vx_ret {g : JFrame} {mc ms : Nat} (k : W p l e R s m args below meth c H locs cells slots (MQ below Qc args s mc ms free) g) : W p l e R s m args below meth c H locs cells slots (vx_MQ below Qc XC args s mc ms free) g := by
  intro T hT X
  obtain ⟨t, a1, o, b1, b2, b3, b4⟩ := k T hT X
  exact ⟨t, a1, o, b1, b2, Or.inl ⟨b3, b4⟩⟩
/-- not caught here: it goes on to the caller -/
theorem vx_widen {g : JFrame} {q : Addr} {k n : Nat} (h1 : cells ≤ k) (h2 : slots ≤ n) (kk : vx_W p l e R s m args below meth c H locs k n Q g q) : vx_W p l e R s m args below meth c H locs cells slots Q g q := fun T hT X => kk T hT (stand_widen X h1 h2)
theorem vx_out {pc : Nat} {E : String} {ce : Cell} {q : Addr} {mc ms : Nat} (hout : ∀ x ∈ c.exceptionTable.toList, covers x pc = false) (hlocks : meth.locks = false) (hcell : H[q]? = some ce) (hv : ce.vm = .none) (hcl : s.vm.findClass E = some ce.cls)
    (hx : ∀ t : State, t.heap = H → s.vm.Alike t.vm → XC E s t) (hf : ∀ z ∈ locs, free z.base) (hc : cells ≤ mc) (hs : slots ≤ ms) :
    vx_W p l e R s m args below meth c H locs cells slots (vx_MQ below Qc XC args s mc ms free) (F0 m pc ls rest) q := by
  intro T hT X
  obtain ⟨st1, hrun, hend, hW, hsm⟩ := X.leaveThrown q (g := F0 m pc ls rest) rfl rfl rfl hout hlocks
  have hcell9 : (T.setFrames (.throwing q :: below)).heap[q]? = some ce := by
    show T.heap[q]? = some ce
    rw [hT]; exact hcell
  exact ⟨_, st1, .threw q, hrun, hend, Or.inr ⟨q, rfl, E, ce, locs, hx _ hT hW.alike, hcell9, hv, hcl, hW, hsm.mono hc hs, hf⟩⟩
theorem vx_frame {U : State} {k n : Nat} (h : s.sameButNew ({ U with vm := s.vm } : State) locs k n) : s.heap.size ≤ U.heap.size ∧ ∀ q : Nat, q < s.heap.size → (∀ z ∈ locs, z.base ≠ q) → U.heap[q]? = s.heap[q]? := by
  obtain ⟨-, h2, -, -, -, h6⟩ := h
  refine ⟨h2, fun q hq hz => ?_⟩
  obtain ⟨c9, e1, e2, e3, e4⟩ := h6 q _ (Array.getElem?_eq_getElem hq)
  have hs : c9.slots = (s.heap[q]).slots := Array.ext_getElem? fun i => e4 i fun hm => hz _ hm rfl
  have h9 : c9 = s.heap[q] := by
    rw [hs] at e2
    exact e2
  have e5 : U.heap[q]? = some c9 := e1
  rw [e5, h9, Array.getElem?_eq_getElem hq]
/-- the words of a throw but the four that speak of the heap -/
def vx_no (w : Cond) : Bool := decide (w ≠ .isRef (.static Bundle.tN "UNASSIGNED_STACK" Bundle.steD)) && decide (w ≠ .isRef (.static Bundle.tN "SUPPRESSED_SENTINEL" Bundle.listD)) && decide (w ≠ .laysStatic Bundle.tN "UNASSIGNED_STACK" Bundle.steD) && decide (w ≠ .laysStatic Bundle.tN "SUPPRESSED_SENTINEL" Bundle.listD)
def vx_at0 (own : String) (ic : Nat) (X : String) (names : List String) : List Cond := (Bundle.ownAtoms0 own ic X names).filter vx_no
def vx_atS (own : String) (ic : Nat) (X : String) (names : List String) : List Cond := (Bundle.ownAtoms own ic X names).filter vx_no
/-- a word that the tables alone decide, or a good one -/
def vx_ot (w : Cond) : Bool := w.onTables || goodWord w
theorem vx_ot_at {args a' : Array Value} {s U : State} {w : Cond} (hW : s.WarmedH U.vm) (hvm : s.vm = U.vm) (hg : vx_ot w = true) (h : w.before args s = true) : w.before a' U = true := by
  simp only [vx_ot, Bool.or_eq_true] at hg
  rcases hg with hg | hg
  · exact va_tabs hg hvm h
  · exact word_at hW (good_of_word hg) h
/-- a list's words: the good ones out of the method's own list, the others by premises of their own -/
theorem vx_hat {args : Array Value} {s : State} {L B : List Cond} (h1 : ∀ w ∈ L.filter goodWord, w.before args s = true) (h2 : ∀ w ∈ L.filter (fun w => !goodWord w), w ∈ B) (h3 : ∀ w ∈ B, w.before args s = true) : ∀ w ∈ L, w.before args s = true := by
  intro w hw
  by_cases g : goodWord w = true
  · exact h1 w (List.mem_filter.mpr ⟨hw, g⟩)
  · refine h3 w (h2 w (List.mem_filter.mpr ⟨hw, ?_⟩))
    show (!goodWord w) = true
    cases hgw : goodWord w
    · rfl
    · exact absurd hgw g
theorem vx_c {args : Array Value} {s : State} {w : Cond} {B : List Cond} (h : w.before args s = true) (t : ∀ w ∈ B, w.before args s = true) : ∀ w' ∈ w :: B, w'.before args s = true := fun w' h' => (List.mem_cons.mp h').elim (fun e => by rw [e]; exact h) (t w')
theorem vx_n {args : Array Value} {s : State} : ∀ w ∈ ([] : List Cond), w.before args s = true := fun _ h => nomatch h
theorem vx_own {args : Array Value} {s : State} {L : List Cond} (h1 : ∀ w ∈ L.filter vx_no, w.before args s = true)
    (hU : (Cond.isRef (.static Bundle.tN "UNASSIGNED_STACK" Bundle.steD)).before args s = true) (hN : (Cond.isRef (.static Bundle.tN "SUPPRESSED_SENTINEL" Bundle.listD)).before args s = true)
    (lU : (Cond.laysStatic Bundle.tN "UNASSIGNED_STACK" Bundle.steD).before args s = true) (lN : (Cond.laysStatic Bundle.tN "SUPPRESSED_SENTINEL" Bundle.listD).before args s = true) : ∀ w ∈ L, w.before args s = true := by
  intro w hw
  by_cases e1 : w = .isRef (.static Bundle.tN "UNASSIGNED_STACK" Bundle.steD)
  · rw [e1]; exact hU
  · by_cases e2 : w = .isRef (.static Bundle.tN "SUPPRESSED_SENTINEL" Bundle.listD)
    · rw [e2]; exact hN
    · by_cases e3 : w = .laysStatic Bundle.tN "UNASSIGNED_STACK" Bundle.steD
      · rw [e3]; exact lU
      · by_cases e4 : w = .laysStatic Bundle.tN "SUPPRESSED_SENTINEL" Bundle.listD
        · rw [e4]; exact lN
        · exact h1 w (List.mem_filter.mpr ⟨hw, by unfold vx_no; rw [decide_eq_true e1, decide_eq_true e2, decide_eq_true e3, decide_eq_true e4]; rfl⟩)
/-- where a static field lies, its class's statics cell in H -/
def vx_L (C n d : String) (A : Nat → Prop) (U : State) (H : Heap) : Prop := ∃ (c : ClassId) (k : Class) (i : Nat) (f : Field) (a : Nat) (cell : Cell), U.vm.findClass C = some c ∧ U.fieldFound? C n d = some (c, k, i, f) ∧ f.isStatic = true ∧ k.statics = some a ∧ H[a]? = some cell ∧ cell.vm.isStatics = true ∧ cell.cls = c ∧ f.slot < cell.slots.size ∧ k.staticTypes[f.slot]? = some f.type ∧ ¬ A a
theorem vx_L.moved {C n d : String} {A : Nat → Prop} {u U : State} {H : Heap} (hvm : u.vm.Alike U.vm) (h : vx_L C n d A u H) : vx_L C n d A U H := by
  obtain ⟨c, k, i, f, a, cell, h1, h2, h3, h4, h5, h6, h7, h8, h9, h10⟩ := h
  obtain ⟨k', hi', he⟩ := State.fieldFound?_setVm hvm h2
  exact ⟨c, k', i, f, a, cell, by rw [hvm.findClass]; exact h1, hi', h3, by rw [he]; exact h4, h5, h6, h7, h8, by rw [he]; exact h9, h10⟩
theorem vx_L.kept {C n d : String} {A : Nat → Prop} {U : State} {H H1 : Heap} (h : vx_L C n d A U H) (hq : ∀ a : Nat, a < H.size → ¬ A a → H1[a]? = H[a]?) : vx_L C n d A U H1 := by
  obtain ⟨c, k, i, f, a, cell, h1, h2, h3, h4, h5, h6, h7, h8, h9, h10⟩ := h
  exact ⟨c, k, i, f, a, cell, h1, h2, h3, h4, by rw [hq a (Array.getElem?_eq_some_iff.mp h5).1 h10]; exact h5, h6, h7, h8, h9, h10⟩
theorem vx_L.narrow {C n d : String} {A B : Nat → Prop} {U : State} {H : Heap} (h : vx_L C n d A U H) (hAB : ∀ q, B q → A q) : vx_L C n d B U H := by
  obtain ⟨c, k, i, f, a, cell, h1, h2, h3, h4, h5, h6, h7, h8, h9, h10⟩ := h
  exact ⟨c, k, i, f, a, cell, h1, h2, h3, h4, h5, h6, h7, h8, h9, fun z => h10 (hAB _ z)⟩
theorem vx_L.word {C n d : String} {A : Nat → Prop} {s : State} {args : Array Value} (h : vx_L C n d A s s.heap) : (Cond.laysStatic C n d).before args s = true := by
  obtain ⟨c, k, i, f, a, cell, h1, h2, h3, h4, h5, h6, h7, h8, h9, -⟩ := h
  show (Cond.laysStatic C n d).holds args s none s [] = true
  exact Cond.laysStatic_of h1 h2 h3 h4 h5 h6 h7 h8 h9
/-- .. and what it holds: null or some reference -/
def vx_Zq (C n d : String) (A : Nat → Prop) (U : State) (H : Heap) : Prop := va_Zq C n d A U H ∧ vx_L C n d A U H
theorem vx_Zq.moved {C n d : String} {A : Nat → Prop} {u U : State} {H : Heap} (hvm : u.vm.Alike U.vm) (h : vx_Zq C n d A u H) : vx_Zq C n d A U H := ⟨va_Zq.moved hvm h.1, vx_L.moved hvm h.2⟩
theorem vx_Zq.kept {C n d : String} {A : Nat → Prop} {U : State} {H H1 : Heap} (h : vx_Zq C n d A U H) (hq : ∀ a : Nat, a < H.size → ¬ A a → H1[a]? = H[a]?) : vx_Zq C n d A U H1 := ⟨va_Zq.kept h.1 hq, vx_L.kept h.2 hq⟩
theorem vx_Zq.narrow {C n d : String} {A B : Nat → Prop} {U : State} {H : Heap} (h : vx_Zq C n d A U H) (hAB : ∀ q, B q → A q) : vx_Zq C n d B U H := ⟨va_Zq.narrow h.1 hAB, vx_L.narrow h.2 hAB⟩
theorem vx_Zqof {args : Array Value} {s : State} {C n d : String} {A : Nat → Prop} (hl : (Cond.laysStatic C n d).before args s = true) (hini : (Cond.initialized C).before args s = true) (h : (Cond.isRef (.static C n d)).before args s = true) (hA : ∀ a : Nat, a < s.heap.size → ¬ A a) : vx_Zq C n d A s s.heap := by
  refine ⟨va_Zqof hl hini h hA, ?_⟩
  obtain ⟨c, k, i, f, a, cell, h1, h2, h3, h4, h5, h6, h7, h8, h9⟩ := Cond.laysStatic_spec hl
  exact ⟨c, k, i, f, a, cell, h1, h2, h3, h4, h5, h6, h7, h8, h9, hA a (Array.getElem?_eq_some_iff.mp h5).1⟩
theorem vx_isRef {C n d : String} {v : Value} {A : Nat → Prop} {s : State} {args : Array Value} (h : va_Z C n d v A s s.heap) (hv : v.isRef = true) : (Cond.isRef (.static C n d)).before args s = true := by
  obtain ⟨cf, kf, fi, f, a, cell, h1, h2, h3, h4, h5, h6, h7, -⟩ := h
  have he : (Term.static C n d).eval args s none [] s = some v := by
    simp [Term.eval, State.fieldNamed?, h1, h2, h4, h5, h6, h7]
  simp only [Cond.before, Cond.holds, Cond.value, he]
  cases v <;> simp_all [Value.isRef]
theorem vx_isRefq {C n d : String} {A : Nat → Prop} {s : State} {args : Array Value} (h : va_Zq C n d A s s.heap) : (Cond.isRef (.static C n d)).before args s = true := by
  rcases h with h | ⟨t, h⟩
  · exact vx_isRef h rfl
  · exact vx_isRef h rfl
/-- the same frame, seen from here: as if the method were called anew in this heap -/
theorem vx_rebase {T : State} (X : Stand p l e R s m args below meth c T locs cells slots) {R' : Room} (hf : R'.frames ≤ R.frames) (hl : R'.locals ≤ R.locals) (hc : cells + R'.cells ≤ R.cells) (hs : slots + R'.slots ≤ R.slots) :
    Stand p l e R' ((T.setVm s.vm).setFrames (.invoking m args :: below)) m args below meth c T [] 0 0 := by
  have htop : (T.setVm s.vm).topJava?.isSome := X.here.top
  have hF : ((T.setVm s.vm).setFrames (.invoking m args :: below)).frames = .invoking m args :: below := State.frames_setFrames _ (State.cur_lt_of_top htop)
  obtain ⟨g₀, hg0⟩ := Option.isSome_iff_exists.mp htop
  obtain ⟨r, hr⟩ := State.topJava?_eq_some.mp hg0
  have hl9 : e.platform.stackLimits (T.setVm s.vm).me = e.platform.stackLimits s.me := X.limits
  have hb9 : (T.setVm s.vm).me.stackBytes = s.me.stackBytes := X.bytes
  refine ⟨X.admits, X.cas, X.clock, hF, ?_, X.hears, X.method, X.code, X.here, X.tail, X.warmed, ?_, ?_, ?_⟩
  · have h := X.room
    have hU : ((T.setVm s.vm).setFrames (.invoking m args :: below)).localsInUse = s.localsInUse := by
      rw [State.localsInUse_invoking hF (meth := meth) (c := c) X.method X.code, State.localsInUse_invoking X.frames X.method X.code]
    simp only [State.hasRoom, Bool.and_eq_true, decide_eq_true_eq] at h ⊢
    obtain ⟨⟨⟨⟨h1, h2, h3, h4, h5, h6⟩, h7⟩, h8⟩, h9⟩ := h
    rw [X.frames, List.length_cons] at h2 h3
    have q1 := X.heapSize
    have q2 := X.used
    simp only [hF, hU, List.length_cons, State.stackLimits_setFrames, State.stackBytes_setFrames, hl9, hb9]
    refine ⟨⟨⟨⟨by omega, by omega, by omega, by omega, by omega, h6⟩, ?_⟩, ?_⟩, X.book⟩
    · show T.heap.size + R'.cells ≤ e.platform.maxCells
      omega
    · show T.slotsUsed + R'.slots ≤ e.platform.maxSlots
      omega
  · rw [State.stackLimits_setFrames]; rfl
  · rw [State.stackBytes_setFrames]; rfl
  · refine ⟨?_, Nat.le_refl _, Nat.le_refl _, ?_, ?_, fun a c9 h9 => ⟨c9, h9, rfl, rfl, fun _ _ => rfl⟩⟩
    · obtain ⟨t, ht, -⟩ := State.frames_cons hr
      show T.setVm s.vm = { ((T.setVm s.vm).setFrames (.invoking m args :: below)).setFrames (T.setVm s.vm).frames with heap := T.heap, slotsUsed := T.slotsUsed }
      rw [State.setFrames_setFrames, State.setFrames_self ht]
      rfl
    · show T.slotsUsed = T.slotsUsed + ((T.heap.toList.drop T.heap.size).map (·.slots.size)).sum
      rw [List.drop_eq_nil_of_le (Nat.le_of_eq Array.length_toList)]
      rfl
    · show ((T.heap.toList.drop T.heap.size).map (·.slots.size)).sum ≤ 0
      rw [List.drop_eq_nil_of_le (Nat.le_of_eq Array.length_toList)]
      exact Nat.le_refl _
/-- 'throw new E()': new; dup; invokespecial; athrow -/
theorem vx_throw0 {cc : ByteArray} {pc : Nat} (hexec : p.tables.exec = Jvm.exec) (hb : c.code = cc) (hl : l.stackTraces = false) {own cls : String} {names : List String} {ik ic mc ms : Nat} {A : Nat → Prop}
    (hown : s.vm.findClass own = some m.cls) (hcls : Bundle.fit cls = true) (hnames : ∀ n ∈ names, Bundle.fit n = true)
    (hk : (Cond.classLink own ik cls).before args s = true) (hini : (Cond.initialized cls).before args s = true) (hat : ∀ w ∈ vx_at0 own ic cls names, w.before args s = true)
    (hgood : ∀ w ∈ Cond.classLink own ik cls :: Cond.initialized cls :: vx_at0 own ic cls names, vx_ot w = true)
    (hU : vx_Zq Bundle.tN "UNASSIGNED_STACK" Bundle.steD A s s.heap) (hN : vx_Zq Bundle.tN "SUPPRESSED_SENTINEL" Bundle.listD A s s.heap) (hS : va_S A s.heap H locs) (hsize : ls.size = c.maxLocals)
    (d0 : decode cc pc = .ok (.new ik, 3)) (d3 : decode cc (pc + 3) = .ok (.dup, 1)) (d4 : decode cc (pc + 4) = .ok (.invokespecial ic, 3)) (d7 : decode cc (pc + 7) = .ok (.athrow, 1))
    (hout : ∀ x ∈ c.exceptionTable.toList, covers x (pc + 7) = false)
    (hRframes : names.length + 3 < R.frames) (hRlocals : (rest.map fun v => v.category).sum + (13 * (names.length + 1) + 42) ≤ R.locals) (hRcells : cells + 1 ≤ R.cells) (hRslots : slots + 6 ≤ R.slots) (hlocks : meth.locks = false)
    (hx : ∀ t : State, s.vm.Alike t.vm → H.size ≤ t.heap.size → (∀ q : Nat, q < H.size → t.heap[q]? = H[q]?) → XC cls s t)
    (hf : ∀ z ∈ locs, free z.base) (hc : cells + 1 ≤ mc) (hs : slots + 6 ≤ ms) :
    W p l e R s m args below meth c H locs cells slots (vx_MQ below Qc XC args s mc ms free) (F0 m pc ls rest) := by
  intro T hT X
  have htr : e.platform.stackTraces = false := (show e.platform.stackTraces = l.stackTraces by rw [X.admits.platform]).trans hl
  have Y := vx_rebase X (R' := { frames := R.frames, locals := R.locals, cells := 1, slots := 6 }) (Nat.le_refl _) (Nat.le_refl _) hRcells hRslots
  obtain ⟨s', hA⟩ : ∃ z, z = (T.setVm s.vm).setFrames (.invoking m args :: below) := ⟨_, rfl⟩
  rw [← hA] at Y
  have hvm : s'.vm = s.vm := by rw [hA]; rfl
  have hhp : s'.heap = H := by rw [hA]; exact hT
  have hW0 : s.WarmedH s'.vm := by rw [hvm]; exact State.WarmedH.refl s
  have hat' : ∀ w ∈ vx_at0 own ic cls names, w.before args s' = true := fun w hw => vx_ot_at hW0 hvm.symm (hgood w (List.mem_cons_of_mem _ (List.mem_cons_of_mem _ hw))) (hat w hw)
  have hk' : (Cond.classLink own ik cls).before args s' = true := vx_ot_at hW0 hvm.symm (hgood _ List.mem_cons_self) hk
  have hini' : (Cond.initialized cls).before args s' = true := vx_ot_at hW0 hvm.symm (hgood _ (List.mem_cons_of_mem _ List.mem_cons_self)) hini
  have hU' : vx_Zq Bundle.tN "UNASSIGNED_STACK" Bundle.steD A s' s'.heap := by rw [hhp]; exact vx_Zq.moved hW0.alike (hU.kept hS.2.1)
  have hN' : vx_Zq Bundle.tN "SUPPRESSED_SENTINEL" Bundle.listD A s' s'.heap := by rw [hhp]; exact vx_Zq.moved hW0.alike (hN.kept hS.2.1)
  have h : ∀ w ∈ Bundle.ownAtoms0 own ic cls names, w.before args s' = true := vx_own hat' (vx_isRefq hU'.1) (vx_isRefq hN'.1) hU'.2.word hN'.2.word
  have hown' : s'.vm.findClass own = some m.cls := by rw [hvm]; exact hown
  have hins : (Cond.instantiable cls 6).before args s' = true := h _ (by simp [Bundle.ownAtoms0])
  obtain ⟨vm₁, cX, kX, hfX, hkX, -, -, X₁, st1⟩ := Y.newCold hexec (own := own) (C := cls) (index := ik) (n := 6) hown' hk' hins hini'
    (g := F0 m pc ls rest) rfl (by rw [hb]; exact d0) (Nat.le_refl _) (Nat.le_refl _)
  generalize hT1 : (T.setVm vm₁).pushCell { cls := cX, slots := kX.instanceTypes.map defaultValue, vm := .none } = T1 at X₁ st1
  have hcat : (Value.ref T.heap.size).category = 1 := rfl
  have hcellA : T1.heap[T.heap.size]? = some (freshCell cX kX) := by rw [← hT1]; exact State.heap_pushCell_size _ _
  have d3' : decode c.code (pc + 3) = .ok (.dup, 1) := by rw [hb]; exact d3
  obtain ⟨U, hsteps, hrun, hend, hW, hsame, ce, hce, hO⟩ := X₁.ctorThrow0 hexec htr (own := own) (cls := cls) (names := names) (ic := ic) hown' hcls hnames h (fun x hx => nomatch hx) hfX hkX hcellA (by rw [hhp, hT]; exact Nat.le_refl _)
    (g := { method := m, pc := pc + 4, locals := ls, stack := .ref T.heap.size :: .ref T.heap.size :: rest, locked := none }) rfl hsize rfl rfl (rest := rest) rfl
    (by rw [hb]; exact d4) (by rw [hb]; exact d7) hout hRframes (by simp only [List.map_cons, List.sum_cons, hcat]; omega) hlocks
  obtain ⟨f1, f2⟩ := vx_frame hsame
  rw [hhp] at f1 f2
  have hWs : s.WarmedH U.vm := State.WarmedH.trans hW0 hW
  have hcl : s.vm.findClass cls = some ce.cls := by
    have h9 := hO.cls
    rw [hvm] at h9
    exact h9
  have hall : s.sameButNew ({ U with vm := s.vm } : State) locs mc ms := by
    subst hA
    obtain ⟨e1, e2⟩ := hsame
    rw [State.setFrames_setFrames] at e1
    have h2 : (T.setVm s.vm).sameButNew ({ U with vm := s.vm } : State) [] (0 + 1) (0 + 6) := ⟨e1, e2⟩
    have h3 := X.same.trans h2
    rw [List.append_nil] at h3
    exact h3.mono hc hs
  refine ⟨U, ?_, .threw T.heap.size, hrun, hend, Or.inr ⟨T.heap.size, rfl, cls, ce, locs, hx U hWs.alike f1 (fun q hq => f2 q hq (fun z hz => nomatch hz)), hce, hO.vm, hcl, hWs, hall, hf⟩⟩
  refine st1 _ ?_
  show Steps p.tables e below (T1.setTop { method := m, pc := pc + 3, locals := ls, stack := .ref T.heap.size :: rest, locked := none }) _
  jvm_step X₁.here [X₁.here.top, hexec, d3', Value.category]
  exact hsteps
/-- 'throw new E("text")': new; dup; ldc; invokespecial; athrow -/
theorem vx_throwS {cc : ByteArray} {pc : Nat} (hexec : p.tables.exec = Jvm.exec) (hb : c.code = cc) (hl : l.stackTraces = false) {own cls text : String} {names : List String} {ik is ic mc ms sa : Nat} {A : Nat → Prop}
    (hown : s.vm.findClass own = some m.cls) (hcls : Bundle.fit cls = true) (hnames : ∀ n ∈ names, Bundle.fit n = true)
    (hk : (Cond.classLink own ik cls).before args s = true) (hini : (Cond.initialized cls).before args s = true) (hstr : vk_R own is text sa s) (hat : ∀ w ∈ vx_atS own ic cls names, w.before args s = true)
    (hgood : ∀ w ∈ Cond.classLink own ik cls :: Cond.initialized cls :: vx_atS own ic cls names, vx_ot w = true)
    (hU : vx_Zq Bundle.tN "UNASSIGNED_STACK" Bundle.steD A s s.heap) (hN : vx_Zq Bundle.tN "SUPPRESSED_SENTINEL" Bundle.listD A s s.heap) (hS : va_S A s.heap H locs) (hsize : ls.size = c.maxLocals)
    (d0 : decode cc pc = .ok (.new ik, 3)) (d3 : decode cc (pc + 3) = .ok (.dup, 1)) (d4 : decode cc (pc + 4) = .ok (.ldc is, 2)) (d6 : decode cc (pc + 6) = .ok (.invokespecial ic, 3)) (d9 : decode cc (pc + 9) = .ok (.athrow, 1))
    (hout : ∀ x ∈ c.exceptionTable.toList, covers x (pc + 9) = false)
    (hRframes : names.length + 3 < R.frames) (hRlocals : (rest.map fun v => v.category).sum + (13 * (names.length + 1) + 43) ≤ R.locals) (hRcells : cells + 1 ≤ R.cells) (hRslots : slots + 6 ≤ R.slots) (hlocks : meth.locks = false)
    (hx : ∀ t : State, s.vm.Alike t.vm → H.size ≤ t.heap.size → (∀ q : Nat, q < H.size → t.heap[q]? = H[q]?) → XC cls s t)
    (hf : ∀ z ∈ locs, free z.base) (hc : cells + 1 ≤ mc) (hs : slots + 6 ≤ ms) :
    W p l e R s m args below meth c H locs cells slots (vx_MQ below Qc XC args s mc ms free) (F0 m pc ls rest) := by
  intro T hT X
  have htr : e.platform.stackTraces = false := (show e.platform.stackTraces = l.stackTraces by rw [X.admits.platform]).trans hl
  have Y := vx_rebase X (R' := { frames := R.frames, locals := R.locals, cells := 1, slots := 6 }) (Nat.le_refl _) (Nat.le_refl _) hRcells hRslots
  obtain ⟨s', hA⟩ : ∃ z, z = (T.setVm s.vm).setFrames (.invoking m args :: below) := ⟨_, rfl⟩
  rw [← hA] at Y
  have hvm : s'.vm = s.vm := by rw [hA]; rfl
  have hhp : s'.heap = H := by rw [hA]; exact hT
  have hW0 : s.WarmedH s'.vm := by rw [hvm]; exact State.WarmedH.refl s
  have hat' : ∀ w ∈ vx_atS own ic cls names, w.before args s' = true := fun w hw => vx_ot_at hW0 hvm.symm (hgood w (List.mem_cons_of_mem _ (List.mem_cons_of_mem _ hw))) (hat w hw)
  have hk' : (Cond.classLink own ik cls).before args s' = true := vx_ot_at hW0 hvm.symm (hgood _ List.mem_cons_self) hk
  have hini' : (Cond.initialized cls).before args s' = true := vx_ot_at hW0 hvm.symm (hgood _ (List.mem_cons_of_mem _ List.mem_cons_self)) hini
  have hU' : vx_Zq Bundle.tN "UNASSIGNED_STACK" Bundle.steD A s' s'.heap := by rw [hhp]; exact vx_Zq.moved hW0.alike (hU.kept hS.2.1)
  have hN' : vx_Zq Bundle.tN "SUPPRESSED_SENTINEL" Bundle.listD A s' s'.heap := by rw [hhp]; exact vx_Zq.moved hW0.alike (hN.kept hS.2.1)
  have h : ∀ w ∈ Bundle.ownAtoms own ic cls names, w.before args s' = true := vx_own hat' (vx_isRefq hU'.1) (vx_isRefq hN'.1) hU'.2.word hN'.2.word
  have hown' : s'.vm.findClass own = some m.cls := by rw [hvm]; exact hown
  have hins : (Cond.instantiable cls 6).before args s' = true := h _ (by simp [Bundle.ownAtoms])
  obtain ⟨vm₁, cX, kX, hfX, hkX, -, -, X₁, st1⟩ := Y.newCold hexec (own := own) (C := cls) (index := ik) (n := 6) hown' hk' hins hini'
    (g := F0 m pc ls rest) rfl (by rw [hb]; exact d0) (Nat.le_refl _) (Nat.le_refl _)
  generalize hT1 : (T.setVm vm₁).pushCell { cls := cX, slots := kX.instanceTypes.map defaultValue, vm := .none } = T1 at X₁ st1
  have hcat : (Value.ref T.heap.size).category = 1 := rfl
  have hcellA : T1.heap[T.heap.size]? = some (freshCell cX kX) := by rw [← hT1]; exact State.heap_pushCell_size _ _
  have d3' : decode c.code (pc + 3) = .ok (.dup, 1) := by rw [hb]; exact d3
  have d4' : decode c.code (pc + 4) = .ok (.ldc is, 2) := by rw [hb]; exact d4
  have hstr' : vk_R own is text sa s' := vk_R.warm hW0 hstr
  obtain ⟨U, hsteps, hrun, hend, hW, hsame, ce, hce, hO⟩ := X₁.ctorThrowS hexec htr (own := own) (cls := cls) (names := names) (ic := ic) hown' hcls hnames h (fun x hx => nomatch hx) hfX hkX hcellA (by rw [hhp, hT]; exact Nat.le_refl _) (msg := .ref sa) rfl
    (g := { method := m, pc := pc + 6, locals := ls, stack := .ref sa :: .ref T.heap.size :: .ref T.heap.size :: rest, locked := none }) rfl hsize rfl rfl (rest := rest) rfl
    (by rw [hb]; exact d6) (by rw [hb]; exact d9) hout hRframes (by simp only [List.map_cons, List.sum_cons, hcat]; omega) hlocks
  obtain ⟨f1, f2⟩ := vx_frame hsame
  rw [hhp] at f1 f2
  have hWs : s.WarmedH U.vm := State.WarmedH.trans hW0 hW
  have hcl : s.vm.findClass cls = some ce.cls := by
    have h9 := hO.cls
    rw [hvm] at h9
    exact h9
  have hall : s.sameButNew ({ U with vm := s.vm } : State) locs mc ms := by
    subst hA
    obtain ⟨e1, e2⟩ := hsame
    rw [State.setFrames_setFrames] at e1
    have h2 : (T.setVm s.vm).sameButNew ({ U with vm := s.vm } : State) [] (0 + 1) (0 + 6) := ⟨e1, e2⟩
    have h3 := X.same.trans h2
    rw [List.append_nil] at h3
    exact h3.mono hc hs
  refine ⟨U, ?_, .threw T.heap.size, hrun, hend, Or.inr ⟨T.heap.size, rfl, cls, ce, locs, hx U hWs.alike f1 (fun q hq => f2 q hq (fun z hz => nomatch hz)), hce, hO.vm, hcl, hWs, hall, hf⟩⟩
  refine st1 _ ?_
  show Steps p.tables e below (T1.setTop { method := m, pc := pc + 3, locals := ls, stack := .ref T.heap.size :: rest, locked := none }) _
  jvm_step X₁.here [X₁.here.top, hexec, d3', Value.category]
  exact X₁.ldcString hexec (own := own) (text := text) (index := is) (a := sa) hown' hstr'.1 hstr'.2
    (g := { method := m, pc := pc + 4, locals := ls, stack := .ref T.heap.size :: .ref T.heap.size :: rest, locked := none }) rfl d4' _ hsteps
/-- 'throw new E("text")', the text by a wide index -/
theorem vx_throwSW {cc : ByteArray} {pc : Nat} (hexec : p.tables.exec = Jvm.exec) (hb : c.code = cc) (hl : l.stackTraces = false) {own cls text : String} {names : List String} {ik is ic mc ms sa : Nat} {A : Nat → Prop}
    (hown : s.vm.findClass own = some m.cls) (hcls : Bundle.fit cls = true) (hnames : ∀ n ∈ names, Bundle.fit n = true)
    (hk : (Cond.classLink own ik cls).before args s = true) (hini : (Cond.initialized cls).before args s = true) (hstr : vk_R own is text sa s) (hat : ∀ w ∈ vx_atS own ic cls names, w.before args s = true)
    (hgood : ∀ w ∈ Cond.classLink own ik cls :: Cond.initialized cls :: vx_atS own ic cls names, vx_ot w = true)
    (hU : vx_Zq Bundle.tN "UNASSIGNED_STACK" Bundle.steD A s s.heap) (hN : vx_Zq Bundle.tN "SUPPRESSED_SENTINEL" Bundle.listD A s s.heap) (hS : va_S A s.heap H locs) (hsize : ls.size = c.maxLocals)
    (d0 : decode cc pc = .ok (.new ik, 3)) (d3 : decode cc (pc + 3) = .ok (.dup, 1)) (d4 : decode cc (pc + 4) = .ok (.ldc_w is, 3)) (d7 : decode cc (pc + 7) = .ok (.invokespecial ic, 3)) (d10 : decode cc (pc + 10) = .ok (.athrow, 1))
    (hout : ∀ x ∈ c.exceptionTable.toList, covers x (pc + 10) = false)
    (hRframes : names.length + 3 < R.frames) (hRlocals : (rest.map fun v => v.category).sum + (13 * (names.length + 1) + 43) ≤ R.locals) (hRcells : cells + 1 ≤ R.cells) (hRslots : slots + 6 ≤ R.slots) (hlocks : meth.locks = false)
    (hx : ∀ t : State, s.vm.Alike t.vm → H.size ≤ t.heap.size → (∀ q : Nat, q < H.size → t.heap[q]? = H[q]?) → XC cls s t)
    (hf : ∀ z ∈ locs, free z.base) (hc : cells + 1 ≤ mc) (hs : slots + 6 ≤ ms) :
    W p l e R s m args below meth c H locs cells slots (vx_MQ below Qc XC args s mc ms free) (F0 m pc ls rest) := by
  intro T hT X
  have htr : e.platform.stackTraces = false := (show e.platform.stackTraces = l.stackTraces by rw [X.admits.platform]).trans hl
  have Y := vx_rebase X (R' := { frames := R.frames, locals := R.locals, cells := 1, slots := 6 }) (Nat.le_refl _) (Nat.le_refl _) hRcells hRslots
  obtain ⟨s', hA⟩ : ∃ z, z = (T.setVm s.vm).setFrames (.invoking m args :: below) := ⟨_, rfl⟩
  rw [← hA] at Y
  have hvm : s'.vm = s.vm := by rw [hA]; rfl
  have hhp : s'.heap = H := by rw [hA]; exact hT
  have hW0 : s.WarmedH s'.vm := by rw [hvm]; exact State.WarmedH.refl s
  have hat' : ∀ w ∈ vx_atS own ic cls names, w.before args s' = true := fun w hw => vx_ot_at hW0 hvm.symm (hgood w (List.mem_cons_of_mem _ (List.mem_cons_of_mem _ hw))) (hat w hw)
  have hk' : (Cond.classLink own ik cls).before args s' = true := vx_ot_at hW0 hvm.symm (hgood _ List.mem_cons_self) hk
  have hini' : (Cond.initialized cls).before args s' = true := vx_ot_at hW0 hvm.symm (hgood _ (List.mem_cons_of_mem _ List.mem_cons_self)) hini
  have hU' : vx_Zq Bundle.tN "UNASSIGNED_STACK" Bundle.steD A s' s'.heap := by rw [hhp]; exact vx_Zq.moved hW0.alike (hU.kept hS.2.1)
  have hN' : vx_Zq Bundle.tN "SUPPRESSED_SENTINEL" Bundle.listD A s' s'.heap := by rw [hhp]; exact vx_Zq.moved hW0.alike (hN.kept hS.2.1)
  have h : ∀ w ∈ Bundle.ownAtoms own ic cls names, w.before args s' = true := vx_own hat' (vx_isRefq hU'.1) (vx_isRefq hN'.1) hU'.2.word hN'.2.word
  have hown' : s'.vm.findClass own = some m.cls := by rw [hvm]; exact hown
  have hins : (Cond.instantiable cls 6).before args s' = true := h _ (by simp [Bundle.ownAtoms])
  obtain ⟨vm₁, cX, kX, hfX, hkX, -, -, X₁, st1⟩ := Y.newCold hexec (own := own) (C := cls) (index := ik) (n := 6) hown' hk' hins hini'
    (g := F0 m pc ls rest) rfl (by rw [hb]; exact d0) (Nat.le_refl _) (Nat.le_refl _)
  generalize hT1 : (T.setVm vm₁).pushCell { cls := cX, slots := kX.instanceTypes.map defaultValue, vm := .none } = T1 at X₁ st1
  have hcat : (Value.ref T.heap.size).category = 1 := rfl
  have hcellA : T1.heap[T.heap.size]? = some (freshCell cX kX) := by rw [← hT1]; exact State.heap_pushCell_size _ _
  have d3' : decode c.code (pc + 3) = .ok (.dup, 1) := by rw [hb]; exact d3
  have d4' : decode c.code (pc + 4) = .ok (.ldc_w is, 3) := by rw [hb]; exact d4
  have hstr' : vk_R own is text sa s' := vk_R.warm hW0 hstr
  obtain ⟨U, hsteps, hrun, hend, hW, hsame, ce, hce, hO⟩ := X₁.ctorThrowS hexec htr (own := own) (cls := cls) (names := names) (ic := ic) hown' hcls hnames h (fun x hx => nomatch hx) hfX hkX hcellA (by rw [hhp, hT]; exact Nat.le_refl _) (msg := .ref sa) rfl
    (g := { method := m, pc := pc + 7, locals := ls, stack := .ref sa :: .ref T.heap.size :: .ref T.heap.size :: rest, locked := none }) rfl hsize rfl rfl (rest := rest) rfl
    (by rw [hb]; exact d7) (by rw [hb]; exact d10) hout hRframes (by simp only [List.map_cons, List.sum_cons, hcat]; omega) hlocks
  obtain ⟨f1, f2⟩ := vx_frame hsame
  rw [hhp] at f1 f2
  have hWs : s.WarmedH U.vm := State.WarmedH.trans hW0 hW
  have hcl : s.vm.findClass cls = some ce.cls := by
    have h9 := hO.cls
    rw [hvm] at h9
    exact h9
  have hall : s.sameButNew ({ U with vm := s.vm } : State) locs mc ms := by
    subst hA
    obtain ⟨e1, e2⟩ := hsame
    rw [State.setFrames_setFrames] at e1
    have h2 : (T.setVm s.vm).sameButNew ({ U with vm := s.vm } : State) [] (0 + 1) (0 + 6) := ⟨e1, e2⟩
    have h3 := X.same.trans h2
    rw [List.append_nil] at h3
    exact h3.mono hc hs
  refine ⟨U, ?_, .threw T.heap.size, hrun, hend, Or.inr ⟨T.heap.size, rfl, cls, ce, locs, hx U hWs.alike f1 (fun q hq => f2 q hq (fun z hz => nomatch hz)), hce, hO.vm, hcl, hWs, hall, hf⟩⟩
  refine st1 _ ?_
  show Steps p.tables e below (T1.setTop { method := m, pc := pc + 3, locals := ls, stack := .ref T.heap.size :: rest, locked := none }) _
  jvm_step X₁.here [X₁.here.top, hexec, d3', Value.category]
  exact X₁.ldcStringW hexec (own := own) (text := text) (index := is) (a := sa) hown' hstr'.1 hstr'.2
    (g := { method := m, pc := pc + 4, locals := ls, stack := .ref T.heap.size :: .ref T.heap.size :: rest, locked := none }) rfl d4' _ hsteps
end Ends
section Bodies
variable {l : Launch}
theorem vx_ofW {y : MethodName} {ws ws' : List Cond} {rm : Room} {Pc : Array Value → State → Prop} {Qc : Array Value → State → Outcome → State → Prop} {XC : String → State → State → Prop} {mc ms : Nat} {free : Addr → Prop} {cc : ByteArray} {maxL : Nat} {ret : Option FieldType}
    (hy : plainName y.cls = true) (hw : ws = Cond.code y cc maxL ret :: ws')
    (body : ∀ p e s m args below meth c s₁, BodyLoose p l y (headSpec ws rm) cc maxL ret e s m args below meth c s₁ → c.maxLocals = maxL → (∀ x ∈ c.exceptionTable.toList, False) → Pc args s →
      W p l e (headSpec ws rm).room s m args below meth c s.heap [] 0 0 (vx_MQ below Qc XC args s mc ms free) (entryFrame m args maxL)) : vx_Met l y ws rm Pc Qc XC mc ms free := by
  refine MetFree.of_bodyS (code := cc) (maxLocals := maxL) (ret := ret) hy ?_ ?_
  · intro args s m h hn
    obtain ⟨meth, c, h1, h2, h3, h4, h5, h6, -, -⟩ := Cond.code_spec hn (atoms_spec (ws := ws) h _ (by rw [hw]; exact List.mem_cons_self))
    exact ⟨meth, c, h1, h2, h3, h4, h5, h6⟩
  · intro p e s m args below meth c s₁ B hml hP _
    have hh0 : s₁.heap = s.heap := by rw [B.state]; rfl
    have ht : ∀ x ∈ c.exceptionTable.toList, False := by
      obtain ⟨meth9, c9, h1, h2, -, -, -, -, h7, -⟩ := Cond.code_spec B.named (atoms_spec (ws := ws) B.pre _ (by rw [hw]; exact List.mem_cons_self))
      cases Option.some.inj (h1.symm.trans B.method)
      cases Option.some.inj (h2.symm.trans (Stand.of_body B).code)
      intro x hx
      rw [Array.isEmpty_iff.mp h7] at hx
      cases hx
    obtain ⟨t, a1, o, b1, b2, b3⟩ := body p e s m args below meth c s₁ B hml ht hP s₁ hh0 (Stand.of_body B)
    exact ⟨t, o, a1, b1, b2, b3⟩
/-- the table of a body with handlers -/
theorem vx_table {p : Program} {x y : MethodName} {S : Spec} {cc bytes : ByteArray} {maxL maxL' : Nat} {ret ret' : Option FieldType} {e : Env} {s s₁ : State} {m : MethodId} {args : Array Value} {below : List Frame} {meth : Method} {c : Code} {hh : List (Nat × Nat × Nat × Nat)}
    (B : BodyLoose p l y S cc maxL ret e s m args below meth c s₁) (h : (Cond.codeWith y bytes maxL' ret' hh).before args s = true) : c.exceptionTable.toList = tableOf hh := by
  obtain ⟨m9, meth9, c9, hn9, h1, h2, -, -, h6, -⟩ := Cond.codeWith_spec h
  cases Option.some.inj (hn9.symm.trans B.named)
  cases Option.some.inj (h1.symm.trans B.method)
  cases Option.some.inj (h2.symm.trans (Stand.of_body B).code)
  rw [← h6, table_eq]
end Bodies
end VXA
/-! ===== END ===== -/
/-! ===== BEGIN a static call of a method with an exception table ===== -/
section VXS
variable {p : Program} {l : Launch} {e : Env} {R : Room} {s : State} {m : MethodId} {args : Array Value} {below : List Frame} {meth : Method} {c : Code} {T : State} {H : Heap} {locs : List Loc} {cells slots : Nat}
abbrev vx_CSW (R : Room) (s : State) (args : Array Value) (own : String) (index : Nat) (y : MethodName) (bytes : ByteArray) (maxL : Nat) (ret : Option FieldType) (hh : List (Nat × Nat × Nat × Nat)) (ws : List Cond) (rm : Room) (mc ms n : Nat) : Prop :=
  (rm.cells = mc ∧ rm.slots = ms ∧ rm.frames + 1 ≤ R.frames ∧ 8 + (maxL + 11) + rm.locals ≤ R.locals ∧ (∀ w ∈ ws, ∀ (a' : Array Value) (U : State), s.WarmedH U.vm → w.before a' U = true) ∧ Cond.codeWith y bytes maxL ret hh ∈ ws) ∧
  (Cond.codeWith y bytes maxL ret hh).before args s = true ∧ (Cond.initialized y.cls).before args s = true ∧ (y.cls ≠ "java/lang/invoke/MethodHandle" ∧ y.cls ≠ "java/lang/invoke/VarHandle") ∧
  (∀ sig, parseMethodDescriptor y.desc = some sig → n = sig.parameters.length) ∧ (Cond.methodLink own index y).before args s = true ∧ (Cond.static y).before args s = true
theorem vx_cwSW {own : String} {index maxL mc ms : Nat} {y : MethodName} {bytes : ByteArray} {ret : Option FieldType} {hh : List (Nat × Nat × Nat × Nat)} {Ts ws ws' : List Cond} {rm : Room} (n : Nat) (ht : ∀ w ∈ Ts, w.before args s = true) (hT : GoodIn Ts (va_wsS own index y ws)) (hw : ws = Cond.codeWith y bytes maxL ret hh :: ws') (hrc : rm.cells = mc) (hrs : rm.slots = ms)
    (hd : y.cls ≠ "java/lang/invoke/MethodHandle" ∧ y.cls ≠ "java/lang/invoke/VarHandle" ∧ (parseMethodDescriptor y.desc).map (fun d => d.parameters.length) = some n) (hR : rm.frames + 1 ≤ R.frames ∧ 8 + (maxL + 11) + rm.locals ≤ R.locals) :
    vx_CSW R s args own index y bytes maxL ret hh ws rm mc ms n := by
  have ok : ∀ w ∈ va_wsS own index y ws, w.before args s = true := fun w h => ht w (hT w h).1
  have hG : GoodIn Ts ws := fun w h => hT w (by unfold va_wsS; exact List.mem_append_right _ h)
  have hc : Cond.codeWith y bytes maxL ret hh ∈ ws := by rw [hw]; exact List.mem_cons_self
  refine ⟨⟨hrc, hrs, hR.1, hR.2, pay_in ht hG, hc⟩, ht _ (hG _ hc).1, ok _ (by simp [va_wsS]), ⟨hd.1, hd.2.1⟩, fun sig h => ?_, ok _ (by simp [va_wsS]), ok _ (by simp [va_wsS])⟩
  have h2 := hd.2.2
  rw [h] at h2
  exact (Option.some.inj h2).symm
theorem vx_callSW (X : Stand p l e R s m args below meth c T locs cells slots) (hexec : p.tables.exec = Jvm.exec) {own : String} {index : Nat} {y : MethodName} {bytes : ByteArray} {maxL : Nat} {ret : Option FieldType} {hh : List (Nat × Nat × Nat × Nat)}
    (hown : s.vm.findClass own = some m.cls) (hlink : (Cond.methodLink own index y).before args s = true) (hstat : (Cond.static y).before args s = true) (hinit : (Cond.initialized y.cls).before args s = true)
    (hcode : (Cond.codeWith y bytes maxL ret hh).before args s = true) (hy : y.cls ≠ "java/lang/invoke/MethodHandle" ∧ y.cls ≠ "java/lang/invoke/VarHandle")
    {W9 : Nat} {Pre : Pt → Array Value → Prop} {Post : Pt → Array Value → Option Value → Pt → Prop} (hK : Back l R p e below s args y 3 W9 Pre Post)
    {g : JFrame} (hg : g.method = m) (hsize : g.locals.size = c.maxLocals) {argsL rest : List Value} (hlen : ∀ sig, parseMethodDescriptor y.desc = some sig → argsL.length = sig.parameters.length)
    (hstack : g.stack = argsL.reverse ++ rest) (hW : 2 * g.monitorRoom + (rest.map fun v => v.category).sum ≤ W9) (hdg : decode c.code g.pc = .ok (.invokestatic index, 3))
    (hpre : ∀ vm₁, s.WarmedH vm₁ → Pre ⟨T.setVm vm₁, locs, cells, slots⟩ argsL.toArray) :
    ∃ (v : Option Value) (vm₁ : Vm) (B : Pt), s.WarmedH vm₁ ∧ Stand p l e R s m args below meth c B.U B.locs B.cells B.slots ∧ Post ⟨T.setVm vm₁, locs, cells, slots⟩ argsL.toArray v B ∧
      ∀ target, Steps p.tables e below (B.U.setTop { g with pc := g.pc + 3, stack := v.toList ++ rest }) target → Steps p.tables e below (T.setTop g) target := by
  obtain ⟨mk, methM, cM, hnamed, hmethM, -, -, -, -, -, -, hsigM⟩ := Cond.codeWith_spec hcode
  have hstatic : methM.isStatic = true := Cond.static_spec hnamed hmethM hstat
  obtain ⟨kP, hkP, -⟩ := className_of_methodNamed hnamed
  have hinitP : kP.init = .initialized := Cond.initialized_spec (findClass_of_methodNamed hnamed) hkP hinit
  obtain ⟨vm₁, X₁, hstep₁⟩ := X.invokestatic hexec hown hlink hnamed hmethM hstatic hkP hinitP hy (g := g) hg (argsL := argsL) (rest := rest) (hlen _ hsigM) hstack hdg
  obtain ⟨v, B, X', hpost, hsteps⟩ := hK m meth c ⟨T.setVm vm₁, locs, cells, slots⟩ { g with stack := rest } (.invokestatic index) mk argsL.toArray X₁ hg hsize hdg hW (X₁.named hnamed) (hpre vm₁ X₁.warmed)
  exact ⟨v, vm₁, B, X₁.warmed, X', hpost, fun target h => hstep₁ _ fun acts => by rw [doInvoke_state]; exact hsteps.trans h⟩
theorem vx_runSW {y : MethodName} {bytes cc : ByteArray} {maxL nL mc ms n index : Nat} {ret : Option FieldType} {hh : List (Nat × Nat × Nat × Nat)} {ws : List Cond} {rm : Room} {Pc : Array Value → State → Prop} {Qc : Array Value → State → Outcome → State → Prop} {free : Addr → Prop} {Ts : List Cond} {own : String} {As rest : List Value} {g : JFrame}
    (S : CallFix p m c cc nL s args Ts own) (hM : Met l y ws rm Pc Qc mc ms free) (cw : vx_CSW R s args own index y bytes maxL ret hh ws rm mc ms n) (hp : PreS s H Pc As)
    (hg : g.method = m) (hn : As.length = n) (hsize : g.locals.size = nL) (hstack : g.stack = As.reverse ++ rest) (hW : 2 * g.monitorRoom + (rest.map fun v => v.category).sum ≤ 8) (hdg : decode cc g.pc = .ok (.invokestatic index, 3)) (hf : cells + mc ≤ R.cells ∧ slots + ms ≤ R.slots) :
    va_Run p l e R s m args below meth c H locs cells slots mc ms g rest (Qc As.toArray) (free) := by
  obtain ⟨⟨hrc, hrs, hfr, hlo, hws, hcw⟩, hcode, hini, hy, hlen, hl, hstt⟩ := cw
  have hK : Back l R p e below s args y 3 8 (PreOf R mc ms Pc) (PostOf Qc mc ms free) := va_backW (hh := hh) (bytes := bytes) (maxL := maxL) (ret := ret) hM hp.1 hrc hrs hfr hlo hws hcw (fun a' U hW => word_at hW (Or.inl (by first | rfl | simp [Cond.onTables, Cond.keeps, Cond.steady])) hini)
  obtain ⟨hx, hb, hml, ho, -⟩ := S
  intro T hT X
  obtain ⟨v, vm₁, ⟨U', l2, c2, s2⟩, hW₁, X', ⟨g', mk, t, L, e1, e2, hq, h1, hL, h2, h3⟩, st⟩ := vx_callSW X hx (hh := hh) (bytes := bytes) (maxL := maxL) (ret := ret) ho hl hstt hini hcode hy hK hg (hsize.trans hml.symm) (argsL := As) (rest := rest) (fun sig h => hn.trans (hlen sig h)) hstack hW (by rw [hb]; exact hdg)
    (fun vm₁ hW₁ => ⟨hf.1, hf.2, hp.2 (T.setVm vm₁) hT hW₁⟩)
  dsimp only [Pt.U, Pt.locs, Pt.cells, Pt.slots] at X' e1 e2 h1 h2 h3 st
  subst h1; subst h2; subst h3
  exact ⟨v, (T.setVm vm₁).calling g' mk As.toArray, t, U', L, hT, X', hL, e1, e2, hq, st⟩
/-- not caught here, past rows that name other classes: it goes on to the caller -/
theorem vx_outP {p : Program} {l : Launch} {e : Env} {R : Room} {s : State} {m : MethodId} {args : Array Value} {below : List Frame} {meth : Method} {c : Code} {H : Heap} {locs : List Loc} {cells slots : Nat} {free : Addr → Prop} {ls : Array Slot} {rest : List Value} {Qc : Array Value → State → Outcome → State → Prop} {XC : String → State → State → Prop}
    {pc : Nat} {own E : String} {ce : Cell} {q : Addr} {mc ms : Nat} (hown : s.vm.findClass own = some m.cls) (hlocks : meth.locks = false)
    (hpass : ∀ z ∈ c.exceptionTable.toList, covers z pc = false ∨ (z.catchType ≠ 0 ∧ ∃ nm : String, (Cond.classLink own z.catchType nm).before args s = true ∧ va_Nc E nm s)) (hcell : H[q]? = some ce) (hv : ce.vm = .none) (hcl : s.vm.findClass E = some ce.cls)
    (hx : ∀ t : State, t.heap = H → s.vm.Alike t.vm → XC E s t) (hf : ∀ z ∈ locs, free z.base) (hc : cells ≤ mc) (hs : slots ≤ ms) :
    vx_W p l e R s m args below meth c H locs cells slots (vx_MQ below Qc XC args s mc ms free) (F0 m pc ls rest) q := by
  intro T hT X
  have hpl : e.platform.magicAccessors = ({} : Platform).magicAccessors := by rw [X.admits.platform]
  obtain ⟨vm', hW', X', st⟩ := X.outThrough hlocks q (g := F0 m pc ls rest) rfl rfl rfl (cell := ce) (by rw [hT]; exact hcell) (by rw [hv]; rfl)
    (by obtain ⟨k9, h9, -⟩ := Vm.findClass_spec hcl; exact ⟨k9, h9⟩) (fun z hz => by
      rcases hpass z hz with h | ⟨hz0, nm, hl1, hn1⟩
      · exact Or.inl h
      · obtain ⟨c6, hc6, hcl6⟩ := Cond.classLink_spec hown hl1 e.platform hpl
        obtain ⟨a8, b8, h1, h2, h3⟩ := hn1
        cases Option.some.inj (h1.symm.trans hcl)
        cases Option.some.inj (h2.symm.trans hc6)
        exact Or.inr ⟨hz0, _, hcl6, h3⟩)
  obtain ⟨g₀, hfr⟩ := X'.frames_eq
  have hcell9 : ((T.setVm vm').setFrames (.throwing q :: below)).heap[q]? = some ce := by
    show T.heap[q]? = some ce
    rw [hT]; exact hcell
  have hend : Ended ((T.setVm vm').setFrames (.throwing q :: below)) below (.threw q) := State.frames_setFrames _ (State.cur_lt_of_frames hfr)
  refine ⟨(T.setVm vm').setFrames (.throwing q :: below), ?_, .threw q, X'.here.running, hend, Or.inr ⟨q, rfl, E, ce, locs, hx _ hT (X'.ends _).1.alike, hcell9, hv, hcl, (X'.ends _).1, (X'.ends _).2.mono hc hs, hf⟩⟩
  rw [X.pushThrowing_eq]
  exact st
/-- a thing of a world lies in the heap -/
theorem vx_lt {D : va_G} {cl : List vw_C} {ws : va_W} {H1 : Heap} (h : va_P D cl ws H1) {k : Nat} {q : Nat × va_E} (hk : ws[k]? = some q) : q.1 < H1.size := (h k q hk).lt
end VXS
/-! ===== END ===== -/
/-! ===== BEGIN methods with a table of their own: called by a name, returning or throwing ===== -/
section VXH
/-! vx_backW, vx_callVX, vx_callSX, vx_callVW, vx_runVW, vx_runVX, vx_runSX, vx_ofWH follow the same proofs as their sisters above (Free/Laws.lean, Shelf42/LK1.lean); vx_outP calls Shelf42/NT130.lean (outThrough). -/
section
variable {l : Launch} {R : Room} {p : Program} {e : Env} {below : List Frame} {s : State} {sargs : Array Value} {y : MethodName} {len W9 : Nat}
theorem vx_backW {ws : List Cond} {rm : Room} {Pc : Array Value → State → Prop} {Qc : Array Value → State → Outcome → State → Prop} {XC : String → State → State → Prop} {mc ms : Nat} {free : Addr → Prop} {bytes : ByteArray} {maxL : Nat} {ret : Option FieldType} {hh : List (Nat × Nat × Nat × Nat)}
    (hM : vx_Met l y ws rm Pc Qc XC mc ms free) (hblind : FrameBlind Pc) (hrc : rm.cells = mc) (hrs : rm.slots = ms)
    (hframes : rm.frames + 1 ≤ R.frames) (hlocals : W9 + (maxL + 11) + rm.locals ≤ R.locals)
    (hws : ∀ w ∈ ws, ∀ a' U, s.WarmedH U.vm → w.before a' U = true) (hcode : Cond.codeWith y bytes maxL ret hh ∈ ws) (hinit : ∀ a' U, s.WarmedH U.vm → (Cond.initialized y.cls).before a' U = true) :
    vx_Back l R p e below s sargs y len W9 (PreOf R mc ms Pc) (PostOf Qc mc ms free) (vx_Post XC mc ms free) := by
  intro m meth c A g ig mk a X hg hsize hdg hW hn hp
  have h1 : (headSpec ws rm).pre.before a A.U = true := atoms_intro fun w hw => hws w hw _ _ X.warmed
  have h2 : (Cond.codeWith y bytes maxL ret hh).before a A.U = true := hws _ hcode _ _ X.warmed
  have h3 : (Cond.initialized y.cls).before a A.U = true := hinit _ _ X.warmed
  have h4 : A.cells + (headSpec ws rm).room.cells ≤ R.cells := by rw [show (headSpec ws rm).room.cells = mc from hrc]; exact hp.1
  have h5 : A.slots + (headSpec ws rm).room.slots ≤ R.slots := by rw [show (headSpec ws rm).room.slots = ms from hrs]; exact hp.2.1
  have hPc : Pc a (A.U.calling g mk a) := hblind _ _ _ _ hp.2.2
  obtain ⟨U, Ls, c0, s0⟩ := A
  dsimp only [Pt.U, Pt.locs, Pt.cells, Pt.slots] at h1 h2 h3 h4 h5 X hn hPc ⊢
  obtain ⟨m9, methY, cY, hn9, hmY, hcY, -, hlY, -⟩ := Cond.codeWith_spec h2
  cases Option.some.inj (hn9.symm.trans hn)
  obtain ⟨kY, hkY, -⟩ := className_of_methodNamed hn
  have hinitY : kY.init = .initialized := Cond.initialized_spec (findClass_of_methodNamed hn) hkY h3
  have h : At U g.method c below := by rw [hg]; exact X.here
  have hlocals9 : W9 + (maxL + 11) + (headSpec ws rm).room.locals ≤ R.locals := hlocals
  have happ : (headSpec ws rm).appliesLoose y e.platform (U.calling g mk a) = true :=
    Spec.appliesLoose_calling (g := g) h hdg hn hkY hinitY
      (X.room_calling (g := g) (R' := (headSpec ws rm).room) hsize hmY hcY hframes (by rw [hlY]; omega) h4 h5) h1
  obtain ⟨mid, hmid⟩ := h.above
  have hfr : (U.setTop g).frames = (.java g :: mid) ++ below := by rw [State.frames_setTop' g h.top, hmid]; rfl
  obtain ⟨o, s₂, hsteps, -, hend, hq⟩ := Steps.callFree hM p X.admits X.cas X.clock (acts := []) hfr happ hPc trivial
  have hq' : vx_Q Qc XC mc ms free a (U.calling g mk a) o s₂ := hq
  rw [State.frames_setTop' g h.top] at hend
  obtain ⟨g₀, hg0⟩ := Option.isSome_iff_exists.mp h.top
  obtain ⟨r, hr⟩ := State.topJava?_eq_some.mp hg0
  have hr' : (({ U with heap := s₂.heap, slotsUsed := s₂.slotsUsed } : State).setVm s₂.vm).frames = .java g₀ :: r := hr
  rcases hq' with ⟨hqc, L, hfe, hL⟩ | ⟨q, rfl, E, ce, L, hx, hce, hcv, hcl, hW₂, hsm, hL⟩
  · obtain ⟨⟨v, rfl⟩, hW₂, e2, q2, q3, q4, q5, q6⟩ := id hfe
    have e3 : s₂ = ({ (U.calling g mk a).setFrames s₂.frames with heap := s₂.heap, slotsUsed := s₂.slotsUsed } : State).setVm s₂.vm := by
      have : s₂ = ({ s₂ with vm := (U.calling g mk a).vm } : State).setVm s₂.vm := rfl
      rw [e2] at this
      exact this
    obtain ⟨c₂, i₂, len₂, hc₂, hd₂, hf₂⟩ := hend
    have hW' : U.WarmedH s₂.vm := hW₂
    have hcc : c₂ = c := by
      have h1 : s₂.code? g.method = U.code? g.method := by
        rw [State.code?_eq, State.code?_eq, hW'.alike.method?]
      exact Option.some.inj (hc₂.symm.trans (h1.trans h.code))
    subst hcc
    have hlen : len₂ = len := by rw [hdg] at hd₂; cases hd₂; rfl
    subst hlen
    have hs₂ : s₂ = (({ U with heap := s₂.heap, slotsUsed := s₂.slotsUsed } : State).setVm s₂.vm).setTop { g with pc := g.pc + len₂, stack := v.toList ++ g.stack } := by
      refine e3.trans ?_
      rw [hf₂, State.calling_eq h.top, State.setFrames_setFrames, State.setTop_of_frames _ hr', hr]
      rfl
    have hsame : U.sameButNew ({ U with heap := s₂.heap, slotsUsed := s₂.slotsUsed } : State) L mc ms := by
      refine ⟨?_, q2, q3, q4, q5, q6⟩
      obtain ⟨t, ht, -⟩ := State.frames_cons hr
      show ({ U with heap := s₂.heap, slotsUsed := s₂.slotsUsed } : State) = { U.setFrames U.frames with heap := s₂.heap, slotsUsed := s₂.slotsUsed }
      rw [State.setFrames_self ht]
    subst hg
    refine Or.inl ⟨v, ⟨(({ U with heap := s₂.heap, slotsUsed := s₂.slotsUsed } : State).setVm s₂.vm), Ls ++ L, c0 + mc, s0 + ms⟩,
      ⟨X.admits, X.cas, X.clock, X.frames, X.room, X.hears, X.method, X.code, (X.here.setHeapUsed s₂.heap s₂.slotsUsed).setVm hW'.alike, X.tail, State.WarmedH.trans X.warmed hW', X.limits, X.bytes, X.same.trans (hsame.setVm s.vm)⟩,
      ⟨g, mk, s₂, L, rfl, rfl, hqc, rfl, hL, rfl, rfl⟩, ?_⟩
    show Steps p.tables e below _ ((({ U with heap := s₂.heap, slotsUsed := s₂.slotsUsed } : State).setVm s₂.vm).setTop { g with pc := g.pc + len₂, stack := v.toList ++ g.stack })
    rw [← hs₂]
    exact hsteps
  · obtain ⟨e2, q2, q3, q4, q5, q6⟩ := id hsm
    have e3 : s₂ = ({ (U.calling g mk a).setFrames s₂.frames with heap := s₂.heap, slotsUsed := s₂.slotsUsed } : State).setVm s₂.vm := by
      have : s₂ = ({ s₂ with vm := (U.calling g mk a).vm } : State).setVm s₂.vm := rfl
      rw [e2] at this
      exact this
    have hf₂ : s₂.frames = .throwing q :: .java g :: U.frames.tail := hend
    have hW' : U.WarmedH s₂.vm := hW₂
    have hs₂ : s₂ = ((({ U with heap := s₂.heap, slotsUsed := s₂.slotsUsed } : State).setVm s₂.vm).setTop g).pushFrame (.throwing q) := by
      refine e3.trans ?_
      rw [hf₂, State.calling_eq h.top, State.setFrames_setFrames, State.pushFrame, State.frames_setTop _ hr', State.setTop_of_frames _ hr', State.setFrames_setFrames, hr]
      rfl
    have hsame : U.sameButNew ({ U with heap := s₂.heap, slotsUsed := s₂.slotsUsed } : State) L mc ms := by
      refine ⟨?_, q2, q3, q4, q5, q6⟩
      obtain ⟨t, ht, -⟩ := State.frames_cons hr
      show ({ U with heap := s₂.heap, slotsUsed := s₂.slotsUsed } : State) = { U.setFrames U.frames with heap := s₂.heap, slotsUsed := s₂.slotsUsed }
      rw [State.setFrames_self ht]
    subst hg
    refine Or.inr ⟨q, ⟨(({ U with heap := s₂.heap, slotsUsed := s₂.slotsUsed } : State).setVm s₂.vm), Ls ++ L, c0 + mc, s0 + ms⟩,
      ⟨X.admits, X.cas, X.clock, X.frames, X.room, X.hears, X.method, X.code, (X.here.setHeapUsed s₂.heap s₂.slotsUsed).setVm hW'.alike, X.tail, State.WarmedH.trans X.warmed hW', X.limits, X.bytes, X.same.trans (hsame.setVm s.vm)⟩,
      ⟨g, mk, s₂, L, E, ce, rfl, rfl, hx, hce, hcv, hcl, rfl, hL, rfl, rfl⟩, ?_⟩
    show Steps p.tables e below _ (((({ U with heap := s₂.heap, slotsUsed := s₂.slotsUsed } : State).setVm s₂.vm).setTop g).pushFrame (.throwing q))
    rw [← hs₂]
    exact hsteps
end
variable {p : Program} {l : Launch} {e : Env} {R : Room} {s : State} {m : MethodId} {args : Array Value} {below : List Frame} {meth : Method} {c : Code} {T : State} {H : Heap} {locs : List Loc} {cells slots : Nat}
theorem vx_callVX (X : Stand p l e R s m args below meth c T locs cells slots) (hexec : p.tables.exec = Jvm.exec) {own C : String} {index : Nat} {y : MethodName} {bytes : ByteArray} {maxL : Nat} {ret : Option FieldType} {hh : List (Nat × Nat × Nat × Nat)}
    (hown : s.vm.findClass own = some m.cls) (hlink : (Cond.methodLink own index y).before args s = true) (hinst : (Cond.instanceMethod y).before args s = true) (hsel : (Cond.selects C y y).before args s = true)
    (hcode : (Cond.codeWith y bytes maxL ret hh).before args s = true) (hy : y.cls ≠ "java/lang/invoke/MethodHandle" ∧ y.cls ≠ "java/lang/invoke/VarHandle")
    {W9 : Nat} {Pre : Pt → Array Value → Prop} {Post : Pt → Array Value → Option Value → Pt → Prop} {PostX : Pt → Array Value → Addr → Pt → Prop} (hK : vx_Back l R p e below s args y 3 W9 Pre Post PostX)
    {b : Addr} {cellB : Cell} (hcell : T.heap[b]? = some cellB) (hobj : cellB.vm.isStatics = false) (hcls : s.vm.findClass C = some cellB.cls)
    {g : JFrame} (hg : g.method = m) (hsize : g.locals.size = c.maxLocals) {argsL rest : List Value} (hlen : ∀ sig, parseMethodDescriptor y.desc = some sig → argsL.length = sig.parameters.length)
    (hstack : g.stack = argsL.reverse ++ .ref b :: rest) (hW : 2 * g.monitorRoom + (rest.map fun v => v.category).sum ≤ W9) (hdg : decode c.code g.pc = .ok (.invokevirtual index, 3))
    (hpre : ∀ vm₁, s.WarmedH vm₁ → Pre ⟨T.setVm vm₁, locs, cells, slots⟩ (Value.ref b :: argsL).toArray) :
    (∃ (v : Option Value) (vm₁ : Vm) (B : Pt), s.WarmedH vm₁ ∧ Stand p l e R s m args below meth c B.U B.locs B.cells B.slots ∧ Post ⟨T.setVm vm₁, locs, cells, slots⟩ (Value.ref b :: argsL).toArray v B ∧
      ∀ target, Steps p.tables e below (B.U.setTop { g with pc := g.pc + 3, stack := v.toList ++ rest }) target → Steps p.tables e below (T.setTop g) target) ∨
    (∃ (q : Addr) (vm₁ : Vm) (B : Pt), s.WarmedH vm₁ ∧ Stand p l e R s m args below meth c B.U B.locs B.cells B.slots ∧ PostX ⟨T.setVm vm₁, locs, cells, slots⟩ (Value.ref b :: argsL).toArray q B ∧
      Steps p.tables e below (T.setTop g) ((B.U.setTop { g with stack := rest }).pushFrame (.throwing q))) := by
  obtain ⟨mk, methM, hnamed, hmethM, hstM, habM⟩ := Cond.instanceMethod_spec hinst
  obtain ⟨m8, methM', cM, hn8, hmethM', -, -, -, -, -, -, hsigM⟩ := Cond.codeWith_spec hcode
  cases Option.some.inj (hn8.symm.trans hnamed)
  cases hmethM.symm.trans hmethM'
  obtain ⟨c2, r2, m2, q1, q2, q3, q4, kP, hkP, hkPi⟩ := Cond.selects_spec hsel
  cases hcls.symm.trans q1
  cases (State.methodFound?_of_named hnamed hy).symm.trans q2
  cases hnamed.symm.trans q3
  have hselP : selectMethod e.platform s.vm cellB.cls mk = .method mk := by rw [Launch.admits_selectMethod X.admits]; exact q4
  obtain ⟨vm₁, X₁, hstep₁⟩ := X.invokevirtual hexec hown hlink hnamed hmethM hstM hkP hkPi hy (a := b) (cell := cellB) hcell
    (fun z h => by rw [h] at hobj; cases hobj) hselP hmethM habM hkP hkPi (g := g) hg (argsL := argsL) (rest := rest) (hlen _ hsigM) hstack hdg
  rcases hK m meth c ⟨T.setVm vm₁, locs, cells, slots⟩ { g with stack := rest } (.invokevirtual index) mk (Value.ref b :: argsL).toArray X₁ hg hsize hdg hW (X₁.named hnamed) (hpre vm₁ X₁.warmed) with ⟨v, B, X', hpost, hsteps⟩ | ⟨q, B, X', hpost, hsteps⟩
  · exact Or.inl ⟨v, vm₁, B, X₁.warmed, X', hpost, fun target h => hstep₁ _ fun acts => by rw [doInvoke_state]; exact hsteps.trans h⟩
  · exact Or.inr ⟨q, vm₁, B, X₁.warmed, X', hpost, hstep₁ _ fun acts => by rw [doInvoke_state]; exact hsteps⟩
theorem vx_callSX (X : Stand p l e R s m args below meth c T locs cells slots) (hexec : p.tables.exec = Jvm.exec) {own : String} {index : Nat} {y : MethodName} {bytes : ByteArray} {maxL : Nat} {ret : Option FieldType} {hh : List (Nat × Nat × Nat × Nat)}
    (hown : s.vm.findClass own = some m.cls) (hlink : (Cond.methodLink own index y).before args s = true) (hstat : (Cond.static y).before args s = true) (hinit : (Cond.initialized y.cls).before args s = true)
    (hcode : (Cond.codeWith y bytes maxL ret hh).before args s = true) (hy : y.cls ≠ "java/lang/invoke/MethodHandle" ∧ y.cls ≠ "java/lang/invoke/VarHandle")
    {W9 : Nat} {Pre : Pt → Array Value → Prop} {Post : Pt → Array Value → Option Value → Pt → Prop} {PostX : Pt → Array Value → Addr → Pt → Prop} (hK : vx_Back l R p e below s args y 3 W9 Pre Post PostX)
    {g : JFrame} (hg : g.method = m) (hsize : g.locals.size = c.maxLocals) {argsL rest : List Value} (hlen : ∀ sig, parseMethodDescriptor y.desc = some sig → argsL.length = sig.parameters.length)
    (hstack : g.stack = argsL.reverse ++ rest) (hW : 2 * g.monitorRoom + (rest.map fun v => v.category).sum ≤ W9) (hdg : decode c.code g.pc = .ok (.invokestatic index, 3))
    (hpre : ∀ vm₁, s.WarmedH vm₁ → Pre ⟨T.setVm vm₁, locs, cells, slots⟩ argsL.toArray) :
    (∃ (v : Option Value) (vm₁ : Vm) (B : Pt), s.WarmedH vm₁ ∧ Stand p l e R s m args below meth c B.U B.locs B.cells B.slots ∧ Post ⟨T.setVm vm₁, locs, cells, slots⟩ argsL.toArray v B ∧
      ∀ target, Steps p.tables e below (B.U.setTop { g with pc := g.pc + 3, stack := v.toList ++ rest }) target → Steps p.tables e below (T.setTop g) target) ∨
    (∃ (q : Addr) (vm₁ : Vm) (B : Pt), s.WarmedH vm₁ ∧ Stand p l e R s m args below meth c B.U B.locs B.cells B.slots ∧ PostX ⟨T.setVm vm₁, locs, cells, slots⟩ argsL.toArray q B ∧
      Steps p.tables e below (T.setTop g) ((B.U.setTop { g with stack := rest }).pushFrame (.throwing q))) := by
  obtain ⟨mk, methM, cM, hnamed, hmethM, -, -, -, -, -, -, hsigM⟩ := Cond.codeWith_spec hcode
  have hstatic : methM.isStatic = true := Cond.static_spec hnamed hmethM hstat
  obtain ⟨kP, hkP, -⟩ := className_of_methodNamed hnamed
  have hinitP : kP.init = .initialized := Cond.initialized_spec (findClass_of_methodNamed hnamed) hkP hinit
  obtain ⟨vm₁, X₁, hstep₁⟩ := X.invokestatic hexec hown hlink hnamed hmethM hstatic hkP hinitP hy (g := g) hg (argsL := argsL) (rest := rest) (hlen _ hsigM) hstack hdg
  rcases hK m meth c ⟨T.setVm vm₁, locs, cells, slots⟩ { g with stack := rest } (.invokestatic index) mk argsL.toArray X₁ hg hsize hdg hW (X₁.named hnamed) (hpre vm₁ X₁.warmed) with ⟨v, B, X', hpost, hsteps⟩ | ⟨q, B, X', hpost, hsteps⟩
  · exact Or.inl ⟨v, vm₁, B, X₁.warmed, X', hpost, fun target h => hstep₁ _ fun acts => by rw [doInvoke_state]; exact hsteps.trans h⟩
  · exact Or.inr ⟨q, vm₁, B, X₁.warmed, X', hpost, hstep₁ _ fun acts => by rw [doInvoke_state]; exact hsteps⟩
theorem vx_callVW (X : Stand p l e R s m args below meth c T locs cells slots) (hexec : p.tables.exec = Jvm.exec) {own C : String} {index : Nat} {y : MethodName} {bytes : ByteArray} {maxL : Nat} {ret : Option FieldType} {hh : List (Nat × Nat × Nat × Nat)}
    (hown : s.vm.findClass own = some m.cls) (hlink : (Cond.methodLink own index y).before args s = true) (hinst : (Cond.instanceMethod y).before args s = true) (hsel : (Cond.selects C y y).before args s = true)
    (hcode : (Cond.codeWith y bytes maxL ret hh).before args s = true) (hy : y.cls ≠ "java/lang/invoke/MethodHandle" ∧ y.cls ≠ "java/lang/invoke/VarHandle")
    {W9 : Nat} {Pre : Pt → Array Value → Prop} {Post : Pt → Array Value → Option Value → Pt → Prop} (hK : Back l R p e below s args y 3 W9 Pre Post)
    {b : Addr} {cellB : Cell} (hcell : T.heap[b]? = some cellB) (hobj : cellB.vm.isStatics = false) (hcls : s.vm.findClass C = some cellB.cls)
    {g : JFrame} (hg : g.method = m) (hsize : g.locals.size = c.maxLocals) {argsL rest : List Value} (hlen : ∀ sig, parseMethodDescriptor y.desc = some sig → argsL.length = sig.parameters.length)
    (hstack : g.stack = argsL.reverse ++ .ref b :: rest) (hW : 2 * g.monitorRoom + (rest.map fun v => v.category).sum ≤ W9) (hdg : decode c.code g.pc = .ok (.invokevirtual index, 3))
    (hpre : ∀ vm₁, s.WarmedH vm₁ → Pre ⟨T.setVm vm₁, locs, cells, slots⟩ (Value.ref b :: argsL).toArray) :
    ∃ (v : Option Value) (vm₁ : Vm) (B : Pt), s.WarmedH vm₁ ∧ Stand p l e R s m args below meth c B.U B.locs B.cells B.slots ∧ Post ⟨T.setVm vm₁, locs, cells, slots⟩ (Value.ref b :: argsL).toArray v B ∧
      ∀ target, Steps p.tables e below (B.U.setTop { g with pc := g.pc + 3, stack := v.toList ++ rest }) target → Steps p.tables e below (T.setTop g) target := by
  obtain ⟨mk, methM, hnamed, hmethM, hstM, habM⟩ := Cond.instanceMethod_spec hinst
  obtain ⟨m8, methM', cM, hn8, hmethM', -, -, -, -, -, -, hsigM⟩ := Cond.codeWith_spec hcode
  cases Option.some.inj (hn8.symm.trans hnamed)
  cases hmethM.symm.trans hmethM'
  obtain ⟨c2, r2, m2, q1, q2, q3, q4, kP, hkP, hkPi⟩ := Cond.selects_spec hsel
  cases hcls.symm.trans q1
  cases (State.methodFound?_of_named hnamed hy).symm.trans q2
  cases hnamed.symm.trans q3
  have hselP : selectMethod e.platform s.vm cellB.cls mk = .method mk := by rw [Launch.admits_selectMethod X.admits]; exact q4
  obtain ⟨vm₁, X₁, hstep₁⟩ := X.invokevirtual hexec hown hlink hnamed hmethM hstM hkP hkPi hy (a := b) (cell := cellB) hcell
    (fun z h => by rw [h] at hobj; cases hobj) hselP hmethM habM hkP hkPi (g := g) hg (argsL := argsL) (rest := rest) (hlen _ hsigM) hstack hdg
  obtain ⟨v, B, X', hpost, hsteps⟩ := hK m meth c ⟨T.setVm vm₁, locs, cells, slots⟩ { g with stack := rest } (.invokevirtual index) mk (Value.ref b :: argsL).toArray X₁ hg hsize hdg hW (X₁.named hnamed) (hpre vm₁ X₁.warmed)
  exact ⟨v, vm₁, B, X₁.warmed, X', hpost, fun target h => hstep₁ _ fun acts => by rw [doInvoke_state]; exact hsteps.trans h⟩
abbrev vx_CVW (R : Room) (s : State) (args : Array Value) (own C : String) (index : Nat) (y : MethodName) (bytes : ByteArray) (maxL : Nat) (ret : Option FieldType) (hh : List (Nat × Nat × Nat × Nat)) (ws : List Cond) (rm : Room) (mc ms n : Nat) : Prop :=
  (rm.cells = mc ∧ rm.slots = ms ∧ rm.frames + 1 ≤ R.frames ∧ 8 + (maxL + 11) + rm.locals ≤ R.locals ∧ (∀ w ∈ ws, ∀ (a' : Array Value) (U : State), s.WarmedH U.vm → w.before a' U = true) ∧ Cond.codeWith y bytes maxL ret hh ∈ ws) ∧
  (Cond.codeWith y bytes maxL ret hh).before args s = true ∧ (Cond.initialized y.cls).before args s = true ∧ (y.cls ≠ "java/lang/invoke/MethodHandle" ∧ y.cls ≠ "java/lang/invoke/VarHandle") ∧
  (∀ sig, parseMethodDescriptor y.desc = some sig → n = sig.parameters.length) ∧ (Cond.methodLink own index y).before args s = true ∧ (Cond.instanceMethod y).before args s = true ∧ (Cond.selects C y y).before args s = true
theorem vx_cwVW {own C : String} {index maxL mc ms : Nat} {y : MethodName} {bytes : ByteArray} {ret : Option FieldType} {hh : List (Nat × Nat × Nat × Nat)} {Ts ws ws' : List Cond} {rm : Room} (n : Nat) (ht : ∀ w ∈ Ts, w.before args s = true) (hT : GoodIn Ts (wsV own index C y ws)) (hw : ws = Cond.codeWith y bytes maxL ret hh :: ws') (hrc : rm.cells = mc) (hrs : rm.slots = ms)
    (hd : y.cls = C ∧ y.cls ≠ "java/lang/invoke/MethodHandle" ∧ y.cls ≠ "java/lang/invoke/VarHandle" ∧ (parseMethodDescriptor y.desc).map (fun d => d.parameters.length) = some n) (hR : rm.frames + 1 ≤ R.frames ∧ 8 + (maxL + 11) + rm.locals ≤ R.locals) :
    vx_CVW R s args own C index y bytes maxL ret hh ws rm mc ms n := by
  obtain ⟨hC, hd⟩ := hd
  subst hC
  have ok : ∀ w ∈ wsV own index y.cls y ws, w.before args s = true := fun w h => ht w (hT w h).1
  have hG : GoodIn Ts ws := fun w h => hT w (by unfold wsV; exact List.mem_append_right _ h)
  have hc : Cond.codeWith y bytes maxL ret hh ∈ ws := by rw [hw]; exact List.mem_cons_self
  refine ⟨⟨hrc, hrs, hR.1, hR.2, pay_in ht hG, hc⟩, ht _ (hG _ hc).1, ok _ (by simp [wsV]), ⟨hd.1, hd.2.1⟩, fun sig h => ?_, ok _ (by simp [wsV]), ok _ (by simp [wsV]), ok _ (by simp [wsV])⟩
  have h2 := hd.2.2
  rw [h] at h2
  exact (Option.some.inj h2).symm
theorem vx_runVW {y : MethodName} {bytes cc : ByteArray} {maxL nL mc ms n index : Nat} {ret : Option FieldType} {hh : List (Nat × Nat × Nat × Nat)} {ws : List Cond} {rm : Room} {Pc : Array Value → State → Prop} {Qc : Array Value → State → Outcome → State → Prop} {free : Addr → Prop} {Ts : List Cond} {own C : String} {b : Addr} {As rest : List Value} {g : JFrame}
    (S : CallFix p m c cc nL s args Ts own) (hM : Met l y ws rm Pc Qc mc ms free) (cw : vx_CVW R s args own C index y bytes maxL ret hh ws rm mc ms n) (hp : PreV s H C b Pc As)
    (hg : g.method = m) (hn : As.length = n) (hsize : g.locals.size = nL) (hstack : g.stack = As.reverse ++ .ref b :: rest) (hW : 2 * g.monitorRoom + (rest.map fun v => v.category).sum ≤ 8) (hdg : decode cc g.pc = .ok (.invokevirtual index, 3)) (hf : cells + mc ≤ R.cells ∧ slots + ms ≤ R.slots) :
    va_Run p l e R s m args below meth c H locs cells slots mc ms g rest (Qc (Value.ref b :: As).toArray) free := by
  obtain ⟨⟨hrc, hrs, hfr, hlo, hws, hcw⟩, hcode, hini, hy, hlen, hl, hin, hse⟩ := cw
  have hK : Back l R p e below s args y 3 8 (PreOf R mc ms Pc) (PostOf Qc mc ms free) := va_backW (hh := hh) (bytes := bytes) (maxL := maxL) (ret := ret) hM hp.1 hrc hrs hfr hlo hws hcw (fun a' U hW => word_at hW (Or.inl (by first | rfl | simp [Cond.onTables, Cond.keeps, Cond.steady])) hini)
  obtain ⟨hx, hb, hml, ho, -⟩ := S
  obtain ⟨-, ⟨cellB, hcB, hoB, hclB⟩, hPc⟩ := hp
  intro T hT X
  obtain ⟨v, vm₁, ⟨U', l2, c2, s2⟩, hW₁, X', ⟨g', mk, t, L, e1, e2, hq, h1, hL, h2, h3⟩, st⟩ := vx_callVW X hx (C := C) (hh := hh) (bytes := bytes) (maxL := maxL) (ret := ret) ho hl hin hse hcode hy hK (by rw [hT]; exact hcB) hoB hclB hg (hsize.trans hml.symm) (argsL := As) (rest := rest) (fun sig h => hn.trans (hlen sig h)) hstack hW (by rw [hb]; exact hdg)
    (fun vm₁ hW₁ => ⟨hf.1, hf.2, hPc (T.setVm vm₁) hT hW₁⟩)
  dsimp only [Pt.U, Pt.locs, Pt.cells, Pt.slots] at X' e1 e2 h1 h2 h3 st
  subst h1; subst h2; subst h3
  exact ⟨v, (T.setVm vm₁).calling g' mk (Value.ref b :: As).toArray, t, U', L, hT, X', hL, e1, e2, hq, st⟩
section
variable {y : MethodName} {bytes cc : ByteArray} {maxL nL mc ms n index : Nat} {ret : Option FieldType} {ws : List Cond} {rm : Room} {Pc : Array Value → State → Prop} {Qc : Array Value → State → Outcome → State → Prop} {XC : String → State → State → Prop} {free : Addr → Prop} {Ts : List Cond} {own C : String} {b : Addr} {As rest : List Value} {g : JFrame}
theorem vx_runVX {hh : List (Nat × Nat × Nat × Nat)} (S : CallFix p m c cc nL s args Ts own) (hM : vx_Met l y ws rm Pc Qc XC mc ms free) (cw : vx_CVW R s args own C index y bytes maxL ret hh ws rm mc ms n) (hp : PreV s H C b Pc As)
    (hg : g.method = m) (hn : As.length = n) (hsize : g.locals.size = nL) (hstack : g.stack = As.reverse ++ .ref b :: rest) (hW : 2 * g.monitorRoom + (rest.map fun v => v.category).sum ≤ 8) (hdg : decode cc g.pc = .ok (.invokevirtual index, 3)) (hf : cells + mc ≤ R.cells ∧ slots + ms ≤ R.slots) :
    vx_Run p l e R s m args below meth c H locs cells slots mc ms g rest (Qc (Value.ref b :: As).toArray) XC free := by
  obtain ⟨⟨hrc, hrs, hfr, hlo, hws, hcw⟩, hcode, hini, hy, hlen, hl, hin, hse⟩ := cw
  have hK : vx_Back l R p e below s args y 3 8 (PreOf R mc ms Pc) (PostOf Qc mc ms free) (vx_Post XC mc ms free) := vx_backW (hh := hh) (bytes := bytes) (maxL := maxL) (ret := ret) hM hp.1 hrc hrs hfr hlo hws hcw (fun a' U hW => word_at hW (Or.inl (by first | rfl | simp [Cond.onTables, Cond.keeps, Cond.steady])) hini)
  obtain ⟨hx, hb, hml, ho, -⟩ := S
  obtain ⟨-, ⟨cellB, hcB, hoB, hclB⟩, hPc⟩ := hp
  intro T hT X
  rcases vx_callVX X hx (C := C) (hh := hh) (bytes := bytes) (maxL := maxL) (ret := ret) ho hl hin hse hcode hy hK (by rw [hT]; exact hcB) hoB hclB hg (hsize.trans hml.symm) (argsL := As) (rest := rest) (fun sig h => hn.trans (hlen sig h)) hstack hW (by rw [hb]; exact hdg)
    (fun vm₁ hW₁ => ⟨hf.1, hf.2, hPc (T.setVm vm₁) hT hW₁⟩) with ⟨v, vm₁, ⟨U', l2, c2, s2⟩, hW₁, X', ⟨g', mk, t, L, e1, e2, hq, h1, hL, h2, h3⟩, st⟩ | ⟨q, vm₁, ⟨U', l2, c2, s2⟩, hW₁, X', ⟨g', mk, t, L, E, ce, e1, e2, hq, hce, hcv, hcl, h1, hL, h2, h3⟩, st⟩
  · dsimp only [Pt.U, Pt.locs, Pt.cells, Pt.slots] at X' e1 e2 h1 h2 h3 st
    subst h1; subst h2; subst h3
    exact Or.inl ⟨v, (T.setVm vm₁).calling g' mk (Value.ref b :: As).toArray, t, U', L, hT, X', hL, e1, e2, hq, st⟩
  · dsimp only [Pt.U, Pt.locs, Pt.cells, Pt.slots] at X' e1 e2 h1 h2 h3 st hcl
    subst h1; subst h2; subst h3
    exact Or.inr ⟨q, (T.setVm vm₁).calling g' mk (Value.ref b :: As).toArray, t, U', L, E, ce, hT, X', hL, e1, e2, hq, hce, hcv, vx_cls hW₁ hcl, st⟩
theorem vx_runSX {hh : List (Nat × Nat × Nat × Nat)} (S : CallFix p m c cc nL s args Ts own) (hM : vx_Met l y ws rm Pc Qc XC mc ms free) (cw : vx_CSW R s args own index y bytes maxL ret hh ws rm mc ms n) (hp : PreS s H Pc As)
    (hg : g.method = m) (hn : As.length = n) (hsize : g.locals.size = nL) (hstack : g.stack = As.reverse ++ rest) (hW : 2 * g.monitorRoom + (rest.map fun v => v.category).sum ≤ 8) (hdg : decode cc g.pc = .ok (.invokestatic index, 3)) (hf : cells + mc ≤ R.cells ∧ slots + ms ≤ R.slots) :
    vx_Run p l e R s m args below meth c H locs cells slots mc ms g rest (Qc As.toArray) XC free := by
  obtain ⟨⟨hrc, hrs, hfr, hlo, hws, hcw⟩, hcode, hini, hy, hlen, hl, hstt⟩ := cw
  have hK : vx_Back l R p e below s args y 3 8 (PreOf R mc ms Pc) (PostOf Qc mc ms free) (vx_Post XC mc ms free) := vx_backW (hh := hh) (bytes := bytes) (maxL := maxL) (ret := ret) hM hp.1 hrc hrs hfr hlo hws hcw (fun a' U hW => word_at hW (Or.inl (by first | rfl | simp [Cond.onTables, Cond.keeps, Cond.steady])) hini)
  obtain ⟨hx, hb, hml, ho, -⟩ := S
  intro T hT X
  rcases vx_callSX X hx (hh := hh) (bytes := bytes) (maxL := maxL) (ret := ret) ho hl hstt hini hcode hy hK hg (hsize.trans hml.symm) (argsL := As) (rest := rest) (fun sig h => hn.trans (hlen sig h)) hstack hW (by rw [hb]; exact hdg)
    (fun vm₁ hW₁ => ⟨hf.1, hf.2, hp.2 (T.setVm vm₁) hT hW₁⟩) with ⟨v, vm₁, ⟨U', l2, c2, s2⟩, hW₁, X', ⟨g', mk, t, L, e1, e2, hq, h1, hL, h2, h3⟩, st⟩ | ⟨q, vm₁, ⟨U', l2, c2, s2⟩, hW₁, X', ⟨g', mk, t, L, E, ce, e1, e2, hq, hce, hcv, hcl, h1, hL, h2, h3⟩, st⟩
  · dsimp only [Pt.U, Pt.locs, Pt.cells, Pt.slots] at X' e1 e2 h1 h2 h3 st
    subst h1; subst h2; subst h3
    exact Or.inl ⟨v, (T.setVm vm₁).calling g' mk As.toArray, t, U', L, hT, X', hL, e1, e2, hq, st⟩
  · dsimp only [Pt.U, Pt.locs, Pt.cells, Pt.slots] at X' e1 e2 h1 h2 h3 st hcl
    subst h1; subst h2; subst h3
    exact Or.inr ⟨q, (T.setVm vm₁).calling g' mk As.toArray, t, U', L, E, ce, hT, X', hL, e1, e2, hq, hce, hcv, vx_cls hW₁ hcl, st⟩
end
end VXH
theorem vx_ofWH {l : Launch} {y : MethodName} {ws ws' : List Cond} {rm : Room} {Pc : Array Value → State → Prop} {Qc : Array Value → State → Outcome → State → Prop} {XC : String → State → State → Prop} {mc ms : Nat} {free : Addr → Prop} {cc : ByteArray} {maxL : Nat} {ret : Option FieldType} {hh : List (Nat × Nat × Nat × Nat)}
    (hy : plainName y.cls = true) (hw : ws = Cond.codeWith y cc maxL ret hh :: ws')
    (body : ∀ p e s m args below meth c s₁, BodyLoose p l y (headSpec ws rm) cc maxL ret e s m args below meth c s₁ → c.maxLocals = maxL → Pc args s →
      W p l e (headSpec ws rm).room s m args below meth c s.heap [] 0 0 (vx_MQ below Qc XC args s mc ms free) (entryFrame m args maxL)) : vx_Met l y ws rm Pc Qc XC mc ms free := by
  refine MetFree.of_bodyS (code := cc) (maxLocals := maxL) (ret := ret) hy ?_ ?_
  · intro args s m h hn
    obtain ⟨m9, meth, c, hn9, h1, h2, h3, h4, -, h5, h6, -⟩ := Cond.codeWith_spec (atoms_spec (ws := ws) h _ (by rw [hw]; exact List.mem_cons_self))
    cases hn.symm.trans hn9
    exact ⟨meth, c, h1, h2, h3, h4, h5, h6⟩
  · intro p e s m args below meth c s₁ B hml hP _
    have hh0 : s₁.heap = s.heap := by rw [B.state]; rfl
    obtain ⟨t, a1, o, b1, b2, b3⟩ := body p e s m args below meth c s₁ B hml hP s₁ hh0 (Stand.of_body B)
    exact ⟨t, o, a1, b1, b2, b3⟩
/-! ===== END ===== -/
end
section
/-! ===== BEGIN printed: names, fields, word lists, decode rows ===== -/
def RX0 : String := "ChannelWinter$Breaker"
def TX0 : u_T := fun k => match k with
  | 0 => ("ChannelWinter$Breaker", "route", "LChannelWinter$Route;", true)
  | 1 => ("ChannelWinter$Breaker", "cell", "I", false)
  | 2 => ("ChannelWinter$Breaker", "fuel", "I", false)
  | 3 => ("ChannelWinter$Breaker", "stuck", "I", false)
  | _ => ("ChannelWinter$Breaker", "left", "I", false)
def tyX0 : Nat → FieldType := fun k => match k with
  | 0 => .object "ChannelWinter$Route"
  | 1 => .int
  | 2 => .int
  | 3 => .int
  | _ => .int
abbrev wsX00 : List Cond := u_ws RX0 TX0 5
theorem nmX0 : ∀ a, a < 5 → ∀ b, b < 5 → a ≠ b → (TX0 a).2.1 ≠ (TX0 b).2.1 := by decide +kernel
theorem tyX0_ok : ∀ k, k < 5 → parseFieldDescriptor (TX0 k).2.2.1 = some (tyX0 k) := by decide +kernel
abbrev cX0_init : ByteArray := prog_2_method_1_code
def yX0_init : MethodName := ⟨RX0, "<init>", "()V"⟩
abbrev cX0_enter : ByteArray := prog_2_method_2_code
def yX0_enter : MethodName := ⟨RX0, "enter", "(II)V"⟩
abbrev cX0_copyFrom : ByteArray := prog_2_method_3_code
def yX0_copyFrom : MethodName := ⟨RX0, "copyFrom", "(LChannelWinter$Breaker;)V"⟩
def RX1 : String := "ChannelWinter$Cell"
def TX1 : u_T := fun k => match k with
  | 0 => ("ChannelWinter$Cell", "ice", "I", false)
  | 1 => ("ChannelWinter$Cell", "press", "I", false)
  | 2 => ("ChannelWinter$Cell", "channel", "I", false)
  | 3 => ("ChannelWinter$Cell", "land", "Z", false)
  | _ => ("ChannelWinter$Cell", "gain", "I", false)
def tyX1 : Nat → FieldType := fun k => match k with
  | 0 => .int
  | 1 => .int
  | 2 => .int
  | 3 => .boolean
  | _ => .int
abbrev wsX10 : List Cond := u_ws RX1 TX1 5
theorem nmX1 : ∀ a, a < 5 → ∀ b, b < 5 → a ≠ b → (TX1 a).2.1 ≠ (TX1 b).2.1 := by decide +kernel
theorem tyX1_ok : ∀ k, k < 5 → parseFieldDescriptor (TX1 k).2.2.1 = some (tyX1 k) := by decide +kernel
abbrev cX1_init : ByteArray := prog_3_method_1_code
def yX1_init : MethodName := ⟨RX1, "<init>", "()V"⟩
abbrev cX1_worth : ByteArray := prog_3_method_2_code
def yX1_worth : MethodName := ⟨RX1, "worth", "()I"⟩
abbrev cX1_worthInChannel : ByteArray := prog_3_method_3_code
def yX1_worthInChannel : MethodName := ⟨RX1, "worthInChannel", "()I"⟩
abbrev cX1_worthUnbroken : ByteArray := prog_3_method_4_code
def yX1_worthUnbroken : MethodName := ⟨RX1, "worthUnbroken", "()I"⟩
abbrev cX1_giveTenthTo : ByteArray := prog_3_method_6_code
def yX1_giveTenthTo : MethodName := ⟨RX1, "giveTenthTo", "(LChannelWinter$Cell;)V"⟩
abbrev cX1_settleDrift : ByteArray := prog_3_method_7_code
def yX1_settleDrift : MethodName := ⟨RX1, "settleDrift", "()V"⟩
abbrev cX1_freeze : ByteArray := prog_3_method_8_code
def yX1_freeze : MethodName := ⟨RX1, "freeze", "(I)I"⟩
abbrev cX1_closeChannel : ByteArray := prog_3_method_9_code
def yX1_closeChannel : MethodName := ⟨RX1, "closeChannel", "()V"⟩
abbrev cX1_copyFrom : ByteArray := prog_3_method_10_code
def yX1_copyFrom : MethodName := ⟨RX1, "copyFrom", "(LChannelWinter$Cell;)V"⟩
def RX2 : String := "ChannelWinter$Chart"
def TX2 : u_T := fun k => match k with
  | 0 => ("ChannelWinter$Chart", "prices", "[I", true)
  | _ => ("ChannelWinter$Chart", "costs", "[I", true)
def tyX2 : Nat → FieldType := fun k => match k with
  | 0 => .array .int
  | _ => .array .int
abbrev wsX20 : List Cond := u_ws RX2 TX2 2
theorem nmX2 : ∀ a, a < 2 → ∀ b, b < 2 → a ≠ b → (TX2 a).2.1 ≠ (TX2 b).2.1 := by decide +kernel
theorem tyX2_ok : ∀ k, k < 2 → parseFieldDescriptor (TX2 k).2.2.1 = some (tyX2 k) := by decide +kernel
abbrev cX2_init : ByteArray := prog_4_method_1_code
def yX2_init : MethodName := ⟨RX2, "<init>", "()V"⟩
abbrev cX2_setPrice : ByteArray := prog_4_method_2_code
def yX2_setPrice : MethodName := ⟨RX2, "setPrice", "(II)V"⟩
abbrev cX2_cheapest : ByteArray := prog_4_method_3_code
def yX2_cheapest : MethodName := ⟨RX2, "cheapest", "(II)I"⟩
abbrev cX2_relax : ByteArray := prog_4_method_4_code
def yX2_relax : MethodName := ⟨RX2, "relax", "()Z"⟩
abbrev cX2_cheapestNeighbour : ByteArray := prog_4_method_5_code
def yX2_cheapestNeighbour : MethodName := ⟨RX2, "cheapestNeighbour", "(I)I"⟩
abbrev cX2_costAt : ByteArray := prog_4_method_6_code
def yX2_costAt : MethodName := ⟨RX2, "costAt", "(I)I"⟩
def RX3 : String := "ChannelWinter$Port"
def TX3 : u_T := fun k => match k with
  | 0 => ("ChannelWinter$Port", "leasts", "[I", true)
  | 1 => ("ChannelWinter$Port", "hours", "[I", true)
  | 2 => ("ChannelWinter$Port", "exempts", "[Z", true)
  | 3 => ("ChannelWinter$Port", "rules", "I", false)
  | _ => ("ChannelWinter$Port", "cell", "I", false)
def tyX3 : Nat → FieldType := fun k => match k with
  | 0 => .array .int
  | 1 => .array .int
  | 2 => .array .boolean
  | 3 => .int
  | _ => .int
abbrev wsX30 : List Cond := u_ws RX3 TX3 5
theorem nmX3 : ∀ a, a < 5 → ∀ b, b < 5 → a ≠ b → (TX3 a).2.1 ≠ (TX3 b).2.1 := by decide +kernel
theorem tyX3_ok : ∀ k, k < 5 → parseFieldDescriptor (TX3 k).2.2.1 = some (tyX3 k) := by decide +kernel
abbrev cX3_init : ByteArray := prog_5_method_1_code
def yX3_init : MethodName := ⟨RX3, "<init>", "()V"⟩
abbrev cX3_addRule : ByteArray := prog_5_method_2_code
def yX3_addRule : MethodName := ⟨RX3, "addRule", "(II)V"⟩
abbrev cX3_leastAt : ByteArray := prog_5_method_3_code
def yX3_leastAt : MethodName := ⟨RX3, "leastAt", "(I)I"⟩
abbrev cX3_isExempt : ByteArray := prog_5_method_5_code
def yX3_isExempt : MethodName := ⟨RX3, "isExempt", "(I)Z"⟩
abbrev cX3_letsIn : ByteArray := prog_5_method_6_code
def yX3_letsIn : MethodName := ⟨RX3, "letsIn", "(III)Z"⟩
def RX4 : String := "ChannelWinter$Ports"
def TX4 : u_T := fun k => match k with
  | 0 => ("ChannelWinter$Ports", "all", "[LChannelWinter$Port;", true)
  | _ => ("ChannelWinter$Ports", "count", "I", false)
def tyX4 : Nat → FieldType := fun k => match k with
  | 0 => .array (.object "ChannelWinter$Port")
  | _ => .int
abbrev wsX40 : List Cond := u_ws RX4 TX4 2
theorem nmX4 : ∀ a, a < 2 → ∀ b, b < 2 → a ≠ b → (TX4 a).2.1 ≠ (TX4 b).2.1 := by decide +kernel
theorem tyX4_ok : ∀ k, k < 2 → parseFieldDescriptor (TX4 k).2.2.1 = some (tyX4 k) := by decide +kernel
abbrev cX4_init : ByteArray := prog_6_method_1_code
def yX4_init : MethodName := ⟨RX4, "<init>", "()V"⟩
abbrev cX4_portAt : ByteArray := prog_6_method_2_code
def yX4_portAt : MethodName := ⟨RX4, "portAt", "(I)LChannelWinter$Port;"⟩
abbrev cX4_found : ByteArray := prog_6_method_3_code
def yX4_found : MethodName := ⟨RX4, "found", "(I)I"⟩
abbrev cX4_isPort : ByteArray := prog_6_method_4_code
def yX4_isPort : MethodName := ⟨RX4, "isPort", "(I)Z"⟩
def RX5 : String := "ChannelWinter$Route"
def TX5 : u_T := fun k => match k with
  | 0 => ("ChannelWinter$Route", "cells", "[I", true)
  | _ => ("ChannelWinter$Route", "size", "I", false)
def tyX5 : Nat → FieldType := fun k => match k with
  | 0 => .array .int
  | _ => .int
abbrev wsX50 : List Cond := u_ws RX5 TX5 2
theorem nmX5 : ∀ a, a < 2 → ∀ b, b < 2 → a ≠ b → (TX5 a).2.1 ≠ (TX5 b).2.1 := by decide +kernel
theorem tyX5_ok : ∀ k, k < 2 → parseFieldDescriptor (TX5 k).2.2.1 = some (tyX5 k) := by decide +kernel
abbrev cX5_init : ByteArray := prog_7_method_1_code
def yX5_init : MethodName := ⟨RX5, "<init>", "()V"⟩
abbrev cX5_isFull : ByteArray := prog_7_method_2_code
def yX5_isFull : MethodName := ⟨RX5, "isFull", "()Z"⟩
abbrev cX5_add : ByteArray := prog_7_method_3_code
def yX5_add : MethodName := ⟨RX5, "add", "(I)I"⟩
abbrev cX5_first : ByteArray := prog_7_method_4_code
def yX5_first : MethodName := ⟨RX5, "first", "()I"⟩
abbrev cX5_takeFirst : ByteArray := prog_7_method_5_code
def yX5_takeFirst : MethodName := ⟨RX5, "takeFirst", "()V"⟩
abbrev cX5_drop : ByteArray := prog_7_method_6_code
def yX5_drop : MethodName := ⟨RX5, "drop", "()I"⟩
abbrev cX5_copyFrom : ByteArray := prog_7_method_7_code
def yX5_copyFrom : MethodName := ⟨RX5, "copyFrom", "(LChannelWinter$Route;)V"⟩
def RX6 : String := "ChannelWinter$Sea"
def TX6 : u_T := fun k => match k with
  | 0 => ("ChannelWinter$Sea", "cells", "[LChannelWinter$Cell;", true)
  | 1 => ("ChannelWinter$Sea", "breakers", "[LChannelWinter$Breaker;", true)
  | 2 => ("ChannelWinter$Sea", "ships", "[LChannelWinter$Ship;", true)
  | 3 => ("ChannelWinter$Sea", "breakerCount", "I", false)
  | 4 => ("ChannelWinter$Sea", "shipCount", "I", false)
  | 5 => ("ChannelWinter$Sea", "now", "I", false)
  | _ => ("ChannelWinter$Sea", "frozen", "I", false)
def tyX6 : Nat → FieldType := fun k => match k with
  | 0 => .array (.object "ChannelWinter$Cell")
  | 1 => .array (.object "ChannelWinter$Breaker")
  | 2 => .array (.object "ChannelWinter$Ship")
  | 3 => .int
  | 4 => .int
  | 5 => .int
  | _ => .int
abbrev wsX60 : List Cond := u_ws RX6 TX6 7
theorem nmX6 : ∀ a, a < 7 → ∀ b, b < 7 → a ≠ b → (TX6 a).2.1 ≠ (TX6 b).2.1 := by decide +kernel
theorem tyX6_ok : ∀ k, k < 7 → parseFieldDescriptor (TX6 k).2.2.1 = some (tyX6 k) := by decide +kernel
abbrev cX6_init : ByteArray := prog_8_method_1_code
def yX6_init : MethodName := ⟨RX6, "<init>", "()V"⟩
abbrev cX6_cellAt : ByteArray := prog_8_method_2_code
def yX6_cellAt : MethodName := ⟨RX6, "cellAt", "(I)LChannelWinter$Cell;"⟩
abbrev cX6_breakerAt : ByteArray := prog_8_method_3_code
def yX6_breakerAt : MethodName := ⟨RX6, "breakerAt", "(I)LChannelWinter$Breaker;"⟩
abbrev cX6_shipAt : ByteArray := prog_8_method_4_code
def yX6_shipAt : MethodName := ⟨RX6, "shipAt", "(I)LChannelWinter$Ship;"⟩
abbrev cX6_addBreaker : ByteArray := prog_8_method_5_code
def yX6_addBreaker : MethodName := ⟨RX6, "addBreaker", "(II)I"⟩
abbrev cX6_addShip : ByteArray := prog_8_method_6_code
def yX6_addShip : MethodName := ⟨RX6, "addShip", "(IIII)I"⟩
abbrev cX6_passHour : ByteArray := prog_8_method_7_code
def yX6_passHour : MethodName := ⟨RX6, "passHour", "(LChannelWinter$Ports;II)I"⟩
abbrev cX6_drift : ByteArray := prog_8_method_8_code
def yX6_drift : MethodName := ⟨RX6, "drift", "(I)V"⟩
abbrev cX6_moveBreaker : ByteArray := prog_8_method_9_code
def yX6_moveBreaker : MethodName := ⟨RX6, "moveBreaker", "(LChannelWinter$Breaker;)V"⟩
abbrev cX6_moveShip : ByteArray := prog_8_method_10_code
def yX6_moveShip : MethodName := ⟨RX6, "moveShip", "(ILChannelWinter$Ports;)Z"⟩
abbrev cX6_goFree : ByteArray := prog_8_method_11_code
def yX6_goFree : MethodName := ⟨RX6, "goFree", "(LChannelWinter$Ship;)I"⟩
abbrev cX6_goBound : ByteArray := prog_8_method_12_code
def yX6_goBound : MethodName := ⟨RX6, "goBound", "(LChannelWinter$Ship;)I"⟩
abbrev cX6_countShipsIn : ByteArray := prog_8_method_14_code
def yX6_countShipsIn : MethodName := ⟨RX6, "countShipsIn", "(I)I"⟩
abbrev cX6_countLed : ByteArray := prog_8_method_15_code
def yX6_countLed : MethodName := ⟨RX6, "countLed", "(I)I"⟩
abbrev cX6_towedBy : ByteArray := prog_8_method_16_code
def yX6_towedBy : MethodName := ⟨RX6, "towedBy", "(I)I"⟩
abbrev cX6_countArrived : ByteArray := prog_8_method_17_code
def yX6_countArrived : MethodName := ⟨RX6, "countArrived", "()I"⟩
abbrev cX6_allWaits : ByteArray := prog_8_method_18_code
def yX6_allWaits : MethodName := ⟨RX6, "allWaits", "()I"⟩
abbrev cX6_allDues : ByteArray := prog_8_method_19_code
def yX6_allDues : MethodName := ⟨RX6, "allDues", "()I"⟩
abbrev cX6_allDamage : ByteArray := prog_8_method_20_code
def yX6_allDamage : MethodName := ⟨RX6, "allDamage", "()I"⟩
abbrev cX6_allIce : ByteArray := prog_8_method_21_code
def yX6_allIce : MethodName := ⟨RX6, "allIce", "()I"⟩
abbrev cX6_countChannels : ByteArray := prog_8_method_22_code
def yX6_countChannels : MethodName := ⟨RX6, "countChannels", "()I"⟩
abbrev cX6_copyFrom : ByteArray := prog_8_method_24_code
def yX6_copyFrom : MethodName := ⟨RX6, "copyFrom", "(LChannelWinter$Sea;)V"⟩
def RX7 : String := "ChannelWinter$Ship"
def TX7 : u_T := fun k => match k with
  | 0 => ("ChannelWinter$Ship", "route", "LChannelWinter$Route;", true)
  | 1 => ("ChannelWinter$Ship", "waits", "[I", true)
  | 2 => ("ChannelWinter$Ship", "cell", "I", false)
  | 3 => ("ChannelWinter$Ship", "rank", "I", false)
  | 4 => ("ChannelWinter$Ship", "bears", "I", false)
  | 5 => ("ChannelWinter$Ship", "power", "I", false)
  | 6 => ("ChannelWinter$Ship", "port", "I", false)
  | 7 => ("ChannelWinter$Ship", "status", "I", false)
  | 8 => ("ChannelWinter$Ship", "breaker", "I", false)
  | 9 => ("ChannelWinter$Ship", "damage", "I", false)
  | 10 => ("ChannelWinter$Ship", "dues", "I", false)
  | _ => ("ChannelWinter$Ship", "arrivedAt", "I", false)
def tyX7 : Nat → FieldType := fun k => match k with
  | 0 => .object "ChannelWinter$Route"
  | 1 => .array .int
  | 2 => .int
  | 3 => .int
  | 4 => .int
  | 5 => .int
  | 6 => .int
  | 7 => .int
  | 8 => .int
  | 9 => .int
  | 10 => .int
  | _ => .int
abbrev wsX70 : List Cond := u_ws RX7 TX7 12
theorem nmX7 : ∀ a, a < 12 → ∀ b, b < 12 → a ≠ b → (TX7 a).2.1 ≠ (TX7 b).2.1 := by decide +kernel
theorem tyX7_ok : ∀ k, k < 12 → parseFieldDescriptor (TX7 k).2.2.1 = some (tyX7 k) := by decide +kernel
abbrev cX7_init : ByteArray := prog_9_method_1_code
def yX7_init : MethodName := ⟨RX7, "<init>", "()V"⟩
abbrev cX7_setClass : ByteArray := prog_9_method_2_code
def yX7_setClass : MethodName := ⟨RX7, "setClass", "(I)V"⟩
abbrev cX7_hindrance : ByteArray := prog_9_method_3_code
def yX7_hindrance : MethodName := ⟨RX7, "hindrance", "(IZ)I"⟩
abbrev cX7_isBound : ByteArray := prog_9_method_4_code
def yX7_isBound : MethodName := ⟨RX7, "isBound", "(II)Z"⟩
abbrev cX7_bind : ByteArray := prog_9_method_5_code
def yX7_bind : MethodName := ⟨RX7, "bind", "(II)V"⟩
abbrev cX7_setFree : ByteArray := prog_9_method_6_code
def yX7_setFree : MethodName := ⟨RX7, "setFree", "()V"⟩
abbrev cX7_follow : ByteArray := prog_9_method_7_code
def yX7_follow : MethodName := ⟨RX7, "follow", "(II)I"⟩
abbrev cX7_arrive : ByteArray := prog_9_method_8_code
def yX7_arrive : MethodName := ⟨RX7, "arrive", "(I)V"⟩
abbrev cX7_countWait : ByteArray := prog_9_method_9_code
def yX7_countWait : MethodName := ⟨RX7, "countWait", "(I)V"⟩
abbrev cX7_waitsBy : ByteArray := prog_9_method_10_code
def yX7_waitsBy : MethodName := ⟨RX7, "waitsBy", "(I)I"⟩
abbrev cX7_allWaits : ByteArray := prog_9_method_11_code
def yX7_allWaits : MethodName := ⟨RX7, "allWaits", "()I"⟩
abbrev cX7_copyFrom : ByteArray := prog_9_method_12_code
def yX7_copyFrom : MethodName := ⟨RX7, "copyFrom", "(LChannelWinter$Ship;)V"⟩
def RX8 : String := "ChannelWinter"
def TX8 : u_T := fun k => match k with
  | 0 => ("ChannelWinter", "ports", "LChannelWinter$Ports;", true)
  | 1 => ("ChannelWinter", "sea", "LChannelWinter$Sea;", true)
  | 2 => ("ChannelWinter", "trial", "LChannelWinter$Sea;", true)
  | _ => ("ChannelWinter", "chart", "LChannelWinter$Chart;", true)
def tyX8 : Nat → FieldType := fun k => match k with
  | 0 => .object "ChannelWinter$Ports"
  | 1 => .object "ChannelWinter$Sea"
  | 2 => .object "ChannelWinter$Sea"
  | _ => .object "ChannelWinter$Chart"
abbrev wsX80 : List Cond := u_ws RX8 TX8 4
theorem nmX8 : ∀ a, a < 4 → ∀ b, b < 4 → a ≠ b → (TX8 a).2.1 ≠ (TX8 b).2.1 := by decide +kernel
theorem tyX8_ok : ∀ k, k < 4 → parseFieldDescriptor (TX8 k).2.2.1 = some (tyX8 k) := by decide +kernel
abbrev cX8_init : ByteArray := prog_1_method_1_code
def yX8_init : MethodName := ⟨RX8, "<init>", "()V"⟩
abbrev cX8_ice : ByteArray := prog_1_method_2_code
def yX8_ice : MethodName := ⟨RX8, "ice", "(II)I"⟩
abbrev cX8_port : ByteArray := prog_1_method_4_code
def yX8_port : MethodName := ⟨RX8, "port", "(I)I"⟩
abbrev cX8_rule : ByteArray := prog_1_method_5_code
def yX8_rule : MethodName := ⟨RX8, "rule", "(III)I"⟩
abbrev cX8_breaker : ByteArray := prog_1_method_7_code
def yX8_breaker : MethodName := ⟨RX8, "breaker", "(II)I"⟩
abbrev cX8_ship : ByteArray := prog_1_method_8_code
def yX8_ship : MethodName := ⟨RX8, "ship", "(IIII)I"⟩
abbrev cX8_steer : ByteArray := prog_1_method_9_code
def yX8_steer : MethodName := ⟨RX8, "steer", "(II)I"⟩
abbrev cX8_sail : ByteArray := prog_1_method_10_code
def yX8_sail : MethodName := ⟨RX8, "sail", "(II)I"⟩
abbrev cX8_lead : ByteArray := prog_1_method_12_code
def yX8_lead : MethodName := ⟨RX8, "lead", "(II)I"⟩
abbrev cX8_tow : ByteArray := prog_1_method_13_code
def yX8_tow : MethodName := ⟨RX8, "tow", "(II)I"⟩
abbrev cX8_pass : ByteArray := prog_1_method_15_code
def yX8_pass : MethodName := ⟨RX8, "pass", "(III)I"⟩
abbrev cX8_ofCell : ByteArray := prog_1_method_16_code
def yX8_ofCell : MethodName := ⟨RX8, "ofCell", "(II)I"⟩
abbrev cX8_ofBreaker : ByteArray := prog_1_method_17_code
def yX8_ofBreaker : MethodName := ⟨RX8, "ofBreaker", "(II)I"⟩
abbrev cX8_ofShip : ByteArray := prog_1_method_18_code
def yX8_ofShip : MethodName := ⟨RX8, "ofShip", "(II)I"⟩
abbrev cX8_inForce : ByteArray := prog_1_method_19_code
def yX8_inForce : MethodName := ⟨RX8, "inForce", "(II)I"⟩
abbrev cX8_many : ByteArray := prog_1_method_20_code
def yX8_many : MethodName := ⟨RX8, "many", "(I)I"⟩
abbrev cX8_way : ByteArray := prog_1_method_22_code
def yX8_way : MethodName := ⟨RX8, "way", "(II)I"⟩
abbrev cX8_toBreak : ByteArray := prog_1_method_23_code
def yX8_toBreak : MethodName := ⟨RX8, "toBreak", "(I)I"⟩
abbrev cX8_helpNext : ByteArray := prog_1_method_24_code
def yX8_helpNext : MethodName := ⟨RX8, "helpNext", "(I)I"⟩
abbrev cX8_arriveIn : ByteArray := prog_1_method_25_code
def yX8_arriveIn : MethodName := ⟨RX8, "arriveIn", "(IIII)I"⟩
abbrev cX8_digest : ByteArray := prog_1_method_26_code
def yX8_digest : MethodName := ⟨RX8, "digest", "()J"⟩
abbrev cX8_portCellOf : ByteArray := prog_1_method_27_code
def yX8_portCellOf : MethodName := ⟨RX8, "portCellOf", "(LChannelWinter$Ship;)I"⟩
abbrev cX8_channelsNeeded : ByteArray := prog_1_method_28_code
def yX8_channelsNeeded : MethodName := ⟨RX8, "channelsNeeded", "(LChannelWinter$Ship;)I"⟩
abbrev cX8_breakingPrice : ByteArray := prog_1_method_29_code
def yX8_breakingPrice : MethodName := ⟨RX8, "breakingPrice", "(LChannelWinter$Ship;LChannelWinter$Cell;)I"⟩
abbrev cX8_canEnter : ByteArray := prog_1_method_30_code
def yX8_canEnter : MethodName := ⟨RX8, "canEnter", "(LChannelWinter$Ship;LChannelWinter$Cell;)Z"⟩
abbrev cX8_canTake : ByteArray := prog_1_method_31_code
def yX8_canTake : MethodName := ⟨RX8, "canTake", "(LChannelWinter$Breaker;LChannelWinter$Ship;)Z"⟩
abbrev cX8_isWeather : ByteArray := prog_1_method_32_code
def yX8_isWeather : MethodName := ⟨RX8, "isWeather", "(II)Z"⟩
abbrev cX8_within : ByteArray := prog_1_method_33_code
def yX8_within : MethodName := ⟨RX8, "within", "(III)Z"⟩
abbrev cX8_demandArgument : ByteArray := prog_1_method_34_code
def yX8_demandArgument : MethodName := ⟨RX8, "demandArgument", "(Z)V"⟩
abbrev cX8_demandState : ByteArray := prog_1_method_35_code
def yX8_demandState : MethodName := ⟨RX8, "demandState", "(Z)V"⟩
abbrev cX8_neighbour : ByteArray := prog_1_method_36_code
def yX8_neighbour : MethodName := ⟨RX8, "neighbour", "(II)I"⟩
abbrev cX8_distance : ByteArray := prog_1_method_37_code
def yX8_distance : MethodName := ⟨RX8, "distance", "(II)I"⟩
def RX9 : String := "ChannelWinterModel$Breaker"
def TX9 : u_T := fun k => match k with
  | _ => ("", "", "", false)
def tyX9 : Nat → FieldType := fun k => match k with
  | _ => .int
abbrev wsX90 : List Cond := u_ws RX9 TX9 0
theorem nmX9 : ∀ a, a < 0 → ∀ b, b < 0 → a ≠ b → (TX9 a).2.1 ≠ (TX9 b).2.1 := by decide +kernel
theorem tyX9_ok : ∀ k, k < 0 → parseFieldDescriptor (TX9 k).2.2.1 = some (tyX9 k) := by decide +kernel
def RX10 : String := "ChannelWinterModel$Port"
def TX10 : u_T := fun k => match k with
  | _ => ("", "", "", false)
def tyX10 : Nat → FieldType := fun k => match k with
  | _ => .int
abbrev wsX100 : List Cond := u_ws RX10 TX10 0
theorem nmX10 : ∀ a, a < 0 → ∀ b, b < 0 → a ≠ b → (TX10 a).2.1 ≠ (TX10 b).2.1 := by decide +kernel
theorem tyX10_ok : ∀ k, k < 0 → parseFieldDescriptor (TX10 k).2.2.1 = some (tyX10 k) := by decide +kernel
def RX11 : String := "ChannelWinterModel$Sea"
def TX11 : u_T := fun k => match k with
  | _ => ("", "", "", false)
def tyX11 : Nat → FieldType := fun k => match k with
  | _ => .int
abbrev wsX110 : List Cond := u_ws RX11 TX11 0
theorem nmX11 : ∀ a, a < 0 → ∀ b, b < 0 → a ≠ b → (TX11 a).2.1 ≠ (TX11 b).2.1 := by decide +kernel
theorem tyX11_ok : ∀ k, k < 0 → parseFieldDescriptor (TX11 k).2.2.1 = some (tyX11 k) := by decide +kernel
def RX12 : String := "ChannelWinterModel$Ship"
def TX12 : u_T := fun k => match k with
  | _ => ("", "", "", false)
def tyX12 : Nat → FieldType := fun k => match k with
  | _ => .int
abbrev wsX120 : List Cond := u_ws RX12 TX12 0
theorem nmX12 : ∀ a, a < 0 → ∀ b, b < 0 → a ≠ b → (TX12 a).2.1 ≠ (TX12 b).2.1 := by decide +kernel
theorem tyX12_ok : ∀ k, k < 0 → parseFieldDescriptor (TX12 k).2.2.1 = some (tyX12 k) := by decide +kernel
def RX13 : String := "ChannelWinterModel"
def TX13 : u_T := fun k => match k with
  | _ => ("", "", "", false)
def tyX13 : Nat → FieldType := fun k => match k with
  | _ => .int
abbrev wsX130 : List Cond := u_ws RX13 TX13 0
theorem nmX13 : ∀ a, a < 0 → ∀ b, b < 0 → a ≠ b → (TX13 a).2.1 ≠ (TX13 b).2.1 := by decide +kernel
theorem tyX13_ok : ∀ k, k < 0 → parseFieldDescriptor (TX13 k).2.2.1 = some (tyX13 k) := by decide +kernel
def RJx145de : String := "java/io/Serializable"
def TJx145de : u_T := fun k => match k with
  | _ => ("", "", "", false)
def tyJx145de : Nat → FieldType := fun k => match k with
  | _ => .int
abbrev wsJx145de0 : List Cond := u_ws RJx145de TJx145de 0
theorem nmJx145de : ∀ a, a < 0 → ∀ b, b < 0 → a ≠ b → (TJx145de a).2.1 ≠ (TJx145de b).2.1 := by decide +kernel
theorem tyJx145de_ok : ∀ k, k < 0 → parseFieldDescriptor (TJx145de k).2.2.1 = some (tyJx145de k) := by decide +kernel
def RJ9 : String := "java/lang/Math"
def TJ9 : u_T := fun k => match k with
  | _ => ("", "", "", false)
def tyJ9 : Nat → FieldType := fun k => match k with
  | _ => .int
abbrev wsJ90 : List Cond := u_ws RJ9 TJ9 0
theorem nmJ9 : ∀ a, a < 0 → ∀ b, b < 0 → a ≠ b → (TJ9 a).2.1 ≠ (TJ9 b).2.1 := by decide +kernel
theorem tyJ9_ok : ∀ k, k < 0 → parseFieldDescriptor (TJ9 k).2.2.1 = some (tyJ9 k) := by decide +kernel
abbrev cJ9_abs_0f7a4 : ByteArray := prog_20_method_59_code
def yJ9_abs_0f7a4 : MethodName := ⟨RJ9, "abs", "(I)I"⟩
abbrev cJ9_max_7cf53 : ByteArray := prog_20_method_65_code
def yJ9_max_7cf53 : MethodName := ⟨RJ9, "max", "(II)I"⟩
abbrev cJ9_min_7cf53 : ByteArray := prog_20_method_69_code
def yJ9_min_7cf53 : MethodName := ⟨RJ9, "min", "(II)I"⟩
def RJ0 : String := "java/lang/String"
def TJ0 : u_T := fun k => match k with
  | _ => ("", "", "", false)
def tyJ0 : Nat → FieldType := fun k => match k with
  | _ => .int
abbrev wsJ00 : List Cond := u_ws RJ0 TJ0 0
theorem nmJ0 : ∀ a, a < 0 → ∀ b, b < 0 → a ≠ b → (TJ0 a).2.1 ≠ (TJ0 b).2.1 := by decide +kernel
theorem tyJ0_ok : ∀ k, k < 0 → parseFieldDescriptor (TJ0 k).2.2.1 = some (tyJ0 k) := by decide +kernel
def RL : String := "ChannelWinterLaw"
abbrev cL_below : ByteArray := method_2_code
def yL_below : MethodName := ⟨RL, "below", "(II)I"⟩
abbrev cL_cell : ByteArray := method_3_code
def yL_cell : MethodName := ⟨RL, "cell", "([II)I"⟩
abbrev cL_law : ByteArray := code
def yL_law : MethodName := ⟨RL, "law", "([I)Z"⟩
abbrev cL_isBeside : ByteArray := method_5_code
def yL_isBeside : MethodName := ⟨RL, "isBeside", "(II)Z"⟩
abbrev cL_next : ByteArray := method_6_code
def yL_next : MethodName := ⟨RL, "next", "(II)I"⟩
abbrev cL_waits : ByteArray := method_7_code
def yL_waits : MethodName := ⟨RL, "waits", "(LChannelWinter;I)I"⟩
abbrev cL_isPassed : ByteArray := method_8_code
def yL_isPassed : MethodName := ⟨RL, "isPassed", "(LChannelWinter;II)Z"⟩
abbrev cL_isAhead : ByteArray := method_9_code
def yL_isAhead : MethodName := ⟨RL, "isAhead", "(LChannelWinter;III)Z"⟩
abbrev cL_isSound : ByteArray := method_10_code
def yL_isSound : MethodName := ⟨RL, "isSound", "(LChannelWinter;)Z"⟩
abbrev vwCl : List vw_C := [(RX0, TX0, 5), (RX0, TX0, 5), (RX0, TX0, 5), (RX0, TX0, 5), (RX1, TX1, 5), (RX2, TX2, 2), (RX3, TX3, 5), (RX4, TX4, 2), (RX5, TX5, 2), (RX6, TX6, 7), (RX7, TX7, 12), (RX8, TX8, 4), (RX0, TX0, 5), (RX0, TX0, 5), (RX0, TX0, 5), (RX0, TX0, 5), (RX0, TX0, 5)]
end
section
/-! The program, instruction by instruction: (instruction, pc behind it, pc of its jump, its constant). -/
def ep_X0_init (x : Nat) : Option (Instr × Nat × Nat × Int32) := cond (Nat.blt x 9) (cond (Nat.blt x 4) (cond (Nat.blt x 1) (cond (Nat.beq x 0) (some (.aload_n 0, 1, 0, 0)) none) (cond (Nat.beq x 1) (some (.invokespecial 3, 4, 0, 0)) none)) (cond (Nat.blt x 5) (cond (Nat.beq x 4) (some (.aload_n 0, 5, 0, 0)) none) (cond (Nat.blt x 8) (cond (Nat.beq x 5) (some (.new 9, 8, 0, 0)) none) (cond (Nat.beq x 8) (some (.dup, 9, 0, 0)) none)))) (cond (Nat.blt x 16) (cond (Nat.blt x 12) (cond (Nat.beq x 9) (some (.invokespecial 11, 12, 0, 0)) none) (cond (Nat.blt x 15) (cond (Nat.beq x 12) (some (.putfield 12, 15, 0, 0)) none) (cond (Nat.beq x 15) (some (.aload_n 0, 16, 0, 0)) none))) (cond (Nat.blt x 17) (cond (Nat.beq x 16) (some (.iconst (-1), 17, 0, (-1))) none) (cond (Nat.blt x 20) (cond (Nat.beq x 17) (some (.putfield 18, 20, 0, 0)) none) (cond (Nat.beq x 20) (some (.return_, 21, 0, 0)) none))))
def ep_X0_enter (x : Nat) : Option (Instr × Nat × Nat × Int32) := cond (Nat.blt x 12) (cond (Nat.blt x 6) (cond (Nat.blt x 2) (cond (Nat.blt x 1) (cond (Nat.beq x 0) (some (.aload_n 0, 1, 0, 0)) none) (cond (Nat.beq x 1) (some (.dup, 2, 0, 0)) none)) (cond (Nat.blt x 5) (cond (Nat.beq x 2) (some (.getfield 22, 5, 0, 0)) none) (cond (Nat.beq x 5) (some (.iload_n 2, 6, 0, 0)) none))) (cond (Nat.blt x 10) (cond (Nat.blt x 7) (cond (Nat.beq x 6) (some (.isub, 7, 0, 0)) none) (cond (Nat.beq x 7) (some (.putfield 22, 10, 0, 0)) none)) (cond (Nat.blt x 11) (cond (Nat.beq x 10) (some (.aload_n 0, 11, 0, 0)) none) (cond (Nat.beq x 11) (some (.aload_n 0, 12, 0, 0)) none)))) (cond (Nat.blt x 20) (cond (Nat.blt x 18) (cond (Nat.blt x 15) (cond (Nat.beq x 12) (some (.getfield 25, 15, 0, 0)) none) (cond (Nat.beq x 15) (some (.putfield 18, 18, 0, 0)) none)) (cond (Nat.blt x 19) (cond (Nat.beq x 18) (some (.aload_n 0, 19, 0, 0)) none) (cond (Nat.beq x 19) (some (.iload_n 1, 20, 0, 0)) none))) (cond (Nat.blt x 24) (cond (Nat.blt x 23) (cond (Nat.beq x 20) (some (.putfield 25, 23, 0, 0)) none) (cond (Nat.beq x 23) (some (.aload_n 0, 24, 0, 0)) none)) (cond (Nat.blt x 27) (cond (Nat.beq x 24) (some (.getfield 12, 27, 0, 0)) none) (cond (Nat.blt x 30) (cond (Nat.beq x 27) (some (.invokevirtual 28, 30, 0, 0)) none) (cond (Nat.beq x 30) (some (.return_, 31, 0, 0)) none)))))
def ep_X0_copyFrom (x : Nat) : Option (Instr × Nat × Nat × Int32) := cond (Nat.blt x 21) (cond (Nat.blt x 11) (cond (Nat.blt x 4) (cond (Nat.blt x 1) (cond (Nat.beq x 0) (some (.aload_n 0, 1, 0, 0)) none) (cond (Nat.beq x 1) (some (.getfield 12, 4, 0, 0)) none)) (cond (Nat.blt x 5) (cond (Nat.beq x 4) (some (.aload_n 1, 5, 0, 0)) none) (cond (Nat.blt x 8) (cond (Nat.beq x 5) (some (.getfield 12, 8, 0, 0)) none) (cond (Nat.beq x 8) (some (.invokevirtual 31, 11, 0, 0)) none)))) (cond (Nat.blt x 16) (cond (Nat.blt x 12) (cond (Nat.beq x 11) (some (.aload_n 0, 12, 0, 0)) none) (cond (Nat.blt x 13) (cond (Nat.beq x 12) (some (.aload_n 1, 13, 0, 0)) none) (cond (Nat.beq x 13) (some (.getfield 25, 16, 0, 0)) none))) (cond (Nat.blt x 19) (cond (Nat.beq x 16) (some (.putfield 25, 19, 0, 0)) none) (cond (Nat.blt x 20) (cond (Nat.beq x 19) (some (.aload_n 0, 20, 0, 0)) none) (cond (Nat.beq x 20) (some (.aload_n 1, 21, 0, 0)) none))))) (cond (Nat.blt x 32) (cond (Nat.blt x 27) (cond (Nat.blt x 24) (cond (Nat.beq x 21) (some (.getfield 22, 24, 0, 0)) none) (cond (Nat.beq x 24) (some (.putfield 22, 27, 0, 0)) none)) (cond (Nat.blt x 28) (cond (Nat.beq x 27) (some (.aload_n 0, 28, 0, 0)) none) (cond (Nat.blt x 29) (cond (Nat.beq x 28) (some (.aload_n 1, 29, 0, 0)) none) (cond (Nat.beq x 29) (some (.getfield 35, 32, 0, 0)) none)))) (cond (Nat.blt x 37) (cond (Nat.blt x 35) (cond (Nat.beq x 32) (some (.putfield 35, 35, 0, 0)) none) (cond (Nat.blt x 36) (cond (Nat.beq x 35) (some (.aload_n 0, 36, 0, 0)) none) (cond (Nat.beq x 36) (some (.aload_n 1, 37, 0, 0)) none))) (cond (Nat.blt x 40) (cond (Nat.beq x 37) (some (.getfield 18, 40, 0, 0)) none) (cond (Nat.blt x 43) (cond (Nat.beq x 40) (some (.putfield 18, 43, 0, 0)) none) (cond (Nat.beq x 43) (some (.return_, 44, 0, 0)) none)))))
def ep_X1_init (x : Nat) : Option (Instr × Nat × Nat × Int32) := cond (Nat.blt x 1) (cond (Nat.beq x 0) (some (.aload_n 0, 1, 0, 0)) none) (cond (Nat.blt x 4) (cond (Nat.beq x 1) (some (.invokespecial 3, 4, 0, 0)) none) (cond (Nat.beq x 4) (some (.return_, 5, 0, 0)) none))
def ep_X1_worth (x : Nat) : Option (Instr × Nat × Nat × Int32) := cond (Nat.blt x 16) (cond (Nat.blt x 8) (cond (Nat.blt x 4) (cond (Nat.blt x 1) (cond (Nat.beq x 0) (some (.aload_n 0, 1, 0, 0)) none) (cond (Nat.beq x 1) (some (.getfield 9, 4, 0, 0)) none)) (cond (Nat.blt x 7) (cond (Nat.beq x 4) (some (.ifCond .le 12, 7, 16, 0)) none) (cond (Nat.beq x 7) (some (.aload_n 0, 8, 0, 0)) none))) (cond (Nat.blt x 12) (cond (Nat.blt x 11) (cond (Nat.beq x 8) (some (.getfield 15, 11, 0, 0)) none) (cond (Nat.beq x 11) (some (.iconst 4, 12, 0, 4)) none)) (cond (Nat.blt x 13) (cond (Nat.beq x 12) (some (.idiv, 13, 0, 0)) none) (cond (Nat.beq x 13) (some (.goto 7, 16, 20, 0)) none)))) (cond (Nat.blt x 22) (cond (Nat.blt x 20) (cond (Nat.blt x 17) (cond (Nat.beq x 16) (some (.aload_n 0, 17, 0, 0)) none) (cond (Nat.beq x 17) (some (.getfield 15, 20, 0, 0)) none)) (cond (Nat.blt x 21) (cond (Nat.beq x 20) (some (.iconst 5, 21, 0, 5)) none) (cond (Nat.beq x 21) (some (.aload_n 0, 22, 0, 0)) none))) (cond (Nat.blt x 26) (cond (Nat.blt x 25) (cond (Nat.beq x 22) (some (.getfield 18, 25, 0, 0)) none) (cond (Nat.beq x 25) (some (.imul, 26, 0, 0)) none)) (cond (Nat.blt x 27) (cond (Nat.beq x 26) (some (.iadd, 27, 0, 0)) none) (cond (Nat.beq x 27) (some (.ireturn, 28, 0, 0)) none))))
def ep_X1_worthInChannel (x : Nat) : Option (Instr × Nat × Nat × Int32) := cond (Nat.blt x 7) (cond (Nat.blt x 4) (cond (Nat.blt x 1) (cond (Nat.beq x 0) (some (.aload_n 0, 1, 0, 0)) none) (cond (Nat.beq x 1) (some (.getfield 15, 4, 0, 0)) none)) (cond (Nat.blt x 5) (cond (Nat.beq x 4) (some (.iconst 4, 5, 0, 4)) none) (cond (Nat.blt x 6) (cond (Nat.beq x 5) (some (.idiv, 6, 0, 0)) none) (cond (Nat.beq x 6) (some (.iconst 5, 7, 0, 5)) none)))) (cond (Nat.blt x 11) (cond (Nat.blt x 8) (cond (Nat.beq x 7) (some (.aload_n 0, 8, 0, 0)) none) (cond (Nat.beq x 8) (some (.getfield 18, 11, 0, 0)) none)) (cond (Nat.blt x 12) (cond (Nat.beq x 11) (some (.imul, 12, 0, 0)) none) (cond (Nat.blt x 13) (cond (Nat.beq x 12) (some (.iadd, 13, 0, 0)) none) (cond (Nat.beq x 13) (some (.ireturn, 14, 0, 0)) none))))
def ep_X1_worthUnbroken (x : Nat) : Option (Instr × Nat × Nat × Int32) := cond (Nat.blt x 6) (cond (Nat.blt x 4) (cond (Nat.blt x 1) (cond (Nat.beq x 0) (some (.aload_n 0, 1, 0, 0)) none) (cond (Nat.beq x 1) (some (.getfield 15, 4, 0, 0)) none)) (cond (Nat.blt x 5) (cond (Nat.beq x 4) (some (.iconst 5, 5, 0, 5)) none) (cond (Nat.beq x 5) (some (.aload_n 0, 6, 0, 0)) none))) (cond (Nat.blt x 10) (cond (Nat.blt x 9) (cond (Nat.beq x 6) (some (.getfield 18, 9, 0, 0)) none) (cond (Nat.beq x 9) (some (.imul, 10, 0, 0)) none)) (cond (Nat.blt x 11) (cond (Nat.beq x 10) (some (.iadd, 11, 0, 0)) none) (cond (Nat.beq x 11) (some (.ireturn, 12, 0, 0)) none)))
def ep_X1_giveTenthTo (x : Nat) : Option (Instr × Nat × Nat × Int32) := cond (Nat.blt x 17) (cond (Nat.blt x 11) (cond (Nat.blt x 4) (cond (Nat.blt x 1) (cond (Nat.beq x 0) (some (.aload_n 1, 1, 0, 0)) none) (cond (Nat.beq x 1) (some (.getfield 21, 4, 0, 0)) none)) (cond (Nat.blt x 7) (cond (Nat.beq x 4) (some (.ifCond .ne 31, 7, 35, 0)) none) (cond (Nat.blt x 8) (cond (Nat.beq x 7) (some (.aload_n 0, 8, 0, 0)) none) (cond (Nat.beq x 8) (some (.getfield 15, 11, 0, 0)) none)))) (cond (Nat.blt x 14) (cond (Nat.blt x 13) (cond (Nat.beq x 11) (some (.bipush 10, 13, 0, 10)) none) (cond (Nat.beq x 13) (some (.idiv, 14, 0, 0)) none)) (cond (Nat.blt x 15) (cond (Nat.beq x 14) (some (.istore_n 2, 15, 0, 0)) none) (cond (Nat.blt x 16) (cond (Nat.beq x 15) (some (.aload_n 0, 16, 0, 0)) none) (cond (Nat.beq x 16) (some (.dup, 17, 0, 0)) none))))) (cond (Nat.blt x 26) (cond (Nat.blt x 21) (cond (Nat.blt x 20) (cond (Nat.beq x 17) (some (.getfield 25, 20, 0, 0)) none) (cond (Nat.beq x 20) (some (.iload_n 2, 21, 0, 0)) none)) (cond (Nat.blt x 22) (cond (Nat.beq x 21) (some (.isub, 22, 0, 0)) none) (cond (Nat.blt x 25) (cond (Nat.beq x 22) (some (.putfield 25, 25, 0, 0)) none) (cond (Nat.beq x 25) (some (.aload_n 1, 26, 0, 0)) none)))) (cond (Nat.blt x 31) (cond (Nat.blt x 27) (cond (Nat.beq x 26) (some (.dup, 27, 0, 0)) none) (cond (Nat.blt x 30) (cond (Nat.beq x 27) (some (.getfield 25, 30, 0, 0)) none) (cond (Nat.beq x 30) (some (.iload_n 2, 31, 0, 0)) none))) (cond (Nat.blt x 32) (cond (Nat.beq x 31) (some (.iadd, 32, 0, 0)) none) (cond (Nat.blt x 35) (cond (Nat.beq x 32) (some (.putfield 25, 35, 0, 0)) none) (cond (Nat.beq x 35) (some (.return_, 36, 0, 0)) none)))))
def ep_X1_settleDrift (x : Nat) : Option (Instr × Nat × Nat × Int32) := cond (Nat.blt x 14) (cond (Nat.blt x 6) (cond (Nat.blt x 2) (cond (Nat.blt x 1) (cond (Nat.beq x 0) (some (.aload_n 0, 1, 0, 0)) none) (cond (Nat.beq x 1) (some (.dup, 2, 0, 0)) none)) (cond (Nat.blt x 5) (cond (Nat.beq x 2) (some (.getfield 15, 5, 0, 0)) none) (cond (Nat.beq x 5) (some (.aload_n 0, 6, 0, 0)) none))) (cond (Nat.blt x 10) (cond (Nat.blt x 9) (cond (Nat.beq x 6) (some (.getfield 25, 9, 0, 0)) none) (cond (Nat.beq x 9) (some (.iadd, 10, 0, 0)) none)) (cond (Nat.blt x 13) (cond (Nat.beq x 10) (some (.putfield 15, 13, 0, 0)) none) (cond (Nat.beq x 13) (some (.aload_n 0, 14, 0, 0)) none)))) (cond (Nat.blt x 22) (cond (Nat.blt x 16) (cond (Nat.blt x 15) (cond (Nat.beq x 14) (some (.iconst 0, 15, 0, 0)) none) (cond (Nat.beq x 15) (some (.aload_n 0, 16, 0, 0)) none)) (cond (Nat.blt x 19) (cond (Nat.beq x 16) (some (.getfield 25, 19, 0, 0)) none) (cond (Nat.beq x 19) (some (.invokestatic 28, 22, 0, 0)) none))) (cond (Nat.blt x 26) (cond (Nat.blt x 25) (cond (Nat.beq x 22) (some (.putfield 18, 25, 0, 0)) none) (cond (Nat.beq x 25) (some (.aload_n 0, 26, 0, 0)) none)) (cond (Nat.blt x 27) (cond (Nat.beq x 26) (some (.iconst 0, 27, 0, 0)) none) (cond (Nat.blt x 30) (cond (Nat.beq x 27) (some (.putfield 25, 30, 0, 0)) none) (cond (Nat.beq x 30) (some (.return_, 31, 0, 0)) none)))))
def ep_X1_freeze (x : Nat) : Option (Instr × Nat × Nat × Int32) := cond (Nat.blt x 24) (cond (Nat.blt x 14) (cond (Nat.blt x 7) (cond (Nat.blt x 1) (cond (Nat.beq x 0) (some (.aload_n 0, 1, 0, 0)) none) (cond (Nat.blt x 4) (cond (Nat.beq x 1) (some (.getfield 21, 4, 0, 0)) none) (cond (Nat.beq x 4) (some (.ifCond .ne 13, 7, 17, 0)) none))) (cond (Nat.blt x 8) (cond (Nat.beq x 7) (some (.aload_n 0, 8, 0, 0)) none) (cond (Nat.blt x 11) (cond (Nat.beq x 8) (some (.getfield 15, 11, 0, 0)) none) (cond (Nat.beq x 11) (some (.sipush 300, 14, 0, 300)) none)))) (cond (Nat.blt x 19) (cond (Nat.blt x 17) (cond (Nat.beq x 14) (some (.if_icmp .lt 5, 17, 19, 0)) none) (cond (Nat.blt x 18) (cond (Nat.beq x 17) (some (.iconst 0, 18, 0, 0)) none) (cond (Nat.beq x 18) (some (.ireturn, 19, 0, 0)) none))) (cond (Nat.blt x 20) (cond (Nat.beq x 19) (some (.iload_n 1, 20, 0, 0)) none) (cond (Nat.blt x 23) (cond (Nat.beq x 20) (some (.sipush 300, 23, 0, 300)) none) (cond (Nat.beq x 23) (some (.aload_n 0, 24, 0, 0)) none))))) (cond (Nat.blt x 34) (cond (Nat.blt x 31) (cond (Nat.blt x 27) (cond (Nat.beq x 24) (some (.getfield 15, 27, 0, 0)) none) (cond (Nat.blt x 28) (cond (Nat.beq x 27) (some (.isub, 28, 0, 0)) none) (cond (Nat.beq x 28) (some (.invokestatic 34, 31, 0, 0)) none))) (cond (Nat.blt x 32) (cond (Nat.beq x 31) (some (.istore_n 2, 32, 0, 0)) none) (cond (Nat.blt x 33) (cond (Nat.beq x 32) (some (.aload_n 0, 33, 0, 0)) none) (cond (Nat.beq x 33) (some (.dup, 34, 0, 0)) none)))) (cond (Nat.blt x 39) (cond (Nat.blt x 37) (cond (Nat.beq x 34) (some (.getfield 15, 37, 0, 0)) none) (cond (Nat.blt x 38) (cond (Nat.beq x 37) (some (.iload_n 2, 38, 0, 0)) none) (cond (Nat.beq x 38) (some (.iadd, 39, 0, 0)) none))) (cond (Nat.blt x 42) (cond (Nat.beq x 39) (some (.putfield 15, 42, 0, 0)) none) (cond (Nat.blt x 43) (cond (Nat.beq x 42) (some (.iload_n 2, 43, 0, 0)) none) (cond (Nat.beq x 43) (some (.ireturn, 44, 0, 0)) none)))))
def ep_X1_closeChannel (x : Nat) : Option (Instr × Nat × Nat × Int32) := cond (Nat.blt x 11) (cond (Nat.blt x 3) (cond (Nat.blt x 1) (cond (Nat.beq x 0) (some (.aload_n 0, 1, 0, 0)) none) (cond (Nat.blt x 2) (cond (Nat.beq x 1) (some (.iconst 0, 2, 0, 0)) none) (cond (Nat.beq x 2) (some (.aload_n 0, 3, 0, 0)) none))) (cond (Nat.blt x 7) (cond (Nat.blt x 6) (cond (Nat.beq x 3) (some (.getfield 9, 6, 0, 0)) none) (cond (Nat.beq x 6) (some (.aload_n 0, 7, 0, 0)) none)) (cond (Nat.blt x 10) (cond (Nat.beq x 7) (some (.getfield 18, 10, 0, 0)) none) (cond (Nat.beq x 10) (some (.iconst 3, 11, 0, 3)) none)))) (cond (Nat.blt x 19) (cond (Nat.blt x 15) (cond (Nat.blt x 14) (cond (Nat.beq x 11) (some (.if_icmp .lt 7, 14, 18, 0)) none) (cond (Nat.beq x 14) (some (.iconst 3, 15, 0, 3)) none)) (cond (Nat.blt x 18) (cond (Nat.beq x 15) (some (.goto 4, 18, 19, 0)) none) (cond (Nat.beq x 18) (some (.iconst 1, 19, 0, 1)) none))) (cond (Nat.blt x 23) (cond (Nat.blt x 20) (cond (Nat.beq x 19) (some (.isub, 20, 0, 0)) none) (cond (Nat.beq x 20) (some (.invokestatic 28, 23, 0, 0)) none)) (cond (Nat.blt x 26) (cond (Nat.beq x 23) (some (.putfield 9, 26, 0, 0)) none) (cond (Nat.beq x 26) (some (.return_, 27, 0, 0)) none))))
def ep_X1_copyFrom (x : Nat) : Option (Instr × Nat × Nat × Int32) := cond (Nat.blt x 18) (cond (Nat.blt x 9) (cond (Nat.blt x 2) (cond (Nat.blt x 1) (cond (Nat.beq x 0) (some (.aload_n 0, 1, 0, 0)) none) (cond (Nat.beq x 1) (some (.aload_n 1, 2, 0, 0)) none)) (cond (Nat.blt x 5) (cond (Nat.beq x 2) (some (.getfield 15, 5, 0, 0)) none) (cond (Nat.blt x 8) (cond (Nat.beq x 5) (some (.putfield 15, 8, 0, 0)) none) (cond (Nat.beq x 8) (some (.aload_n 0, 9, 0, 0)) none)))) (cond (Nat.blt x 13) (cond (Nat.blt x 10) (cond (Nat.beq x 9) (some (.aload_n 1, 10, 0, 0)) none) (cond (Nat.beq x 10) (some (.getfield 18, 13, 0, 0)) none)) (cond (Nat.blt x 16) (cond (Nat.beq x 13) (some (.putfield 18, 16, 0, 0)) none) (cond (Nat.blt x 17) (cond (Nat.beq x 16) (some (.aload_n 0, 17, 0, 0)) none) (cond (Nat.beq x 17) (some (.aload_n 1, 18, 0, 0)) none))))) (cond (Nat.blt x 29) (cond (Nat.blt x 24) (cond (Nat.blt x 21) (cond (Nat.beq x 18) (some (.getfield 9, 21, 0, 0)) none) (cond (Nat.beq x 21) (some (.putfield 9, 24, 0, 0)) none)) (cond (Nat.blt x 25) (cond (Nat.beq x 24) (some (.aload_n 0, 25, 0, 0)) none) (cond (Nat.blt x 26) (cond (Nat.beq x 25) (some (.aload_n 1, 26, 0, 0)) none) (cond (Nat.beq x 26) (some (.getfield 21, 29, 0, 0)) none)))) (cond (Nat.blt x 34) (cond (Nat.blt x 32) (cond (Nat.beq x 29) (some (.putfield 21, 32, 0, 0)) none) (cond (Nat.blt x 33) (cond (Nat.beq x 32) (some (.aload_n 0, 33, 0, 0)) none) (cond (Nat.beq x 33) (some (.aload_n 1, 34, 0, 0)) none))) (cond (Nat.blt x 37) (cond (Nat.beq x 34) (some (.getfield 25, 37, 0, 0)) none) (cond (Nat.blt x 40) (cond (Nat.beq x 37) (some (.putfield 25, 40, 0, 0)) none) (cond (Nat.beq x 40) (some (.return_, 41, 0, 0)) none)))))
def ep_X2_init (x : Nat) : Option (Instr × Nat × Nat × Int32) := cond (Nat.blt x 9) (cond (Nat.blt x 4) (cond (Nat.blt x 1) (cond (Nat.beq x 0) (some (.aload_n 0, 1, 0, 0)) none) (cond (Nat.beq x 1) (some (.invokespecial 3, 4, 0, 0)) none)) (cond (Nat.blt x 5) (cond (Nat.beq x 4) (some (.aload_n 0, 5, 0, 0)) none) (cond (Nat.blt x 7) (cond (Nat.beq x 5) (some (.bipush 15, 7, 0, 15)) none) (cond (Nat.beq x 7) (some (.newarray .int, 9, 0, 0)) none)))) (cond (Nat.blt x 15) (cond (Nat.blt x 12) (cond (Nat.beq x 9) (some (.putfield 9, 12, 0, 0)) none) (cond (Nat.blt x 13) (cond (Nat.beq x 12) (some (.aload_n 0, 13, 0, 0)) none) (cond (Nat.beq x 13) (some (.bipush 15, 15, 0, 15)) none))) (cond (Nat.blt x 17) (cond (Nat.beq x 15) (some (.newarray .int, 17, 0, 0)) none) (cond (Nat.blt x 20) (cond (Nat.beq x 17) (some (.putfield 15, 20, 0, 0)) none) (cond (Nat.beq x 20) (some (.return_, 21, 0, 0)) none))))
def ep_X2_setPrice (x : Nat) : Option (Instr × Nat × Nat × Int32) := cond (Nat.blt x 10) (cond (Nat.blt x 5) (cond (Nat.blt x 1) (cond (Nat.beq x 0) (some (.iload_n 1, 1, 0, 0)) none) (cond (Nat.blt x 4) (cond (Nat.beq x 1) (some (.ifCond .lt 19, 4, 20, 0)) none) (cond (Nat.beq x 4) (some (.iload_n 1, 5, 0, 0)) none))) (cond (Nat.blt x 6) (cond (Nat.beq x 5) (some (.aload_n 0, 6, 0, 0)) none) (cond (Nat.blt x 9) (cond (Nat.beq x 6) (some (.getfield 9, 9, 0, 0)) none) (cond (Nat.beq x 9) (some (.arraylength, 10, 0, 0)) none)))) (cond (Nat.blt x 17) (cond (Nat.blt x 13) (cond (Nat.beq x 10) (some (.if_icmp .ge 10, 13, 20, 0)) none) (cond (Nat.blt x 14) (cond (Nat.beq x 13) (some (.aload_n 0, 14, 0, 0)) none) (cond (Nat.beq x 14) (some (.getfield 9, 17, 0, 0)) none))) (cond (Nat.blt x 19) (cond (Nat.blt x 18) (cond (Nat.beq x 17) (some (.iload_n 1, 18, 0, 0)) none) (cond (Nat.beq x 18) (some (.iload_n 2, 19, 0, 0)) none)) (cond (Nat.blt x 20) (cond (Nat.beq x 19) (some (.iastore, 20, 0, 0)) none) (cond (Nat.beq x 20) (some (.return_, 21, 0, 0)) none))))
def ep_X2_cheapest (x : Nat) : Option (Instr × Nat × Nat × Int32) := cond (Nat.blt x 38) (cond (Nat.blt x 17) (cond (Nat.blt x 7) (cond (Nat.blt x 2) (cond (Nat.blt x 1) (cond (Nat.beq x 0) (some (.iconst 0, 1, 0, 0)) none) (cond (Nat.beq x 1) (some (.istore_n 3, 2, 0, 0)) none)) (cond (Nat.blt x 3) (cond (Nat.beq x 2) (some (.iload_n 3, 3, 0, 0)) none) (cond (Nat.blt x 4) (cond (Nat.beq x 3) (some (.aload_n 0, 4, 0, 0)) none) (cond (Nat.beq x 4) (some (.getfield 15, 7, 0, 0)) none)))) (cond (Nat.blt x 12) (cond (Nat.blt x 8) (cond (Nat.beq x 7) (some (.arraylength, 8, 0, 0)) none) (cond (Nat.blt x 11) (cond (Nat.beq x 8) (some (.if_icmp .ge 27, 11, 35, 0)) none) (cond (Nat.beq x 11) (some (.aload_n 0, 12, 0, 0)) none))) (cond (Nat.blt x 15) (cond (Nat.beq x 12) (some (.getfield 15, 15, 0, 0)) none) (cond (Nat.blt x 16) (cond (Nat.beq x 15) (some (.iload_n 3, 16, 0, 0)) none) (cond (Nat.beq x 16) (some (.iload_n 3, 17, 0, 0)) none))))) (cond (Nat.blt x 28) (cond (Nat.blt x 21) (cond (Nat.blt x 18) (cond (Nat.beq x 17) (some (.iload_n 1, 18, 0, 0)) none) (cond (Nat.beq x 18) (some (.if_icmp .ne 7, 21, 25, 0)) none)) (cond (Nat.blt x 22) (cond (Nat.beq x 21) (some (.iconst 0, 22, 0, 0)) none) (cond (Nat.blt x 25) (cond (Nat.beq x 22) (some (.goto 6, 25, 28, 0)) none) (cond (Nat.beq x 25) (some (.sipush 1000, 28, 0, 1000)) none)))) (cond (Nat.blt x 35) (cond (Nat.blt x 29) (cond (Nat.beq x 28) (some (.iastore, 29, 0, 0)) none) (cond (Nat.blt x 32) (cond (Nat.beq x 29) (some (.iinc 3 1, 32, 0, 1)) none) (cond (Nat.beq x 32) (some (.goto (-30), 35, 2, 0)) none))) (cond (Nat.blt x 36) (cond (Nat.beq x 35) (some (.iconst 1, 36, 0, 1)) none) (cond (Nat.blt x 37) (cond (Nat.beq x 36) (some (.istore_n 3, 37, 0, 0)) none) (cond (Nat.beq x 37) (some (.iconst 0, 38, 0, 0)) none)))))) (cond (Nat.blt x 62) (cond (Nat.blt x 48) (cond (Nat.blt x 42) (cond (Nat.blt x 40) (cond (Nat.beq x 38) (some (.istore 4, 40, 0, 0)) none) (cond (Nat.beq x 40) (some (.iload 4, 42, 0, 0)) none)) (cond (Nat.blt x 44) (cond (Nat.beq x 42) (some (.bipush 15, 44, 0, 15)) none) (cond (Nat.blt x 47) (cond (Nat.beq x 44) (some (.if_icmp .ge 18, 47, 62, 0)) none) (cond (Nat.beq x 47) (some (.iload_n 3, 48, 0, 0)) none)))) (cond (Nat.blt x 55) (cond (Nat.blt x 51) (cond (Nat.beq x 48) (some (.ifCond .eq 14, 51, 62, 0)) none) (cond (Nat.blt x 52) (cond (Nat.beq x 51) (some (.aload_n 0, 52, 0, 0)) none) (cond (Nat.beq x 52) (some (.invokevirtual 18, 55, 0, 0)) none))) (cond (Nat.blt x 56) (cond (Nat.beq x 55) (some (.istore_n 3, 56, 0, 0)) none) (cond (Nat.blt x 59) (cond (Nat.beq x 56) (some (.iinc 4 1, 59, 0, 1)) none) (cond (Nat.beq x 59) (some (.goto (-19), 62, 40, 0)) none))))) (cond (Nat.blt x 71) (cond (Nat.blt x 64) (cond (Nat.blt x 63) (cond (Nat.beq x 62) (some (.aload_n 0, 63, 0, 0)) none) (cond (Nat.beq x 63) (some (.iload_n 2, 64, 0, 0)) none)) (cond (Nat.blt x 67) (cond (Nat.beq x 64) (some (.invokevirtual 22, 67, 0, 0)) none) (cond (Nat.blt x 69) (cond (Nat.beq x 67) (some (.istore 4, 69, 0, 0)) none) (cond (Nat.beq x 69) (some (.iload 4, 71, 0, 0)) none)))) (cond (Nat.blt x 79) (cond (Nat.blt x 74) (cond (Nat.beq x 71) (some (.sipush 1000, 74, 0, 1000)) none) (cond (Nat.blt x 77) (cond (Nat.beq x 74) (some (.if_icmp .ge 8, 77, 82, 0)) none) (cond (Nat.beq x 77) (some (.iload 4, 79, 0, 0)) none))) (cond (Nat.blt x 82) (cond (Nat.beq x 79) (some (.goto 4, 82, 83, 0)) none) (cond (Nat.blt x 83) (cond (Nat.beq x 82) (some (.iconst (-1), 83, 0, (-1))) none) (cond (Nat.beq x 83) (some (.ireturn, 84, 0, 0)) none))))))
def ep_X2_relax (x : Nat) : Option (Instr × Nat × Nat × Int32) := cond (Nat.blt x 37) (cond (Nat.blt x 15) (cond (Nat.blt x 5) (cond (Nat.blt x 2) (cond (Nat.blt x 1) (cond (Nat.beq x 0) (some (.iconst 0, 1, 0, 0)) none) (cond (Nat.beq x 1) (some (.istore_n 1, 2, 0, 0)) none)) (cond (Nat.blt x 3) (cond (Nat.beq x 2) (some (.iconst 0, 3, 0, 0)) none) (cond (Nat.blt x 4) (cond (Nat.beq x 3) (some (.istore_n 2, 4, 0, 0)) none) (cond (Nat.beq x 4) (some (.iload_n 2, 5, 0, 0)) none)))) (cond (Nat.blt x 10) (cond (Nat.blt x 6) (cond (Nat.beq x 5) (some (.aload_n 0, 6, 0, 0)) none) (cond (Nat.blt x 9) (cond (Nat.beq x 6) (some (.getfield 15, 9, 0, 0)) none) (cond (Nat.beq x 9) (some (.arraylength, 10, 0, 0)) none))) (cond (Nat.blt x 13) (cond (Nat.beq x 10) (some (.if_icmp .ge 60, 13, 70, 0)) none) (cond (Nat.blt x 14) (cond (Nat.beq x 13) (some (.iload_n 2, 14, 0, 0)) none) (cond (Nat.beq x 14) (some (.aload_n 0, 15, 0, 0)) none))))) (cond (Nat.blt x 27) (cond (Nat.blt x 22) (cond (Nat.blt x 18) (cond (Nat.beq x 15) (some (.getfield 9, 18, 0, 0)) none) (cond (Nat.blt x 19) (cond (Nat.beq x 18) (some (.arraylength, 19, 0, 0)) none) (cond (Nat.beq x 19) (some (.if_icmp .ge 51, 22, 70, 0)) none))) (cond (Nat.blt x 23) (cond (Nat.beq x 22) (some (.aload_n 0, 23, 0, 0)) none) (cond (Nat.blt x 26) (cond (Nat.beq x 23) (some (.getfield 9, 26, 0, 0)) none) (cond (Nat.beq x 26) (some (.iload_n 2, 27, 0, 0)) none)))) (cond (Nat.blt x 32) (cond (Nat.blt x 28) (cond (Nat.beq x 27) (some (.iaload, 28, 0, 0)) none) (cond (Nat.blt x 29) (cond (Nat.beq x 28) (some (.iconst (-1), 29, 0, (-1))) none) (cond (Nat.beq x 29) (some (.if_icmp .eq 35, 32, 64, 0)) none))) (cond (Nat.blt x 33) (cond (Nat.beq x 32) (some (.aload_n 0, 33, 0, 0)) none) (cond (Nat.blt x 34) (cond (Nat.beq x 33) (some (.iload_n 2, 34, 0, 0)) none) (cond (Nat.beq x 34) (some (.invokevirtual 26, 37, 0, 0)) none)))))) (cond (Nat.blt x 52) (cond (Nat.blt x 44) (cond (Nat.blt x 41) (cond (Nat.blt x 38) (cond (Nat.beq x 37) (some (.aload_n 0, 38, 0, 0)) none) (cond (Nat.beq x 38) (some (.getfield 9, 41, 0, 0)) none)) (cond (Nat.blt x 42) (cond (Nat.beq x 41) (some (.iload_n 2, 42, 0, 0)) none) (cond (Nat.blt x 43) (cond (Nat.beq x 42) (some (.iaload, 43, 0, 0)) none) (cond (Nat.beq x 43) (some (.iadd, 44, 0, 0)) none)))) (cond (Nat.blt x 47) (cond (Nat.blt x 45) (cond (Nat.beq x 44) (some (.istore_n 3, 45, 0, 0)) none) (cond (Nat.blt x 46) (cond (Nat.beq x 45) (some (.iload_n 3, 46, 0, 0)) none) (cond (Nat.beq x 46) (some (.aload_n 0, 47, 0, 0)) none))) (cond (Nat.blt x 50) (cond (Nat.beq x 47) (some (.getfield 15, 50, 0, 0)) none) (cond (Nat.blt x 51) (cond (Nat.beq x 50) (some (.iload_n 2, 51, 0, 0)) none) (cond (Nat.beq x 51) (some (.iaload, 52, 0, 0)) none))))) (cond (Nat.blt x 62) (cond (Nat.blt x 59) (cond (Nat.blt x 55) (cond (Nat.beq x 52) (some (.if_icmp .ge 12, 55, 64, 0)) none) (cond (Nat.blt x 56) (cond (Nat.beq x 55) (some (.aload_n 0, 56, 0, 0)) none) (cond (Nat.beq x 56) (some (.getfield 15, 59, 0, 0)) none))) (cond (Nat.blt x 60) (cond (Nat.beq x 59) (some (.iload_n 2, 60, 0, 0)) none) (cond (Nat.blt x 61) (cond (Nat.beq x 60) (some (.iload_n 3, 61, 0, 0)) none) (cond (Nat.beq x 61) (some (.iastore, 62, 0, 0)) none)))) (cond (Nat.blt x 67) (cond (Nat.blt x 63) (cond (Nat.beq x 62) (some (.iconst 1, 63, 0, 1)) none) (cond (Nat.blt x 64) (cond (Nat.beq x 63) (some (.istore_n 1, 64, 0, 0)) none) (cond (Nat.beq x 64) (some (.iinc 2 1, 67, 0, 1)) none))) (cond (Nat.blt x 70) (cond (Nat.beq x 67) (some (.goto (-63), 70, 4, 0)) none) (cond (Nat.blt x 71) (cond (Nat.beq x 70) (some (.iload_n 1, 71, 0, 0)) none) (cond (Nat.beq x 71) (some (.ireturn, 72, 0, 0)) none))))))
def ep_X2_cheapestNeighbour (x : Nat) : Option (Instr × Nat × Nat × Int32) := cond (Nat.blt x 13) (cond (Nat.blt x 6) (cond (Nat.blt x 4) (cond (Nat.blt x 3) (cond (Nat.beq x 0) (some (.sipush 1000, 3, 0, 1000)) none) (cond (Nat.beq x 3) (some (.istore_n 2, 4, 0, 0)) none)) (cond (Nat.blt x 5) (cond (Nat.beq x 4) (some (.iconst 0, 5, 0, 0)) none) (cond (Nat.beq x 5) (some (.istore_n 3, 6, 0, 0)) none))) (cond (Nat.blt x 8) (cond (Nat.blt x 7) (cond (Nat.beq x 6) (some (.iload_n 3, 7, 0, 0)) none) (cond (Nat.beq x 7) (some (.iconst 3, 8, 0, 3)) none)) (cond (Nat.blt x 11) (cond (Nat.beq x 8) (some (.if_icmp .gt 23, 11, 31, 0)) none) (cond (Nat.blt x 12) (cond (Nat.beq x 11) (some (.iload_n 2, 12, 0, 0)) none) (cond (Nat.beq x 12) (some (.aload_n 0, 13, 0, 0)) none))))) (cond (Nat.blt x 24) (cond (Nat.blt x 15) (cond (Nat.blt x 14) (cond (Nat.beq x 13) (some (.iload_n 1, 14, 0, 0)) none) (cond (Nat.beq x 14) (some (.iload_n 3, 15, 0, 0)) none)) (cond (Nat.blt x 18) (cond (Nat.beq x 15) (some (.invokestatic 29, 18, 0, 0)) none) (cond (Nat.blt x 21) (cond (Nat.beq x 18) (some (.invokevirtual 22, 21, 0, 0)) none) (cond (Nat.beq x 21) (some (.invokestatic 33, 24, 0, 0)) none)))) (cond (Nat.blt x 28) (cond (Nat.blt x 25) (cond (Nat.beq x 24) (some (.istore_n 2, 25, 0, 0)) none) (cond (Nat.beq x 25) (some (.iinc 3 1, 28, 0, 1)) none)) (cond (Nat.blt x 31) (cond (Nat.beq x 28) (some (.goto (-22), 31, 6, 0)) none) (cond (Nat.blt x 32) (cond (Nat.beq x 31) (some (.iload_n 2, 32, 0, 0)) none) (cond (Nat.beq x 32) (some (.ireturn, 33, 0, 0)) none)))))
def ep_X2_costAt (x : Nat) : Option (Instr × Nat × Nat × Int32) := cond (Nat.blt x 13) (cond (Nat.blt x 5) (cond (Nat.blt x 1) (cond (Nat.beq x 0) (some (.iload_n 1, 1, 0, 0)) none) (cond (Nat.blt x 4) (cond (Nat.beq x 1) (some (.ifCond .lt 21, 4, 22, 0)) none) (cond (Nat.beq x 4) (some (.iload_n 1, 5, 0, 0)) none))) (cond (Nat.blt x 9) (cond (Nat.blt x 6) (cond (Nat.beq x 5) (some (.aload_n 0, 6, 0, 0)) none) (cond (Nat.beq x 6) (some (.getfield 15, 9, 0, 0)) none)) (cond (Nat.blt x 10) (cond (Nat.beq x 9) (some (.arraylength, 10, 0, 0)) none) (cond (Nat.beq x 10) (some (.if_icmp .ge 12, 13, 22, 0)) none)))) (cond (Nat.blt x 18) (cond (Nat.blt x 14) (cond (Nat.beq x 13) (some (.aload_n 0, 14, 0, 0)) none) (cond (Nat.blt x 17) (cond (Nat.beq x 14) (some (.getfield 15, 17, 0, 0)) none) (cond (Nat.beq x 17) (some (.iload_n 1, 18, 0, 0)) none))) (cond (Nat.blt x 22) (cond (Nat.blt x 19) (cond (Nat.beq x 18) (some (.iaload, 19, 0, 0)) none) (cond (Nat.beq x 19) (some (.goto 6, 22, 25, 0)) none)) (cond (Nat.blt x 25) (cond (Nat.beq x 22) (some (.sipush 1000, 25, 0, 1000)) none) (cond (Nat.beq x 25) (some (.ireturn, 26, 0, 0)) none))))
def ep_X3_init (x : Nat) : Option (Instr × Nat × Nat × Int32) := cond (Nat.blt x 13) (cond (Nat.blt x 5) (cond (Nat.blt x 1) (cond (Nat.beq x 0) (some (.aload_n 0, 1, 0, 0)) none) (cond (Nat.blt x 4) (cond (Nat.beq x 1) (some (.invokespecial 3, 4, 0, 0)) none) (cond (Nat.beq x 4) (some (.aload_n 0, 5, 0, 0)) none))) (cond (Nat.blt x 9) (cond (Nat.blt x 7) (cond (Nat.beq x 5) (some (.bipush 10, 7, 0, 10)) none) (cond (Nat.beq x 7) (some (.newarray .int, 9, 0, 0)) none)) (cond (Nat.blt x 12) (cond (Nat.beq x 9) (some (.putfield 9, 12, 0, 0)) none) (cond (Nat.beq x 12) (some (.aload_n 0, 13, 0, 0)) none)))) (cond (Nat.blt x 21) (cond (Nat.blt x 17) (cond (Nat.blt x 15) (cond (Nat.beq x 13) (some (.bipush 10, 15, 0, 10)) none) (cond (Nat.beq x 15) (some (.newarray .int, 17, 0, 0)) none)) (cond (Nat.blt x 20) (cond (Nat.beq x 17) (some (.putfield 15, 20, 0, 0)) none) (cond (Nat.beq x 20) (some (.aload_n 0, 21, 0, 0)) none))) (cond (Nat.blt x 24) (cond (Nat.blt x 22) (cond (Nat.beq x 21) (some (.iconst 5, 22, 0, 5)) none) (cond (Nat.beq x 22) (some (.newarray .boolean, 24, 0, 0)) none)) (cond (Nat.blt x 27) (cond (Nat.beq x 24) (some (.putfield 18, 27, 0, 0)) none) (cond (Nat.beq x 27) (some (.return_, 28, 0, 0)) none))))
def ep_X3_addRule (x : Nat) : Option (Instr × Nat × Nat × Int32) := cond (Nat.blt x 35) (cond (Nat.blt x 16) (cond (Nat.blt x 8) (cond (Nat.blt x 4) (cond (Nat.blt x 1) (cond (Nat.beq x 0) (some (.aload_n 0, 1, 0, 0)) none) (cond (Nat.beq x 1) (some (.getfield 22, 4, 0, 0)) none)) (cond (Nat.blt x 7) (cond (Nat.beq x 4) (some (.ifCond .lt 57, 7, 61, 0)) none) (cond (Nat.beq x 7) (some (.aload_n 0, 8, 0, 0)) none))) (cond (Nat.blt x 12) (cond (Nat.blt x 11) (cond (Nat.beq x 8) (some (.getfield 22, 11, 0, 0)) none) (cond (Nat.beq x 11) (some (.aload_n 0, 12, 0, 0)) none)) (cond (Nat.blt x 15) (cond (Nat.beq x 12) (some (.getfield 9, 15, 0, 0)) none) (cond (Nat.beq x 15) (some (.arraylength, 16, 0, 0)) none)))) (cond (Nat.blt x 24) (cond (Nat.blt x 20) (cond (Nat.blt x 19) (cond (Nat.beq x 16) (some (.if_icmp .ge 45, 19, 61, 0)) none) (cond (Nat.beq x 19) (some (.aload_n 0, 20, 0, 0)) none)) (cond (Nat.blt x 23) (cond (Nat.beq x 20) (some (.getfield 22, 23, 0, 0)) none) (cond (Nat.beq x 23) (some (.aload_n 0, 24, 0, 0)) none))) (cond (Nat.blt x 28) (cond (Nat.blt x 27) (cond (Nat.beq x 24) (some (.getfield 15, 27, 0, 0)) none) (cond (Nat.beq x 27) (some (.arraylength, 28, 0, 0)) none)) (cond (Nat.blt x 31) (cond (Nat.beq x 28) (some (.if_icmp .ge 33, 31, 61, 0)) none) (cond (Nat.blt x 32) (cond (Nat.beq x 31) (some (.aload_n 0, 32, 0, 0)) none) (cond (Nat.beq x 32) (some (.getfield 9, 35, 0, 0)) none)))))) (cond (Nat.blt x 49) (cond (Nat.blt x 41) (cond (Nat.blt x 39) (cond (Nat.blt x 36) (cond (Nat.beq x 35) (some (.aload_n 0, 36, 0, 0)) none) (cond (Nat.beq x 36) (some (.getfield 22, 39, 0, 0)) none)) (cond (Nat.blt x 40) (cond (Nat.beq x 39) (some (.iload_n 1, 40, 0, 0)) none) (cond (Nat.beq x 40) (some (.iastore, 41, 0, 0)) none))) (cond (Nat.blt x 45) (cond (Nat.blt x 42) (cond (Nat.beq x 41) (some (.aload_n 0, 42, 0, 0)) none) (cond (Nat.beq x 42) (some (.getfield 15, 45, 0, 0)) none)) (cond (Nat.blt x 46) (cond (Nat.beq x 45) (some (.aload_n 0, 46, 0, 0)) none) (cond (Nat.beq x 46) (some (.getfield 22, 49, 0, 0)) none)))) (cond (Nat.blt x 53) (cond (Nat.blt x 51) (cond (Nat.blt x 50) (cond (Nat.beq x 49) (some (.iload_n 2, 50, 0, 0)) none) (cond (Nat.beq x 50) (some (.iastore, 51, 0, 0)) none)) (cond (Nat.blt x 52) (cond (Nat.beq x 51) (some (.aload_n 0, 52, 0, 0)) none) (cond (Nat.beq x 52) (some (.dup, 53, 0, 0)) none))) (cond (Nat.blt x 57) (cond (Nat.blt x 56) (cond (Nat.beq x 53) (some (.getfield 22, 56, 0, 0)) none) (cond (Nat.beq x 56) (some (.iconst 1, 57, 0, 1)) none)) (cond (Nat.blt x 58) (cond (Nat.beq x 57) (some (.iadd, 58, 0, 0)) none) (cond (Nat.blt x 61) (cond (Nat.beq x 58) (some (.putfield 22, 61, 0, 0)) none) (cond (Nat.beq x 61) (some (.return_, 62, 0, 0)) none))))))
def ep_X3_leastAt (x : Nat) : Option (Instr × Nat × Nat × Int32) := cond (Nat.blt x 26) (cond (Nat.blt x 12) (cond (Nat.blt x 4) (cond (Nat.blt x 2) (cond (Nat.blt x 1) (cond (Nat.beq x 0) (some (.iconst 0, 1, 0, 0)) none) (cond (Nat.beq x 1) (some (.istore_n 2, 2, 0, 0)) none)) (cond (Nat.blt x 3) (cond (Nat.beq x 2) (some (.iconst 0, 3, 0, 0)) none) (cond (Nat.beq x 3) (some (.istore_n 3, 4, 0, 0)) none))) (cond (Nat.blt x 6) (cond (Nat.blt x 5) (cond (Nat.beq x 4) (some (.iload_n 3, 5, 0, 0)) none) (cond (Nat.beq x 5) (some (.aload_n 0, 6, 0, 0)) none)) (cond (Nat.blt x 9) (cond (Nat.beq x 6) (some (.getfield 22, 9, 0, 0)) none) (cond (Nat.beq x 9) (some (.if_icmp .ge 44, 12, 53, 0)) none)))) (cond (Nat.blt x 18) (cond (Nat.blt x 14) (cond (Nat.blt x 13) (cond (Nat.beq x 12) (some (.iload_n 3, 13, 0, 0)) none) (cond (Nat.beq x 13) (some (.aload_n 0, 14, 0, 0)) none)) (cond (Nat.blt x 17) (cond (Nat.beq x 14) (some (.getfield 9, 17, 0, 0)) none) (cond (Nat.beq x 17) (some (.arraylength, 18, 0, 0)) none))) (cond (Nat.blt x 22) (cond (Nat.blt x 21) (cond (Nat.beq x 18) (some (.if_icmp .ge 35, 21, 53, 0)) none) (cond (Nat.beq x 21) (some (.iload_n 3, 22, 0, 0)) none)) (cond (Nat.blt x 23) (cond (Nat.beq x 22) (some (.aload_n 0, 23, 0, 0)) none) (cond (Nat.beq x 23) (some (.getfield 15, 26, 0, 0)) none))))) (cond (Nat.blt x 40) (cond (Nat.blt x 34) (cond (Nat.blt x 30) (cond (Nat.blt x 27) (cond (Nat.beq x 26) (some (.arraylength, 27, 0, 0)) none) (cond (Nat.beq x 27) (some (.if_icmp .ge 26, 30, 53, 0)) none)) (cond (Nat.blt x 31) (cond (Nat.beq x 30) (some (.aload_n 0, 31, 0, 0)) none) (cond (Nat.beq x 31) (some (.getfield 15, 34, 0, 0)) none))) (cond (Nat.blt x 36) (cond (Nat.blt x 35) (cond (Nat.beq x 34) (some (.iload_n 3, 35, 0, 0)) none) (cond (Nat.beq x 35) (some (.iaload, 36, 0, 0)) none)) (cond (Nat.blt x 37) (cond (Nat.beq x 36) (some (.iload_n 1, 37, 0, 0)) none) (cond (Nat.beq x 37) (some (.if_icmp .gt 10, 40, 47, 0)) none)))) (cond (Nat.blt x 46) (cond (Nat.blt x 44) (cond (Nat.blt x 41) (cond (Nat.beq x 40) (some (.aload_n 0, 41, 0, 0)) none) (cond (Nat.beq x 41) (some (.getfield 9, 44, 0, 0)) none)) (cond (Nat.blt x 45) (cond (Nat.beq x 44) (some (.iload_n 3, 45, 0, 0)) none) (cond (Nat.beq x 45) (some (.iaload, 46, 0, 0)) none))) (cond (Nat.blt x 50) (cond (Nat.blt x 47) (cond (Nat.beq x 46) (some (.istore_n 2, 47, 0, 0)) none) (cond (Nat.beq x 47) (some (.iinc 3 1, 50, 0, 1)) none)) (cond (Nat.blt x 53) (cond (Nat.beq x 50) (some (.goto (-46), 53, 4, 0)) none) (cond (Nat.blt x 54) (cond (Nat.beq x 53) (some (.iload_n 2, 54, 0, 0)) none) (cond (Nat.beq x 54) (some (.ireturn, 55, 0, 0)) none))))))
def ep_X3_isExempt (x : Nat) : Option (Instr × Nat × Nat × Int32) := cond (Nat.blt x 14) (cond (Nat.blt x 6) (cond (Nat.blt x 4) (cond (Nat.blt x 1) (cond (Nat.beq x 0) (some (.iload_n 1, 1, 0, 0)) none) (cond (Nat.beq x 1) (some (.ifCond .lt 25, 4, 26, 0)) none)) (cond (Nat.blt x 5) (cond (Nat.beq x 4) (some (.iload_n 1, 5, 0, 0)) none) (cond (Nat.beq x 5) (some (.aload_n 0, 6, 0, 0)) none))) (cond (Nat.blt x 10) (cond (Nat.blt x 9) (cond (Nat.beq x 6) (some (.getfield 18, 9, 0, 0)) none) (cond (Nat.beq x 9) (some (.arraylength, 10, 0, 0)) none)) (cond (Nat.blt x 13) (cond (Nat.beq x 10) (some (.if_icmp .ge 16, 13, 26, 0)) none) (cond (Nat.beq x 13) (some (.aload_n 0, 14, 0, 0)) none)))) (cond (Nat.blt x 22) (cond (Nat.blt x 18) (cond (Nat.blt x 17) (cond (Nat.beq x 14) (some (.getfield 18, 17, 0, 0)) none) (cond (Nat.beq x 17) (some (.iload_n 1, 18, 0, 0)) none)) (cond (Nat.blt x 19) (cond (Nat.beq x 18) (some (.baload, 19, 0, 0)) none) (cond (Nat.beq x 19) (some (.ifCond .eq 7, 22, 26, 0)) none))) (cond (Nat.blt x 26) (cond (Nat.blt x 23) (cond (Nat.beq x 22) (some (.iconst 1, 23, 0, 1)) none) (cond (Nat.beq x 23) (some (.goto 4, 26, 27, 0)) none)) (cond (Nat.blt x 27) (cond (Nat.beq x 26) (some (.iconst 0, 27, 0, 0)) none) (cond (Nat.beq x 27) (some (.ireturn, 28, 0, 0)) none))))
def ep_X3_letsIn (x : Nat) : Option (Instr × Nat × Nat × Int32) := cond (Nat.blt x 10) (cond (Nat.blt x 3) (cond (Nat.blt x 1) (cond (Nat.beq x 0) (some (.iload_n 2, 1, 0, 0)) none) (cond (Nat.blt x 2) (cond (Nat.beq x 1) (some (.aload_n 0, 2, 0, 0)) none) (cond (Nat.beq x 2) (some (.iload_n 3, 3, 0, 0)) none))) (cond (Nat.blt x 6) (cond (Nat.beq x 3) (some (.invokevirtual 26, 6, 0, 0)) none) (cond (Nat.blt x 9) (cond (Nat.beq x 6) (some (.if_icmp .ge 11, 9, 17, 0)) none) (cond (Nat.beq x 9) (some (.aload_n 0, 10, 0, 0)) none)))) (cond (Nat.blt x 17) (cond (Nat.blt x 11) (cond (Nat.beq x 10) (some (.iload_n 1, 11, 0, 0)) none) (cond (Nat.blt x 14) (cond (Nat.beq x 11) (some (.invokevirtual 30, 14, 0, 0)) none) (cond (Nat.beq x 14) (some (.ifCond .eq 7, 17, 21, 0)) none))) (cond (Nat.blt x 21) (cond (Nat.blt x 18) (cond (Nat.beq x 17) (some (.iconst 1, 18, 0, 1)) none) (cond (Nat.beq x 18) (some (.goto 4, 21, 22, 0)) none)) (cond (Nat.blt x 22) (cond (Nat.beq x 21) (some (.iconst 0, 22, 0, 0)) none) (cond (Nat.beq x 22) (some (.ireturn, 23, 0, 0)) none))))
def ep_X4_init (x : Nat) : Option (Instr × Nat × Nat × Int32) := cond (Nat.blt x 19) (cond (Nat.blt x 9) (cond (Nat.blt x 4) (cond (Nat.blt x 1) (cond (Nat.beq x 0) (some (.aload_n 0, 1, 0, 0)) none) (cond (Nat.beq x 1) (some (.invokespecial 3, 4, 0, 0)) none)) (cond (Nat.blt x 5) (cond (Nat.beq x 4) (some (.aload_n 0, 5, 0, 0)) none) (cond (Nat.blt x 6) (cond (Nat.beq x 5) (some (.iconst 3, 6, 0, 3)) none) (cond (Nat.beq x 6) (some (.anewarray 9, 9, 0, 0)) none)))) (cond (Nat.blt x 14) (cond (Nat.blt x 12) (cond (Nat.beq x 9) (some (.putfield 11, 12, 0, 0)) none) (cond (Nat.blt x 13) (cond (Nat.beq x 12) (some (.iconst 0, 13, 0, 0)) none) (cond (Nat.beq x 13) (some (.istore_n 1, 14, 0, 0)) none))) (cond (Nat.blt x 15) (cond (Nat.beq x 14) (some (.iload_n 1, 15, 0, 0)) none) (cond (Nat.blt x 16) (cond (Nat.beq x 15) (some (.aload_n 0, 16, 0, 0)) none) (cond (Nat.beq x 16) (some (.getfield 11, 19, 0, 0)) none))))) (cond (Nat.blt x 31) (cond (Nat.blt x 24) (cond (Nat.blt x 20) (cond (Nat.beq x 19) (some (.arraylength, 20, 0, 0)) none) (cond (Nat.blt x 23) (cond (Nat.beq x 20) (some (.if_icmp .ge 22, 23, 42, 0)) none) (cond (Nat.beq x 23) (some (.aload_n 0, 24, 0, 0)) none))) (cond (Nat.blt x 27) (cond (Nat.beq x 24) (some (.getfield 11, 27, 0, 0)) none) (cond (Nat.blt x 28) (cond (Nat.beq x 27) (some (.iload_n 1, 28, 0, 0)) none) (cond (Nat.beq x 28) (some (.new 9, 31, 0, 0)) none)))) (cond (Nat.blt x 36) (cond (Nat.blt x 32) (cond (Nat.beq x 31) (some (.dup, 32, 0, 0)) none) (cond (Nat.blt x 35) (cond (Nat.beq x 32) (some (.invokespecial 17, 35, 0, 0)) none) (cond (Nat.beq x 35) (some (.aastore, 36, 0, 0)) none))) (cond (Nat.blt x 39) (cond (Nat.beq x 36) (some (.iinc 1 1, 39, 0, 1)) none) (cond (Nat.blt x 42) (cond (Nat.beq x 39) (some (.goto (-25), 42, 14, 0)) none) (cond (Nat.beq x 42) (some (.return_, 43, 0, 0)) none)))))
def ep_X4_portAt (x : Nat) : Option (Instr × Nat × Nat × Int32) := cond (Nat.blt x 18) (cond (Nat.blt x 9) (cond (Nat.blt x 4) (cond (Nat.blt x 1) (cond (Nat.beq x 0) (some (.iload_n 1, 1, 0, 0)) none) (cond (Nat.beq x 1) (some (.ifCond .lt 20, 4, 21, 0)) none)) (cond (Nat.blt x 5) (cond (Nat.beq x 4) (some (.iload_n 1, 5, 0, 0)) none) (cond (Nat.blt x 6) (cond (Nat.beq x 5) (some (.aload_n 0, 6, 0, 0)) none) (cond (Nat.beq x 6) (some (.getfield 18, 9, 0, 0)) none)))) (cond (Nat.blt x 13) (cond (Nat.blt x 12) (cond (Nat.beq x 9) (some (.if_icmp .ge 12, 12, 21, 0)) none) (cond (Nat.beq x 12) (some (.iload_n 1, 13, 0, 0)) none)) (cond (Nat.blt x 14) (cond (Nat.beq x 13) (some (.aload_n 0, 14, 0, 0)) none) (cond (Nat.blt x 17) (cond (Nat.beq x 14) (some (.getfield 11, 17, 0, 0)) none) (cond (Nat.beq x 17) (some (.arraylength, 18, 0, 0)) none))))) (cond (Nat.blt x 30) (cond (Nat.blt x 24) (cond (Nat.blt x 21) (cond (Nat.beq x 18) (some (.if_icmp .lt 13, 21, 31, 0)) none) (cond (Nat.beq x 21) (some (.new 22, 24, 0, 0)) none)) (cond (Nat.blt x 25) (cond (Nat.beq x 24) (some (.dup, 25, 0, 0)) none) (cond (Nat.blt x 27) (cond (Nat.beq x 25) (some (.ldc 24, 27, 0, 0)) none) (cond (Nat.beq x 27) (some (.invokespecial 26, 30, 0, 0)) none)))) (cond (Nat.blt x 35) (cond (Nat.blt x 31) (cond (Nat.beq x 30) (some (.athrow, 31, 0, 0)) none) (cond (Nat.blt x 32) (cond (Nat.beq x 31) (some (.aload_n 0, 32, 0, 0)) none) (cond (Nat.beq x 32) (some (.getfield 11, 35, 0, 0)) none))) (cond (Nat.blt x 36) (cond (Nat.beq x 35) (some (.iload_n 1, 36, 0, 0)) none) (cond (Nat.blt x 37) (cond (Nat.beq x 36) (some (.aaload, 37, 0, 0)) none) (cond (Nat.beq x 37) (some (.areturn, 38, 0, 0)) none)))))
def ep_X4_found (x : Nat) : Option (Instr × Nat × Nat × Int32) := cond (Nat.blt x 12) (cond (Nat.blt x 6) (cond (Nat.blt x 4) (cond (Nat.blt x 1) (cond (Nat.beq x 0) (some (.aload_n 0, 1, 0, 0)) none) (cond (Nat.beq x 1) (some (.getfield 18, 4, 0, 0)) none)) (cond (Nat.blt x 5) (cond (Nat.beq x 4) (some (.istore_n 2, 5, 0, 0)) none) (cond (Nat.beq x 5) (some (.aload_n 0, 6, 0, 0)) none))) (cond (Nat.blt x 10) (cond (Nat.blt x 7) (cond (Nat.beq x 6) (some (.dup, 7, 0, 0)) none) (cond (Nat.beq x 7) (some (.getfield 18, 10, 0, 0)) none)) (cond (Nat.blt x 11) (cond (Nat.beq x 10) (some (.iconst 1, 11, 0, 1)) none) (cond (Nat.beq x 11) (some (.iadd, 12, 0, 0)) none)))) (cond (Nat.blt x 20) (cond (Nat.blt x 16) (cond (Nat.blt x 15) (cond (Nat.beq x 12) (some (.putfield 18, 15, 0, 0)) none) (cond (Nat.beq x 15) (some (.aload_n 0, 16, 0, 0)) none)) (cond (Nat.blt x 17) (cond (Nat.beq x 16) (some (.iload_n 2, 17, 0, 0)) none) (cond (Nat.beq x 17) (some (.invokevirtual 29, 20, 0, 0)) none))) (cond (Nat.blt x 24) (cond (Nat.blt x 21) (cond (Nat.beq x 20) (some (.iload_n 1, 21, 0, 0)) none) (cond (Nat.beq x 21) (some (.putfield 33, 24, 0, 0)) none)) (cond (Nat.blt x 25) (cond (Nat.beq x 24) (some (.iload_n 2, 25, 0, 0)) none) (cond (Nat.beq x 25) (some (.ireturn, 26, 0, 0)) none))))
def ep_X4_isPort (x : Nat) : Option (Instr × Nat × Nat × Int32) := cond (Nat.blt x 15) (cond (Nat.blt x 4) (cond (Nat.blt x 2) (cond (Nat.blt x 1) (cond (Nat.beq x 0) (some (.iconst 0, 1, 0, 0)) none) (cond (Nat.beq x 1) (some (.istore_n 2, 2, 0, 0)) none)) (cond (Nat.blt x 3) (cond (Nat.beq x 2) (some (.iload_n 2, 3, 0, 0)) none) (cond (Nat.beq x 3) (some (.aload_n 0, 4, 0, 0)) none))) (cond (Nat.blt x 10) (cond (Nat.blt x 7) (cond (Nat.beq x 4) (some (.getfield 18, 7, 0, 0)) none) (cond (Nat.beq x 7) (some (.if_icmp .ge 23, 10, 30, 0)) none)) (cond (Nat.blt x 11) (cond (Nat.beq x 10) (some (.aload_n 0, 11, 0, 0)) none) (cond (Nat.blt x 12) (cond (Nat.beq x 11) (some (.iload_n 2, 12, 0, 0)) none) (cond (Nat.beq x 12) (some (.invokevirtual 29, 15, 0, 0)) none))))) (cond (Nat.blt x 23) (cond (Nat.blt x 19) (cond (Nat.blt x 18) (cond (Nat.beq x 15) (some (.getfield 33, 18, 0, 0)) none) (cond (Nat.beq x 18) (some (.iload_n 1, 19, 0, 0)) none)) (cond (Nat.blt x 22) (cond (Nat.beq x 19) (some (.if_icmp .ne 5, 22, 24, 0)) none) (cond (Nat.beq x 22) (some (.iconst 1, 23, 0, 1)) none))) (cond (Nat.blt x 27) (cond (Nat.blt x 24) (cond (Nat.beq x 23) (some (.ireturn, 24, 0, 0)) none) (cond (Nat.beq x 24) (some (.iinc 2 1, 27, 0, 1)) none)) (cond (Nat.blt x 30) (cond (Nat.beq x 27) (some (.goto (-25), 30, 2, 0)) none) (cond (Nat.blt x 31) (cond (Nat.beq x 30) (some (.iconst 0, 31, 0, 0)) none) (cond (Nat.beq x 31) (some (.ireturn, 32, 0, 0)) none)))))
def ep_X5_init (x : Nat) : Option (Instr × Nat × Nat × Int32) := cond (Nat.blt x 5) (cond (Nat.blt x 1) (cond (Nat.beq x 0) (some (.aload_n 0, 1, 0, 0)) none) (cond (Nat.blt x 4) (cond (Nat.beq x 1) (some (.invokespecial 3, 4, 0, 0)) none) (cond (Nat.beq x 4) (some (.aload_n 0, 5, 0, 0)) none))) (cond (Nat.blt x 9) (cond (Nat.blt x 7) (cond (Nat.beq x 5) (some (.bipush 8, 7, 0, 8)) none) (cond (Nat.beq x 7) (some (.newarray .int, 9, 0, 0)) none)) (cond (Nat.blt x 12) (cond (Nat.beq x 9) (some (.putfield 9, 12, 0, 0)) none) (cond (Nat.beq x 12) (some (.return_, 13, 0, 0)) none)))
def ep_X5_isFull (x : Nat) : Option (Instr × Nat × Nat × Int32) := cond (Nat.blt x 9) (cond (Nat.blt x 4) (cond (Nat.blt x 1) (cond (Nat.beq x 0) (some (.aload_n 0, 1, 0, 0)) none) (cond (Nat.beq x 1) (some (.getfield 15, 4, 0, 0)) none)) (cond (Nat.blt x 5) (cond (Nat.beq x 4) (some (.aload_n 0, 5, 0, 0)) none) (cond (Nat.blt x 8) (cond (Nat.beq x 5) (some (.getfield 9, 8, 0, 0)) none) (cond (Nat.beq x 8) (some (.arraylength, 9, 0, 0)) none)))) (cond (Nat.blt x 13) (cond (Nat.blt x 12) (cond (Nat.beq x 9) (some (.if_icmp .lt 7, 12, 16, 0)) none) (cond (Nat.beq x 12) (some (.iconst 1, 13, 0, 1)) none)) (cond (Nat.blt x 16) (cond (Nat.beq x 13) (some (.goto 4, 16, 17, 0)) none) (cond (Nat.blt x 17) (cond (Nat.beq x 16) (some (.iconst 0, 17, 0, 0)) none) (cond (Nat.beq x 17) (some (.ireturn, 18, 0, 0)) none))))
def ep_X5_add (x : Nat) : Option (Instr × Nat × Nat × Int32) := cond (Nat.blt x 24) (cond (Nat.blt x 12) (cond (Nat.blt x 7) (cond (Nat.blt x 1) (cond (Nat.beq x 0) (some (.aload_n 0, 1, 0, 0)) none) (cond (Nat.blt x 4) (cond (Nat.beq x 1) (some (.getfield 15, 4, 0, 0)) none) (cond (Nat.beq x 4) (some (.ifCond .lt 35, 7, 39, 0)) none))) (cond (Nat.blt x 8) (cond (Nat.beq x 7) (some (.aload_n 0, 8, 0, 0)) none) (cond (Nat.blt x 11) (cond (Nat.beq x 8) (some (.getfield 15, 11, 0, 0)) none) (cond (Nat.beq x 11) (some (.aload_n 0, 12, 0, 0)) none)))) (cond (Nat.blt x 19) (cond (Nat.blt x 15) (cond (Nat.beq x 12) (some (.getfield 9, 15, 0, 0)) none) (cond (Nat.blt x 16) (cond (Nat.beq x 15) (some (.arraylength, 16, 0, 0)) none) (cond (Nat.beq x 16) (some (.if_icmp .ge 23, 19, 39, 0)) none))) (cond (Nat.blt x 20) (cond (Nat.beq x 19) (some (.aload_n 0, 20, 0, 0)) none) (cond (Nat.blt x 23) (cond (Nat.beq x 20) (some (.getfield 9, 23, 0, 0)) none) (cond (Nat.beq x 23) (some (.aload_n 0, 24, 0, 0)) none))))) (cond (Nat.blt x 34) (cond (Nat.blt x 29) (cond (Nat.blt x 27) (cond (Nat.beq x 24) (some (.getfield 15, 27, 0, 0)) none) (cond (Nat.blt x 28) (cond (Nat.beq x 27) (some (.iload_n 1, 28, 0, 0)) none) (cond (Nat.beq x 28) (some (.iastore, 29, 0, 0)) none))) (cond (Nat.blt x 30) (cond (Nat.beq x 29) (some (.aload_n 0, 30, 0, 0)) none) (cond (Nat.blt x 31) (cond (Nat.beq x 30) (some (.dup, 31, 0, 0)) none) (cond (Nat.beq x 31) (some (.getfield 15, 34, 0, 0)) none)))) (cond (Nat.blt x 39) (cond (Nat.blt x 35) (cond (Nat.beq x 34) (some (.iconst 1, 35, 0, 1)) none) (cond (Nat.blt x 36) (cond (Nat.beq x 35) (some (.iadd, 36, 0, 0)) none) (cond (Nat.beq x 36) (some (.putfield 15, 39, 0, 0)) none))) (cond (Nat.blt x 40) (cond (Nat.beq x 39) (some (.aload_n 0, 40, 0, 0)) none) (cond (Nat.blt x 43) (cond (Nat.beq x 40) (some (.getfield 15, 43, 0, 0)) none) (cond (Nat.beq x 43) (some (.ireturn, 44, 0, 0)) none)))))
def ep_X5_first (x : Nat) : Option (Instr × Nat × Nat × Int32) := cond (Nat.blt x 15) (cond (Nat.blt x 7) (cond (Nat.blt x 1) (cond (Nat.beq x 0) (some (.aload_n 0, 1, 0, 0)) none) (cond (Nat.blt x 4) (cond (Nat.beq x 1) (some (.getfield 15, 4, 0, 0)) none) (cond (Nat.beq x 4) (some (.ifCond .le 20, 7, 24, 0)) none))) (cond (Nat.blt x 11) (cond (Nat.blt x 8) (cond (Nat.beq x 7) (some (.aload_n 0, 8, 0, 0)) none) (cond (Nat.beq x 8) (some (.getfield 9, 11, 0, 0)) none)) (cond (Nat.blt x 12) (cond (Nat.beq x 11) (some (.arraylength, 12, 0, 0)) none) (cond (Nat.beq x 12) (some (.ifCond .le 12, 15, 24, 0)) none)))) (cond (Nat.blt x 20) (cond (Nat.blt x 16) (cond (Nat.beq x 15) (some (.aload_n 0, 16, 0, 0)) none) (cond (Nat.blt x 19) (cond (Nat.beq x 16) (some (.getfield 9, 19, 0, 0)) none) (cond (Nat.beq x 19) (some (.iconst 0, 20, 0, 0)) none))) (cond (Nat.blt x 24) (cond (Nat.blt x 21) (cond (Nat.beq x 20) (some (.iaload, 21, 0, 0)) none) (cond (Nat.beq x 21) (some (.goto 4, 24, 25, 0)) none)) (cond (Nat.blt x 25) (cond (Nat.beq x 24) (some (.iconst (-1), 25, 0, (-1))) none) (cond (Nat.beq x 25) (some (.ireturn, 26, 0, 0)) none))))
def ep_X5_takeFirst (x : Nat) : Option (Instr × Nat × Nat × Int32) := cond (Nat.blt x 26) (cond (Nat.blt x 12) (cond (Nat.blt x 4) (cond (Nat.blt x 2) (cond (Nat.blt x 1) (cond (Nat.beq x 0) (some (.iconst 1, 1, 0, 1)) none) (cond (Nat.beq x 1) (some (.istore_n 1, 2, 0, 0)) none)) (cond (Nat.blt x 3) (cond (Nat.beq x 2) (some (.iload_n 1, 3, 0, 0)) none) (cond (Nat.beq x 3) (some (.aload_n 0, 4, 0, 0)) none))) (cond (Nat.blt x 10) (cond (Nat.blt x 7) (cond (Nat.beq x 4) (some (.getfield 15, 7, 0, 0)) none) (cond (Nat.beq x 7) (some (.if_icmp .ge 32, 10, 39, 0)) none)) (cond (Nat.blt x 11) (cond (Nat.beq x 10) (some (.iload_n 1, 11, 0, 0)) none) (cond (Nat.beq x 11) (some (.aload_n 0, 12, 0, 0)) none)))) (cond (Nat.blt x 20) (cond (Nat.blt x 16) (cond (Nat.blt x 15) (cond (Nat.beq x 12) (some (.getfield 9, 15, 0, 0)) none) (cond (Nat.beq x 15) (some (.arraylength, 16, 0, 0)) none)) (cond (Nat.blt x 19) (cond (Nat.beq x 16) (some (.if_icmp .ge 23, 19, 39, 0)) none) (cond (Nat.beq x 19) (some (.aload_n 0, 20, 0, 0)) none))) (cond (Nat.blt x 24) (cond (Nat.blt x 23) (cond (Nat.beq x 20) (some (.getfield 9, 23, 0, 0)) none) (cond (Nat.beq x 23) (some (.iload_n 1, 24, 0, 0)) none)) (cond (Nat.blt x 25) (cond (Nat.beq x 24) (some (.iconst 1, 25, 0, 1)) none) (cond (Nat.beq x 25) (some (.isub, 26, 0, 0)) none))))) (cond (Nat.blt x 40) (cond (Nat.blt x 32) (cond (Nat.blt x 30) (cond (Nat.blt x 27) (cond (Nat.beq x 26) (some (.aload_n 0, 27, 0, 0)) none) (cond (Nat.beq x 27) (some (.getfield 9, 30, 0, 0)) none)) (cond (Nat.blt x 31) (cond (Nat.beq x 30) (some (.iload_n 1, 31, 0, 0)) none) (cond (Nat.beq x 31) (some (.iaload, 32, 0, 0)) none))) (cond (Nat.blt x 36) (cond (Nat.blt x 33) (cond (Nat.beq x 32) (some (.iastore, 33, 0, 0)) none) (cond (Nat.beq x 33) (some (.iinc 1 1, 36, 0, 1)) none)) (cond (Nat.blt x 39) (cond (Nat.beq x 36) (some (.goto (-34), 39, 2, 0)) none) (cond (Nat.beq x 39) (some (.aload_n 0, 40, 0, 0)) none)))) (cond (Nat.blt x 46) (cond (Nat.blt x 42) (cond (Nat.blt x 41) (cond (Nat.beq x 40) (some (.iconst 0, 41, 0, 0)) none) (cond (Nat.beq x 41) (some (.aload_n 0, 42, 0, 0)) none)) (cond (Nat.blt x 45) (cond (Nat.beq x 42) (some (.getfield 15, 45, 0, 0)) none) (cond (Nat.beq x 45) (some (.iconst 1, 46, 0, 1)) none))) (cond (Nat.blt x 50) (cond (Nat.blt x 47) (cond (Nat.beq x 46) (some (.isub, 47, 0, 0)) none) (cond (Nat.beq x 47) (some (.invokestatic 19, 50, 0, 0)) none)) (cond (Nat.blt x 53) (cond (Nat.beq x 50) (some (.putfield 15, 53, 0, 0)) none) (cond (Nat.beq x 53) (some (.return_, 54, 0, 0)) none)))))
def ep_X5_drop (x : Nat) : Option (Instr × Nat × Nat × Int32) := cond (Nat.blt x 6) (cond (Nat.blt x 4) (cond (Nat.blt x 1) (cond (Nat.beq x 0) (some (.aload_n 0, 1, 0, 0)) none) (cond (Nat.beq x 1) (some (.getfield 15, 4, 0, 0)) none)) (cond (Nat.blt x 5) (cond (Nat.beq x 4) (some (.istore_n 1, 5, 0, 0)) none) (cond (Nat.beq x 5) (some (.aload_n 0, 6, 0, 0)) none))) (cond (Nat.blt x 10) (cond (Nat.blt x 7) (cond (Nat.beq x 6) (some (.iconst 0, 7, 0, 0)) none) (cond (Nat.beq x 7) (some (.putfield 15, 10, 0, 0)) none)) (cond (Nat.blt x 11) (cond (Nat.beq x 10) (some (.iload_n 1, 11, 0, 0)) none) (cond (Nat.beq x 11) (some (.ireturn, 12, 0, 0)) none)))
def ep_X5_copyFrom (x : Nat) : Option (Instr × Nat × Nat × Int32) := cond (Nat.blt x 21) (cond (Nat.blt x 8) (cond (Nat.blt x 3) (cond (Nat.blt x 1) (cond (Nat.beq x 0) (some (.iconst 0, 1, 0, 0)) none) (cond (Nat.blt x 2) (cond (Nat.beq x 1) (some (.istore_n 2, 2, 0, 0)) none) (cond (Nat.beq x 2) (some (.iload_n 2, 3, 0, 0)) none))) (cond (Nat.blt x 4) (cond (Nat.beq x 3) (some (.aload_n 0, 4, 0, 0)) none) (cond (Nat.blt x 7) (cond (Nat.beq x 4) (some (.getfield 9, 7, 0, 0)) none) (cond (Nat.beq x 7) (some (.arraylength, 8, 0, 0)) none)))) (cond (Nat.blt x 13) (cond (Nat.blt x 11) (cond (Nat.beq x 8) (some (.if_icmp .ge 30, 11, 38, 0)) none) (cond (Nat.blt x 12) (cond (Nat.beq x 11) (some (.iload_n 2, 12, 0, 0)) none) (cond (Nat.beq x 12) (some (.aload_n 1, 13, 0, 0)) none))) (cond (Nat.blt x 17) (cond (Nat.blt x 16) (cond (Nat.beq x 13) (some (.getfield 9, 16, 0, 0)) none) (cond (Nat.beq x 16) (some (.arraylength, 17, 0, 0)) none)) (cond (Nat.blt x 20) (cond (Nat.beq x 17) (some (.if_icmp .ge 21, 20, 38, 0)) none) (cond (Nat.beq x 20) (some (.aload_n 0, 21, 0, 0)) none))))) (cond (Nat.blt x 32) (cond (Nat.blt x 26) (cond (Nat.blt x 24) (cond (Nat.beq x 21) (some (.getfield 9, 24, 0, 0)) none) (cond (Nat.blt x 25) (cond (Nat.beq x 24) (some (.iload_n 2, 25, 0, 0)) none) (cond (Nat.beq x 25) (some (.aload_n 1, 26, 0, 0)) none))) (cond (Nat.blt x 30) (cond (Nat.blt x 29) (cond (Nat.beq x 26) (some (.getfield 9, 29, 0, 0)) none) (cond (Nat.beq x 29) (some (.iload_n 2, 30, 0, 0)) none)) (cond (Nat.blt x 31) (cond (Nat.beq x 30) (some (.iaload, 31, 0, 0)) none) (cond (Nat.beq x 31) (some (.iastore, 32, 0, 0)) none)))) (cond (Nat.blt x 39) (cond (Nat.blt x 35) (cond (Nat.beq x 32) (some (.iinc 2 1, 35, 0, 1)) none) (cond (Nat.blt x 38) (cond (Nat.beq x 35) (some (.goto (-33), 38, 2, 0)) none) (cond (Nat.beq x 38) (some (.aload_n 0, 39, 0, 0)) none))) (cond (Nat.blt x 43) (cond (Nat.blt x 40) (cond (Nat.beq x 39) (some (.aload_n 1, 40, 0, 0)) none) (cond (Nat.beq x 40) (some (.getfield 15, 43, 0, 0)) none)) (cond (Nat.blt x 46) (cond (Nat.beq x 43) (some (.putfield 15, 46, 0, 0)) none) (cond (Nat.beq x 46) (some (.return_, 47, 0, 0)) none)))))
def ep_X6_init (x : Nat) : Option (Instr × Nat × Nat × Int32) := cond (Nat.blt x 60) (cond (Nat.blt x 30) (cond (Nat.blt x 14) (cond (Nat.blt x 5) (cond (Nat.blt x 1) (cond (Nat.beq x 0) (some (.aload_n 0, 1, 0, 0)) none) (cond (Nat.blt x 4) (cond (Nat.beq x 1) (some (.invokespecial 3, 4, 0, 0)) none) (cond (Nat.beq x 4) (some (.aload_n 0, 5, 0, 0)) none))) (cond (Nat.blt x 10) (cond (Nat.blt x 7) (cond (Nat.beq x 5) (some (.bipush 15, 7, 0, 15)) none) (cond (Nat.beq x 7) (some (.anewarray 9, 10, 0, 0)) none)) (cond (Nat.blt x 13) (cond (Nat.beq x 10) (some (.putfield 11, 13, 0, 0)) none) (cond (Nat.beq x 13) (some (.aload_n 0, 14, 0, 0)) none)))) (cond (Nat.blt x 22) (cond (Nat.blt x 18) (cond (Nat.blt x 15) (cond (Nat.beq x 14) (some (.iconst 2, 15, 0, 2)) none) (cond (Nat.beq x 15) (some (.anewarray 17, 18, 0, 0)) none)) (cond (Nat.blt x 21) (cond (Nat.beq x 18) (some (.putfield 19, 21, 0, 0)) none) (cond (Nat.beq x 21) (some (.aload_n 0, 22, 0, 0)) none))) (cond (Nat.blt x 26) (cond (Nat.blt x 23) (cond (Nat.beq x 22) (some (.iconst 5, 23, 0, 5)) none) (cond (Nat.beq x 23) (some (.anewarray 23, 26, 0, 0)) none)) (cond (Nat.blt x 29) (cond (Nat.beq x 26) (some (.putfield 25, 29, 0, 0)) none) (cond (Nat.beq x 29) (some (.iconst 0, 30, 0, 0)) none))))) (cond (Nat.blt x 44) (cond (Nat.blt x 36) (cond (Nat.blt x 32) (cond (Nat.blt x 31) (cond (Nat.beq x 30) (some (.istore_n 1, 31, 0, 0)) none) (cond (Nat.beq x 31) (some (.iload_n 1, 32, 0, 0)) none)) (cond (Nat.blt x 33) (cond (Nat.beq x 32) (some (.aload_n 0, 33, 0, 0)) none) (cond (Nat.beq x 33) (some (.getfield 11, 36, 0, 0)) none))) (cond (Nat.blt x 40) (cond (Nat.blt x 37) (cond (Nat.beq x 36) (some (.arraylength, 37, 0, 0)) none) (cond (Nat.beq x 37) (some (.if_icmp .ge 22, 40, 59, 0)) none)) (cond (Nat.blt x 41) (cond (Nat.beq x 40) (some (.aload_n 0, 41, 0, 0)) none) (cond (Nat.beq x 41) (some (.getfield 11, 44, 0, 0)) none)))) (cond (Nat.blt x 52) (cond (Nat.blt x 48) (cond (Nat.blt x 45) (cond (Nat.beq x 44) (some (.iload_n 1, 45, 0, 0)) none) (cond (Nat.beq x 45) (some (.new 9, 48, 0, 0)) none)) (cond (Nat.blt x 49) (cond (Nat.beq x 48) (some (.dup, 49, 0, 0)) none) (cond (Nat.beq x 49) (some (.invokespecial 29, 52, 0, 0)) none))) (cond (Nat.blt x 56) (cond (Nat.blt x 53) (cond (Nat.beq x 52) (some (.aastore, 53, 0, 0)) none) (cond (Nat.beq x 53) (some (.iinc 1 1, 56, 0, 1)) none)) (cond (Nat.blt x 59) (cond (Nat.beq x 56) (some (.goto (-25), 59, 31, 0)) none) (cond (Nat.beq x 59) (some (.iconst 0, 60, 0, 0)) none)))))) (cond (Nat.blt x 90) (cond (Nat.blt x 74) (cond (Nat.blt x 66) (cond (Nat.blt x 62) (cond (Nat.blt x 61) (cond (Nat.beq x 60) (some (.istore_n 1, 61, 0, 0)) none) (cond (Nat.beq x 61) (some (.iload_n 1, 62, 0, 0)) none)) (cond (Nat.blt x 63) (cond (Nat.beq x 62) (some (.aload_n 0, 63, 0, 0)) none) (cond (Nat.beq x 63) (some (.getfield 19, 66, 0, 0)) none))) (cond (Nat.blt x 70) (cond (Nat.blt x 67) (cond (Nat.beq x 66) (some (.arraylength, 67, 0, 0)) none) (cond (Nat.beq x 67) (some (.if_icmp .ge 22, 70, 89, 0)) none)) (cond (Nat.blt x 71) (cond (Nat.beq x 70) (some (.aload_n 0, 71, 0, 0)) none) (cond (Nat.beq x 71) (some (.getfield 19, 74, 0, 0)) none)))) (cond (Nat.blt x 82) (cond (Nat.blt x 78) (cond (Nat.blt x 75) (cond (Nat.beq x 74) (some (.iload_n 1, 75, 0, 0)) none) (cond (Nat.beq x 75) (some (.new 17, 78, 0, 0)) none)) (cond (Nat.blt x 79) (cond (Nat.beq x 78) (some (.dup, 79, 0, 0)) none) (cond (Nat.beq x 79) (some (.invokespecial 30, 82, 0, 0)) none))) (cond (Nat.blt x 86) (cond (Nat.blt x 83) (cond (Nat.beq x 82) (some (.aastore, 83, 0, 0)) none) (cond (Nat.beq x 83) (some (.iinc 1 1, 86, 0, 1)) none)) (cond (Nat.blt x 89) (cond (Nat.beq x 86) (some (.goto (-25), 89, 61, 0)) none) (cond (Nat.beq x 89) (some (.iconst 0, 90, 0, 0)) none))))) (cond (Nat.blt x 104) (cond (Nat.blt x 96) (cond (Nat.blt x 92) (cond (Nat.blt x 91) (cond (Nat.beq x 90) (some (.istore_n 1, 91, 0, 0)) none) (cond (Nat.beq x 91) (some (.iload_n 1, 92, 0, 0)) none)) (cond (Nat.blt x 93) (cond (Nat.beq x 92) (some (.aload_n 0, 93, 0, 0)) none) (cond (Nat.beq x 93) (some (.getfield 25, 96, 0, 0)) none))) (cond (Nat.blt x 100) (cond (Nat.blt x 97) (cond (Nat.beq x 96) (some (.arraylength, 97, 0, 0)) none) (cond (Nat.beq x 97) (some (.if_icmp .ge 22, 100, 119, 0)) none)) (cond (Nat.blt x 101) (cond (Nat.beq x 100) (some (.aload_n 0, 101, 0, 0)) none) (cond (Nat.beq x 101) (some (.getfield 25, 104, 0, 0)) none)))) (cond (Nat.blt x 112) (cond (Nat.blt x 108) (cond (Nat.blt x 105) (cond (Nat.beq x 104) (some (.iload_n 1, 105, 0, 0)) none) (cond (Nat.beq x 105) (some (.new 23, 108, 0, 0)) none)) (cond (Nat.blt x 109) (cond (Nat.beq x 108) (some (.dup, 109, 0, 0)) none) (cond (Nat.beq x 109) (some (.invokespecial 31, 112, 0, 0)) none))) (cond (Nat.blt x 116) (cond (Nat.blt x 113) (cond (Nat.beq x 112) (some (.aastore, 113, 0, 0)) none) (cond (Nat.beq x 113) (some (.iinc 1 1, 116, 0, 1)) none)) (cond (Nat.blt x 119) (cond (Nat.beq x 116) (some (.goto (-25), 119, 91, 0)) none) (cond (Nat.beq x 119) (some (.return_, 120, 0, 0)) none))))))
def ep_X6_cellAt (x : Nat) : Option (Instr × Nat × Nat × Int32) := cond (Nat.blt x 16) (cond (Nat.blt x 6) (cond (Nat.blt x 4) (cond (Nat.blt x 1) (cond (Nat.beq x 0) (some (.iload_n 1, 1, 0, 0)) none) (cond (Nat.beq x 1) (some (.ifCond .lt 12, 4, 13, 0)) none)) (cond (Nat.blt x 5) (cond (Nat.beq x 4) (some (.iload_n 1, 5, 0, 0)) none) (cond (Nat.beq x 5) (some (.aload_n 0, 6, 0, 0)) none))) (cond (Nat.blt x 10) (cond (Nat.blt x 9) (cond (Nat.beq x 6) (some (.getfield 11, 9, 0, 0)) none) (cond (Nat.beq x 9) (some (.arraylength, 10, 0, 0)) none)) (cond (Nat.blt x 13) (cond (Nat.beq x 10) (some (.if_icmp .lt 13, 13, 23, 0)) none) (cond (Nat.beq x 13) (some (.new 32, 16, 0, 0)) none)))) (cond (Nat.blt x 23) (cond (Nat.blt x 19) (cond (Nat.blt x 17) (cond (Nat.beq x 16) (some (.dup, 17, 0, 0)) none) (cond (Nat.beq x 17) (some (.ldc 34, 19, 0, 0)) none)) (cond (Nat.blt x 22) (cond (Nat.beq x 19) (some (.invokespecial 36, 22, 0, 0)) none) (cond (Nat.beq x 22) (some (.athrow, 23, 0, 0)) none))) (cond (Nat.blt x 27) (cond (Nat.blt x 24) (cond (Nat.beq x 23) (some (.aload_n 0, 24, 0, 0)) none) (cond (Nat.beq x 24) (some (.getfield 11, 27, 0, 0)) none)) (cond (Nat.blt x 28) (cond (Nat.beq x 27) (some (.iload_n 1, 28, 0, 0)) none) (cond (Nat.blt x 29) (cond (Nat.beq x 28) (some (.aaload, 29, 0, 0)) none) (cond (Nat.beq x 29) (some (.areturn, 30, 0, 0)) none)))))
def ep_X6_breakerAt (x : Nat) : Option (Instr × Nat × Nat × Int32) := cond (Nat.blt x 18) (cond (Nat.blt x 9) (cond (Nat.blt x 4) (cond (Nat.blt x 1) (cond (Nat.beq x 0) (some (.iload_n 1, 1, 0, 0)) none) (cond (Nat.beq x 1) (some (.ifCond .lt 20, 4, 21, 0)) none)) (cond (Nat.blt x 5) (cond (Nat.beq x 4) (some (.iload_n 1, 5, 0, 0)) none) (cond (Nat.blt x 6) (cond (Nat.beq x 5) (some (.aload_n 0, 6, 0, 0)) none) (cond (Nat.beq x 6) (some (.getfield 39, 9, 0, 0)) none)))) (cond (Nat.blt x 13) (cond (Nat.blt x 12) (cond (Nat.beq x 9) (some (.if_icmp .ge 12, 12, 21, 0)) none) (cond (Nat.beq x 12) (some (.iload_n 1, 13, 0, 0)) none)) (cond (Nat.blt x 14) (cond (Nat.beq x 13) (some (.aload_n 0, 14, 0, 0)) none) (cond (Nat.blt x 17) (cond (Nat.beq x 14) (some (.getfield 19, 17, 0, 0)) none) (cond (Nat.beq x 17) (some (.arraylength, 18, 0, 0)) none))))) (cond (Nat.blt x 30) (cond (Nat.blt x 24) (cond (Nat.blt x 21) (cond (Nat.beq x 18) (some (.if_icmp .lt 13, 21, 31, 0)) none) (cond (Nat.beq x 21) (some (.new 32, 24, 0, 0)) none)) (cond (Nat.blt x 25) (cond (Nat.beq x 24) (some (.dup, 25, 0, 0)) none) (cond (Nat.blt x 27) (cond (Nat.beq x 25) (some (.ldc 43, 27, 0, 0)) none) (cond (Nat.beq x 27) (some (.invokespecial 36, 30, 0, 0)) none)))) (cond (Nat.blt x 35) (cond (Nat.blt x 31) (cond (Nat.beq x 30) (some (.athrow, 31, 0, 0)) none) (cond (Nat.blt x 32) (cond (Nat.beq x 31) (some (.aload_n 0, 32, 0, 0)) none) (cond (Nat.beq x 32) (some (.getfield 19, 35, 0, 0)) none))) (cond (Nat.blt x 36) (cond (Nat.beq x 35) (some (.iload_n 1, 36, 0, 0)) none) (cond (Nat.blt x 37) (cond (Nat.beq x 36) (some (.aaload, 37, 0, 0)) none) (cond (Nat.beq x 37) (some (.areturn, 38, 0, 0)) none)))))
def ep_X6_shipAt (x : Nat) : Option (Instr × Nat × Nat × Int32) := cond (Nat.blt x 18) (cond (Nat.blt x 9) (cond (Nat.blt x 4) (cond (Nat.blt x 1) (cond (Nat.beq x 0) (some (.iload_n 1, 1, 0, 0)) none) (cond (Nat.beq x 1) (some (.ifCond .lt 20, 4, 21, 0)) none)) (cond (Nat.blt x 5) (cond (Nat.beq x 4) (some (.iload_n 1, 5, 0, 0)) none) (cond (Nat.blt x 6) (cond (Nat.beq x 5) (some (.aload_n 0, 6, 0, 0)) none) (cond (Nat.beq x 6) (some (.getfield 45, 9, 0, 0)) none)))) (cond (Nat.blt x 13) (cond (Nat.blt x 12) (cond (Nat.beq x 9) (some (.if_icmp .ge 12, 12, 21, 0)) none) (cond (Nat.beq x 12) (some (.iload_n 1, 13, 0, 0)) none)) (cond (Nat.blt x 14) (cond (Nat.beq x 13) (some (.aload_n 0, 14, 0, 0)) none) (cond (Nat.blt x 17) (cond (Nat.beq x 14) (some (.getfield 25, 17, 0, 0)) none) (cond (Nat.beq x 17) (some (.arraylength, 18, 0, 0)) none))))) (cond (Nat.blt x 30) (cond (Nat.blt x 24) (cond (Nat.blt x 21) (cond (Nat.beq x 18) (some (.if_icmp .lt 13, 21, 31, 0)) none) (cond (Nat.beq x 21) (some (.new 32, 24, 0, 0)) none)) (cond (Nat.blt x 25) (cond (Nat.beq x 24) (some (.dup, 25, 0, 0)) none) (cond (Nat.blt x 27) (cond (Nat.beq x 25) (some (.ldc 48, 27, 0, 0)) none) (cond (Nat.beq x 27) (some (.invokespecial 36, 30, 0, 0)) none)))) (cond (Nat.blt x 35) (cond (Nat.blt x 31) (cond (Nat.beq x 30) (some (.athrow, 31, 0, 0)) none) (cond (Nat.blt x 32) (cond (Nat.beq x 31) (some (.aload_n 0, 32, 0, 0)) none) (cond (Nat.beq x 32) (some (.getfield 25, 35, 0, 0)) none))) (cond (Nat.blt x 36) (cond (Nat.beq x 35) (some (.iload_n 1, 36, 0, 0)) none) (cond (Nat.blt x 37) (cond (Nat.beq x 36) (some (.aaload, 37, 0, 0)) none) (cond (Nat.beq x 37) (some (.areturn, 38, 0, 0)) none)))))
def ep_X6_addBreaker (x : Nat) : Option (Instr × Nat × Nat × Int32) := cond (Nat.blt x 16) (cond (Nat.blt x 7) (cond (Nat.blt x 4) (cond (Nat.blt x 1) (cond (Nat.beq x 0) (some (.aload_n 0, 1, 0, 0)) none) (cond (Nat.beq x 1) (some (.getfield 39, 4, 0, 0)) none)) (cond (Nat.blt x 5) (cond (Nat.beq x 4) (some (.istore_n 3, 5, 0, 0)) none) (cond (Nat.blt x 6) (cond (Nat.beq x 5) (some (.aload_n 0, 6, 0, 0)) none) (cond (Nat.beq x 6) (some (.dup, 7, 0, 0)) none)))) (cond (Nat.blt x 11) (cond (Nat.blt x 10) (cond (Nat.beq x 7) (some (.getfield 39, 10, 0, 0)) none) (cond (Nat.beq x 10) (some (.iconst 1, 11, 0, 1)) none)) (cond (Nat.blt x 12) (cond (Nat.beq x 11) (some (.iadd, 12, 0, 0)) none) (cond (Nat.blt x 15) (cond (Nat.beq x 12) (some (.putfield 39, 15, 0, 0)) none) (cond (Nat.beq x 15) (some (.aload_n 0, 16, 0, 0)) none))))) (cond (Nat.blt x 25) (cond (Nat.blt x 20) (cond (Nat.blt x 17) (cond (Nat.beq x 16) (some (.iload_n 3, 17, 0, 0)) none) (cond (Nat.beq x 17) (some (.invokevirtual 50, 20, 0, 0)) none)) (cond (Nat.blt x 22) (cond (Nat.beq x 20) (some (.astore 4, 22, 0, 0)) none) (cond (Nat.blt x 24) (cond (Nat.beq x 22) (some (.aload 4, 24, 0, 0)) none) (cond (Nat.beq x 24) (some (.iload_n 1, 25, 0, 0)) none)))) (cond (Nat.blt x 31) (cond (Nat.blt x 28) (cond (Nat.beq x 25) (some (.putfield 54, 28, 0, 0)) none) (cond (Nat.blt x 30) (cond (Nat.beq x 28) (some (.aload 4, 30, 0, 0)) none) (cond (Nat.beq x 30) (some (.iload_n 2, 31, 0, 0)) none))) (cond (Nat.blt x 34) (cond (Nat.beq x 31) (some (.putfield 57, 34, 0, 0)) none) (cond (Nat.blt x 35) (cond (Nat.beq x 34) (some (.iload_n 3, 35, 0, 0)) none) (cond (Nat.beq x 35) (some (.ireturn, 36, 0, 0)) none)))))
def ep_X6_addShip (x : Nat) : Option (Instr × Nat × Nat × Int32) := cond (Nat.blt x 24) (cond (Nat.blt x 11) (cond (Nat.blt x 6) (cond (Nat.blt x 1) (cond (Nat.beq x 0) (some (.aload_n 0, 1, 0, 0)) none) (cond (Nat.blt x 4) (cond (Nat.beq x 1) (some (.getfield 45, 4, 0, 0)) none) (cond (Nat.beq x 4) (some (.istore 5, 6, 0, 0)) none))) (cond (Nat.blt x 7) (cond (Nat.beq x 6) (some (.aload_n 0, 7, 0, 0)) none) (cond (Nat.blt x 8) (cond (Nat.beq x 7) (some (.dup, 8, 0, 0)) none) (cond (Nat.beq x 8) (some (.getfield 45, 11, 0, 0)) none)))) (cond (Nat.blt x 16) (cond (Nat.blt x 12) (cond (Nat.beq x 11) (some (.iconst 1, 12, 0, 1)) none) (cond (Nat.blt x 13) (cond (Nat.beq x 12) (some (.iadd, 13, 0, 0)) none) (cond (Nat.beq x 13) (some (.putfield 45, 16, 0, 0)) none))) (cond (Nat.blt x 19) (cond (Nat.blt x 17) (cond (Nat.beq x 16) (some (.aload_n 0, 17, 0, 0)) none) (cond (Nat.beq x 17) (some (.iload 5, 19, 0, 0)) none)) (cond (Nat.blt x 22) (cond (Nat.beq x 19) (some (.invokevirtual 60, 22, 0, 0)) none) (cond (Nat.beq x 22) (some (.astore 6, 24, 0, 0)) none))))) (cond (Nat.blt x 38) (cond (Nat.blt x 30) (cond (Nat.blt x 26) (cond (Nat.beq x 24) (some (.aload 6, 26, 0, 0)) none) (cond (Nat.blt x 27) (cond (Nat.beq x 26) (some (.iload_n 1, 27, 0, 0)) none) (cond (Nat.beq x 27) (some (.putfield 64, 30, 0, 0)) none))) (cond (Nat.blt x 33) (cond (Nat.blt x 32) (cond (Nat.beq x 30) (some (.aload 6, 32, 0, 0)) none) (cond (Nat.beq x 32) (some (.iload_n 2, 33, 0, 0)) none)) (cond (Nat.blt x 36) (cond (Nat.beq x 33) (some (.invokevirtual 65, 36, 0, 0)) none) (cond (Nat.beq x 36) (some (.aload 6, 38, 0, 0)) none)))) (cond (Nat.blt x 44) (cond (Nat.blt x 39) (cond (Nat.beq x 38) (some (.iload_n 3, 39, 0, 0)) none) (cond (Nat.blt x 42) (cond (Nat.beq x 39) (some (.putfield 69, 42, 0, 0)) none) (cond (Nat.beq x 42) (some (.aload 6, 44, 0, 0)) none))) (cond (Nat.blt x 49) (cond (Nat.blt x 46) (cond (Nat.beq x 44) (some (.iload 4, 46, 0, 0)) none) (cond (Nat.beq x 46) (some (.putfield 72, 49, 0, 0)) none)) (cond (Nat.blt x 51) (cond (Nat.beq x 49) (some (.iload 5, 51, 0, 0)) none) (cond (Nat.beq x 51) (some (.ireturn, 52, 0, 0)) none)))))
def ep_X6_passHour (x : Nat) : Option (Instr × Nat × Nat × Int32) := cond (Nat.blt x 65) (cond (Nat.blt x 29) (cond (Nat.blt x 12) (cond (Nat.blt x 6) (cond (Nat.blt x 2) (cond (Nat.blt x 1) (cond (Nat.beq x 0) (some (.aload_n 0, 1, 0, 0)) none) (cond (Nat.beq x 1) (some (.dup, 2, 0, 0)) none)) (cond (Nat.blt x 5) (cond (Nat.beq x 2) (some (.getfield 75, 5, 0, 0)) none) (cond (Nat.beq x 5) (some (.iconst 1, 6, 0, 1)) none))) (cond (Nat.blt x 10) (cond (Nat.blt x 7) (cond (Nat.beq x 6) (some (.iadd, 7, 0, 0)) none) (cond (Nat.beq x 7) (some (.putfield 75, 10, 0, 0)) none)) (cond (Nat.blt x 11) (cond (Nat.beq x 10) (some (.aload_n 0, 11, 0, 0)) none) (cond (Nat.beq x 11) (some (.iload_n 3, 12, 0, 0)) none)))) (cond (Nat.blt x 20) (cond (Nat.blt x 16) (cond (Nat.blt x 15) (cond (Nat.beq x 12) (some (.invokevirtual 78, 15, 0, 0)) none) (cond (Nat.beq x 15) (some (.iconst 0, 16, 0, 0)) none)) (cond (Nat.blt x 18) (cond (Nat.beq x 16) (some (.istore 4, 18, 0, 0)) none) (cond (Nat.beq x 18) (some (.iload 4, 20, 0, 0)) none))) (cond (Nat.blt x 24) (cond (Nat.blt x 21) (cond (Nat.beq x 20) (some (.aload_n 0, 21, 0, 0)) none) (cond (Nat.beq x 21) (some (.getfield 11, 24, 0, 0)) none)) (cond (Nat.blt x 25) (cond (Nat.beq x 24) (some (.arraylength, 25, 0, 0)) none) (cond (Nat.blt x 28) (cond (Nat.beq x 25) (some (.if_icmp .ge 39, 28, 64, 0)) none) (cond (Nat.beq x 28) (some (.aload_n 0, 29, 0, 0)) none)))))) (cond (Nat.blt x 45) (cond (Nat.blt x 37) (cond (Nat.blt x 33) (cond (Nat.blt x 30) (cond (Nat.beq x 29) (some (.dup, 30, 0, 0)) none) (cond (Nat.beq x 30) (some (.getfield 81, 33, 0, 0)) none)) (cond (Nat.blt x 34) (cond (Nat.beq x 33) (some (.aload_n 0, 34, 0, 0)) none) (cond (Nat.beq x 34) (some (.getfield 11, 37, 0, 0)) none))) (cond (Nat.blt x 40) (cond (Nat.blt x 39) (cond (Nat.beq x 37) (some (.iload 4, 39, 0, 0)) none) (cond (Nat.beq x 39) (some (.aaload, 40, 0, 0)) none)) (cond (Nat.blt x 41) (cond (Nat.beq x 40) (some (.iload_n 2, 41, 0, 0)) none) (cond (Nat.blt x 44) (cond (Nat.beq x 41) (some (.invokevirtual 84, 44, 0, 0)) none) (cond (Nat.beq x 44) (some (.iadd, 45, 0, 0)) none))))) (cond (Nat.blt x 54) (cond (Nat.blt x 49) (cond (Nat.blt x 48) (cond (Nat.beq x 45) (some (.putfield 81, 48, 0, 0)) none) (cond (Nat.beq x 48) (some (.aload_n 0, 49, 0, 0)) none)) (cond (Nat.blt x 52) (cond (Nat.beq x 49) (some (.getfield 11, 52, 0, 0)) none) (cond (Nat.beq x 52) (some (.iload 4, 54, 0, 0)) none))) (cond (Nat.blt x 58) (cond (Nat.blt x 55) (cond (Nat.beq x 54) (some (.aaload, 55, 0, 0)) none) (cond (Nat.beq x 55) (some (.invokevirtual 88, 58, 0, 0)) none)) (cond (Nat.blt x 61) (cond (Nat.beq x 58) (some (.iinc 4 1, 61, 0, 1)) none) (cond (Nat.blt x 64) (cond (Nat.beq x 61) (some (.goto (-43), 64, 18, 0)) none) (cond (Nat.beq x 64) (some (.iconst 0, 65, 0, 0)) none))))))) (cond (Nat.blt x 100) (cond (Nat.blt x 80) (cond (Nat.blt x 73) (cond (Nat.blt x 69) (cond (Nat.blt x 67) (cond (Nat.beq x 65) (some (.istore 4, 67, 0, 0)) none) (cond (Nat.beq x 67) (some (.iload 4, 69, 0, 0)) none)) (cond (Nat.blt x 70) (cond (Nat.beq x 69) (some (.aload_n 0, 70, 0, 0)) none) (cond (Nat.beq x 70) (some (.getfield 39, 73, 0, 0)) none))) (cond (Nat.blt x 77) (cond (Nat.blt x 76) (cond (Nat.beq x 73) (some (.if_icmp .ge 19, 76, 92, 0)) none) (cond (Nat.beq x 76) (some (.aload_n 0, 77, 0, 0)) none)) (cond (Nat.blt x 78) (cond (Nat.beq x 77) (some (.aload_n 0, 78, 0, 0)) none) (cond (Nat.beq x 78) (some (.iload 4, 80, 0, 0)) none)))) (cond (Nat.blt x 92) (cond (Nat.blt x 86) (cond (Nat.blt x 83) (cond (Nat.beq x 80) (some (.invokevirtual 50, 83, 0, 0)) none) (cond (Nat.beq x 83) (some (.invokevirtual 91, 86, 0, 0)) none)) (cond (Nat.blt x 89) (cond (Nat.beq x 86) (some (.iinc 4 1, 89, 0, 1)) none) (cond (Nat.beq x 89) (some (.goto (-22), 92, 67, 0)) none))) (cond (Nat.blt x 95) (cond (Nat.blt x 93) (cond (Nat.beq x 92) (some (.iconst 0, 93, 0, 0)) none) (cond (Nat.beq x 93) (some (.istore 4, 95, 0, 0)) none)) (cond (Nat.blt x 96) (cond (Nat.beq x 95) (some (.iconst 0, 96, 0, 0)) none) (cond (Nat.blt x 98) (cond (Nat.beq x 96) (some (.istore 5, 98, 0, 0)) none) (cond (Nat.beq x 98) (some (.iload 5, 100, 0, 0)) none)))))) (cond (Nat.blt x 119) (cond (Nat.blt x 109) (cond (Nat.blt x 104) (cond (Nat.blt x 101) (cond (Nat.beq x 100) (some (.aload_n 0, 101, 0, 0)) none) (cond (Nat.beq x 101) (some (.getfield 45, 104, 0, 0)) none)) (cond (Nat.blt x 107) (cond (Nat.beq x 104) (some (.if_icmp .ge 29, 107, 133, 0)) none) (cond (Nat.beq x 107) (some (.iload 4, 109, 0, 0)) none))) (cond (Nat.blt x 112) (cond (Nat.blt x 110) (cond (Nat.beq x 109) (some (.aload_n 0, 110, 0, 0)) none) (cond (Nat.beq x 110) (some (.iload 5, 112, 0, 0)) none)) (cond (Nat.blt x 113) (cond (Nat.beq x 112) (some (.aload_n 1, 113, 0, 0)) none) (cond (Nat.blt x 116) (cond (Nat.beq x 113) (some (.invokevirtual 95, 116, 0, 0)) none) (cond (Nat.beq x 116) (some (.ifCond .eq 7, 119, 123, 0)) none))))) (cond (Nat.blt x 125) (cond (Nat.blt x 123) (cond (Nat.blt x 120) (cond (Nat.beq x 119) (some (.iconst 1, 120, 0, 1)) none) (cond (Nat.beq x 120) (some (.goto 4, 123, 124, 0)) none)) (cond (Nat.blt x 124) (cond (Nat.beq x 123) (some (.iconst 0, 124, 0, 0)) none) (cond (Nat.beq x 124) (some (.iadd, 125, 0, 0)) none))) (cond (Nat.blt x 130) (cond (Nat.blt x 127) (cond (Nat.beq x 125) (some (.istore 4, 127, 0, 0)) none) (cond (Nat.beq x 127) (some (.iinc 5 1, 130, 0, 1)) none)) (cond (Nat.blt x 133) (cond (Nat.beq x 130) (some (.goto (-32), 133, 98, 0)) none) (cond (Nat.blt x 135) (cond (Nat.beq x 133) (some (.iload 4, 135, 0, 0)) none) (cond (Nat.beq x 135) (some (.ireturn, 136, 0, 0)) none)))))))
def ep_X6_drift (x : Nat) : Option (Instr × Nat × Nat × Int32) := cond (Nat.blt x 29) (cond (Nat.blt x 13) (cond (Nat.blt x 4) (cond (Nat.blt x 2) (cond (Nat.blt x 1) (cond (Nat.beq x 0) (some (.iconst 0, 1, 0, 0)) none) (cond (Nat.beq x 1) (some (.istore_n 2, 2, 0, 0)) none)) (cond (Nat.blt x 3) (cond (Nat.beq x 2) (some (.iload_n 2, 3, 0, 0)) none) (cond (Nat.beq x 3) (some (.aload_n 0, 4, 0, 0)) none))) (cond (Nat.blt x 8) (cond (Nat.blt x 7) (cond (Nat.beq x 4) (some (.getfield 11, 7, 0, 0)) none) (cond (Nat.beq x 7) (some (.arraylength, 8, 0, 0)) none)) (cond (Nat.blt x 11) (cond (Nat.beq x 8) (some (.if_icmp .ge 34, 11, 42, 0)) none) (cond (Nat.blt x 12) (cond (Nat.beq x 11) (some (.iload_n 2, 12, 0, 0)) none) (cond (Nat.beq x 12) (some (.iload_n 1, 13, 0, 0)) none))))) (cond (Nat.blt x 22) (cond (Nat.blt x 17) (cond (Nat.blt x 16) (cond (Nat.beq x 13) (some (.invokestatic 99, 16, 0, 0)) none) (cond (Nat.beq x 16) (some (.istore_n 3, 17, 0, 0)) none)) (cond (Nat.blt x 18) (cond (Nat.beq x 17) (some (.iload_n 3, 18, 0, 0)) none) (cond (Nat.blt x 19) (cond (Nat.beq x 18) (some (.iconst (-1), 19, 0, (-1))) none) (cond (Nat.beq x 19) (some (.if_icmp .eq 17, 22, 36, 0)) none)))) (cond (Nat.blt x 26) (cond (Nat.blt x 23) (cond (Nat.beq x 22) (some (.aload_n 0, 23, 0, 0)) none) (cond (Nat.beq x 23) (some (.getfield 11, 26, 0, 0)) none)) (cond (Nat.blt x 27) (cond (Nat.beq x 26) (some (.iload_n 2, 27, 0, 0)) none) (cond (Nat.blt x 28) (cond (Nat.beq x 27) (some (.aaload, 28, 0, 0)) none) (cond (Nat.beq x 28) (some (.aload_n 0, 29, 0, 0)) none)))))) (cond (Nat.blt x 49) (cond (Nat.blt x 42) (cond (Nat.blt x 33) (cond (Nat.blt x 30) (cond (Nat.beq x 29) (some (.iload_n 3, 30, 0, 0)) none) (cond (Nat.beq x 30) (some (.invokevirtual 103, 33, 0, 0)) none)) (cond (Nat.blt x 36) (cond (Nat.beq x 33) (some (.invokevirtual 107, 36, 0, 0)) none) (cond (Nat.blt x 39) (cond (Nat.beq x 36) (some (.iinc 2 1, 39, 0, 1)) none) (cond (Nat.beq x 39) (some (.goto (-37), 42, 2, 0)) none)))) (cond (Nat.blt x 44) (cond (Nat.blt x 43) (cond (Nat.beq x 42) (some (.iconst 0, 43, 0, 0)) none) (cond (Nat.beq x 43) (some (.istore_n 2, 44, 0, 0)) none)) (cond (Nat.blt x 45) (cond (Nat.beq x 44) (some (.iload_n 2, 45, 0, 0)) none) (cond (Nat.blt x 46) (cond (Nat.beq x 45) (some (.aload_n 0, 46, 0, 0)) none) (cond (Nat.beq x 46) (some (.getfield 11, 49, 0, 0)) none))))) (cond (Nat.blt x 58) (cond (Nat.blt x 53) (cond (Nat.blt x 50) (cond (Nat.beq x 49) (some (.arraylength, 50, 0, 0)) none) (cond (Nat.beq x 50) (some (.if_icmp .ge 18, 53, 68, 0)) none)) (cond (Nat.blt x 54) (cond (Nat.beq x 53) (some (.aload_n 0, 54, 0, 0)) none) (cond (Nat.blt x 57) (cond (Nat.beq x 54) (some (.getfield 11, 57, 0, 0)) none) (cond (Nat.beq x 57) (some (.iload_n 2, 58, 0, 0)) none)))) (cond (Nat.blt x 62) (cond (Nat.blt x 59) (cond (Nat.beq x 58) (some (.aaload, 59, 0, 0)) none) (cond (Nat.beq x 59) (some (.invokevirtual 111, 62, 0, 0)) none)) (cond (Nat.blt x 65) (cond (Nat.beq x 62) (some (.iinc 2 1, 65, 0, 1)) none) (cond (Nat.blt x 68) (cond (Nat.beq x 65) (some (.goto (-21), 68, 44, 0)) none) (cond (Nat.beq x 68) (some (.return_, 69, 0, 0)) none))))))
def ep_X6_moveBreaker (x : Nat) : Option (Instr × Nat × Nat × Int32) := cond (Nat.blt x 58) (cond (Nat.blt x 29) (cond (Nat.blt x 15) (cond (Nat.blt x 5) (cond (Nat.blt x 1) (cond (Nat.beq x 0) (some (.aload_n 1, 1, 0, 0)) none) (cond (Nat.blt x 2) (cond (Nat.beq x 1) (some (.iconst (-1), 2, 0, (-1))) none) (cond (Nat.beq x 2) (some (.putfield 114, 5, 0, 0)) none))) (cond (Nat.blt x 9) (cond (Nat.blt x 6) (cond (Nat.beq x 5) (some (.aload_n 1, 6, 0, 0)) none) (cond (Nat.beq x 6) (some (.getfield 117, 9, 0, 0)) none)) (cond (Nat.blt x 12) (cond (Nat.beq x 9) (some (.getfield 121, 12, 0, 0)) none) (cond (Nat.beq x 12) (some (.ifCond .ne 4, 15, 16, 0)) none)))) (cond (Nat.blt x 23) (cond (Nat.blt x 17) (cond (Nat.blt x 16) (cond (Nat.beq x 15) (some (.return_, 16, 0, 0)) none) (cond (Nat.beq x 16) (some (.aload_n 1, 17, 0, 0)) none)) (cond (Nat.blt x 20) (cond (Nat.beq x 17) (some (.getfield 117, 20, 0, 0)) none) (cond (Nat.beq x 20) (some (.invokevirtual 126, 23, 0, 0)) none))) (cond (Nat.blt x 25) (cond (Nat.blt x 24) (cond (Nat.beq x 23) (some (.istore_n 2, 24, 0, 0)) none) (cond (Nat.beq x 24) (some (.aload_n 0, 25, 0, 0)) none)) (cond (Nat.blt x 26) (cond (Nat.beq x 25) (some (.iload_n 2, 26, 0, 0)) none) (cond (Nat.beq x 26) (some (.invokevirtual 103, 29, 0, 0)) none))))) (cond (Nat.blt x 42) (cond (Nat.blt x 34) (cond (Nat.blt x 30) (cond (Nat.beq x 29) (some (.astore_n 3, 30, 0, 0)) none) (cond (Nat.blt x 31) (cond (Nat.beq x 30) (some (.aload_n 1, 31, 0, 0)) none) (cond (Nat.beq x 31) (some (.getfield 54, 34, 0, 0)) none))) (cond (Nat.blt x 38) (cond (Nat.blt x 35) (cond (Nat.beq x 34) (some (.iload_n 2, 35, 0, 0)) none) (cond (Nat.beq x 35) (some (.invokestatic 130, 38, 0, 0)) none)) (cond (Nat.blt x 39) (cond (Nat.beq x 38) (some (.iconst 1, 39, 0, 1)) none) (cond (Nat.beq x 39) (some (.if_icmp .ne 10, 42, 49, 0)) none)))) (cond (Nat.blt x 50) (cond (Nat.blt x 46) (cond (Nat.blt x 43) (cond (Nat.beq x 42) (some (.aload_n 3, 43, 0, 0)) none) (cond (Nat.beq x 43) (some (.getfield 133, 46, 0, 0)) none)) (cond (Nat.blt x 49) (cond (Nat.beq x 46) (some (.ifCond .eq 12, 49, 58, 0)) none) (cond (Nat.beq x 49) (some (.aload_n 1, 50, 0, 0)) none))) (cond (Nat.blt x 56) (cond (Nat.blt x 53) (cond (Nat.beq x 50) (some (.getfield 117, 53, 0, 0)) none) (cond (Nat.beq x 53) (some (.invokevirtual 137, 56, 0, 0)) none)) (cond (Nat.blt x 57) (cond (Nat.beq x 56) (some (.pop, 57, 0, 0)) none) (cond (Nat.beq x 57) (some (.return_, 58, 0, 0)) none)))))) (cond (Nat.blt x 88) (cond (Nat.blt x 69) (cond (Nat.blt x 63) (cond (Nat.blt x 59) (cond (Nat.beq x 58) (some (.iconst 3, 59, 0, 3)) none) (cond (Nat.blt x 60) (cond (Nat.beq x 59) (some (.aload_n 3, 60, 0, 0)) none) (cond (Nat.beq x 60) (some (.getfield 140, 63, 0, 0)) none))) (cond (Nat.blt x 66) (cond (Nat.blt x 65) (cond (Nat.beq x 63) (some (.bipush 30, 65, 0, 30)) none) (cond (Nat.beq x 65) (some (.idiv, 66, 0, 0)) none)) (cond (Nat.blt x 67) (cond (Nat.beq x 66) (some (.iadd, 67, 0, 0)) none) (cond (Nat.beq x 67) (some (.istore 4, 69, 0, 0)) none)))) (cond (Nat.blt x 79) (cond (Nat.blt x 73) (cond (Nat.blt x 70) (cond (Nat.beq x 69) (some (.aload_n 3, 70, 0, 0)) none) (cond (Nat.beq x 70) (some (.invokevirtual 143, 73, 0, 0)) none)) (cond (Nat.blt x 76) (cond (Nat.beq x 73) (some (.sipush 150, 76, 0, 150)) none) (cond (Nat.beq x 76) (some (.if_icmp .gt 12, 79, 88, 0)) none))) (cond (Nat.blt x 83) (cond (Nat.blt x 80) (cond (Nat.beq x 79) (some (.aload_n 1, 80, 0, 0)) none) (cond (Nat.beq x 80) (some (.getfield 57, 83, 0, 0)) none)) (cond (Nat.blt x 85) (cond (Nat.beq x 83) (some (.iload 4, 85, 0, 0)) none) (cond (Nat.beq x 85) (some (.if_icmp .ge 14, 88, 99, 0)) none))))) (cond (Nat.blt x 99) (cond (Nat.blt x 93) (cond (Nat.blt x 89) (cond (Nat.beq x 88) (some (.aload_n 1, 89, 0, 0)) none) (cond (Nat.blt x 90) (cond (Nat.beq x 89) (some (.dup, 90, 0, 0)) none) (cond (Nat.beq x 90) (some (.getfield 146, 93, 0, 0)) none))) (cond (Nat.blt x 95) (cond (Nat.blt x 94) (cond (Nat.beq x 93) (some (.iconst 1, 94, 0, 1)) none) (cond (Nat.beq x 94) (some (.iadd, 95, 0, 0)) none)) (cond (Nat.blt x 98) (cond (Nat.beq x 95) (some (.putfield 146, 98, 0, 0)) none) (cond (Nat.beq x 98) (some (.return_, 99, 0, 0)) none)))) (cond (Nat.blt x 106) (cond (Nat.blt x 101) (cond (Nat.blt x 100) (cond (Nat.beq x 99) (some (.aload_n 1, 100, 0, 0)) none) (cond (Nat.beq x 100) (some (.iload_n 2, 101, 0, 0)) none)) (cond (Nat.blt x 103) (cond (Nat.beq x 101) (some (.iload 4, 103, 0, 0)) none) (cond (Nat.beq x 103) (some (.invokevirtual 149, 106, 0, 0)) none))) (cond (Nat.blt x 109) (cond (Nat.blt x 107) (cond (Nat.beq x 106) (some (.aload_n 3, 107, 0, 0)) none) (cond (Nat.beq x 107) (some (.bipush 12, 109, 0, 12)) none)) (cond (Nat.blt x 112) (cond (Nat.beq x 109) (some (.putfield 153, 112, 0, 0)) none) (cond (Nat.beq x 112) (some (.return_, 113, 0, 0)) none))))))
def ep_X6_moveShip (x : Nat) : Option (Instr × Nat × Nat × Int32) := cond (Nat.blt x 67) (cond (Nat.blt x 31) (cond (Nat.blt x 14) (cond (Nat.blt x 6) (cond (Nat.blt x 2) (cond (Nat.blt x 1) (cond (Nat.beq x 0) (some (.aload_n 0, 1, 0, 0)) none) (cond (Nat.beq x 1) (some (.iload_n 1, 2, 0, 0)) none)) (cond (Nat.blt x 5) (cond (Nat.beq x 2) (some (.invokevirtual 60, 5, 0, 0)) none) (cond (Nat.beq x 5) (some (.astore_n 3, 6, 0, 0)) none))) (cond (Nat.blt x 10) (cond (Nat.blt x 7) (cond (Nat.beq x 6) (some (.aload_n 3, 7, 0, 0)) none) (cond (Nat.beq x 7) (some (.getfield 156, 10, 0, 0)) none)) (cond (Nat.blt x 11) (cond (Nat.beq x 10) (some (.iconst 3, 11, 0, 3)) none) (cond (Nat.beq x 11) (some (.if_icmp .ne 5, 14, 16, 0)) none)))) (cond (Nat.blt x 20) (cond (Nat.blt x 16) (cond (Nat.blt x 15) (cond (Nat.beq x 14) (some (.iconst 0, 15, 0, 0)) none) (cond (Nat.beq x 15) (some (.ireturn, 16, 0, 0)) none)) (cond (Nat.blt x 17) (cond (Nat.beq x 16) (some (.aload_n 3, 17, 0, 0)) none) (cond (Nat.beq x 17) (some (.getfield 156, 20, 0, 0)) none))) (cond (Nat.blt x 24) (cond (Nat.blt x 23) (cond (Nat.beq x 20) (some (.ifCond .ne 11, 23, 31, 0)) none) (cond (Nat.beq x 23) (some (.aload_n 0, 24, 0, 0)) none)) (cond (Nat.blt x 25) (cond (Nat.beq x 24) (some (.aload_n 3, 25, 0, 0)) none) (cond (Nat.blt x 28) (cond (Nat.beq x 25) (some (.invokevirtual 159, 28, 0, 0)) none) (cond (Nat.beq x 28) (some (.goto 8, 31, 36, 0)) none)))))) (cond (Nat.blt x 48) (cond (Nat.blt x 38) (cond (Nat.blt x 33) (cond (Nat.blt x 32) (cond (Nat.beq x 31) (some (.aload_n 0, 32, 0, 0)) none) (cond (Nat.beq x 32) (some (.aload_n 3, 33, 0, 0)) none)) (cond (Nat.blt x 36) (cond (Nat.beq x 33) (some (.invokevirtual 163, 36, 0, 0)) none) (cond (Nat.beq x 36) (some (.istore 4, 38, 0, 0)) none))) (cond (Nat.blt x 40) (cond (Nat.blt x 39) (cond (Nat.beq x 38) (some (.aload_n 2, 39, 0, 0)) none) (cond (Nat.beq x 39) (some (.aload_n 3, 40, 0, 0)) none)) (cond (Nat.blt x 43) (cond (Nat.beq x 40) (some (.getfield 72, 43, 0, 0)) none) (cond (Nat.blt x 46) (cond (Nat.beq x 43) (some (.invokevirtual 166, 46, 0, 0)) none) (cond (Nat.beq x 46) (some (.astore 5, 48, 0, 0)) none))))) (cond (Nat.blt x 57) (cond (Nat.blt x 52) (cond (Nat.blt x 49) (cond (Nat.beq x 48) (some (.aload_n 3, 49, 0, 0)) none) (cond (Nat.beq x 49) (some (.getfield 64, 52, 0, 0)) none)) (cond (Nat.blt x 54) (cond (Nat.beq x 52) (some (.aload 5, 54, 0, 0)) none) (cond (Nat.beq x 54) (some (.getfield 172, 57, 0, 0)) none))) (cond (Nat.blt x 62) (cond (Nat.blt x 60) (cond (Nat.beq x 57) (some (.if_icmp .ne 33, 60, 90, 0)) none) (cond (Nat.beq x 60) (some (.aload 5, 62, 0, 0)) none)) (cond (Nat.blt x 63) (cond (Nat.beq x 62) (some (.iload_n 1, 63, 0, 0)) none) (cond (Nat.blt x 64) (cond (Nat.beq x 63) (some (.aload_n 3, 64, 0, 0)) none) (cond (Nat.beq x 64) (some (.getfield 175, 67, 0, 0)) none))))))) (cond (Nat.blt x 99) (cond (Nat.blt x 85) (cond (Nat.blt x 77) (cond (Nat.blt x 71) (cond (Nat.blt x 68) (cond (Nat.beq x 67) (some (.aload_n 0, 68, 0, 0)) none) (cond (Nat.beq x 68) (some (.getfield 75, 71, 0, 0)) none)) (cond (Nat.blt x 74) (cond (Nat.beq x 71) (some (.invokevirtual 178, 74, 0, 0)) none) (cond (Nat.beq x 74) (some (.ifCond .eq 13, 77, 87, 0)) none))) (cond (Nat.blt x 79) (cond (Nat.blt x 78) (cond (Nat.beq x 77) (some (.aload_n 3, 78, 0, 0)) none) (cond (Nat.beq x 78) (some (.aload_n 0, 79, 0, 0)) none)) (cond (Nat.blt x 82) (cond (Nat.beq x 79) (some (.getfield 75, 82, 0, 0)) none) (cond (Nat.beq x 82) (some (.invokevirtual 182, 85, 0, 0)) none)))) (cond (Nat.blt x 90) (cond (Nat.blt x 87) (cond (Nat.blt x 86) (cond (Nat.beq x 85) (some (.iconst 1, 86, 0, 1)) none) (cond (Nat.beq x 86) (some (.ireturn, 87, 0, 0)) none)) (cond (Nat.blt x 88) (cond (Nat.beq x 87) (some (.iconst 3, 88, 0, 3)) none) (cond (Nat.beq x 88) (some (.istore 4, 90, 0, 0)) none))) (cond (Nat.blt x 93) (cond (Nat.blt x 92) (cond (Nat.beq x 90) (some (.iload 4, 92, 0, 0)) none) (cond (Nat.beq x 92) (some (.iconst (-1), 93, 0, (-1))) none)) (cond (Nat.blt x 96) (cond (Nat.beq x 93) (some (.if_icmp .eq 39, 96, 132, 0)) none) (cond (Nat.blt x 97) (cond (Nat.beq x 96) (some (.aload_n 3, 97, 0, 0)) none) (cond (Nat.beq x 97) (some (.iload 4, 99, 0, 0)) none)))))) (cond (Nat.blt x 118) (cond (Nat.blt x 107) (cond (Nat.blt x 103) (cond (Nat.blt x 102) (cond (Nat.beq x 99) (some (.invokevirtual 185, 102, 0, 0)) none) (cond (Nat.beq x 102) (some (.aload_n 3, 103, 0, 0)) none)) (cond (Nat.blt x 104) (cond (Nat.beq x 103) (some (.dup, 104, 0, 0)) none) (cond (Nat.beq x 104) (some (.getfield 188, 107, 0, 0)) none))) (cond (Nat.blt x 109) (cond (Nat.blt x 108) (cond (Nat.beq x 107) (some (.aload_n 0, 108, 0, 0)) none) (cond (Nat.beq x 108) (some (.aload_n 3, 109, 0, 0)) none)) (cond (Nat.blt x 112) (cond (Nat.beq x 109) (some (.getfield 64, 112, 0, 0)) none) (cond (Nat.blt x 115) (cond (Nat.beq x 112) (some (.invokevirtual 103, 115, 0, 0)) none) (cond (Nat.beq x 115) (some (.getfield 191, 118, 0, 0)) none))))) (cond (Nat.blt x 127) (cond (Nat.blt x 123) (cond (Nat.blt x 120) (cond (Nat.beq x 118) (some (.bipush 6, 120, 0, 6)) none) (cond (Nat.beq x 120) (some (.if_icmp .lt 7, 123, 127, 0)) none)) (cond (Nat.blt x 124) (cond (Nat.beq x 123) (some (.iconst 1, 124, 0, 1)) none) (cond (Nat.beq x 124) (some (.goto 4, 127, 128, 0)) none))) (cond (Nat.blt x 129) (cond (Nat.blt x 128) (cond (Nat.beq x 127) (some (.iconst 0, 128, 0, 0)) none) (cond (Nat.beq x 128) (some (.iadd, 129, 0, 0)) none)) (cond (Nat.blt x 132) (cond (Nat.beq x 129) (some (.putfield 188, 132, 0, 0)) none) (cond (Nat.blt x 133) (cond (Nat.beq x 132) (some (.iconst 0, 133, 0, 0)) none) (cond (Nat.beq x 133) (some (.ireturn, 134, 0, 0)) none)))))))
def ep_X6_goFree (x : Nat) : Option (Instr × Nat × Nat × Int32) := cond (Nat.blt x 45) (cond (Nat.blt x 21) (cond (Nat.blt x 11) (cond (Nat.blt x 4) (cond (Nat.blt x 1) (cond (Nat.beq x 0) (some (.aload_n 1, 1, 0, 0)) none) (cond (Nat.beq x 1) (some (.getfield 194, 4, 0, 0)) none)) (cond (Nat.blt x 7) (cond (Nat.beq x 4) (some (.getfield 121, 7, 0, 0)) none) (cond (Nat.blt x 10) (cond (Nat.beq x 7) (some (.ifCond .ne 5, 10, 12, 0)) none) (cond (Nat.beq x 10) (some (.iconst 0, 11, 0, 0)) none)))) (cond (Nat.blt x 16) (cond (Nat.blt x 12) (cond (Nat.beq x 11) (some (.ireturn, 12, 0, 0)) none) (cond (Nat.blt x 13) (cond (Nat.beq x 12) (some (.aload_n 1, 13, 0, 0)) none) (cond (Nat.beq x 13) (some (.getfield 194, 16, 0, 0)) none))) (cond (Nat.blt x 19) (cond (Nat.beq x 16) (some (.invokevirtual 126, 19, 0, 0)) none) (cond (Nat.blt x 20) (cond (Nat.beq x 19) (some (.istore_n 2, 20, 0, 0)) none) (cond (Nat.beq x 20) (some (.aload_n 0, 21, 0, 0)) none))))) (cond (Nat.blt x 31) (cond (Nat.blt x 26) (cond (Nat.blt x 22) (cond (Nat.beq x 21) (some (.iload_n 2, 22, 0, 0)) none) (cond (Nat.blt x 25) (cond (Nat.beq x 22) (some (.invokevirtual 103, 25, 0, 0)) none) (cond (Nat.beq x 25) (some (.astore_n 3, 26, 0, 0)) none))) (cond (Nat.blt x 27) (cond (Nat.beq x 26) (some (.aload_n 1, 27, 0, 0)) none) (cond (Nat.blt x 30) (cond (Nat.beq x 27) (some (.getfield 64, 30, 0, 0)) none) (cond (Nat.beq x 30) (some (.iload_n 2, 31, 0, 0)) none)))) (cond (Nat.blt x 38) (cond (Nat.blt x 34) (cond (Nat.beq x 31) (some (.invokestatic 130, 34, 0, 0)) none) (cond (Nat.blt x 35) (cond (Nat.beq x 34) (some (.iconst 1, 35, 0, 1)) none) (cond (Nat.beq x 35) (some (.if_icmp .ne 10, 38, 45, 0)) none))) (cond (Nat.blt x 39) (cond (Nat.beq x 38) (some (.aload_n 3, 39, 0, 0)) none) (cond (Nat.blt x 42) (cond (Nat.beq x 39) (some (.getfield 133, 42, 0, 0)) none) (cond (Nat.beq x 42) (some (.ifCond .eq 13, 45, 55, 0)) none)))))) (cond (Nat.blt x 64) (cond (Nat.blt x 54) (cond (Nat.blt x 49) (cond (Nat.blt x 46) (cond (Nat.beq x 45) (some (.aload_n 1, 46, 0, 0)) none) (cond (Nat.beq x 46) (some (.getfield 194, 49, 0, 0)) none)) (cond (Nat.blt x 52) (cond (Nat.beq x 49) (some (.invokevirtual 137, 52, 0, 0)) none) (cond (Nat.blt x 53) (cond (Nat.beq x 52) (some (.pop, 53, 0, 0)) none) (cond (Nat.beq x 53) (some (.iconst 0, 54, 0, 0)) none)))) (cond (Nat.blt x 57) (cond (Nat.blt x 55) (cond (Nat.beq x 54) (some (.ireturn, 55, 0, 0)) none) (cond (Nat.blt x 56) (cond (Nat.beq x 55) (some (.aload_n 1, 56, 0, 0)) none) (cond (Nat.beq x 56) (some (.aload_n 3, 57, 0, 0)) none))) (cond (Nat.blt x 60) (cond (Nat.beq x 57) (some (.invokevirtual 195, 60, 0, 0)) none) (cond (Nat.blt x 61) (cond (Nat.beq x 60) (some (.iconst 1, 61, 0, 1)) none) (cond (Nat.beq x 61) (some (.invokevirtual 198, 64, 0, 0)) none))))) (cond (Nat.blt x 74) (cond (Nat.blt x 69) (cond (Nat.blt x 66) (cond (Nat.beq x 64) (some (.istore 4, 66, 0, 0)) none) (cond (Nat.blt x 68) (cond (Nat.beq x 66) (some (.iload 4, 68, 0, 0)) none) (cond (Nat.beq x 68) (some (.iconst (-1), 69, 0, (-1))) none))) (cond (Nat.blt x 72) (cond (Nat.beq x 69) (some (.if_icmp .ne 15, 72, 84, 0)) none) (cond (Nat.blt x 73) (cond (Nat.beq x 72) (some (.aload_n 1, 73, 0, 0)) none) (cond (Nat.beq x 73) (some (.iload_n 2, 74, 0, 0)) none)))) (cond (Nat.blt x 81) (cond (Nat.blt x 77) (cond (Nat.beq x 74) (some (.putfield 64, 77, 0, 0)) none) (cond (Nat.blt x 78) (cond (Nat.beq x 77) (some (.aload_n 1, 78, 0, 0)) none) (cond (Nat.beq x 78) (some (.getfield 194, 81, 0, 0)) none))) (cond (Nat.blt x 84) (cond (Nat.beq x 81) (some (.invokevirtual 202, 84, 0, 0)) none) (cond (Nat.blt x 86) (cond (Nat.beq x 84) (some (.iload 4, 86, 0, 0)) none) (cond (Nat.beq x 86) (some (.ireturn, 87, 0, 0)) none))))))
def ep_X6_goBound (x : Nat) : Option (Instr × Nat × Nat × Int32) := cond (Nat.blt x 36) (cond (Nat.blt x 17) (cond (Nat.blt x 8) (cond (Nat.blt x 2) (cond (Nat.blt x 1) (cond (Nat.beq x 0) (some (.aload_n 0, 1, 0, 0)) none) (cond (Nat.beq x 1) (some (.aload_n 1, 2, 0, 0)) none)) (cond (Nat.blt x 5) (cond (Nat.beq x 2) (some (.getfield 205, 5, 0, 0)) none) (cond (Nat.beq x 5) (some (.invokevirtual 50, 8, 0, 0)) none))) (cond (Nat.blt x 10) (cond (Nat.blt x 9) (cond (Nat.beq x 8) (some (.astore_n 2, 9, 0, 0)) none) (cond (Nat.beq x 9) (some (.aload_n 2, 10, 0, 0)) none)) (cond (Nat.blt x 13) (cond (Nat.beq x 10) (some (.getfield 114, 13, 0, 0)) none) (cond (Nat.blt x 14) (cond (Nat.beq x 13) (some (.aload_n 1, 14, 0, 0)) none) (cond (Nat.beq x 14) (some (.getfield 64, 17, 0, 0)) none))))) (cond (Nat.blt x 25) (cond (Nat.blt x 21) (cond (Nat.blt x 20) (cond (Nat.beq x 17) (some (.if_icmp .ne 23, 20, 40, 0)) none) (cond (Nat.beq x 20) (some (.aload_n 1, 21, 0, 0)) none)) (cond (Nat.blt x 22) (cond (Nat.beq x 21) (some (.aload_n 2, 22, 0, 0)) none) (cond (Nat.beq x 22) (some (.getfield 54, 25, 0, 0)) none))) (cond (Nat.blt x 27) (cond (Nat.blt x 26) (cond (Nat.beq x 25) (some (.aload_n 0, 26, 0, 0)) none) (cond (Nat.beq x 26) (some (.aload_n 2, 27, 0, 0)) none)) (cond (Nat.blt x 30) (cond (Nat.beq x 27) (some (.getfield 54, 30, 0, 0)) none) (cond (Nat.blt x 33) (cond (Nat.beq x 30) (some (.invokevirtual 103, 33, 0, 0)) none) (cond (Nat.beq x 33) (some (.invokevirtual 195, 36, 0, 0)) none)))))) (cond (Nat.blt x 53) (cond (Nat.blt x 44) (cond (Nat.blt x 40) (cond (Nat.blt x 39) (cond (Nat.beq x 36) (some (.invokevirtual 208, 39, 0, 0)) none) (cond (Nat.beq x 39) (some (.ireturn, 40, 0, 0)) none)) (cond (Nat.blt x 41) (cond (Nat.beq x 40) (some (.aload_n 2, 41, 0, 0)) none) (cond (Nat.beq x 41) (some (.getfield 114, 44, 0, 0)) none))) (cond (Nat.blt x 48) (cond (Nat.blt x 45) (cond (Nat.beq x 44) (some (.iconst (-1), 45, 0, (-1))) none) (cond (Nat.beq x 45) (some (.if_icmp .ne 16, 48, 61, 0)) none)) (cond (Nat.blt x 49) (cond (Nat.beq x 48) (some (.aload_n 2, 49, 0, 0)) none) (cond (Nat.blt x 52) (cond (Nat.beq x 49) (some (.getfield 54, 52, 0, 0)) none) (cond (Nat.beq x 52) (some (.aload_n 1, 53, 0, 0)) none))))) (cond (Nat.blt x 62) (cond (Nat.blt x 59) (cond (Nat.blt x 56) (cond (Nat.beq x 53) (some (.getfield 64, 56, 0, 0)) none) (cond (Nat.beq x 56) (some (.if_icmp .ne 5, 59, 61, 0)) none)) (cond (Nat.blt x 60) (cond (Nat.beq x 59) (some (.iconst 4, 60, 0, 4)) none) (cond (Nat.blt x 61) (cond (Nat.beq x 60) (some (.ireturn, 61, 0, 0)) none) (cond (Nat.beq x 61) (some (.aload_n 1, 62, 0, 0)) none)))) (cond (Nat.blt x 66) (cond (Nat.blt x 65) (cond (Nat.beq x 62) (some (.invokevirtual 211, 65, 0, 0)) none) (cond (Nat.beq x 65) (some (.aload_n 0, 66, 0, 0)) none)) (cond (Nat.blt x 67) (cond (Nat.beq x 66) (some (.aload_n 1, 67, 0, 0)) none) (cond (Nat.blt x 70) (cond (Nat.beq x 67) (some (.invokevirtual 159, 70, 0, 0)) none) (cond (Nat.beq x 70) (some (.ireturn, 71, 0, 0)) none))))))
def ep_X6_countShipsIn (x : Nat) : Option (Instr × Nat × Nat × Int32) := cond (Nat.blt x 25) (cond (Nat.blt x 9) (cond (Nat.blt x 3) (cond (Nat.blt x 1) (cond (Nat.beq x 0) (some (.iconst 0, 1, 0, 0)) none) (cond (Nat.blt x 2) (cond (Nat.beq x 1) (some (.istore_n 2, 2, 0, 0)) none) (cond (Nat.beq x 2) (some (.iconst 0, 3, 0, 0)) none))) (cond (Nat.blt x 5) (cond (Nat.blt x 4) (cond (Nat.beq x 3) (some (.istore_n 3, 4, 0, 0)) none) (cond (Nat.beq x 4) (some (.iload_n 3, 5, 0, 0)) none)) (cond (Nat.blt x 6) (cond (Nat.beq x 5) (some (.aload_n 0, 6, 0, 0)) none) (cond (Nat.beq x 6) (some (.getfield 45, 9, 0, 0)) none)))) (cond (Nat.blt x 17) (cond (Nat.blt x 13) (cond (Nat.blt x 12) (cond (Nat.beq x 9) (some (.if_icmp .ge 42, 12, 51, 0)) none) (cond (Nat.beq x 12) (some (.aload_n 0, 13, 0, 0)) none)) (cond (Nat.blt x 14) (cond (Nat.beq x 13) (some (.iload_n 3, 14, 0, 0)) none) (cond (Nat.beq x 14) (some (.invokevirtual 60, 17, 0, 0)) none))) (cond (Nat.blt x 20) (cond (Nat.blt x 19) (cond (Nat.beq x 17) (some (.astore 4, 19, 0, 0)) none) (cond (Nat.beq x 19) (some (.iload_n 2, 20, 0, 0)) none)) (cond (Nat.blt x 22) (cond (Nat.beq x 20) (some (.aload 4, 22, 0, 0)) none) (cond (Nat.beq x 22) (some (.getfield 64, 25, 0, 0)) none))))) (cond (Nat.blt x 39) (cond (Nat.blt x 31) (cond (Nat.blt x 26) (cond (Nat.beq x 25) (some (.iload_n 1, 26, 0, 0)) none) (cond (Nat.blt x 29) (cond (Nat.beq x 26) (some (.if_icmp .ne 16, 29, 42, 0)) none) (cond (Nat.beq x 29) (some (.aload 4, 31, 0, 0)) none))) (cond (Nat.blt x 35) (cond (Nat.blt x 34) (cond (Nat.beq x 31) (some (.getfield 156, 34, 0, 0)) none) (cond (Nat.beq x 34) (some (.iconst 3, 35, 0, 3)) none)) (cond (Nat.blt x 38) (cond (Nat.beq x 35) (some (.if_icmp .eq 7, 38, 42, 0)) none) (cond (Nat.beq x 38) (some (.iconst 1, 39, 0, 1)) none)))) (cond (Nat.blt x 45) (cond (Nat.blt x 43) (cond (Nat.blt x 42) (cond (Nat.beq x 39) (some (.goto 4, 42, 43, 0)) none) (cond (Nat.beq x 42) (some (.iconst 0, 43, 0, 0)) none)) (cond (Nat.blt x 44) (cond (Nat.beq x 43) (some (.iadd, 44, 0, 0)) none) (cond (Nat.beq x 44) (some (.istore_n 2, 45, 0, 0)) none))) (cond (Nat.blt x 51) (cond (Nat.blt x 48) (cond (Nat.beq x 45) (some (.iinc 3 1, 48, 0, 1)) none) (cond (Nat.beq x 48) (some (.goto (-44), 51, 4, 0)) none)) (cond (Nat.blt x 52) (cond (Nat.beq x 51) (some (.iload_n 2, 52, 0, 0)) none) (cond (Nat.beq x 52) (some (.ireturn, 53, 0, 0)) none)))))
def ep_X6_countLed (x : Nat) : Option (Instr × Nat × Nat × Int32) := cond (Nat.blt x 18) (cond (Nat.blt x 6) (cond (Nat.blt x 3) (cond (Nat.blt x 1) (cond (Nat.beq x 0) (some (.iconst 0, 1, 0, 0)) none) (cond (Nat.blt x 2) (cond (Nat.beq x 1) (some (.istore_n 2, 2, 0, 0)) none) (cond (Nat.beq x 2) (some (.iconst 0, 3, 0, 0)) none))) (cond (Nat.blt x 4) (cond (Nat.beq x 3) (some (.istore_n 3, 4, 0, 0)) none) (cond (Nat.blt x 5) (cond (Nat.beq x 4) (some (.iload_n 3, 5, 0, 0)) none) (cond (Nat.beq x 5) (some (.aload_n 0, 6, 0, 0)) none)))) (cond (Nat.blt x 13) (cond (Nat.blt x 9) (cond (Nat.beq x 6) (some (.getfield 45, 9, 0, 0)) none) (cond (Nat.blt x 12) (cond (Nat.beq x 9) (some (.if_icmp .ge 30, 12, 39, 0)) none) (cond (Nat.beq x 12) (some (.iload_n 2, 13, 0, 0)) none))) (cond (Nat.blt x 14) (cond (Nat.beq x 13) (some (.aload_n 0, 14, 0, 0)) none) (cond (Nat.blt x 15) (cond (Nat.beq x 14) (some (.iload_n 3, 15, 0, 0)) none) (cond (Nat.beq x 15) (some (.invokevirtual 60, 18, 0, 0)) none))))) (cond (Nat.blt x 30) (cond (Nat.blt x 23) (cond (Nat.blt x 19) (cond (Nat.beq x 18) (some (.iconst 1, 19, 0, 1)) none) (cond (Nat.blt x 20) (cond (Nat.beq x 19) (some (.iload_n 1, 20, 0, 0)) none) (cond (Nat.beq x 20) (some (.invokevirtual 217, 23, 0, 0)) none))) (cond (Nat.blt x 26) (cond (Nat.beq x 23) (some (.ifCond .eq 7, 26, 30, 0)) none) (cond (Nat.blt x 27) (cond (Nat.beq x 26) (some (.iconst 1, 27, 0, 1)) none) (cond (Nat.beq x 27) (some (.goto 4, 30, 31, 0)) none)))) (cond (Nat.blt x 33) (cond (Nat.blt x 31) (cond (Nat.beq x 30) (some (.iconst 0, 31, 0, 0)) none) (cond (Nat.blt x 32) (cond (Nat.beq x 31) (some (.iadd, 32, 0, 0)) none) (cond (Nat.beq x 32) (some (.istore_n 2, 33, 0, 0)) none))) (cond (Nat.blt x 39) (cond (Nat.blt x 36) (cond (Nat.beq x 33) (some (.iinc 3 1, 36, 0, 1)) none) (cond (Nat.beq x 36) (some (.goto (-32), 39, 4, 0)) none)) (cond (Nat.blt x 40) (cond (Nat.beq x 39) (some (.iload_n 2, 40, 0, 0)) none) (cond (Nat.beq x 40) (some (.ireturn, 41, 0, 0)) none)))))
def ep_X6_towedBy (x : Nat) : Option (Instr × Nat × Nat × Int32) := cond (Nat.blt x 15) (cond (Nat.blt x 4) (cond (Nat.blt x 2) (cond (Nat.blt x 1) (cond (Nat.beq x 0) (some (.iconst 0, 1, 0, 0)) none) (cond (Nat.beq x 1) (some (.istore_n 2, 2, 0, 0)) none)) (cond (Nat.blt x 3) (cond (Nat.beq x 2) (some (.iload_n 2, 3, 0, 0)) none) (cond (Nat.beq x 3) (some (.aload_n 0, 4, 0, 0)) none))) (cond (Nat.blt x 10) (cond (Nat.blt x 7) (cond (Nat.beq x 4) (some (.getfield 45, 7, 0, 0)) none) (cond (Nat.beq x 7) (some (.if_icmp .ge 24, 10, 31, 0)) none)) (cond (Nat.blt x 11) (cond (Nat.beq x 10) (some (.aload_n 0, 11, 0, 0)) none) (cond (Nat.blt x 12) (cond (Nat.beq x 11) (some (.iload_n 2, 12, 0, 0)) none) (cond (Nat.beq x 12) (some (.invokevirtual 60, 15, 0, 0)) none))))) (cond (Nat.blt x 24) (cond (Nat.blt x 17) (cond (Nat.blt x 16) (cond (Nat.beq x 15) (some (.iconst 2, 16, 0, 2)) none) (cond (Nat.beq x 16) (some (.iload_n 1, 17, 0, 0)) none)) (cond (Nat.blt x 20) (cond (Nat.beq x 17) (some (.invokevirtual 217, 20, 0, 0)) none) (cond (Nat.blt x 23) (cond (Nat.beq x 20) (some (.ifCond .eq 5, 23, 25, 0)) none) (cond (Nat.beq x 23) (some (.iload_n 2, 24, 0, 0)) none)))) (cond (Nat.blt x 28) (cond (Nat.blt x 25) (cond (Nat.beq x 24) (some (.ireturn, 25, 0, 0)) none) (cond (Nat.beq x 25) (some (.iinc 2 1, 28, 0, 1)) none)) (cond (Nat.blt x 31) (cond (Nat.beq x 28) (some (.goto (-26), 31, 2, 0)) none) (cond (Nat.blt x 32) (cond (Nat.beq x 31) (some (.iconst (-1), 32, 0, (-1))) none) (cond (Nat.beq x 32) (some (.ireturn, 33, 0, 0)) none)))))
def ep_X6_countArrived (x : Nat) : Option (Instr × Nat × Nat × Int32) := cond (Nat.blt x 18) (cond (Nat.blt x 6) (cond (Nat.blt x 3) (cond (Nat.blt x 1) (cond (Nat.beq x 0) (some (.iconst 0, 1, 0, 0)) none) (cond (Nat.blt x 2) (cond (Nat.beq x 1) (some (.istore_n 1, 2, 0, 0)) none) (cond (Nat.beq x 2) (some (.iconst 0, 3, 0, 0)) none))) (cond (Nat.blt x 4) (cond (Nat.beq x 3) (some (.istore_n 2, 4, 0, 0)) none) (cond (Nat.blt x 5) (cond (Nat.beq x 4) (some (.iload_n 2, 5, 0, 0)) none) (cond (Nat.beq x 5) (some (.aload_n 0, 6, 0, 0)) none)))) (cond (Nat.blt x 13) (cond (Nat.blt x 9) (cond (Nat.beq x 6) (some (.getfield 45, 9, 0, 0)) none) (cond (Nat.blt x 12) (cond (Nat.beq x 9) (some (.if_icmp .ge 29, 12, 38, 0)) none) (cond (Nat.beq x 12) (some (.iload_n 1, 13, 0, 0)) none))) (cond (Nat.blt x 14) (cond (Nat.beq x 13) (some (.aload_n 0, 14, 0, 0)) none) (cond (Nat.blt x 15) (cond (Nat.beq x 14) (some (.iload_n 2, 15, 0, 0)) none) (cond (Nat.beq x 15) (some (.invokevirtual 60, 18, 0, 0)) none))))) (cond (Nat.blt x 30) (cond (Nat.blt x 25) (cond (Nat.blt x 21) (cond (Nat.beq x 18) (some (.getfield 156, 21, 0, 0)) none) (cond (Nat.blt x 22) (cond (Nat.beq x 21) (some (.iconst 3, 22, 0, 3)) none) (cond (Nat.beq x 22) (some (.if_icmp .ne 7, 25, 29, 0)) none))) (cond (Nat.blt x 26) (cond (Nat.beq x 25) (some (.iconst 1, 26, 0, 1)) none) (cond (Nat.blt x 29) (cond (Nat.beq x 26) (some (.goto 4, 29, 30, 0)) none) (cond (Nat.beq x 29) (some (.iconst 0, 30, 0, 0)) none)))) (cond (Nat.blt x 35) (cond (Nat.blt x 31) (cond (Nat.beq x 30) (some (.iadd, 31, 0, 0)) none) (cond (Nat.blt x 32) (cond (Nat.beq x 31) (some (.istore_n 1, 32, 0, 0)) none) (cond (Nat.beq x 32) (some (.iinc 2 1, 35, 0, 1)) none))) (cond (Nat.blt x 38) (cond (Nat.beq x 35) (some (.goto (-31), 38, 4, 0)) none) (cond (Nat.blt x 39) (cond (Nat.beq x 38) (some (.iload_n 1, 39, 0, 0)) none) (cond (Nat.beq x 39) (some (.ireturn, 40, 0, 0)) none)))))
def ep_X6_allWaits (x : Nat) : Option (Instr × Nat × Nat × Int32) := cond (Nat.blt x 13) (cond (Nat.blt x 4) (cond (Nat.blt x 2) (cond (Nat.blt x 1) (cond (Nat.beq x 0) (some (.iconst 0, 1, 0, 0)) none) (cond (Nat.beq x 1) (some (.istore_n 1, 2, 0, 0)) none)) (cond (Nat.blt x 3) (cond (Nat.beq x 2) (some (.iconst 0, 3, 0, 0)) none) (cond (Nat.beq x 3) (some (.istore_n 2, 4, 0, 0)) none))) (cond (Nat.blt x 6) (cond (Nat.blt x 5) (cond (Nat.beq x 4) (some (.iload_n 2, 5, 0, 0)) none) (cond (Nat.beq x 5) (some (.aload_n 0, 6, 0, 0)) none)) (cond (Nat.blt x 9) (cond (Nat.beq x 6) (some (.getfield 45, 9, 0, 0)) none) (cond (Nat.blt x 12) (cond (Nat.beq x 9) (some (.if_icmp .ge 20, 12, 29, 0)) none) (cond (Nat.beq x 12) (some (.iload_n 1, 13, 0, 0)) none))))) (cond (Nat.blt x 22) (cond (Nat.blt x 15) (cond (Nat.blt x 14) (cond (Nat.beq x 13) (some (.aload_n 0, 14, 0, 0)) none) (cond (Nat.beq x 14) (some (.iload_n 2, 15, 0, 0)) none)) (cond (Nat.blt x 18) (cond (Nat.beq x 15) (some (.invokevirtual 60, 18, 0, 0)) none) (cond (Nat.blt x 21) (cond (Nat.beq x 18) (some (.invokevirtual 221, 21, 0, 0)) none) (cond (Nat.beq x 21) (some (.iadd, 22, 0, 0)) none)))) (cond (Nat.blt x 26) (cond (Nat.blt x 23) (cond (Nat.beq x 22) (some (.istore_n 1, 23, 0, 0)) none) (cond (Nat.beq x 23) (some (.iinc 2 1, 26, 0, 1)) none)) (cond (Nat.blt x 29) (cond (Nat.beq x 26) (some (.goto (-22), 29, 4, 0)) none) (cond (Nat.blt x 30) (cond (Nat.beq x 29) (some (.iload_n 1, 30, 0, 0)) none) (cond (Nat.beq x 30) (some (.ireturn, 31, 0, 0)) none)))))
def ep_X6_allDues (x : Nat) : Option (Instr × Nat × Nat × Int32) := cond (Nat.blt x 13) (cond (Nat.blt x 4) (cond (Nat.blt x 2) (cond (Nat.blt x 1) (cond (Nat.beq x 0) (some (.iconst 0, 1, 0, 0)) none) (cond (Nat.beq x 1) (some (.istore_n 1, 2, 0, 0)) none)) (cond (Nat.blt x 3) (cond (Nat.beq x 2) (some (.iconst 0, 3, 0, 0)) none) (cond (Nat.beq x 3) (some (.istore_n 2, 4, 0, 0)) none))) (cond (Nat.blt x 6) (cond (Nat.blt x 5) (cond (Nat.beq x 4) (some (.iload_n 2, 5, 0, 0)) none) (cond (Nat.beq x 5) (some (.aload_n 0, 6, 0, 0)) none)) (cond (Nat.blt x 9) (cond (Nat.beq x 6) (some (.getfield 45, 9, 0, 0)) none) (cond (Nat.blt x 12) (cond (Nat.beq x 9) (some (.if_icmp .ge 20, 12, 29, 0)) none) (cond (Nat.beq x 12) (some (.iload_n 1, 13, 0, 0)) none))))) (cond (Nat.blt x 22) (cond (Nat.blt x 15) (cond (Nat.blt x 14) (cond (Nat.beq x 13) (some (.aload_n 0, 14, 0, 0)) none) (cond (Nat.beq x 14) (some (.iload_n 2, 15, 0, 0)) none)) (cond (Nat.blt x 18) (cond (Nat.beq x 15) (some (.invokevirtual 60, 18, 0, 0)) none) (cond (Nat.blt x 21) (cond (Nat.beq x 18) (some (.getfield 224, 21, 0, 0)) none) (cond (Nat.beq x 21) (some (.iadd, 22, 0, 0)) none)))) (cond (Nat.blt x 26) (cond (Nat.blt x 23) (cond (Nat.beq x 22) (some (.istore_n 1, 23, 0, 0)) none) (cond (Nat.beq x 23) (some (.iinc 2 1, 26, 0, 1)) none)) (cond (Nat.blt x 29) (cond (Nat.beq x 26) (some (.goto (-22), 29, 4, 0)) none) (cond (Nat.blt x 30) (cond (Nat.beq x 29) (some (.iload_n 1, 30, 0, 0)) none) (cond (Nat.beq x 30) (some (.ireturn, 31, 0, 0)) none)))))
def ep_X6_allDamage (x : Nat) : Option (Instr × Nat × Nat × Int32) := cond (Nat.blt x 13) (cond (Nat.blt x 4) (cond (Nat.blt x 2) (cond (Nat.blt x 1) (cond (Nat.beq x 0) (some (.iconst 0, 1, 0, 0)) none) (cond (Nat.beq x 1) (some (.istore_n 1, 2, 0, 0)) none)) (cond (Nat.blt x 3) (cond (Nat.beq x 2) (some (.iconst 0, 3, 0, 0)) none) (cond (Nat.beq x 3) (some (.istore_n 2, 4, 0, 0)) none))) (cond (Nat.blt x 6) (cond (Nat.blt x 5) (cond (Nat.beq x 4) (some (.iload_n 2, 5, 0, 0)) none) (cond (Nat.beq x 5) (some (.aload_n 0, 6, 0, 0)) none)) (cond (Nat.blt x 9) (cond (Nat.beq x 6) (some (.getfield 45, 9, 0, 0)) none) (cond (Nat.blt x 12) (cond (Nat.beq x 9) (some (.if_icmp .ge 20, 12, 29, 0)) none) (cond (Nat.beq x 12) (some (.iload_n 1, 13, 0, 0)) none))))) (cond (Nat.blt x 22) (cond (Nat.blt x 15) (cond (Nat.blt x 14) (cond (Nat.beq x 13) (some (.aload_n 0, 14, 0, 0)) none) (cond (Nat.beq x 14) (some (.iload_n 2, 15, 0, 0)) none)) (cond (Nat.blt x 18) (cond (Nat.beq x 15) (some (.invokevirtual 60, 18, 0, 0)) none) (cond (Nat.blt x 21) (cond (Nat.beq x 18) (some (.getfield 188, 21, 0, 0)) none) (cond (Nat.beq x 21) (some (.iadd, 22, 0, 0)) none)))) (cond (Nat.blt x 26) (cond (Nat.blt x 23) (cond (Nat.beq x 22) (some (.istore_n 1, 23, 0, 0)) none) (cond (Nat.beq x 23) (some (.iinc 2 1, 26, 0, 1)) none)) (cond (Nat.blt x 29) (cond (Nat.beq x 26) (some (.goto (-22), 29, 4, 0)) none) (cond (Nat.blt x 30) (cond (Nat.beq x 29) (some (.iload_n 1, 30, 0, 0)) none) (cond (Nat.beq x 30) (some (.ireturn, 31, 0, 0)) none)))))
def ep_X6_allIce (x : Nat) : Option (Instr × Nat × Nat × Int32) := cond (Nat.blt x 14) (cond (Nat.blt x 5) (cond (Nat.blt x 2) (cond (Nat.blt x 1) (cond (Nat.beq x 0) (some (.iconst 0, 1, 0, 0)) none) (cond (Nat.beq x 1) (some (.istore_n 1, 2, 0, 0)) none)) (cond (Nat.blt x 3) (cond (Nat.beq x 2) (some (.iconst 0, 3, 0, 0)) none) (cond (Nat.blt x 4) (cond (Nat.beq x 3) (some (.istore_n 2, 4, 0, 0)) none) (cond (Nat.beq x 4) (some (.iload_n 2, 5, 0, 0)) none)))) (cond (Nat.blt x 9) (cond (Nat.blt x 6) (cond (Nat.beq x 5) (some (.aload_n 0, 6, 0, 0)) none) (cond (Nat.beq x 6) (some (.getfield 11, 9, 0, 0)) none)) (cond (Nat.blt x 10) (cond (Nat.beq x 9) (some (.arraylength, 10, 0, 0)) none) (cond (Nat.blt x 13) (cond (Nat.beq x 10) (some (.if_icmp .ge 21, 13, 31, 0)) none) (cond (Nat.beq x 13) (some (.iload_n 1, 14, 0, 0)) none))))) (cond (Nat.blt x 23) (cond (Nat.blt x 18) (cond (Nat.blt x 15) (cond (Nat.beq x 14) (some (.aload_n 0, 15, 0, 0)) none) (cond (Nat.beq x 15) (some (.getfield 11, 18, 0, 0)) none)) (cond (Nat.blt x 19) (cond (Nat.beq x 18) (some (.iload_n 2, 19, 0, 0)) none) (cond (Nat.blt x 20) (cond (Nat.beq x 19) (some (.aaload, 20, 0, 0)) none) (cond (Nat.beq x 20) (some (.getfield 140, 23, 0, 0)) none)))) (cond (Nat.blt x 28) (cond (Nat.blt x 24) (cond (Nat.beq x 23) (some (.iadd, 24, 0, 0)) none) (cond (Nat.blt x 25) (cond (Nat.beq x 24) (some (.istore_n 1, 25, 0, 0)) none) (cond (Nat.beq x 25) (some (.iinc 2 1, 28, 0, 1)) none))) (cond (Nat.blt x 31) (cond (Nat.beq x 28) (some (.goto (-24), 31, 4, 0)) none) (cond (Nat.blt x 32) (cond (Nat.beq x 31) (some (.iload_n 1, 32, 0, 0)) none) (cond (Nat.beq x 32) (some (.ireturn, 33, 0, 0)) none)))))
def ep_X6_countChannels (x : Nat) : Option (Instr × Nat × Nat × Int32) := cond (Nat.blt x 18) (cond (Nat.blt x 6) (cond (Nat.blt x 3) (cond (Nat.blt x 1) (cond (Nat.beq x 0) (some (.iconst 0, 1, 0, 0)) none) (cond (Nat.blt x 2) (cond (Nat.beq x 1) (some (.istore_n 1, 2, 0, 0)) none) (cond (Nat.beq x 2) (some (.iconst 0, 3, 0, 0)) none))) (cond (Nat.blt x 4) (cond (Nat.beq x 3) (some (.istore_n 2, 4, 0, 0)) none) (cond (Nat.blt x 5) (cond (Nat.beq x 4) (some (.iload_n 2, 5, 0, 0)) none) (cond (Nat.beq x 5) (some (.aload_n 0, 6, 0, 0)) none)))) (cond (Nat.blt x 13) (cond (Nat.blt x 9) (cond (Nat.beq x 6) (some (.getfield 11, 9, 0, 0)) none) (cond (Nat.blt x 10) (cond (Nat.beq x 9) (some (.arraylength, 10, 0, 0)) none) (cond (Nat.beq x 10) (some (.if_icmp .ge 29, 13, 39, 0)) none))) (cond (Nat.blt x 14) (cond (Nat.beq x 13) (some (.iload_n 1, 14, 0, 0)) none) (cond (Nat.blt x 15) (cond (Nat.beq x 14) (some (.aload_n 0, 15, 0, 0)) none) (cond (Nat.beq x 15) (some (.getfield 11, 18, 0, 0)) none))))) (cond (Nat.blt x 30) (cond (Nat.blt x 23) (cond (Nat.blt x 19) (cond (Nat.beq x 18) (some (.iload_n 2, 19, 0, 0)) none) (cond (Nat.blt x 20) (cond (Nat.beq x 19) (some (.aaload, 20, 0, 0)) none) (cond (Nat.beq x 20) (some (.getfield 153, 23, 0, 0)) none))) (cond (Nat.blt x 26) (cond (Nat.beq x 23) (some (.ifCond .le 7, 26, 30, 0)) none) (cond (Nat.blt x 27) (cond (Nat.beq x 26) (some (.iconst 1, 27, 0, 1)) none) (cond (Nat.beq x 27) (some (.goto 4, 30, 31, 0)) none)))) (cond (Nat.blt x 33) (cond (Nat.blt x 31) (cond (Nat.beq x 30) (some (.iconst 0, 31, 0, 0)) none) (cond (Nat.blt x 32) (cond (Nat.beq x 31) (some (.iadd, 32, 0, 0)) none) (cond (Nat.beq x 32) (some (.istore_n 1, 33, 0, 0)) none))) (cond (Nat.blt x 39) (cond (Nat.blt x 36) (cond (Nat.beq x 33) (some (.iinc 2 1, 36, 0, 1)) none) (cond (Nat.beq x 36) (some (.goto (-32), 39, 4, 0)) none)) (cond (Nat.blt x 40) (cond (Nat.beq x 39) (some (.iload_n 1, 40, 0, 0)) none) (cond (Nat.beq x 40) (some (.ireturn, 41, 0, 0)) none)))))
def ep_X6_copyFrom (x : Nat) : Option (Instr × Nat × Nat × Int32) := cond (Nat.blt x 60) (cond (Nat.blt x 32) (cond (Nat.blt x 16) (cond (Nat.blt x 8) (cond (Nat.blt x 2) (cond (Nat.blt x 1) (cond (Nat.beq x 0) (some (.aload_n 0, 1, 0, 0)) none) (cond (Nat.beq x 1) (some (.aload_n 1, 2, 0, 0)) none)) (cond (Nat.blt x 5) (cond (Nat.beq x 2) (some (.getfield 75, 5, 0, 0)) none) (cond (Nat.beq x 5) (some (.putfield 75, 8, 0, 0)) none))) (cond (Nat.blt x 10) (cond (Nat.blt x 9) (cond (Nat.beq x 8) (some (.aload_n 0, 9, 0, 0)) none) (cond (Nat.beq x 9) (some (.aload_n 1, 10, 0, 0)) none)) (cond (Nat.blt x 13) (cond (Nat.beq x 10) (some (.getfield 81, 13, 0, 0)) none) (cond (Nat.beq x 13) (some (.putfield 81, 16, 0, 0)) none)))) (cond (Nat.blt x 24) (cond (Nat.blt x 18) (cond (Nat.blt x 17) (cond (Nat.beq x 16) (some (.aload_n 0, 17, 0, 0)) none) (cond (Nat.beq x 17) (some (.aload_n 1, 18, 0, 0)) none)) (cond (Nat.blt x 21) (cond (Nat.beq x 18) (some (.getfield 39, 21, 0, 0)) none) (cond (Nat.beq x 21) (some (.putfield 39, 24, 0, 0)) none))) (cond (Nat.blt x 26) (cond (Nat.blt x 25) (cond (Nat.beq x 24) (some (.aload_n 0, 25, 0, 0)) none) (cond (Nat.beq x 25) (some (.aload_n 1, 26, 0, 0)) none)) (cond (Nat.blt x 29) (cond (Nat.beq x 26) (some (.getfield 45, 29, 0, 0)) none) (cond (Nat.beq x 29) (some (.putfield 45, 32, 0, 0)) none))))) (cond (Nat.blt x 44) (cond (Nat.blt x 36) (cond (Nat.blt x 34) (cond (Nat.blt x 33) (cond (Nat.beq x 32) (some (.iconst 0, 33, 0, 0)) none) (cond (Nat.beq x 33) (some (.istore_n 2, 34, 0, 0)) none)) (cond (Nat.blt x 35) (cond (Nat.beq x 34) (some (.iload_n 2, 35, 0, 0)) none) (cond (Nat.beq x 35) (some (.aload_n 0, 36, 0, 0)) none))) (cond (Nat.blt x 40) (cond (Nat.blt x 39) (cond (Nat.beq x 36) (some (.getfield 11, 39, 0, 0)) none) (cond (Nat.beq x 39) (some (.arraylength, 40, 0, 0)) none)) (cond (Nat.blt x 43) (cond (Nat.beq x 40) (some (.if_icmp .ge 23, 43, 63, 0)) none) (cond (Nat.beq x 43) (some (.aload_n 0, 44, 0, 0)) none)))) (cond (Nat.blt x 50) (cond (Nat.blt x 48) (cond (Nat.blt x 47) (cond (Nat.beq x 44) (some (.getfield 11, 47, 0, 0)) none) (cond (Nat.beq x 47) (some (.iload_n 2, 48, 0, 0)) none)) (cond (Nat.blt x 49) (cond (Nat.beq x 48) (some (.aaload, 49, 0, 0)) none) (cond (Nat.beq x 49) (some (.aload_n 1, 50, 0, 0)) none))) (cond (Nat.blt x 54) (cond (Nat.blt x 51) (cond (Nat.beq x 50) (some (.iload_n 2, 51, 0, 0)) none) (cond (Nat.beq x 51) (some (.invokevirtual 103, 54, 0, 0)) none)) (cond (Nat.blt x 57) (cond (Nat.beq x 54) (some (.invokevirtual 227, 57, 0, 0)) none) (cond (Nat.beq x 57) (some (.iinc 2 1, 60, 0, 1)) none)))))) (cond (Nat.blt x 92) (cond (Nat.blt x 74) (cond (Nat.blt x 66) (cond (Nat.blt x 64) (cond (Nat.blt x 63) (cond (Nat.beq x 60) (some (.goto (-26), 63, 34, 0)) none) (cond (Nat.beq x 63) (some (.iconst 0, 64, 0, 0)) none)) (cond (Nat.blt x 65) (cond (Nat.beq x 64) (some (.istore_n 2, 65, 0, 0)) none) (cond (Nat.beq x 65) (some (.iload_n 2, 66, 0, 0)) none))) (cond (Nat.blt x 70) (cond (Nat.blt x 67) (cond (Nat.beq x 66) (some (.aload_n 0, 67, 0, 0)) none) (cond (Nat.beq x 67) (some (.getfield 39, 70, 0, 0)) none)) (cond (Nat.blt x 73) (cond (Nat.beq x 70) (some (.if_icmp .ge 22, 73, 92, 0)) none) (cond (Nat.beq x 73) (some (.aload_n 0, 74, 0, 0)) none)))) (cond (Nat.blt x 80) (cond (Nat.blt x 78) (cond (Nat.blt x 75) (cond (Nat.beq x 74) (some (.iload_n 2, 75, 0, 0)) none) (cond (Nat.beq x 75) (some (.invokevirtual 50, 78, 0, 0)) none)) (cond (Nat.blt x 79) (cond (Nat.beq x 78) (some (.aload_n 1, 79, 0, 0)) none) (cond (Nat.beq x 79) (some (.iload_n 2, 80, 0, 0)) none))) (cond (Nat.blt x 86) (cond (Nat.blt x 83) (cond (Nat.beq x 80) (some (.invokevirtual 50, 83, 0, 0)) none) (cond (Nat.beq x 83) (some (.invokevirtual 230, 86, 0, 0)) none)) (cond (Nat.blt x 89) (cond (Nat.beq x 86) (some (.iinc 2 1, 89, 0, 1)) none) (cond (Nat.beq x 89) (some (.goto (-24), 92, 65, 0)) none))))) (cond (Nat.blt x 104) (cond (Nat.blt x 96) (cond (Nat.blt x 94) (cond (Nat.blt x 93) (cond (Nat.beq x 92) (some (.iconst 0, 93, 0, 0)) none) (cond (Nat.beq x 93) (some (.istore_n 2, 94, 0, 0)) none)) (cond (Nat.blt x 95) (cond (Nat.beq x 94) (some (.iload_n 2, 95, 0, 0)) none) (cond (Nat.beq x 95) (some (.aload_n 0, 96, 0, 0)) none))) (cond (Nat.blt x 102) (cond (Nat.blt x 99) (cond (Nat.beq x 96) (some (.getfield 45, 99, 0, 0)) none) (cond (Nat.beq x 99) (some (.if_icmp .ge 22, 102, 121, 0)) none)) (cond (Nat.blt x 103) (cond (Nat.beq x 102) (some (.aload_n 0, 103, 0, 0)) none) (cond (Nat.beq x 103) (some (.iload_n 2, 104, 0, 0)) none)))) (cond (Nat.blt x 112) (cond (Nat.blt x 108) (cond (Nat.blt x 107) (cond (Nat.beq x 104) (some (.invokevirtual 60, 107, 0, 0)) none) (cond (Nat.beq x 107) (some (.aload_n 1, 108, 0, 0)) none)) (cond (Nat.blt x 109) (cond (Nat.beq x 108) (some (.iload_n 2, 109, 0, 0)) none) (cond (Nat.beq x 109) (some (.invokevirtual 60, 112, 0, 0)) none))) (cond (Nat.blt x 118) (cond (Nat.blt x 115) (cond (Nat.beq x 112) (some (.invokevirtual 232, 115, 0, 0)) none) (cond (Nat.beq x 115) (some (.iinc 2 1, 118, 0, 1)) none)) (cond (Nat.blt x 121) (cond (Nat.beq x 118) (some (.goto (-24), 121, 94, 0)) none) (cond (Nat.beq x 121) (some (.return_, 122, 0, 0)) none))))))
def ep_X7_init (x : Nat) : Option (Instr × Nat × Nat × Int32) := cond (Nat.blt x 19) (cond (Nat.blt x 9) (cond (Nat.blt x 4) (cond (Nat.blt x 1) (cond (Nat.beq x 0) (some (.aload_n 0, 1, 0, 0)) none) (cond (Nat.beq x 1) (some (.invokespecial 3, 4, 0, 0)) none)) (cond (Nat.blt x 5) (cond (Nat.beq x 4) (some (.aload_n 0, 5, 0, 0)) none) (cond (Nat.blt x 8) (cond (Nat.beq x 5) (some (.new 9, 8, 0, 0)) none) (cond (Nat.beq x 8) (some (.dup, 9, 0, 0)) none)))) (cond (Nat.blt x 15) (cond (Nat.blt x 12) (cond (Nat.beq x 9) (some (.invokespecial 11, 12, 0, 0)) none) (cond (Nat.beq x 12) (some (.putfield 12, 15, 0, 0)) none)) (cond (Nat.blt x 16) (cond (Nat.beq x 15) (some (.aload_n 0, 16, 0, 0)) none) (cond (Nat.blt x 17) (cond (Nat.beq x 16) (some (.iconst 5, 17, 0, 5)) none) (cond (Nat.beq x 17) (some (.newarray .int, 19, 0, 0)) none))))) (cond (Nat.blt x 28) (cond (Nat.blt x 23) (cond (Nat.blt x 22) (cond (Nat.beq x 19) (some (.putfield 18, 22, 0, 0)) none) (cond (Nat.beq x 22) (some (.aload_n 0, 23, 0, 0)) none)) (cond (Nat.blt x 24) (cond (Nat.beq x 23) (some (.iconst 0, 24, 0, 0)) none) (cond (Nat.blt x 27) (cond (Nat.beq x 24) (some (.putfield 22, 27, 0, 0)) none) (cond (Nat.beq x 27) (some (.aload_n 0, 28, 0, 0)) none)))) (cond (Nat.blt x 33) (cond (Nat.blt x 29) (cond (Nat.beq x 28) (some (.iconst (-1), 29, 0, (-1))) none) (cond (Nat.blt x 32) (cond (Nat.beq x 29) (some (.putfield 26, 32, 0, 0)) none) (cond (Nat.beq x 32) (some (.aload_n 0, 33, 0, 0)) none))) (cond (Nat.blt x 34) (cond (Nat.beq x 33) (some (.iconst (-1), 34, 0, (-1))) none) (cond (Nat.blt x 37) (cond (Nat.beq x 34) (some (.putfield 29, 37, 0, 0)) none) (cond (Nat.beq x 37) (some (.return_, 38, 0, 0)) none)))))
def ep_X7_setClass (x : Nat) : Option (Instr × Nat × Nat × Int32) := cond (Nat.blt x 51) (cond (Nat.blt x 37) (cond (Nat.blt x 5) (cond (Nat.blt x 1) (cond (Nat.beq x 0) (some (.aload_n 0, 1, 0, 0)) none) (cond (Nat.blt x 2) (cond (Nat.beq x 1) (some (.iload_n 1, 2, 0, 0)) none) (cond (Nat.beq x 2) (some (.putfield 32, 5, 0, 0)) none))) (cond (Nat.blt x 6) (cond (Nat.beq x 5) (some (.iload_n 1, 6, 0, 0)) none) (cond (Nat.blt x 36) (cond (Nat.beq x 6) (some (.tableswitch 66 0 3 #[30, 39, 48, 57], 36, 0, 0)) none) (cond (Nat.beq x 36) (some (.aload_n 0, 37, 0, 0)) none)))) (cond (Nat.blt x 45) (cond (Nat.blt x 39) (cond (Nat.beq x 37) (some (.bipush 10, 39, 0, 10)) none) (cond (Nat.blt x 42) (cond (Nat.beq x 39) (some (.putfield 35, 42, 0, 0)) none) (cond (Nat.beq x 42) (some (.goto 36, 45, 78, 0)) none))) (cond (Nat.blt x 46) (cond (Nat.beq x 45) (some (.aload_n 0, 46, 0, 0)) none) (cond (Nat.blt x 48) (cond (Nat.beq x 46) (some (.bipush 30, 48, 0, 30)) none) (cond (Nat.beq x 48) (some (.putfield 35, 51, 0, 0)) none))))) (cond (Nat.blt x 64) (cond (Nat.blt x 57) (cond (Nat.blt x 54) (cond (Nat.beq x 51) (some (.goto 27, 54, 78, 0)) none) (cond (Nat.blt x 55) (cond (Nat.beq x 54) (some (.aload_n 0, 55, 0, 0)) none) (cond (Nat.beq x 55) (some (.bipush 50, 57, 0, 50)) none))) (cond (Nat.blt x 60) (cond (Nat.beq x 57) (some (.putfield 35, 60, 0, 0)) none) (cond (Nat.blt x 63) (cond (Nat.beq x 60) (some (.goto 18, 63, 78, 0)) none) (cond (Nat.beq x 63) (some (.aload_n 0, 64, 0, 0)) none)))) (cond (Nat.blt x 72) (cond (Nat.blt x 66) (cond (Nat.beq x 64) (some (.bipush 80, 66, 0, 80)) none) (cond (Nat.blt x 69) (cond (Nat.beq x 66) (some (.putfield 35, 69, 0, 0)) none) (cond (Nat.beq x 69) (some (.goto 9, 72, 78, 0)) none))) (cond (Nat.blt x 75) (cond (Nat.blt x 73) (cond (Nat.beq x 72) (some (.aload_n 0, 73, 0, 0)) none) (cond (Nat.beq x 73) (some (.bipush 120, 75, 0, 120)) none)) (cond (Nat.blt x 78) (cond (Nat.beq x 75) (some (.putfield 35, 78, 0, 0)) none) (cond (Nat.beq x 78) (some (.return_, 79, 0, 0)) none)))))
def ep_X7_hindrance (x : Nat) : Option (Instr × Nat × Nat × Int32) := cond (Nat.blt x 16) (cond (Nat.blt x 7) (cond (Nat.blt x 4) (cond (Nat.blt x 1) (cond (Nat.beq x 0) (some (.iload_n 2, 1, 0, 0)) none) (cond (Nat.beq x 1) (some (.ifCond .eq 16, 4, 17, 0)) none)) (cond (Nat.blt x 5) (cond (Nat.beq x 4) (some (.iload_n 1, 5, 0, 0)) none) (cond (Nat.beq x 5) (some (.bipush 10, 7, 0, 10)) none))) (cond (Nat.blt x 11) (cond (Nat.blt x 8) (cond (Nat.beq x 7) (some (.aload_n 0, 8, 0, 0)) none) (cond (Nat.beq x 8) (some (.getfield 38, 11, 0, 0)) none)) (cond (Nat.blt x 12) (cond (Nat.beq x 11) (some (.imul, 12, 0, 0)) none) (cond (Nat.blt x 15) (cond (Nat.beq x 12) (some (.if_icmp .le 5, 15, 17, 0)) none) (cond (Nat.beq x 15) (some (.iconst 1, 16, 0, 1)) none))))) (cond (Nat.blt x 22) (cond (Nat.blt x 18) (cond (Nat.blt x 17) (cond (Nat.beq x 16) (some (.ireturn, 17, 0, 0)) none) (cond (Nat.beq x 17) (some (.iload_n 1, 18, 0, 0)) none)) (cond (Nat.blt x 19) (cond (Nat.beq x 18) (some (.aload_n 0, 19, 0, 0)) none) (cond (Nat.beq x 19) (some (.getfield 35, 22, 0, 0)) none))) (cond (Nat.blt x 26) (cond (Nat.blt x 25) (cond (Nat.beq x 22) (some (.if_icmp .le 7, 25, 29, 0)) none) (cond (Nat.beq x 25) (some (.iconst 2, 26, 0, 2)) none)) (cond (Nat.blt x 29) (cond (Nat.beq x 26) (some (.goto 4, 29, 30, 0)) none) (cond (Nat.blt x 30) (cond (Nat.beq x 29) (some (.iconst (-1), 30, 0, (-1))) none) (cond (Nat.beq x 30) (some (.ireturn, 31, 0, 0)) none)))))
def ep_X7_isBound (x : Nat) : Option (Instr × Nat × Nat × Int32) := cond (Nat.blt x 12) (cond (Nat.blt x 5) (cond (Nat.blt x 1) (cond (Nat.beq x 0) (some (.aload_n 0, 1, 0, 0)) none) (cond (Nat.blt x 4) (cond (Nat.beq x 1) (some (.getfield 22, 4, 0, 0)) none) (cond (Nat.beq x 4) (some (.iload_n 1, 5, 0, 0)) none))) (cond (Nat.blt x 8) (cond (Nat.beq x 5) (some (.if_icmp .ne 15, 8, 20, 0)) none) (cond (Nat.blt x 9) (cond (Nat.beq x 8) (some (.aload_n 0, 9, 0, 0)) none) (cond (Nat.beq x 9) (some (.getfield 26, 12, 0, 0)) none)))) (cond (Nat.blt x 17) (cond (Nat.blt x 13) (cond (Nat.beq x 12) (some (.iload_n 2, 13, 0, 0)) none) (cond (Nat.blt x 16) (cond (Nat.beq x 13) (some (.if_icmp .ne 7, 16, 20, 0)) none) (cond (Nat.beq x 16) (some (.iconst 1, 17, 0, 1)) none))) (cond (Nat.blt x 20) (cond (Nat.beq x 17) (some (.goto 4, 20, 21, 0)) none) (cond (Nat.blt x 21) (cond (Nat.beq x 20) (some (.iconst 0, 21, 0, 0)) none) (cond (Nat.beq x 21) (some (.ireturn, 22, 0, 0)) none))))
def ep_X7_bind (x : Nat) : Option (Instr × Nat × Nat × Int32) := cond (Nat.blt x 5) (cond (Nat.blt x 1) (cond (Nat.beq x 0) (some (.aload_n 0, 1, 0, 0)) none) (cond (Nat.blt x 2) (cond (Nat.beq x 1) (some (.iload_n 1, 2, 0, 0)) none) (cond (Nat.beq x 2) (some (.putfield 22, 5, 0, 0)) none))) (cond (Nat.blt x 7) (cond (Nat.blt x 6) (cond (Nat.beq x 5) (some (.aload_n 0, 6, 0, 0)) none) (cond (Nat.beq x 6) (some (.iload_n 2, 7, 0, 0)) none)) (cond (Nat.blt x 10) (cond (Nat.beq x 7) (some (.putfield 26, 10, 0, 0)) none) (cond (Nat.beq x 10) (some (.return_, 11, 0, 0)) none)))
def ep_X7_setFree (x : Nat) : Option (Instr × Nat × Nat × Int32) := cond (Nat.blt x 5) (cond (Nat.blt x 1) (cond (Nat.beq x 0) (some (.aload_n 0, 1, 0, 0)) none) (cond (Nat.blt x 2) (cond (Nat.beq x 1) (some (.iconst 0, 2, 0, 0)) none) (cond (Nat.beq x 2) (some (.putfield 22, 5, 0, 0)) none))) (cond (Nat.blt x 7) (cond (Nat.blt x 6) (cond (Nat.beq x 5) (some (.aload_n 0, 6, 0, 0)) none) (cond (Nat.beq x 6) (some (.iconst (-1), 7, 0, (-1))) none)) (cond (Nat.blt x 10) (cond (Nat.beq x 7) (some (.putfield 26, 10, 0, 0)) none) (cond (Nat.beq x 10) (some (.return_, 11, 0, 0)) none)))
def ep_X7_follow (x : Nat) : Option (Instr × Nat × Nat × Int32) := cond (Nat.blt x 31) (cond (Nat.blt x 15) (cond (Nat.blt x 6) (cond (Nat.blt x 2) (cond (Nat.blt x 1) (cond (Nat.beq x 0) (some (.aload_n 0, 1, 0, 0)) none) (cond (Nat.beq x 1) (some (.iload_n 2, 2, 0, 0)) none)) (cond (Nat.blt x 3) (cond (Nat.beq x 2) (some (.aload_n 0, 3, 0, 0)) none) (cond (Nat.beq x 3) (some (.getfield 22, 6, 0, 0)) none))) (cond (Nat.blt x 10) (cond (Nat.blt x 7) (cond (Nat.beq x 6) (some (.iconst 2, 7, 0, 2)) none) (cond (Nat.beq x 7) (some (.if_icmp .eq 7, 10, 14, 0)) none)) (cond (Nat.blt x 11) (cond (Nat.beq x 10) (some (.iconst 1, 11, 0, 1)) none) (cond (Nat.blt x 14) (cond (Nat.beq x 11) (some (.goto 4, 14, 15, 0)) none) (cond (Nat.beq x 14) (some (.iconst 0, 15, 0, 0)) none))))) (cond (Nat.blt x 24) (cond (Nat.blt x 19) (cond (Nat.blt x 18) (cond (Nat.beq x 15) (some (.invokevirtual 41, 18, 0, 0)) none) (cond (Nat.beq x 18) (some (.istore_n 3, 19, 0, 0)) none)) (cond (Nat.blt x 20) (cond (Nat.beq x 19) (some (.iload_n 3, 20, 0, 0)) none) (cond (Nat.blt x 21) (cond (Nat.beq x 20) (some (.iconst (-1), 21, 0, (-1))) none) (cond (Nat.beq x 21) (some (.if_icmp .eq 9, 24, 30, 0)) none)))) (cond (Nat.blt x 28) (cond (Nat.blt x 25) (cond (Nat.beq x 24) (some (.aload_n 0, 25, 0, 0)) none) (cond (Nat.beq x 25) (some (.invokevirtual 45, 28, 0, 0)) none)) (cond (Nat.blt x 29) (cond (Nat.beq x 28) (some (.iload_n 3, 29, 0, 0)) none) (cond (Nat.blt x 30) (cond (Nat.beq x 29) (some (.ireturn, 30, 0, 0)) none) (cond (Nat.beq x 30) (some (.aload_n 0, 31, 0, 0)) none)))))) (cond (Nat.blt x 49) (cond (Nat.blt x 42) (cond (Nat.blt x 35) (cond (Nat.blt x 32) (cond (Nat.beq x 31) (some (.iload_n 1, 32, 0, 0)) none) (cond (Nat.beq x 32) (some (.putfield 48, 35, 0, 0)) none)) (cond (Nat.blt x 36) (cond (Nat.beq x 35) (some (.aload_n 0, 36, 0, 0)) none) (cond (Nat.blt x 39) (cond (Nat.beq x 36) (some (.getfield 12, 39, 0, 0)) none) (cond (Nat.beq x 39) (some (.invokevirtual 51, 42, 0, 0)) none)))) (cond (Nat.blt x 44) (cond (Nat.blt x 43) (cond (Nat.beq x 42) (some (.pop, 43, 0, 0)) none) (cond (Nat.beq x 43) (some (.aload_n 0, 44, 0, 0)) none)) (cond (Nat.blt x 45) (cond (Nat.beq x 44) (some (.dup, 45, 0, 0)) none) (cond (Nat.blt x 48) (cond (Nat.beq x 45) (some (.getfield 55, 48, 0, 0)) none) (cond (Nat.beq x 48) (some (.aload_n 0, 49, 0, 0)) none))))) (cond (Nat.blt x 61) (cond (Nat.blt x 53) (cond (Nat.blt x 52) (cond (Nat.beq x 49) (some (.getfield 22, 52, 0, 0)) none) (cond (Nat.beq x 52) (some (.iconst 2, 53, 0, 2)) none)) (cond (Nat.blt x 56) (cond (Nat.beq x 53) (some (.if_icmp .ne 8, 56, 61, 0)) none) (cond (Nat.blt x 58) (cond (Nat.beq x 56) (some (.bipush 9, 58, 0, 9)) none) (cond (Nat.beq x 58) (some (.goto 4, 61, 62, 0)) none)))) (cond (Nat.blt x 63) (cond (Nat.blt x 62) (cond (Nat.beq x 61) (some (.iconst 4, 62, 0, 4)) none) (cond (Nat.beq x 62) (some (.iadd, 63, 0, 0)) none)) (cond (Nat.blt x 66) (cond (Nat.beq x 63) (some (.putfield 55, 66, 0, 0)) none) (cond (Nat.blt x 67) (cond (Nat.beq x 66) (some (.iconst (-1), 67, 0, (-1))) none) (cond (Nat.beq x 67) (some (.ireturn, 68, 0, 0)) none))))))
def ep_X7_arrive (x : Nat) : Option (Instr × Nat × Nat × Int32) := cond (Nat.blt x 10) (cond (Nat.blt x 3) (cond (Nat.blt x 1) (cond (Nat.beq x 0) (some (.aload_n 0, 1, 0, 0)) none) (cond (Nat.blt x 2) (cond (Nat.beq x 1) (some (.iconst 3, 2, 0, 3)) none) (cond (Nat.beq x 2) (some (.iconst (-1), 3, 0, (-1))) none))) (cond (Nat.blt x 6) (cond (Nat.beq x 3) (some (.invokevirtual 58, 6, 0, 0)) none) (cond (Nat.blt x 7) (cond (Nat.beq x 6) (some (.aload_n 0, 7, 0, 0)) none) (cond (Nat.beq x 7) (some (.getfield 12, 10, 0, 0)) none)))) (cond (Nat.blt x 15) (cond (Nat.blt x 13) (cond (Nat.beq x 10) (some (.invokevirtual 51, 13, 0, 0)) none) (cond (Nat.blt x 14) (cond (Nat.beq x 13) (some (.pop, 14, 0, 0)) none) (cond (Nat.beq x 14) (some (.aload_n 0, 15, 0, 0)) none))) (cond (Nat.blt x 16) (cond (Nat.beq x 15) (some (.iload_n 1, 16, 0, 0)) none) (cond (Nat.blt x 19) (cond (Nat.beq x 16) (some (.putfield 29, 19, 0, 0)) none) (cond (Nat.beq x 19) (some (.return_, 20, 0, 0)) none))))
def ep_X7_countWait (x : Nat) : Option (Instr × Nat × Nat × Int32) := cond (Nat.blt x 14) (cond (Nat.blt x 6) (cond (Nat.blt x 4) (cond (Nat.blt x 1) (cond (Nat.beq x 0) (some (.iload_n 1, 1, 0, 0)) none) (cond (Nat.beq x 1) (some (.ifCond .lt 22, 4, 23, 0)) none)) (cond (Nat.blt x 5) (cond (Nat.beq x 4) (some (.iload_n 1, 5, 0, 0)) none) (cond (Nat.beq x 5) (some (.aload_n 0, 6, 0, 0)) none))) (cond (Nat.blt x 10) (cond (Nat.blt x 9) (cond (Nat.beq x 6) (some (.getfield 18, 9, 0, 0)) none) (cond (Nat.beq x 9) (some (.arraylength, 10, 0, 0)) none)) (cond (Nat.blt x 13) (cond (Nat.beq x 10) (some (.if_icmp .ge 13, 13, 23, 0)) none) (cond (Nat.beq x 13) (some (.aload_n 0, 14, 0, 0)) none)))) (cond (Nat.blt x 20) (cond (Nat.blt x 18) (cond (Nat.blt x 17) (cond (Nat.beq x 14) (some (.getfield 18, 17, 0, 0)) none) (cond (Nat.beq x 17) (some (.iload_n 1, 18, 0, 0)) none)) (cond (Nat.blt x 19) (cond (Nat.beq x 18) (some (.dup2, 19, 0, 0)) none) (cond (Nat.beq x 19) (some (.iaload, 20, 0, 0)) none))) (cond (Nat.blt x 22) (cond (Nat.blt x 21) (cond (Nat.beq x 20) (some (.iconst 1, 21, 0, 1)) none) (cond (Nat.beq x 21) (some (.iadd, 22, 0, 0)) none)) (cond (Nat.blt x 23) (cond (Nat.beq x 22) (some (.iastore, 23, 0, 0)) none) (cond (Nat.beq x 23) (some (.return_, 24, 0, 0)) none))))
def ep_X7_waitsBy (x : Nat) : Option (Instr × Nat × Nat × Int32) := cond (Nat.blt x 13) (cond (Nat.blt x 5) (cond (Nat.blt x 1) (cond (Nat.beq x 0) (some (.iload_n 1, 1, 0, 0)) none) (cond (Nat.blt x 4) (cond (Nat.beq x 1) (some (.ifCond .lt 21, 4, 22, 0)) none) (cond (Nat.beq x 4) (some (.iload_n 1, 5, 0, 0)) none))) (cond (Nat.blt x 9) (cond (Nat.blt x 6) (cond (Nat.beq x 5) (some (.aload_n 0, 6, 0, 0)) none) (cond (Nat.beq x 6) (some (.getfield 18, 9, 0, 0)) none)) (cond (Nat.blt x 10) (cond (Nat.beq x 9) (some (.arraylength, 10, 0, 0)) none) (cond (Nat.beq x 10) (some (.if_icmp .ge 12, 13, 22, 0)) none)))) (cond (Nat.blt x 18) (cond (Nat.blt x 14) (cond (Nat.beq x 13) (some (.aload_n 0, 14, 0, 0)) none) (cond (Nat.blt x 17) (cond (Nat.beq x 14) (some (.getfield 18, 17, 0, 0)) none) (cond (Nat.beq x 17) (some (.iload_n 1, 18, 0, 0)) none))) (cond (Nat.blt x 22) (cond (Nat.blt x 19) (cond (Nat.beq x 18) (some (.iaload, 19, 0, 0)) none) (cond (Nat.beq x 19) (some (.goto 4, 22, 23, 0)) none)) (cond (Nat.blt x 23) (cond (Nat.beq x 22) (some (.iconst 0, 23, 0, 0)) none) (cond (Nat.beq x 23) (some (.ireturn, 24, 0, 0)) none))))
def ep_X7_allWaits (x : Nat) : Option (Instr × Nat × Nat × Int32) := cond (Nat.blt x 14) (cond (Nat.blt x 5) (cond (Nat.blt x 2) (cond (Nat.blt x 1) (cond (Nat.beq x 0) (some (.iconst 0, 1, 0, 0)) none) (cond (Nat.beq x 1) (some (.istore_n 1, 2, 0, 0)) none)) (cond (Nat.blt x 3) (cond (Nat.beq x 2) (some (.iconst 0, 3, 0, 0)) none) (cond (Nat.blt x 4) (cond (Nat.beq x 3) (some (.istore_n 2, 4, 0, 0)) none) (cond (Nat.beq x 4) (some (.iload_n 2, 5, 0, 0)) none)))) (cond (Nat.blt x 9) (cond (Nat.blt x 6) (cond (Nat.beq x 5) (some (.aload_n 0, 6, 0, 0)) none) (cond (Nat.beq x 6) (some (.getfield 18, 9, 0, 0)) none)) (cond (Nat.blt x 10) (cond (Nat.beq x 9) (some (.arraylength, 10, 0, 0)) none) (cond (Nat.blt x 13) (cond (Nat.beq x 10) (some (.if_icmp .ge 18, 13, 28, 0)) none) (cond (Nat.beq x 13) (some (.iload_n 1, 14, 0, 0)) none))))) (cond (Nat.blt x 21) (cond (Nat.blt x 18) (cond (Nat.blt x 15) (cond (Nat.beq x 14) (some (.aload_n 0, 15, 0, 0)) none) (cond (Nat.beq x 15) (some (.getfield 18, 18, 0, 0)) none)) (cond (Nat.blt x 19) (cond (Nat.beq x 18) (some (.iload_n 2, 19, 0, 0)) none) (cond (Nat.blt x 20) (cond (Nat.beq x 19) (some (.iaload, 20, 0, 0)) none) (cond (Nat.beq x 20) (some (.iadd, 21, 0, 0)) none)))) (cond (Nat.blt x 25) (cond (Nat.blt x 22) (cond (Nat.beq x 21) (some (.istore_n 1, 22, 0, 0)) none) (cond (Nat.beq x 22) (some (.iinc 2 1, 25, 0, 1)) none)) (cond (Nat.blt x 28) (cond (Nat.beq x 25) (some (.goto (-21), 28, 4, 0)) none) (cond (Nat.blt x 29) (cond (Nat.beq x 28) (some (.iload_n 1, 29, 0, 0)) none) (cond (Nat.beq x 29) (some (.ireturn, 30, 0, 0)) none)))))
def ep_X7_copyFrom (x : Nat) : Option (Instr × Nat × Nat × Int32) := cond (Nat.blt x 57) (cond (Nat.blt x 27) (cond (Nat.blt x 13) (cond (Nat.blt x 5) (cond (Nat.blt x 1) (cond (Nat.beq x 0) (some (.aload_n 0, 1, 0, 0)) none) (cond (Nat.blt x 4) (cond (Nat.beq x 1) (some (.getfield 12, 4, 0, 0)) none) (cond (Nat.beq x 4) (some (.aload_n 1, 5, 0, 0)) none))) (cond (Nat.blt x 11) (cond (Nat.blt x 8) (cond (Nat.beq x 5) (some (.getfield 12, 8, 0, 0)) none) (cond (Nat.beq x 8) (some (.invokevirtual 62, 11, 0, 0)) none)) (cond (Nat.blt x 12) (cond (Nat.beq x 11) (some (.iconst 0, 12, 0, 0)) none) (cond (Nat.beq x 12) (some (.istore_n 2, 13, 0, 0)) none)))) (cond (Nat.blt x 19) (cond (Nat.blt x 15) (cond (Nat.blt x 14) (cond (Nat.beq x 13) (some (.iload_n 2, 14, 0, 0)) none) (cond (Nat.beq x 14) (some (.aload_n 0, 15, 0, 0)) none)) (cond (Nat.blt x 18) (cond (Nat.beq x 15) (some (.getfield 18, 18, 0, 0)) none) (cond (Nat.beq x 18) (some (.arraylength, 19, 0, 0)) none))) (cond (Nat.blt x 23) (cond (Nat.blt x 22) (cond (Nat.beq x 19) (some (.if_icmp .ge 20, 22, 39, 0)) none) (cond (Nat.beq x 22) (some (.aload_n 0, 23, 0, 0)) none)) (cond (Nat.blt x 26) (cond (Nat.beq x 23) (some (.getfield 18, 26, 0, 0)) none) (cond (Nat.beq x 26) (some (.iload_n 2, 27, 0, 0)) none))))) (cond (Nat.blt x 41) (cond (Nat.blt x 33) (cond (Nat.blt x 29) (cond (Nat.blt x 28) (cond (Nat.beq x 27) (some (.aload_n 1, 28, 0, 0)) none) (cond (Nat.beq x 28) (some (.iload_n 2, 29, 0, 0)) none)) (cond (Nat.blt x 32) (cond (Nat.beq x 29) (some (.invokevirtual 66, 32, 0, 0)) none) (cond (Nat.beq x 32) (some (.iastore, 33, 0, 0)) none))) (cond (Nat.blt x 39) (cond (Nat.blt x 36) (cond (Nat.beq x 33) (some (.iinc 2 1, 36, 0, 1)) none) (cond (Nat.beq x 36) (some (.goto (-23), 39, 13, 0)) none)) (cond (Nat.blt x 40) (cond (Nat.beq x 39) (some (.aload_n 0, 40, 0, 0)) none) (cond (Nat.beq x 40) (some (.aload_n 1, 41, 0, 0)) none)))) (cond (Nat.blt x 49) (cond (Nat.blt x 47) (cond (Nat.blt x 44) (cond (Nat.beq x 41) (some (.getfield 48, 44, 0, 0)) none) (cond (Nat.beq x 44) (some (.putfield 48, 47, 0, 0)) none)) (cond (Nat.blt x 48) (cond (Nat.beq x 47) (some (.aload_n 0, 48, 0, 0)) none) (cond (Nat.beq x 48) (some (.aload_n 1, 49, 0, 0)) none))) (cond (Nat.blt x 55) (cond (Nat.blt x 52) (cond (Nat.beq x 49) (some (.getfield 32, 52, 0, 0)) none) (cond (Nat.beq x 52) (some (.putfield 32, 55, 0, 0)) none)) (cond (Nat.blt x 56) (cond (Nat.beq x 55) (some (.aload_n 0, 56, 0, 0)) none) (cond (Nat.beq x 56) (some (.aload_n 1, 57, 0, 0)) none)))))) (cond (Nat.blt x 88) (cond (Nat.blt x 72) (cond (Nat.blt x 64) (cond (Nat.blt x 60) (cond (Nat.beq x 57) (some (.getfield 35, 60, 0, 0)) none) (cond (Nat.blt x 63) (cond (Nat.beq x 60) (some (.putfield 35, 63, 0, 0)) none) (cond (Nat.beq x 63) (some (.aload_n 0, 64, 0, 0)) none))) (cond (Nat.blt x 68) (cond (Nat.blt x 65) (cond (Nat.beq x 64) (some (.aload_n 1, 65, 0, 0)) none) (cond (Nat.beq x 65) (some (.getfield 38, 68, 0, 0)) none)) (cond (Nat.blt x 71) (cond (Nat.beq x 68) (some (.putfield 38, 71, 0, 0)) none) (cond (Nat.beq x 71) (some (.aload_n 0, 72, 0, 0)) none)))) (cond (Nat.blt x 80) (cond (Nat.blt x 76) (cond (Nat.blt x 73) (cond (Nat.beq x 72) (some (.aload_n 1, 73, 0, 0)) none) (cond (Nat.beq x 73) (some (.getfield 70, 76, 0, 0)) none)) (cond (Nat.blt x 79) (cond (Nat.beq x 76) (some (.putfield 70, 79, 0, 0)) none) (cond (Nat.beq x 79) (some (.aload_n 0, 80, 0, 0)) none))) (cond (Nat.blt x 84) (cond (Nat.blt x 81) (cond (Nat.beq x 80) (some (.aload_n 1, 81, 0, 0)) none) (cond (Nat.beq x 81) (some (.getfield 22, 84, 0, 0)) none)) (cond (Nat.blt x 87) (cond (Nat.beq x 84) (some (.putfield 22, 87, 0, 0)) none) (cond (Nat.beq x 87) (some (.aload_n 0, 88, 0, 0)) none))))) (cond (Nat.blt x 104) (cond (Nat.blt x 96) (cond (Nat.blt x 92) (cond (Nat.blt x 89) (cond (Nat.beq x 88) (some (.aload_n 1, 89, 0, 0)) none) (cond (Nat.beq x 89) (some (.getfield 26, 92, 0, 0)) none)) (cond (Nat.blt x 95) (cond (Nat.beq x 92) (some (.putfield 26, 95, 0, 0)) none) (cond (Nat.beq x 95) (some (.aload_n 0, 96, 0, 0)) none))) (cond (Nat.blt x 100) (cond (Nat.blt x 97) (cond (Nat.beq x 96) (some (.aload_n 1, 97, 0, 0)) none) (cond (Nat.beq x 97) (some (.getfield 73, 100, 0, 0)) none)) (cond (Nat.blt x 103) (cond (Nat.beq x 100) (some (.putfield 73, 103, 0, 0)) none) (cond (Nat.beq x 103) (some (.aload_n 0, 104, 0, 0)) none)))) (cond (Nat.blt x 112) (cond (Nat.blt x 108) (cond (Nat.blt x 105) (cond (Nat.beq x 104) (some (.aload_n 1, 105, 0, 0)) none) (cond (Nat.beq x 105) (some (.getfield 55, 108, 0, 0)) none)) (cond (Nat.blt x 111) (cond (Nat.beq x 108) (some (.putfield 55, 111, 0, 0)) none) (cond (Nat.beq x 111) (some (.aload_n 0, 112, 0, 0)) none))) (cond (Nat.blt x 116) (cond (Nat.blt x 113) (cond (Nat.beq x 112) (some (.aload_n 1, 113, 0, 0)) none) (cond (Nat.beq x 113) (some (.getfield 29, 116, 0, 0)) none)) (cond (Nat.blt x 119) (cond (Nat.beq x 116) (some (.putfield 29, 119, 0, 0)) none) (cond (Nat.beq x 119) (some (.return_, 120, 0, 0)) none))))))
def ep_X8_init (x : Nat) : Option (Instr × Nat × Nat × Int32) := cond (Nat.blt x 23) (cond (Nat.blt x 9) (cond (Nat.blt x 4) (cond (Nat.blt x 1) (cond (Nat.beq x 0) (some (.aload_n 0, 1, 0, 0)) none) (cond (Nat.beq x 1) (some (.invokespecial 1, 4, 0, 0)) none)) (cond (Nat.blt x 5) (cond (Nat.beq x 4) (some (.aload_n 0, 5, 0, 0)) none) (cond (Nat.blt x 8) (cond (Nat.beq x 5) (some (.new 7, 8, 0, 0)) none) (cond (Nat.beq x 8) (some (.dup, 9, 0, 0)) none)))) (cond (Nat.blt x 16) (cond (Nat.blt x 12) (cond (Nat.beq x 9) (some (.invokespecial 9, 12, 0, 0)) none) (cond (Nat.blt x 15) (cond (Nat.beq x 12) (some (.putfield 10, 15, 0, 0)) none) (cond (Nat.beq x 15) (some (.aload_n 0, 16, 0, 0)) none))) (cond (Nat.blt x 19) (cond (Nat.beq x 16) (some (.new 16, 19, 0, 0)) none) (cond (Nat.blt x 20) (cond (Nat.beq x 19) (some (.dup, 20, 0, 0)) none) (cond (Nat.beq x 20) (some (.invokespecial 18, 23, 0, 0)) none))))) (cond (Nat.blt x 37) (cond (Nat.blt x 30) (cond (Nat.blt x 26) (cond (Nat.beq x 23) (some (.putfield 19, 26, 0, 0)) none) (cond (Nat.blt x 27) (cond (Nat.beq x 26) (some (.aload_n 0, 27, 0, 0)) none) (cond (Nat.beq x 27) (some (.new 16, 30, 0, 0)) none))) (cond (Nat.blt x 31) (cond (Nat.beq x 30) (some (.dup, 31, 0, 0)) none) (cond (Nat.blt x 34) (cond (Nat.beq x 31) (some (.invokespecial 18, 34, 0, 0)) none) (cond (Nat.beq x 34) (some (.putfield 23, 37, 0, 0)) none)))) (cond (Nat.blt x 42) (cond (Nat.blt x 38) (cond (Nat.beq x 37) (some (.aload_n 0, 38, 0, 0)) none) (cond (Nat.blt x 41) (cond (Nat.beq x 38) (some (.new 26, 41, 0, 0)) none) (cond (Nat.beq x 41) (some (.dup, 42, 0, 0)) none))) (cond (Nat.blt x 45) (cond (Nat.beq x 42) (some (.invokespecial 28, 45, 0, 0)) none) (cond (Nat.blt x 48) (cond (Nat.beq x 45) (some (.putfield 29, 48, 0, 0)) none) (cond (Nat.beq x 48) (some (.return_, 49, 0, 0)) none)))))
def ep_X8_ice (x : Nat) : Option (Instr × Nat × Nat × Int32) := cond (Nat.blt x 24) (cond (Nat.blt x 10) (cond (Nat.blt x 5) (cond (Nat.blt x 1) (cond (Nat.beq x 0) (some (.aload_n 0, 1, 0, 0)) none) (cond (Nat.blt x 4) (cond (Nat.beq x 1) (some (.getfield 19, 4, 0, 0)) none) (cond (Nat.beq x 4) (some (.iload_n 1, 5, 0, 0)) none))) (cond (Nat.blt x 8) (cond (Nat.beq x 5) (some (.invokevirtual 33, 8, 0, 0)) none) (cond (Nat.blt x 9) (cond (Nat.beq x 8) (some (.astore_n 3, 9, 0, 0)) none) (cond (Nat.beq x 9) (some (.iload_n 2, 10, 0, 0)) none)))) (cond (Nat.blt x 17) (cond (Nat.blt x 11) (cond (Nat.beq x 10) (some (.iconst 0, 11, 0, 0)) none) (cond (Nat.blt x 14) (cond (Nat.beq x 11) (some (.sipush 300, 14, 0, 300)) none) (cond (Nat.beq x 14) (some (.invokestatic 37, 17, 0, 0)) none))) (cond (Nat.blt x 20) (cond (Nat.beq x 17) (some (.invokestatic 41, 20, 0, 0)) none) (cond (Nat.blt x 21) (cond (Nat.beq x 20) (some (.aload_n 3, 21, 0, 0)) none) (cond (Nat.beq x 21) (some (.getfield 45, 24, 0, 0)) none))))) (cond (Nat.blt x 36) (cond (Nat.blt x 31) (cond (Nat.blt x 27) (cond (Nat.beq x 24) (some (.ifCond .ne 7, 27, 31, 0)) none) (cond (Nat.blt x 28) (cond (Nat.beq x 27) (some (.iconst 1, 28, 0, 1)) none) (cond (Nat.beq x 28) (some (.goto 4, 31, 32, 0)) none))) (cond (Nat.blt x 32) (cond (Nat.beq x 31) (some (.iconst 0, 32, 0, 0)) none) (cond (Nat.blt x 35) (cond (Nat.beq x 32) (some (.invokestatic 51, 35, 0, 0)) none) (cond (Nat.beq x 35) (some (.aload_n 3, 36, 0, 0)) none)))) (cond (Nat.blt x 42) (cond (Nat.blt x 39) (cond (Nat.beq x 36) (some (.getfield 54, 39, 0, 0)) none) (cond (Nat.blt x 41) (cond (Nat.beq x 39) (some (.istore 4, 41, 0, 0)) none) (cond (Nat.beq x 41) (some (.aload_n 3, 42, 0, 0)) none))) (cond (Nat.blt x 46) (cond (Nat.blt x 43) (cond (Nat.beq x 42) (some (.iload_n 2, 43, 0, 0)) none) (cond (Nat.beq x 43) (some (.putfield 54, 46, 0, 0)) none)) (cond (Nat.blt x 48) (cond (Nat.beq x 46) (some (.iload 4, 48, 0, 0)) none) (cond (Nat.beq x 48) (some (.ireturn, 49, 0, 0)) none)))))
def ep_X8_port (x : Nat) : Option (Instr × Nat × Nat × Int32) := cond (Nat.blt x 31) (cond (Nat.blt x 13) (cond (Nat.blt x 5) (cond (Nat.blt x 1) (cond (Nat.beq x 0) (some (.aload_n 0, 1, 0, 0)) none) (cond (Nat.blt x 4) (cond (Nat.beq x 1) (some (.getfield 19, 4, 0, 0)) none) (cond (Nat.beq x 4) (some (.iload_n 1, 5, 0, 0)) none))) (cond (Nat.blt x 9) (cond (Nat.blt x 8) (cond (Nat.beq x 5) (some (.invokevirtual 33, 8, 0, 0)) none) (cond (Nat.beq x 8) (some (.astore_n 2, 9, 0, 0)) none)) (cond (Nat.blt x 10) (cond (Nat.beq x 9) (some (.aload_n 2, 10, 0, 0)) none) (cond (Nat.beq x 10) (some (.getfield 45, 13, 0, 0)) none)))) (cond (Nat.blt x 21) (cond (Nat.blt x 17) (cond (Nat.blt x 16) (cond (Nat.beq x 13) (some (.ifCond .ne 18, 16, 31, 0)) none) (cond (Nat.beq x 16) (some (.aload_n 0, 17, 0, 0)) none)) (cond (Nat.blt x 20) (cond (Nat.beq x 17) (some (.getfield 10, 20, 0, 0)) none) (cond (Nat.beq x 20) (some (.iload_n 1, 21, 0, 0)) none))) (cond (Nat.blt x 27) (cond (Nat.blt x 24) (cond (Nat.beq x 21) (some (.invokevirtual 62, 24, 0, 0)) none) (cond (Nat.beq x 24) (some (.ifCond .ne 7, 27, 31, 0)) none)) (cond (Nat.blt x 28) (cond (Nat.beq x 27) (some (.iconst 1, 28, 0, 1)) none) (cond (Nat.beq x 28) (some (.goto 4, 31, 32, 0)) none))))) (cond (Nat.blt x 47) (cond (Nat.blt x 39) (cond (Nat.blt x 35) (cond (Nat.blt x 32) (cond (Nat.beq x 31) (some (.iconst 0, 32, 0, 0)) none) (cond (Nat.beq x 32) (some (.invokestatic 41, 35, 0, 0)) none)) (cond (Nat.blt x 36) (cond (Nat.beq x 35) (some (.aload_n 0, 36, 0, 0)) none) (cond (Nat.beq x 36) (some (.getfield 10, 39, 0, 0)) none))) (cond (Nat.blt x 43) (cond (Nat.blt x 42) (cond (Nat.beq x 39) (some (.getfield 68, 42, 0, 0)) none) (cond (Nat.beq x 42) (some (.iconst 3, 43, 0, 3)) none)) (cond (Nat.blt x 46) (cond (Nat.beq x 43) (some (.if_icmp .ge 7, 46, 50, 0)) none) (cond (Nat.beq x 46) (some (.iconst 1, 47, 0, 1)) none)))) (cond (Nat.blt x 55) (cond (Nat.blt x 51) (cond (Nat.blt x 50) (cond (Nat.beq x 47) (some (.goto 4, 50, 51, 0)) none) (cond (Nat.beq x 50) (some (.iconst 0, 51, 0, 0)) none)) (cond (Nat.blt x 54) (cond (Nat.beq x 51) (some (.invokestatic 51, 54, 0, 0)) none) (cond (Nat.beq x 54) (some (.aload_n 0, 55, 0, 0)) none))) (cond (Nat.blt x 59) (cond (Nat.blt x 58) (cond (Nat.beq x 55) (some (.getfield 10, 58, 0, 0)) none) (cond (Nat.beq x 58) (some (.iload_n 1, 59, 0, 0)) none)) (cond (Nat.blt x 62) (cond (Nat.beq x 59) (some (.invokevirtual 71, 62, 0, 0)) none) (cond (Nat.beq x 62) (some (.ireturn, 63, 0, 0)) none)))))
def ep_X8_rule (x : Nat) : Option (Instr × Nat × Nat × Int32) := cond (Nat.blt x 39) (cond (Nat.blt x 16) (cond (Nat.blt x 8) (cond (Nat.blt x 4) (cond (Nat.blt x 1) (cond (Nat.beq x 0) (some (.aload_n 0, 1, 0, 0)) none) (cond (Nat.beq x 1) (some (.getfield 10, 4, 0, 0)) none)) (cond (Nat.blt x 5) (cond (Nat.beq x 4) (some (.iload_n 1, 5, 0, 0)) none) (cond (Nat.beq x 5) (some (.invokevirtual 75, 8, 0, 0)) none))) (cond (Nat.blt x 11) (cond (Nat.blt x 10) (cond (Nat.beq x 8) (some (.astore 4, 10, 0, 0)) none) (cond (Nat.beq x 10) (some (.iload_n 2, 11, 0, 0)) none)) (cond (Nat.blt x 12) (cond (Nat.beq x 11) (some (.iconst 0, 12, 0, 0)) none) (cond (Nat.blt x 13) (cond (Nat.beq x 12) (some (.iconst 4, 13, 0, 4)) none) (cond (Nat.beq x 13) (some (.invokestatic 37, 16, 0, 0)) none))))) (cond (Nat.blt x 28) (cond (Nat.blt x 20) (cond (Nat.blt x 19) (cond (Nat.beq x 16) (some (.ifCond .eq 19, 19, 35, 0)) none) (cond (Nat.beq x 19) (some (.iload_n 3, 20, 0, 0)) none)) (cond (Nat.blt x 22) (cond (Nat.beq x 20) (some (.bipush 24, 22, 0, 24)) none) (cond (Nat.blt x 25) (cond (Nat.beq x 22) (some (.sipush 200, 25, 0, 200)) none) (cond (Nat.beq x 25) (some (.invokestatic 37, 28, 0, 0)) none)))) (cond (Nat.blt x 32) (cond (Nat.blt x 31) (cond (Nat.beq x 28) (some (.ifCond .eq 7, 31, 35, 0)) none) (cond (Nat.beq x 31) (some (.iconst 1, 32, 0, 1)) none)) (cond (Nat.blt x 35) (cond (Nat.beq x 32) (some (.goto 4, 35, 36, 0)) none) (cond (Nat.blt x 36) (cond (Nat.beq x 35) (some (.iconst 0, 36, 0, 0)) none) (cond (Nat.beq x 36) (some (.invokestatic 41, 39, 0, 0)) none)))))) (cond (Nat.blt x 61) (cond (Nat.blt x 50) (cond (Nat.blt x 44) (cond (Nat.blt x 41) (cond (Nat.beq x 39) (some (.aload 4, 41, 0, 0)) none) (cond (Nat.beq x 41) (some (.getfield 79, 44, 0, 0)) none)) (cond (Nat.blt x 46) (cond (Nat.beq x 44) (some (.bipush 10, 46, 0, 10)) none) (cond (Nat.blt x 49) (cond (Nat.beq x 46) (some (.if_icmp .ge 7, 49, 53, 0)) none) (cond (Nat.beq x 49) (some (.iconst 1, 50, 0, 1)) none)))) (cond (Nat.blt x 54) (cond (Nat.blt x 53) (cond (Nat.beq x 50) (some (.goto 4, 53, 54, 0)) none) (cond (Nat.beq x 53) (some (.iconst 0, 54, 0, 0)) none)) (cond (Nat.blt x 57) (cond (Nat.beq x 54) (some (.invokestatic 51, 57, 0, 0)) none) (cond (Nat.blt x 58) (cond (Nat.beq x 57) (some (.aload_n 0, 58, 0, 0)) none) (cond (Nat.beq x 58) (some (.getfield 19, 61, 0, 0)) none))))) (cond (Nat.blt x 70) (cond (Nat.blt x 65) (cond (Nat.blt x 64) (cond (Nat.beq x 61) (some (.getfield 84, 64, 0, 0)) none) (cond (Nat.beq x 64) (some (.iload_n 3, 65, 0, 0)) none)) (cond (Nat.blt x 66) (cond (Nat.beq x 65) (some (.iadd, 66, 0, 0)) none) (cond (Nat.blt x 68) (cond (Nat.beq x 66) (some (.istore 5, 68, 0, 0)) none) (cond (Nat.beq x 68) (some (.aload 4, 70, 0, 0)) none)))) (cond (Nat.blt x 73) (cond (Nat.blt x 71) (cond (Nat.beq x 70) (some (.iload_n 2, 71, 0, 0)) none) (cond (Nat.beq x 71) (some (.iload 5, 73, 0, 0)) none)) (cond (Nat.blt x 76) (cond (Nat.beq x 73) (some (.invokevirtual 87, 76, 0, 0)) none) (cond (Nat.blt x 78) (cond (Nat.beq x 76) (some (.iload 5, 78, 0, 0)) none) (cond (Nat.beq x 78) (some (.ireturn, 79, 0, 0)) none))))))
def ep_X8_breaker (x : Nat) : Option (Instr × Nat × Nat × Int32) := cond (Nat.blt x 32) (cond (Nat.blt x 16) (cond (Nat.blt x 8) (cond (Nat.blt x 4) (cond (Nat.blt x 1) (cond (Nat.beq x 0) (some (.aload_n 0, 1, 0, 0)) none) (cond (Nat.beq x 1) (some (.getfield 19, 4, 0, 0)) none)) (cond (Nat.blt x 5) (cond (Nat.beq x 4) (some (.iload_n 1, 5, 0, 0)) none) (cond (Nat.beq x 5) (some (.invokevirtual 33, 8, 0, 0)) none))) (cond (Nat.blt x 10) (cond (Nat.blt x 9) (cond (Nat.beq x 8) (some (.astore_n 3, 9, 0, 0)) none) (cond (Nat.beq x 9) (some (.aload_n 3, 10, 0, 0)) none)) (cond (Nat.blt x 13) (cond (Nat.beq x 10) (some (.getfield 45, 13, 0, 0)) none) (cond (Nat.beq x 13) (some (.ifCond .ne 18, 16, 31, 0)) none)))) (cond (Nat.blt x 24) (cond (Nat.blt x 18) (cond (Nat.blt x 17) (cond (Nat.beq x 16) (some (.iload_n 2, 17, 0, 0)) none) (cond (Nat.beq x 17) (some (.iconst 0, 18, 0, 0)) none)) (cond (Nat.blt x 21) (cond (Nat.beq x 18) (some (.sipush 999, 21, 0, 999)) none) (cond (Nat.beq x 21) (some (.invokestatic 37, 24, 0, 0)) none))) (cond (Nat.blt x 28) (cond (Nat.blt x 27) (cond (Nat.beq x 24) (some (.ifCond .eq 7, 27, 31, 0)) none) (cond (Nat.beq x 27) (some (.iconst 1, 28, 0, 1)) none)) (cond (Nat.blt x 31) (cond (Nat.beq x 28) (some (.goto 4, 31, 32, 0)) none) (cond (Nat.beq x 31) (some (.iconst 0, 32, 0, 0)) none))))) (cond (Nat.blt x 50) (cond (Nat.blt x 42) (cond (Nat.blt x 36) (cond (Nat.blt x 35) (cond (Nat.beq x 32) (some (.invokestatic 41, 35, 0, 0)) none) (cond (Nat.beq x 35) (some (.aload_n 0, 36, 0, 0)) none)) (cond (Nat.blt x 39) (cond (Nat.beq x 36) (some (.getfield 19, 39, 0, 0)) none) (cond (Nat.beq x 39) (some (.getfield 102, 42, 0, 0)) none))) (cond (Nat.blt x 46) (cond (Nat.blt x 43) (cond (Nat.beq x 42) (some (.iconst 2, 43, 0, 2)) none) (cond (Nat.beq x 43) (some (.if_icmp .ge 7, 46, 50, 0)) none)) (cond (Nat.blt x 47) (cond (Nat.beq x 46) (some (.iconst 1, 47, 0, 1)) none) (cond (Nat.beq x 47) (some (.goto 4, 50, 51, 0)) none)))) (cond (Nat.blt x 58) (cond (Nat.blt x 54) (cond (Nat.blt x 51) (cond (Nat.beq x 50) (some (.iconst 0, 51, 0, 0)) none) (cond (Nat.beq x 51) (some (.invokestatic 51, 54, 0, 0)) none)) (cond (Nat.blt x 55) (cond (Nat.beq x 54) (some (.aload_n 0, 55, 0, 0)) none) (cond (Nat.beq x 55) (some (.getfield 19, 58, 0, 0)) none))) (cond (Nat.blt x 60) (cond (Nat.blt x 59) (cond (Nat.beq x 58) (some (.iload_n 1, 59, 0, 0)) none) (cond (Nat.beq x 59) (some (.iload_n 2, 60, 0, 0)) none)) (cond (Nat.blt x 63) (cond (Nat.beq x 60) (some (.invokevirtual 105, 63, 0, 0)) none) (cond (Nat.beq x 63) (some (.ireturn, 64, 0, 0)) none)))))
def ep_X8_ship (x : Nat) : Option (Instr × Nat × Nat × Int32) := cond (Nat.blt x 44) (cond (Nat.blt x 22) (cond (Nat.blt x 10) (cond (Nat.blt x 4) (cond (Nat.blt x 1) (cond (Nat.beq x 0) (some (.aload_n 0, 1, 0, 0)) none) (cond (Nat.beq x 1) (some (.getfield 19, 4, 0, 0)) none)) (cond (Nat.blt x 5) (cond (Nat.beq x 4) (some (.iload_n 1, 5, 0, 0)) none) (cond (Nat.blt x 8) (cond (Nat.beq x 5) (some (.invokevirtual 33, 8, 0, 0)) none) (cond (Nat.beq x 8) (some (.astore 5, 10, 0, 0)) none)))) (cond (Nat.blt x 16) (cond (Nat.blt x 11) (cond (Nat.beq x 10) (some (.aload_n 0, 11, 0, 0)) none) (cond (Nat.blt x 14) (cond (Nat.beq x 11) (some (.getfield 10, 14, 0, 0)) none) (cond (Nat.beq x 14) (some (.iload 4, 16, 0, 0)) none))) (cond (Nat.blt x 19) (cond (Nat.beq x 16) (some (.invokevirtual 75, 19, 0, 0)) none) (cond (Nat.blt x 20) (cond (Nat.beq x 19) (some (.pop, 20, 0, 0)) none) (cond (Nat.beq x 20) (some (.aload 5, 22, 0, 0)) none))))) (cond (Nat.blt x 31) (cond (Nat.blt x 28) (cond (Nat.blt x 25) (cond (Nat.beq x 22) (some (.getfield 45, 25, 0, 0)) none) (cond (Nat.beq x 25) (some (.ifCond .ne 26, 28, 51, 0)) none)) (cond (Nat.blt x 29) (cond (Nat.beq x 28) (some (.iload_n 2, 29, 0, 0)) none) (cond (Nat.blt x 30) (cond (Nat.beq x 29) (some (.iconst 0, 30, 0, 0)) none) (cond (Nat.beq x 30) (some (.iconst 4, 31, 0, 4)) none)))) (cond (Nat.blt x 38) (cond (Nat.blt x 34) (cond (Nat.beq x 31) (some (.invokestatic 37, 34, 0, 0)) none) (cond (Nat.blt x 37) (cond (Nat.beq x 34) (some (.ifCond .eq 17, 37, 51, 0)) none) (cond (Nat.beq x 37) (some (.iload_n 3, 38, 0, 0)) none))) (cond (Nat.blt x 39) (cond (Nat.beq x 38) (some (.iconst 1, 39, 0, 1)) none) (cond (Nat.blt x 41) (cond (Nat.beq x 39) (some (.bipush 9, 41, 0, 9)) none) (cond (Nat.beq x 41) (some (.invokestatic 37, 44, 0, 0)) none)))))) (cond (Nat.blt x 67) (cond (Nat.blt x 55) (cond (Nat.blt x 48) (cond (Nat.blt x 47) (cond (Nat.beq x 44) (some (.ifCond .eq 7, 47, 51, 0)) none) (cond (Nat.beq x 47) (some (.iconst 1, 48, 0, 1)) none)) (cond (Nat.blt x 51) (cond (Nat.beq x 48) (some (.goto 4, 51, 52, 0)) none) (cond (Nat.blt x 52) (cond (Nat.beq x 51) (some (.iconst 0, 52, 0, 0)) none) (cond (Nat.beq x 52) (some (.invokestatic 41, 55, 0, 0)) none)))) (cond (Nat.blt x 62) (cond (Nat.blt x 56) (cond (Nat.beq x 55) (some (.aload_n 0, 56, 0, 0)) none) (cond (Nat.blt x 59) (cond (Nat.beq x 56) (some (.getfield 19, 59, 0, 0)) none) (cond (Nat.beq x 59) (some (.getfield 109, 62, 0, 0)) none))) (cond (Nat.blt x 63) (cond (Nat.beq x 62) (some (.iconst 5, 63, 0, 5)) none) (cond (Nat.blt x 66) (cond (Nat.beq x 63) (some (.if_icmp .ge 7, 66, 70, 0)) none) (cond (Nat.beq x 66) (some (.iconst 1, 67, 0, 1)) none))))) (cond (Nat.blt x 78) (cond (Nat.blt x 71) (cond (Nat.blt x 70) (cond (Nat.beq x 67) (some (.goto 4, 70, 71, 0)) none) (cond (Nat.beq x 70) (some (.iconst 0, 71, 0, 0)) none)) (cond (Nat.blt x 74) (cond (Nat.beq x 71) (some (.invokestatic 51, 74, 0, 0)) none) (cond (Nat.blt x 75) (cond (Nat.beq x 74) (some (.aload_n 0, 75, 0, 0)) none) (cond (Nat.beq x 75) (some (.getfield 19, 78, 0, 0)) none)))) (cond (Nat.blt x 81) (cond (Nat.blt x 79) (cond (Nat.beq x 78) (some (.iload_n 1, 79, 0, 0)) none) (cond (Nat.blt x 80) (cond (Nat.beq x 79) (some (.iload_n 2, 80, 0, 0)) none) (cond (Nat.beq x 80) (some (.iload_n 3, 81, 0, 0)) none))) (cond (Nat.blt x 83) (cond (Nat.beq x 81) (some (.iload 4, 83, 0, 0)) none) (cond (Nat.blt x 86) (cond (Nat.beq x 83) (some (.invokevirtual 112, 86, 0, 0)) none) (cond (Nat.beq x 86) (some (.ireturn, 87, 0, 0)) none))))))
def ep_X8_steer (x : Nat) : Option (Instr × Nat × Nat × Int32) := cond (Nat.blt x 19) (cond (Nat.blt x 9) (cond (Nat.blt x 4) (cond (Nat.blt x 1) (cond (Nat.beq x 0) (some (.aload_n 0, 1, 0, 0)) none) (cond (Nat.beq x 1) (some (.getfield 19, 4, 0, 0)) none)) (cond (Nat.blt x 5) (cond (Nat.beq x 4) (some (.iload_n 1, 5, 0, 0)) none) (cond (Nat.blt x 8) (cond (Nat.beq x 5) (some (.invokevirtual 116, 8, 0, 0)) none) (cond (Nat.beq x 8) (some (.astore_n 3, 9, 0, 0)) none)))) (cond (Nat.blt x 14) (cond (Nat.blt x 10) (cond (Nat.beq x 9) (some (.aload_n 0, 10, 0, 0)) none) (cond (Nat.blt x 13) (cond (Nat.beq x 10) (some (.getfield 19, 13, 0, 0)) none) (cond (Nat.beq x 13) (some (.iload_n 2, 14, 0, 0)) none))) (cond (Nat.blt x 17) (cond (Nat.beq x 14) (some (.invokevirtual 33, 17, 0, 0)) none) (cond (Nat.blt x 18) (cond (Nat.beq x 17) (some (.pop, 18, 0, 0)) none) (cond (Nat.beq x 18) (some (.aload_n 3, 19, 0, 0)) none))))) (cond (Nat.blt x 33) (cond (Nat.blt x 28) (cond (Nat.blt x 22) (cond (Nat.beq x 19) (some (.getfield 120, 22, 0, 0)) none) (cond (Nat.blt x 25) (cond (Nat.beq x 22) (some (.invokevirtual 126, 25, 0, 0)) none) (cond (Nat.beq x 25) (some (.ifCond .ne 7, 28, 32, 0)) none))) (cond (Nat.blt x 29) (cond (Nat.beq x 28) (some (.iconst 1, 29, 0, 1)) none) (cond (Nat.blt x 32) (cond (Nat.beq x 29) (some (.goto 4, 32, 33, 0)) none) (cond (Nat.beq x 32) (some (.iconst 0, 33, 0, 0)) none)))) (cond (Nat.blt x 40) (cond (Nat.blt x 36) (cond (Nat.beq x 33) (some (.invokestatic 51, 36, 0, 0)) none) (cond (Nat.blt x 37) (cond (Nat.beq x 36) (some (.aload_n 3, 37, 0, 0)) none) (cond (Nat.beq x 37) (some (.getfield 120, 40, 0, 0)) none))) (cond (Nat.blt x 41) (cond (Nat.beq x 40) (some (.iload_n 2, 41, 0, 0)) none) (cond (Nat.blt x 44) (cond (Nat.beq x 41) (some (.invokevirtual 132, 44, 0, 0)) none) (cond (Nat.beq x 44) (some (.ireturn, 45, 0, 0)) none)))))
def ep_X8_sail (x : Nat) : Option (Instr × Nat × Nat × Int32) := cond (Nat.blt x 23) (cond (Nat.blt x 10) (cond (Nat.blt x 5) (cond (Nat.blt x 1) (cond (Nat.beq x 0) (some (.aload_n 0, 1, 0, 0)) none) (cond (Nat.blt x 4) (cond (Nat.beq x 1) (some (.getfield 19, 4, 0, 0)) none) (cond (Nat.beq x 4) (some (.iload_n 1, 5, 0, 0)) none))) (cond (Nat.blt x 8) (cond (Nat.beq x 5) (some (.invokevirtual 91, 8, 0, 0)) none) (cond (Nat.blt x 9) (cond (Nat.beq x 8) (some (.astore_n 3, 9, 0, 0)) none) (cond (Nat.beq x 9) (some (.aload_n 0, 10, 0, 0)) none)))) (cond (Nat.blt x 17) (cond (Nat.blt x 13) (cond (Nat.beq x 10) (some (.getfield 19, 13, 0, 0)) none) (cond (Nat.blt x 14) (cond (Nat.beq x 13) (some (.iload_n 2, 14, 0, 0)) none) (cond (Nat.beq x 14) (some (.invokevirtual 33, 17, 0, 0)) none))) (cond (Nat.blt x 19) (cond (Nat.blt x 18) (cond (Nat.beq x 17) (some (.pop, 18, 0, 0)) none) (cond (Nat.beq x 18) (some (.aload_n 3, 19, 0, 0)) none)) (cond (Nat.blt x 22) (cond (Nat.beq x 19) (some (.getfield 135, 22, 0, 0)) none) (cond (Nat.beq x 22) (some (.iconst 3, 23, 0, 3)) none))))) (cond (Nat.blt x 40) (cond (Nat.blt x 30) (cond (Nat.blt x 26) (cond (Nat.beq x 23) (some (.if_icmp .eq 17, 26, 40, 0)) none) (cond (Nat.blt x 27) (cond (Nat.beq x 26) (some (.aload_n 3, 27, 0, 0)) none) (cond (Nat.beq x 27) (some (.getfield 140, 30, 0, 0)) none))) (cond (Nat.blt x 36) (cond (Nat.blt x 33) (cond (Nat.beq x 30) (some (.invokevirtual 126, 33, 0, 0)) none) (cond (Nat.beq x 33) (some (.ifCond .ne 7, 36, 40, 0)) none)) (cond (Nat.blt x 37) (cond (Nat.beq x 36) (some (.iconst 1, 37, 0, 1)) none) (cond (Nat.beq x 37) (some (.goto 4, 40, 41, 0)) none)))) (cond (Nat.blt x 45) (cond (Nat.blt x 41) (cond (Nat.beq x 40) (some (.iconst 0, 41, 0, 0)) none) (cond (Nat.blt x 44) (cond (Nat.beq x 41) (some (.invokestatic 51, 44, 0, 0)) none) (cond (Nat.beq x 44) (some (.aload_n 3, 45, 0, 0)) none))) (cond (Nat.blt x 49) (cond (Nat.blt x 48) (cond (Nat.beq x 45) (some (.getfield 140, 48, 0, 0)) none) (cond (Nat.beq x 48) (some (.iload_n 2, 49, 0, 0)) none)) (cond (Nat.blt x 52) (cond (Nat.beq x 49) (some (.invokevirtual 132, 52, 0, 0)) none) (cond (Nat.beq x 52) (some (.ireturn, 53, 0, 0)) none)))))
def ep_X8_lead (x : Nat) : Option (Instr × Nat × Nat × Int32) := cond (Nat.blt x 38) (cond (Nat.blt x 17) (cond (Nat.blt x 8) (cond (Nat.blt x 4) (cond (Nat.blt x 1) (cond (Nat.beq x 0) (some (.aload_n 0, 1, 0, 0)) none) (cond (Nat.beq x 1) (some (.getfield 19, 4, 0, 0)) none)) (cond (Nat.blt x 5) (cond (Nat.beq x 4) (some (.iload_n 1, 5, 0, 0)) none) (cond (Nat.beq x 5) (some (.invokevirtual 116, 8, 0, 0)) none))) (cond (Nat.blt x 10) (cond (Nat.blt x 9) (cond (Nat.beq x 8) (some (.astore_n 3, 9, 0, 0)) none) (cond (Nat.beq x 9) (some (.aload_n 0, 10, 0, 0)) none)) (cond (Nat.blt x 13) (cond (Nat.beq x 10) (some (.getfield 19, 13, 0, 0)) none) (cond (Nat.blt x 14) (cond (Nat.beq x 13) (some (.iload_n 2, 14, 0, 0)) none) (cond (Nat.beq x 14) (some (.invokevirtual 91, 17, 0, 0)) none))))) (cond (Nat.blt x 28) (cond (Nat.blt x 20) (cond (Nat.blt x 19) (cond (Nat.beq x 17) (some (.astore 4, 19, 0, 0)) none) (cond (Nat.beq x 19) (some (.aload_n 3, 20, 0, 0)) none)) (cond (Nat.blt x 22) (cond (Nat.beq x 20) (some (.aload 4, 22, 0, 0)) none) (cond (Nat.blt x 25) (cond (Nat.beq x 22) (some (.invokestatic 148, 25, 0, 0)) none) (cond (Nat.beq x 25) (some (.invokestatic 51, 28, 0, 0)) none)))) (cond (Nat.blt x 31) (cond (Nat.blt x 30) (cond (Nat.beq x 28) (some (.aload 4, 30, 0, 0)) none) (cond (Nat.beq x 30) (some (.iconst 1, 31, 0, 1)) none)) (cond (Nat.blt x 32) (cond (Nat.beq x 31) (some (.iload_n 1, 32, 0, 0)) none) (cond (Nat.blt x 35) (cond (Nat.beq x 32) (some (.invokevirtual 152, 35, 0, 0)) none) (cond (Nat.beq x 35) (some (.ifCond .ne 19, 38, 54, 0)) none)))))) (cond (Nat.blt x 55) (cond (Nat.blt x 46) (cond (Nat.blt x 42) (cond (Nat.blt x 39) (cond (Nat.beq x 38) (some (.aload_n 0, 39, 0, 0)) none) (cond (Nat.beq x 39) (some (.getfield 19, 42, 0, 0)) none)) (cond (Nat.blt x 43) (cond (Nat.beq x 42) (some (.iload_n 1, 43, 0, 0)) none) (cond (Nat.beq x 43) (some (.invokevirtual 156, 46, 0, 0)) none))) (cond (Nat.blt x 50) (cond (Nat.blt x 47) (cond (Nat.beq x 46) (some (.iconst 2, 47, 0, 2)) none) (cond (Nat.beq x 47) (some (.if_icmp .ge 7, 50, 54, 0)) none)) (cond (Nat.blt x 51) (cond (Nat.beq x 50) (some (.iconst 1, 51, 0, 1)) none) (cond (Nat.blt x 54) (cond (Nat.beq x 51) (some (.goto 4, 54, 55, 0)) none) (cond (Nat.beq x 54) (some (.iconst 0, 55, 0, 0)) none))))) (cond (Nat.blt x 65) (cond (Nat.blt x 60) (cond (Nat.blt x 58) (cond (Nat.beq x 55) (some (.invokestatic 51, 58, 0, 0)) none) (cond (Nat.beq x 58) (some (.aload 4, 60, 0, 0)) none)) (cond (Nat.blt x 61) (cond (Nat.beq x 60) (some (.iconst 1, 61, 0, 1)) none) (cond (Nat.blt x 62) (cond (Nat.beq x 61) (some (.iload_n 1, 62, 0, 0)) none) (cond (Nat.beq x 62) (some (.invokevirtual 159, 65, 0, 0)) none)))) (cond (Nat.blt x 69) (cond (Nat.blt x 66) (cond (Nat.beq x 65) (some (.aload_n 0, 66, 0, 0)) none) (cond (Nat.beq x 66) (some (.getfield 19, 69, 0, 0)) none)) (cond (Nat.blt x 70) (cond (Nat.beq x 69) (some (.iload_n 1, 70, 0, 0)) none) (cond (Nat.blt x 73) (cond (Nat.beq x 70) (some (.invokevirtual 156, 73, 0, 0)) none) (cond (Nat.beq x 73) (some (.ireturn, 74, 0, 0)) none))))))
def ep_X8_tow (x : Nat) : Option (Instr × Nat × Nat × Int32) := cond (Nat.blt x 38) (cond (Nat.blt x 17) (cond (Nat.blt x 8) (cond (Nat.blt x 4) (cond (Nat.blt x 1) (cond (Nat.beq x 0) (some (.aload_n 0, 1, 0, 0)) none) (cond (Nat.beq x 1) (some (.getfield 19, 4, 0, 0)) none)) (cond (Nat.blt x 5) (cond (Nat.beq x 4) (some (.iload_n 1, 5, 0, 0)) none) (cond (Nat.beq x 5) (some (.invokevirtual 116, 8, 0, 0)) none))) (cond (Nat.blt x 10) (cond (Nat.blt x 9) (cond (Nat.beq x 8) (some (.astore_n 3, 9, 0, 0)) none) (cond (Nat.beq x 9) (some (.aload_n 0, 10, 0, 0)) none)) (cond (Nat.blt x 13) (cond (Nat.beq x 10) (some (.getfield 19, 13, 0, 0)) none) (cond (Nat.blt x 14) (cond (Nat.beq x 13) (some (.iload_n 2, 14, 0, 0)) none) (cond (Nat.beq x 14) (some (.invokevirtual 91, 17, 0, 0)) none))))) (cond (Nat.blt x 28) (cond (Nat.blt x 20) (cond (Nat.blt x 19) (cond (Nat.beq x 17) (some (.astore 4, 19, 0, 0)) none) (cond (Nat.beq x 19) (some (.aload_n 3, 20, 0, 0)) none)) (cond (Nat.blt x 22) (cond (Nat.beq x 20) (some (.aload 4, 22, 0, 0)) none) (cond (Nat.blt x 25) (cond (Nat.beq x 22) (some (.invokestatic 148, 25, 0, 0)) none) (cond (Nat.beq x 25) (some (.ifCond .eq 16, 28, 41, 0)) none)))) (cond (Nat.blt x 33) (cond (Nat.blt x 30) (cond (Nat.beq x 28) (some (.aload 4, 30, 0, 0)) none) (cond (Nat.beq x 30) (some (.getfield 162, 33, 0, 0)) none)) (cond (Nat.blt x 34) (cond (Nat.beq x 33) (some (.iconst 1, 34, 0, 1)) none) (cond (Nat.blt x 37) (cond (Nat.beq x 34) (some (.if_icmp .lt 7, 37, 41, 0)) none) (cond (Nat.beq x 37) (some (.iconst 1, 38, 0, 1)) none)))))) (cond (Nat.blt x 58) (cond (Nat.blt x 49) (cond (Nat.blt x 42) (cond (Nat.blt x 41) (cond (Nat.beq x 38) (some (.goto 4, 41, 42, 0)) none) (cond (Nat.beq x 41) (some (.iconst 0, 42, 0, 0)) none)) (cond (Nat.blt x 45) (cond (Nat.beq x 42) (some (.invokestatic 51, 45, 0, 0)) none) (cond (Nat.blt x 46) (cond (Nat.beq x 45) (some (.aload_n 0, 46, 0, 0)) none) (cond (Nat.beq x 46) (some (.getfield 19, 49, 0, 0)) none)))) (cond (Nat.blt x 53) (cond (Nat.blt x 50) (cond (Nat.beq x 49) (some (.iload_n 1, 50, 0, 0)) none) (cond (Nat.beq x 50) (some (.invokevirtual 165, 53, 0, 0)) none)) (cond (Nat.blt x 54) (cond (Nat.beq x 53) (some (.iconst (-1), 54, 0, (-1))) none) (cond (Nat.blt x 57) (cond (Nat.beq x 54) (some (.if_icmp .ne 7, 57, 61, 0)) none) (cond (Nat.beq x 57) (some (.iconst 1, 58, 0, 1)) none))))) (cond (Nat.blt x 68) (cond (Nat.blt x 62) (cond (Nat.blt x 61) (cond (Nat.beq x 58) (some (.goto 4, 61, 62, 0)) none) (cond (Nat.beq x 61) (some (.iconst 0, 62, 0, 0)) none)) (cond (Nat.blt x 65) (cond (Nat.beq x 62) (some (.invokestatic 51, 65, 0, 0)) none) (cond (Nat.blt x 67) (cond (Nat.beq x 65) (some (.aload 4, 67, 0, 0)) none) (cond (Nat.beq x 67) (some (.iconst 2, 68, 0, 2)) none)))) (cond (Nat.blt x 72) (cond (Nat.blt x 69) (cond (Nat.beq x 68) (some (.iload_n 1, 69, 0, 0)) none) (cond (Nat.beq x 69) (some (.invokevirtual 159, 72, 0, 0)) none)) (cond (Nat.blt x 74) (cond (Nat.beq x 72) (some (.aload 4, 74, 0, 0)) none) (cond (Nat.blt x 77) (cond (Nat.beq x 74) (some (.getfield 168, 77, 0, 0)) none) (cond (Nat.beq x 77) (some (.ireturn, 78, 0, 0)) none))))))
def ep_X8_pass (x : Nat) : Option (Instr × Nat × Nat × Int32) := cond (Nat.blt x 32) (cond (Nat.blt x 15) (cond (Nat.blt x 8) (cond (Nat.blt x 2) (cond (Nat.blt x 1) (cond (Nat.beq x 0) (some (.iload_n 1, 1, 0, 0)) none) (cond (Nat.beq x 1) (some (.iload_n 2, 2, 0, 0)) none)) (cond (Nat.blt x 5) (cond (Nat.beq x 2) (some (.invokestatic 182, 5, 0, 0)) none) (cond (Nat.beq x 5) (some (.ifCond .eq 17, 8, 22, 0)) none))) (cond (Nat.blt x 10) (cond (Nat.blt x 9) (cond (Nat.beq x 8) (some (.iload_n 3, 9, 0, 0)) none) (cond (Nat.beq x 9) (some (.iconst 1, 10, 0, 1)) none)) (cond (Nat.blt x 12) (cond (Nat.beq x 10) (some (.bipush 24, 12, 0, 24)) none) (cond (Nat.beq x 12) (some (.invokestatic 37, 15, 0, 0)) none)))) (cond (Nat.blt x 23) (cond (Nat.blt x 19) (cond (Nat.blt x 18) (cond (Nat.beq x 15) (some (.ifCond .eq 7, 18, 22, 0)) none) (cond (Nat.beq x 18) (some (.iconst 1, 19, 0, 1)) none)) (cond (Nat.blt x 22) (cond (Nat.beq x 19) (some (.goto 4, 22, 23, 0)) none) (cond (Nat.beq x 22) (some (.iconst 0, 23, 0, 0)) none))) (cond (Nat.blt x 27) (cond (Nat.blt x 26) (cond (Nat.beq x 23) (some (.invokestatic 41, 26, 0, 0)) none) (cond (Nat.beq x 26) (some (.iconst 0, 27, 0, 0)) none)) (cond (Nat.blt x 29) (cond (Nat.beq x 27) (some (.istore 4, 29, 0, 0)) none) (cond (Nat.blt x 30) (cond (Nat.beq x 29) (some (.iconst 0, 30, 0, 0)) none) (cond (Nat.beq x 30) (some (.istore 5, 32, 0, 0)) none)))))) (cond (Nat.blt x 48) (cond (Nat.blt x 40) (cond (Nat.blt x 35) (cond (Nat.blt x 34) (cond (Nat.beq x 32) (some (.iload 5, 34, 0, 0)) none) (cond (Nat.beq x 34) (some (.iload_n 3, 35, 0, 0)) none)) (cond (Nat.blt x 38) (cond (Nat.beq x 35) (some (.if_icmp .ge 27, 38, 62, 0)) none) (cond (Nat.beq x 38) (some (.iload 4, 40, 0, 0)) none))) (cond (Nat.blt x 44) (cond (Nat.blt x 41) (cond (Nat.beq x 40) (some (.aload_n 0, 41, 0, 0)) none) (cond (Nat.beq x 41) (some (.getfield 19, 44, 0, 0)) none)) (cond (Nat.blt x 45) (cond (Nat.beq x 44) (some (.aload_n 0, 45, 0, 0)) none) (cond (Nat.beq x 45) (some (.getfield 10, 48, 0, 0)) none)))) (cond (Nat.blt x 54) (cond (Nat.blt x 50) (cond (Nat.blt x 49) (cond (Nat.beq x 48) (some (.iload_n 1, 49, 0, 0)) none) (cond (Nat.beq x 49) (some (.iload_n 2, 50, 0, 0)) none)) (cond (Nat.blt x 53) (cond (Nat.beq x 50) (some (.invokevirtual 185, 53, 0, 0)) none) (cond (Nat.beq x 53) (some (.iadd, 54, 0, 0)) none))) (cond (Nat.blt x 59) (cond (Nat.blt x 56) (cond (Nat.beq x 54) (some (.istore 4, 56, 0, 0)) none) (cond (Nat.beq x 56) (some (.iinc 5 1, 59, 0, 1)) none)) (cond (Nat.blt x 62) (cond (Nat.beq x 59) (some (.goto (-27), 62, 32, 0)) none) (cond (Nat.blt x 64) (cond (Nat.beq x 62) (some (.iload 4, 64, 0, 0)) none) (cond (Nat.beq x 64) (some (.ireturn, 65, 0, 0)) none))))))
def ep_X8_ofCell (x : Nat) : Option (Instr × Nat × Nat × Int32) := cond (Nat.blt x 62) (cond (Nat.blt x 15) (cond (Nat.blt x 8) (cond (Nat.blt x 4) (cond (Nat.blt x 1) (cond (Nat.beq x 0) (some (.aload_n 0, 1, 0, 0)) none) (cond (Nat.beq x 1) (some (.getfield 19, 4, 0, 0)) none)) (cond (Nat.blt x 5) (cond (Nat.beq x 4) (some (.iload_n 1, 5, 0, 0)) none) (cond (Nat.beq x 5) (some (.invokevirtual 33, 8, 0, 0)) none))) (cond (Nat.blt x 10) (cond (Nat.blt x 9) (cond (Nat.beq x 8) (some (.astore_n 3, 9, 0, 0)) none) (cond (Nat.beq x 9) (some (.iload_n 2, 10, 0, 0)) none)) (cond (Nat.blt x 11) (cond (Nat.beq x 10) (some (.iconst 0, 11, 0, 0)) none) (cond (Nat.blt x 12) (cond (Nat.beq x 11) (some (.iconst 5, 12, 0, 5)) none) (cond (Nat.beq x 12) (some (.invokestatic 37, 15, 0, 0)) none))))) (cond (Nat.blt x 53) (cond (Nat.blt x 19) (cond (Nat.blt x 18) (cond (Nat.beq x 15) (some (.invokestatic 41, 18, 0, 0)) none) (cond (Nat.beq x 18) (some (.iload_n 2, 19, 0, 0)) none)) (cond (Nat.blt x 52) (cond (Nat.beq x 19) (some (.tableswitch 66 0 4 #[33, 38, 43, 48, 61], 52, 0, 0)) none) (cond (Nat.beq x 52) (some (.aload_n 3, 53, 0, 0)) none))) (cond (Nat.blt x 57) (cond (Nat.blt x 56) (cond (Nat.beq x 53) (some (.getfield 54, 56, 0, 0)) none) (cond (Nat.beq x 56) (some (.ireturn, 57, 0, 0)) none)) (cond (Nat.blt x 58) (cond (Nat.beq x 57) (some (.aload_n 3, 58, 0, 0)) none) (cond (Nat.blt x 61) (cond (Nat.beq x 58) (some (.getfield 189, 61, 0, 0)) none) (cond (Nat.beq x 61) (some (.ireturn, 62, 0, 0)) none)))))) (cond (Nat.blt x 79) (cond (Nat.blt x 68) (cond (Nat.blt x 66) (cond (Nat.blt x 63) (cond (Nat.beq x 62) (some (.aload_n 3, 63, 0, 0)) none) (cond (Nat.beq x 63) (some (.getfield 192, 66, 0, 0)) none)) (cond (Nat.blt x 67) (cond (Nat.beq x 66) (some (.ireturn, 67, 0, 0)) none) (cond (Nat.beq x 67) (some (.aload_n 3, 68, 0, 0)) none))) (cond (Nat.blt x 74) (cond (Nat.blt x 71) (cond (Nat.beq x 68) (some (.getfield 45, 71, 0, 0)) none) (cond (Nat.beq x 71) (some (.ifCond .eq 7, 74, 78, 0)) none)) (cond (Nat.blt x 75) (cond (Nat.beq x 74) (some (.iconst 1, 75, 0, 1)) none) (cond (Nat.blt x 78) (cond (Nat.beq x 75) (some (.goto 4, 78, 79, 0)) none) (cond (Nat.beq x 78) (some (.iconst 0, 79, 0, 0)) none))))) (cond (Nat.blt x 85) (cond (Nat.blt x 81) (cond (Nat.blt x 80) (cond (Nat.beq x 79) (some (.ireturn, 80, 0, 0)) none) (cond (Nat.beq x 80) (some (.aload_n 3, 81, 0, 0)) none)) (cond (Nat.blt x 84) (cond (Nat.beq x 81) (some (.invokevirtual 195, 84, 0, 0)) none) (cond (Nat.beq x 84) (some (.ireturn, 85, 0, 0)) none))) (cond (Nat.blt x 89) (cond (Nat.blt x 86) (cond (Nat.beq x 85) (some (.aload_n 0, 86, 0, 0)) none) (cond (Nat.beq x 86) (some (.getfield 19, 89, 0, 0)) none)) (cond (Nat.blt x 90) (cond (Nat.beq x 89) (some (.iload_n 1, 90, 0, 0)) none) (cond (Nat.blt x 93) (cond (Nat.beq x 90) (some (.invokevirtual 198, 93, 0, 0)) none) (cond (Nat.beq x 93) (some (.ireturn, 94, 0, 0)) none))))))
def ep_X8_ofBreaker (x : Nat) : Option (Instr × Nat × Nat × Int32) := cond (Nat.blt x 61) (cond (Nat.blt x 12) (cond (Nat.blt x 8) (cond (Nat.blt x 4) (cond (Nat.blt x 1) (cond (Nat.beq x 0) (some (.aload_n 0, 1, 0, 0)) none) (cond (Nat.beq x 1) (some (.getfield 19, 4, 0, 0)) none)) (cond (Nat.blt x 5) (cond (Nat.beq x 4) (some (.iload_n 1, 5, 0, 0)) none) (cond (Nat.beq x 5) (some (.invokevirtual 116, 8, 0, 0)) none))) (cond (Nat.blt x 10) (cond (Nat.blt x 9) (cond (Nat.beq x 8) (some (.astore_n 3, 9, 0, 0)) none) (cond (Nat.beq x 9) (some (.iload_n 2, 10, 0, 0)) none)) (cond (Nat.blt x 11) (cond (Nat.beq x 10) (some (.iconst 0, 11, 0, 0)) none) (cond (Nat.beq x 11) (some (.iconst 5, 12, 0, 5)) none)))) (cond (Nat.blt x 52) (cond (Nat.blt x 18) (cond (Nat.blt x 15) (cond (Nat.beq x 12) (some (.invokestatic 37, 15, 0, 0)) none) (cond (Nat.beq x 15) (some (.invokestatic 41, 18, 0, 0)) none)) (cond (Nat.blt x 19) (cond (Nat.beq x 18) (some (.iload_n 2, 19, 0, 0)) none) (cond (Nat.beq x 19) (some (.tableswitch 69 0 4 #[33, 38, 43, 51, 60], 52, 0, 0)) none))) (cond (Nat.blt x 56) (cond (Nat.blt x 53) (cond (Nat.beq x 52) (some (.aload_n 3, 53, 0, 0)) none) (cond (Nat.beq x 53) (some (.getfield 171, 56, 0, 0)) none)) (cond (Nat.blt x 57) (cond (Nat.beq x 56) (some (.ireturn, 57, 0, 0)) none) (cond (Nat.blt x 58) (cond (Nat.beq x 57) (some (.aload_n 3, 58, 0, 0)) none) (cond (Nat.beq x 58) (some (.getfield 174, 61, 0, 0)) none)))))) (cond (Nat.blt x 78) (cond (Nat.blt x 69) (cond (Nat.blt x 63) (cond (Nat.blt x 62) (cond (Nat.beq x 61) (some (.ireturn, 62, 0, 0)) none) (cond (Nat.beq x 62) (some (.aload_n 3, 63, 0, 0)) none)) (cond (Nat.blt x 66) (cond (Nat.beq x 63) (some (.getfield 120, 66, 0, 0)) none) (cond (Nat.beq x 66) (some (.getfield 201, 69, 0, 0)) none))) (cond (Nat.blt x 71) (cond (Nat.blt x 70) (cond (Nat.beq x 69) (some (.ireturn, 70, 0, 0)) none) (cond (Nat.beq x 70) (some (.aload_n 0, 71, 0, 0)) none)) (cond (Nat.blt x 74) (cond (Nat.beq x 71) (some (.getfield 19, 74, 0, 0)) none) (cond (Nat.blt x 75) (cond (Nat.beq x 74) (some (.iload_n 1, 75, 0, 0)) none) (cond (Nat.beq x 75) (some (.invokevirtual 156, 78, 0, 0)) none))))) (cond (Nat.blt x 84) (cond (Nat.blt x 80) (cond (Nat.blt x 79) (cond (Nat.beq x 78) (some (.ireturn, 79, 0, 0)) none) (cond (Nat.beq x 79) (some (.aload_n 0, 80, 0, 0)) none)) (cond (Nat.blt x 83) (cond (Nat.beq x 80) (some (.getfield 19, 83, 0, 0)) none) (cond (Nat.beq x 83) (some (.iload_n 1, 84, 0, 0)) none))) (cond (Nat.blt x 88) (cond (Nat.blt x 87) (cond (Nat.beq x 84) (some (.invokevirtual 165, 87, 0, 0)) none) (cond (Nat.beq x 87) (some (.ireturn, 88, 0, 0)) none)) (cond (Nat.blt x 89) (cond (Nat.beq x 88) (some (.aload_n 3, 89, 0, 0)) none) (cond (Nat.blt x 92) (cond (Nat.beq x 89) (some (.getfield 204, 92, 0, 0)) none) (cond (Nat.beq x 92) (some (.ireturn, 93, 0, 0)) none))))))
def ep_X8_ofShip (x : Nat) : Option (Instr × Nat × Nat × Int32) := cond (Nat.blt x 96) (cond (Nat.blt x 76) (cond (Nat.blt x 10) (cond (Nat.blt x 5) (cond (Nat.blt x 1) (cond (Nat.beq x 0) (some (.aload_n 0, 1, 0, 0)) none) (cond (Nat.blt x 4) (cond (Nat.beq x 1) (some (.getfield 19, 4, 0, 0)) none) (cond (Nat.beq x 4) (some (.iload_n 1, 5, 0, 0)) none))) (cond (Nat.blt x 8) (cond (Nat.beq x 5) (some (.invokevirtual 91, 8, 0, 0)) none) (cond (Nat.blt x 9) (cond (Nat.beq x 8) (some (.astore_n 3, 9, 0, 0)) none) (cond (Nat.beq x 9) (some (.iload_n 2, 10, 0, 0)) none)))) (cond (Nat.blt x 16) (cond (Nat.blt x 11) (cond (Nat.beq x 10) (some (.iconst 0, 11, 0, 0)) none) (cond (Nat.blt x 13) (cond (Nat.beq x 11) (some (.bipush 14, 13, 0, 14)) none) (cond (Nat.beq x 13) (some (.invokestatic 37, 16, 0, 0)) none))) (cond (Nat.blt x 19) (cond (Nat.beq x 16) (some (.invokestatic 41, 19, 0, 0)) none) (cond (Nat.blt x 20) (cond (Nat.beq x 19) (some (.iload_n 2, 20, 0, 0)) none) (cond (Nat.beq x 20) (some (.tableswitch 109 0 9 #[56, 61, 66, 71, 76, 81, 86, 94, 99, 104], 76, 0, 0)) none))))) (cond (Nat.blt x 86) (cond (Nat.blt x 81) (cond (Nat.blt x 77) (cond (Nat.beq x 76) (some (.aload_n 3, 77, 0, 0)) none) (cond (Nat.blt x 80) (cond (Nat.beq x 77) (some (.getfield 207, 80, 0, 0)) none) (cond (Nat.beq x 80) (some (.ireturn, 81, 0, 0)) none))) (cond (Nat.blt x 82) (cond (Nat.beq x 81) (some (.aload_n 3, 82, 0, 0)) none) (cond (Nat.blt x 85) (cond (Nat.beq x 82) (some (.getfield 162, 85, 0, 0)) none) (cond (Nat.beq x 85) (some (.ireturn, 86, 0, 0)) none)))) (cond (Nat.blt x 91) (cond (Nat.blt x 87) (cond (Nat.beq x 86) (some (.aload_n 3, 87, 0, 0)) none) (cond (Nat.blt x 90) (cond (Nat.beq x 87) (some (.getfield 208, 90, 0, 0)) none) (cond (Nat.beq x 90) (some (.ireturn, 91, 0, 0)) none))) (cond (Nat.blt x 92) (cond (Nat.beq x 91) (some (.aload_n 3, 92, 0, 0)) none) (cond (Nat.blt x 95) (cond (Nat.beq x 92) (some (.getfield 211, 95, 0, 0)) none) (cond (Nat.beq x 95) (some (.ireturn, 96, 0, 0)) none)))))) (cond (Nat.blt x 118) (cond (Nat.blt x 106) (cond (Nat.blt x 101) (cond (Nat.blt x 97) (cond (Nat.beq x 96) (some (.aload_n 3, 97, 0, 0)) none) (cond (Nat.blt x 100) (cond (Nat.beq x 97) (some (.getfield 135, 100, 0, 0)) none) (cond (Nat.beq x 100) (some (.ireturn, 101, 0, 0)) none))) (cond (Nat.blt x 102) (cond (Nat.beq x 101) (some (.aload_n 3, 102, 0, 0)) none) (cond (Nat.blt x 105) (cond (Nat.beq x 102) (some (.getfield 214, 105, 0, 0)) none) (cond (Nat.beq x 105) (some (.ireturn, 106, 0, 0)) none)))) (cond (Nat.blt x 113) (cond (Nat.blt x 107) (cond (Nat.beq x 106) (some (.aload_n 3, 107, 0, 0)) none) (cond (Nat.blt x 110) (cond (Nat.beq x 107) (some (.getfield 140, 110, 0, 0)) none) (cond (Nat.beq x 110) (some (.getfield 201, 113, 0, 0)) none))) (cond (Nat.blt x 114) (cond (Nat.beq x 113) (some (.ireturn, 114, 0, 0)) none) (cond (Nat.blt x 115) (cond (Nat.beq x 114) (some (.aload_n 3, 115, 0, 0)) none) (cond (Nat.beq x 115) (some (.getfield 217, 118, 0, 0)) none))))) (cond (Nat.blt x 128) (cond (Nat.blt x 123) (cond (Nat.blt x 119) (cond (Nat.beq x 118) (some (.ireturn, 119, 0, 0)) none) (cond (Nat.blt x 120) (cond (Nat.beq x 119) (some (.aload_n 3, 120, 0, 0)) none) (cond (Nat.beq x 120) (some (.getfield 220, 123, 0, 0)) none))) (cond (Nat.blt x 124) (cond (Nat.beq x 123) (some (.ireturn, 124, 0, 0)) none) (cond (Nat.blt x 125) (cond (Nat.beq x 124) (some (.aload_n 3, 125, 0, 0)) none) (cond (Nat.beq x 125) (some (.getfield 223, 128, 0, 0)) none)))) (cond (Nat.blt x 131) (cond (Nat.blt x 129) (cond (Nat.beq x 128) (some (.ireturn, 129, 0, 0)) none) (cond (Nat.blt x 130) (cond (Nat.beq x 129) (some (.aload_n 3, 130, 0, 0)) none) (cond (Nat.beq x 130) (some (.iload_n 2, 131, 0, 0)) none))) (cond (Nat.blt x 134) (cond (Nat.blt x 133) (cond (Nat.beq x 131) (some (.bipush 10, 133, 0, 10)) none) (cond (Nat.beq x 133) (some (.isub, 134, 0, 0)) none)) (cond (Nat.blt x 137) (cond (Nat.beq x 134) (some (.invokevirtual 226, 137, 0, 0)) none) (cond (Nat.beq x 137) (some (.ireturn, 138, 0, 0)) none))))))
def ep_X8_inForce (x : Nat) : Option (Instr × Nat × Nat × Int32) := cond (Nat.blt x 13) (cond (Nat.blt x 5) (cond (Nat.blt x 1) (cond (Nat.beq x 0) (some (.aload_n 0, 1, 0, 0)) none) (cond (Nat.blt x 4) (cond (Nat.beq x 1) (some (.getfield 10, 4, 0, 0)) none) (cond (Nat.beq x 4) (some (.iload_n 1, 5, 0, 0)) none))) (cond (Nat.blt x 9) (cond (Nat.blt x 8) (cond (Nat.beq x 5) (some (.invokevirtual 75, 8, 0, 0)) none) (cond (Nat.beq x 8) (some (.astore_n 3, 9, 0, 0)) none)) (cond (Nat.blt x 10) (cond (Nat.beq x 9) (some (.iload_n 2, 10, 0, 0)) none) (cond (Nat.beq x 10) (some (.ifCond .lt 7, 13, 17, 0)) none)))) (cond (Nat.blt x 21) (cond (Nat.blt x 17) (cond (Nat.blt x 14) (cond (Nat.beq x 13) (some (.iconst 1, 14, 0, 1)) none) (cond (Nat.beq x 14) (some (.goto 4, 17, 18, 0)) none)) (cond (Nat.blt x 18) (cond (Nat.beq x 17) (some (.iconst 0, 18, 0, 0)) none) (cond (Nat.beq x 18) (some (.invokestatic 41, 21, 0, 0)) none))) (cond (Nat.blt x 23) (cond (Nat.blt x 22) (cond (Nat.beq x 21) (some (.aload_n 3, 22, 0, 0)) none) (cond (Nat.beq x 22) (some (.iload_n 2, 23, 0, 0)) none)) (cond (Nat.blt x 26) (cond (Nat.beq x 23) (some (.invokevirtual 229, 26, 0, 0)) none) (cond (Nat.beq x 26) (some (.ireturn, 27, 0, 0)) none))))
def ep_X8_many (x : Nat) : Option (Instr × Nat × Nat × Int32) := cond (Nat.blt x 100) (cond (Nat.blt x 73) (cond (Nat.blt x 11) (cond (Nat.blt x 4) (cond (Nat.blt x 1) (cond (Nat.beq x 0) (some (.iload_n 1, 1, 0, 0)) none) (cond (Nat.blt x 2) (cond (Nat.beq x 1) (some (.iconst 0, 2, 0, 0)) none) (cond (Nat.beq x 2) (some (.bipush 10, 4, 0, 10)) none))) (cond (Nat.blt x 7) (cond (Nat.beq x 4) (some (.invokestatic 37, 7, 0, 0)) none) (cond (Nat.blt x 10) (cond (Nat.beq x 7) (some (.invokestatic 41, 10, 0, 0)) none) (cond (Nat.beq x 10) (some (.iload_n 1, 11, 0, 0)) none)))) (cond (Nat.blt x 68) (cond (Nat.blt x 64) (cond (Nat.beq x 11) (some (.tableswitch 133 0 9 #[53, 61, 69, 77, 85, 93, 101, 109, 117, 125], 64, 0, 0)) none) (cond (Nat.blt x 65) (cond (Nat.beq x 64) (some (.aload_n 0, 65, 0, 0)) none) (cond (Nat.beq x 65) (some (.getfield 19, 68, 0, 0)) none))) (cond (Nat.blt x 71) (cond (Nat.beq x 68) (some (.getfield 84, 71, 0, 0)) none) (cond (Nat.blt x 72) (cond (Nat.beq x 71) (some (.ireturn, 72, 0, 0)) none) (cond (Nat.beq x 72) (some (.aload_n 0, 73, 0, 0)) none))))) (cond (Nat.blt x 87) (cond (Nat.blt x 80) (cond (Nat.blt x 76) (cond (Nat.beq x 73) (some (.getfield 19, 76, 0, 0)) none) (cond (Nat.blt x 79) (cond (Nat.beq x 76) (some (.invokevirtual 232, 79, 0, 0)) none) (cond (Nat.beq x 79) (some (.ireturn, 80, 0, 0)) none))) (cond (Nat.blt x 81) (cond (Nat.beq x 80) (some (.aload_n 0, 81, 0, 0)) none) (cond (Nat.blt x 84) (cond (Nat.beq x 81) (some (.getfield 19, 84, 0, 0)) none) (cond (Nat.beq x 84) (some (.invokevirtual 235, 87, 0, 0)) none)))) (cond (Nat.blt x 92) (cond (Nat.blt x 88) (cond (Nat.beq x 87) (some (.ireturn, 88, 0, 0)) none) (cond (Nat.blt x 89) (cond (Nat.beq x 88) (some (.aload_n 0, 89, 0, 0)) none) (cond (Nat.beq x 89) (some (.getfield 19, 92, 0, 0)) none))) (cond (Nat.blt x 96) (cond (Nat.blt x 95) (cond (Nat.beq x 92) (some (.getfield 109, 95, 0, 0)) none) (cond (Nat.beq x 95) (some (.ireturn, 96, 0, 0)) none)) (cond (Nat.blt x 97) (cond (Nat.beq x 96) (some (.aload_n 0, 97, 0, 0)) none) (cond (Nat.beq x 97) (some (.getfield 19, 100, 0, 0)) none)))))) (cond (Nat.blt x 127) (cond (Nat.blt x 112) (cond (Nat.blt x 105) (cond (Nat.blt x 103) (cond (Nat.beq x 100) (some (.invokevirtual 238, 103, 0, 0)) none) (cond (Nat.blt x 104) (cond (Nat.beq x 103) (some (.ireturn, 104, 0, 0)) none) (cond (Nat.beq x 104) (some (.aload_n 0, 105, 0, 0)) none))) (cond (Nat.blt x 108) (cond (Nat.beq x 105) (some (.getfield 19, 108, 0, 0)) none) (cond (Nat.blt x 111) (cond (Nat.beq x 108) (some (.getfield 102, 111, 0, 0)) none) (cond (Nat.beq x 111) (some (.ireturn, 112, 0, 0)) none)))) (cond (Nat.blt x 119) (cond (Nat.blt x 113) (cond (Nat.beq x 112) (some (.aload_n 0, 113, 0, 0)) none) (cond (Nat.blt x 116) (cond (Nat.beq x 113) (some (.getfield 10, 116, 0, 0)) none) (cond (Nat.beq x 116) (some (.getfield 68, 119, 0, 0)) none))) (cond (Nat.blt x 121) (cond (Nat.blt x 120) (cond (Nat.beq x 119) (some (.ireturn, 120, 0, 0)) none) (cond (Nat.beq x 120) (some (.aload_n 0, 121, 0, 0)) none)) (cond (Nat.blt x 124) (cond (Nat.beq x 121) (some (.getfield 19, 124, 0, 0)) none) (cond (Nat.beq x 124) (some (.invokevirtual 241, 127, 0, 0)) none))))) (cond (Nat.blt x 137) (cond (Nat.blt x 132) (cond (Nat.blt x 128) (cond (Nat.beq x 127) (some (.ireturn, 128, 0, 0)) none) (cond (Nat.blt x 129) (cond (Nat.beq x 128) (some (.aload_n 0, 129, 0, 0)) none) (cond (Nat.beq x 129) (some (.getfield 19, 132, 0, 0)) none))) (cond (Nat.blt x 135) (cond (Nat.beq x 132) (some (.invokevirtual 244, 135, 0, 0)) none) (cond (Nat.blt x 136) (cond (Nat.beq x 135) (some (.ireturn, 136, 0, 0)) none) (cond (Nat.beq x 136) (some (.aload_n 0, 137, 0, 0)) none)))) (cond (Nat.blt x 144) (cond (Nat.blt x 140) (cond (Nat.beq x 137) (some (.getfield 19, 140, 0, 0)) none) (cond (Nat.blt x 143) (cond (Nat.beq x 140) (some (.getfield 247, 143, 0, 0)) none) (cond (Nat.beq x 143) (some (.ireturn, 144, 0, 0)) none))) (cond (Nat.blt x 148) (cond (Nat.blt x 145) (cond (Nat.beq x 144) (some (.aload_n 0, 145, 0, 0)) none) (cond (Nat.beq x 145) (some (.getfield 19, 148, 0, 0)) none)) (cond (Nat.blt x 151) (cond (Nat.beq x 148) (some (.invokevirtual 250, 151, 0, 0)) none) (cond (Nat.beq x 151) (some (.ireturn, 152, 0, 0)) none))))))
def ep_X8_way (x : Nat) : Option (Instr × Nat × Nat × Int32) := cond (Nat.blt x 35) (cond (Nat.blt x 17) (cond (Nat.blt x 8) (cond (Nat.blt x 4) (cond (Nat.blt x 1) (cond (Nat.beq x 0) (some (.aload_n 0, 1, 0, 0)) none) (cond (Nat.beq x 1) (some (.getfield 19, 4, 0, 0)) none)) (cond (Nat.blt x 5) (cond (Nat.beq x 4) (some (.iload_n 1, 5, 0, 0)) none) (cond (Nat.beq x 5) (some (.invokevirtual 91, 8, 0, 0)) none))) (cond (Nat.blt x 10) (cond (Nat.blt x 9) (cond (Nat.beq x 8) (some (.astore_n 3, 9, 0, 0)) none) (cond (Nat.beq x 9) (some (.aload_n 0, 10, 0, 0)) none)) (cond (Nat.blt x 13) (cond (Nat.beq x 10) (some (.getfield 19, 13, 0, 0)) none) (cond (Nat.blt x 14) (cond (Nat.beq x 13) (some (.iload_n 2, 14, 0, 0)) none) (cond (Nat.beq x 14) (some (.invokevirtual 33, 17, 0, 0)) none))))) (cond (Nat.blt x 25) (cond (Nat.blt x 19) (cond (Nat.blt x 18) (cond (Nat.beq x 17) (some (.pop, 18, 0, 0)) none) (cond (Nat.beq x 18) (some (.iconst 0, 19, 0, 0)) none)) (cond (Nat.blt x 21) (cond (Nat.beq x 19) (some (.istore 4, 21, 0, 0)) none) (cond (Nat.blt x 23) (cond (Nat.beq x 21) (some (.iload 4, 23, 0, 0)) none) (cond (Nat.beq x 23) (some (.bipush 15, 25, 0, 15)) none)))) (cond (Nat.blt x 29) (cond (Nat.blt x 28) (cond (Nat.beq x 25) (some (.if_icmp .ge 39, 28, 64, 0)) none) (cond (Nat.beq x 28) (some (.aload_n 0, 29, 0, 0)) none)) (cond (Nat.blt x 32) (cond (Nat.beq x 29) (some (.getfield 29, 32, 0, 0)) none) (cond (Nat.blt x 34) (cond (Nat.beq x 32) (some (.iload 4, 34, 0, 0)) none) (cond (Nat.beq x 34) (some (.aload_n 3, 35, 0, 0)) none)))))) (cond (Nat.blt x 55) (cond (Nat.blt x 44) (cond (Nat.blt x 39) (cond (Nat.blt x 36) (cond (Nat.beq x 35) (some (.aload_n 0, 36, 0, 0)) none) (cond (Nat.beq x 36) (some (.getfield 19, 39, 0, 0)) none)) (cond (Nat.blt x 41) (cond (Nat.beq x 39) (some (.iload 4, 41, 0, 0)) none) (cond (Nat.beq x 41) (some (.invokevirtual 33, 44, 0, 0)) none))) (cond (Nat.blt x 50) (cond (Nat.blt x 47) (cond (Nat.beq x 44) (some (.invokestatic 256, 47, 0, 0)) none) (cond (Nat.beq x 47) (some (.ifCond .eq 7, 50, 54, 0)) none)) (cond (Nat.blt x 51) (cond (Nat.beq x 50) (some (.iconst 1, 51, 0, 1)) none) (cond (Nat.blt x 54) (cond (Nat.beq x 51) (some (.goto 4, 54, 55, 0)) none) (cond (Nat.beq x 54) (some (.iconst (-1), 55, 0, (-1))) none))))) (cond (Nat.blt x 68) (cond (Nat.blt x 61) (cond (Nat.blt x 58) (cond (Nat.beq x 55) (some (.invokevirtual 260, 58, 0, 0)) none) (cond (Nat.beq x 58) (some (.iinc 4 1, 61, 0, 1)) none)) (cond (Nat.blt x 64) (cond (Nat.beq x 61) (some (.goto (-40), 64, 21, 0)) none) (cond (Nat.blt x 65) (cond (Nat.beq x 64) (some (.aload_n 0, 65, 0, 0)) none) (cond (Nat.beq x 65) (some (.getfield 29, 68, 0, 0)) none)))) (cond (Nat.blt x 72) (cond (Nat.blt x 69) (cond (Nat.beq x 68) (some (.aload_n 3, 69, 0, 0)) none) (cond (Nat.beq x 69) (some (.getfield 207, 72, 0, 0)) none)) (cond (Nat.blt x 73) (cond (Nat.beq x 72) (some (.iload_n 2, 73, 0, 0)) none) (cond (Nat.blt x 76) (cond (Nat.beq x 73) (some (.invokevirtual 263, 76, 0, 0)) none) (cond (Nat.beq x 76) (some (.ireturn, 77, 0, 0)) none))))))
def ep_X8_toBreak (x : Nat) : Option (Instr × Nat × Nat × Int32) := cond (Nat.blt x 5) (cond (Nat.blt x 1) (cond (Nat.beq x 0) (some (.aload_n 0, 1, 0, 0)) none) (cond (Nat.blt x 2) (cond (Nat.beq x 1) (some (.aload_n 0, 2, 0, 0)) none) (cond (Nat.beq x 2) (some (.getfield 19, 5, 0, 0)) none))) (cond (Nat.blt x 9) (cond (Nat.blt x 6) (cond (Nat.beq x 5) (some (.iload_n 1, 6, 0, 0)) none) (cond (Nat.beq x 6) (some (.invokevirtual 91, 9, 0, 0)) none)) (cond (Nat.blt x 12) (cond (Nat.beq x 9) (some (.invokevirtual 266, 12, 0, 0)) none) (cond (Nat.beq x 12) (some (.ireturn, 13, 0, 0)) none)))
def ep_X8_helpNext (x : Nat) : Option (Instr × Nat × Nat × Int32) := cond (Nat.blt x 54) (cond (Nat.blt x 20) (cond (Nat.blt x 10) (cond (Nat.blt x 5) (cond (Nat.blt x 1) (cond (Nat.beq x 0) (some (.aload_n 0, 1, 0, 0)) none) (cond (Nat.blt x 4) (cond (Nat.beq x 1) (some (.getfield 19, 4, 0, 0)) none) (cond (Nat.beq x 4) (some (.iload_n 1, 5, 0, 0)) none))) (cond (Nat.blt x 8) (cond (Nat.beq x 5) (some (.invokevirtual 116, 8, 0, 0)) none) (cond (Nat.blt x 9) (cond (Nat.beq x 8) (some (.astore_n 2, 9, 0, 0)) none) (cond (Nat.beq x 9) (some (.iconst (-1), 10, 0, (-1))) none)))) (cond (Nat.blt x 14) (cond (Nat.blt x 11) (cond (Nat.beq x 10) (some (.istore_n 3, 11, 0, 0)) none) (cond (Nat.blt x 12) (cond (Nat.beq x 11) (some (.iconst 0, 12, 0, 0)) none) (cond (Nat.beq x 12) (some (.istore 4, 14, 0, 0)) none))) (cond (Nat.blt x 17) (cond (Nat.blt x 15) (cond (Nat.beq x 14) (some (.iconst 0, 15, 0, 0)) none) (cond (Nat.beq x 15) (some (.istore 5, 17, 0, 0)) none)) (cond (Nat.blt x 19) (cond (Nat.beq x 17) (some (.iload 5, 19, 0, 0)) none) (cond (Nat.beq x 19) (some (.aload_n 0, 20, 0, 0)) none))))) (cond (Nat.blt x 38) (cond (Nat.blt x 29) (cond (Nat.blt x 23) (cond (Nat.beq x 20) (some (.getfield 19, 23, 0, 0)) none) (cond (Nat.blt x 26) (cond (Nat.beq x 23) (some (.getfield 109, 26, 0, 0)) none) (cond (Nat.beq x 26) (some (.if_icmp .ge 80, 29, 106, 0)) none))) (cond (Nat.blt x 33) (cond (Nat.blt x 30) (cond (Nat.beq x 29) (some (.aload_n 0, 30, 0, 0)) none) (cond (Nat.beq x 30) (some (.getfield 19, 33, 0, 0)) none)) (cond (Nat.blt x 35) (cond (Nat.beq x 33) (some (.iload 5, 35, 0, 0)) none) (cond (Nat.beq x 35) (some (.invokevirtual 91, 38, 0, 0)) none)))) (cond (Nat.blt x 44) (cond (Nat.blt x 40) (cond (Nat.beq x 38) (some (.astore 6, 40, 0, 0)) none) (cond (Nat.blt x 41) (cond (Nat.beq x 40) (some (.aload_n 2, 41, 0, 0)) none) (cond (Nat.beq x 41) (some (.getfield 171, 44, 0, 0)) none))) (cond (Nat.blt x 49) (cond (Nat.blt x 46) (cond (Nat.beq x 44) (some (.aload 6, 46, 0, 0)) none) (cond (Nat.beq x 46) (some (.getfield 207, 49, 0, 0)) none)) (cond (Nat.blt x 52) (cond (Nat.beq x 49) (some (.invokestatic 270, 52, 0, 0)) none) (cond (Nat.beq x 52) (some (.aload 6, 54, 0, 0)) none)))))) (cond (Nat.blt x 80) (cond (Nat.blt x 65) (cond (Nat.blt x 60) (cond (Nat.blt x 57) (cond (Nat.beq x 54) (some (.invokevirtual 273, 57, 0, 0)) none) (cond (Nat.blt x 59) (cond (Nat.beq x 57) (some (.bipush 6, 59, 0, 6)) none) (cond (Nat.beq x 59) (some (.idiv, 60, 0, 0)) none))) (cond (Nat.blt x 61) (cond (Nat.beq x 60) (some (.isub, 61, 0, 0)) none) (cond (Nat.blt x 63) (cond (Nat.beq x 61) (some (.istore 7, 63, 0, 0)) none) (cond (Nat.beq x 63) (some (.aload 6, 65, 0, 0)) none)))) (cond (Nat.blt x 72) (cond (Nat.blt x 68) (cond (Nat.beq x 65) (some (.getfield 135, 68, 0, 0)) none) (cond (Nat.blt x 71) (cond (Nat.beq x 68) (some (.ifCond .ne 32, 71, 100, 0)) none) (cond (Nat.beq x 71) (some (.iload_n 3, 72, 0, 0)) none))) (cond (Nat.blt x 76) (cond (Nat.blt x 73) (cond (Nat.beq x 72) (some (.iconst (-1), 73, 0, (-1))) none) (cond (Nat.beq x 73) (some (.if_icmp .eq 10, 76, 83, 0)) none)) (cond (Nat.blt x 78) (cond (Nat.beq x 76) (some (.iload 7, 78, 0, 0)) none) (cond (Nat.beq x 78) (some (.iload 4, 80, 0, 0)) none))))) (cond (Nat.blt x 95) (cond (Nat.blt x 86) (cond (Nat.blt x 83) (cond (Nat.beq x 80) (some (.if_icmp .ge 20, 83, 100, 0)) none) (cond (Nat.blt x 84) (cond (Nat.beq x 83) (some (.aload_n 0, 84, 0, 0)) none) (cond (Nat.beq x 84) (some (.aload 6, 86, 0, 0)) none))) (cond (Nat.blt x 90) (cond (Nat.blt x 89) (cond (Nat.beq x 86) (some (.invokevirtual 266, 89, 0, 0)) none) (cond (Nat.beq x 89) (some (.iconst 1, 90, 0, 1)) none)) (cond (Nat.blt x 93) (cond (Nat.beq x 90) (some (.if_icmp .lt 10, 93, 100, 0)) none) (cond (Nat.beq x 93) (some (.iload 5, 95, 0, 0)) none)))) (cond (Nat.blt x 100) (cond (Nat.blt x 96) (cond (Nat.beq x 95) (some (.istore_n 3, 96, 0, 0)) none) (cond (Nat.blt x 98) (cond (Nat.beq x 96) (some (.iload 7, 98, 0, 0)) none) (cond (Nat.beq x 98) (some (.istore 4, 100, 0, 0)) none))) (cond (Nat.blt x 106) (cond (Nat.blt x 103) (cond (Nat.beq x 100) (some (.iinc 5 1, 103, 0, 1)) none) (cond (Nat.beq x 103) (some (.goto (-86), 106, 17, 0)) none)) (cond (Nat.blt x 107) (cond (Nat.beq x 106) (some (.iload_n 3, 107, 0, 0)) none) (cond (Nat.beq x 107) (some (.ireturn, 108, 0, 0)) none))))))
def ep_X8_arriveIn (x : Nat) : Option (Instr × Nat × Nat × Int32) := cond (Nat.blt x 56) (cond (Nat.blt x 29) (cond (Nat.blt x 12) (cond (Nat.blt x 5) (cond (Nat.blt x 1) (cond (Nat.beq x 0) (some (.aload_n 0, 1, 0, 0)) none) (cond (Nat.blt x 4) (cond (Nat.beq x 1) (some (.getfield 19, 4, 0, 0)) none) (cond (Nat.beq x 4) (some (.iload_n 1, 5, 0, 0)) none))) (cond (Nat.blt x 10) (cond (Nat.blt x 8) (cond (Nat.beq x 5) (some (.invokevirtual 91, 8, 0, 0)) none) (cond (Nat.beq x 8) (some (.astore 5, 10, 0, 0)) none)) (cond (Nat.blt x 11) (cond (Nat.beq x 10) (some (.iload_n 2, 11, 0, 0)) none) (cond (Nat.beq x 11) (some (.iconst 1, 12, 0, 1)) none)))) (cond (Nat.blt x 20) (cond (Nat.blt x 14) (cond (Nat.beq x 12) (some (.bipush 24, 14, 0, 24)) none) (cond (Nat.blt x 17) (cond (Nat.beq x 14) (some (.invokestatic 37, 17, 0, 0)) none) (cond (Nat.beq x 17) (some (.ifCond .eq 16, 20, 33, 0)) none))) (cond (Nat.blt x 23) (cond (Nat.blt x 21) (cond (Nat.beq x 20) (some (.iload_n 3, 21, 0, 0)) none) (cond (Nat.beq x 21) (some (.iload 4, 23, 0, 0)) none)) (cond (Nat.blt x 26) (cond (Nat.beq x 23) (some (.invokestatic 182, 26, 0, 0)) none) (cond (Nat.beq x 26) (some (.ifCond .eq 7, 29, 33, 0)) none))))) (cond (Nat.blt x 43) (cond (Nat.blt x 34) (cond (Nat.blt x 30) (cond (Nat.beq x 29) (some (.iconst 1, 30, 0, 1)) none) (cond (Nat.blt x 33) (cond (Nat.beq x 30) (some (.goto 4, 33, 34, 0)) none) (cond (Nat.beq x 33) (some (.iconst 0, 34, 0, 0)) none))) (cond (Nat.blt x 39) (cond (Nat.blt x 37) (cond (Nat.beq x 34) (some (.invokestatic 41, 37, 0, 0)) none) (cond (Nat.beq x 37) (some (.aload 5, 39, 0, 0)) none)) (cond (Nat.blt x 42) (cond (Nat.beq x 39) (some (.getfield 135, 42, 0, 0)) none) (cond (Nat.beq x 42) (some (.iconst 3, 43, 0, 3)) none)))) (cond (Nat.blt x 48) (cond (Nat.blt x 46) (cond (Nat.beq x 43) (some (.if_icmp .ne 5, 46, 48, 0)) none) (cond (Nat.blt x 47) (cond (Nat.beq x 46) (some (.iconst 0, 47, 0, 0)) none) (cond (Nat.beq x 47) (some (.ireturn, 48, 0, 0)) none))) (cond (Nat.blt x 52) (cond (Nat.blt x 49) (cond (Nat.beq x 48) (some (.aload_n 0, 49, 0, 0)) none) (cond (Nat.beq x 49) (some (.getfield 23, 52, 0, 0)) none)) (cond (Nat.blt x 53) (cond (Nat.beq x 52) (some (.aload_n 0, 53, 0, 0)) none) (cond (Nat.beq x 53) (some (.getfield 19, 56, 0, 0)) none)))))) (cond (Nat.blt x 83) (cond (Nat.blt x 70) (cond (Nat.blt x 63) (cond (Nat.blt x 59) (cond (Nat.beq x 56) (some (.invokevirtual 274, 59, 0, 0)) none) (cond (Nat.blt x 60) (cond (Nat.beq x 59) (some (.aload_n 0, 60, 0, 0)) none) (cond (Nat.beq x 60) (some (.getfield 23, 63, 0, 0)) none))) (cond (Nat.blt x 67) (cond (Nat.blt x 64) (cond (Nat.beq x 63) (some (.iload_n 1, 64, 0, 0)) none) (cond (Nat.beq x 64) (some (.invokevirtual 91, 67, 0, 0)) none)) (cond (Nat.blt x 69) (cond (Nat.beq x 67) (some (.astore 6, 69, 0, 0)) none) (cond (Nat.beq x 69) (some (.iconst 1, 70, 0, 1)) none)))) (cond (Nat.blt x 75) (cond (Nat.blt x 72) (cond (Nat.beq x 70) (some (.istore 7, 72, 0, 0)) none) (cond (Nat.blt x 74) (cond (Nat.beq x 72) (some (.iload 7, 74, 0, 0)) none) (cond (Nat.beq x 74) (some (.iload_n 2, 75, 0, 0)) none))) (cond (Nat.blt x 79) (cond (Nat.blt x 78) (cond (Nat.beq x 75) (some (.if_icmp .gt 36, 78, 111, 0)) none) (cond (Nat.beq x 78) (some (.aload_n 0, 79, 0, 0)) none)) (cond (Nat.blt x 82) (cond (Nat.beq x 79) (some (.getfield 23, 82, 0, 0)) none) (cond (Nat.beq x 82) (some (.aload_n 0, 83, 0, 0)) none))))) (cond (Nat.blt x 98) (cond (Nat.blt x 89) (cond (Nat.blt x 86) (cond (Nat.beq x 83) (some (.getfield 10, 86, 0, 0)) none) (cond (Nat.blt x 87) (cond (Nat.beq x 86) (some (.iload_n 3, 87, 0, 0)) none) (cond (Nat.beq x 87) (some (.iload 4, 89, 0, 0)) none))) (cond (Nat.blt x 93) (cond (Nat.blt x 92) (cond (Nat.beq x 89) (some (.invokevirtual 185, 92, 0, 0)) none) (cond (Nat.beq x 92) (some (.pop, 93, 0, 0)) none)) (cond (Nat.blt x 95) (cond (Nat.beq x 93) (some (.aload 6, 95, 0, 0)) none) (cond (Nat.beq x 95) (some (.getfield 135, 98, 0, 0)) none)))) (cond (Nat.blt x 105) (cond (Nat.blt x 102) (cond (Nat.blt x 99) (cond (Nat.beq x 98) (some (.iconst 3, 99, 0, 3)) none) (cond (Nat.beq x 99) (some (.if_icmp .ne 6, 102, 105, 0)) none)) (cond (Nat.blt x 104) (cond (Nat.beq x 102) (some (.iload 7, 104, 0, 0)) none) (cond (Nat.beq x 104) (some (.ireturn, 105, 0, 0)) none))) (cond (Nat.blt x 111) (cond (Nat.blt x 108) (cond (Nat.beq x 105) (some (.iinc 7 1, 108, 0, 1)) none) (cond (Nat.beq x 108) (some (.goto (-36), 111, 72, 0)) none)) (cond (Nat.blt x 112) (cond (Nat.beq x 111) (some (.iconst (-1), 112, 0, (-1))) none) (cond (Nat.beq x 112) (some (.ireturn, 113, 0, 0)) none))))))
def ep_X8_digest (x : Nat) : Option (Instr × Nat × Nat × Int32) := cond (Nat.blt x 155) (cond (Nat.blt x 77) (cond (Nat.blt x 34) (cond (Nat.blt x 17) (cond (Nat.blt x 7) (cond (Nat.blt x 4) (cond (Nat.blt x 3) (cond (Nat.beq x 0) (some (.ldc2_w 278, 3, 0, 0)) none) (cond (Nat.beq x 3) (some (.lstore_n 1, 4, 0, 0)) none)) (cond (Nat.blt x 5) (cond (Nat.beq x 4) (some (.iconst 0, 5, 0, 0)) none) (cond (Nat.blt x 6) (cond (Nat.beq x 5) (some (.istore_n 3, 6, 0, 0)) none) (cond (Nat.beq x 6) (some (.iload_n 3, 7, 0, 0)) none)))) (cond (Nat.blt x 12) (cond (Nat.blt x 9) (cond (Nat.beq x 7) (some (.bipush 11, 9, 0, 11)) none) (cond (Nat.beq x 9) (some (.if_icmp .ge 22, 12, 31, 0)) none)) (cond (Nat.blt x 13) (cond (Nat.beq x 12) (some (.lload_n 1, 13, 0, 0)) none) (cond (Nat.blt x 16) (cond (Nat.beq x 13) (some (.ldc2_w 280, 16, 0, 0)) none) (cond (Nat.beq x 16) (some (.lmul, 17, 0, 0)) none))))) (cond (Nat.blt x 24) (cond (Nat.blt x 19) (cond (Nat.blt x 18) (cond (Nat.beq x 17) (some (.aload_n 0, 18, 0, 0)) none) (cond (Nat.beq x 18) (some (.iload_n 3, 19, 0, 0)) none)) (cond (Nat.blt x 22) (cond (Nat.beq x 19) (some (.invokevirtual 282, 22, 0, 0)) none) (cond (Nat.blt x 23) (cond (Nat.beq x 22) (some (.i2l, 23, 0, 0)) none) (cond (Nat.beq x 23) (some (.ladd, 24, 0, 0)) none)))) (cond (Nat.blt x 31) (cond (Nat.blt x 25) (cond (Nat.beq x 24) (some (.lstore_n 1, 25, 0, 0)) none) (cond (Nat.blt x 28) (cond (Nat.beq x 25) (some (.iinc 3 1, 28, 0, 1)) none) (cond (Nat.beq x 28) (some (.goto (-22), 31, 6, 0)) none))) (cond (Nat.blt x 32) (cond (Nat.beq x 31) (some (.iconst 0, 32, 0, 0)) none) (cond (Nat.blt x 33) (cond (Nat.beq x 32) (some (.istore_n 3, 33, 0, 0)) none) (cond (Nat.beq x 33) (some (.iload_n 3, 34, 0, 0)) none)))))) (cond (Nat.blt x 55) (cond (Nat.blt x 44) (cond (Nat.blt x 39) (cond (Nat.blt x 36) (cond (Nat.beq x 34) (some (.bipush 15, 36, 0, 15)) none) (cond (Nat.beq x 36) (some (.if_icmp .ge 40, 39, 76, 0)) none)) (cond (Nat.blt x 40) (cond (Nat.beq x 39) (some (.iconst 0, 40, 0, 0)) none) (cond (Nat.blt x 42) (cond (Nat.beq x 40) (some (.istore 4, 42, 0, 0)) none) (cond (Nat.beq x 42) (some (.iload 4, 44, 0, 0)) none)))) (cond (Nat.blt x 50) (cond (Nat.blt x 46) (cond (Nat.beq x 44) (some (.bipush 6, 46, 0, 6)) none) (cond (Nat.blt x 49) (cond (Nat.beq x 46) (some (.if_icmp .ge 24, 49, 70, 0)) none) (cond (Nat.beq x 49) (some (.lload_n 1, 50, 0, 0)) none))) (cond (Nat.blt x 53) (cond (Nat.beq x 50) (some (.ldc2_w 280, 53, 0, 0)) none) (cond (Nat.blt x 54) (cond (Nat.beq x 53) (some (.lmul, 54, 0, 0)) none) (cond (Nat.beq x 54) (some (.aload_n 0, 55, 0, 0)) none))))) (cond (Nat.blt x 63) (cond (Nat.blt x 58) (cond (Nat.blt x 56) (cond (Nat.beq x 55) (some (.iload_n 3, 56, 0, 0)) none) (cond (Nat.beq x 56) (some (.iload 4, 58, 0, 0)) none)) (cond (Nat.blt x 61) (cond (Nat.beq x 58) (some (.invokevirtual 285, 61, 0, 0)) none) (cond (Nat.blt x 62) (cond (Nat.beq x 61) (some (.i2l, 62, 0, 0)) none) (cond (Nat.beq x 62) (some (.ladd, 63, 0, 0)) none)))) (cond (Nat.blt x 70) (cond (Nat.blt x 64) (cond (Nat.beq x 63) (some (.lstore_n 1, 64, 0, 0)) none) (cond (Nat.blt x 67) (cond (Nat.beq x 64) (some (.iinc 4 1, 67, 0, 1)) none) (cond (Nat.beq x 67) (some (.goto (-25), 70, 42, 0)) none))) (cond (Nat.blt x 73) (cond (Nat.beq x 70) (some (.iinc 3 1, 73, 0, 1)) none) (cond (Nat.blt x 76) (cond (Nat.beq x 73) (some (.goto (-40), 76, 33, 0)) none) (cond (Nat.beq x 76) (some (.iconst 0, 77, 0, 0)) none))))))) (cond (Nat.blt x 114) (cond (Nat.blt x 96) (cond (Nat.blt x 86) (cond (Nat.blt x 79) (cond (Nat.blt x 78) (cond (Nat.beq x 77) (some (.istore_n 3, 78, 0, 0)) none) (cond (Nat.beq x 78) (some (.iload_n 3, 79, 0, 0)) none)) (cond (Nat.blt x 80) (cond (Nat.beq x 79) (some (.aload_n 0, 80, 0, 0)) none) (cond (Nat.blt x 83) (cond (Nat.beq x 80) (some (.getfield 19, 83, 0, 0)) none) (cond (Nat.beq x 83) (some (.getfield 102, 86, 0, 0)) none)))) (cond (Nat.blt x 90) (cond (Nat.blt x 89) (cond (Nat.beq x 86) (some (.if_icmp .ge 53, 89, 139, 0)) none) (cond (Nat.beq x 89) (some (.iconst 0, 90, 0, 0)) none)) (cond (Nat.blt x 92) (cond (Nat.beq x 90) (some (.istore 4, 92, 0, 0)) none) (cond (Nat.blt x 94) (cond (Nat.beq x 92) (some (.iload 4, 94, 0, 0)) none) (cond (Nat.beq x 94) (some (.bipush 6, 96, 0, 6)) none))))) (cond (Nat.blt x 105) (cond (Nat.blt x 100) (cond (Nat.blt x 99) (cond (Nat.beq x 96) (some (.if_icmp .ge 24, 99, 120, 0)) none) (cond (Nat.beq x 99) (some (.lload_n 1, 100, 0, 0)) none)) (cond (Nat.blt x 103) (cond (Nat.beq x 100) (some (.ldc2_w 280, 103, 0, 0)) none) (cond (Nat.blt x 104) (cond (Nat.beq x 103) (some (.lmul, 104, 0, 0)) none) (cond (Nat.beq x 104) (some (.aload_n 0, 105, 0, 0)) none)))) (cond (Nat.blt x 111) (cond (Nat.blt x 106) (cond (Nat.beq x 105) (some (.iload_n 3, 106, 0, 0)) none) (cond (Nat.blt x 108) (cond (Nat.beq x 106) (some (.iload 4, 108, 0, 0)) none) (cond (Nat.beq x 108) (some (.invokevirtual 288, 111, 0, 0)) none))) (cond (Nat.blt x 112) (cond (Nat.beq x 111) (some (.i2l, 112, 0, 0)) none) (cond (Nat.blt x 113) (cond (Nat.beq x 112) (some (.ladd, 113, 0, 0)) none) (cond (Nat.beq x 113) (some (.lstore_n 1, 114, 0, 0)) none)))))) (cond (Nat.blt x 133) (cond (Nat.blt x 125) (cond (Nat.blt x 120) (cond (Nat.blt x 117) (cond (Nat.beq x 114) (some (.iinc 4 1, 117, 0, 1)) none) (cond (Nat.beq x 117) (some (.goto (-25), 120, 92, 0)) none)) (cond (Nat.blt x 121) (cond (Nat.beq x 120) (some (.lload_n 1, 121, 0, 0)) none) (cond (Nat.blt x 124) (cond (Nat.beq x 121) (some (.ldc2_w 280, 124, 0, 0)) none) (cond (Nat.beq x 124) (some (.lmul, 125, 0, 0)) none)))) (cond (Nat.blt x 130) (cond (Nat.blt x 126) (cond (Nat.beq x 125) (some (.aload_n 0, 126, 0, 0)) none) (cond (Nat.blt x 127) (cond (Nat.beq x 126) (some (.iload_n 3, 127, 0, 0)) none) (cond (Nat.beq x 127) (some (.invokevirtual 291, 130, 0, 0)) none))) (cond (Nat.blt x 131) (cond (Nat.beq x 130) (some (.i2l, 131, 0, 0)) none) (cond (Nat.blt x 132) (cond (Nat.beq x 131) (some (.ladd, 132, 0, 0)) none) (cond (Nat.beq x 132) (some (.lstore_n 1, 133, 0, 0)) none))))) (cond (Nat.blt x 142) (cond (Nat.blt x 139) (cond (Nat.blt x 136) (cond (Nat.beq x 133) (some (.iinc 3 1, 136, 0, 1)) none) (cond (Nat.beq x 136) (some (.goto (-58), 139, 78, 0)) none)) (cond (Nat.blt x 140) (cond (Nat.beq x 139) (some (.iconst 0, 140, 0, 0)) none) (cond (Nat.blt x 141) (cond (Nat.beq x 140) (some (.istore_n 3, 141, 0, 0)) none) (cond (Nat.beq x 141) (some (.iload_n 3, 142, 0, 0)) none)))) (cond (Nat.blt x 149) (cond (Nat.blt x 143) (cond (Nat.beq x 142) (some (.aload_n 0, 143, 0, 0)) none) (cond (Nat.blt x 146) (cond (Nat.beq x 143) (some (.getfield 19, 146, 0, 0)) none) (cond (Nat.beq x 146) (some (.getfield 109, 149, 0, 0)) none))) (cond (Nat.blt x 152) (cond (Nat.beq x 149) (some (.if_icmp .ge 95, 152, 244, 0)) none) (cond (Nat.blt x 153) (cond (Nat.beq x 152) (some (.iconst 0, 153, 0, 0)) none) (cond (Nat.beq x 153) (some (.istore 4, 155, 0, 0)) none)))))))) (cond (Nat.blt x 227) (cond (Nat.blt x 191) (cond (Nat.blt x 174) (cond (Nat.blt x 166) (cond (Nat.blt x 159) (cond (Nat.blt x 157) (cond (Nat.beq x 155) (some (.iload 4, 157, 0, 0)) none) (cond (Nat.beq x 157) (some (.bipush 15, 159, 0, 15)) none)) (cond (Nat.blt x 162) (cond (Nat.beq x 159) (some (.if_icmp .ge 24, 162, 183, 0)) none) (cond (Nat.blt x 163) (cond (Nat.beq x 162) (some (.lload_n 1, 163, 0, 0)) none) (cond (Nat.beq x 163) (some (.ldc2_w 280, 166, 0, 0)) none)))) (cond (Nat.blt x 168) (cond (Nat.blt x 167) (cond (Nat.beq x 166) (some (.lmul, 167, 0, 0)) none) (cond (Nat.beq x 167) (some (.aload_n 0, 168, 0, 0)) none)) (cond (Nat.blt x 169) (cond (Nat.beq x 168) (some (.iload_n 3, 169, 0, 0)) none) (cond (Nat.blt x 171) (cond (Nat.beq x 169) (some (.iload 4, 171, 0, 0)) none) (cond (Nat.beq x 171) (some (.invokevirtual 294, 174, 0, 0)) none))))) (cond (Nat.blt x 183) (cond (Nat.blt x 176) (cond (Nat.blt x 175) (cond (Nat.beq x 174) (some (.i2l, 175, 0, 0)) none) (cond (Nat.beq x 175) (some (.ladd, 176, 0, 0)) none)) (cond (Nat.blt x 177) (cond (Nat.beq x 176) (some (.lstore_n 1, 177, 0, 0)) none) (cond (Nat.blt x 180) (cond (Nat.beq x 177) (some (.iinc 4 1, 180, 0, 1)) none) (cond (Nat.beq x 180) (some (.goto (-25), 183, 155, 0)) none)))) (cond (Nat.blt x 188) (cond (Nat.blt x 184) (cond (Nat.beq x 183) (some (.lload_n 1, 184, 0, 0)) none) (cond (Nat.blt x 187) (cond (Nat.beq x 184) (some (.ldc2_w 280, 187, 0, 0)) none) (cond (Nat.beq x 187) (some (.lmul, 188, 0, 0)) none))) (cond (Nat.blt x 189) (cond (Nat.beq x 188) (some (.aload_n 0, 189, 0, 0)) none) (cond (Nat.blt x 190) (cond (Nat.beq x 189) (some (.iload_n 3, 190, 0, 0)) none) (cond (Nat.beq x 190) (some (.aload_n 0, 191, 0, 0)) none)))))) (cond (Nat.blt x 212) (cond (Nat.blt x 202) (cond (Nat.blt x 195) (cond (Nat.blt x 192) (cond (Nat.beq x 191) (some (.aload_n 0, 192, 0, 0)) none) (cond (Nat.beq x 192) (some (.getfield 19, 195, 0, 0)) none)) (cond (Nat.blt x 196) (cond (Nat.beq x 195) (some (.iload_n 3, 196, 0, 0)) none) (cond (Nat.blt x 199) (cond (Nat.beq x 196) (some (.invokevirtual 91, 199, 0, 0)) none) (cond (Nat.beq x 199) (some (.invokevirtual 297, 202, 0, 0)) none)))) (cond (Nat.blt x 207) (cond (Nat.blt x 205) (cond (Nat.beq x 202) (some (.invokevirtual 300, 205, 0, 0)) none) (cond (Nat.blt x 206) (cond (Nat.beq x 205) (some (.i2l, 206, 0, 0)) none) (cond (Nat.beq x 206) (some (.ladd, 207, 0, 0)) none))) (cond (Nat.blt x 208) (cond (Nat.beq x 207) (some (.lstore_n 1, 208, 0, 0)) none) (cond (Nat.blt x 209) (cond (Nat.beq x 208) (some (.lload_n 1, 209, 0, 0)) none) (cond (Nat.beq x 209) (some (.ldc2_w 280, 212, 0, 0)) none))))) (cond (Nat.blt x 219) (cond (Nat.blt x 214) (cond (Nat.blt x 213) (cond (Nat.beq x 212) (some (.lmul, 213, 0, 0)) none) (cond (Nat.beq x 213) (some (.aload_n 0, 214, 0, 0)) none)) (cond (Nat.blt x 215) (cond (Nat.beq x 214) (some (.iload_n 3, 215, 0, 0)) none) (cond (Nat.blt x 218) (cond (Nat.beq x 215) (some (.invokevirtual 303, 218, 0, 0)) none) (cond (Nat.beq x 218) (some (.i2l, 219, 0, 0)) none)))) (cond (Nat.blt x 222) (cond (Nat.blt x 220) (cond (Nat.beq x 219) (some (.ladd, 220, 0, 0)) none) (cond (Nat.blt x 221) (cond (Nat.beq x 220) (some (.lstore_n 1, 221, 0, 0)) none) (cond (Nat.beq x 221) (some (.lload_n 1, 222, 0, 0)) none))) (cond (Nat.blt x 225) (cond (Nat.beq x 222) (some (.ldc2_w 280, 225, 0, 0)) none) (cond (Nat.blt x 226) (cond (Nat.beq x 225) (some (.lmul, 226, 0, 0)) none) (cond (Nat.beq x 226) (some (.aload_n 0, 227, 0, 0)) none))))))) (cond (Nat.blt x 263) (cond (Nat.blt x 244) (cond (Nat.blt x 235) (cond (Nat.blt x 230) (cond (Nat.blt x 228) (cond (Nat.beq x 227) (some (.iload_n 3, 228, 0, 0)) none) (cond (Nat.beq x 228) (some (.bipush 6, 230, 0, 6)) none)) (cond (Nat.blt x 231) (cond (Nat.beq x 230) (some (.iconst 1, 231, 0, 1)) none) (cond (Nat.blt x 232) (cond (Nat.beq x 231) (some (.iconst (-1), 232, 0, (-1))) none) (cond (Nat.beq x 232) (some (.invokevirtual 306, 235, 0, 0)) none)))) (cond (Nat.blt x 237) (cond (Nat.blt x 236) (cond (Nat.beq x 235) (some (.i2l, 236, 0, 0)) none) (cond (Nat.beq x 236) (some (.ladd, 237, 0, 0)) none)) (cond (Nat.blt x 238) (cond (Nat.beq x 237) (some (.lstore_n 1, 238, 0, 0)) none) (cond (Nat.blt x 241) (cond (Nat.beq x 238) (some (.iinc 3 1, 241, 0, 1)) none) (cond (Nat.beq x 241) (some (.goto (-100), 244, 141, 0)) none))))) (cond (Nat.blt x 251) (cond (Nat.blt x 246) (cond (Nat.blt x 245) (cond (Nat.beq x 244) (some (.iconst 0, 245, 0, 0)) none) (cond (Nat.beq x 245) (some (.istore_n 3, 246, 0, 0)) none)) (cond (Nat.blt x 247) (cond (Nat.beq x 246) (some (.iload_n 3, 247, 0, 0)) none) (cond (Nat.blt x 248) (cond (Nat.beq x 247) (some (.aload_n 0, 248, 0, 0)) none) (cond (Nat.beq x 248) (some (.getfield 10, 251, 0, 0)) none)))) (cond (Nat.blt x 258) (cond (Nat.blt x 254) (cond (Nat.beq x 251) (some (.getfield 68, 254, 0, 0)) none) (cond (Nat.blt x 257) (cond (Nat.beq x 254) (some (.if_icmp .ge 44, 257, 298, 0)) none) (cond (Nat.beq x 257) (some (.lload_n 1, 258, 0, 0)) none))) (cond (Nat.blt x 261) (cond (Nat.beq x 258) (some (.ldc2_w 280, 261, 0, 0)) none) (cond (Nat.blt x 262) (cond (Nat.beq x 261) (some (.lmul, 262, 0, 0)) none) (cond (Nat.beq x 262) (some (.aload_n 0, 263, 0, 0)) none)))))) (cond (Nat.blt x 282) (cond (Nat.blt x 274) (cond (Nat.blt x 265) (cond (Nat.blt x 264) (cond (Nat.beq x 263) (some (.iload_n 3, 264, 0, 0)) none) (cond (Nat.beq x 264) (some (.aload_n 0, 265, 0, 0)) none)) (cond (Nat.blt x 268) (cond (Nat.beq x 265) (some (.getfield 19, 268, 0, 0)) none) (cond (Nat.blt x 271) (cond (Nat.beq x 268) (some (.getfield 84, 271, 0, 0)) none) (cond (Nat.beq x 271) (some (.invokevirtual 309, 274, 0, 0)) none)))) (cond (Nat.blt x 277) (cond (Nat.blt x 275) (cond (Nat.beq x 274) (some (.i2l, 275, 0, 0)) none) (cond (Nat.blt x 276) (cond (Nat.beq x 275) (some (.ladd, 276, 0, 0)) none) (cond (Nat.beq x 276) (some (.lstore_n 1, 277, 0, 0)) none))) (cond (Nat.blt x 278) (cond (Nat.beq x 277) (some (.lload_n 1, 278, 0, 0)) none) (cond (Nat.blt x 281) (cond (Nat.beq x 278) (some (.ldc2_w 280, 281, 0, 0)) none) (cond (Nat.beq x 281) (some (.lmul, 282, 0, 0)) none))))) (cond (Nat.blt x 290) (cond (Nat.blt x 284) (cond (Nat.blt x 283) (cond (Nat.beq x 282) (some (.aload_n 0, 283, 0, 0)) none) (cond (Nat.beq x 283) (some (.iload_n 3, 284, 0, 0)) none)) (cond (Nat.blt x 286) (cond (Nat.beq x 284) (some (.bipush 100, 286, 0, 100)) none) (cond (Nat.blt x 289) (cond (Nat.beq x 286) (some (.invokevirtual 309, 289, 0, 0)) none) (cond (Nat.beq x 289) (some (.i2l, 290, 0, 0)) none)))) (cond (Nat.blt x 295) (cond (Nat.blt x 291) (cond (Nat.beq x 290) (some (.ladd, 291, 0, 0)) none) (cond (Nat.blt x 292) (cond (Nat.beq x 291) (some (.lstore_n 1, 292, 0, 0)) none) (cond (Nat.beq x 292) (some (.iinc 3 1, 295, 0, 1)) none))) (cond (Nat.blt x 298) (cond (Nat.beq x 295) (some (.goto (-49), 298, 246, 0)) none) (cond (Nat.blt x 299) (cond (Nat.beq x 298) (some (.lload_n 1, 299, 0, 0)) none) (cond (Nat.beq x 299) (some (.lreturn, 300, 0, 0)) none))))))))
def ep_X8_portCellOf (x : Nat) : Option (Instr × Nat × Nat × Int32) := cond (Nat.blt x 5) (cond (Nat.blt x 1) (cond (Nat.beq x 0) (some (.aload_n 0, 1, 0, 0)) none) (cond (Nat.blt x 4) (cond (Nat.beq x 1) (some (.getfield 10, 4, 0, 0)) none) (cond (Nat.beq x 4) (some (.aload_n 1, 5, 0, 0)) none))) (cond (Nat.blt x 11) (cond (Nat.blt x 8) (cond (Nat.beq x 5) (some (.getfield 211, 8, 0, 0)) none) (cond (Nat.beq x 8) (some (.invokevirtual 75, 11, 0, 0)) none)) (cond (Nat.blt x 14) (cond (Nat.beq x 11) (some (.getfield 312, 14, 0, 0)) none) (cond (Nat.beq x 14) (some (.ireturn, 15, 0, 0)) none)))
def ep_X8_channelsNeeded (x : Nat) : Option (Instr × Nat × Nat × Int32) := cond (Nat.blt x 22) (cond (Nat.blt x 9) (cond (Nat.blt x 3) (cond (Nat.blt x 1) (cond (Nat.beq x 0) (some (.iconst 0, 1, 0, 0)) none) (cond (Nat.blt x 2) (cond (Nat.beq x 1) (some (.istore_n 2, 2, 0, 0)) none) (cond (Nat.beq x 2) (some (.iload_n 2, 3, 0, 0)) none))) (cond (Nat.blt x 5) (cond (Nat.beq x 3) (some (.bipush 15, 5, 0, 15)) none) (cond (Nat.blt x 8) (cond (Nat.beq x 5) (some (.if_icmp .ge 29, 8, 34, 0)) none) (cond (Nat.beq x 8) (some (.aload_n 0, 9, 0, 0)) none)))) (cond (Nat.blt x 14) (cond (Nat.blt x 12) (cond (Nat.beq x 9) (some (.getfield 29, 12, 0, 0)) none) (cond (Nat.blt x 13) (cond (Nat.beq x 12) (some (.iload_n 2, 13, 0, 0)) none) (cond (Nat.beq x 13) (some (.aload_n 1, 14, 0, 0)) none))) (cond (Nat.blt x 18) (cond (Nat.blt x 15) (cond (Nat.beq x 14) (some (.aload_n 0, 15, 0, 0)) none) (cond (Nat.beq x 15) (some (.getfield 19, 18, 0, 0)) none)) (cond (Nat.blt x 19) (cond (Nat.beq x 18) (some (.iload_n 2, 19, 0, 0)) none) (cond (Nat.beq x 19) (some (.invokevirtual 33, 22, 0, 0)) none))))) (cond (Nat.blt x 38) (cond (Nat.blt x 31) (cond (Nat.blt x 25) (cond (Nat.beq x 22) (some (.invokestatic 313, 25, 0, 0)) none) (cond (Nat.blt x 28) (cond (Nat.beq x 25) (some (.invokevirtual 260, 28, 0, 0)) none) (cond (Nat.beq x 28) (some (.iinc 2 1, 31, 0, 1)) none))) (cond (Nat.blt x 34) (cond (Nat.beq x 31) (some (.goto (-29), 34, 2, 0)) none) (cond (Nat.blt x 35) (cond (Nat.beq x 34) (some (.aload_n 0, 35, 0, 0)) none) (cond (Nat.beq x 35) (some (.getfield 29, 38, 0, 0)) none)))) (cond (Nat.blt x 43) (cond (Nat.blt x 39) (cond (Nat.beq x 38) (some (.aload_n 1, 39, 0, 0)) none) (cond (Nat.blt x 42) (cond (Nat.beq x 39) (some (.getfield 207, 42, 0, 0)) none) (cond (Nat.beq x 42) (some (.aload_n 0, 43, 0, 0)) none))) (cond (Nat.blt x 47) (cond (Nat.blt x 44) (cond (Nat.beq x 43) (some (.aload_n 1, 44, 0, 0)) none) (cond (Nat.beq x 44) (some (.invokevirtual 297, 47, 0, 0)) none)) (cond (Nat.blt x 50) (cond (Nat.beq x 47) (some (.invokevirtual 263, 50, 0, 0)) none) (cond (Nat.beq x 50) (some (.ireturn, 51, 0, 0)) none)))))
def ep_X8_breakingPrice (x : Nat) : Option (Instr × Nat × Nat × Int32) := cond (Nat.blt x 23) (cond (Nat.blt x 10) (cond (Nat.blt x 5) (cond (Nat.blt x 1) (cond (Nat.beq x 0) (some (.aload_n 0, 1, 0, 0)) none) (cond (Nat.blt x 2) (cond (Nat.beq x 1) (some (.aload_n 1, 2, 0, 0)) none) (cond (Nat.beq x 2) (some (.invokestatic 256, 5, 0, 0)) none))) (cond (Nat.blt x 8) (cond (Nat.beq x 5) (some (.ifCond .eq 5, 8, 10, 0)) none) (cond (Nat.blt x 9) (cond (Nat.beq x 8) (some (.iconst 0, 9, 0, 0)) none) (cond (Nat.beq x 9) (some (.ireturn, 10, 0, 0)) none)))) (cond (Nat.blt x 17) (cond (Nat.blt x 11) (cond (Nat.beq x 10) (some (.aload_n 1, 11, 0, 0)) none) (cond (Nat.blt x 14) (cond (Nat.beq x 11) (some (.getfield 45, 14, 0, 0)) none) (cond (Nat.beq x 14) (some (.ifCond .ne 20, 17, 34, 0)) none))) (cond (Nat.blt x 19) (cond (Nat.blt x 18) (cond (Nat.beq x 17) (some (.aload_n 0, 18, 0, 0)) none) (cond (Nat.beq x 18) (some (.aload_n 1, 19, 0, 0)) none)) (cond (Nat.blt x 22) (cond (Nat.beq x 19) (some (.invokevirtual 317, 22, 0, 0)) none) (cond (Nat.beq x 22) (some (.iconst 1, 23, 0, 1)) none))))) (cond (Nat.blt x 35) (cond (Nat.blt x 30) (cond (Nat.blt x 26) (cond (Nat.beq x 23) (some (.invokevirtual 320, 26, 0, 0)) none) (cond (Nat.blt x 27) (cond (Nat.beq x 26) (some (.iconst (-1), 27, 0, (-1))) none) (cond (Nat.beq x 27) (some (.if_icmp .ne 7, 30, 34, 0)) none))) (cond (Nat.blt x 31) (cond (Nat.beq x 30) (some (.iconst 1, 31, 0, 1)) none) (cond (Nat.blt x 34) (cond (Nat.beq x 31) (some (.goto 4, 34, 35, 0)) none) (cond (Nat.beq x 34) (some (.iconst 0, 35, 0, 0)) none)))) (cond (Nat.blt x 40) (cond (Nat.blt x 36) (cond (Nat.beq x 35) (some (.istore_n 2, 36, 0, 0)) none) (cond (Nat.blt x 37) (cond (Nat.beq x 36) (some (.iload_n 2, 37, 0, 0)) none) (cond (Nat.beq x 37) (some (.ifCond .eq 7, 40, 44, 0)) none))) (cond (Nat.blt x 44) (cond (Nat.blt x 41) (cond (Nat.beq x 40) (some (.iconst 1, 41, 0, 1)) none) (cond (Nat.beq x 41) (some (.goto 4, 44, 45, 0)) none)) (cond (Nat.blt x 45) (cond (Nat.beq x 44) (some (.iconst (-1), 45, 0, (-1))) none) (cond (Nat.beq x 45) (some (.ireturn, 46, 0, 0)) none)))))
def ep_X8_canEnter (x : Nat) : Option (Instr × Nat × Nat × Int32) := cond (Nat.blt x 13) (cond (Nat.blt x 7) (cond (Nat.blt x 1) (cond (Nat.beq x 0) (some (.aload_n 1, 1, 0, 0)) none) (cond (Nat.blt x 4) (cond (Nat.beq x 1) (some (.getfield 45, 4, 0, 0)) none) (cond (Nat.beq x 4) (some (.ifCond .ne 20, 7, 24, 0)) none))) (cond (Nat.blt x 9) (cond (Nat.blt x 8) (cond (Nat.beq x 7) (some (.aload_n 0, 8, 0, 0)) none) (cond (Nat.beq x 8) (some (.aload_n 1, 9, 0, 0)) none)) (cond (Nat.blt x 12) (cond (Nat.beq x 9) (some (.invokevirtual 195, 12, 0, 0)) none) (cond (Nat.beq x 12) (some (.iconst 1, 13, 0, 1)) none)))) (cond (Nat.blt x 20) (cond (Nat.blt x 16) (cond (Nat.beq x 13) (some (.invokevirtual 320, 16, 0, 0)) none) (cond (Nat.blt x 17) (cond (Nat.beq x 16) (some (.iconst (-1), 17, 0, (-1))) none) (cond (Nat.beq x 17) (some (.if_icmp .ne 7, 20, 24, 0)) none))) (cond (Nat.blt x 24) (cond (Nat.blt x 21) (cond (Nat.beq x 20) (some (.iconst 1, 21, 0, 1)) none) (cond (Nat.beq x 21) (some (.goto 4, 24, 25, 0)) none)) (cond (Nat.blt x 25) (cond (Nat.beq x 24) (some (.iconst 0, 25, 0, 0)) none) (cond (Nat.beq x 25) (some (.ireturn, 26, 0, 0)) none))))
def ep_X8_canTake (x : Nat) : Option (Instr × Nat × Nat × Int32) := cond (Nat.blt x 12) (cond (Nat.blt x 5) (cond (Nat.blt x 1) (cond (Nat.beq x 0) (some (.aload_n 1, 1, 0, 0)) none) (cond (Nat.blt x 4) (cond (Nat.beq x 1) (some (.getfield 135, 4, 0, 0)) none) (cond (Nat.beq x 4) (some (.iconst 3, 5, 0, 3)) none))) (cond (Nat.blt x 8) (cond (Nat.beq x 5) (some (.if_icmp .eq 18, 8, 23, 0)) none) (cond (Nat.blt x 9) (cond (Nat.beq x 8) (some (.aload_n 1, 9, 0, 0)) none) (cond (Nat.beq x 9) (some (.getfield 207, 12, 0, 0)) none)))) (cond (Nat.blt x 19) (cond (Nat.blt x 13) (cond (Nat.beq x 12) (some (.aload_n 0, 13, 0, 0)) none) (cond (Nat.blt x 16) (cond (Nat.beq x 13) (some (.getfield 171, 16, 0, 0)) none) (cond (Nat.beq x 16) (some (.if_icmp .ne 7, 19, 23, 0)) none))) (cond (Nat.blt x 23) (cond (Nat.blt x 20) (cond (Nat.beq x 19) (some (.iconst 1, 20, 0, 1)) none) (cond (Nat.beq x 20) (some (.goto 4, 23, 24, 0)) none)) (cond (Nat.blt x 24) (cond (Nat.beq x 23) (some (.iconst 0, 24, 0, 0)) none) (cond (Nat.beq x 24) (some (.ireturn, 25, 0, 0)) none))))
def ep_X8_isWeather (x : Nat) : Option (Instr × Nat × Nat × Int32) := cond (Nat.blt x 12) (cond (Nat.blt x 4) (cond (Nat.blt x 1) (cond (Nat.beq x 0) (some (.iload_n 0, 1, 0, 0)) none) (cond (Nat.blt x 2) (cond (Nat.beq x 1) (some (.iconst 0, 2, 0, 0)) none) (cond (Nat.beq x 2) (some (.bipush 9, 4, 0, 9)) none))) (cond (Nat.blt x 10) (cond (Nat.blt x 7) (cond (Nat.beq x 4) (some (.invokestatic 37, 7, 0, 0)) none) (cond (Nat.beq x 7) (some (.ifCond .eq 16, 10, 23, 0)) none)) (cond (Nat.blt x 11) (cond (Nat.beq x 10) (some (.iload_n 1, 11, 0, 0)) none) (cond (Nat.beq x 11) (some (.iconst (-1), 12, 0, (-1))) none)))) (cond (Nat.blt x 19) (cond (Nat.blt x 13) (cond (Nat.beq x 12) (some (.iconst 3, 13, 0, 3)) none) (cond (Nat.blt x 16) (cond (Nat.beq x 13) (some (.invokestatic 37, 16, 0, 0)) none) (cond (Nat.beq x 16) (some (.ifCond .eq 7, 19, 23, 0)) none))) (cond (Nat.blt x 23) (cond (Nat.blt x 20) (cond (Nat.beq x 19) (some (.iconst 1, 20, 0, 1)) none) (cond (Nat.beq x 20) (some (.goto 4, 23, 24, 0)) none)) (cond (Nat.blt x 24) (cond (Nat.beq x 23) (some (.iconst 0, 24, 0, 0)) none) (cond (Nat.beq x 24) (some (.ireturn, 25, 0, 0)) none))))
def ep_X8_within (x : Nat) : Option (Instr × Nat × Nat × Int32) := cond (Nat.blt x 7) (cond (Nat.blt x 2) (cond (Nat.blt x 1) (cond (Nat.beq x 0) (some (.iload_n 0, 1, 0, 0)) none) (cond (Nat.beq x 1) (some (.iload_n 1, 2, 0, 0)) none)) (cond (Nat.blt x 5) (cond (Nat.beq x 2) (some (.if_icmp .lt 12, 5, 14, 0)) none) (cond (Nat.blt x 6) (cond (Nat.beq x 5) (some (.iload_n 0, 6, 0, 0)) none) (cond (Nat.beq x 6) (some (.iload_n 2, 7, 0, 0)) none)))) (cond (Nat.blt x 11) (cond (Nat.blt x 10) (cond (Nat.beq x 7) (some (.if_icmp .gt 7, 10, 14, 0)) none) (cond (Nat.beq x 10) (some (.iconst 1, 11, 0, 1)) none)) (cond (Nat.blt x 14) (cond (Nat.beq x 11) (some (.goto 4, 14, 15, 0)) none) (cond (Nat.blt x 15) (cond (Nat.beq x 14) (some (.iconst 0, 15, 0, 0)) none) (cond (Nat.beq x 15) (some (.ireturn, 16, 0, 0)) none))))
def ep_X8_demandArgument (x : Nat) : Option (Instr × Nat × Nat × Int32) := cond (Nat.blt x 8) (cond (Nat.blt x 4) (cond (Nat.blt x 1) (cond (Nat.beq x 0) (some (.iload_n 0, 1, 0, 0)) none) (cond (Nat.beq x 1) (some (.ifCond .ne 14, 4, 15, 0)) none)) (cond (Nat.blt x 7) (cond (Nat.beq x 4) (some (.new 324, 7, 0, 0)) none) (cond (Nat.beq x 7) (some (.dup, 8, 0, 0)) none))) (cond (Nat.blt x 14) (cond (Nat.blt x 11) (cond (Nat.beq x 8) (some (.ldc_w 326, 11, 0, 0)) none) (cond (Nat.beq x 11) (some (.invokespecial 328, 14, 0, 0)) none)) (cond (Nat.blt x 15) (cond (Nat.beq x 14) (some (.athrow, 15, 0, 0)) none) (cond (Nat.beq x 15) (some (.return_, 16, 0, 0)) none)))
def ep_X8_demandState (x : Nat) : Option (Instr × Nat × Nat × Int32) := cond (Nat.blt x 8) (cond (Nat.blt x 4) (cond (Nat.blt x 1) (cond (Nat.beq x 0) (some (.iload_n 0, 1, 0, 0)) none) (cond (Nat.beq x 1) (some (.ifCond .ne 14, 4, 15, 0)) none)) (cond (Nat.blt x 7) (cond (Nat.beq x 4) (some (.new 331, 7, 0, 0)) none) (cond (Nat.beq x 7) (some (.dup, 8, 0, 0)) none))) (cond (Nat.blt x 14) (cond (Nat.blt x 11) (cond (Nat.beq x 8) (some (.ldc_w 333, 11, 0, 0)) none) (cond (Nat.beq x 11) (some (.invokespecial 335, 14, 0, 0)) none)) (cond (Nat.blt x 15) (cond (Nat.beq x 14) (some (.athrow, 15, 0, 0)) none) (cond (Nat.beq x 15) (some (.return_, 16, 0, 0)) none)))
def ep_X8_neighbour (x : Nat) : Option (Instr × Nat × Nat × Int32) := cond (Nat.blt x 57) (cond (Nat.blt x 42) (cond (Nat.blt x 5) (cond (Nat.blt x 2) (cond (Nat.blt x 1) (cond (Nat.beq x 0) (some (.iload_n 0, 1, 0, 0)) none) (cond (Nat.beq x 1) (some (.iconst 5, 2, 0, 5)) none)) (cond (Nat.blt x 3) (cond (Nat.beq x 2) (some (.irem, 3, 0, 0)) none) (cond (Nat.blt x 4) (cond (Nat.beq x 3) (some (.istore_n 2, 4, 0, 0)) none) (cond (Nat.beq x 4) (some (.iload_n 1, 5, 0, 0)) none)))) (cond (Nat.blt x 37) (cond (Nat.blt x 36) (cond (Nat.beq x 5) (some (.tableswitch 83 0 3 #[31, 44, 57, 71], 36, 0, 0)) none) (cond (Nat.beq x 36) (some (.iload_n 0, 37, 0, 0)) none)) (cond (Nat.blt x 38) (cond (Nat.beq x 37) (some (.iconst 5, 38, 0, 5)) none) (cond (Nat.blt x 41) (cond (Nat.beq x 38) (some (.if_icmp .lt 9, 41, 47, 0)) none) (cond (Nat.beq x 41) (some (.iload_n 0, 42, 0, 0)) none))))) (cond (Nat.blt x 49) (cond (Nat.blt x 44) (cond (Nat.blt x 43) (cond (Nat.beq x 42) (some (.iconst 5, 43, 0, 5)) none) (cond (Nat.beq x 43) (some (.isub, 44, 0, 0)) none)) (cond (Nat.blt x 47) (cond (Nat.beq x 44) (some (.goto 4, 47, 48, 0)) none) (cond (Nat.blt x 48) (cond (Nat.beq x 47) (some (.iconst (-1), 48, 0, (-1))) none) (cond (Nat.beq x 48) (some (.ireturn, 49, 0, 0)) none)))) (cond (Nat.blt x 54) (cond (Nat.blt x 50) (cond (Nat.beq x 49) (some (.iload_n 2, 50, 0, 0)) none) (cond (Nat.blt x 51) (cond (Nat.beq x 50) (some (.iconst 4, 51, 0, 4)) none) (cond (Nat.beq x 51) (some (.if_icmp .ge 9, 54, 60, 0)) none))) (cond (Nat.blt x 55) (cond (Nat.beq x 54) (some (.iload_n 0, 55, 0, 0)) none) (cond (Nat.blt x 56) (cond (Nat.beq x 55) (some (.iconst 1, 56, 0, 1)) none) (cond (Nat.beq x 56) (some (.iadd, 57, 0, 0)) none)))))) (cond (Nat.blt x 75) (cond (Nat.blt x 65) (cond (Nat.blt x 61) (cond (Nat.blt x 60) (cond (Nat.beq x 57) (some (.goto 4, 60, 61, 0)) none) (cond (Nat.beq x 60) (some (.iconst (-1), 61, 0, (-1))) none)) (cond (Nat.blt x 62) (cond (Nat.beq x 61) (some (.ireturn, 62, 0, 0)) none) (cond (Nat.blt x 63) (cond (Nat.beq x 62) (some (.iload_n 0, 63, 0, 0)) none) (cond (Nat.beq x 63) (some (.bipush 10, 65, 0, 10)) none)))) (cond (Nat.blt x 70) (cond (Nat.blt x 68) (cond (Nat.beq x 65) (some (.if_icmp .ge 9, 68, 74, 0)) none) (cond (Nat.blt x 69) (cond (Nat.beq x 68) (some (.iload_n 0, 69, 0, 0)) none) (cond (Nat.beq x 69) (some (.iconst 5, 70, 0, 5)) none))) (cond (Nat.blt x 71) (cond (Nat.beq x 70) (some (.iadd, 71, 0, 0)) none) (cond (Nat.blt x 74) (cond (Nat.beq x 71) (some (.goto 4, 74, 75, 0)) none) (cond (Nat.beq x 74) (some (.iconst (-1), 75, 0, (-1))) none))))) (cond (Nat.blt x 82) (cond (Nat.blt x 77) (cond (Nat.blt x 76) (cond (Nat.beq x 75) (some (.ireturn, 76, 0, 0)) none) (cond (Nat.beq x 76) (some (.iload_n 2, 77, 0, 0)) none)) (cond (Nat.blt x 80) (cond (Nat.beq x 77) (some (.ifCond .le 9, 80, 86, 0)) none) (cond (Nat.blt x 81) (cond (Nat.beq x 80) (some (.iload_n 0, 81, 0, 0)) none) (cond (Nat.beq x 81) (some (.iconst 1, 82, 0, 1)) none)))) (cond (Nat.blt x 87) (cond (Nat.blt x 83) (cond (Nat.beq x 82) (some (.isub, 83, 0, 0)) none) (cond (Nat.blt x 86) (cond (Nat.beq x 83) (some (.goto 4, 86, 87, 0)) none) (cond (Nat.beq x 86) (some (.iconst (-1), 87, 0, (-1))) none))) (cond (Nat.blt x 88) (cond (Nat.beq x 87) (some (.ireturn, 88, 0, 0)) none) (cond (Nat.blt x 89) (cond (Nat.beq x 88) (some (.iconst (-1), 89, 0, (-1))) none) (cond (Nat.beq x 89) (some (.ireturn, 90, 0, 0)) none))))))
def ep_X8_distance (x : Nat) : Option (Instr × Nat × Nat × Int32) := cond (Nat.blt x 13) (cond (Nat.blt x 5) (cond (Nat.blt x 2) (cond (Nat.blt x 1) (cond (Nat.beq x 0) (some (.iload_n 0, 1, 0, 0)) none) (cond (Nat.beq x 1) (some (.iconst 5, 2, 0, 5)) none)) (cond (Nat.blt x 3) (cond (Nat.beq x 2) (some (.idiv, 3, 0, 0)) none) (cond (Nat.blt x 4) (cond (Nat.beq x 3) (some (.iload_n 1, 4, 0, 0)) none) (cond (Nat.beq x 4) (some (.iconst 5, 5, 0, 5)) none)))) (cond (Nat.blt x 10) (cond (Nat.blt x 6) (cond (Nat.beq x 5) (some (.idiv, 6, 0, 0)) none) (cond (Nat.blt x 7) (cond (Nat.beq x 6) (some (.isub, 7, 0, 0)) none) (cond (Nat.beq x 7) (some (.invokestatic 336, 10, 0, 0)) none))) (cond (Nat.blt x 11) (cond (Nat.beq x 10) (some (.istore_n 2, 11, 0, 0)) none) (cond (Nat.blt x 12) (cond (Nat.beq x 11) (some (.iload_n 0, 12, 0, 0)) none) (cond (Nat.beq x 12) (some (.iconst 5, 13, 0, 5)) none))))) (cond (Nat.blt x 18) (cond (Nat.blt x 15) (cond (Nat.blt x 14) (cond (Nat.beq x 13) (some (.irem, 14, 0, 0)) none) (cond (Nat.beq x 14) (some (.iload_n 1, 15, 0, 0)) none)) (cond (Nat.blt x 16) (cond (Nat.beq x 15) (some (.iconst 5, 16, 0, 5)) none) (cond (Nat.blt x 17) (cond (Nat.beq x 16) (some (.irem, 17, 0, 0)) none) (cond (Nat.beq x 17) (some (.isub, 18, 0, 0)) none)))) (cond (Nat.blt x 23) (cond (Nat.blt x 21) (cond (Nat.beq x 18) (some (.invokestatic 336, 21, 0, 0)) none) (cond (Nat.blt x 22) (cond (Nat.beq x 21) (some (.istore_n 3, 22, 0, 0)) none) (cond (Nat.beq x 22) (some (.iload_n 2, 23, 0, 0)) none))) (cond (Nat.blt x 24) (cond (Nat.beq x 23) (some (.iload_n 3, 24, 0, 0)) none) (cond (Nat.blt x 25) (cond (Nat.beq x 24) (some (.iadd, 25, 0, 0)) none) (cond (Nat.beq x 25) (some (.ireturn, 26, 0, 0)) none)))))
def ep_L_below (x : Nat) : Option (Instr × Nat × Nat × Int32) := cond (Nat.blt x 4) (cond (Nat.blt x 1) (cond (Nat.beq x 0) (some (.iload_n 0, 1, 0, 0)) none) (cond (Nat.blt x 3) (cond (Nat.beq x 1) (some (.ldc 7, 3, 0, 0)) none) (cond (Nat.beq x 3) (some (.iand, 4, 0, 0)) none))) (cond (Nat.blt x 5) (cond (Nat.beq x 4) (some (.iload_n 1, 5, 0, 0)) none) (cond (Nat.blt x 6) (cond (Nat.beq x 5) (some (.irem, 6, 0, 0)) none) (cond (Nat.beq x 6) (some (.ireturn, 7, 0, 0)) none)))
def ep_L_cell (x : Nat) : Option (Instr × Nat × Nat × Int32) := cond (Nat.blt x 9) (cond (Nat.blt x 3) (cond (Nat.blt x 1) (cond (Nat.beq x 0) (some (.iload_n 1, 1, 0, 0)) none) (cond (Nat.blt x 2) (cond (Nat.beq x 1) (some (.aload_n 0, 2, 0, 0)) none) (cond (Nat.beq x 2) (some (.arraylength, 3, 0, 0)) none))) (cond (Nat.blt x 7) (cond (Nat.blt x 6) (cond (Nat.beq x 3) (some (.if_icmp .ge 9, 6, 12, 0)) none) (cond (Nat.beq x 6) (some (.aload_n 0, 7, 0, 0)) none)) (cond (Nat.blt x 8) (cond (Nat.beq x 7) (some (.iload_n 1, 8, 0, 0)) none) (cond (Nat.beq x 8) (some (.iaload, 9, 0, 0)) none)))) (cond (Nat.blt x 15) (cond (Nat.blt x 12) (cond (Nat.beq x 9) (some (.goto 9, 12, 18, 0)) none) (cond (Nat.blt x 14) (cond (Nat.beq x 12) (some (.ldc 8, 14, 0, 0)) none) (cond (Nat.beq x 14) (some (.iload_n 1, 15, 0, 0)) none))) (cond (Nat.blt x 17) (cond (Nat.blt x 16) (cond (Nat.beq x 15) (some (.iconst 3, 16, 0, 3)) none) (cond (Nat.beq x 16) (some (.iadd, 17, 0, 0)) none)) (cond (Nat.blt x 18) (cond (Nat.beq x 17) (some (.imul, 18, 0, 0)) none) (cond (Nat.beq x 18) (some (.ireturn, 19, 0, 0)) none))))
def ep_L_isBeside (x : Nat) : Option (Instr × Nat × Nat × Int32) := cond (Nat.blt x 13) (cond (Nat.blt x 5) (cond (Nat.blt x 2) (cond (Nat.blt x 1) (cond (Nat.beq x 0) (some (.iload_n 0, 1, 0, 0)) none) (cond (Nat.beq x 1) (some (.iconst 5, 2, 0, 5)) none)) (cond (Nat.blt x 3) (cond (Nat.beq x 2) (some (.idiv, 3, 0, 0)) none) (cond (Nat.blt x 4) (cond (Nat.beq x 3) (some (.iload_n 1, 4, 0, 0)) none) (cond (Nat.beq x 4) (some (.iconst 5, 5, 0, 5)) none)))) (cond (Nat.blt x 10) (cond (Nat.blt x 6) (cond (Nat.beq x 5) (some (.idiv, 6, 0, 0)) none) (cond (Nat.blt x 7) (cond (Nat.beq x 6) (some (.isub, 7, 0, 0)) none) (cond (Nat.beq x 7) (some (.invokestatic 86, 10, 0, 0)) none))) (cond (Nat.blt x 11) (cond (Nat.beq x 10) (some (.iload_n 0, 11, 0, 0)) none) (cond (Nat.blt x 12) (cond (Nat.beq x 11) (some (.iconst 5, 12, 0, 5)) none) (cond (Nat.beq x 12) (some (.irem, 13, 0, 0)) none))))) (cond (Nat.blt x 21) (cond (Nat.blt x 16) (cond (Nat.blt x 14) (cond (Nat.beq x 13) (some (.iload_n 1, 14, 0, 0)) none) (cond (Nat.blt x 15) (cond (Nat.beq x 14) (some (.iconst 5, 15, 0, 5)) none) (cond (Nat.beq x 15) (some (.irem, 16, 0, 0)) none))) (cond (Nat.blt x 17) (cond (Nat.beq x 16) (some (.isub, 17, 0, 0)) none) (cond (Nat.blt x 20) (cond (Nat.beq x 17) (some (.invokestatic 86, 20, 0, 0)) none) (cond (Nat.beq x 20) (some (.iadd, 21, 0, 0)) none)))) (cond (Nat.blt x 26) (cond (Nat.blt x 22) (cond (Nat.beq x 21) (some (.iconst 1, 22, 0, 1)) none) (cond (Nat.blt x 25) (cond (Nat.beq x 22) (some (.if_icmp .ne 7, 25, 29, 0)) none) (cond (Nat.beq x 25) (some (.iconst 1, 26, 0, 1)) none))) (cond (Nat.blt x 29) (cond (Nat.beq x 26) (some (.goto 4, 29, 30, 0)) none) (cond (Nat.blt x 30) (cond (Nat.beq x 29) (some (.iconst 0, 30, 0, 0)) none) (cond (Nat.beq x 30) (some (.ireturn, 31, 0, 0)) none)))))
def ep_L_next (x : Nat) : Option (Instr × Nat × Nat × Int32) := cond (Nat.blt x 15) (cond (Nat.blt x 7) (cond (Nat.blt x 3) (cond (Nat.blt x 1) (cond (Nat.beq x 0) (some (.iload_n 1, 1, 0, 0)) none) (cond (Nat.beq x 1) (some (.bipush 15, 3, 0, 15)) none)) (cond (Nat.blt x 6) (cond (Nat.beq x 3) (some (.invokestatic 18, 6, 0, 0)) none) (cond (Nat.beq x 6) (some (.istore_n 2, 7, 0, 0)) none))) (cond (Nat.blt x 9) (cond (Nat.blt x 8) (cond (Nat.beq x 7) (some (.iload_n 0, 8, 0, 0)) none) (cond (Nat.beq x 8) (some (.iload_n 2, 9, 0, 0)) none)) (cond (Nat.blt x 12) (cond (Nat.beq x 9) (some (.invokestatic 91, 12, 0, 0)) none) (cond (Nat.beq x 12) (some (.ifCond .ne 13, 15, 25, 0)) none)))) (cond (Nat.blt x 20) (cond (Nat.blt x 17) (cond (Nat.blt x 16) (cond (Nat.beq x 15) (some (.iload_n 2, 16, 0, 0)) none) (cond (Nat.beq x 16) (some (.iconst 1, 17, 0, 1)) none)) (cond (Nat.blt x 18) (cond (Nat.beq x 17) (some (.iadd, 18, 0, 0)) none) (cond (Nat.beq x 18) (some (.bipush 15, 20, 0, 15)) none))) (cond (Nat.blt x 22) (cond (Nat.blt x 21) (cond (Nat.beq x 20) (some (.irem, 21, 0, 0)) none) (cond (Nat.beq x 21) (some (.istore_n 2, 22, 0, 0)) none)) (cond (Nat.blt x 25) (cond (Nat.beq x 22) (some (.goto (-15), 25, 7, 0)) none) (cond (Nat.blt x 26) (cond (Nat.beq x 25) (some (.iload_n 2, 26, 0, 0)) none) (cond (Nat.beq x 26) (some (.ireturn, 27, 0, 0)) none)))))
def ep_L_waits (x : Nat) : Option (Instr × Nat × Nat × Int32) := cond (Nat.blt x 13) (cond (Nat.blt x 5) (cond (Nat.blt x 2) (cond (Nat.blt x 1) (cond (Nat.beq x 0) (some (.iconst 0, 1, 0, 0)) none) (cond (Nat.beq x 1) (some (.istore_n 2, 2, 0, 0)) none)) (cond (Nat.blt x 4) (cond (Nat.beq x 2) (some (.bipush 10, 4, 0, 10)) none) (cond (Nat.beq x 4) (some (.istore_n 3, 5, 0, 0)) none))) (cond (Nat.blt x 8) (cond (Nat.blt x 6) (cond (Nat.beq x 5) (some (.iload_n 3, 6, 0, 0)) none) (cond (Nat.beq x 6) (some (.bipush 15, 8, 0, 15)) none)) (cond (Nat.blt x 11) (cond (Nat.beq x 8) (some (.if_icmp .ge 18, 11, 26, 0)) none) (cond (Nat.blt x 12) (cond (Nat.beq x 11) (some (.iload_n 2, 12, 0, 0)) none) (cond (Nat.beq x 12) (some (.aload_n 0, 13, 0, 0)) none))))) (cond (Nat.blt x 19) (cond (Nat.blt x 15) (cond (Nat.blt x 14) (cond (Nat.beq x 13) (some (.iload_n 1, 14, 0, 0)) none) (cond (Nat.beq x 14) (some (.iload_n 3, 15, 0, 0)) none)) (cond (Nat.blt x 18) (cond (Nat.beq x 15) (some (.invokevirtual 42, 18, 0, 0)) none) (cond (Nat.beq x 18) (some (.iadd, 19, 0, 0)) none))) (cond (Nat.blt x 23) (cond (Nat.blt x 20) (cond (Nat.beq x 19) (some (.istore_n 2, 20, 0, 0)) none) (cond (Nat.beq x 20) (some (.iinc 3 1, 23, 0, 1)) none)) (cond (Nat.blt x 26) (cond (Nat.beq x 23) (some (.goto (-18), 26, 5, 0)) none) (cond (Nat.blt x 27) (cond (Nat.beq x 26) (some (.iload_n 2, 27, 0, 0)) none) (cond (Nat.beq x 27) (some (.ireturn, 28, 0, 0)) none)))))
def ep_L_isPassed (x : Nat) : Option (Instr × Nat × Nat × Int32) := cond (Nat.blt x 338) (cond (Nat.blt x 151) (cond (Nat.blt x 68) (cond (Nat.blt x 34) (cond (Nat.blt x 17) (cond (Nat.blt x 9) (cond (Nat.blt x 5) (cond (Nat.blt x 1) (cond (Nat.beq x 0) (some (.iconst 5, 1, 0, 5)) none) (cond (Nat.blt x 4) (cond (Nat.beq x 1) (some (.anewarray 95, 4, 0, 0)) none) (cond (Nat.beq x 4) (some (.astore_n 3, 5, 0, 0)) none))) (cond (Nat.blt x 6) (cond (Nat.beq x 5) (some (.iconst 2, 6, 0, 2)) none) (cond (Nat.blt x 8) (cond (Nat.beq x 6) (some (.newarray .int, 8, 0, 0)) none) (cond (Nat.beq x 8) (some (.dup, 9, 0, 0)) none)))) (cond (Nat.blt x 12) (cond (Nat.blt x 10) (cond (Nat.beq x 9) (some (.iconst 0, 10, 0, 0)) none) (cond (Nat.blt x 11) (cond (Nat.beq x 10) (some (.aload_n 0, 11, 0, 0)) none) (cond (Nat.beq x 11) (some (.iconst 0, 12, 0, 0)) none))) (cond (Nat.blt x 13) (cond (Nat.beq x 12) (some (.iconst 0, 13, 0, 0)) none) (cond (Nat.blt x 16) (cond (Nat.beq x 13) (some (.invokevirtual 32, 16, 0, 0)) none) (cond (Nat.beq x 16) (some (.iastore, 17, 0, 0)) none))))) (cond (Nat.blt x 25) (cond (Nat.blt x 20) (cond (Nat.blt x 18) (cond (Nat.beq x 17) (some (.dup, 18, 0, 0)) none) (cond (Nat.blt x 19) (cond (Nat.beq x 18) (some (.iconst 1, 19, 0, 1)) none) (cond (Nat.beq x 19) (some (.aload_n 0, 20, 0, 0)) none))) (cond (Nat.blt x 21) (cond (Nat.beq x 20) (some (.iconst 1, 21, 0, 1)) none) (cond (Nat.blt x 22) (cond (Nat.beq x 21) (some (.iconst 0, 22, 0, 0)) none) (cond (Nat.beq x 22) (some (.invokevirtual 32, 25, 0, 0)) none)))) (cond (Nat.blt x 29) (cond (Nat.blt x 26) (cond (Nat.beq x 25) (some (.iastore, 26, 0, 0)) none) (cond (Nat.blt x 28) (cond (Nat.beq x 26) (some (.astore 4, 28, 0, 0)) none) (cond (Nat.beq x 28) (some (.iconst 2, 29, 0, 2)) none))) (cond (Nat.blt x 32) (cond (Nat.blt x 31) (cond (Nat.beq x 29) (some (.newarray .int, 31, 0, 0)) none) (cond (Nat.beq x 31) (some (.dup, 32, 0, 0)) none)) (cond (Nat.blt x 33) (cond (Nat.beq x 32) (some (.iconst 0, 33, 0, 0)) none) (cond (Nat.beq x 33) (some (.aload_n 0, 34, 0, 0)) none)))))) (cond (Nat.blt x 52) (cond (Nat.blt x 42) (cond (Nat.blt x 39) (cond (Nat.blt x 35) (cond (Nat.beq x 34) (some (.iconst 0, 35, 0, 0)) none) (cond (Nat.blt x 36) (cond (Nat.beq x 35) (some (.iconst 5, 36, 0, 5)) none) (cond (Nat.beq x 36) (some (.invokevirtual 32, 39, 0, 0)) none))) (cond (Nat.blt x 40) (cond (Nat.beq x 39) (some (.iastore, 40, 0, 0)) none) (cond (Nat.blt x 41) (cond (Nat.beq x 40) (some (.dup, 41, 0, 0)) none) (cond (Nat.beq x 41) (some (.iconst 1, 42, 0, 1)) none)))) (cond (Nat.blt x 45) (cond (Nat.blt x 43) (cond (Nat.beq x 42) (some (.aload_n 0, 43, 0, 0)) none) (cond (Nat.blt x 44) (cond (Nat.beq x 43) (some (.iconst 1, 44, 0, 1)) none) (cond (Nat.beq x 44) (some (.iconst 5, 45, 0, 5)) none))) (cond (Nat.blt x 49) (cond (Nat.blt x 48) (cond (Nat.beq x 45) (some (.invokevirtual 32, 48, 0, 0)) none) (cond (Nat.beq x 48) (some (.iastore, 49, 0, 0)) none)) (cond (Nat.blt x 51) (cond (Nat.beq x 49) (some (.astore 5, 51, 0, 0)) none) (cond (Nat.beq x 51) (some (.iconst 2, 52, 0, 2)) none))))) (cond (Nat.blt x 59) (cond (Nat.blt x 56) (cond (Nat.blt x 54) (cond (Nat.beq x 52) (some (.newarray .int, 54, 0, 0)) none) (cond (Nat.blt x 55) (cond (Nat.beq x 54) (some (.dup, 55, 0, 0)) none) (cond (Nat.beq x 55) (some (.iconst 0, 56, 0, 0)) none))) (cond (Nat.blt x 57) (cond (Nat.beq x 56) (some (.aload_n 0, 57, 0, 0)) none) (cond (Nat.blt x 58) (cond (Nat.beq x 57) (some (.iconst 0, 58, 0, 0)) none) (cond (Nat.beq x 58) (some (.iconst 1, 59, 0, 1)) none)))) (cond (Nat.blt x 64) (cond (Nat.blt x 62) (cond (Nat.beq x 59) (some (.invokevirtual 32, 62, 0, 0)) none) (cond (Nat.blt x 63) (cond (Nat.beq x 62) (some (.iastore, 63, 0, 0)) none) (cond (Nat.beq x 63) (some (.dup, 64, 0, 0)) none))) (cond (Nat.blt x 66) (cond (Nat.blt x 65) (cond (Nat.beq x 64) (some (.iconst 1, 65, 0, 1)) none) (cond (Nat.beq x 65) (some (.aload_n 0, 66, 0, 0)) none)) (cond (Nat.blt x 67) (cond (Nat.beq x 66) (some (.iconst 1, 67, 0, 1)) none) (cond (Nat.beq x 67) (some (.iconst 1, 68, 0, 1)) none))))))) (cond (Nat.blt x 110) (cond (Nat.blt x 91) (cond (Nat.blt x 79) (cond (Nat.blt x 74) (cond (Nat.blt x 71) (cond (Nat.beq x 68) (some (.invokevirtual 32, 71, 0, 0)) none) (cond (Nat.blt x 72) (cond (Nat.beq x 71) (some (.iastore, 72, 0, 0)) none) (cond (Nat.beq x 72) (some (.astore 6, 74, 0, 0)) none))) (cond (Nat.blt x 75) (cond (Nat.beq x 74) (some (.iconst 0, 75, 0, 0)) none) (cond (Nat.blt x 77) (cond (Nat.beq x 75) (some (.istore 7, 77, 0, 0)) none) (cond (Nat.beq x 77) (some (.iload 7, 79, 0, 0)) none)))) (cond (Nat.blt x 84) (cond (Nat.blt x 80) (cond (Nat.beq x 79) (some (.iconst 5, 80, 0, 5)) none) (cond (Nat.blt x 83) (cond (Nat.beq x 80) (some (.if_icmp .ge 79, 83, 159, 0)) none) (cond (Nat.beq x 83) (some (.aload_n 3, 84, 0, 0)) none))) (cond (Nat.blt x 88) (cond (Nat.blt x 86) (cond (Nat.beq x 84) (some (.iload 7, 86, 0, 0)) none) (cond (Nat.beq x 86) (some (.bipush 6, 88, 0, 6)) none)) (cond (Nat.blt x 90) (cond (Nat.beq x 88) (some (.newarray .int, 90, 0, 0)) none) (cond (Nat.beq x 90) (some (.dup, 91, 0, 0)) none))))) (cond (Nat.blt x 100) (cond (Nat.blt x 95) (cond (Nat.blt x 92) (cond (Nat.beq x 91) (some (.iconst 0, 92, 0, 0)) none) (cond (Nat.blt x 93) (cond (Nat.beq x 92) (some (.aload_n 0, 93, 0, 0)) none) (cond (Nat.beq x 93) (some (.iload 7, 95, 0, 0)) none))) (cond (Nat.blt x 96) (cond (Nat.beq x 95) (some (.iconst 0, 96, 0, 0)) none) (cond (Nat.blt x 99) (cond (Nat.beq x 96) (some (.invokevirtual 42, 99, 0, 0)) none) (cond (Nat.beq x 99) (some (.iastore, 100, 0, 0)) none)))) (cond (Nat.blt x 103) (cond (Nat.blt x 101) (cond (Nat.beq x 100) (some (.dup, 101, 0, 0)) none) (cond (Nat.blt x 102) (cond (Nat.beq x 101) (some (.iconst 1, 102, 0, 1)) none) (cond (Nat.beq x 102) (some (.aload_n 0, 103, 0, 0)) none))) (cond (Nat.blt x 106) (cond (Nat.blt x 105) (cond (Nat.beq x 103) (some (.iload 7, 105, 0, 0)) none) (cond (Nat.beq x 105) (some (.iconst 4, 106, 0, 4)) none)) (cond (Nat.blt x 109) (cond (Nat.beq x 106) (some (.invokevirtual 42, 109, 0, 0)) none) (cond (Nat.beq x 109) (some (.iastore, 110, 0, 0)) none)))))) (cond (Nat.blt x 130) (cond (Nat.blt x 119) (cond (Nat.blt x 113) (cond (Nat.blt x 111) (cond (Nat.beq x 110) (some (.dup, 111, 0, 0)) none) (cond (Nat.blt x 112) (cond (Nat.beq x 111) (some (.iconst 2, 112, 0, 2)) none) (cond (Nat.beq x 112) (some (.aload_n 0, 113, 0, 0)) none))) (cond (Nat.blt x 115) (cond (Nat.beq x 113) (some (.iload 7, 115, 0, 0)) none) (cond (Nat.blt x 118) (cond (Nat.beq x 115) (some (.invokestatic 97, 118, 0, 0)) none) (cond (Nat.beq x 118) (some (.iastore, 119, 0, 0)) none)))) (cond (Nat.blt x 122) (cond (Nat.blt x 120) (cond (Nat.beq x 119) (some (.dup, 120, 0, 0)) none) (cond (Nat.blt x 121) (cond (Nat.beq x 120) (some (.iconst 3, 121, 0, 3)) none) (cond (Nat.beq x 121) (some (.aload_n 0, 122, 0, 0)) none))) (cond (Nat.blt x 126) (cond (Nat.blt x 124) (cond (Nat.beq x 122) (some (.iload 7, 124, 0, 0)) none) (cond (Nat.beq x 124) (some (.bipush 8, 126, 0, 8)) none)) (cond (Nat.blt x 129) (cond (Nat.beq x 126) (some (.invokevirtual 42, 129, 0, 0)) none) (cond (Nat.beq x 129) (some (.iastore, 130, 0, 0)) none))))) (cond (Nat.blt x 140) (cond (Nat.blt x 133) (cond (Nat.blt x 131) (cond (Nat.beq x 130) (some (.dup, 131, 0, 0)) none) (cond (Nat.blt x 132) (cond (Nat.beq x 131) (some (.iconst 4, 132, 0, 4)) none) (cond (Nat.beq x 132) (some (.aload_n 0, 133, 0, 0)) none))) (cond (Nat.blt x 135) (cond (Nat.beq x 133) (some (.iload 7, 135, 0, 0)) none) (cond (Nat.blt x 137) (cond (Nat.beq x 135) (some (.bipush 13, 137, 0, 13)) none) (cond (Nat.beq x 137) (some (.invokevirtual 42, 140, 0, 0)) none)))) (cond (Nat.blt x 143) (cond (Nat.blt x 141) (cond (Nat.beq x 140) (some (.iastore, 141, 0, 0)) none) (cond (Nat.blt x 142) (cond (Nat.beq x 141) (some (.dup, 142, 0, 0)) none) (cond (Nat.beq x 142) (some (.iconst 5, 143, 0, 5)) none))) (cond (Nat.blt x 146) (cond (Nat.blt x 144) (cond (Nat.beq x 143) (some (.aload_n 0, 144, 0, 0)) none) (cond (Nat.beq x 144) (some (.iload 7, 146, 0, 0)) none)) (cond (Nat.blt x 148) (cond (Nat.beq x 146) (some (.bipush 7, 148, 0, 7)) none) (cond (Nat.beq x 148) (some (.invokevirtual 42, 151, 0, 0)) none)))))))) (cond (Nat.blt x 242) (cond (Nat.blt x 195) (cond (Nat.blt x 174) (cond (Nat.blt x 161) (cond (Nat.blt x 156) (cond (Nat.blt x 152) (cond (Nat.beq x 151) (some (.iastore, 152, 0, 0)) none) (cond (Nat.blt x 153) (cond (Nat.beq x 152) (some (.aastore, 153, 0, 0)) none) (cond (Nat.beq x 153) (some (.iinc 7 1, 156, 0, 1)) none))) (cond (Nat.blt x 159) (cond (Nat.beq x 156) (some (.goto (-79), 159, 77, 0)) none) (cond (Nat.blt x 160) (cond (Nat.beq x 159) (some (.aload_n 0, 160, 0, 0)) none) (cond (Nat.beq x 160) (some (.iconst 4, 161, 0, 4)) none)))) (cond (Nat.blt x 167) (cond (Nat.blt x 164) (cond (Nat.beq x 161) (some (.invokevirtual 39, 164, 0, 0)) none) (cond (Nat.blt x 166) (cond (Nat.beq x 164) (some (.istore 7, 166, 0, 0)) none) (cond (Nat.beq x 166) (some (.aload_n 0, 167, 0, 0)) none))) (cond (Nat.blt x 171) (cond (Nat.blt x 168) (cond (Nat.beq x 167) (some (.iconst 0, 168, 0, 0)) none) (cond (Nat.beq x 168) (some (.invokevirtual 39, 171, 0, 0)) none)) (cond (Nat.blt x 173) (cond (Nat.beq x 171) (some (.istore 8, 173, 0, 0)) none) (cond (Nat.beq x 173) (some (.aload_n 0, 174, 0, 0)) none))))) (cond (Nat.blt x 183) (cond (Nat.blt x 177) (cond (Nat.blt x 175) (cond (Nat.beq x 174) (some (.iload_n 1, 175, 0, 0)) none) (cond (Nat.blt x 176) (cond (Nat.beq x 175) (some (.iload_n 2, 176, 0, 0)) none) (cond (Nat.beq x 176) (some (.iconst 1, 177, 0, 1)) none))) (cond (Nat.blt x 180) (cond (Nat.beq x 177) (some (.invokevirtual 101, 180, 0, 0)) none) (cond (Nat.blt x 182) (cond (Nat.beq x 180) (some (.istore 9, 182, 0, 0)) none) (cond (Nat.beq x 182) (some (.aload_n 0, 183, 0, 0)) none)))) (cond (Nat.blt x 189) (cond (Nat.blt x 184) (cond (Nat.beq x 183) (some (.iconst 0, 184, 0, 0)) none) (cond (Nat.blt x 187) (cond (Nat.beq x 184) (some (.invokevirtual 39, 187, 0, 0)) none) (cond (Nat.beq x 187) (some (.iload 8, 189, 0, 0)) none))) (cond (Nat.blt x 191) (cond (Nat.blt x 190) (cond (Nat.beq x 189) (some (.iconst 1, 190, 0, 1)) none) (cond (Nat.beq x 190) (some (.iadd, 191, 0, 0)) none)) (cond (Nat.blt x 194) (cond (Nat.beq x 191) (some (.if_icmp .ne 16, 194, 207, 0)) none) (cond (Nat.beq x 194) (some (.aload_n 0, 195, 0, 0)) none)))))) (cond (Nat.blt x 218) (cond (Nat.blt x 207) (cond (Nat.blt x 201) (cond (Nat.blt x 196) (cond (Nat.beq x 195) (some (.iconst 4, 196, 0, 4)) none) (cond (Nat.blt x 199) (cond (Nat.beq x 196) (some (.invokevirtual 39, 199, 0, 0)) none) (cond (Nat.beq x 199) (some (.iload 7, 201, 0, 0)) none))) (cond (Nat.blt x 203) (cond (Nat.beq x 201) (some (.iload 9, 203, 0, 0)) none) (cond (Nat.blt x 204) (cond (Nat.beq x 203) (some (.iadd, 204, 0, 0)) none) (cond (Nat.beq x 204) (some (.if_icmp .eq 5, 207, 209, 0)) none)))) (cond (Nat.blt x 210) (cond (Nat.blt x 208) (cond (Nat.beq x 207) (some (.iconst 0, 208, 0, 0)) none) (cond (Nat.blt x 209) (cond (Nat.beq x 208) (some (.ireturn, 209, 0, 0)) none) (cond (Nat.beq x 209) (some (.iconst 0, 210, 0, 0)) none))) (cond (Nat.blt x 214) (cond (Nat.blt x 212) (cond (Nat.beq x 210) (some (.istore 10, 212, 0, 0)) none) (cond (Nat.beq x 212) (some (.iload 10, 214, 0, 0)) none)) (cond (Nat.blt x 215) (cond (Nat.beq x 214) (some (.iconst 2, 215, 0, 2)) none) (cond (Nat.beq x 215) (some (.if_icmp .ge 144, 218, 359, 0)) none))))) (cond (Nat.blt x 229) (cond (Nat.blt x 222) (cond (Nat.blt x 219) (cond (Nat.beq x 218) (some (.aload_n 0, 219, 0, 0)) none) (cond (Nat.blt x 221) (cond (Nat.beq x 219) (some (.iload 10, 221, 0, 0)) none) (cond (Nat.beq x 221) (some (.iconst 0, 222, 0, 0)) none))) (cond (Nat.blt x 225) (cond (Nat.beq x 222) (some (.invokevirtual 32, 225, 0, 0)) none) (cond (Nat.blt x 227) (cond (Nat.beq x 225) (some (.aload 4, 227, 0, 0)) none) (cond (Nat.beq x 227) (some (.iload 10, 229, 0, 0)) none)))) (cond (Nat.blt x 234) (cond (Nat.blt x 230) (cond (Nat.beq x 229) (some (.iaload, 230, 0, 0)) none) (cond (Nat.blt x 233) (cond (Nat.beq x 230) (some (.if_icmp .eq 7, 233, 237, 0)) none) (cond (Nat.beq x 233) (some (.iconst 1, 234, 0, 1)) none))) (cond (Nat.blt x 238) (cond (Nat.blt x 237) (cond (Nat.beq x 234) (some (.goto 4, 237, 238, 0)) none) (cond (Nat.beq x 237) (some (.iconst 0, 238, 0, 0)) none)) (cond (Nat.blt x 240) (cond (Nat.beq x 238) (some (.istore 11, 240, 0, 0)) none) (cond (Nat.beq x 240) (some (.iload 11, 242, 0, 0)) none))))))) (cond (Nat.blt x 292) (cond (Nat.blt x 267) (cond (Nat.blt x 254) (cond (Nat.blt x 248) (cond (Nat.blt x 245) (cond (Nat.beq x 242) (some (.ifCond .eq 72, 245, 314, 0)) none) (cond (Nat.blt x 246) (cond (Nat.beq x 245) (some (.aload_n 0, 246, 0, 0)) none) (cond (Nat.beq x 246) (some (.iload 10, 248, 0, 0)) none))) (cond (Nat.blt x 249) (cond (Nat.beq x 248) (some (.iconst 0, 249, 0, 0)) none) (cond (Nat.blt x 252) (cond (Nat.beq x 249) (some (.invokevirtual 32, 252, 0, 0)) none) (cond (Nat.beq x 252) (some (.aload 4, 254, 0, 0)) none)))) (cond (Nat.blt x 260) (cond (Nat.blt x 256) (cond (Nat.beq x 254) (some (.iload 10, 256, 0, 0)) none) (cond (Nat.blt x 257) (cond (Nat.beq x 256) (some (.iaload, 257, 0, 0)) none) (cond (Nat.beq x 257) (some (.invokestatic 91, 260, 0, 0)) none))) (cond (Nat.blt x 264) (cond (Nat.blt x 263) (cond (Nat.beq x 260) (some (.ifCond .eq 52, 263, 312, 0)) none) (cond (Nat.beq x 263) (some (.aload_n 0, 264, 0, 0)) none)) (cond (Nat.blt x 265) (cond (Nat.beq x 264) (some (.aload_n 0, 265, 0, 0)) none) (cond (Nat.beq x 265) (some (.iload 10, 267, 0, 0)) none))))) (cond (Nat.blt x 280) (cond (Nat.blt x 272) (cond (Nat.blt x 268) (cond (Nat.beq x 267) (some (.iconst 0, 268, 0, 0)) none) (cond (Nat.blt x 271) (cond (Nat.beq x 268) (some (.invokevirtual 32, 271, 0, 0)) none) (cond (Nat.beq x 271) (some (.iconst 2, 272, 0, 2)) none))) (cond (Nat.blt x 275) (cond (Nat.beq x 272) (some (.invokevirtual 45, 275, 0, 0)) none) (cond (Nat.blt x 277) (cond (Nat.beq x 275) (some (.bipush 12, 277, 0, 12)) none) (cond (Nat.beq x 277) (some (.if_icmp .ne 35, 280, 312, 0)) none)))) (cond (Nat.blt x 284) (cond (Nat.blt x 281) (cond (Nat.beq x 280) (some (.aload_n 0, 281, 0, 0)) none) (cond (Nat.blt x 283) (cond (Nat.beq x 281) (some (.iload 10, 283, 0, 0)) none) (cond (Nat.beq x 283) (some (.iconst 1, 284, 0, 1)) none))) (cond (Nat.blt x 289) (cond (Nat.blt x 287) (cond (Nat.beq x 284) (some (.invokevirtual 32, 287, 0, 0)) none) (cond (Nat.beq x 287) (some (.aload 6, 289, 0, 0)) none)) (cond (Nat.blt x 291) (cond (Nat.beq x 289) (some (.iload 10, 291, 0, 0)) none) (cond (Nat.beq x 291) (some (.iaload, 292, 0, 0)) none)))))) (cond (Nat.blt x 314) (cond (Nat.blt x 301) (cond (Nat.blt x 297) (cond (Nat.blt x 293) (cond (Nat.beq x 292) (some (.iconst 3, 293, 0, 3)) none) (cond (Nat.blt x 294) (cond (Nat.beq x 293) (some (.isub, 294, 0, 0)) none) (cond (Nat.beq x 294) (some (.if_icmp .gt 18, 297, 312, 0)) none))) (cond (Nat.blt x 298) (cond (Nat.beq x 297) (some (.aload_n 0, 298, 0, 0)) none) (cond (Nat.blt x 300) (cond (Nat.beq x 298) (some (.iload 10, 300, 0, 0)) none) (cond (Nat.beq x 300) (some (.iconst 5, 301, 0, 5)) none)))) (cond (Nat.blt x 308) (cond (Nat.blt x 304) (cond (Nat.beq x 301) (some (.invokevirtual 32, 304, 0, 0)) none) (cond (Nat.blt x 306) (cond (Nat.beq x 304) (some (.aload 5, 306, 0, 0)) none) (cond (Nat.beq x 306) (some (.iload 10, 308, 0, 0)) none))) (cond (Nat.blt x 312) (cond (Nat.blt x 309) (cond (Nat.beq x 308) (some (.iaload, 309, 0, 0)) none) (cond (Nat.beq x 309) (some (.if_icmp .eq 5, 312, 314, 0)) none)) (cond (Nat.blt x 313) (cond (Nat.beq x 312) (some (.iconst 0, 313, 0, 0)) none) (cond (Nat.beq x 313) (some (.ireturn, 314, 0, 0)) none))))) (cond (Nat.blt x 326) (cond (Nat.blt x 320) (cond (Nat.blt x 316) (cond (Nat.beq x 314) (some (.iload 11, 316, 0, 0)) none) (cond (Nat.blt x 319) (cond (Nat.beq x 316) (some (.ifCond .ne 37, 319, 353, 0)) none) (cond (Nat.beq x 319) (some (.aload_n 0, 320, 0, 0)) none))) (cond (Nat.blt x 322) (cond (Nat.beq x 320) (some (.iload 10, 322, 0, 0)) none) (cond (Nat.blt x 323) (cond (Nat.beq x 322) (some (.iconst 1, 323, 0, 1)) none) (cond (Nat.beq x 323) (some (.invokevirtual 32, 326, 0, 0)) none)))) (cond (Nat.blt x 331) (cond (Nat.blt x 328) (cond (Nat.beq x 326) (some (.aload 6, 328, 0, 0)) none) (cond (Nat.blt x 330) (cond (Nat.beq x 328) (some (.iload 10, 330, 0, 0)) none) (cond (Nat.beq x 330) (some (.iaload, 331, 0, 0)) none))) (cond (Nat.blt x 335) (cond (Nat.blt x 334) (cond (Nat.beq x 331) (some (.if_icmp .ne 20, 334, 351, 0)) none) (cond (Nat.beq x 334) (some (.aload_n 0, 335, 0, 0)) none)) (cond (Nat.blt x 337) (cond (Nat.beq x 335) (some (.iload 10, 337, 0, 0)) none) (cond (Nat.beq x 337) (some (.iconst 5, 338, 0, 5)) none))))))))) (cond (Nat.blt x 516) (cond (Nat.blt x 423) (cond (Nat.blt x 381) (cond (Nat.blt x 360) (cond (Nat.blt x 348) (cond (Nat.blt x 345) (cond (Nat.blt x 341) (cond (Nat.beq x 338) (some (.invokevirtual 32, 341, 0, 0)) none) (cond (Nat.blt x 343) (cond (Nat.beq x 341) (some (.aload 5, 343, 0, 0)) none) (cond (Nat.beq x 343) (some (.iload 10, 345, 0, 0)) none))) (cond (Nat.blt x 346) (cond (Nat.beq x 345) (some (.iaload, 346, 0, 0)) none) (cond (Nat.blt x 347) (cond (Nat.beq x 346) (some (.isub, 347, 0, 0)) none) (cond (Nat.beq x 347) (some (.iconst 1, 348, 0, 1)) none)))) (cond (Nat.blt x 353) (cond (Nat.blt x 351) (cond (Nat.beq x 348) (some (.if_icmp .le 5, 351, 353, 0)) none) (cond (Nat.blt x 352) (cond (Nat.beq x 351) (some (.iconst 0, 352, 0, 0)) none) (cond (Nat.beq x 352) (some (.ireturn, 353, 0, 0)) none))) (cond (Nat.blt x 356) (cond (Nat.beq x 353) (some (.iinc 10 1, 356, 0, 1)) none) (cond (Nat.blt x 359) (cond (Nat.beq x 356) (some (.goto (-144), 359, 212, 0)) none) (cond (Nat.beq x 359) (some (.iconst 0, 360, 0, 0)) none))))) (cond (Nat.blt x 371) (cond (Nat.blt x 365) (cond (Nat.blt x 362) (cond (Nat.beq x 360) (some (.istore 10, 362, 0, 0)) none) (cond (Nat.blt x 364) (cond (Nat.beq x 362) (some (.iload 10, 364, 0, 0)) none) (cond (Nat.beq x 364) (some (.iconst 5, 365, 0, 5)) none))) (cond (Nat.blt x 368) (cond (Nat.beq x 365) (some (.if_icmp .ge 332, 368, 697, 0)) none) (cond (Nat.blt x 369) (cond (Nat.beq x 368) (some (.aload_n 0, 369, 0, 0)) none) (cond (Nat.beq x 369) (some (.iload 10, 371, 0, 0)) none)))) (cond (Nat.blt x 376) (cond (Nat.blt x 372) (cond (Nat.beq x 371) (some (.iconst 0, 372, 0, 0)) none) (cond (Nat.blt x 375) (cond (Nat.beq x 372) (some (.invokevirtual 42, 375, 0, 0)) none) (cond (Nat.beq x 375) (some (.aload_n 3, 376, 0, 0)) none))) (cond (Nat.blt x 379) (cond (Nat.blt x 378) (cond (Nat.beq x 376) (some (.iload 10, 378, 0, 0)) none) (cond (Nat.beq x 378) (some (.aaload, 379, 0, 0)) none)) (cond (Nat.blt x 380) (cond (Nat.beq x 379) (some (.iconst 0, 380, 0, 0)) none) (cond (Nat.beq x 380) (some (.iaload, 381, 0, 0)) none)))))) (cond (Nat.blt x 403) (cond (Nat.blt x 392) (cond (Nat.blt x 388) (cond (Nat.blt x 384) (cond (Nat.beq x 381) (some (.if_icmp .eq 7, 384, 388, 0)) none) (cond (Nat.blt x 385) (cond (Nat.beq x 384) (some (.iconst 1, 385, 0, 1)) none) (cond (Nat.beq x 385) (some (.goto 4, 388, 389, 0)) none))) (cond (Nat.blt x 389) (cond (Nat.beq x 388) (some (.iconst 0, 389, 0, 0)) none) (cond (Nat.blt x 391) (cond (Nat.beq x 389) (some (.istore 11, 391, 0, 0)) none) (cond (Nat.beq x 391) (some (.aload_n 0, 392, 0, 0)) none)))) (cond (Nat.blt x 398) (cond (Nat.blt x 394) (cond (Nat.beq x 392) (some (.iload 10, 394, 0, 0)) none) (cond (Nat.blt x 397) (cond (Nat.beq x 394) (some (.invokestatic 97, 397, 0, 0)) none) (cond (Nat.beq x 397) (some (.aload_n 3, 398, 0, 0)) none))) (cond (Nat.blt x 401) (cond (Nat.blt x 400) (cond (Nat.beq x 398) (some (.iload 10, 400, 0, 0)) none) (cond (Nat.beq x 400) (some (.aaload, 401, 0, 0)) none)) (cond (Nat.blt x 402) (cond (Nat.beq x 401) (some (.iconst 2, 402, 0, 2)) none) (cond (Nat.beq x 402) (some (.iaload, 403, 0, 0)) none))))) (cond (Nat.blt x 413) (cond (Nat.blt x 407) (cond (Nat.blt x 404) (cond (Nat.beq x 403) (some (.isub, 404, 0, 0)) none) (cond (Nat.blt x 406) (cond (Nat.beq x 404) (some (.istore 12, 406, 0, 0)) none) (cond (Nat.beq x 406) (some (.aload_n 0, 407, 0, 0)) none))) (cond (Nat.blt x 409) (cond (Nat.beq x 407) (some (.iload 10, 409, 0, 0)) none) (cond (Nat.blt x 410) (cond (Nat.beq x 409) (some (.iconst 4, 410, 0, 4)) none) (cond (Nat.beq x 410) (some (.invokevirtual 42, 413, 0, 0)) none)))) (cond (Nat.blt x 418) (cond (Nat.blt x 414) (cond (Nat.beq x 413) (some (.iconst 3, 414, 0, 3)) none) (cond (Nat.blt x 417) (cond (Nat.beq x 414) (some (.if_icmp .ne 17, 417, 431, 0)) none) (cond (Nat.beq x 417) (some (.aload_n 3, 418, 0, 0)) none))) (cond (Nat.blt x 421) (cond (Nat.blt x 420) (cond (Nat.beq x 418) (some (.iload 10, 420, 0, 0)) none) (cond (Nat.beq x 420) (some (.aaload, 421, 0, 0)) none)) (cond (Nat.blt x 422) (cond (Nat.beq x 421) (some (.iconst 1, 422, 0, 1)) none) (cond (Nat.beq x 422) (some (.iaload, 423, 0, 0)) none))))))) (cond (Nat.blt x 469) (cond (Nat.blt x 444) (cond (Nat.blt x 434) (cond (Nat.blt x 428) (cond (Nat.blt x 424) (cond (Nat.beq x 423) (some (.iconst 3, 424, 0, 3)) none) (cond (Nat.blt x 427) (cond (Nat.beq x 424) (some (.if_icmp .ge 7, 427, 431, 0)) none) (cond (Nat.beq x 427) (some (.iconst 1, 428, 0, 1)) none))) (cond (Nat.blt x 431) (cond (Nat.beq x 428) (some (.goto 4, 431, 432, 0)) none) (cond (Nat.blt x 432) (cond (Nat.beq x 431) (some (.iconst 0, 432, 0, 0)) none) (cond (Nat.beq x 432) (some (.istore 13, 434, 0, 0)) none)))) (cond (Nat.blt x 438) (cond (Nat.blt x 435) (cond (Nat.beq x 434) (some (.aload_n 3, 435, 0, 0)) none) (cond (Nat.blt x 437) (cond (Nat.beq x 435) (some (.iload 10, 437, 0, 0)) none) (cond (Nat.beq x 437) (some (.aaload, 438, 0, 0)) none))) (cond (Nat.blt x 440) (cond (Nat.blt x 439) (cond (Nat.beq x 438) (some (.iconst 1, 439, 0, 1)) none) (cond (Nat.beq x 439) (some (.iaload, 440, 0, 0)) none)) (cond (Nat.blt x 441) (cond (Nat.beq x 440) (some (.iconst 3, 441, 0, 3)) none) (cond (Nat.beq x 441) (some (.if_icmp .ne 15, 444, 456, 0)) none))))) (cond (Nat.blt x 456) (cond (Nat.blt x 451) (cond (Nat.blt x 446) (cond (Nat.beq x 444) (some (.iload 11, 446, 0, 0)) none) (cond (Nat.blt x 449) (cond (Nat.beq x 446) (some (.ifCond .ne 8, 449, 454, 0)) none) (cond (Nat.beq x 449) (some (.iload 12, 451, 0, 0)) none))) (cond (Nat.blt x 454) (cond (Nat.beq x 451) (some (.ifCond .eq 5, 454, 456, 0)) none) (cond (Nat.blt x 455) (cond (Nat.beq x 454) (some (.iconst 0, 455, 0, 0)) none) (cond (Nat.beq x 455) (some (.ireturn, 456, 0, 0)) none)))) (cond (Nat.blt x 462) (cond (Nat.blt x 458) (cond (Nat.beq x 456) (some (.iload 11, 458, 0, 0)) none) (cond (Nat.blt x 461) (cond (Nat.beq x 458) (some (.ifCond .eq 24, 461, 482, 0)) none) (cond (Nat.beq x 461) (some (.aload_n 0, 462, 0, 0)) none))) (cond (Nat.blt x 465) (cond (Nat.blt x 464) (cond (Nat.beq x 462) (some (.iload 10, 464, 0, 0)) none) (cond (Nat.beq x 464) (some (.iconst 0, 465, 0, 0)) none)) (cond (Nat.blt x 468) (cond (Nat.beq x 465) (some (.invokevirtual 42, 468, 0, 0)) none) (cond (Nat.beq x 468) (some (.aload_n 3, 469, 0, 0)) none)))))) (cond (Nat.blt x 488) (cond (Nat.blt x 480) (cond (Nat.blt x 473) (cond (Nat.blt x 471) (cond (Nat.beq x 469) (some (.iload 10, 471, 0, 0)) none) (cond (Nat.blt x 472) (cond (Nat.beq x 471) (some (.aaload, 472, 0, 0)) none) (cond (Nat.beq x 472) (some (.iconst 0, 473, 0, 0)) none))) (cond (Nat.blt x 474) (cond (Nat.beq x 473) (some (.iaload, 474, 0, 0)) none) (cond (Nat.blt x 477) (cond (Nat.beq x 474) (some (.invokestatic 91, 477, 0, 0)) none) (cond (Nat.beq x 477) (some (.ifCond .ne 5, 480, 482, 0)) none)))) (cond (Nat.blt x 483) (cond (Nat.blt x 481) (cond (Nat.beq x 480) (some (.iconst 0, 481, 0, 0)) none) (cond (Nat.blt x 482) (cond (Nat.beq x 481) (some (.ireturn, 482, 0, 0)) none) (cond (Nat.beq x 482) (some (.aload_n 3, 483, 0, 0)) none))) (cond (Nat.blt x 486) (cond (Nat.blt x 485) (cond (Nat.beq x 483) (some (.iload 10, 485, 0, 0)) none) (cond (Nat.beq x 485) (some (.aaload, 486, 0, 0)) none)) (cond (Nat.blt x 487) (cond (Nat.beq x 486) (some (.iconst 1, 487, 0, 1)) none) (cond (Nat.beq x 487) (some (.iaload, 488, 0, 0)) none))))) (cond (Nat.blt x 500) (cond (Nat.blt x 494) (cond (Nat.blt x 489) (cond (Nat.beq x 488) (some (.iconst 3, 489, 0, 3)) none) (cond (Nat.blt x 492) (cond (Nat.beq x 489) (some (.if_icmp .ge 57, 492, 546, 0)) none) (cond (Nat.beq x 492) (some (.iload 13, 494, 0, 0)) none))) (cond (Nat.blt x 497) (cond (Nat.beq x 494) (some (.ifCond .ne 52, 497, 546, 0)) none) (cond (Nat.blt x 499) (cond (Nat.beq x 497) (some (.iload 12, 499, 0, 0)) none) (cond (Nat.beq x 499) (some (.iconst 1, 500, 0, 1)) none)))) (cond (Nat.blt x 508) (cond (Nat.blt x 503) (cond (Nat.beq x 500) (some (.if_icmp .eq 8, 503, 508, 0)) none) (cond (Nat.blt x 505) (cond (Nat.beq x 503) (some (.iload 11, 505, 0, 0)) none) (cond (Nat.beq x 505) (some (.ifCond .eq 39, 508, 544, 0)) none))) (cond (Nat.blt x 511) (cond (Nat.blt x 510) (cond (Nat.beq x 508) (some (.iload 12, 510, 0, 0)) none) (cond (Nat.beq x 510) (some (.iconst 1, 511, 0, 1)) none)) (cond (Nat.blt x 514) (cond (Nat.beq x 511) (some (.if_icmp .ne 27, 514, 538, 0)) none) (cond (Nat.beq x 514) (some (.iload 11, 516, 0, 0)) none)))))))) (cond (Nat.blt x 609) (cond (Nat.blt x 564) (cond (Nat.blt x 538) (cond (Nat.blt x 528) (cond (Nat.blt x 522) (cond (Nat.blt x 519) (cond (Nat.beq x 516) (some (.ifCond .eq 22, 519, 538, 0)) none) (cond (Nat.blt x 520) (cond (Nat.beq x 519) (some (.aload_n 0, 520, 0, 0)) none) (cond (Nat.beq x 520) (some (.iload 10, 522, 0, 0)) none))) (cond (Nat.blt x 524) (cond (Nat.beq x 522) (some (.bipush 13, 524, 0, 13)) none) (cond (Nat.blt x 527) (cond (Nat.beq x 524) (some (.invokevirtual 42, 527, 0, 0)) none) (cond (Nat.beq x 527) (some (.aload_n 3, 528, 0, 0)) none)))) (cond (Nat.blt x 532) (cond (Nat.blt x 530) (cond (Nat.beq x 528) (some (.iload 10, 530, 0, 0)) none) (cond (Nat.blt x 531) (cond (Nat.beq x 530) (some (.aaload, 531, 0, 0)) none) (cond (Nat.beq x 531) (some (.iconst 4, 532, 0, 4)) none))) (cond (Nat.blt x 534) (cond (Nat.blt x 533) (cond (Nat.beq x 532) (some (.iaload, 533, 0, 0)) none) (cond (Nat.beq x 533) (some (.iconst 1, 534, 0, 1)) none)) (cond (Nat.blt x 535) (cond (Nat.beq x 534) (some (.iadd, 535, 0, 0)) none) (cond (Nat.beq x 535) (some (.if_icmp .ne 9, 538, 544, 0)) none))))) (cond (Nat.blt x 548) (cond (Nat.blt x 544) (cond (Nat.blt x 540) (cond (Nat.beq x 538) (some (.iload 12, 540, 0, 0)) none) (cond (Nat.blt x 541) (cond (Nat.beq x 540) (some (.iconst 1, 541, 0, 1)) none) (cond (Nat.beq x 541) (some (.if_icmp .le 5, 544, 546, 0)) none))) (cond (Nat.blt x 545) (cond (Nat.beq x 544) (some (.iconst 0, 545, 0, 0)) none) (cond (Nat.blt x 546) (cond (Nat.beq x 545) (some (.ireturn, 546, 0, 0)) none) (cond (Nat.beq x 546) (some (.iload 13, 548, 0, 0)) none)))) (cond (Nat.blt x 556) (cond (Nat.blt x 551) (cond (Nat.beq x 548) (some (.ifCond .eq 47, 551, 595, 0)) none) (cond (Nat.blt x 553) (cond (Nat.beq x 551) (some (.iload 12, 553, 0, 0)) none) (cond (Nat.beq x 553) (some (.ifCond .ne 40, 556, 593, 0)) none))) (cond (Nat.blt x 559) (cond (Nat.blt x 557) (cond (Nat.beq x 556) (some (.aload_n 0, 557, 0, 0)) none) (cond (Nat.beq x 557) (some (.iload 10, 559, 0, 0)) none)) (cond (Nat.blt x 561) (cond (Nat.beq x 559) (some (.bipush 9, 561, 0, 9)) none) (cond (Nat.beq x 561) (some (.invokevirtual 42, 564, 0, 0)) none)))))) (cond (Nat.blt x 587) (cond (Nat.blt x 574) (cond (Nat.blt x 568) (cond (Nat.blt x 566) (cond (Nat.beq x 564) (some (.iload 8, 566, 0, 0)) none) (cond (Nat.blt x 567) (cond (Nat.beq x 566) (some (.iconst 1, 567, 0, 1)) none) (cond (Nat.beq x 567) (some (.iadd, 568, 0, 0)) none))) (cond (Nat.blt x 571) (cond (Nat.beq x 568) (some (.if_icmp .ne 25, 571, 593, 0)) none) (cond (Nat.blt x 572) (cond (Nat.beq x 571) (some (.aload_n 0, 572, 0, 0)) none) (cond (Nat.beq x 572) (some (.iload 10, 574, 0, 0)) none)))) (cond (Nat.blt x 579) (cond (Nat.blt x 575) (cond (Nat.beq x 574) (some (.iconst 5, 575, 0, 5)) none) (cond (Nat.blt x 578) (cond (Nat.beq x 575) (some (.invokevirtual 42, 578, 0, 0)) none) (cond (Nat.beq x 578) (some (.iconst (-1), 579, 0, (-1))) none))) (cond (Nat.blt x 583) (cond (Nat.blt x 582) (cond (Nat.beq x 579) (some (.if_icmp .ne 14, 582, 593, 0)) none) (cond (Nat.beq x 582) (some (.aload_n 0, 583, 0, 0)) none)) (cond (Nat.blt x 585) (cond (Nat.beq x 583) (some (.iload 10, 585, 0, 0)) none) (cond (Nat.beq x 585) (some (.bipush 6, 587, 0, 6)) none))))) (cond (Nat.blt x 598) (cond (Nat.blt x 594) (cond (Nat.blt x 590) (cond (Nat.beq x 587) (some (.invokevirtual 42, 590, 0, 0)) none) (cond (Nat.blt x 593) (cond (Nat.beq x 590) (some (.ifCond .eq 5, 593, 595, 0)) none) (cond (Nat.beq x 593) (some (.iconst 0, 594, 0, 0)) none))) (cond (Nat.blt x 595) (cond (Nat.beq x 594) (some (.ireturn, 595, 0, 0)) none) (cond (Nat.blt x 596) (cond (Nat.beq x 595) (some (.aload_n 0, 596, 0, 0)) none) (cond (Nat.beq x 596) (some (.iload 10, 598, 0, 0)) none)))) (cond (Nat.blt x 604) (cond (Nat.blt x 600) (cond (Nat.beq x 598) (some (.bipush 8, 600, 0, 8)) none) (cond (Nat.blt x 603) (cond (Nat.beq x 600) (some (.invokevirtual 42, 603, 0, 0)) none) (cond (Nat.beq x 603) (some (.aload_n 3, 604, 0, 0)) none))) (cond (Nat.blt x 607) (cond (Nat.blt x 606) (cond (Nat.beq x 604) (some (.iload 10, 606, 0, 0)) none) (cond (Nat.beq x 606) (some (.aaload, 607, 0, 0)) none)) (cond (Nat.blt x 608) (cond (Nat.beq x 607) (some (.iconst 3, 608, 0, 3)) none) (cond (Nat.beq x 608) (some (.iaload, 609, 0, 0)) none))))))) (cond (Nat.blt x 655) (cond (Nat.blt x 631) (cond (Nat.blt x 622) (cond (Nat.blt x 614) (cond (Nat.blt x 610) (cond (Nat.beq x 609) (some (.isub, 610, 0, 0)) none) (cond (Nat.blt x 612) (cond (Nat.beq x 610) (some (.istore 14, 612, 0, 0)) none) (cond (Nat.beq x 612) (some (.iload 14, 614, 0, 0)) none))) (cond (Nat.blt x 617) (cond (Nat.beq x 614) (some (.ifCond .eq 38, 617, 652, 0)) none) (cond (Nat.blt x 619) (cond (Nat.beq x 617) (some (.iload 11, 619, 0, 0)) none) (cond (Nat.beq x 619) (some (.ifCond .eq 70, 622, 689, 0)) none)))) (cond (Nat.blt x 627) (cond (Nat.blt x 624) (cond (Nat.beq x 622) (some (.iload 14, 624, 0, 0)) none) (cond (Nat.blt x 625) (cond (Nat.beq x 624) (some (.aload_n 3, 625, 0, 0)) none) (cond (Nat.beq x 625) (some (.iload 10, 627, 0, 0)) none))) (cond (Nat.blt x 629) (cond (Nat.blt x 628) (cond (Nat.beq x 627) (some (.aaload, 628, 0, 0)) none) (cond (Nat.beq x 628) (some (.iconst 1, 629, 0, 1)) none)) (cond (Nat.blt x 630) (cond (Nat.beq x 629) (some (.iaload, 630, 0, 0)) none) (cond (Nat.beq x 630) (some (.iconst 1, 631, 0, 1)) none))))) (cond (Nat.blt x 644) (cond (Nat.blt x 638) (cond (Nat.blt x 634) (cond (Nat.beq x 631) (some (.if_icmp .ne 7, 634, 638, 0)) none) (cond (Nat.blt x 635) (cond (Nat.beq x 634) (some (.iconst 4, 635, 0, 4)) none) (cond (Nat.beq x 635) (some (.goto 5, 638, 640, 0)) none))) (cond (Nat.blt x 640) (cond (Nat.beq x 638) (some (.bipush 9, 640, 0, 9)) none) (cond (Nat.blt x 643) (cond (Nat.beq x 640) (some (.if_icmp .ne 49, 643, 689, 0)) none) (cond (Nat.beq x 643) (some (.aload_n 3, 644, 0, 0)) none)))) (cond (Nat.blt x 648) (cond (Nat.blt x 646) (cond (Nat.beq x 644) (some (.iload 10, 646, 0, 0)) none) (cond (Nat.blt x 647) (cond (Nat.beq x 646) (some (.aaload, 647, 0, 0)) none) (cond (Nat.beq x 647) (some (.iconst 1, 648, 0, 1)) none))) (cond (Nat.blt x 652) (cond (Nat.blt x 649) (cond (Nat.beq x 648) (some (.iaload, 649, 0, 0)) none) (cond (Nat.beq x 649) (some (.ifCond .eq 40, 652, 689, 0)) none)) (cond (Nat.blt x 653) (cond (Nat.beq x 652) (some (.aload_n 0, 653, 0, 0)) none) (cond (Nat.beq x 653) (some (.iload 10, 655, 0, 0)) none)))))) (cond (Nat.blt x 677) (cond (Nat.blt x 665) (cond (Nat.blt x 661) (cond (Nat.blt x 657) (cond (Nat.beq x 655) (some (.bipush 7, 657, 0, 7)) none) (cond (Nat.blt x 660) (cond (Nat.beq x 657) (some (.invokevirtual 42, 660, 0, 0)) none) (cond (Nat.beq x 660) (some (.aload_n 3, 661, 0, 0)) none))) (cond (Nat.blt x 663) (cond (Nat.beq x 661) (some (.iload 10, 663, 0, 0)) none) (cond (Nat.blt x 664) (cond (Nat.beq x 663) (some (.aaload, 664, 0, 0)) none) (cond (Nat.beq x 664) (some (.iconst 5, 665, 0, 5)) none)))) (cond (Nat.blt x 669) (cond (Nat.blt x 666) (cond (Nat.beq x 665) (some (.iaload, 666, 0, 0)) none) (cond (Nat.blt x 667) (cond (Nat.beq x 666) (some (.isub, 667, 0, 0)) none) (cond (Nat.beq x 667) (some (.iload 12, 669, 0, 0)) none))) (cond (Nat.blt x 673) (cond (Nat.blt x 672) (cond (Nat.beq x 669) (some (.if_icmp .gt 20, 672, 689, 0)) none) (cond (Nat.beq x 672) (some (.aload_n 0, 673, 0, 0)) none)) (cond (Nat.blt x 675) (cond (Nat.beq x 673) (some (.iload 10, 675, 0, 0)) none) (cond (Nat.beq x 675) (some (.bipush 7, 677, 0, 7)) none))))) (cond (Nat.blt x 686) (cond (Nat.blt x 683) (cond (Nat.blt x 680) (cond (Nat.beq x 677) (some (.invokevirtual 42, 680, 0, 0)) none) (cond (Nat.blt x 681) (cond (Nat.beq x 680) (some (.aload_n 3, 681, 0, 0)) none) (cond (Nat.beq x 681) (some (.iload 10, 683, 0, 0)) none))) (cond (Nat.blt x 684) (cond (Nat.beq x 683) (some (.aaload, 684, 0, 0)) none) (cond (Nat.blt x 685) (cond (Nat.beq x 684) (some (.iconst 5, 685, 0, 5)) none) (cond (Nat.beq x 685) (some (.iaload, 686, 0, 0)) none)))) (cond (Nat.blt x 691) (cond (Nat.blt x 689) (cond (Nat.beq x 686) (some (.if_icmp .ge 5, 689, 691, 0)) none) (cond (Nat.blt x 690) (cond (Nat.beq x 689) (some (.iconst 0, 690, 0, 0)) none) (cond (Nat.beq x 690) (some (.ireturn, 691, 0, 0)) none))) (cond (Nat.blt x 697) (cond (Nat.blt x 694) (cond (Nat.beq x 691) (some (.iinc 10 1, 694, 0, 1)) none) (cond (Nat.beq x 694) (some (.goto (-332), 697, 362, 0)) none)) (cond (Nat.blt x 698) (cond (Nat.beq x 697) (some (.iconst 1, 698, 0, 1)) none) (cond (Nat.beq x 698) (some (.ireturn, 699, 0, 0)) none)))))))))
def ep_L_isAhead (x : Nat) : Option (Instr × Nat × Nat × Int32) := cond (Nat.blt x 50) (cond (Nat.blt x 23) (cond (Nat.blt x 10) (cond (Nat.blt x 3) (cond (Nat.blt x 1) (cond (Nat.beq x 0) (some (.aload_n 0, 1, 0, 0)) none) (cond (Nat.blt x 2) (cond (Nat.beq x 1) (some (.iload_n 1, 2, 0, 0)) none) (cond (Nat.beq x 2) (some (.iconst 5, 3, 0, 5)) none))) (cond (Nat.blt x 5) (cond (Nat.blt x 4) (cond (Nat.beq x 3) (some (.iload_n 2, 4, 0, 0)) none) (cond (Nat.beq x 4) (some (.iload_n 3, 5, 0, 0)) none)) (cond (Nat.blt x 8) (cond (Nat.beq x 5) (some (.invokevirtual 104, 8, 0, 0)) none) (cond (Nat.beq x 8) (some (.istore 4, 10, 0, 0)) none)))) (cond (Nat.blt x 19) (cond (Nat.blt x 15) (cond (Nat.blt x 12) (cond (Nat.beq x 10) (some (.iload 4, 12, 0, 0)) none) (cond (Nat.beq x 12) (some (.ifCond .ne 7, 15, 19, 0)) none)) (cond (Nat.blt x 16) (cond (Nat.beq x 15) (some (.iconst 1, 16, 0, 1)) none) (cond (Nat.beq x 16) (some (.goto 4, 19, 20, 0)) none))) (cond (Nat.blt x 21) (cond (Nat.blt x 20) (cond (Nat.beq x 19) (some (.iconst 0, 20, 0, 0)) none) (cond (Nat.beq x 20) (some (.aload_n 0, 21, 0, 0)) none)) (cond (Nat.blt x 22) (cond (Nat.beq x 21) (some (.iload_n 1, 22, 0, 0)) none) (cond (Nat.beq x 22) (some (.iconst 4, 23, 0, 4)) none))))) (cond (Nat.blt x 38) (cond (Nat.blt x 30) (cond (Nat.blt x 26) (cond (Nat.beq x 23) (some (.invokevirtual 42, 26, 0, 0)) none) (cond (Nat.blt x 27) (cond (Nat.beq x 26) (some (.iconst 3, 27, 0, 3)) none) (cond (Nat.beq x 27) (some (.if_icmp .ne 7, 30, 34, 0)) none))) (cond (Nat.blt x 34) (cond (Nat.blt x 31) (cond (Nat.beq x 30) (some (.iconst 1, 31, 0, 1)) none) (cond (Nat.beq x 31) (some (.goto 4, 34, 35, 0)) none)) (cond (Nat.blt x 35) (cond (Nat.beq x 34) (some (.iconst 0, 35, 0, 0)) none) (cond (Nat.beq x 35) (some (.if_icmp .eq 5, 38, 40, 0)) none)))) (cond (Nat.blt x 43) (cond (Nat.blt x 40) (cond (Nat.blt x 39) (cond (Nat.beq x 38) (some (.iconst 0, 39, 0, 0)) none) (cond (Nat.beq x 39) (some (.ireturn, 40, 0, 0)) none)) (cond (Nat.blt x 41) (cond (Nat.beq x 40) (some (.iconst 1, 41, 0, 1)) none) (cond (Nat.beq x 41) (some (.istore 5, 43, 0, 0)) none))) (cond (Nat.blt x 46) (cond (Nat.blt x 45) (cond (Nat.beq x 43) (some (.iload 5, 45, 0, 0)) none) (cond (Nat.beq x 45) (some (.iconst 5, 46, 0, 5)) none)) (cond (Nat.blt x 49) (cond (Nat.beq x 46) (some (.if_icmp .gt 57, 49, 103, 0)) none) (cond (Nat.beq x 49) (some (.aload_n 0, 50, 0, 0)) none)))))) (cond (Nat.blt x 75) (cond (Nat.blt x 61) (cond (Nat.blt x 55) (cond (Nat.blt x 51) (cond (Nat.beq x 50) (some (.iload_n 2, 51, 0, 0)) none) (cond (Nat.blt x 52) (cond (Nat.beq x 51) (some (.iload_n 3, 52, 0, 0)) none) (cond (Nat.beq x 52) (some (.invokestatic 71, 55, 0, 0)) none))) (cond (Nat.blt x 59) (cond (Nat.blt x 58) (cond (Nat.beq x 55) (some (.ifCond .ne 5, 58, 60, 0)) none) (cond (Nat.beq x 58) (some (.iconst 0, 59, 0, 0)) none)) (cond (Nat.blt x 60) (cond (Nat.beq x 59) (some (.ireturn, 60, 0, 0)) none) (cond (Nat.beq x 60) (some (.aload_n 0, 61, 0, 0)) none)))) (cond (Nat.blt x 67) (cond (Nat.blt x 63) (cond (Nat.blt x 62) (cond (Nat.beq x 61) (some (.iload_n 1, 62, 0, 0)) none) (cond (Nat.beq x 62) (some (.iconst 4, 63, 0, 4)) none)) (cond (Nat.blt x 66) (cond (Nat.beq x 63) (some (.invokevirtual 42, 66, 0, 0)) none) (cond (Nat.beq x 66) (some (.iconst 3, 67, 0, 3)) none))) (cond (Nat.blt x 71) (cond (Nat.blt x 70) (cond (Nat.beq x 67) (some (.if_icmp .ne 7, 70, 74, 0)) none) (cond (Nat.beq x 70) (some (.iconst 1, 71, 0, 1)) none)) (cond (Nat.blt x 74) (cond (Nat.beq x 71) (some (.goto 4, 74, 75, 0)) none) (cond (Nat.beq x 74) (some (.iconst 0, 75, 0, 0)) none))))) (cond (Nat.blt x 91) (cond (Nat.blt x 82) (cond (Nat.blt x 77) (cond (Nat.beq x 75) (some (.iload 4, 77, 0, 0)) none) (cond (Nat.blt x 80) (cond (Nat.beq x 77) (some (.ifCond .lt 14, 80, 91, 0)) none) (cond (Nat.beq x 80) (some (.iload 5, 82, 0, 0)) none))) (cond (Nat.blt x 87) (cond (Nat.blt x 84) (cond (Nat.beq x 82) (some (.iload 4, 84, 0, 0)) none) (cond (Nat.beq x 84) (some (.if_icmp .lt 7, 87, 91, 0)) none)) (cond (Nat.blt x 88) (cond (Nat.beq x 87) (some (.iconst 1, 88, 0, 1)) none) (cond (Nat.beq x 88) (some (.goto 4, 91, 92, 0)) none)))) (cond (Nat.blt x 97) (cond (Nat.blt x 95) (cond (Nat.blt x 92) (cond (Nat.beq x 91) (some (.iconst 0, 92, 0, 0)) none) (cond (Nat.beq x 92) (some (.if_icmp .eq 5, 95, 97, 0)) none)) (cond (Nat.blt x 96) (cond (Nat.beq x 95) (some (.iconst 0, 96, 0, 0)) none) (cond (Nat.beq x 96) (some (.ireturn, 97, 0, 0)) none))) (cond (Nat.blt x 103) (cond (Nat.blt x 100) (cond (Nat.beq x 97) (some (.iinc 5 1, 100, 0, 1)) none) (cond (Nat.beq x 100) (some (.goto (-57), 103, 43, 0)) none)) (cond (Nat.blt x 104) (cond (Nat.beq x 103) (some (.iconst 1, 104, 0, 1)) none) (cond (Nat.beq x 104) (some (.ireturn, 105, 0, 0)) none))))))
def ep_L_isSound (x : Nat) : Option (Instr × Nat × Nat × Int32) := cond (Nat.blt x 175) (cond (Nat.blt x 83) (cond (Nat.blt x 38) (cond (Nat.blt x 17) (cond (Nat.blt x 7) (cond (Nat.blt x 3) (cond (Nat.blt x 1) (cond (Nat.beq x 0) (some (.iconst 0, 1, 0, 0)) none) (cond (Nat.blt x 2) (cond (Nat.beq x 1) (some (.istore_n 1, 2, 0, 0)) none) (cond (Nat.beq x 2) (some (.iconst 0, 3, 0, 0)) none))) (cond (Nat.blt x 4) (cond (Nat.beq x 3) (some (.istore_n 2, 4, 0, 0)) none) (cond (Nat.blt x 5) (cond (Nat.beq x 4) (some (.iload_n 2, 5, 0, 0)) none) (cond (Nat.beq x 5) (some (.bipush 15, 7, 0, 15)) none)))) (cond (Nat.blt x 12) (cond (Nat.blt x 10) (cond (Nat.beq x 7) (some (.if_icmp .ge 94, 10, 101, 0)) none) (cond (Nat.blt x 11) (cond (Nat.beq x 10) (some (.aload_n 0, 11, 0, 0)) none) (cond (Nat.beq x 11) (some (.iload_n 2, 12, 0, 0)) none))) (cond (Nat.blt x 13) (cond (Nat.beq x 12) (some (.iconst 0, 13, 0, 0)) none) (cond (Nat.blt x 16) (cond (Nat.beq x 13) (some (.invokevirtual 45, 16, 0, 0)) none) (cond (Nat.beq x 16) (some (.istore_n 3, 17, 0, 0)) none))))) (cond (Nat.blt x 26) (cond (Nat.blt x 20) (cond (Nat.blt x 18) (cond (Nat.beq x 17) (some (.aload_n 0, 18, 0, 0)) none) (cond (Nat.blt x 19) (cond (Nat.beq x 18) (some (.iload_n 2, 19, 0, 0)) none) (cond (Nat.beq x 19) (some (.iconst 2, 20, 0, 2)) none))) (cond (Nat.blt x 23) (cond (Nat.beq x 20) (some (.invokevirtual 45, 23, 0, 0)) none) (cond (Nat.blt x 25) (cond (Nat.beq x 23) (some (.istore 4, 25, 0, 0)) none) (cond (Nat.beq x 25) (some (.iload_n 1, 26, 0, 0)) none)))) (cond (Nat.blt x 32) (cond (Nat.blt x 28) (cond (Nat.beq x 26) (some (.iload 4, 28, 0, 0)) none) (cond (Nat.blt x 31) (cond (Nat.beq x 28) (some (.ifCond .le 7, 31, 35, 0)) none) (cond (Nat.beq x 31) (some (.iconst 1, 32, 0, 1)) none))) (cond (Nat.blt x 36) (cond (Nat.blt x 35) (cond (Nat.beq x 32) (some (.goto 4, 35, 36, 0)) none) (cond (Nat.beq x 35) (some (.iconst 0, 36, 0, 0)) none)) (cond (Nat.blt x 37) (cond (Nat.beq x 36) (some (.iadd, 37, 0, 0)) none) (cond (Nat.beq x 37) (some (.istore_n 1, 38, 0, 0)) none)))))) (cond (Nat.blt x 63) (cond (Nat.blt x 51) (cond (Nat.blt x 44) (cond (Nat.blt x 39) (cond (Nat.beq x 38) (some (.iload_n 3, 39, 0, 0)) none) (cond (Nat.blt x 42) (cond (Nat.beq x 39) (some (.ifCond .lt 54, 42, 93, 0)) none) (cond (Nat.beq x 42) (some (.iload 4, 44, 0, 0)) none))) (cond (Nat.blt x 47) (cond (Nat.beq x 44) (some (.ifCond .lt 49, 47, 93, 0)) none) (cond (Nat.blt x 49) (cond (Nat.beq x 47) (some (.iload 4, 49, 0, 0)) none) (cond (Nat.beq x 49) (some (.bipush 12, 51, 0, 12)) none)))) (cond (Nat.blt x 56) (cond (Nat.blt x 54) (cond (Nat.beq x 51) (some (.if_icmp .gt 42, 54, 93, 0)) none) (cond (Nat.blt x 55) (cond (Nat.beq x 54) (some (.aload_n 0, 55, 0, 0)) none) (cond (Nat.beq x 55) (some (.iload_n 2, 56, 0, 0)) none))) (cond (Nat.blt x 57) (cond (Nat.beq x 56) (some (.iconst 1, 57, 0, 1)) none) (cond (Nat.blt x 60) (cond (Nat.beq x 57) (some (.invokevirtual 45, 60, 0, 0)) none) (cond (Nat.beq x 60) (some (.ifCond .lt 33, 63, 93, 0)) none))))) (cond (Nat.blt x 74) (cond (Nat.blt x 66) (cond (Nat.blt x 64) (cond (Nat.beq x 63) (some (.aload_n 0, 64, 0, 0)) none) (cond (Nat.blt x 65) (cond (Nat.beq x 64) (some (.iload_n 2, 65, 0, 0)) none) (cond (Nat.beq x 65) (some (.iconst 4, 66, 0, 4)) none))) (cond (Nat.blt x 69) (cond (Nat.beq x 66) (some (.invokevirtual 45, 69, 0, 0)) none) (cond (Nat.blt x 71) (cond (Nat.beq x 69) (some (.iload 4, 71, 0, 0)) none) (cond (Nat.beq x 71) (some (.ifCond .le 9, 74, 80, 0)) none)))) (cond (Nat.blt x 77) (cond (Nat.blt x 75) (cond (Nat.beq x 74) (some (.iload_n 3, 75, 0, 0)) none) (cond (Nat.blt x 76) (cond (Nat.beq x 75) (some (.iconst 4, 76, 0, 4)) none) (cond (Nat.beq x 76) (some (.idiv, 77, 0, 0)) none))) (cond (Nat.blt x 81) (cond (Nat.blt x 80) (cond (Nat.beq x 77) (some (.goto 4, 80, 81, 0)) none) (cond (Nat.beq x 80) (some (.iload_n 3, 81, 0, 0)) none)) (cond (Nat.blt x 82) (cond (Nat.beq x 81) (some (.iconst 5, 82, 0, 5)) none) (cond (Nat.beq x 82) (some (.aload_n 0, 83, 0, 0)) none))))))) (cond (Nat.blt x 124) (cond (Nat.blt x 103) (cond (Nat.blt x 93) (cond (Nat.blt x 88) (cond (Nat.blt x 84) (cond (Nat.beq x 83) (some (.iload_n 2, 84, 0, 0)) none) (cond (Nat.blt x 85) (cond (Nat.beq x 84) (some (.iconst 1, 85, 0, 1)) none) (cond (Nat.beq x 85) (some (.invokevirtual 45, 88, 0, 0)) none))) (cond (Nat.blt x 89) (cond (Nat.beq x 88) (some (.imul, 89, 0, 0)) none) (cond (Nat.blt x 90) (cond (Nat.beq x 89) (some (.iadd, 90, 0, 0)) none) (cond (Nat.beq x 90) (some (.if_icmp .eq 5, 93, 95, 0)) none)))) (cond (Nat.blt x 98) (cond (Nat.blt x 94) (cond (Nat.beq x 93) (some (.iconst 0, 94, 0, 0)) none) (cond (Nat.blt x 95) (cond (Nat.beq x 94) (some (.ireturn, 95, 0, 0)) none) (cond (Nat.beq x 95) (some (.iinc 2 1, 98, 0, 1)) none))) (cond (Nat.blt x 101) (cond (Nat.beq x 98) (some (.goto (-94), 101, 4, 0)) none) (cond (Nat.blt x 102) (cond (Nat.beq x 101) (some (.iconst 0, 102, 0, 0)) none) (cond (Nat.beq x 102) (some (.istore_n 2, 103, 0, 0)) none))))) (cond (Nat.blt x 111) (cond (Nat.blt x 106) (cond (Nat.blt x 104) (cond (Nat.beq x 103) (some (.iconst 0, 104, 0, 0)) none) (cond (Nat.blt x 105) (cond (Nat.beq x 104) (some (.istore_n 3, 105, 0, 0)) none) (cond (Nat.beq x 105) (some (.iconst 0, 106, 0, 0)) none))) (cond (Nat.blt x 108) (cond (Nat.beq x 106) (some (.istore 4, 108, 0, 0)) none) (cond (Nat.blt x 109) (cond (Nat.beq x 108) (some (.iconst 0, 109, 0, 0)) none) (cond (Nat.beq x 109) (some (.istore 5, 111, 0, 0)) none)))) (cond (Nat.blt x 117) (cond (Nat.blt x 113) (cond (Nat.beq x 111) (some (.iload 5, 113, 0, 0)) none) (cond (Nat.blt x 114) (cond (Nat.beq x 113) (some (.iconst 5, 114, 0, 5)) none) (cond (Nat.beq x 114) (some (.if_icmp .ge 185, 117, 299, 0)) none))) (cond (Nat.blt x 120) (cond (Nat.blt x 118) (cond (Nat.beq x 117) (some (.aload_n 0, 118, 0, 0)) none) (cond (Nat.beq x 118) (some (.iload 5, 120, 0, 0)) none)) (cond (Nat.blt x 121) (cond (Nat.beq x 120) (some (.iconst 4, 121, 0, 4)) none) (cond (Nat.beq x 121) (some (.invokevirtual 42, 124, 0, 0)) none)))))) (cond (Nat.blt x 148) (cond (Nat.blt x 135) (cond (Nat.blt x 129) (cond (Nat.blt x 126) (cond (Nat.beq x 124) (some (.istore 6, 126, 0, 0)) none) (cond (Nat.blt x 127) (cond (Nat.beq x 126) (some (.aload_n 0, 127, 0, 0)) none) (cond (Nat.beq x 127) (some (.iload 5, 129, 0, 0)) none))) (cond (Nat.blt x 130) (cond (Nat.beq x 129) (some (.iconst 5, 130, 0, 5)) none) (cond (Nat.blt x 133) (cond (Nat.beq x 130) (some (.invokevirtual 42, 133, 0, 0)) none) (cond (Nat.beq x 133) (some (.istore 7, 135, 0, 0)) none)))) (cond (Nat.blt x 141) (cond (Nat.blt x 137) (cond (Nat.beq x 135) (some (.iload 6, 137, 0, 0)) none) (cond (Nat.blt x 138) (cond (Nat.beq x 137) (some (.iconst 1, 138, 0, 1)) none) (cond (Nat.beq x 138) (some (.if_icmp .eq 9, 141, 147, 0)) none))) (cond (Nat.blt x 144) (cond (Nat.blt x 143) (cond (Nat.beq x 141) (some (.iload 6, 143, 0, 0)) none) (cond (Nat.beq x 143) (some (.iconst 2, 144, 0, 2)) none)) (cond (Nat.blt x 147) (cond (Nat.beq x 144) (some (.if_icmp .ne 7, 147, 151, 0)) none) (cond (Nat.beq x 147) (some (.iconst 1, 148, 0, 1)) none))))) (cond (Nat.blt x 161) (cond (Nat.blt x 154) (cond (Nat.blt x 151) (cond (Nat.beq x 148) (some (.goto 4, 151, 152, 0)) none) (cond (Nat.blt x 152) (cond (Nat.beq x 151) (some (.iconst 0, 152, 0, 0)) none) (cond (Nat.beq x 152) (some (.iload 7, 154, 0, 0)) none))) (cond (Nat.blt x 157) (cond (Nat.beq x 154) (some (.ifCond .lt 7, 157, 161, 0)) none) (cond (Nat.blt x 158) (cond (Nat.beq x 157) (some (.iconst 1, 158, 0, 1)) none) (cond (Nat.beq x 158) (some (.goto 4, 161, 162, 0)) none)))) (cond (Nat.blt x 167) (cond (Nat.blt x 162) (cond (Nat.beq x 161) (some (.iconst 0, 162, 0, 0)) none) (cond (Nat.blt x 165) (cond (Nat.beq x 162) (some (.if_icmp .ne 46, 165, 208, 0)) none) (cond (Nat.beq x 165) (some (.iload 6, 167, 0, 0)) none))) (cond (Nat.blt x 171) (cond (Nat.blt x 168) (cond (Nat.beq x 167) (some (.iconst 3, 168, 0, 3)) none) (cond (Nat.beq x 168) (some (.if_icmp .ne 7, 171, 175, 0)) none)) (cond (Nat.blt x 172) (cond (Nat.beq x 171) (some (.iconst 1, 172, 0, 1)) none) (cond (Nat.beq x 172) (some (.goto 4, 175, 176, 0)) none)))))))) (cond (Nat.blt x 267) (cond (Nat.blt x 220) (cond (Nat.blt x 198) (cond (Nat.blt x 187) (cond (Nat.blt x 179) (cond (Nat.blt x 176) (cond (Nat.beq x 175) (some (.iconst 0, 176, 0, 0)) none) (cond (Nat.blt x 177) (cond (Nat.beq x 176) (some (.aload_n 0, 177, 0, 0)) none) (cond (Nat.beq x 177) (some (.iload 5, 179, 0, 0)) none))) (cond (Nat.blt x 181) (cond (Nat.beq x 179) (some (.bipush 9, 181, 0, 9)) none) (cond (Nat.blt x 184) (cond (Nat.beq x 181) (some (.invokevirtual 42, 184, 0, 0)) none) (cond (Nat.beq x 184) (some (.ifCond .lt 7, 187, 191, 0)) none)))) (cond (Nat.blt x 192) (cond (Nat.blt x 188) (cond (Nat.beq x 187) (some (.iconst 1, 188, 0, 1)) none) (cond (Nat.blt x 191) (cond (Nat.beq x 188) (some (.goto 4, 191, 192, 0)) none) (cond (Nat.beq x 191) (some (.iconst 0, 192, 0, 0)) none))) (cond (Nat.blt x 195) (cond (Nat.beq x 192) (some (.if_icmp .ne 16, 195, 208, 0)) none) (cond (Nat.blt x 196) (cond (Nat.beq x 195) (some (.aload_n 0, 196, 0, 0)) none) (cond (Nat.beq x 196) (some (.iload 5, 198, 0, 0)) none))))) (cond (Nat.blt x 210) (cond (Nat.blt x 205) (cond (Nat.blt x 200) (cond (Nat.beq x 198) (some (.bipush 6, 200, 0, 6)) none) (cond (Nat.blt x 203) (cond (Nat.beq x 200) (some (.invokevirtual 42, 203, 0, 0)) none) (cond (Nat.beq x 203) (some (.bipush 8, 205, 0, 8)) none))) (cond (Nat.blt x 208) (cond (Nat.beq x 205) (some (.if_icmp .le 5, 208, 210, 0)) none) (cond (Nat.blt x 209) (cond (Nat.beq x 208) (some (.iconst 0, 209, 0, 0)) none) (cond (Nat.beq x 209) (some (.ireturn, 210, 0, 0)) none)))) (cond (Nat.blt x 214) (cond (Nat.blt x 211) (cond (Nat.beq x 210) (some (.iload_n 2, 211, 0, 0)) none) (cond (Nat.blt x 212) (cond (Nat.beq x 211) (some (.aload_n 0, 212, 0, 0)) none) (cond (Nat.beq x 212) (some (.iload 5, 214, 0, 0)) none))) (cond (Nat.blt x 218) (cond (Nat.blt x 217) (cond (Nat.beq x 214) (some (.invokestatic 97, 217, 0, 0)) none) (cond (Nat.beq x 217) (some (.iadd, 218, 0, 0)) none)) (cond (Nat.blt x 219) (cond (Nat.beq x 218) (some (.istore_n 2, 219, 0, 0)) none) (cond (Nat.beq x 219) (some (.iload_n 3, 220, 0, 0)) none)))))) (cond (Nat.blt x 241) (cond (Nat.blt x 230) (cond (Nat.blt x 225) (cond (Nat.blt x 221) (cond (Nat.beq x 220) (some (.aload_n 0, 221, 0, 0)) none) (cond (Nat.blt x 223) (cond (Nat.beq x 221) (some (.iload 5, 223, 0, 0)) none) (cond (Nat.beq x 223) (some (.bipush 8, 225, 0, 8)) none))) (cond (Nat.blt x 228) (cond (Nat.beq x 225) (some (.invokevirtual 42, 228, 0, 0)) none) (cond (Nat.blt x 229) (cond (Nat.beq x 228) (some (.iadd, 229, 0, 0)) none) (cond (Nat.beq x 229) (some (.istore_n 3, 230, 0, 0)) none)))) (cond (Nat.blt x 235) (cond (Nat.blt x 232) (cond (Nat.beq x 230) (some (.iload 4, 232, 0, 0)) none) (cond (Nat.blt x 233) (cond (Nat.beq x 232) (some (.aload_n 0, 233, 0, 0)) none) (cond (Nat.beq x 233) (some (.iload 5, 235, 0, 0)) none))) (cond (Nat.blt x 237) (cond (Nat.beq x 235) (some (.bipush 7, 237, 0, 7)) none) (cond (Nat.blt x 240) (cond (Nat.beq x 237) (some (.invokevirtual 42, 240, 0, 0)) none) (cond (Nat.beq x 240) (some (.iadd, 241, 0, 0)) none))))) (cond (Nat.blt x 252) (cond (Nat.blt x 246) (cond (Nat.blt x 243) (cond (Nat.beq x 241) (some (.istore 4, 243, 0, 0)) none) (cond (Nat.blt x 244) (cond (Nat.beq x 243) (some (.aload_n 0, 244, 0, 0)) none) (cond (Nat.beq x 244) (some (.iload 5, 246, 0, 0)) none))) (cond (Nat.blt x 249) (cond (Nat.beq x 246) (some (.invokevirtual 107, 249, 0, 0)) none) (cond (Nat.blt x 251) (cond (Nat.beq x 249) (some (.istore 8, 251, 0, 0)) none) (cond (Nat.beq x 251) (some (.aload_n 0, 252, 0, 0)) none)))) (cond (Nat.blt x 257) (cond (Nat.blt x 254) (cond (Nat.beq x 252) (some (.iload 5, 254, 0, 0)) none) (cond (Nat.blt x 255) (cond (Nat.beq x 254) (some (.aload_n 0, 255, 0, 0)) none) (cond (Nat.beq x 255) (some (.iload 5, 257, 0, 0)) none))) (cond (Nat.blt x 261) (cond (Nat.blt x 258) (cond (Nat.beq x 257) (some (.iconst 0, 258, 0, 0)) none) (cond (Nat.beq x 258) (some (.invokevirtual 42, 261, 0, 0)) none)) (cond (Nat.blt x 264) (cond (Nat.beq x 261) (some (.invokevirtual 110, 264, 0, 0)) none) (cond (Nat.beq x 264) (some (.ifCond .ne 27, 267, 291, 0)) none))))))) (cond (Nat.blt x 318) (cond (Nat.blt x 292) (cond (Nat.blt x 280) (cond (Nat.blt x 273) (cond (Nat.blt x 269) (cond (Nat.beq x 267) (some (.iload 8, 269, 0, 0)) none) (cond (Nat.blt x 270) (cond (Nat.beq x 269) (some (.iconst (-1), 270, 0, (-1))) none) (cond (Nat.beq x 270) (some (.if_icmp .lt 21, 273, 291, 0)) none))) (cond (Nat.blt x 275) (cond (Nat.beq x 273) (some (.iload 8, 275, 0, 0)) none) (cond (Nat.blt x 277) (cond (Nat.beq x 275) (some (.bipush 14, 277, 0, 14)) none) (cond (Nat.beq x 277) (some (.if_icmp .gt 14, 280, 291, 0)) none)))) (cond (Nat.blt x 286) (cond (Nat.blt x 282) (cond (Nat.beq x 280) (some (.iload 6, 282, 0, 0)) none) (cond (Nat.blt x 283) (cond (Nat.beq x 282) (some (.iconst 3, 283, 0, 3)) none) (cond (Nat.beq x 283) (some (.if_icmp .ne 10, 286, 293, 0)) none))) (cond (Nat.blt x 288) (cond (Nat.beq x 286) (some (.iload 8, 288, 0, 0)) none) (cond (Nat.blt x 291) (cond (Nat.beq x 288) (some (.ifCond .eq 5, 291, 293, 0)) none) (cond (Nat.beq x 291) (some (.iconst 0, 292, 0, 0)) none))))) (cond (Nat.blt x 302) (cond (Nat.blt x 299) (cond (Nat.blt x 293) (cond (Nat.beq x 292) (some (.ireturn, 293, 0, 0)) none) (cond (Nat.blt x 296) (cond (Nat.beq x 293) (some (.iinc 5 1, 296, 0, 1)) none) (cond (Nat.beq x 296) (some (.goto (-185), 299, 111, 0)) none))) (cond (Nat.blt x 300) (cond (Nat.beq x 299) (some (.iload_n 1, 300, 0, 0)) none) (cond (Nat.blt x 301) (cond (Nat.beq x 300) (some (.aload_n 0, 301, 0, 0)) none) (cond (Nat.beq x 301) (some (.iconst 2, 302, 0, 2)) none)))) (cond (Nat.blt x 309) (cond (Nat.blt x 305) (cond (Nat.beq x 302) (some (.invokevirtual 39, 305, 0, 0)) none) (cond (Nat.blt x 308) (cond (Nat.beq x 305) (some (.if_icmp .ne 58, 308, 363, 0)) none) (cond (Nat.beq x 308) (some (.iload_n 2, 309, 0, 0)) none))) (cond (Nat.blt x 312) (cond (Nat.blt x 310) (cond (Nat.beq x 309) (some (.aload_n 0, 310, 0, 0)) none) (cond (Nat.beq x 310) (some (.bipush 7, 312, 0, 7)) none)) (cond (Nat.blt x 315) (cond (Nat.beq x 312) (some (.invokevirtual 39, 315, 0, 0)) none) (cond (Nat.beq x 315) (some (.if_icmp .ne 48, 318, 363, 0)) none)))))) (cond (Nat.blt x 342) (cond (Nat.blt x 330) (cond (Nat.blt x 322) (cond (Nat.blt x 319) (cond (Nat.beq x 318) (some (.iload_n 3, 319, 0, 0)) none) (cond (Nat.blt x 320) (cond (Nat.beq x 319) (some (.aload_n 0, 320, 0, 0)) none) (cond (Nat.beq x 320) (some (.bipush 8, 322, 0, 8)) none))) (cond (Nat.blt x 325) (cond (Nat.beq x 322) (some (.invokevirtual 39, 325, 0, 0)) none) (cond (Nat.blt x 328) (cond (Nat.beq x 325) (some (.if_icmp .ne 38, 328, 363, 0)) none) (cond (Nat.beq x 328) (some (.iload 4, 330, 0, 0)) none)))) (cond (Nat.blt x 336) (cond (Nat.blt x 331) (cond (Nat.beq x 330) (some (.aload_n 0, 331, 0, 0)) none) (cond (Nat.blt x 333) (cond (Nat.beq x 331) (some (.bipush 10, 333, 0, 10)) none) (cond (Nat.beq x 333) (some (.invokevirtual 39, 336, 0, 0)) none))) (cond (Nat.blt x 340) (cond (Nat.blt x 339) (cond (Nat.beq x 336) (some (.if_icmp .ne 27, 339, 363, 0)) none) (cond (Nat.beq x 339) (some (.aload_n 0, 340, 0, 0)) none)) (cond (Nat.blt x 341) (cond (Nat.beq x 340) (some (.iconst 0, 341, 0, 0)) none) (cond (Nat.beq x 341) (some (.iconst 3, 342, 0, 3)) none))))) (cond (Nat.blt x 352) (cond (Nat.blt x 349) (cond (Nat.blt x 345) (cond (Nat.beq x 342) (some (.invokevirtual 32, 345, 0, 0)) none) (cond (Nat.blt x 346) (cond (Nat.beq x 345) (some (.iconst 3, 346, 0, 3)) none) (cond (Nat.beq x 346) (some (.if_icmp .ge 17, 349, 363, 0)) none))) (cond (Nat.blt x 350) (cond (Nat.beq x 349) (some (.aload_n 0, 350, 0, 0)) none) (cond (Nat.blt x 351) (cond (Nat.beq x 350) (some (.iconst 1, 351, 0, 1)) none) (cond (Nat.beq x 351) (some (.iconst 3, 352, 0, 3)) none)))) (cond (Nat.blt x 359) (cond (Nat.blt x 355) (cond (Nat.beq x 352) (some (.invokevirtual 32, 355, 0, 0)) none) (cond (Nat.blt x 356) (cond (Nat.beq x 355) (some (.iconst 3, 356, 0, 3)) none) (cond (Nat.beq x 356) (some (.if_icmp .ge 7, 359, 363, 0)) none))) (cond (Nat.blt x 363) (cond (Nat.blt x 360) (cond (Nat.beq x 359) (some (.iconst 1, 360, 0, 1)) none) (cond (Nat.beq x 360) (some (.goto 4, 363, 364, 0)) none)) (cond (Nat.blt x 364) (cond (Nat.beq x 363) (some (.iconst 0, 364, 0, 0)) none) (cond (Nat.beq x 364) (some (.ireturn, 365, 0, 0)) none))))))))
def ep_L_law (x : Nat) : Option (Instr × Nat × Nat × Int32) := cond (Nat.blt x 454) (cond (Nat.blt x 195) (cond (Nat.blt x 102) (cond (Nat.blt x 53) (cond (Nat.blt x 23) (cond (Nat.blt x 11) (cond (Nat.blt x 7) (cond (Nat.blt x 3) (cond (Nat.beq x 0) (some (.new 9, 3, 0, 0)) none) (cond (Nat.blt x 4) (cond (Nat.beq x 3) (some (.dup, 4, 0, 0)) none) (cond (Nat.beq x 4) (some (.invokespecial 11, 7, 0, 0)) none))) (cond (Nat.blt x 9) (cond (Nat.blt x 8) (cond (Nat.beq x 7) (some (.astore_n 1, 8, 0, 0)) none) (cond (Nat.beq x 8) (some (.iconst 0, 9, 0, 0)) none)) (cond (Nat.blt x 10) (cond (Nat.beq x 9) (some (.istore_n 2, 10, 0, 0)) none) (cond (Nat.beq x 10) (some (.iload_n 2, 11, 0, 0)) none)))) (cond (Nat.blt x 17) (cond (Nat.blt x 13) (cond (Nat.beq x 11) (some (.bipush 15, 13, 0, 15)) none) (cond (Nat.blt x 16) (cond (Nat.beq x 13) (some (.if_icmp .ge 29, 16, 42, 0)) none) (cond (Nat.beq x 16) (some (.aload_n 1, 17, 0, 0)) none))) (cond (Nat.blt x 19) (cond (Nat.blt x 18) (cond (Nat.beq x 17) (some (.iload_n 2, 18, 0, 0)) none) (cond (Nat.beq x 18) (some (.aload_n 0, 19, 0, 0)) none)) (cond (Nat.blt x 20) (cond (Nat.beq x 19) (some (.iload_n 2, 20, 0, 0)) none) (cond (Nat.beq x 20) (some (.invokestatic 12, 23, 0, 0)) none))))) (cond (Nat.blt x 39) (cond (Nat.blt x 31) (cond (Nat.blt x 25) (cond (Nat.beq x 23) (some (.bipush 80, 25, 0, 80)) none) (cond (Nat.blt x 28) (cond (Nat.beq x 25) (some (.invokestatic 18, 28, 0, 0)) none) (cond (Nat.beq x 28) (some (.invokevirtual 22, 31, 0, 0)) none))) (cond (Nat.blt x 35) (cond (Nat.blt x 34) (cond (Nat.beq x 31) (some (.ifCond .eq 5, 34, 36, 0)) none) (cond (Nat.beq x 34) (some (.iconst 0, 35, 0, 0)) none)) (cond (Nat.blt x 36) (cond (Nat.beq x 35) (some (.ireturn, 36, 0, 0)) none) (cond (Nat.beq x 36) (some (.iinc 2 1, 39, 0, 1)) none)))) (cond (Nat.blt x 44) (cond (Nat.blt x 42) (cond (Nat.beq x 39) (some (.goto (-29), 42, 10, 0)) none) (cond (Nat.blt x 43) (cond (Nat.beq x 42) (some (.aload_n 1, 43, 0, 0)) none) (cond (Nat.beq x 43) (some (.aload_n 0, 44, 0, 0)) none))) (cond (Nat.blt x 48) (cond (Nat.blt x 45) (cond (Nat.beq x 44) (some (.iconst 0, 45, 0, 0)) none) (cond (Nat.beq x 45) (some (.invokestatic 12, 48, 0, 0)) none)) (cond (Nat.blt x 50) (cond (Nat.beq x 48) (some (.bipush 7, 50, 0, 7)) none) (cond (Nat.beq x 50) (some (.invokestatic 18, 53, 0, 0)) none)))))) (cond (Nat.blt x 81) (cond (Nat.blt x 67) (cond (Nat.blt x 60) (cond (Nat.blt x 56) (cond (Nat.beq x 53) (some (.invokevirtual 25, 56, 0, 0)) none) (cond (Nat.blt x 59) (cond (Nat.beq x 56) (some (.ifCond .ne 24, 59, 80, 0)) none) (cond (Nat.beq x 59) (some (.aload_n 1, 60, 0, 0)) none))) (cond (Nat.blt x 63) (cond (Nat.blt x 62) (cond (Nat.beq x 60) (some (.bipush 7, 62, 0, 7)) none) (cond (Nat.beq x 62) (some (.aload_n 0, 63, 0, 0)) none)) (cond (Nat.blt x 64) (cond (Nat.beq x 63) (some (.iconst 1, 64, 0, 1)) none) (cond (Nat.beq x 64) (some (.invokestatic 12, 67, 0, 0)) none)))) (cond (Nat.blt x 73) (cond (Nat.blt x 69) (cond (Nat.beq x 67) (some (.bipush 8, 69, 0, 8)) none) (cond (Nat.blt x 72) (cond (Nat.beq x 69) (some (.invokestatic 18, 72, 0, 0)) none) (cond (Nat.beq x 72) (some (.iadd, 73, 0, 0)) none))) (cond (Nat.blt x 77) (cond (Nat.blt x 76) (cond (Nat.beq x 73) (some (.invokevirtual 25, 76, 0, 0)) none) (cond (Nat.beq x 76) (some (.iconst 1, 77, 0, 1)) none)) (cond (Nat.blt x 80) (cond (Nat.beq x 77) (some (.if_icmp .eq 5, 80, 82, 0)) none) (cond (Nat.beq x 80) (some (.iconst 0, 81, 0, 0)) none))))) (cond (Nat.blt x 90) (cond (Nat.blt x 84) (cond (Nat.blt x 82) (cond (Nat.beq x 81) (some (.ireturn, 82, 0, 0)) none) (cond (Nat.blt x 83) (cond (Nat.beq x 82) (some (.iconst 0, 83, 0, 0)) none) (cond (Nat.beq x 83) (some (.istore_n 2, 84, 0, 0)) none))) (cond (Nat.blt x 86) (cond (Nat.blt x 85) (cond (Nat.beq x 84) (some (.iload_n 2, 85, 0, 0)) none) (cond (Nat.beq x 85) (some (.iconst 2, 86, 0, 2)) none)) (cond (Nat.blt x 89) (cond (Nat.beq x 86) (some (.if_icmp .ge 46, 89, 132, 0)) none) (cond (Nat.beq x 89) (some (.aload_n 1, 90, 0, 0)) none)))) (cond (Nat.blt x 93) (cond (Nat.blt x 91) (cond (Nat.beq x 90) (some (.aload_n 0, 91, 0, 0)) none) (cond (Nat.blt x 92) (cond (Nat.beq x 91) (some (.iload_n 2, 92, 0, 0)) none) (cond (Nat.beq x 92) (some (.iconst 2, 93, 0, 2)) none))) (cond (Nat.blt x 97) (cond (Nat.blt x 94) (cond (Nat.beq x 93) (some (.iadd, 94, 0, 0)) none) (cond (Nat.beq x 94) (some (.invokestatic 12, 97, 0, 0)) none)) (cond (Nat.blt x 99) (cond (Nat.beq x 97) (some (.bipush 15, 99, 0, 15)) none) (cond (Nat.beq x 99) (some (.invokestatic 18, 102, 0, 0)) none))))))) (cond (Nat.blt x 150) (cond (Nat.blt x 132) (cond (Nat.blt x 117) (cond (Nat.blt x 107) (cond (Nat.blt x 105) (cond (Nat.beq x 102) (some (.sipush 150, 105, 0, 150)) none) (cond (Nat.blt x 106) (cond (Nat.beq x 105) (some (.aload_n 0, 106, 0, 0)) none) (cond (Nat.beq x 106) (some (.iload_n 2, 107, 0, 0)) none))) (cond (Nat.blt x 113) (cond (Nat.blt x 110) (cond (Nat.beq x 107) (some (.invokestatic 12, 110, 0, 0)) none) (cond (Nat.beq x 110) (some (.sipush 200, 113, 0, 200)) none)) (cond (Nat.blt x 116) (cond (Nat.beq x 113) (some (.invokestatic 18, 116, 0, 0)) none) (cond (Nat.beq x 116) (some (.iadd, 117, 0, 0)) none)))) (cond (Nat.blt x 124) (cond (Nat.blt x 120) (cond (Nat.beq x 117) (some (.invokevirtual 29, 120, 0, 0)) none) (cond (Nat.blt x 121) (cond (Nat.beq x 120) (some (.iload_n 2, 121, 0, 0)) none) (cond (Nat.beq x 121) (some (.if_icmp .eq 5, 124, 126, 0)) none))) (cond (Nat.blt x 126) (cond (Nat.blt x 125) (cond (Nat.beq x 124) (some (.iconst 0, 125, 0, 0)) none) (cond (Nat.beq x 125) (some (.ireturn, 126, 0, 0)) none)) (cond (Nat.blt x 129) (cond (Nat.beq x 126) (some (.iinc 2 1, 129, 0, 1)) none) (cond (Nat.beq x 129) (some (.goto (-45), 132, 84, 0)) none))))) (cond (Nat.blt x 141) (cond (Nat.blt x 135) (cond (Nat.blt x 133) (cond (Nat.beq x 132) (some (.iconst 0, 133, 0, 0)) none) (cond (Nat.blt x 134) (cond (Nat.beq x 133) (some (.istore_n 2, 134, 0, 0)) none) (cond (Nat.beq x 134) (some (.iload_n 2, 135, 0, 0)) none))) (cond (Nat.blt x 139) (cond (Nat.blt x 136) (cond (Nat.beq x 135) (some (.iconst 5, 136, 0, 5)) none) (cond (Nat.beq x 136) (some (.if_icmp .ge 74, 139, 210, 0)) none)) (cond (Nat.blt x 140) (cond (Nat.beq x 139) (some (.aload_n 0, 140, 0, 0)) none) (cond (Nat.beq x 140) (some (.iload_n 2, 141, 0, 0)) none)))) (cond (Nat.blt x 146) (cond (Nat.blt x 142) (cond (Nat.beq x 141) (some (.iconst 5, 142, 0, 5)) none) (cond (Nat.blt x 143) (cond (Nat.beq x 142) (some (.iadd, 143, 0, 0)) none) (cond (Nat.beq x 143) (some (.invokestatic 12, 146, 0, 0)) none))) (cond (Nat.blt x 148) (cond (Nat.blt x 147) (cond (Nat.beq x 146) (some (.istore_n 3, 147, 0, 0)) none) (cond (Nat.beq x 147) (some (.aload_n 1, 148, 0, 0)) none)) (cond (Nat.blt x 149) (cond (Nat.beq x 148) (some (.iload_n 2, 149, 0, 0)) none) (cond (Nat.beq x 149) (some (.iconst 3, 150, 0, 3)) none)))))) (cond (Nat.blt x 173) (cond (Nat.blt x 161) (cond (Nat.blt x 155) (cond (Nat.blt x 153) (cond (Nat.beq x 150) (some (.if_icmp .ge 14, 153, 164, 0)) none) (cond (Nat.blt x 154) (cond (Nat.beq x 153) (some (.aload_n 1, 154, 0, 0)) none) (cond (Nat.beq x 154) (some (.iload_n 2, 155, 0, 0)) none))) (cond (Nat.blt x 157) (cond (Nat.blt x 156) (cond (Nat.beq x 155) (some (.iconst 2, 156, 0, 2)) none) (cond (Nat.beq x 156) (some (.irem, 157, 0, 0)) none)) (cond (Nat.blt x 158) (cond (Nat.beq x 157) (some (.iconst 0, 158, 0, 0)) none) (cond (Nat.beq x 158) (some (.invokevirtual 32, 161, 0, 0)) none)))) (cond (Nat.blt x 167) (cond (Nat.blt x 164) (cond (Nat.beq x 161) (some (.goto 9, 164, 170, 0)) none) (cond (Nat.blt x 165) (cond (Nat.beq x 164) (some (.iload_n 3, 165, 0, 0)) none) (cond (Nat.beq x 165) (some (.bipush 15, 167, 0, 15)) none))) (cond (Nat.blt x 171) (cond (Nat.blt x 170) (cond (Nat.beq x 167) (some (.invokestatic 18, 170, 0, 0)) none) (cond (Nat.beq x 170) (some (.iload_n 3, 171, 0, 0)) none)) (cond (Nat.blt x 172) (cond (Nat.beq x 171) (some (.iconst 4, 172, 0, 4)) none) (cond (Nat.beq x 172) (some (.ishr, 173, 0, 0)) none))))) (cond (Nat.blt x 183) (cond (Nat.blt x 178) (cond (Nat.blt x 174) (cond (Nat.beq x 173) (some (.iconst 5, 174, 0, 5)) none) (cond (Nat.blt x 177) (cond (Nat.beq x 174) (some (.invokestatic 18, 177, 0, 0)) none) (cond (Nat.beq x 177) (some (.iconst 1, 178, 0, 1)) none))) (cond (Nat.blt x 180) (cond (Nat.blt x 179) (cond (Nat.beq x 178) (some (.iload_n 3, 179, 0, 0)) none) (cond (Nat.beq x 179) (some (.iconst 2, 180, 0, 2)) none)) (cond (Nat.blt x 181) (cond (Nat.beq x 180) (some (.ishr, 181, 0, 0)) none) (cond (Nat.beq x 181) (some (.bipush 9, 183, 0, 9)) none)))) (cond (Nat.blt x 188) (cond (Nat.blt x 186) (cond (Nat.beq x 183) (some (.invokestatic 18, 186, 0, 0)) none) (cond (Nat.blt x 187) (cond (Nat.beq x 186) (some (.iadd, 187, 0, 0)) none) (cond (Nat.beq x 187) (some (.iload_n 3, 188, 0, 0)) none))) (cond (Nat.blt x 191) (cond (Nat.blt x 190) (cond (Nat.beq x 188) (some (.bipush 6, 190, 0, 6)) none) (cond (Nat.beq x 190) (some (.ishr, 191, 0, 0)) none)) (cond (Nat.blt x 192) (cond (Nat.beq x 191) (some (.iconst 2, 192, 0, 2)) none) (cond (Nat.beq x 192) (some (.invokestatic 18, 195, 0, 0)) none)))))))) (cond (Nat.blt x 291) (cond (Nat.blt x 245) (cond (Nat.blt x 219) (cond (Nat.blt x 210) (cond (Nat.blt x 202) (cond (Nat.blt x 198) (cond (Nat.beq x 195) (some (.invokevirtual 35, 198, 0, 0)) none) (cond (Nat.blt x 199) (cond (Nat.beq x 198) (some (.iload_n 2, 199, 0, 0)) none) (cond (Nat.beq x 199) (some (.if_icmp .eq 5, 202, 204, 0)) none))) (cond (Nat.blt x 204) (cond (Nat.blt x 203) (cond (Nat.beq x 202) (some (.iconst 0, 203, 0, 0)) none) (cond (Nat.beq x 203) (some (.ireturn, 204, 0, 0)) none)) (cond (Nat.blt x 207) (cond (Nat.beq x 204) (some (.iinc 2 1, 207, 0, 1)) none) (cond (Nat.beq x 207) (some (.goto (-73), 210, 134, 0)) none)))) (cond (Nat.blt x 215) (cond (Nat.blt x 211) (cond (Nat.beq x 210) (some (.aload_n 1, 211, 0, 0)) none) (cond (Nat.blt x 212) (cond (Nat.beq x 211) (some (.iconst 1, 212, 0, 1)) none) (cond (Nat.beq x 212) (some (.invokevirtual 39, 215, 0, 0)) none))) (cond (Nat.blt x 217) (cond (Nat.blt x 216) (cond (Nat.beq x 215) (some (.istore_n 2, 216, 0, 0)) none) (cond (Nat.beq x 216) (some (.iconst 0, 217, 0, 0)) none)) (cond (Nat.blt x 218) (cond (Nat.beq x 217) (some (.istore_n 3, 218, 0, 0)) none) (cond (Nat.beq x 218) (some (.iconst 0, 219, 0, 0)) none))))) (cond (Nat.blt x 233) (cond (Nat.blt x 225) (cond (Nat.blt x 221) (cond (Nat.beq x 219) (some (.istore 4, 221, 0, 0)) none) (cond (Nat.blt x 223) (cond (Nat.beq x 221) (some (.iload 4, 223, 0, 0)) none) (cond (Nat.beq x 223) (some (.bipush 48, 225, 0, 48)) none))) (cond (Nat.blt x 229) (cond (Nat.blt x 228) (cond (Nat.beq x 225) (some (.if_icmp .ge 591, 228, 816, 0)) none) (cond (Nat.beq x 228) (some (.aload_n 0, 229, 0, 0)) none)) (cond (Nat.blt x 231) (cond (Nat.beq x 229) (some (.iload 4, 231, 0, 0)) none) (cond (Nat.beq x 231) (some (.bipush 16, 233, 0, 16)) none)))) (cond (Nat.blt x 239) (cond (Nat.blt x 234) (cond (Nat.beq x 233) (some (.irem, 234, 0, 0)) none) (cond (Nat.blt x 237) (cond (Nat.beq x 234) (some (.invokestatic 12, 237, 0, 0)) none) (cond (Nat.beq x 237) (some (.bipush 31, 239, 0, 31)) none))) (cond (Nat.blt x 242) (cond (Nat.blt x 241) (cond (Nat.beq x 239) (some (.iload 4, 241, 0, 0)) none) (cond (Nat.beq x 241) (some (.imul, 242, 0, 0)) none)) (cond (Nat.blt x 243) (cond (Nat.beq x 242) (some (.iadd, 243, 0, 0)) none) (cond (Nat.beq x 243) (some (.istore 5, 245, 0, 0)) none)))))) (cond (Nat.blt x 266) (cond (Nat.blt x 255) (cond (Nat.blt x 250) (cond (Nat.blt x 246) (cond (Nat.beq x 245) (some (.aload_n 0, 246, 0, 0)) none) (cond (Nat.blt x 248) (cond (Nat.beq x 246) (some (.bipush 7, 248, 0, 7)) none) (cond (Nat.beq x 248) (some (.iload 4, 250, 0, 0)) none))) (cond (Nat.blt x 252) (cond (Nat.blt x 251) (cond (Nat.beq x 250) (some (.imul, 251, 0, 0)) none) (cond (Nat.beq x 251) (some (.iconst 3, 252, 0, 3)) none)) (cond (Nat.blt x 253) (cond (Nat.beq x 252) (some (.iadd, 253, 0, 0)) none) (cond (Nat.beq x 253) (some (.bipush 16, 255, 0, 16)) none)))) (cond (Nat.blt x 260) (cond (Nat.blt x 256) (cond (Nat.beq x 255) (some (.irem, 256, 0, 0)) none) (cond (Nat.blt x 259) (cond (Nat.beq x 256) (some (.invokestatic 12, 259, 0, 0)) none) (cond (Nat.beq x 259) (some (.iconst 5, 260, 0, 5)) none))) (cond (Nat.blt x 263) (cond (Nat.blt x 262) (cond (Nat.beq x 260) (some (.iload 4, 262, 0, 0)) none) (cond (Nat.beq x 262) (some (.imul, 263, 0, 0)) none)) (cond (Nat.blt x 264) (cond (Nat.beq x 263) (some (.iadd, 264, 0, 0)) none) (cond (Nat.beq x 264) (some (.istore 6, 266, 0, 0)) none))))) (cond (Nat.blt x 278) (cond (Nat.blt x 272) (cond (Nat.blt x 268) (cond (Nat.beq x 266) (some (.iload 6, 268, 0, 0)) none) (cond (Nat.blt x 269) (cond (Nat.beq x 268) (some (.iconst 5, 269, 0, 5)) none) (cond (Nat.beq x 269) (some (.invokestatic 18, 272, 0, 0)) none))) (cond (Nat.blt x 276) (cond (Nat.blt x 274) (cond (Nat.beq x 272) (some (.istore 7, 274, 0, 0)) none) (cond (Nat.beq x 274) (some (.iload 6, 276, 0, 0)) none)) (cond (Nat.blt x 277) (cond (Nat.beq x 276) (some (.iconst 3, 277, 0, 3)) none) (cond (Nat.beq x 277) (some (.ishr, 278, 0, 0)) none)))) (cond (Nat.blt x 284) (cond (Nat.blt x 279) (cond (Nat.beq x 278) (some (.iconst 2, 279, 0, 2)) none) (cond (Nat.blt x 282) (cond (Nat.beq x 279) (some (.invokestatic 18, 282, 0, 0)) none) (cond (Nat.beq x 282) (some (.istore 8, 284, 0, 0)) none))) (cond (Nat.blt x 287) (cond (Nat.blt x 285) (cond (Nat.beq x 284) (some (.aload_n 1, 285, 0, 0)) none) (cond (Nat.beq x 285) (some (.iload 7, 287, 0, 0)) none)) (cond (Nat.blt x 288) (cond (Nat.beq x 287) (some (.iconst 4, 288, 0, 4)) none) (cond (Nat.beq x 288) (some (.invokevirtual 42, 291, 0, 0)) none))))))) (cond (Nat.blt x 401) (cond (Nat.blt x 317) (cond (Nat.blt x 303) (cond (Nat.blt x 296) (cond (Nat.blt x 293) (cond (Nat.beq x 291) (some (.istore 9, 293, 0, 0)) none) (cond (Nat.blt x 294) (cond (Nat.beq x 293) (some (.aload_n 1, 294, 0, 0)) none) (cond (Nat.beq x 294) (some (.iload 7, 296, 0, 0)) none))) (cond (Nat.blt x 300) (cond (Nat.blt x 297) (cond (Nat.beq x 296) (some (.iconst 0, 297, 0, 0)) none) (cond (Nat.beq x 297) (some (.invokevirtual 42, 300, 0, 0)) none)) (cond (Nat.blt x 301) (cond (Nat.beq x 300) (some (.aload_n 1, 301, 0, 0)) none) (cond (Nat.beq x 301) (some (.iload 8, 303, 0, 0)) none)))) (cond (Nat.blt x 310) (cond (Nat.blt x 304) (cond (Nat.beq x 303) (some (.iconst 0, 304, 0, 0)) none) (cond (Nat.blt x 307) (cond (Nat.beq x 304) (some (.invokevirtual 32, 307, 0, 0)) none) (cond (Nat.beq x 307) (some (.if_icmp .ne 13, 310, 320, 0)) none))) (cond (Nat.blt x 313) (cond (Nat.blt x 312) (cond (Nat.beq x 310) (some (.iload 9, 312, 0, 0)) none) (cond (Nat.beq x 312) (some (.iconst 3, 313, 0, 3)) none)) (cond (Nat.blt x 316) (cond (Nat.beq x 313) (some (.if_icmp .ge 7, 316, 320, 0)) none) (cond (Nat.beq x 316) (some (.iconst 1, 317, 0, 1)) none))))) (cond (Nat.blt x 388) (cond (Nat.blt x 323) (cond (Nat.blt x 320) (cond (Nat.beq x 317) (some (.goto 4, 320, 321, 0)) none) (cond (Nat.blt x 321) (cond (Nat.beq x 320) (some (.iconst 0, 321, 0, 0)) none) (cond (Nat.beq x 321) (some (.istore 10, 323, 0, 0)) none))) (cond (Nat.blt x 327) (cond (Nat.blt x 325) (cond (Nat.beq x 323) (some (.iload 5, 325, 0, 0)) none) (cond (Nat.beq x 325) (some (.bipush 14, 327, 0, 14)) none)) (cond (Nat.blt x 330) (cond (Nat.beq x 327) (some (.invokestatic 18, 330, 0, 0)) none) (cond (Nat.beq x 330) (some (.tableswitch 427 0 10 #[58, 58, 115, 115, 180, 180, 180, 232, 297, 350, 397], 388, 0, 0)) none)))) (cond (Nat.blt x 392) (cond (Nat.blt x 390) (cond (Nat.beq x 388) (some (.iload 5, 390, 0, 0)) none) (cond (Nat.blt x 391) (cond (Nat.beq x 390) (some (.iconst 4, 391, 0, 4)) none) (cond (Nat.beq x 391) (some (.ishr, 392, 0, 0)) none))) (cond (Nat.blt x 397) (cond (Nat.blt x 394) (cond (Nat.beq x 392) (some (.bipush 15, 394, 0, 15)) none) (cond (Nat.beq x 394) (some (.invokestatic 18, 397, 0, 0)) none)) (cond (Nat.blt x 399) (cond (Nat.beq x 397) (some (.istore 11, 399, 0, 0)) none) (cond (Nat.beq x 399) (some (.iload 6, 401, 0, 0)) none)))))) (cond (Nat.blt x 427) (cond (Nat.blt x 413) (cond (Nat.blt x 405) (cond (Nat.blt x 402) (cond (Nat.beq x 401) (some (.iconst 2, 402, 0, 2)) none) (cond (Nat.blt x 403) (cond (Nat.beq x 402) (some (.ishr, 403, 0, 0)) none) (cond (Nat.beq x 403) (some (.bipush 120, 405, 0, 120)) none))) (cond (Nat.blt x 410) (cond (Nat.blt x 408) (cond (Nat.beq x 405) (some (.invokestatic 18, 408, 0, 0)) none) (cond (Nat.beq x 408) (some (.istore 12, 410, 0, 0)) none)) (cond (Nat.blt x 411) (cond (Nat.beq x 410) (some (.aload_n 1, 411, 0, 0)) none) (cond (Nat.beq x 411) (some (.iload 11, 413, 0, 0)) none)))) (cond (Nat.blt x 418) (cond (Nat.blt x 414) (cond (Nat.beq x 413) (some (.iconst 3, 414, 0, 3)) none) (cond (Nat.blt x 417) (cond (Nat.beq x 414) (some (.invokevirtual 45, 417, 0, 0)) none) (cond (Nat.beq x 417) (some (.iconst 1, 418, 0, 1)) none))) (cond (Nat.blt x 424) (cond (Nat.blt x 421) (cond (Nat.beq x 418) (some (.if_icmp .ne 6, 421, 424, 0)) none) (cond (Nat.beq x 421) (some (.goto 364, 424, 785, 0)) none)) (cond (Nat.blt x 425) (cond (Nat.beq x 424) (some (.aload_n 1, 425, 0, 0)) none) (cond (Nat.beq x 425) (some (.iload 11, 427, 0, 0)) none))))) (cond (Nat.blt x 440) (cond (Nat.blt x 434) (cond (Nat.blt x 429) (cond (Nat.beq x 427) (some (.iload 12, 429, 0, 0)) none) (cond (Nat.blt x 432) (cond (Nat.beq x 429) (some (.invokevirtual 22, 432, 0, 0)) none) (cond (Nat.beq x 432) (some (.istore 13, 434, 0, 0)) none))) (cond (Nat.blt x 437) (cond (Nat.blt x 435) (cond (Nat.beq x 434) (some (.iload_n 2, 435, 0, 0)) none) (cond (Nat.beq x 435) (some (.iload 12, 437, 0, 0)) none)) (cond (Nat.blt x 439) (cond (Nat.beq x 437) (some (.iload 13, 439, 0, 0)) none) (cond (Nat.beq x 439) (some (.isub, 440, 0, 0)) none)))) (cond (Nat.blt x 446) (cond (Nat.blt x 442) (cond (Nat.blt x 441) (cond (Nat.beq x 440) (some (.iadd, 441, 0, 0)) none) (cond (Nat.beq x 441) (some (.istore_n 2, 442, 0, 0)) none)) (cond (Nat.blt x 445) (cond (Nat.beq x 442) (some (.goto 343, 445, 785, 0)) none) (cond (Nat.beq x 445) (some (.aload_n 1, 446, 0, 0)) none))) (cond (Nat.blt x 449) (cond (Nat.blt x 448) (cond (Nat.beq x 446) (some (.iload 8, 448, 0, 0)) none) (cond (Nat.beq x 448) (some (.iconst 2, 449, 0, 2)) none)) (cond (Nat.blt x 452) (cond (Nat.beq x 449) (some (.invokevirtual 32, 452, 0, 0)) none) (cond (Nat.beq x 452) (some (.bipush 8, 454, 0, 8)) none))))))))) (cond (Nat.blt x 670) (cond (Nat.blt x 562) (cond (Nat.blt x 509) (cond (Nat.blt x 482) (cond (Nat.blt x 465) (cond (Nat.blt x 460) (cond (Nat.blt x 457) (cond (Nat.beq x 454) (some (.if_icmp .ge 331, 457, 785, 0)) none) (cond (Nat.blt x 458) (cond (Nat.beq x 457) (some (.aload_n 1, 458, 0, 0)) none) (cond (Nat.beq x 458) (some (.iload 8, 460, 0, 0)) none))) (cond (Nat.blt x 463) (cond (Nat.blt x 462) (cond (Nat.beq x 460) (some (.iload 5, 462, 0, 0)) none) (cond (Nat.beq x 462) (some (.iconst 4, 463, 0, 4)) none)) (cond (Nat.blt x 464) (cond (Nat.beq x 463) (some (.ishr, 464, 0, 0)) none) (cond (Nat.beq x 464) (some (.iconst 4, 465, 0, 4)) none)))) (cond (Nat.blt x 473) (cond (Nat.blt x 468) (cond (Nat.beq x 465) (some (.invokestatic 18, 468, 0, 0)) none) (cond (Nat.blt x 471) (cond (Nat.beq x 468) (some (.ifCond .ne 13, 471, 481, 0)) none) (cond (Nat.beq x 471) (some (.iload 6, 473, 0, 0)) none))) (cond (Nat.blt x 478) (cond (Nat.blt x 475) (cond (Nat.beq x 473) (some (.bipush 15, 475, 0, 15)) none) (cond (Nat.beq x 475) (some (.invokestatic 18, 478, 0, 0)) none)) (cond (Nat.blt x 481) (cond (Nat.beq x 478) (some (.goto 17, 481, 495, 0)) none) (cond (Nat.beq x 481) (some (.aload_n 1, 482, 0, 0)) none))))) (cond (Nat.blt x 495) (cond (Nat.blt x 488) (cond (Nat.blt x 484) (cond (Nat.beq x 482) (some (.iload 8, 484, 0, 0)) none) (cond (Nat.blt x 485) (cond (Nat.beq x 484) (some (.iconst 0, 485, 0, 0)) none) (cond (Nat.beq x 485) (some (.invokevirtual 32, 488, 0, 0)) none))) (cond (Nat.blt x 491) (cond (Nat.blt x 490) (cond (Nat.beq x 488) (some (.iload 5, 490, 0, 0)) none) (cond (Nat.beq x 490) (some (.iconst 4, 491, 0, 4)) none)) (cond (Nat.blt x 492) (cond (Nat.beq x 491) (some (.ishr, 492, 0, 0)) none) (cond (Nat.beq x 492) (some (.invokestatic 48, 495, 0, 0)) none)))) (cond (Nat.blt x 501) (cond (Nat.blt x 498) (cond (Nat.beq x 495) (some (.invokevirtual 51, 498, 0, 0)) none) (cond (Nat.blt x 499) (cond (Nat.beq x 498) (some (.aload_n 1, 499, 0, 0)) none) (cond (Nat.beq x 499) (some (.iload 8, 501, 0, 0)) none))) (cond (Nat.blt x 505) (cond (Nat.blt x 502) (cond (Nat.beq x 501) (some (.iconst 2, 502, 0, 2)) none) (cond (Nat.beq x 502) (some (.invokevirtual 32, 505, 0, 0)) none)) (cond (Nat.blt x 508) (cond (Nat.beq x 505) (some (.if_icmp .eq 280, 508, 785, 0)) none) (cond (Nat.beq x 508) (some (.iconst 0, 509, 0, 0)) none)))))) (cond (Nat.blt x 535) (cond (Nat.blt x 521) (cond (Nat.blt x 513) (cond (Nat.blt x 510) (cond (Nat.beq x 509) (some (.ireturn, 510, 0, 0)) none) (cond (Nat.blt x 512) (cond (Nat.beq x 510) (some (.iload 9, 512, 0, 0)) none) (cond (Nat.beq x 512) (some (.iconst 3, 513, 0, 3)) none))) (cond (Nat.blt x 517) (cond (Nat.blt x 516) (cond (Nat.beq x 513) (some (.if_icmp .ge 272, 516, 785, 0)) none) (cond (Nat.beq x 516) (some (.aload_n 1, 517, 0, 0)) none)) (cond (Nat.blt x 519) (cond (Nat.beq x 517) (some (.iload 7, 519, 0, 0)) none) (cond (Nat.beq x 519) (some (.bipush 6, 521, 0, 6)) none)))) (cond (Nat.blt x 529) (cond (Nat.blt x 524) (cond (Nat.beq x 521) (some (.invokevirtual 42, 524, 0, 0)) none) (cond (Nat.blt x 526) (cond (Nat.beq x 524) (some (.bipush 8, 526, 0, 8)) none) (cond (Nat.beq x 526) (some (.if_icmp .ge 259, 529, 785, 0)) none))) (cond (Nat.blt x 532) (cond (Nat.blt x 530) (cond (Nat.beq x 529) (some (.aload_n 1, 530, 0, 0)) none) (cond (Nat.beq x 530) (some (.iload 7, 532, 0, 0)) none)) (cond (Nat.blt x 533) (cond (Nat.beq x 532) (some (.aload_n 1, 533, 0, 0)) none) (cond (Nat.beq x 533) (some (.iload 7, 535, 0, 0)) none))))) (cond (Nat.blt x 549) (cond (Nat.blt x 541) (cond (Nat.blt x 536) (cond (Nat.beq x 535) (some (.iconst 0, 536, 0, 0)) none) (cond (Nat.blt x 539) (cond (Nat.beq x 536) (some (.invokevirtual 42, 539, 0, 0)) none) (cond (Nat.beq x 539) (some (.iload 5, 541, 0, 0)) none))) (cond (Nat.blt x 543) (cond (Nat.blt x 542) (cond (Nat.beq x 541) (some (.iconst 5, 542, 0, 5)) none) (cond (Nat.beq x 542) (some (.ishr, 543, 0, 0)) none)) (cond (Nat.blt x 546) (cond (Nat.beq x 543) (some (.invokestatic 48, 546, 0, 0)) none) (cond (Nat.beq x 546) (some (.invokevirtual 54, 549, 0, 0)) none)))) (cond (Nat.blt x 554) (cond (Nat.blt x 550) (cond (Nat.beq x 549) (some (.aload_n 1, 550, 0, 0)) none) (cond (Nat.blt x 552) (cond (Nat.beq x 550) (some (.iload 7, 552, 0, 0)) none) (cond (Nat.beq x 552) (some (.bipush 6, 554, 0, 6)) none))) (cond (Nat.blt x 560) (cond (Nat.blt x 557) (cond (Nat.beq x 554) (some (.invokevirtual 42, 557, 0, 0)) none) (cond (Nat.beq x 557) (some (.if_icmp .eq 228, 560, 785, 0)) none)) (cond (Nat.blt x 561) (cond (Nat.beq x 560) (some (.iconst 0, 561, 0, 0)) none) (cond (Nat.beq x 561) (some (.ireturn, 562, 0, 0)) none))))))) (cond (Nat.blt x 617) (cond (Nat.blt x 588) (cond (Nat.blt x 575) (cond (Nat.blt x 568) (cond (Nat.blt x 564) (cond (Nat.beq x 562) (some (.iload 10, 564, 0, 0)) none) (cond (Nat.blt x 567) (cond (Nat.beq x 564) (some (.ifCond .eq 221, 567, 785, 0)) none) (cond (Nat.beq x 567) (some (.aload_n 1, 568, 0, 0)) none))) (cond (Nat.blt x 571) (cond (Nat.blt x 570) (cond (Nat.beq x 568) (some (.iload 8, 570, 0, 0)) none) (cond (Nat.beq x 570) (some (.iconst 3, 571, 0, 3)) none)) (cond (Nat.blt x 574) (cond (Nat.beq x 571) (some (.invokevirtual 32, 574, 0, 0)) none) (cond (Nat.beq x 574) (some (.iconst 2, 575, 0, 2)) none)))) (cond (Nat.blt x 581) (cond (Nat.blt x 578) (cond (Nat.beq x 575) (some (.if_icmp .ge 210, 578, 785, 0)) none) (cond (Nat.blt x 580) (cond (Nat.beq x 578) (some (.iload 9, 580, 0, 0)) none) (cond (Nat.beq x 580) (some (.iconst 1, 581, 0, 1)) none))) (cond (Nat.blt x 585) (cond (Nat.blt x 584) (cond (Nat.beq x 581) (some (.if_icmp .ne 15, 584, 596, 0)) none) (cond (Nat.beq x 584) (some (.aload_n 1, 585, 0, 0)) none)) (cond (Nat.blt x 587) (cond (Nat.beq x 585) (some (.iload 7, 587, 0, 0)) none) (cond (Nat.beq x 587) (some (.iconst 5, 588, 0, 5)) none))))) (cond (Nat.blt x 604) (cond (Nat.blt x 596) (cond (Nat.blt x 591) (cond (Nat.beq x 588) (some (.invokevirtual 42, 591, 0, 0)) none) (cond (Nat.blt x 593) (cond (Nat.beq x 591) (some (.iload 8, 593, 0, 0)) none) (cond (Nat.beq x 593) (some (.if_icmp .eq 192, 596, 785, 0)) none))) (cond (Nat.blt x 599) (cond (Nat.blt x 597) (cond (Nat.beq x 596) (some (.aload_n 1, 597, 0, 0)) none) (cond (Nat.beq x 597) (some (.iload 8, 599, 0, 0)) none)) (cond (Nat.blt x 601) (cond (Nat.beq x 599) (some (.iload 7, 601, 0, 0)) none) (cond (Nat.beq x 601) (some (.invokevirtual 57, 604, 0, 0)) none)))) (cond (Nat.blt x 608) (cond (Nat.blt x 605) (cond (Nat.beq x 604) (some (.aload_n 1, 605, 0, 0)) none) (cond (Nat.blt x 607) (cond (Nat.beq x 605) (some (.iload 8, 607, 0, 0)) none) (cond (Nat.beq x 607) (some (.iconst 3, 608, 0, 3)) none))) (cond (Nat.blt x 614) (cond (Nat.blt x 611) (cond (Nat.beq x 608) (some (.invokevirtual 32, 611, 0, 0)) none) (cond (Nat.beq x 611) (some (.if_icmp .ne 14, 614, 625, 0)) none)) (cond (Nat.blt x 615) (cond (Nat.beq x 614) (some (.aload_n 1, 615, 0, 0)) none) (cond (Nat.beq x 615) (some (.iload 7, 617, 0, 0)) none)))))) (cond (Nat.blt x 643) (cond (Nat.blt x 629) (cond (Nat.blt x 622) (cond (Nat.blt x 618) (cond (Nat.beq x 617) (some (.iconst 4, 618, 0, 4)) none) (cond (Nat.blt x 621) (cond (Nat.beq x 618) (some (.invokevirtual 42, 621, 0, 0)) none) (cond (Nat.beq x 621) (some (.iconst 1, 622, 0, 1)) none))) (cond (Nat.blt x 626) (cond (Nat.blt x 625) (cond (Nat.beq x 622) (some (.if_icmp .eq 163, 625, 785, 0)) none) (cond (Nat.beq x 625) (some (.iconst 0, 626, 0, 0)) none)) (cond (Nat.blt x 627) (cond (Nat.beq x 626) (some (.ireturn, 627, 0, 0)) none) (cond (Nat.beq x 627) (some (.iload 10, 629, 0, 0)) none)))) (cond (Nat.blt x 635) (cond (Nat.blt x 632) (cond (Nat.beq x 629) (some (.ifCond .eq 156, 632, 785, 0)) none) (cond (Nat.blt x 633) (cond (Nat.beq x 632) (some (.aload_n 1, 633, 0, 0)) none) (cond (Nat.beq x 633) (some (.iload 8, 635, 0, 0)) none))) (cond (Nat.blt x 639) (cond (Nat.blt x 636) (cond (Nat.beq x 635) (some (.iconst 4, 636, 0, 4)) none) (cond (Nat.beq x 636) (some (.invokevirtual 32, 639, 0, 0)) none)) (cond (Nat.blt x 640) (cond (Nat.beq x 639) (some (.iconst (-1), 640, 0, (-1))) none) (cond (Nat.beq x 640) (some (.if_icmp .ne 145, 643, 785, 0)) none))))) (cond (Nat.blt x 656) (cond (Nat.blt x 647) (cond (Nat.blt x 644) (cond (Nat.beq x 643) (some (.aload_n 1, 644, 0, 0)) none) (cond (Nat.blt x 646) (cond (Nat.beq x 644) (some (.iload 7, 646, 0, 0)) none) (cond (Nat.beq x 646) (some (.iconst 1, 647, 0, 1)) none))) (cond (Nat.blt x 653) (cond (Nat.blt x 650) (cond (Nat.beq x 647) (some (.invokevirtual 42, 650, 0, 0)) none) (cond (Nat.beq x 650) (some (.ifCond .le 135, 653, 785, 0)) none)) (cond (Nat.blt x 654) (cond (Nat.beq x 653) (some (.aload_n 1, 654, 0, 0)) none) (cond (Nat.beq x 654) (some (.iload 8, 656, 0, 0)) none)))) (cond (Nat.blt x 663) (cond (Nat.blt x 658) (cond (Nat.beq x 656) (some (.iload 7, 658, 0, 0)) none) (cond (Nat.blt x 661) (cond (Nat.beq x 658) (some (.invokevirtual 60, 661, 0, 0)) none) (cond (Nat.beq x 661) (some (.bipush 30, 663, 0, 30)) none))) (cond (Nat.blt x 667) (cond (Nat.blt x 666) (cond (Nat.beq x 663) (some (.if_icmp .lt 15, 666, 678, 0)) none) (cond (Nat.beq x 666) (some (.aload_n 1, 667, 0, 0)) none)) (cond (Nat.blt x 669) (cond (Nat.beq x 667) (some (.iload 8, 669, 0, 0)) none) (cond (Nat.beq x 669) (some (.iconst 4, 670, 0, 4)) none)))))))) (cond (Nat.blt x 769) (cond (Nat.blt x 722) (cond (Nat.blt x 697) (cond (Nat.blt x 683) (cond (Nat.blt x 678) (cond (Nat.blt x 673) (cond (Nat.beq x 670) (some (.invokevirtual 32, 673, 0, 0)) none) (cond (Nat.blt x 675) (cond (Nat.beq x 673) (some (.iload 7, 675, 0, 0)) none) (cond (Nat.beq x 675) (some (.if_icmp .eq 110, 678, 785, 0)) none))) (cond (Nat.blt x 680) (cond (Nat.blt x 679) (cond (Nat.beq x 678) (some (.iconst 0, 679, 0, 0)) none) (cond (Nat.beq x 679) (some (.ireturn, 680, 0, 0)) none)) (cond (Nat.blt x 681) (cond (Nat.beq x 680) (some (.iload_n 3, 681, 0, 0)) none) (cond (Nat.beq x 681) (some (.bipush 10, 683, 0, 10)) none)))) (cond (Nat.blt x 692) (cond (Nat.blt x 686) (cond (Nat.beq x 683) (some (.if_icmp .ne 6, 686, 689, 0)) none) (cond (Nat.blt x 689) (cond (Nat.beq x 686) (some (.goto 99, 689, 785, 0)) none) (cond (Nat.beq x 689) (some (.iinc 3 1, 692, 0, 1)) none))) (cond (Nat.blt x 695) (cond (Nat.blt x 693) (cond (Nat.beq x 692) (some (.aload_n 1, 693, 0, 0)) none) (cond (Nat.beq x 693) (some (.iload 5, 695, 0, 0)) none)) (cond (Nat.blt x 696) (cond (Nat.beq x 695) (some (.iconst 4, 696, 0, 4)) none) (cond (Nat.beq x 696) (some (.ishr, 697, 0, 0)) none))))) (cond (Nat.blt x 709) (cond (Nat.blt x 703) (cond (Nat.blt x 698) (cond (Nat.beq x 697) (some (.iconst 2, 698, 0, 2)) none) (cond (Nat.blt x 701) (cond (Nat.beq x 698) (some (.invokestatic 18, 701, 0, 0)) none) (cond (Nat.beq x 701) (some (.iload 5, 703, 0, 0)) none))) (cond (Nat.blt x 705) (cond (Nat.blt x 704) (cond (Nat.beq x 703) (some (.iconst 5, 704, 0, 5)) none) (cond (Nat.beq x 704) (some (.ishr, 705, 0, 0)) none)) (cond (Nat.blt x 706) (cond (Nat.beq x 705) (some (.iconst 5, 706, 0, 5)) none) (cond (Nat.beq x 706) (some (.invokestatic 18, 709, 0, 0)) none)))) (cond (Nat.blt x 715) (cond (Nat.blt x 711) (cond (Nat.beq x 709) (some (.bipush 24, 711, 0, 24)) none) (cond (Nat.blt x 714) (cond (Nat.beq x 711) (some (.invokevirtual 63, 714, 0, 0)) none) (cond (Nat.beq x 714) (some (.aload_n 1, 715, 0, 0)) none))) (cond (Nat.blt x 719) (cond (Nat.blt x 716) (cond (Nat.beq x 715) (some (.iconst 0, 716, 0, 0)) none) (cond (Nat.beq x 716) (some (.invokevirtual 39, 719, 0, 0)) none)) (cond (Nat.blt x 721) (cond (Nat.beq x 719) (some (.bipush 24, 721, 0, 24)) none) (cond (Nat.beq x 721) (some (.iadd, 722, 0, 0)) none)))))) (cond (Nat.blt x 744) (cond (Nat.blt x 733) (cond (Nat.blt x 727) (cond (Nat.blt x 725) (cond (Nat.beq x 722) (some (.if_icmp .eq 63, 725, 785, 0)) none) (cond (Nat.blt x 726) (cond (Nat.beq x 725) (some (.iconst 0, 726, 0, 0)) none) (cond (Nat.beq x 726) (some (.ireturn, 727, 0, 0)) none))) (cond (Nat.blt x 730) (cond (Nat.blt x 728) (cond (Nat.beq x 727) (some (.aload_n 1, 728, 0, 0)) none) (cond (Nat.beq x 728) (some (.iload 7, 730, 0, 0)) none)) (cond (Nat.blt x 732) (cond (Nat.beq x 730) (some (.iload 5, 732, 0, 0)) none) (cond (Nat.beq x 732) (some (.iconst 4, 733, 0, 4)) none)))) (cond (Nat.blt x 739) (cond (Nat.blt x 734) (cond (Nat.beq x 733) (some (.ishr, 734, 0, 0)) none) (cond (Nat.blt x 736) (cond (Nat.beq x 734) (some (.bipush 10, 736, 0, 10)) none) (cond (Nat.beq x 736) (some (.invokestatic 18, 739, 0, 0)) none))) (cond (Nat.blt x 742) (cond (Nat.blt x 741) (cond (Nat.beq x 739) (some (.iload 6, 741, 0, 0)) none) (cond (Nat.beq x 741) (some (.iconst 4, 742, 0, 4)) none)) (cond (Nat.blt x 743) (cond (Nat.beq x 742) (some (.ishr, 743, 0, 0)) none) (cond (Nat.beq x 743) (some (.iconst 5, 744, 0, 5)) none))))) (cond (Nat.blt x 757) (cond (Nat.blt x 749) (cond (Nat.blt x 747) (cond (Nat.beq x 744) (some (.invokestatic 18, 747, 0, 0)) none) (cond (Nat.blt x 748) (cond (Nat.beq x 747) (some (.iconst 1, 748, 0, 1)) none) (cond (Nat.beq x 748) (some (.isub, 749, 0, 0)) none))) (cond (Nat.blt x 755) (cond (Nat.blt x 752) (cond (Nat.beq x 749) (some (.invokestatic 67, 752, 0, 0)) none) (cond (Nat.beq x 752) (some (.ifCond .ne 33, 755, 785, 0)) none)) (cond (Nat.blt x 756) (cond (Nat.beq x 755) (some (.iconst 0, 756, 0, 0)) none) (cond (Nat.beq x 756) (some (.ireturn, 757, 0, 0)) none)))) (cond (Nat.blt x 761) (cond (Nat.blt x 758) (cond (Nat.beq x 757) (some (.aload_n 1, 758, 0, 0)) none) (cond (Nat.blt x 760) (cond (Nat.beq x 758) (some (.iload 5, 760, 0, 0)) none) (cond (Nat.beq x 760) (some (.iconst 4, 761, 0, 4)) none))) (cond (Nat.blt x 764) (cond (Nat.blt x 762) (cond (Nat.beq x 761) (some (.ishr, 762, 0, 0)) none) (cond (Nat.beq x 762) (some (.bipush 10, 764, 0, 10)) none)) (cond (Nat.blt x 767) (cond (Nat.beq x 764) (some (.invokestatic 18, 767, 0, 0)) none) (cond (Nat.beq x 767) (some (.iload 6, 769, 0, 0)) none))))))) (cond (Nat.blt x 820) (cond (Nat.blt x 791) (cond (Nat.blt x 780) (cond (Nat.blt x 772) (cond (Nat.blt x 770) (cond (Nat.beq x 769) (some (.iconst 4, 770, 0, 4)) none) (cond (Nat.blt x 771) (cond (Nat.beq x 770) (some (.ishr, 771, 0, 0)) none) (cond (Nat.beq x 771) (some (.iconst 5, 772, 0, 5)) none))) (cond (Nat.blt x 776) (cond (Nat.blt x 775) (cond (Nat.beq x 772) (some (.invokestatic 18, 775, 0, 0)) none) (cond (Nat.beq x 775) (some (.iconst 1, 776, 0, 1)) none)) (cond (Nat.blt x 777) (cond (Nat.beq x 776) (some (.isub, 777, 0, 0)) none) (cond (Nat.beq x 777) (some (.invokestatic 71, 780, 0, 0)) none)))) (cond (Nat.blt x 785) (cond (Nat.blt x 783) (cond (Nat.beq x 780) (some (.ifCond .ne 5, 783, 785, 0)) none) (cond (Nat.blt x 784) (cond (Nat.beq x 783) (some (.iconst 0, 784, 0, 0)) none) (cond (Nat.beq x 784) (some (.ireturn, 785, 0, 0)) none))) (cond (Nat.blt x 787) (cond (Nat.blt x 786) (cond (Nat.beq x 785) (some (.aload_n 1, 786, 0, 0)) none) (cond (Nat.beq x 786) (some (.iconst 1, 787, 0, 1)) none)) (cond (Nat.blt x 790) (cond (Nat.beq x 787) (some (.invokevirtual 39, 790, 0, 0)) none) (cond (Nat.beq x 790) (some (.iload_n 2, 791, 0, 0)) none))))) (cond (Nat.blt x 805) (cond (Nat.blt x 797) (cond (Nat.blt x 792) (cond (Nat.beq x 791) (some (.aload_n 1, 792, 0, 0)) none) (cond (Nat.blt x 794) (cond (Nat.beq x 792) (some (.bipush 9, 794, 0, 9)) none) (cond (Nat.beq x 794) (some (.invokevirtual 39, 797, 0, 0)) none))) (cond (Nat.blt x 801) (cond (Nat.blt x 798) (cond (Nat.beq x 797) (some (.iadd, 798, 0, 0)) none) (cond (Nat.beq x 798) (some (.if_icmp .ne 10, 801, 808, 0)) none)) (cond (Nat.blt x 802) (cond (Nat.beq x 801) (some (.aload_n 1, 802, 0, 0)) none) (cond (Nat.beq x 802) (some (.invokestatic 75, 805, 0, 0)) none)))) (cond (Nat.blt x 810) (cond (Nat.blt x 808) (cond (Nat.beq x 805) (some (.ifCond .ne 5, 808, 810, 0)) none) (cond (Nat.blt x 809) (cond (Nat.beq x 808) (some (.iconst 0, 809, 0, 0)) none) (cond (Nat.beq x 809) (some (.ireturn, 810, 0, 0)) none))) (cond (Nat.blt x 816) (cond (Nat.blt x 813) (cond (Nat.beq x 810) (some (.iinc 4 1, 813, 0, 1)) none) (cond (Nat.beq x 813) (some (.goto (-592), 816, 221, 0)) none)) (cond (Nat.blt x 817) (cond (Nat.beq x 816) (some (.aload_n 1, 817, 0, 0)) none) (cond (Nat.beq x 817) (some (.invokevirtual 79, 820, 0, 0)) none)))))) (cond (Nat.blt x 847) (cond (Nat.blt x 832) (cond (Nat.blt x 825) (cond (Nat.blt x 822) (cond (Nat.beq x 820) (some (.lstore 4, 822, 0, 0)) none) (cond (Nat.blt x 823) (cond (Nat.beq x 822) (some (.iconst 0, 823, 0, 0)) none) (cond (Nat.beq x 823) (some (.istore 6, 825, 0, 0)) none))) (cond (Nat.blt x 828) (cond (Nat.blt x 827) (cond (Nat.beq x 825) (some (.iload 6, 827, 0, 0)) none) (cond (Nat.beq x 827) (some (.iconst 2, 828, 0, 2)) none)) (cond (Nat.blt x 831) (cond (Nat.beq x 828) (some (.if_icmp .ge 31, 831, 859, 0)) none) (cond (Nat.beq x 831) (some (.aload_n 1, 832, 0, 0)) none)))) (cond (Nat.blt x 838) (cond (Nat.blt x 834) (cond (Nat.beq x 832) (some (.iload 6, 834, 0, 0)) none) (cond (Nat.blt x 837) (cond (Nat.beq x 834) (some (.invokevirtual 83, 837, 0, 0)) none) (cond (Nat.beq x 837) (some (.iconst 4, 838, 0, 4)) none))) (cond (Nat.blt x 842) (cond (Nat.blt x 841) (cond (Nat.beq x 838) (some (.if_icmp .gt 13, 841, 851, 0)) none) (cond (Nat.beq x 841) (some (.aload_n 1, 842, 0, 0)) none)) (cond (Nat.blt x 844) (cond (Nat.beq x 842) (some (.iload 6, 844, 0, 0)) none) (cond (Nat.beq x 844) (some (.invokevirtual 83, 847, 0, 0)) none))))) (cond (Nat.blt x 860) (cond (Nat.blt x 852) (cond (Nat.blt x 848) (cond (Nat.beq x 847) (some (.iconst (-1), 848, 0, (-1))) none) (cond (Nat.blt x 851) (cond (Nat.beq x 848) (some (.if_icmp .ge 5, 851, 853, 0)) none) (cond (Nat.beq x 851) (some (.iconst 0, 852, 0, 0)) none))) (cond (Nat.blt x 856) (cond (Nat.blt x 853) (cond (Nat.beq x 852) (some (.ireturn, 853, 0, 0)) none) (cond (Nat.beq x 853) (some (.iinc 6 1, 856, 0, 1)) none)) (cond (Nat.blt x 859) (cond (Nat.beq x 856) (some (.goto (-31), 859, 825, 0)) none) (cond (Nat.beq x 859) (some (.aload_n 1, 860, 0, 0)) none)))) (cond (Nat.blt x 869) (cond (Nat.blt x 865) (cond (Nat.blt x 863) (cond (Nat.beq x 860) (some (.invokevirtual 79, 863, 0, 0)) none) (cond (Nat.beq x 863) (some (.lload 4, 865, 0, 0)) none)) (cond (Nat.blt x 866) (cond (Nat.beq x 865) (some (.lcmp, 866, 0, 0)) none) (cond (Nat.beq x 866) (some (.ifCond .ne 7, 869, 873, 0)) none))) (cond (Nat.blt x 873) (cond (Nat.blt x 870) (cond (Nat.beq x 869) (some (.iconst 1, 870, 0, 1)) none) (cond (Nat.beq x 870) (some (.goto 4, 873, 874, 0)) none)) (cond (Nat.blt x 874) (cond (Nat.beq x 873) (some (.iconst 0, 874, 0, 0)) none) (cond (Nat.beq x 874) (some (.ireturn, 875, 0, 0)) none)))))))))
def et_ln (y : Nat) : Nat := cond (Nat.blt y 57) (cond (Nat.blt y 29) (cond (Nat.blt y 14) (cond (Nat.blt y 6) (cond (Nat.blt y 3) (cond (Nat.blt y 1) (cond (Nat.beq y 0) (21) 0) (cond (Nat.blt y 2) (cond (Nat.beq y 1) (31) 0) (cond (Nat.beq y 2) (44) 0))) (cond (Nat.blt y 4) (cond (Nat.beq y 3) (5) 0) (cond (Nat.blt y 5) (cond (Nat.beq y 4) (28) 0) (cond (Nat.beq y 5) (14) 0)))) (cond (Nat.blt y 10) (cond (Nat.blt y 8) (cond (Nat.beq y 6) (12) 0) (cond (Nat.blt y 9) (cond (Nat.beq y 8) (36) 0) (cond (Nat.beq y 9) (31) 0))) (cond (Nat.blt y 12) (cond (Nat.blt y 11) (cond (Nat.beq y 10) (44) 0) (cond (Nat.beq y 11) (27) 0)) (cond (Nat.blt y 13) (cond (Nat.beq y 12) (41) 0) (cond (Nat.beq y 13) (21) 0))))) (cond (Nat.blt y 21) (cond (Nat.blt y 17) (cond (Nat.blt y 15) (cond (Nat.beq y 14) (21) 0) (cond (Nat.blt y 16) (cond (Nat.beq y 15) (84) 0) (cond (Nat.beq y 16) (72) 0))) (cond (Nat.blt y 19) (cond (Nat.blt y 18) (cond (Nat.beq y 17) (33) 0) (cond (Nat.beq y 18) (26) 0)) (cond (Nat.blt y 20) (cond (Nat.beq y 19) (28) 0) (cond (Nat.beq y 20) (62) 0)))) (cond (Nat.blt y 25) (cond (Nat.blt y 23) (cond (Nat.beq y 21) (55) 0) (cond (Nat.blt y 24) (cond (Nat.beq y 23) (28) 0) (cond (Nat.beq y 24) (23) 0))) (cond (Nat.blt y 27) (cond (Nat.blt y 26) (cond (Nat.beq y 25) (43) 0) (cond (Nat.beq y 26) (38) 0)) (cond (Nat.blt y 28) (cond (Nat.beq y 27) (26) 0) (cond (Nat.beq y 28) (32) 0)))))) (cond (Nat.blt y 42) (cond (Nat.blt y 35) (cond (Nat.blt y 32) (cond (Nat.blt y 30) (cond (Nat.beq y 29) (13) 0) (cond (Nat.blt y 31) (cond (Nat.beq y 30) (18) 0) (cond (Nat.beq y 31) (44) 0))) (cond (Nat.blt y 33) (cond (Nat.beq y 32) (26) 0) (cond (Nat.blt y 34) (cond (Nat.beq y 33) (54) 0) (cond (Nat.beq y 34) (12) 0)))) (cond (Nat.blt y 38) (cond (Nat.blt y 36) (cond (Nat.beq y 35) (47) 0) (cond (Nat.blt y 37) (cond (Nat.beq y 36) (120) 0) (cond (Nat.beq y 37) (30) 0))) (cond (Nat.blt y 40) (cond (Nat.blt y 39) (cond (Nat.beq y 38) (38) 0) (cond (Nat.beq y 39) (38) 0)) (cond (Nat.blt y 41) (cond (Nat.beq y 40) (36) 0) (cond (Nat.beq y 41) (52) 0))))) (cond (Nat.blt y 50) (cond (Nat.blt y 45) (cond (Nat.blt y 43) (cond (Nat.beq y 42) (136) 0) (cond (Nat.blt y 44) (cond (Nat.beq y 43) (69) 0) (cond (Nat.beq y 44) (113) 0))) (cond (Nat.blt y 47) (cond (Nat.blt y 46) (cond (Nat.beq y 45) (134) 0) (cond (Nat.beq y 46) (87) 0)) (cond (Nat.blt y 49) (cond (Nat.beq y 47) (71) 0) (cond (Nat.beq y 49) (53) 0)))) (cond (Nat.blt y 53) (cond (Nat.blt y 51) (cond (Nat.beq y 50) (41) 0) (cond (Nat.blt y 52) (cond (Nat.beq y 51) (33) 0) (cond (Nat.beq y 52) (40) 0))) (cond (Nat.blt y 55) (cond (Nat.blt y 54) (cond (Nat.beq y 53) (31) 0) (cond (Nat.beq y 54) (31) 0)) (cond (Nat.blt y 56) (cond (Nat.beq y 55) (31) 0) (cond (Nat.beq y 56) (33) 0))))))) (cond (Nat.blt y 89) (cond (Nat.blt y 71) (cond (Nat.blt y 64) (cond (Nat.blt y 61) (cond (Nat.blt y 59) (cond (Nat.beq y 57) (41) 0) (cond (Nat.blt y 60) (cond (Nat.beq y 59) (122) 0) (cond (Nat.beq y 60) (38) 0))) (cond (Nat.blt y 62) (cond (Nat.beq y 61) (79) 0) (cond (Nat.blt y 63) (cond (Nat.beq y 62) (31) 0) (cond (Nat.beq y 63) (22) 0)))) (cond (Nat.blt y 67) (cond (Nat.blt y 65) (cond (Nat.beq y 64) (11) 0) (cond (Nat.blt y 66) (cond (Nat.beq y 65) (11) 0) (cond (Nat.beq y 66) (68) 0))) (cond (Nat.blt y 69) (cond (Nat.blt y 68) (cond (Nat.beq y 67) (20) 0) (cond (Nat.beq y 68) (24) 0)) (cond (Nat.blt y 70) (cond (Nat.beq y 69) (24) 0) (cond (Nat.beq y 70) (30) 0))))) (cond (Nat.blt y 80) (cond (Nat.blt y 75) (cond (Nat.blt y 72) (cond (Nat.beq y 71) (120) 0) (cond (Nat.blt y 73) (cond (Nat.beq y 72) (49) 0) (cond (Nat.beq y 73) (49) 0))) (cond (Nat.blt y 78) (cond (Nat.blt y 76) (cond (Nat.beq y 75) (63) 0) (cond (Nat.beq y 76) (79) 0)) (cond (Nat.blt y 79) (cond (Nat.beq y 78) (64) 0) (cond (Nat.beq y 79) (87) 0)))) (cond (Nat.blt y 84) (cond (Nat.blt y 81) (cond (Nat.beq y 80) (45) 0) (cond (Nat.blt y 83) (cond (Nat.beq y 81) (53) 0) (cond (Nat.beq y 83) (74) 0))) (cond (Nat.blt y 87) (cond (Nat.blt y 86) (cond (Nat.beq y 84) (78) 0) (cond (Nat.beq y 86) (65) 0)) (cond (Nat.blt y 88) (cond (Nat.beq y 87) (94) 0) (cond (Nat.beq y 88) (93) 0)))))) (cond (Nat.blt y 104) (cond (Nat.blt y 97) (cond (Nat.blt y 93) (cond (Nat.blt y 90) (cond (Nat.beq y 89) (138) 0) (cond (Nat.blt y 91) (cond (Nat.beq y 90) (27) 0) (cond (Nat.beq y 91) (152) 0))) (cond (Nat.blt y 95) (cond (Nat.blt y 94) (cond (Nat.beq y 93) (77) 0) (cond (Nat.beq y 94) (13) 0)) (cond (Nat.blt y 96) (cond (Nat.beq y 95) (108) 0) (cond (Nat.beq y 96) (113) 0)))) (cond (Nat.blt y 100) (cond (Nat.blt y 98) (cond (Nat.beq y 97) (300) 0) (cond (Nat.blt y 99) (cond (Nat.beq y 98) (15) 0) (cond (Nat.beq y 99) (51) 0))) (cond (Nat.blt y 102) (cond (Nat.blt y 101) (cond (Nat.beq y 100) (46) 0) (cond (Nat.beq y 101) (26) 0)) (cond (Nat.blt y 103) (cond (Nat.beq y 102) (25) 0) (cond (Nat.beq y 103) (25) 0))))) (cond (Nat.blt y 221) (cond (Nat.blt y 107) (cond (Nat.blt y 105) (cond (Nat.beq y 104) (16) 0) (cond (Nat.blt y 106) (cond (Nat.beq y 105) (16) 0) (cond (Nat.beq y 106) (16) 0))) (cond (Nat.blt y 219) (cond (Nat.blt y 108) (cond (Nat.beq y 107) (90) 0) (cond (Nat.beq y 108) (26) 0)) (cond (Nat.blt y 220) (cond (Nat.beq y 219) (7) 0) (cond (Nat.beq y 220) (19) 0)))) (cond (Nat.blt y 224) (cond (Nat.blt y 222) (cond (Nat.beq y 221) (31) 0) (cond (Nat.blt y 223) (cond (Nat.beq y 222) (27) 0) (cond (Nat.beq y 223) (28) 0))) (cond (Nat.blt y 226) (cond (Nat.blt y 225) (cond (Nat.beq y 224) (699) 0) (cond (Nat.beq y 225) (105) 0)) (cond (Nat.blt y 242) (cond (Nat.beq y 226) (365) 0) (cond (Nat.beq y 242) (875) 0)))))))
def ew_pg (y x : Nat) : Option (Instr × Nat × Nat × Int32) := cond (Nat.blt y 243 && Nat.blt x (et_ln y)) (cond (Nat.blt y 57) (cond (Nat.blt y 29) (cond (Nat.blt y 14) (cond (Nat.blt y 6) (cond (Nat.blt y 3) (cond (Nat.blt y 1) (cond (Nat.beq y 0) (ep_X0_init x) none) (cond (Nat.blt y 2) (cond (Nat.beq y 1) (ep_X0_enter x) none) (cond (Nat.beq y 2) (ep_X0_copyFrom x) none))) (cond (Nat.blt y 4) (cond (Nat.beq y 3) (ep_X1_init x) none) (cond (Nat.blt y 5) (cond (Nat.beq y 4) (ep_X1_worth x) none) (cond (Nat.beq y 5) (ep_X1_worthInChannel x) none)))) (cond (Nat.blt y 10) (cond (Nat.blt y 8) (cond (Nat.beq y 6) (ep_X1_worthUnbroken x) none) (cond (Nat.blt y 9) (cond (Nat.beq y 8) (ep_X1_giveTenthTo x) none) (cond (Nat.beq y 9) (ep_X1_settleDrift x) none))) (cond (Nat.blt y 12) (cond (Nat.blt y 11) (cond (Nat.beq y 10) (ep_X1_freeze x) none) (cond (Nat.beq y 11) (ep_X1_closeChannel x) none)) (cond (Nat.blt y 13) (cond (Nat.beq y 12) (ep_X1_copyFrom x) none) (cond (Nat.beq y 13) (ep_X2_init x) none))))) (cond (Nat.blt y 21) (cond (Nat.blt y 17) (cond (Nat.blt y 15) (cond (Nat.beq y 14) (ep_X2_setPrice x) none) (cond (Nat.blt y 16) (cond (Nat.beq y 15) (ep_X2_cheapest x) none) (cond (Nat.beq y 16) (ep_X2_relax x) none))) (cond (Nat.blt y 19) (cond (Nat.blt y 18) (cond (Nat.beq y 17) (ep_X2_cheapestNeighbour x) none) (cond (Nat.beq y 18) (ep_X2_costAt x) none)) (cond (Nat.blt y 20) (cond (Nat.beq y 19) (ep_X3_init x) none) (cond (Nat.beq y 20) (ep_X3_addRule x) none)))) (cond (Nat.blt y 25) (cond (Nat.blt y 23) (cond (Nat.beq y 21) (ep_X3_leastAt x) none) (cond (Nat.blt y 24) (cond (Nat.beq y 23) (ep_X3_isExempt x) none) (cond (Nat.beq y 24) (ep_X3_letsIn x) none))) (cond (Nat.blt y 27) (cond (Nat.blt y 26) (cond (Nat.beq y 25) (ep_X4_init x) none) (cond (Nat.beq y 26) (ep_X4_portAt x) none)) (cond (Nat.blt y 28) (cond (Nat.beq y 27) (ep_X4_found x) none) (cond (Nat.beq y 28) (ep_X4_isPort x) none)))))) (cond (Nat.blt y 42) (cond (Nat.blt y 35) (cond (Nat.blt y 32) (cond (Nat.blt y 30) (cond (Nat.beq y 29) (ep_X5_init x) none) (cond (Nat.blt y 31) (cond (Nat.beq y 30) (ep_X5_isFull x) none) (cond (Nat.beq y 31) (ep_X5_add x) none))) (cond (Nat.blt y 33) (cond (Nat.beq y 32) (ep_X5_first x) none) (cond (Nat.blt y 34) (cond (Nat.beq y 33) (ep_X5_takeFirst x) none) (cond (Nat.beq y 34) (ep_X5_drop x) none)))) (cond (Nat.blt y 38) (cond (Nat.blt y 36) (cond (Nat.beq y 35) (ep_X5_copyFrom x) none) (cond (Nat.blt y 37) (cond (Nat.beq y 36) (ep_X6_init x) none) (cond (Nat.beq y 37) (ep_X6_cellAt x) none))) (cond (Nat.blt y 40) (cond (Nat.blt y 39) (cond (Nat.beq y 38) (ep_X6_breakerAt x) none) (cond (Nat.beq y 39) (ep_X6_shipAt x) none)) (cond (Nat.blt y 41) (cond (Nat.beq y 40) (ep_X6_addBreaker x) none) (cond (Nat.beq y 41) (ep_X6_addShip x) none))))) (cond (Nat.blt y 50) (cond (Nat.blt y 45) (cond (Nat.blt y 43) (cond (Nat.beq y 42) (ep_X6_passHour x) none) (cond (Nat.blt y 44) (cond (Nat.beq y 43) (ep_X6_drift x) none) (cond (Nat.beq y 44) (ep_X6_moveBreaker x) none))) (cond (Nat.blt y 47) (cond (Nat.blt y 46) (cond (Nat.beq y 45) (ep_X6_moveShip x) none) (cond (Nat.beq y 46) (ep_X6_goFree x) none)) (cond (Nat.blt y 49) (cond (Nat.beq y 47) (ep_X6_goBound x) none) (cond (Nat.beq y 49) (ep_X6_countShipsIn x) none)))) (cond (Nat.blt y 53) (cond (Nat.blt y 51) (cond (Nat.beq y 50) (ep_X6_countLed x) none) (cond (Nat.blt y 52) (cond (Nat.beq y 51) (ep_X6_towedBy x) none) (cond (Nat.beq y 52) (ep_X6_countArrived x) none))) (cond (Nat.blt y 55) (cond (Nat.blt y 54) (cond (Nat.beq y 53) (ep_X6_allWaits x) none) (cond (Nat.beq y 54) (ep_X6_allDues x) none)) (cond (Nat.blt y 56) (cond (Nat.beq y 55) (ep_X6_allDamage x) none) (cond (Nat.beq y 56) (ep_X6_allIce x) none))))))) (cond (Nat.blt y 89) (cond (Nat.blt y 71) (cond (Nat.blt y 64) (cond (Nat.blt y 61) (cond (Nat.blt y 59) (cond (Nat.beq y 57) (ep_X6_countChannels x) none) (cond (Nat.blt y 60) (cond (Nat.beq y 59) (ep_X6_copyFrom x) none) (cond (Nat.beq y 60) (ep_X7_init x) none))) (cond (Nat.blt y 62) (cond (Nat.beq y 61) (ep_X7_setClass x) none) (cond (Nat.blt y 63) (cond (Nat.beq y 62) (ep_X7_hindrance x) none) (cond (Nat.beq y 63) (ep_X7_isBound x) none)))) (cond (Nat.blt y 67) (cond (Nat.blt y 65) (cond (Nat.beq y 64) (ep_X7_bind x) none) (cond (Nat.blt y 66) (cond (Nat.beq y 65) (ep_X7_setFree x) none) (cond (Nat.beq y 66) (ep_X7_follow x) none))) (cond (Nat.blt y 69) (cond (Nat.blt y 68) (cond (Nat.beq y 67) (ep_X7_arrive x) none) (cond (Nat.beq y 68) (ep_X7_countWait x) none)) (cond (Nat.blt y 70) (cond (Nat.beq y 69) (ep_X7_waitsBy x) none) (cond (Nat.beq y 70) (ep_X7_allWaits x) none))))) (cond (Nat.blt y 80) (cond (Nat.blt y 75) (cond (Nat.blt y 72) (cond (Nat.beq y 71) (ep_X7_copyFrom x) none) (cond (Nat.blt y 73) (cond (Nat.beq y 72) (ep_X8_init x) none) (cond (Nat.beq y 73) (ep_X8_ice x) none))) (cond (Nat.blt y 78) (cond (Nat.blt y 76) (cond (Nat.beq y 75) (ep_X8_port x) none) (cond (Nat.beq y 76) (ep_X8_rule x) none)) (cond (Nat.blt y 79) (cond (Nat.beq y 78) (ep_X8_breaker x) none) (cond (Nat.beq y 79) (ep_X8_ship x) none)))) (cond (Nat.blt y 84) (cond (Nat.blt y 81) (cond (Nat.beq y 80) (ep_X8_steer x) none) (cond (Nat.blt y 83) (cond (Nat.beq y 81) (ep_X8_sail x) none) (cond (Nat.beq y 83) (ep_X8_lead x) none))) (cond (Nat.blt y 87) (cond (Nat.blt y 86) (cond (Nat.beq y 84) (ep_X8_tow x) none) (cond (Nat.beq y 86) (ep_X8_pass x) none)) (cond (Nat.blt y 88) (cond (Nat.beq y 87) (ep_X8_ofCell x) none) (cond (Nat.beq y 88) (ep_X8_ofBreaker x) none)))))) (cond (Nat.blt y 104) (cond (Nat.blt y 97) (cond (Nat.blt y 93) (cond (Nat.blt y 90) (cond (Nat.beq y 89) (ep_X8_ofShip x) none) (cond (Nat.blt y 91) (cond (Nat.beq y 90) (ep_X8_inForce x) none) (cond (Nat.beq y 91) (ep_X8_many x) none))) (cond (Nat.blt y 95) (cond (Nat.blt y 94) (cond (Nat.beq y 93) (ep_X8_way x) none) (cond (Nat.beq y 94) (ep_X8_toBreak x) none)) (cond (Nat.blt y 96) (cond (Nat.beq y 95) (ep_X8_helpNext x) none) (cond (Nat.beq y 96) (ep_X8_arriveIn x) none)))) (cond (Nat.blt y 100) (cond (Nat.blt y 98) (cond (Nat.beq y 97) (ep_X8_digest x) none) (cond (Nat.blt y 99) (cond (Nat.beq y 98) (ep_X8_portCellOf x) none) (cond (Nat.beq y 99) (ep_X8_channelsNeeded x) none))) (cond (Nat.blt y 102) (cond (Nat.blt y 101) (cond (Nat.beq y 100) (ep_X8_breakingPrice x) none) (cond (Nat.beq y 101) (ep_X8_canEnter x) none)) (cond (Nat.blt y 103) (cond (Nat.beq y 102) (ep_X8_canTake x) none) (cond (Nat.beq y 103) (ep_X8_isWeather x) none))))) (cond (Nat.blt y 221) (cond (Nat.blt y 107) (cond (Nat.blt y 105) (cond (Nat.beq y 104) (ep_X8_within x) none) (cond (Nat.blt y 106) (cond (Nat.beq y 105) (ep_X8_demandArgument x) none) (cond (Nat.beq y 106) (ep_X8_demandState x) none))) (cond (Nat.blt y 219) (cond (Nat.blt y 108) (cond (Nat.beq y 107) (ep_X8_neighbour x) none) (cond (Nat.beq y 108) (ep_X8_distance x) none)) (cond (Nat.blt y 220) (cond (Nat.beq y 219) (ep_L_below x) none) (cond (Nat.beq y 220) (ep_L_cell x) none)))) (cond (Nat.blt y 224) (cond (Nat.blt y 222) (cond (Nat.beq y 221) (ep_L_isBeside x) none) (cond (Nat.blt y 223) (cond (Nat.beq y 222) (ep_L_next x) none) (cond (Nat.beq y 223) (ep_L_waits x) none))) (cond (Nat.blt y 226) (cond (Nat.blt y 225) (cond (Nat.beq y 224) (ep_L_isPassed x) none) (cond (Nat.beq y 225) (ep_L_isAhead x) none)) (cond (Nat.blt y 242) (cond (Nat.beq y 226) (ep_L_isSound x) none) (cond (Nat.beq y 242) (ep_L_law x) none)))))))) none
end
section
/-! A small machine over numbered objects: what an instruction does to locals, stack and objects. Its runs are tied to the machine's own in a later part. -/
/-- a value: a number or null, or object i of kind k -/
abbrev ew_V : Type := Value ⊕ (Nat × Nat)
/-- objects by kind, number, place: what each place holds; lengths; which are there; how many of a kind were made; cells and places made in all -/
abbrev ew_H : Type := (Nat → Nat → Nat → ew_V) × (Nat → Nat → Nat) × (Nat → Nat → Bool) × (Nat → Nat) × Nat × Nat
/-- pc, locals, stack, objects -/
abbrev ew_C : Type := Nat × List (Option ew_V) × List ew_V × ew_H
/-- an answer, or an exception by its number -/
abbrev ew_R : Type := Option ew_V ⊕ Nat
/-- what one step gives: stuck; a state; a branch; a state under a condition; a call (method, arguments, rest of the stack, pc behind); an end; a switch -/
abbrev ew_N : Type := Option (ew_C ⊕ (Prop × ew_C × ew_C) ⊕ (Prop × ew_C) ⊕ (Nat × List ew_V × List ew_V × Nat) ⊕ (Prop × ew_R × ew_H) ⊕ (Int32 × Int32 × List ew_C × ew_C))
abbrev ew_i (x : Int32) : ew_V := .inl (.int x)
abbrev ew_j (x : Int64) : ew_V := .inl (.long x)
abbrev ew_o (k i : Nat) : ew_V := .inr (k, i)
abbrev ew_0 : ew_V := .inl .null
abbrev ewG (c : ew_C) : ew_N := some (.inl c)
abbrev ewB (p : Prop) (a b : ew_C) : ew_N := some (.inr (.inl (p, a, b)))
abbrev ewN (p : Prop) (a : ew_C) : ew_N := some (.inr (.inr (.inl (p, a))))
abbrev ewK (y : Nat) (as rest : List ew_V) (nx : Nat) : ew_N := some (.inr (.inr (.inr (.inl (y, as, rest, nx)))))
abbrev ewE (p : Prop) (r : ew_R) (h : ew_H) : ew_N := some (.inr (.inr (.inr (.inr (.inl (p, r, h))))))
abbrev ewS (x v : Int32) (l : List ew_C) (d : ew_C) : ew_N := some (.inr (.inr (.inr (.inr (.inr (x, v, l, d))))))
/-- the value as the machine has it, object i of kind k at a k i -/
def ew_c (a : Nat → Nat → Nat) (v : ew_V) : Value := match v with
  | .inl v => v
  | .inr q => .ref (a q.1 q.2)
def ew_cat (v : ew_V) : Nat := match v with
  | .inl v => v.category
  | .inr _ => 1
/-- 0 int, 1 long, 2 double, 3 a reference or null -/
def ew_tag (v : ew_V) : Nat := match v with
  | .inl (.int _) => 0
  | .inl (.long _) => 1
  | .inl (.double _) => 2
  | .inl .null => 3
  | .inr _ => 3
  | _ => 9
def ew_clr (ls : List (Option ew_V)) (i : Nat) : List (Option ew_V) := match i with
  | 0 => ls
  | j + 1 => match (ls[j]? : Option (Option ew_V)) with
    | some (some v) => bif Nat.beq (ew_cat v) 2 then ls.set j none else ls
    | _ => ls
def ew_st1 (ls : List (Option ew_V)) (i : Nat) (v : ew_V) : List (Option ew_V) := (ew_clr ls i).set i (some v)
def ew_st2 (ls : List (Option ew_V)) (i : Nat) (v : ew_V) : List (Option ew_V) := ((ew_clr ls i).set i (some v)).set (i + 1) none
/-- the locals without what place i held -/
def ew_un (ls : List (Option ew_V)) (i : Nat) : List (Option ew_V) := (ew_clr ls i).set i none
/-- a choice that shows at once what both have in common -/
def ew_mg (b : Bool) (v w : ew_V) : ew_V := match v with
  | .inl (.int x) => (match w with
    | .inl (.int y) => .inl (.int (bif b then x else y))
    | w => bif b then .inl (.int x) else w)
  | .inr (k, i) => (match w with
    | .inr (k', i') => bif Nat.beq k k' then .inr (k, bif b then i else i') else bif b then .inr (k, i) else .inr (k', i')
    | w => bif b then .inr (k, i) else w)
  | v => bif b then v else w
/-- writing one place -/
def ew_put (h : ew_H) (k i s : Nat) (v : ew_V) : ew_H := (fun k' i' s' => bif Nat.beq k' k then (ew_mg (Nat.beq s' s && Nat.beq i' i) v (h.1 k' i' s')) else h.1 k' i' s', h.2)
/-- writing n places of an array from place s on -/
def ew_cpy (h : ew_H) (k i s : Nat) (n : Nat) (f : Nat → ew_V) : ew_H := (fun k' i' s' => bif Nat.beq k' k then (bif Nat.beq i' i then (bif Nat.ble s s' && Nat.blt s' (s + n) then f (s' - s) else h.1 k' i' s') else h.1 k' i' s') else h.1 k' i' s', h.2)
/-- making object i of kind k, of N places -/
def ew_mk (h : ew_H) (k i N : Nat) (z : Nat → ew_V) : ew_H :=
  (fun k' i' s' => bif Nat.beq k' k then (bif Nat.beq i' i then z s' else h.1 k' i' s') else h.1 k' i' s',
   fun k' i' => bif Nat.beq k' k then (bif Nat.beq i' i then N else h.2.1 k' i') else h.2.1 k' i',
   fun k' i' => bif Nat.beq k' k then (bif Nat.beq i' i then true else h.2.2.1 k' i') else h.2.2.1 k' i',
   fun k' => bif Nat.beq k' k then h.2.2.2.1 k' + 1 else h.2.2.2.1 k',
   h.2.2.2.2.1 + 1, h.2.2.2.2.2 + N)
/-- the room that a throw takes, nothing else -/
def ew_pay (h : ew_H) (c s : Nat) : ew_H := (h.1, h.2.1, h.2.2.1, h.2.2.2.1, h.2.2.2.2.1 + c, h.2.2.2.2.2 + s)
/-- the class or array class of a kind -/
abbrev ew_ct (k : Nat) : Nat := k % 32
/-- kinds that nobody writes -/
def ew_cst (k : Nat) : Bool := Nat.beq k 0 || Nat.beq k 17 || Nat.beq k 49 || Nat.beq k 212
/-- the arrays behind the lists are named by the list, all others by their number -/
def ew_ctr (k : Nat) : Bool := !(Nat.beq (k % 32) 20 && Nat.blt k 192) && !(ew_cst k) && !(Nat.beq k 31)
/-- lengths that a kind fixes -/
def ew_sl (k n : Nat) : Nat :=
  bif Nat.beq (k % 32) 17 then
    (bif Nat.beq k 17 then n else bif Nat.beq k 49 then 5 else bif Nat.beq k 81 then 10 else bif Nat.beq k 113 then 10 else bif Nat.beq k 145 then 8 else bif Nat.beq k 177 then 5 else bif Nat.beq k 209 then 15 else bif Nat.beq k 241 then 15 else
     bif Nat.beq k 273 then 15 else bif Nat.beq k 305 then 15 else bif Nat.beq k 337 then 15 else bif Nat.beq k 369 then 5 else bif Nat.beq k 401 then 15 else bif Nat.beq k 433 then 15 else bif Nat.beq k 465 then 15 else bif Nat.beq k 497 then 10 else bif Nat.beq k 529 then 11 else bif Nat.beq k 561 then 2 else bif Nat.beq k 593 then 8 else n)
  else bif Nat.beq (k % 32) 18 then (bif Nat.beq k 50 then 15 else 5)
  else bif Nat.beq k 19 then 1
  else bif Nat.beq (k % 32) 20 then (bif Nat.blt k 192 then 10 else bif Nat.beq k 212 then 0 else n)
  else bif Nat.beq k 21 then 2 else bif Nat.beq k 22 then 15 else bif Nat.beq k 23 then 3 else bif Nat.beq k 24 then 5 else n
abbrev ew_len (h : ew_H) (k i : Nat) : Nat := ew_sl k (h.2.1 k i)
def ew_c1 (o : Jvm.ClassFile.Cond) (x : Int32) : Prop := match o with
  | .eq => x = 0
  | .ne => ¬ x = 0
  | .lt => x < 0
  | .ge => 0 ≤ x
  | .gt => 0 < x
  | .le => x ≤ 0
def ew_c2 (o : Jvm.ClassFile.Cond) (x y : Int32) : Prop := match o with
  | .eq => x = y
  | .ne => ¬ x = y
  | .lt => x < y
  | .ge => y ≤ x
  | .gt => y < x
  | .le => x ≤ y
/-- the place i of an array of n places is there -/
def ew_ix (i : Int32) (n : Nat) : Prop := ¬ (i < 0 ∨ n ≤ i.toNatClampNeg)
def ew_ld (t : Nat) (ls : List (Option ew_V)) (st : List ew_V) (h : ew_H) (nx n : Nat) : ew_N := match (ls[n]? : Option (Option ew_V)) with
  | some (some v) => bif Nat.beq (ew_tag v) t then ewG (nx, ls, v :: st, h) else none
  | _ => none
def ew_sto (t : Nat) (ls : List (Option ew_V)) (st : List ew_V) (h : ew_H) (nx n : Nat) : ew_N := match st with
  | v :: st => bif Nat.beq (ew_tag v) t then (bif Nat.beq t 0 || Nat.beq t 3 then (bif Nat.blt n ls.length then ewG (nx, ew_st1 ls n v, st, h) else none) else (bif Nat.blt (n + 1) ls.length then ewG (nx, ew_st2 ls n v, st, h) else none)) else none
  | _ => none
def ew_bin (f : Int32 → Int32 → Int32) (ls : List (Option ew_V)) (st : List ew_V) (h : ew_H) (nx : Nat) : ew_N := match st with
  | .inl (.int y) :: .inl (.int x) :: st => ewG (nx, ls, ew_i (f x y) :: st, h)
  | _ => none
def ew_binl (f : Int64 → Int64 → Int64) (ls : List (Option ew_V)) (st : List ew_V) (h : ew_H) (nx : Nat) : ew_N := match st with
  | .inl (.long y) :: .inl (.long x) :: st => ewG (nx, ls, ew_j (f x y) :: st, h)
  | _ => none
/-- reading an array of a type out of ts -/
def ew_ald (t : Nat) (ls : List (Option ew_V)) (st : List ew_V) (h : ew_H) (nx : Nat) : ew_N := match st with
  | .inl (.int j) :: .inr (k, i) :: st => bif (bif Nat.beq t 20 then Nat.ble 20 (ew_ct k) && Nat.blt (ew_ct k) 25 else Nat.beq (ew_ct k) t) then ewN (ew_ix j (ew_len h k i)) (nx, ls, h.1 k i j.toNatClampNeg :: st, h) else none
  | _ => none
/-- what may stand in a place of type t: 0 int, 1 boolean, 2 a reference -/
def ew_fit (t : Nat) (v : ew_V) : Prop := match t, v with
  | 0, .inl (.int _) => True
  | 1, .inl (.int x) => x = 0 ∨ x = 1
  | 2, .inr q => (Nat.beq q.1 31 || (Nat.beq q.1 17 || Nat.beq q.1 49)) = false
  | 2, .inl .null => True
  | 3, .inl (.long _) => True
  | _, _ => False
/-- an array of references takes objects of its own class, or all -/
def ew_asg (k : Nat) (v : ew_V) : Bool := match v with
  | .inr (k', _) => (Nat.beq (ew_ct k) 20 && Nat.beq (ew_ct k') 17) || (Nat.beq (ew_ct k) 21 && Nat.beq (ew_ct k') 3) || (Nat.beq (ew_ct k) 22 && Nat.beq (ew_ct k') 4) || (Nat.beq (ew_ct k) 23 && Nat.beq (ew_ct k') 6) || (Nat.beq (ew_ct k) 24 && Nat.beq (ew_ct k') 10)
  | _ => false
def ew_ast (t : Nat) (ls : List (Option ew_V)) (st : List ew_V) (h : ew_H) (nx : Nat) : ew_N := match st with
  | v :: .inl (.int j) :: .inr (k, i) :: st => bif !ew_cst k && (bif Nat.beq t 20 then Nat.ble 20 (ew_ct k) && Nat.blt (ew_ct k) 25 && ew_asg k v else Nat.beq (ew_ct k) t) then
      ewN (ew_ix j (ew_len h k i) ∧ ew_fit (bif Nat.beq t 17 then 0 else bif Nat.beq t 18 then 1 else bif Nat.beq t 19 then 3 else 2) v) (nx, ls, st, ew_put h k i j.toNatClampNeg v) else none
  | _ => none
def ew_new (k N : Nat) (z : Nat → ew_V) (ls : List (Option ew_V)) (st : List ew_V) (h : ew_H) (nx : Nat) : ew_N := ewG (nx, ls, ew_o k (h.2.2.2.1 k) :: st, ew_mk h k (h.2.2.2.1 k) N z)
/-- kinds of what a constructor makes for objects of several kinds -/
def ew_kn (y k : Nat) (ls : List (Option ew_V)) : Nat := bif Nat.beq y 29 then (match (ls[0]? : Option (Option ew_V)) with
  | some (some (.inr (k', _))) => bif Nat.beq k' 8 then 145 else 593
  | _ => k) else k
def ew_newa (k : Nat) (z : ew_V) (ls : List (Option ew_V)) (st : List ew_V) (h : ew_H) (nx : Nat) : ew_N := match st with
  | .inl (.int n) :: st => ewN (¬ n < 0 ∧ n.toNatClampNeg ≤ 1000000 ∧ ew_sl k n.toNatClampNeg = n.toNatClampNeg) (nx, ls, ew_o k (h.2.2.2.1 k) :: st, ew_mk h k (h.2.2.2.1 k) n.toNatClampNeg (fun _ => z))
  | _ => none
def ew_cats (l : List ew_V) : Nat := match l with
  | [] => 0
  | v :: l => ew_cat v + ew_cats l
/-- a switch: the states by x = v, v + 1 .., and else d -/
def ew_sw (P : ew_C → Prop) (x v : Int32) (l : List ew_C) (d : ew_C) : Prop := match l with
  | [] => P d
  | c :: l => (x = v → P c) ∧ (¬ x = v → ew_sw P x (v + 1) l d)
def ew_max (x y : Int32) : Int32 := if x < y then y else x
def ew_min (x y : Int32) : Int32 := if y < x then y else x
def ew_abs (x : Int32) : Int32 := if 0 ≤ x then x else 0 - x
end
section
/-! The program as tables: written by a program out of the printed rows. -/
def et_fd3 (x : Nat) : Option (Nat × Nat × Nat) := cond (Nat.blt x 22) (cond (Nat.blt x 18) (cond (Nat.beq x 12) (some (3, 0, 2)) none) (cond (Nat.beq x 18) (some (3, 4, 0)) none)) (cond (Nat.blt x 25) (cond (Nat.beq x 22) (some (3, 2, 0)) none) (cond (Nat.blt x 35) (cond (Nat.beq x 25) (some (3, 1, 0)) none) (cond (Nat.beq x 35) (some (3, 3, 0)) none)))
def et_fd4 (x : Nat) : Option (Nat × Nat × Nat) := cond (Nat.blt x 18) (cond (Nat.blt x 15) (cond (Nat.beq x 9) (some (4, 2, 0)) none) (cond (Nat.beq x 15) (some (4, 0, 0)) none)) (cond (Nat.blt x 21) (cond (Nat.beq x 18) (some (4, 1, 0)) none) (cond (Nat.blt x 25) (cond (Nat.beq x 21) (some (4, 3, 1)) none) (cond (Nat.beq x 25) (some (4, 4, 0)) none)))
def et_fd5 (x : Nat) : Option (Nat × Nat × Nat) := cond (Nat.blt x 15) (cond (Nat.beq x 9) (some (5, 0, 2)) none) (cond (Nat.beq x 15) (some (5, 1, 2)) none)
def et_fd6 (x : Nat) : Option (Nat × Nat × Nat) := cond (Nat.blt x 18) (cond (Nat.blt x 15) (cond (Nat.beq x 9) (some (6, 0, 2)) none) (cond (Nat.beq x 15) (some (6, 1, 2)) none)) (cond (Nat.blt x 22) (cond (Nat.beq x 18) (some (6, 2, 2)) none) (cond (Nat.beq x 22) (some (6, 3, 0)) none))
def et_fd7 (x : Nat) : Option (Nat × Nat × Nat) := cond (Nat.blt x 18) (cond (Nat.beq x 11) (some (7, 0, 2)) none) (cond (Nat.blt x 33) (cond (Nat.beq x 18) (some (7, 1, 0)) none) (cond (Nat.beq x 33) (some (6, 4, 0)) none))
def et_fd8 (x : Nat) : Option (Nat × Nat × Nat) := cond (Nat.blt x 15) (cond (Nat.beq x 9) (some (8, 0, 2)) none) (cond (Nat.beq x 15) (some (8, 1, 0)) none)
def et_fd9 (x : Nat) : Option (Nat × Nat × Nat) := cond (Nat.blt x 117) (cond (Nat.blt x 57) (cond (Nat.blt x 39) (cond (Nat.blt x 19) (cond (Nat.beq x 11) (some (9, 0, 2)) none) (cond (Nat.blt x 25) (cond (Nat.beq x 19) (some (9, 1, 2)) none) (cond (Nat.beq x 25) (some (9, 2, 2)) none))) (cond (Nat.blt x 45) (cond (Nat.beq x 39) (some (9, 3, 0)) none) (cond (Nat.blt x 54) (cond (Nat.beq x 45) (some (9, 4, 0)) none) (cond (Nat.beq x 54) (some (3, 1, 0)) none)))) (cond (Nat.blt x 72) (cond (Nat.blt x 64) (cond (Nat.beq x 57) (some (3, 2, 0)) none) (cond (Nat.blt x 69) (cond (Nat.beq x 64) (some (10, 2, 0)) none) (cond (Nat.beq x 69) (some (10, 5, 0)) none))) (cond (Nat.blt x 81) (cond (Nat.blt x 75) (cond (Nat.beq x 72) (some (10, 6, 0)) none) (cond (Nat.beq x 75) (some (9, 5, 0)) none)) (cond (Nat.blt x 114) (cond (Nat.beq x 81) (some (9, 6, 0)) none) (cond (Nat.beq x 114) (some (3, 4, 0)) none))))) (cond (Nat.blt x 172) (cond (Nat.blt x 140) (cond (Nat.blt x 121) (cond (Nat.beq x 117) (some (3, 0, 2)) none) (cond (Nat.blt x 133) (cond (Nat.beq x 121) (some (8, 1, 0)) none) (cond (Nat.beq x 133) (some (4, 3, 1)) none))) (cond (Nat.blt x 153) (cond (Nat.blt x 146) (cond (Nat.beq x 140) (some (4, 0, 0)) none) (cond (Nat.beq x 146) (some (3, 3, 0)) none)) (cond (Nat.blt x 156) (cond (Nat.beq x 153) (some (4, 2, 0)) none) (cond (Nat.beq x 156) (some (10, 7, 0)) none)))) (cond (Nat.blt x 191) (cond (Nat.blt x 175) (cond (Nat.beq x 172) (some (6, 4, 0)) none) (cond (Nat.blt x 188) (cond (Nat.beq x 175) (some (10, 3, 0)) none) (cond (Nat.beq x 188) (some (10, 9, 0)) none))) (cond (Nat.blt x 205) (cond (Nat.blt x 194) (cond (Nat.beq x 191) (some (4, 1, 0)) none) (cond (Nat.beq x 194) (some (10, 0, 2)) none)) (cond (Nat.blt x 224) (cond (Nat.beq x 205) (some (10, 8, 0)) none) (cond (Nat.beq x 224) (some (10, 10, 0)) none)))))
def et_fd10 (x : Nat) : Option (Nat × Nat × Nat) := cond (Nat.blt x 35) (cond (Nat.blt x 26) (cond (Nat.blt x 18) (cond (Nat.beq x 12) (some (10, 0, 2)) none) (cond (Nat.blt x 22) (cond (Nat.beq x 18) (some (10, 1, 2)) none) (cond (Nat.beq x 22) (some (10, 7, 0)) none))) (cond (Nat.blt x 29) (cond (Nat.beq x 26) (some (10, 8, 0)) none) (cond (Nat.blt x 32) (cond (Nat.beq x 29) (some (10, 11, 0)) none) (cond (Nat.beq x 32) (some (10, 3, 0)) none)))) (cond (Nat.blt x 55) (cond (Nat.blt x 38) (cond (Nat.beq x 35) (some (10, 4, 0)) none) (cond (Nat.blt x 48) (cond (Nat.beq x 38) (some (10, 5, 0)) none) (cond (Nat.beq x 48) (some (10, 2, 0)) none))) (cond (Nat.blt x 70) (cond (Nat.beq x 55) (some (10, 10, 0)) none) (cond (Nat.blt x 73) (cond (Nat.beq x 70) (some (10, 6, 0)) none) (cond (Nat.beq x 73) (some (10, 9, 0)) none))))
def et_fd11 (x : Nat) : Option (Nat × Nat × Nat) := cond (Nat.blt x 168) (cond (Nat.blt x 79) (cond (Nat.blt x 29) (cond (Nat.blt x 19) (cond (Nat.beq x 10) (some (11, 0, 2)) none) (cond (Nat.blt x 23) (cond (Nat.beq x 19) (some (11, 1, 2)) none) (cond (Nat.beq x 23) (some (11, 2, 2)) none))) (cond (Nat.blt x 54) (cond (Nat.blt x 45) (cond (Nat.beq x 29) (some (11, 3, 2)) none) (cond (Nat.beq x 45) (some (4, 3, 1)) none)) (cond (Nat.blt x 68) (cond (Nat.beq x 54) (some (4, 0, 0)) none) (cond (Nat.beq x 68) (some (7, 1, 0)) none)))) (cond (Nat.blt x 120) (cond (Nat.blt x 102) (cond (Nat.blt x 84) (cond (Nat.beq x 79) (some (6, 3, 0)) none) (cond (Nat.beq x 84) (some (9, 5, 0)) none)) (cond (Nat.blt x 109) (cond (Nat.beq x 102) (some (9, 3, 0)) none) (cond (Nat.beq x 109) (some (9, 4, 0)) none))) (cond (Nat.blt x 140) (cond (Nat.blt x 135) (cond (Nat.beq x 120) (some (3, 0, 2)) none) (cond (Nat.beq x 135) (some (10, 7, 0)) none)) (cond (Nat.blt x 162) (cond (Nat.beq x 140) (some (10, 0, 2)) none) (cond (Nat.beq x 162) (some (10, 3, 0)) none))))) (cond (Nat.blt x 208) (cond (Nat.blt x 192) (cond (Nat.blt x 174) (cond (Nat.blt x 171) (cond (Nat.beq x 168) (some (10, 4, 0)) none) (cond (Nat.beq x 171) (some (3, 1, 0)) none)) (cond (Nat.blt x 189) (cond (Nat.beq x 174) (some (3, 2, 0)) none) (cond (Nat.beq x 189) (some (4, 1, 0)) none))) (cond (Nat.blt x 204) (cond (Nat.blt x 201) (cond (Nat.beq x 192) (some (4, 2, 0)) none) (cond (Nat.beq x 201) (some (8, 1, 0)) none)) (cond (Nat.blt x 207) (cond (Nat.beq x 204) (some (3, 3, 0)) none) (cond (Nat.beq x 207) (some (10, 2, 0)) none)))) (cond (Nat.blt x 220) (cond (Nat.blt x 214) (cond (Nat.blt x 211) (cond (Nat.beq x 208) (some (10, 5, 0)) none) (cond (Nat.beq x 211) (some (10, 6, 0)) none)) (cond (Nat.blt x 217) (cond (Nat.beq x 214) (some (10, 8, 0)) none) (cond (Nat.beq x 217) (some (10, 9, 0)) none))) (cond (Nat.blt x 247) (cond (Nat.blt x 223) (cond (Nat.beq x 220) (some (10, 10, 0)) none) (cond (Nat.beq x 223) (some (10, 11, 0)) none)) (cond (Nat.blt x 312) (cond (Nat.beq x 247) (some (9, 6, 0)) none) (cond (Nat.beq x 312) (some (6, 4, 0)) none)))))
def et_fd (cl x : Nat) : Option (Nat × Nat × Nat) := cond (Nat.blt cl 50 && Nat.blt x 400) (cond (Nat.blt cl 7) (cond (Nat.blt cl 5) (cond (Nat.blt cl 4) (cond (Nat.beq cl 3) (et_fd3 x) none) (cond (Nat.beq cl 4) (et_fd4 x) none)) (cond (Nat.blt cl 6) (cond (Nat.beq cl 5) (et_fd5 x) none) (cond (Nat.beq cl 6) (et_fd6 x) none))) (cond (Nat.blt cl 9) (cond (Nat.blt cl 8) (cond (Nat.beq cl 7) (et_fd7 x) none) (cond (Nat.beq cl 8) (et_fd8 x) none)) (cond (Nat.blt cl 10) (cond (Nat.beq cl 9) (et_fd9 x) none) (cond (Nat.blt cl 11) (cond (Nat.beq cl 10) (et_fd10 x) none) (cond (Nat.beq cl 11) (et_fd11 x) none))))) none
def et_fn (cl x : Nat) : Bool := cond (Nat.blt cl 7) (cond (Nat.blt cl 5) (cond (Nat.blt cl 4) (cond (Nat.beq cl 3) (false) false) (cond (Nat.beq cl 4) (false) false)) (cond (Nat.blt cl 6) (cond (Nat.beq cl 5) (false) false) (cond (Nat.beq cl 6) (false) false))) (cond (Nat.blt cl 9) (cond (Nat.blt cl 8) (cond (Nat.beq cl 7) (false) false) (cond (Nat.beq cl 8) (false) false)) (cond (Nat.blt cl 10) (cond (Nat.beq cl 9) (false) false) (cond (Nat.blt cl 11) (cond (Nat.beq cl 10) (false) false) (cond (Nat.beq cl 11) (false) false))))
def et_md3 (x : Nat) : Option (Nat × Nat × Nat) := cond (Nat.blt x 28) (cond (Nat.blt x 11) (cond (Nat.beq x 3) (some (904, 0, 99)) none) (cond (Nat.beq x 11) (some (29, 0, 8)) none)) (cond (Nat.blt x 31) (cond (Nat.beq x 28) (some (33, 0, 8)) none) (cond (Nat.beq x 31) (some (35, 1, 8)) none))
def et_md4 (x : Nat) : Option (Nat × Nat × Nat) := cond (Nat.blt x 28) (cond (Nat.beq x 3) (some (904, 0, 99)) none) (cond (Nat.blt x 34) (cond (Nat.beq x 28) (some (900, 2, 43)) none) (cond (Nat.beq x 34) (some (901, 2, 43)) none))
def et_md5 (x : Nat) : Option (Nat × Nat × Nat) := cond (Nat.blt x 26) (cond (Nat.blt x 18) (cond (Nat.beq x 3) (some (904, 0, 99)) none) (cond (Nat.blt x 22) (cond (Nat.beq x 18) (some (16, 0, 5)) none) (cond (Nat.beq x 22) (some (18, 1, 5)) none))) (cond (Nat.blt x 29) (cond (Nat.beq x 26) (some (17, 1, 5)) none) (cond (Nat.blt x 33) (cond (Nat.beq x 29) (some (107, 2, 11)) none) (cond (Nat.beq x 33) (some (901, 2, 43)) none)))
def et_md6 (x : Nat) : Option (Nat × Nat × Nat) := cond (Nat.blt x 26) (cond (Nat.beq x 3) (some (904, 0, 99)) none) (cond (Nat.blt x 30) (cond (Nat.beq x 26) (some (21, 1, 6)) none) (cond (Nat.beq x 30) (some (23, 1, 6)) none))
def et_md7 (x : Nat) : Option (Nat × Nat × Nat) := cond (Nat.blt x 17) (cond (Nat.beq x 3) (some (904, 0, 99)) none) (cond (Nat.blt x 29) (cond (Nat.beq x 17) (some (19, 0, 6)) none) (cond (Nat.beq x 29) (some (26, 1, 7)) none))
def et_md8 (x : Nat) : Option (Nat × Nat × Nat) := cond (Nat.blt x 19) (cond (Nat.beq x 3) (some (904, 0, 99)) none) (cond (Nat.beq x 19) (some (900, 2, 43)) none)
def et_md9 (x : Nat) : Option (Nat × Nat × Nat) := cond (Nat.blt x 137) (cond (Nat.blt x 88) (cond (Nat.blt x 50) (cond (Nat.blt x 30) (cond (Nat.blt x 29) (cond (Nat.beq x 3) (some (904, 0, 99)) none) (cond (Nat.beq x 29) (some (3, 0, 4)) none)) (cond (Nat.blt x 31) (cond (Nat.beq x 30) (some (0, 0, 3)) none) (cond (Nat.beq x 31) (some (60, 0, 10)) none))) (cond (Nat.blt x 65) (cond (Nat.blt x 60) (cond (Nat.beq x 50) (some (38, 1, 9)) none) (cond (Nat.beq x 60) (some (39, 1, 9)) none)) (cond (Nat.blt x 78) (cond (Nat.beq x 65) (some (61, 1, 10)) none) (cond (Nat.blt x 84) (cond (Nat.beq x 78) (some (43, 1, 9)) none) (cond (Nat.beq x 84) (some (10, 1, 4)) none))))) (cond (Nat.blt x 103) (cond (Nat.blt x 95) (cond (Nat.blt x 91) (cond (Nat.beq x 88) (some (11, 0, 4)) none) (cond (Nat.beq x 91) (some (44, 1, 9)) none)) (cond (Nat.blt x 99) (cond (Nat.beq x 95) (some (45, 2, 9)) none) (cond (Nat.beq x 99) (some (107, 2, 11)) none))) (cond (Nat.blt x 111) (cond (Nat.blt x 107) (cond (Nat.beq x 103) (some (37, 1, 9)) none) (cond (Nat.beq x 107) (some (8, 1, 4)) none)) (cond (Nat.blt x 126) (cond (Nat.beq x 111) (some (9, 0, 4)) none) (cond (Nat.blt x 130) (cond (Nat.beq x 126) (some (32, 0, 8)) none) (cond (Nat.beq x 130) (some (108, 2, 11)) none)))))) (cond (Nat.blt x 195) (cond (Nat.blt x 163) (cond (Nat.blt x 149) (cond (Nat.blt x 143) (cond (Nat.beq x 137) (some (34, 0, 8)) none) (cond (Nat.beq x 143) (some (6, 0, 4)) none)) (cond (Nat.blt x 159) (cond (Nat.beq x 149) (some (1, 2, 3)) none) (cond (Nat.beq x 159) (some (46, 1, 9)) none))) (cond (Nat.blt x 178) (cond (Nat.blt x 166) (cond (Nat.beq x 163) (some (47, 1, 9)) none) (cond (Nat.beq x 166) (some (26, 1, 7)) none)) (cond (Nat.blt x 182) (cond (Nat.beq x 178) (some (24, 3, 6)) none) (cond (Nat.blt x 185) (cond (Nat.beq x 182) (some (67, 1, 10)) none) (cond (Nat.beq x 185) (some (68, 1, 10)) none))))) (cond (Nat.blt x 217) (cond (Nat.blt x 202) (cond (Nat.blt x 198) (cond (Nat.beq x 195) (some (4, 0, 4)) none) (cond (Nat.beq x 198) (some (62, 2, 10)) none)) (cond (Nat.blt x 208) (cond (Nat.beq x 202) (some (33, 0, 8)) none) (cond (Nat.blt x 211) (cond (Nat.beq x 208) (some (66, 2, 10)) none) (cond (Nat.beq x 211) (some (65, 0, 10)) none)))) (cond (Nat.blt x 227) (cond (Nat.blt x 221) (cond (Nat.beq x 217) (some (63, 2, 10)) none) (cond (Nat.beq x 221) (some (70, 0, 10)) none)) (cond (Nat.blt x 230) (cond (Nat.beq x 227) (some (12, 1, 4)) none) (cond (Nat.blt x 232) (cond (Nat.beq x 230) (some (2, 1, 3)) none) (cond (Nat.beq x 232) (some (71, 1, 10)) none))))))
def et_md10 (x : Nat) : Option (Nat × Nat × Nat) := cond (Nat.blt x 51) (cond (Nat.blt x 41) (cond (Nat.blt x 11) (cond (Nat.beq x 3) (some (904, 0, 99)) none) (cond (Nat.beq x 11) (some (29, 0, 8)) none)) (cond (Nat.blt x 45) (cond (Nat.beq x 41) (some (62, 2, 10)) none) (cond (Nat.beq x 45) (some (65, 0, 10)) none))) (cond (Nat.blt x 62) (cond (Nat.blt x 58) (cond (Nat.beq x 51) (some (34, 0, 8)) none) (cond (Nat.beq x 58) (some (64, 2, 10)) none)) (cond (Nat.blt x 66) (cond (Nat.beq x 62) (some (35, 1, 8)) none) (cond (Nat.beq x 66) (some (69, 1, 10)) none)))
def et_md11 (x : Nat) : Option (Nat × Nat × Nat) := cond (Nat.blt x 229) (cond (Nat.blt x 112) (cond (Nat.blt x 51) (cond (Nat.blt x 28) (cond (Nat.blt x 9) (cond (Nat.beq x 1) (some (904, 0, 99)) none) (cond (Nat.blt x 18) (cond (Nat.beq x 9) (some (25, 0, 7)) none) (cond (Nat.beq x 18) (some (36, 0, 9)) none))) (cond (Nat.blt x 37) (cond (Nat.blt x 33) (cond (Nat.beq x 28) (some (13, 0, 5)) none) (cond (Nat.beq x 33) (some (37, 1, 9)) none)) (cond (Nat.blt x 41) (cond (Nat.beq x 37) (some (104, 3, 11)) none) (cond (Nat.beq x 41) (some (105, 1, 11)) none)))) (cond (Nat.blt x 75) (cond (Nat.blt x 62) (cond (Nat.beq x 51) (some (106, 1, 11)) none) (cond (Nat.blt x 71) (cond (Nat.beq x 62) (some (28, 1, 7)) none) (cond (Nat.beq x 71) (some (27, 1, 7)) none))) (cond (Nat.blt x 91) (cond (Nat.blt x 87) (cond (Nat.beq x 75) (some (26, 1, 7)) none) (cond (Nat.beq x 87) (some (20, 2, 6)) none)) (cond (Nat.blt x 105) (cond (Nat.beq x 91) (some (39, 1, 9)) none) (cond (Nat.beq x 105) (some (40, 2, 9)) none))))) (cond (Nat.blt x 159) (cond (Nat.blt x 132) (cond (Nat.blt x 116) (cond (Nat.beq x 112) (some (41, 4, 9)) none) (cond (Nat.blt x 126) (cond (Nat.beq x 116) (some (38, 1, 9)) none) (cond (Nat.beq x 126) (some (30, 0, 8)) none))) (cond (Nat.blt x 152) (cond (Nat.blt x 148) (cond (Nat.beq x 132) (some (31, 1, 8)) none) (cond (Nat.beq x 148) (some (102, 2, 11)) none)) (cond (Nat.blt x 156) (cond (Nat.beq x 152) (some (63, 2, 10)) none) (cond (Nat.beq x 156) (some (50, 1, 9)) none)))) (cond (Nat.blt x 185) (cond (Nat.blt x 165) (cond (Nat.beq x 159) (some (64, 2, 10)) none) (cond (Nat.blt x 182) (cond (Nat.beq x 165) (some (51, 1, 9)) none) (cond (Nat.beq x 182) (some (103, 2, 11)) none))) (cond (Nat.blt x 198) (cond (Nat.blt x 195) (cond (Nat.beq x 185) (some (42, 3, 9)) none) (cond (Nat.beq x 195) (some (4, 0, 4)) none)) (cond (Nat.blt x 226) (cond (Nat.beq x 198) (some (49, 1, 9)) none) (cond (Nat.beq x 226) (some (69, 1, 10)) none)))))) (cond (Nat.blt x 282) (cond (Nat.blt x 256) (cond (Nat.blt x 238) (cond (Nat.blt x 232) (cond (Nat.beq x 229) (some (21, 1, 6)) none) (cond (Nat.blt x 235) (cond (Nat.beq x 232) (some (56, 0, 9)) none) (cond (Nat.beq x 235) (some (57, 0, 9)) none))) (cond (Nat.blt x 244) (cond (Nat.blt x 241) (cond (Nat.beq x 238) (some (52, 0, 9)) none) (cond (Nat.beq x 241) (some (53, 0, 9)) none)) (cond (Nat.blt x 250) (cond (Nat.beq x 244) (some (54, 0, 9)) none) (cond (Nat.beq x 250) (some (55, 0, 9)) none)))) (cond (Nat.blt x 266) (cond (Nat.blt x 260) (cond (Nat.beq x 256) (some (101, 2, 11)) none) (cond (Nat.blt x 263) (cond (Nat.beq x 260) (some (14, 2, 5)) none) (cond (Nat.beq x 263) (some (15, 2, 5)) none))) (cond (Nat.blt x 273) (cond (Nat.blt x 270) (cond (Nat.beq x 266) (some (99, 1, 11)) none) (cond (Nat.beq x 270) (some (108, 2, 11)) none)) (cond (Nat.blt x 274) (cond (Nat.beq x 273) (some (70, 0, 10)) none) (cond (Nat.beq x 274) (some (59, 1, 9)) none))))) (cond (Nat.blt x 303) (cond (Nat.blt x 291) (cond (Nat.blt x 285) (cond (Nat.beq x 282) (some (91, 1, 11)) none) (cond (Nat.blt x 288) (cond (Nat.beq x 285) (some (87, 2, 11)) none) (cond (Nat.beq x 288) (some (88, 2, 11)) none))) (cond (Nat.blt x 297) (cond (Nat.blt x 294) (cond (Nat.beq x 291) (some (95, 1, 11)) none) (cond (Nat.beq x 294) (some (89, 2, 11)) none)) (cond (Nat.blt x 300) (cond (Nat.beq x 297) (some (98, 1, 11)) none) (cond (Nat.beq x 300) (some (93, 2, 11)) none)))) (cond (Nat.blt x 313) (cond (Nat.blt x 306) (cond (Nat.beq x 303) (some (94, 1, 11)) none) (cond (Nat.blt x 309) (cond (Nat.beq x 306) (some (96, 4, 11)) none) (cond (Nat.beq x 309) (some (90, 2, 11)) none))) (cond (Nat.blt x 320) (cond (Nat.blt x 317) (cond (Nat.beq x 313) (some (100, 2, 11)) none) (cond (Nat.beq x 317) (some (5, 0, 4)) none)) (cond (Nat.blt x 336) (cond (Nat.beq x 320) (some (62, 2, 10)) none) (cond (Nat.beq x 336) (some (902, 1, 43)) none))))))
def et_md40 (x : Nat) : Option (Nat × Nat × Nat) := cond (Nat.blt x 57) (cond (Nat.blt x 35) (cond (Nat.blt x 22) (cond (Nat.blt x 12) (cond (Nat.beq x 11) (some (72, 0, 11)) none) (cond (Nat.blt x 18) (cond (Nat.beq x 12) (some (220, 2, 40)) none) (cond (Nat.beq x 18) (some (219, 2, 40)) none))) (cond (Nat.blt x 29) (cond (Nat.blt x 25) (cond (Nat.beq x 22) (some (73, 2, 11)) none) (cond (Nat.beq x 25) (some (75, 1, 11)) none)) (cond (Nat.blt x 32) (cond (Nat.beq x 29) (some (78, 2, 11)) none) (cond (Nat.beq x 32) (some (88, 2, 11)) none)))) (cond (Nat.blt x 45) (cond (Nat.blt x 39) (cond (Nat.beq x 35) (some (79, 4, 11)) none) (cond (Nat.blt x 42) (cond (Nat.beq x 39) (some (91, 1, 11)) none) (cond (Nat.beq x 42) (some (89, 2, 11)) none))) (cond (Nat.blt x 51) (cond (Nat.blt x 48) (cond (Nat.beq x 45) (some (87, 2, 11)) none) (cond (Nat.beq x 48) (some (222, 2, 40)) none)) (cond (Nat.blt x 54) (cond (Nat.beq x 51) (some (80, 2, 11)) none) (cond (Nat.beq x 54) (some (81, 2, 11)) none))))) (cond (Nat.blt x 83) (cond (Nat.blt x 67) (cond (Nat.blt x 60) (cond (Nat.beq x 57) (some (83, 2, 11)) none) (cond (Nat.blt x 63) (cond (Nat.beq x 60) (some (84, 2, 11)) none) (cond (Nat.beq x 63) (some (76, 3, 11)) none))) (cond (Nat.blt x 75) (cond (Nat.blt x 71) (cond (Nat.beq x 67) (some (225, 4, 40)) none) (cond (Nat.beq x 71) (some (224, 3, 40)) none)) (cond (Nat.blt x 79) (cond (Nat.beq x 75) (some (226, 1, 40)) none) (cond (Nat.beq x 79) (some (97, 0, 11)) none)))) (cond (Nat.blt x 101) (cond (Nat.blt x 91) (cond (Nat.blt x 86) (cond (Nat.beq x 83) (some (95, 1, 11)) none) (cond (Nat.beq x 86) (some (902, 1, 43)) none)) (cond (Nat.blt x 97) (cond (Nat.beq x 91) (some (221, 2, 40)) none) (cond (Nat.beq x 97) (some (223, 2, 40)) none))) (cond (Nat.blt x 107) (cond (Nat.blt x 104) (cond (Nat.beq x 101) (some (86, 3, 11)) none) (cond (Nat.beq x 104) (some (96, 4, 11)) none)) (cond (Nat.blt x 110) (cond (Nat.beq x 107) (some (94, 1, 11)) none) (cond (Nat.beq x 110) (some (93, 2, 11)) none)))))
def et_md (cl x : Nat) : Option (Nat × Nat × Nat) := cond (Nat.blt cl 50 && Nat.blt x 400) (cond (Nat.blt cl 8) (cond (Nat.blt cl 5) (cond (Nat.blt cl 4) (cond (Nat.beq cl 3) (et_md3 x) none) (cond (Nat.beq cl 4) (et_md4 x) none)) (cond (Nat.blt cl 6) (cond (Nat.beq cl 5) (et_md5 x) none) (cond (Nat.blt cl 7) (cond (Nat.beq cl 6) (et_md6 x) none) (cond (Nat.beq cl 7) (et_md7 x) none)))) (cond (Nat.blt cl 10) (cond (Nat.blt cl 9) (cond (Nat.beq cl 8) (et_md8 x) none) (cond (Nat.beq cl 9) (et_md9 x) none)) (cond (Nat.blt cl 11) (cond (Nat.beq cl 10) (et_md10 x) none) (cond (Nat.blt cl 40) (cond (Nat.beq cl 11) (et_md11 x) none) (cond (Nat.beq cl 40) (et_md40 x) none))))) none
def et_nw3 (x : Nat) : Option Nat := cond (Nat.beq x 9) (some 8) none
def et_nw7 (x : Nat) : Option Nat := cond (Nat.blt x 22) (cond (Nat.beq x 9) (some 6) none) (cond (Nat.beq x 22) (some 100) none)
def et_nw9 (x : Nat) : Option Nat := cond (Nat.blt x 23) (cond (Nat.blt x 17) (cond (Nat.beq x 9) (some 4) none) (cond (Nat.beq x 17) (some 3) none)) (cond (Nat.blt x 32) (cond (Nat.beq x 23) (some 10) none) (cond (Nat.beq x 32) (some 100) none))
def et_nw10 (x : Nat) : Option Nat := cond (Nat.beq x 9) (some 8) none
def et_nw11 (x : Nat) : Option Nat := cond (Nat.blt x 26) (cond (Nat.blt x 16) (cond (Nat.beq x 7) (some 7) none) (cond (Nat.beq x 16) (some 9) none)) (cond (Nat.blt x 324) (cond (Nat.beq x 26) (some 5) none) (cond (Nat.blt x 331) (cond (Nat.beq x 324) (some 101) none) (cond (Nat.beq x 331) (some 102) none)))
def et_nw40 (x : Nat) : Option Nat := cond (Nat.blt x 95) (cond (Nat.beq x 9) (some 11) none) (cond (Nat.beq x 95) (some 17) none)
/-- a class entry: the class, or 100 + the exception -/
def et_nw (cl x : Nat) : Option Nat := cond (Nat.blt cl 50 && Nat.blt x 400) (cond (Nat.blt cl 10) (cond (Nat.blt cl 7) (cond (Nat.beq cl 3) (et_nw3 x) none) (cond (Nat.blt cl 9) (cond (Nat.beq cl 7) (et_nw7 x) none) (cond (Nat.beq cl 9) (et_nw9 x) none))) (cond (Nat.blt cl 11) (cond (Nat.beq cl 10) (et_nw10 x) none) (cond (Nat.blt cl 40) (cond (Nat.beq cl 11) (et_nw11 x) none) (cond (Nat.beq cl 40) (et_nw40 x) none)))) none
def et_cl (cl x : Nat) : Option Int64 := cond (Nat.blt cl 50 && Nat.blt x 400) (cond (Nat.beq cl 11) (cond (Nat.blt x 280) (cond (Nat.beq x 278) (some 4802) none) (cond (Nat.beq x 280) (some 31) none)) none) none
def et_ci (cl x : Nat) : Option Int32 := cond (Nat.blt cl 50 && Nat.blt x 400) (cond (Nat.beq cl 40) (cond (Nat.blt x 8) (cond (Nat.beq x 7) (some 2147483647) none) (cond (Nat.beq x 8) (some 790386105) none)) none) none
def et_sd (cl x : Nat) : Option ew_V := none
def et_N (c : Nat) : Nat := cond (Nat.blt c 8) (cond (Nat.blt c 4) (cond (Nat.blt c 2) (cond (Nat.blt c 1) (cond (Nat.beq c 0) (5) 0) (cond (Nat.beq c 1) (5) 0)) (cond (Nat.blt c 3) (cond (Nat.beq c 2) (5) 0) (cond (Nat.beq c 3) (5) 0))) (cond (Nat.blt c 6) (cond (Nat.blt c 5) (cond (Nat.beq c 4) (5) 0) (cond (Nat.beq c 5) (2) 0)) (cond (Nat.blt c 7) (cond (Nat.beq c 6) (5) 0) (cond (Nat.beq c 7) (2) 0)))) (cond (Nat.blt c 12) (cond (Nat.blt c 10) (cond (Nat.blt c 9) (cond (Nat.beq c 8) (2) 0) (cond (Nat.beq c 9) (7) 0)) (cond (Nat.blt c 11) (cond (Nat.beq c 10) (12) 0) (cond (Nat.beq c 11) (4) 0))) (cond (Nat.blt c 14) (cond (Nat.blt c 13) (cond (Nat.beq c 12) (5) 0) (cond (Nat.beq c 13) (5) 0)) (cond (Nat.blt c 15) (cond (Nat.beq c 14) (5) 0) (cond (Nat.blt c 16) (cond (Nat.beq c 15) (5) 0) (cond (Nat.beq c 16) (5) 0)))))
def et_dr (c s : Nat) : Bool := cond (Nat.blt c 8) (cond (Nat.blt c 4) (cond (Nat.blt c 2) (cond (Nat.blt c 1) (cond (Nat.beq c 0) (cond (Nat.blt s 2) (cond (Nat.blt s 1) (cond (Nat.beq s 0) (true) false) (cond (Nat.beq s 1) (false) false)) (cond (Nat.blt s 3) (cond (Nat.beq s 2) (false) false) (cond (Nat.blt s 4) (cond (Nat.beq s 3) (false) false) (cond (Nat.beq s 4) (false) false)))) false) (cond (Nat.beq c 1) (cond (Nat.blt s 2) (cond (Nat.blt s 1) (cond (Nat.beq s 0) (true) false) (cond (Nat.beq s 1) (false) false)) (cond (Nat.blt s 3) (cond (Nat.beq s 2) (false) false) (cond (Nat.blt s 4) (cond (Nat.beq s 3) (false) false) (cond (Nat.beq s 4) (false) false)))) false)) (cond (Nat.blt c 3) (cond (Nat.beq c 2) (cond (Nat.blt s 2) (cond (Nat.blt s 1) (cond (Nat.beq s 0) (true) false) (cond (Nat.beq s 1) (false) false)) (cond (Nat.blt s 3) (cond (Nat.beq s 2) (false) false) (cond (Nat.blt s 4) (cond (Nat.beq s 3) (false) false) (cond (Nat.beq s 4) (false) false)))) false) (cond (Nat.beq c 3) (cond (Nat.blt s 2) (cond (Nat.blt s 1) (cond (Nat.beq s 0) (true) false) (cond (Nat.beq s 1) (false) false)) (cond (Nat.blt s 3) (cond (Nat.beq s 2) (false) false) (cond (Nat.blt s 4) (cond (Nat.beq s 3) (false) false) (cond (Nat.beq s 4) (false) false)))) false))) (cond (Nat.blt c 6) (cond (Nat.blt c 5) (cond (Nat.beq c 4) (cond (Nat.blt s 2) (cond (Nat.blt s 1) (cond (Nat.beq s 0) (false) false) (cond (Nat.beq s 1) (false) false)) (cond (Nat.blt s 3) (cond (Nat.beq s 2) (false) false) (cond (Nat.blt s 4) (cond (Nat.beq s 3) (false) false) (cond (Nat.beq s 4) (false) false)))) false) (cond (Nat.beq c 5) (cond (Nat.blt s 1) (cond (Nat.beq s 0) (true) false) (cond (Nat.beq s 1) (true) false)) false)) (cond (Nat.blt c 7) (cond (Nat.beq c 6) (cond (Nat.blt s 2) (cond (Nat.blt s 1) (cond (Nat.beq s 0) (true) false) (cond (Nat.beq s 1) (true) false)) (cond (Nat.blt s 3) (cond (Nat.beq s 2) (true) false) (cond (Nat.blt s 4) (cond (Nat.beq s 3) (false) false) (cond (Nat.beq s 4) (false) false)))) false) (cond (Nat.beq c 7) (cond (Nat.blt s 1) (cond (Nat.beq s 0) (true) false) (cond (Nat.beq s 1) (false) false)) false)))) (cond (Nat.blt c 12) (cond (Nat.blt c 10) (cond (Nat.blt c 9) (cond (Nat.beq c 8) (cond (Nat.blt s 1) (cond (Nat.beq s 0) (true) false) (cond (Nat.beq s 1) (false) false)) false) (cond (Nat.beq c 9) (cond (Nat.blt s 3) (cond (Nat.blt s 1) (cond (Nat.beq s 0) (true) false) (cond (Nat.blt s 2) (cond (Nat.beq s 1) (true) false) (cond (Nat.beq s 2) (true) false))) (cond (Nat.blt s 5) (cond (Nat.blt s 4) (cond (Nat.beq s 3) (false) false) (cond (Nat.beq s 4) (false) false)) (cond (Nat.blt s 6) (cond (Nat.beq s 5) (false) false) (cond (Nat.beq s 6) (false) false)))) false)) (cond (Nat.blt c 11) (cond (Nat.beq c 10) (cond (Nat.blt s 6) (cond (Nat.blt s 3) (cond (Nat.blt s 1) (cond (Nat.beq s 0) (true) false) (cond (Nat.blt s 2) (cond (Nat.beq s 1) (true) false) (cond (Nat.beq s 2) (false) false))) (cond (Nat.blt s 4) (cond (Nat.beq s 3) (false) false) (cond (Nat.blt s 5) (cond (Nat.beq s 4) (false) false) (cond (Nat.beq s 5) (false) false)))) (cond (Nat.blt s 9) (cond (Nat.blt s 7) (cond (Nat.beq s 6) (false) false) (cond (Nat.blt s 8) (cond (Nat.beq s 7) (false) false) (cond (Nat.beq s 8) (false) false))) (cond (Nat.blt s 10) (cond (Nat.beq s 9) (false) false) (cond (Nat.blt s 11) (cond (Nat.beq s 10) (false) false) (cond (Nat.beq s 11) (false) false))))) false) (cond (Nat.beq c 11) (cond (Nat.blt s 2) (cond (Nat.blt s 1) (cond (Nat.beq s 0) (true) false) (cond (Nat.beq s 1) (true) false)) (cond (Nat.blt s 3) (cond (Nat.beq s 2) (true) false) (cond (Nat.beq s 3) (true) false))) false))) (cond (Nat.blt c 14) (cond (Nat.blt c 13) (cond (Nat.beq c 12) (cond (Nat.blt s 2) (cond (Nat.blt s 1) (cond (Nat.beq s 0) (true) false) (cond (Nat.beq s 1) (false) false)) (cond (Nat.blt s 3) (cond (Nat.beq s 2) (false) false) (cond (Nat.blt s 4) (cond (Nat.beq s 3) (false) false) (cond (Nat.beq s 4) (false) false)))) false) (cond (Nat.beq c 13) (cond (Nat.blt s 2) (cond (Nat.blt s 1) (cond (Nat.beq s 0) (true) false) (cond (Nat.beq s 1) (false) false)) (cond (Nat.blt s 3) (cond (Nat.beq s 2) (false) false) (cond (Nat.blt s 4) (cond (Nat.beq s 3) (false) false) (cond (Nat.beq s 4) (false) false)))) false)) (cond (Nat.blt c 15) (cond (Nat.beq c 14) (cond (Nat.blt s 2) (cond (Nat.blt s 1) (cond (Nat.beq s 0) (true) false) (cond (Nat.beq s 1) (false) false)) (cond (Nat.blt s 3) (cond (Nat.beq s 2) (false) false) (cond (Nat.blt s 4) (cond (Nat.beq s 3) (false) false) (cond (Nat.beq s 4) (false) false)))) false) (cond (Nat.blt c 16) (cond (Nat.beq c 15) (cond (Nat.blt s 2) (cond (Nat.blt s 1) (cond (Nat.beq s 0) (true) false) (cond (Nat.beq s 1) (false) false)) (cond (Nat.blt s 3) (cond (Nat.beq s 2) (false) false) (cond (Nat.blt s 4) (cond (Nat.beq s 3) (false) false) (cond (Nat.beq s 4) (false) false)))) false) (cond (Nat.beq c 16) (cond (Nat.blt s 2) (cond (Nat.blt s 1) (cond (Nat.beq s 0) (true) false) (cond (Nat.beq s 1) (false) false)) (cond (Nat.blt s 3) (cond (Nat.beq s 2) (false) false) (cond (Nat.blt s 4) (cond (Nat.beq s 3) (false) false) (cond (Nat.beq s 4) (false) false)))) false)))))
def et_dv (c : Nat) (s : Nat) : ew_V := cond (et_dr c s) ew_0 (ew_i 0)
def et_fin (c s : Nat) : Bool := cond (Nat.blt c 8) (cond (Nat.blt c 4) (cond (Nat.blt c 2) (cond (Nat.blt c 1) (cond (Nat.beq c 0) (cond (Nat.blt s 2) (cond (Nat.blt s 1) (cond (Nat.beq s 0) (true) false) (cond (Nat.beq s 1) (false) false)) (cond (Nat.blt s 3) (cond (Nat.beq s 2) (false) false) (cond (Nat.blt s 4) (cond (Nat.beq s 3) (false) false) (cond (Nat.beq s 4) (false) false)))) false) (cond (Nat.beq c 1) (cond (Nat.blt s 2) (cond (Nat.blt s 1) (cond (Nat.beq s 0) (true) false) (cond (Nat.beq s 1) (false) false)) (cond (Nat.blt s 3) (cond (Nat.beq s 2) (false) false) (cond (Nat.blt s 4) (cond (Nat.beq s 3) (false) false) (cond (Nat.beq s 4) (false) false)))) false)) (cond (Nat.blt c 3) (cond (Nat.beq c 2) (cond (Nat.blt s 2) (cond (Nat.blt s 1) (cond (Nat.beq s 0) (true) false) (cond (Nat.beq s 1) (false) false)) (cond (Nat.blt s 3) (cond (Nat.beq s 2) (false) false) (cond (Nat.blt s 4) (cond (Nat.beq s 3) (false) false) (cond (Nat.beq s 4) (false) false)))) false) (cond (Nat.beq c 3) (cond (Nat.blt s 2) (cond (Nat.blt s 1) (cond (Nat.beq s 0) (true) false) (cond (Nat.beq s 1) (false) false)) (cond (Nat.blt s 3) (cond (Nat.beq s 2) (false) false) (cond (Nat.blt s 4) (cond (Nat.beq s 3) (false) false) (cond (Nat.beq s 4) (false) false)))) false))) (cond (Nat.blt c 6) (cond (Nat.blt c 5) (cond (Nat.beq c 4) (cond (Nat.blt s 2) (cond (Nat.blt s 1) (cond (Nat.beq s 0) (false) false) (cond (Nat.beq s 1) (false) false)) (cond (Nat.blt s 3) (cond (Nat.beq s 2) (false) false) (cond (Nat.blt s 4) (cond (Nat.beq s 3) (false) false) (cond (Nat.beq s 4) (false) false)))) false) (cond (Nat.beq c 5) (cond (Nat.blt s 1) (cond (Nat.beq s 0) (true) false) (cond (Nat.beq s 1) (true) false)) false)) (cond (Nat.blt c 7) (cond (Nat.beq c 6) (cond (Nat.blt s 2) (cond (Nat.blt s 1) (cond (Nat.beq s 0) (true) false) (cond (Nat.beq s 1) (true) false)) (cond (Nat.blt s 3) (cond (Nat.beq s 2) (true) false) (cond (Nat.blt s 4) (cond (Nat.beq s 3) (false) false) (cond (Nat.beq s 4) (false) false)))) false) (cond (Nat.beq c 7) (cond (Nat.blt s 1) (cond (Nat.beq s 0) (true) false) (cond (Nat.beq s 1) (false) false)) false)))) (cond (Nat.blt c 12) (cond (Nat.blt c 10) (cond (Nat.blt c 9) (cond (Nat.beq c 8) (cond (Nat.blt s 1) (cond (Nat.beq s 0) (true) false) (cond (Nat.beq s 1) (false) false)) false) (cond (Nat.beq c 9) (cond (Nat.blt s 3) (cond (Nat.blt s 1) (cond (Nat.beq s 0) (true) false) (cond (Nat.blt s 2) (cond (Nat.beq s 1) (true) false) (cond (Nat.beq s 2) (true) false))) (cond (Nat.blt s 5) (cond (Nat.blt s 4) (cond (Nat.beq s 3) (false) false) (cond (Nat.beq s 4) (false) false)) (cond (Nat.blt s 6) (cond (Nat.beq s 5) (false) false) (cond (Nat.beq s 6) (false) false)))) false)) (cond (Nat.blt c 11) (cond (Nat.beq c 10) (cond (Nat.blt s 6) (cond (Nat.blt s 3) (cond (Nat.blt s 1) (cond (Nat.beq s 0) (true) false) (cond (Nat.blt s 2) (cond (Nat.beq s 1) (true) false) (cond (Nat.beq s 2) (false) false))) (cond (Nat.blt s 4) (cond (Nat.beq s 3) (false) false) (cond (Nat.blt s 5) (cond (Nat.beq s 4) (false) false) (cond (Nat.beq s 5) (false) false)))) (cond (Nat.blt s 9) (cond (Nat.blt s 7) (cond (Nat.beq s 6) (false) false) (cond (Nat.blt s 8) (cond (Nat.beq s 7) (false) false) (cond (Nat.beq s 8) (false) false))) (cond (Nat.blt s 10) (cond (Nat.beq s 9) (false) false) (cond (Nat.blt s 11) (cond (Nat.beq s 10) (false) false) (cond (Nat.beq s 11) (false) false))))) false) (cond (Nat.beq c 11) (cond (Nat.blt s 2) (cond (Nat.blt s 1) (cond (Nat.beq s 0) (true) false) (cond (Nat.beq s 1) (true) false)) (cond (Nat.blt s 3) (cond (Nat.beq s 2) (true) false) (cond (Nat.beq s 3) (true) false))) false))) (cond (Nat.blt c 14) (cond (Nat.blt c 13) (cond (Nat.beq c 12) (cond (Nat.blt s 2) (cond (Nat.blt s 1) (cond (Nat.beq s 0) (true) false) (cond (Nat.beq s 1) (false) false)) (cond (Nat.blt s 3) (cond (Nat.beq s 2) (false) false) (cond (Nat.blt s 4) (cond (Nat.beq s 3) (false) false) (cond (Nat.beq s 4) (false) false)))) false) (cond (Nat.beq c 13) (cond (Nat.blt s 2) (cond (Nat.blt s 1) (cond (Nat.beq s 0) (true) false) (cond (Nat.beq s 1) (false) false)) (cond (Nat.blt s 3) (cond (Nat.beq s 2) (false) false) (cond (Nat.blt s 4) (cond (Nat.beq s 3) (false) false) (cond (Nat.beq s 4) (false) false)))) false)) (cond (Nat.blt c 15) (cond (Nat.beq c 14) (cond (Nat.blt s 2) (cond (Nat.blt s 1) (cond (Nat.beq s 0) (true) false) (cond (Nat.beq s 1) (false) false)) (cond (Nat.blt s 3) (cond (Nat.beq s 2) (false) false) (cond (Nat.blt s 4) (cond (Nat.beq s 3) (false) false) (cond (Nat.beq s 4) (false) false)))) false) (cond (Nat.blt c 16) (cond (Nat.beq c 15) (cond (Nat.blt s 2) (cond (Nat.blt s 1) (cond (Nat.beq s 0) (true) false) (cond (Nat.beq s 1) (false) false)) (cond (Nat.blt s 3) (cond (Nat.beq s 2) (false) false) (cond (Nat.blt s 4) (cond (Nat.beq s 3) (false) false) (cond (Nat.beq s 4) (false) false)))) false) (cond (Nat.beq c 16) (cond (Nat.blt s 2) (cond (Nat.blt s 1) (cond (Nat.beq s 0) (true) false) (cond (Nat.beq s 1) (false) false)) (cond (Nat.blt s 3) (cond (Nat.beq s 2) (false) false) (cond (Nat.blt s 4) (cond (Nat.beq s 3) (false) false) (cond (Nat.beq s 4) (false) false)))) false)))))
def et_ini (y : Nat) : Bool := cond (Nat.blt y 25) (cond (Nat.blt y 13) (cond (Nat.blt y 3) (cond (Nat.beq y 0) (true) false) (cond (Nat.beq y 3) (true) false)) (cond (Nat.blt y 19) (cond (Nat.beq y 13) (true) false) (cond (Nat.beq y 19) (true) false))) (cond (Nat.blt y 36) (cond (Nat.blt y 29) (cond (Nat.beq y 25) (true) false) (cond (Nat.beq y 29) (true) false)) (cond (Nat.blt y 60) (cond (Nat.beq y 36) (true) false) (cond (Nat.blt y 72) (cond (Nat.beq y 60) (true) false) (cond (Nat.beq y 72) (true) false))))
def et_cls (y : Nat) : Nat := cond (Nat.blt y 57) (cond (Nat.blt y 29) (cond (Nat.blt y 14) (cond (Nat.blt y 6) (cond (Nat.blt y 3) (cond (Nat.blt y 1) (cond (Nat.beq y 0) (3) 0) (cond (Nat.blt y 2) (cond (Nat.beq y 1) (3) 0) (cond (Nat.beq y 2) (3) 0))) (cond (Nat.blt y 4) (cond (Nat.beq y 3) (4) 0) (cond (Nat.blt y 5) (cond (Nat.beq y 4) (4) 0) (cond (Nat.beq y 5) (4) 0)))) (cond (Nat.blt y 10) (cond (Nat.blt y 8) (cond (Nat.beq y 6) (4) 0) (cond (Nat.blt y 9) (cond (Nat.beq y 8) (4) 0) (cond (Nat.beq y 9) (4) 0))) (cond (Nat.blt y 12) (cond (Nat.blt y 11) (cond (Nat.beq y 10) (4) 0) (cond (Nat.beq y 11) (4) 0)) (cond (Nat.blt y 13) (cond (Nat.beq y 12) (4) 0) (cond (Nat.beq y 13) (5) 0))))) (cond (Nat.blt y 21) (cond (Nat.blt y 17) (cond (Nat.blt y 15) (cond (Nat.beq y 14) (5) 0) (cond (Nat.blt y 16) (cond (Nat.beq y 15) (5) 0) (cond (Nat.beq y 16) (5) 0))) (cond (Nat.blt y 19) (cond (Nat.blt y 18) (cond (Nat.beq y 17) (5) 0) (cond (Nat.beq y 18) (5) 0)) (cond (Nat.blt y 20) (cond (Nat.beq y 19) (6) 0) (cond (Nat.beq y 20) (6) 0)))) (cond (Nat.blt y 25) (cond (Nat.blt y 23) (cond (Nat.beq y 21) (6) 0) (cond (Nat.blt y 24) (cond (Nat.beq y 23) (6) 0) (cond (Nat.beq y 24) (6) 0))) (cond (Nat.blt y 27) (cond (Nat.blt y 26) (cond (Nat.beq y 25) (7) 0) (cond (Nat.beq y 26) (7) 0)) (cond (Nat.blt y 28) (cond (Nat.beq y 27) (7) 0) (cond (Nat.beq y 28) (7) 0)))))) (cond (Nat.blt y 42) (cond (Nat.blt y 35) (cond (Nat.blt y 32) (cond (Nat.blt y 30) (cond (Nat.beq y 29) (8) 0) (cond (Nat.blt y 31) (cond (Nat.beq y 30) (8) 0) (cond (Nat.beq y 31) (8) 0))) (cond (Nat.blt y 33) (cond (Nat.beq y 32) (8) 0) (cond (Nat.blt y 34) (cond (Nat.beq y 33) (8) 0) (cond (Nat.beq y 34) (8) 0)))) (cond (Nat.blt y 38) (cond (Nat.blt y 36) (cond (Nat.beq y 35) (8) 0) (cond (Nat.blt y 37) (cond (Nat.beq y 36) (9) 0) (cond (Nat.beq y 37) (9) 0))) (cond (Nat.blt y 40) (cond (Nat.blt y 39) (cond (Nat.beq y 38) (9) 0) (cond (Nat.beq y 39) (9) 0)) (cond (Nat.blt y 41) (cond (Nat.beq y 40) (9) 0) (cond (Nat.beq y 41) (9) 0))))) (cond (Nat.blt y 50) (cond (Nat.blt y 45) (cond (Nat.blt y 43) (cond (Nat.beq y 42) (9) 0) (cond (Nat.blt y 44) (cond (Nat.beq y 43) (9) 0) (cond (Nat.beq y 44) (9) 0))) (cond (Nat.blt y 47) (cond (Nat.blt y 46) (cond (Nat.beq y 45) (9) 0) (cond (Nat.beq y 46) (9) 0)) (cond (Nat.blt y 49) (cond (Nat.beq y 47) (9) 0) (cond (Nat.beq y 49) (9) 0)))) (cond (Nat.blt y 53) (cond (Nat.blt y 51) (cond (Nat.beq y 50) (9) 0) (cond (Nat.blt y 52) (cond (Nat.beq y 51) (9) 0) (cond (Nat.beq y 52) (9) 0))) (cond (Nat.blt y 55) (cond (Nat.blt y 54) (cond (Nat.beq y 53) (9) 0) (cond (Nat.beq y 54) (9) 0)) (cond (Nat.blt y 56) (cond (Nat.beq y 55) (9) 0) (cond (Nat.beq y 56) (9) 0))))))) (cond (Nat.blt y 89) (cond (Nat.blt y 71) (cond (Nat.blt y 64) (cond (Nat.blt y 61) (cond (Nat.blt y 59) (cond (Nat.beq y 57) (9) 0) (cond (Nat.blt y 60) (cond (Nat.beq y 59) (9) 0) (cond (Nat.beq y 60) (10) 0))) (cond (Nat.blt y 62) (cond (Nat.beq y 61) (10) 0) (cond (Nat.blt y 63) (cond (Nat.beq y 62) (10) 0) (cond (Nat.beq y 63) (10) 0)))) (cond (Nat.blt y 67) (cond (Nat.blt y 65) (cond (Nat.beq y 64) (10) 0) (cond (Nat.blt y 66) (cond (Nat.beq y 65) (10) 0) (cond (Nat.beq y 66) (10) 0))) (cond (Nat.blt y 69) (cond (Nat.blt y 68) (cond (Nat.beq y 67) (10) 0) (cond (Nat.beq y 68) (10) 0)) (cond (Nat.blt y 70) (cond (Nat.beq y 69) (10) 0) (cond (Nat.beq y 70) (10) 0))))) (cond (Nat.blt y 80) (cond (Nat.blt y 75) (cond (Nat.blt y 72) (cond (Nat.beq y 71) (10) 0) (cond (Nat.blt y 73) (cond (Nat.beq y 72) (11) 0) (cond (Nat.beq y 73) (11) 0))) (cond (Nat.blt y 78) (cond (Nat.blt y 76) (cond (Nat.beq y 75) (11) 0) (cond (Nat.beq y 76) (11) 0)) (cond (Nat.blt y 79) (cond (Nat.beq y 78) (11) 0) (cond (Nat.beq y 79) (11) 0)))) (cond (Nat.blt y 84) (cond (Nat.blt y 81) (cond (Nat.beq y 80) (11) 0) (cond (Nat.blt y 83) (cond (Nat.beq y 81) (11) 0) (cond (Nat.beq y 83) (11) 0))) (cond (Nat.blt y 87) (cond (Nat.blt y 86) (cond (Nat.beq y 84) (11) 0) (cond (Nat.beq y 86) (11) 0)) (cond (Nat.blt y 88) (cond (Nat.beq y 87) (11) 0) (cond (Nat.beq y 88) (11) 0)))))) (cond (Nat.blt y 104) (cond (Nat.blt y 97) (cond (Nat.blt y 93) (cond (Nat.blt y 90) (cond (Nat.beq y 89) (11) 0) (cond (Nat.blt y 91) (cond (Nat.beq y 90) (11) 0) (cond (Nat.beq y 91) (11) 0))) (cond (Nat.blt y 95) (cond (Nat.blt y 94) (cond (Nat.beq y 93) (11) 0) (cond (Nat.beq y 94) (11) 0)) (cond (Nat.blt y 96) (cond (Nat.beq y 95) (11) 0) (cond (Nat.beq y 96) (11) 0)))) (cond (Nat.blt y 100) (cond (Nat.blt y 98) (cond (Nat.beq y 97) (11) 0) (cond (Nat.blt y 99) (cond (Nat.beq y 98) (11) 0) (cond (Nat.beq y 99) (11) 0))) (cond (Nat.blt y 102) (cond (Nat.blt y 101) (cond (Nat.beq y 100) (11) 0) (cond (Nat.beq y 101) (11) 0)) (cond (Nat.blt y 103) (cond (Nat.beq y 102) (11) 0) (cond (Nat.beq y 103) (11) 0))))) (cond (Nat.blt y 221) (cond (Nat.blt y 107) (cond (Nat.blt y 105) (cond (Nat.beq y 104) (11) 0) (cond (Nat.blt y 106) (cond (Nat.beq y 105) (11) 0) (cond (Nat.beq y 106) (11) 0))) (cond (Nat.blt y 219) (cond (Nat.blt y 108) (cond (Nat.beq y 107) (11) 0) (cond (Nat.beq y 108) (11) 0)) (cond (Nat.blt y 220) (cond (Nat.beq y 219) (40) 0) (cond (Nat.beq y 220) (40) 0)))) (cond (Nat.blt y 224) (cond (Nat.blt y 222) (cond (Nat.beq y 221) (40) 0) (cond (Nat.blt y 223) (cond (Nat.beq y 222) (40) 0) (cond (Nat.beq y 223) (40) 0))) (cond (Nat.blt y 226) (cond (Nat.blt y 225) (cond (Nat.beq y 224) (40) 0) (cond (Nat.beq y 225) (40) 0)) (cond (Nat.blt y 242) (cond (Nat.beq y 226) (40) 0) (cond (Nat.beq y 242) (40) 0)))))))
def et_bl (y : Nat) : Bool := cond (Nat.blt y 102) (cond (Nat.blt y 30) (cond (Nat.blt y 24) (cond (Nat.blt y 23) (cond (Nat.beq y 16) (true) false) (cond (Nat.beq y 23) (true) false)) (cond (Nat.blt y 28) (cond (Nat.beq y 24) (true) false) (cond (Nat.beq y 28) (true) false))) (cond (Nat.blt y 63) (cond (Nat.blt y 45) (cond (Nat.beq y 30) (true) false) (cond (Nat.beq y 45) (true) false)) (cond (Nat.blt y 101) (cond (Nat.beq y 63) (true) false) (cond (Nat.beq y 101) (true) false)))) (cond (Nat.blt y 224) (cond (Nat.blt y 104) (cond (Nat.blt y 103) (cond (Nat.beq y 102) (true) false) (cond (Nat.beq y 103) (true) false)) (cond (Nat.blt y 221) (cond (Nat.beq y 104) (true) false) (cond (Nat.beq y 221) (true) false))) (cond (Nat.blt y 226) (cond (Nat.blt y 225) (cond (Nat.beq y 224) (true) false) (cond (Nat.beq y 225) (true) false)) (cond (Nat.blt y 242) (cond (Nat.beq y 226) (true) false) (cond (Nat.beq y 242) (true) false))))
def et_mx (y : Nat) : Nat := cond (Nat.blt y 60) (cond (Nat.blt y 30) (cond (Nat.blt y 15) (cond (Nat.blt y 8) (cond (Nat.blt y 3) (cond (Nat.blt y 1) (cond (Nat.beq y 0) (1) 0) (cond (Nat.blt y 2) (cond (Nat.beq y 1) (3) 0) (cond (Nat.beq y 2) (2) 0))) (cond (Nat.blt y 5) (cond (Nat.blt y 4) (cond (Nat.beq y 3) (1) 0) (cond (Nat.beq y 4) (1) 0)) (cond (Nat.blt y 6) (cond (Nat.beq y 5) (1) 0) (cond (Nat.beq y 6) (1) 0)))) (cond (Nat.blt y 11) (cond (Nat.blt y 9) (cond (Nat.beq y 8) (3) 0) (cond (Nat.blt y 10) (cond (Nat.beq y 9) (1) 0) (cond (Nat.beq y 10) (3) 0))) (cond (Nat.blt y 13) (cond (Nat.blt y 12) (cond (Nat.beq y 11) (1) 0) (cond (Nat.beq y 12) (2) 0)) (cond (Nat.blt y 14) (cond (Nat.beq y 13) (1) 0) (cond (Nat.beq y 14) (3) 0))))) (cond (Nat.blt y 23) (cond (Nat.blt y 18) (cond (Nat.blt y 16) (cond (Nat.beq y 15) (5) 0) (cond (Nat.blt y 17) (cond (Nat.beq y 16) (4) 0) (cond (Nat.beq y 17) (4) 0))) (cond (Nat.blt y 20) (cond (Nat.blt y 19) (cond (Nat.beq y 18) (2) 0) (cond (Nat.beq y 19) (1) 0)) (cond (Nat.blt y 21) (cond (Nat.beq y 20) (3) 0) (cond (Nat.beq y 21) (4) 0)))) (cond (Nat.blt y 26) (cond (Nat.blt y 24) (cond (Nat.beq y 23) (2) 0) (cond (Nat.blt y 25) (cond (Nat.beq y 24) (4) 0) (cond (Nat.beq y 25) (2) 0))) (cond (Nat.blt y 28) (cond (Nat.blt y 27) (cond (Nat.beq y 26) (2) 0) (cond (Nat.beq y 27) (3) 0)) (cond (Nat.blt y 29) (cond (Nat.beq y 28) (3) 0) (cond (Nat.beq y 29) (1) 0)))))) (cond (Nat.blt y 44) (cond (Nat.blt y 37) (cond (Nat.blt y 33) (cond (Nat.blt y 31) (cond (Nat.beq y 30) (1) 0) (cond (Nat.blt y 32) (cond (Nat.beq y 31) (2) 0) (cond (Nat.beq y 32) (1) 0))) (cond (Nat.blt y 35) (cond (Nat.blt y 34) (cond (Nat.beq y 33) (2) 0) (cond (Nat.beq y 34) (2) 0)) (cond (Nat.blt y 36) (cond (Nat.beq y 35) (3) 0) (cond (Nat.beq y 36) (2) 0)))) (cond (Nat.blt y 40) (cond (Nat.blt y 38) (cond (Nat.beq y 37) (2) 0) (cond (Nat.blt y 39) (cond (Nat.beq y 38) (2) 0) (cond (Nat.beq y 39) (2) 0))) (cond (Nat.blt y 42) (cond (Nat.blt y 41) (cond (Nat.beq y 40) (5) 0) (cond (Nat.beq y 41) (7) 0)) (cond (Nat.blt y 43) (cond (Nat.beq y 42) (6) 0) (cond (Nat.beq y 43) (4) 0))))) (cond (Nat.blt y 52) (cond (Nat.blt y 47) (cond (Nat.blt y 45) (cond (Nat.beq y 44) (5) 0) (cond (Nat.blt y 46) (cond (Nat.beq y 45) (6) 0) (cond (Nat.beq y 46) (5) 0))) (cond (Nat.blt y 50) (cond (Nat.blt y 49) (cond (Nat.beq y 47) (3) 0) (cond (Nat.beq y 49) (5) 0)) (cond (Nat.blt y 51) (cond (Nat.beq y 50) (4) 0) (cond (Nat.beq y 51) (3) 0)))) (cond (Nat.blt y 55) (cond (Nat.blt y 53) (cond (Nat.beq y 52) (3) 0) (cond (Nat.blt y 54) (cond (Nat.beq y 53) (3) 0) (cond (Nat.beq y 54) (3) 0))) (cond (Nat.blt y 57) (cond (Nat.blt y 56) (cond (Nat.beq y 55) (3) 0) (cond (Nat.beq y 56) (3) 0)) (cond (Nat.blt y 59) (cond (Nat.beq y 57) (3) 0) (cond (Nat.beq y 59) (3) 0))))))) (cond (Nat.blt y 93) (cond (Nat.blt y 75) (cond (Nat.blt y 67) (cond (Nat.blt y 63) (cond (Nat.blt y 61) (cond (Nat.beq y 60) (1) 0) (cond (Nat.blt y 62) (cond (Nat.beq y 61) (2) 0) (cond (Nat.beq y 62) (3) 0))) (cond (Nat.blt y 65) (cond (Nat.blt y 64) (cond (Nat.beq y 63) (3) 0) (cond (Nat.beq y 64) (3) 0)) (cond (Nat.blt y 66) (cond (Nat.beq y 65) (1) 0) (cond (Nat.beq y 66) (4) 0)))) (cond (Nat.blt y 70) (cond (Nat.blt y 68) (cond (Nat.beq y 67) (2) 0) (cond (Nat.blt y 69) (cond (Nat.beq y 68) (2) 0) (cond (Nat.beq y 69) (2) 0))) (cond (Nat.blt y 72) (cond (Nat.blt y 71) (cond (Nat.beq y 70) (3) 0) (cond (Nat.beq y 71) (3) 0)) (cond (Nat.blt y 73) (cond (Nat.beq y 72) (1) 0) (cond (Nat.beq y 73) (5) 0))))) (cond (Nat.blt y 84) (cond (Nat.blt y 79) (cond (Nat.blt y 76) (cond (Nat.beq y 75) (3) 0) (cond (Nat.blt y 78) (cond (Nat.beq y 76) (6) 0) (cond (Nat.beq y 78) (4) 0))) (cond (Nat.blt y 81) (cond (Nat.blt y 80) (cond (Nat.beq y 79) (6) 0) (cond (Nat.beq y 80) (4) 0)) (cond (Nat.blt y 83) (cond (Nat.beq y 81) (4) 0) (cond (Nat.beq y 83) (5) 0)))) (cond (Nat.blt y 88) (cond (Nat.blt y 86) (cond (Nat.beq y 84) (5) 0) (cond (Nat.blt y 87) (cond (Nat.beq y 86) (6) 0) (cond (Nat.beq y 87) (4) 0))) (cond (Nat.blt y 90) (cond (Nat.blt y 89) (cond (Nat.beq y 88) (4) 0) (cond (Nat.beq y 89) (4) 0)) (cond (Nat.blt y 91) (cond (Nat.beq y 90) (4) 0) (cond (Nat.beq y 91) (2) 0)))))) (cond (Nat.blt y 107) (cond (Nat.blt y 100) (cond (Nat.blt y 96) (cond (Nat.blt y 94) (cond (Nat.beq y 93) (5) 0) (cond (Nat.blt y 95) (cond (Nat.beq y 94) (2) 0) (cond (Nat.beq y 95) (8) 0))) (cond (Nat.blt y 98) (cond (Nat.blt y 97) (cond (Nat.beq y 96) (8) 0) (cond (Nat.beq y 97) (5) 0)) (cond (Nat.blt y 99) (cond (Nat.beq y 98) (2) 0) (cond (Nat.beq y 99) (3) 0)))) (cond (Nat.blt y 103) (cond (Nat.blt y 101) (cond (Nat.beq y 100) (3) 0) (cond (Nat.blt y 102) (cond (Nat.beq y 101) (2) 0) (cond (Nat.beq y 102) (2) 0))) (cond (Nat.blt y 105) (cond (Nat.blt y 104) (cond (Nat.beq y 103) (2) 0) (cond (Nat.beq y 104) (3) 0)) (cond (Nat.blt y 106) (cond (Nat.beq y 105) (1) 0) (cond (Nat.beq y 106) (1) 0))))) (cond (Nat.blt y 221) (cond (Nat.blt y 189) (cond (Nat.blt y 108) (cond (Nat.beq y 107) (3) 0) (cond (Nat.blt y 188) (cond (Nat.beq y 108) (4) 0) (cond (Nat.beq y 188) (1) 0))) (cond (Nat.blt y 219) (cond (Nat.blt y 190) (cond (Nat.beq y 189) (2) 0) (cond (Nat.beq y 190) (2) 0)) (cond (Nat.blt y 220) (cond (Nat.beq y 219) (2) 0) (cond (Nat.beq y 220) (2) 0)))) (cond (Nat.blt y 224) (cond (Nat.blt y 222) (cond (Nat.beq y 221) (2) 0) (cond (Nat.blt y 223) (cond (Nat.beq y 222) (3) 0) (cond (Nat.beq y 223) (4) 0))) (cond (Nat.blt y 226) (cond (Nat.blt y 225) (cond (Nat.beq y 224) (15) 0) (cond (Nat.beq y 225) (6) 0)) (cond (Nat.blt y 242) (cond (Nat.beq y 226) (9) 0) (cond (Nat.beq y 242) (14) 0)))))))
def et_kd (y : Nat) : Nat := cond (Nat.blt y 60) (cond (Nat.blt y 30) (cond (Nat.blt y 15) (cond (Nat.blt y 8) (cond (Nat.blt y 3) (cond (Nat.blt y 1) (cond (Nat.beq y 0) (2) 9) (cond (Nat.blt y 2) (cond (Nat.beq y 1) (1) 9) (cond (Nat.beq y 2) (1) 9))) (cond (Nat.blt y 5) (cond (Nat.blt y 4) (cond (Nat.beq y 3) (2) 9) (cond (Nat.beq y 4) (1) 9)) (cond (Nat.blt y 6) (cond (Nat.beq y 5) (1) 9) (cond (Nat.beq y 6) (1) 9)))) (cond (Nat.blt y 11) (cond (Nat.blt y 9) (cond (Nat.beq y 8) (1) 9) (cond (Nat.blt y 10) (cond (Nat.beq y 9) (1) 9) (cond (Nat.beq y 10) (1) 9))) (cond (Nat.blt y 13) (cond (Nat.blt y 12) (cond (Nat.beq y 11) (1) 9) (cond (Nat.beq y 12) (1) 9)) (cond (Nat.blt y 14) (cond (Nat.beq y 13) (2) 9) (cond (Nat.beq y 14) (1) 9))))) (cond (Nat.blt y 23) (cond (Nat.blt y 18) (cond (Nat.blt y 16) (cond (Nat.beq y 15) (1) 9) (cond (Nat.blt y 17) (cond (Nat.beq y 16) (1) 9) (cond (Nat.beq y 17) (1) 9))) (cond (Nat.blt y 20) (cond (Nat.blt y 19) (cond (Nat.beq y 18) (1) 9) (cond (Nat.beq y 19) (2) 9)) (cond (Nat.blt y 21) (cond (Nat.beq y 20) (1) 9) (cond (Nat.beq y 21) (1) 9)))) (cond (Nat.blt y 26) (cond (Nat.blt y 24) (cond (Nat.beq y 23) (1) 9) (cond (Nat.blt y 25) (cond (Nat.beq y 24) (1) 9) (cond (Nat.beq y 25) (2) 9))) (cond (Nat.blt y 28) (cond (Nat.blt y 27) (cond (Nat.beq y 26) (1) 9) (cond (Nat.beq y 27) (1) 9)) (cond (Nat.blt y 29) (cond (Nat.beq y 28) (1) 9) (cond (Nat.beq y 29) (2) 9)))))) (cond (Nat.blt y 44) (cond (Nat.blt y 37) (cond (Nat.blt y 33) (cond (Nat.blt y 31) (cond (Nat.beq y 30) (1) 9) (cond (Nat.blt y 32) (cond (Nat.beq y 31) (1) 9) (cond (Nat.beq y 32) (1) 9))) (cond (Nat.blt y 35) (cond (Nat.blt y 34) (cond (Nat.beq y 33) (1) 9) (cond (Nat.beq y 34) (1) 9)) (cond (Nat.blt y 36) (cond (Nat.beq y 35) (1) 9) (cond (Nat.beq y 36) (2) 9)))) (cond (Nat.blt y 40) (cond (Nat.blt y 38) (cond (Nat.beq y 37) (1) 9) (cond (Nat.blt y 39) (cond (Nat.beq y 38) (1) 9) (cond (Nat.beq y 39) (1) 9))) (cond (Nat.blt y 42) (cond (Nat.blt y 41) (cond (Nat.beq y 40) (1) 9) (cond (Nat.beq y 41) (1) 9)) (cond (Nat.blt y 43) (cond (Nat.beq y 42) (1) 9) (cond (Nat.beq y 43) (1) 9))))) (cond (Nat.blt y 52) (cond (Nat.blt y 47) (cond (Nat.blt y 45) (cond (Nat.beq y 44) (1) 9) (cond (Nat.blt y 46) (cond (Nat.beq y 45) (1) 9) (cond (Nat.beq y 46) (1) 9))) (cond (Nat.blt y 50) (cond (Nat.blt y 49) (cond (Nat.beq y 47) (1) 9) (cond (Nat.beq y 49) (1) 9)) (cond (Nat.blt y 51) (cond (Nat.beq y 50) (1) 9) (cond (Nat.beq y 51) (1) 9)))) (cond (Nat.blt y 55) (cond (Nat.blt y 53) (cond (Nat.beq y 52) (1) 9) (cond (Nat.blt y 54) (cond (Nat.beq y 53) (1) 9) (cond (Nat.beq y 54) (1) 9))) (cond (Nat.blt y 57) (cond (Nat.blt y 56) (cond (Nat.beq y 55) (1) 9) (cond (Nat.beq y 56) (1) 9)) (cond (Nat.blt y 59) (cond (Nat.beq y 57) (1) 9) (cond (Nat.beq y 59) (1) 9))))))) (cond (Nat.blt y 93) (cond (Nat.blt y 75) (cond (Nat.blt y 67) (cond (Nat.blt y 63) (cond (Nat.blt y 61) (cond (Nat.beq y 60) (2) 9) (cond (Nat.blt y 62) (cond (Nat.beq y 61) (1) 9) (cond (Nat.beq y 62) (1) 9))) (cond (Nat.blt y 65) (cond (Nat.blt y 64) (cond (Nat.beq y 63) (1) 9) (cond (Nat.beq y 64) (1) 9)) (cond (Nat.blt y 66) (cond (Nat.beq y 65) (1) 9) (cond (Nat.beq y 66) (1) 9)))) (cond (Nat.blt y 70) (cond (Nat.blt y 68) (cond (Nat.beq y 67) (1) 9) (cond (Nat.blt y 69) (cond (Nat.beq y 68) (1) 9) (cond (Nat.beq y 69) (1) 9))) (cond (Nat.blt y 72) (cond (Nat.blt y 71) (cond (Nat.beq y 70) (1) 9) (cond (Nat.beq y 71) (1) 9)) (cond (Nat.blt y 73) (cond (Nat.beq y 72) (2) 9) (cond (Nat.beq y 73) (1) 9))))) (cond (Nat.blt y 84) (cond (Nat.blt y 79) (cond (Nat.blt y 76) (cond (Nat.beq y 75) (1) 9) (cond (Nat.blt y 78) (cond (Nat.beq y 76) (1) 9) (cond (Nat.beq y 78) (1) 9))) (cond (Nat.blt y 81) (cond (Nat.blt y 80) (cond (Nat.beq y 79) (1) 9) (cond (Nat.beq y 80) (1) 9)) (cond (Nat.blt y 83) (cond (Nat.beq y 81) (1) 9) (cond (Nat.beq y 83) (1) 9)))) (cond (Nat.blt y 88) (cond (Nat.blt y 86) (cond (Nat.beq y 84) (1) 9) (cond (Nat.blt y 87) (cond (Nat.beq y 86) (1) 9) (cond (Nat.beq y 87) (1) 9))) (cond (Nat.blt y 90) (cond (Nat.blt y 89) (cond (Nat.beq y 88) (1) 9) (cond (Nat.beq y 89) (1) 9)) (cond (Nat.blt y 91) (cond (Nat.beq y 90) (1) 9) (cond (Nat.beq y 91) (1) 9)))))) (cond (Nat.blt y 107) (cond (Nat.blt y 100) (cond (Nat.blt y 96) (cond (Nat.blt y 94) (cond (Nat.beq y 93) (1) 9) (cond (Nat.blt y 95) (cond (Nat.beq y 94) (1) 9) (cond (Nat.beq y 95) (1) 9))) (cond (Nat.blt y 98) (cond (Nat.blt y 97) (cond (Nat.beq y 96) (1) 9) (cond (Nat.beq y 97) (1) 9)) (cond (Nat.blt y 99) (cond (Nat.beq y 98) (1) 9) (cond (Nat.beq y 99) (1) 9)))) (cond (Nat.blt y 103) (cond (Nat.blt y 101) (cond (Nat.beq y 100) (0) 9) (cond (Nat.blt y 102) (cond (Nat.beq y 101) (0) 9) (cond (Nat.beq y 102) (0) 9))) (cond (Nat.blt y 105) (cond (Nat.blt y 104) (cond (Nat.beq y 103) (0) 9) (cond (Nat.beq y 104) (0) 9)) (cond (Nat.blt y 106) (cond (Nat.beq y 105) (0) 9) (cond (Nat.beq y 106) (0) 9))))) (cond (Nat.blt y 221) (cond (Nat.blt y 189) (cond (Nat.blt y 108) (cond (Nat.beq y 107) (0) 9) (cond (Nat.blt y 188) (cond (Nat.beq y 108) (0) 9) (cond (Nat.beq y 188) (0) 9))) (cond (Nat.blt y 219) (cond (Nat.blt y 190) (cond (Nat.beq y 189) (0) 9) (cond (Nat.beq y 190) (0) 9)) (cond (Nat.blt y 220) (cond (Nat.beq y 219) (0) 9) (cond (Nat.beq y 220) (0) 9)))) (cond (Nat.blt y 224) (cond (Nat.blt y 222) (cond (Nat.beq y 221) (0) 9) (cond (Nat.blt y 223) (cond (Nat.beq y 222) (0) 9) (cond (Nat.beq y 223) (0) 9))) (cond (Nat.blt y 226) (cond (Nat.blt y 225) (cond (Nat.beq y 224) (0) 9) (cond (Nat.beq y 225) (0) 9)) (cond (Nat.blt y 242) (cond (Nat.beq y 226) (0) 9) (cond (Nat.beq y 242) (1) 9)))))))
def et_if (cl x : Nat) : Bool := false
def et_wr (y : Nat) : Bool := false
def et_hd (y pc x : Nat) : Option (Nat × Nat) := none
/-- methods that may throw -/
def et_tw (y : Nat) : Bool := cond (Nat.blt y 78) (cond (Nat.blt y 46) (cond (Nat.blt y 40) (cond (Nat.blt y 37) (cond (Nat.blt y 27) (cond (Nat.beq y 26) (true) false) (cond (Nat.blt y 28) (cond (Nat.beq y 27) (true) false) (cond (Nat.beq y 28) (true) false))) (cond (Nat.blt y 38) (cond (Nat.beq y 37) (true) false) (cond (Nat.blt y 39) (cond (Nat.beq y 38) (true) false) (cond (Nat.beq y 39) (true) false)))) (cond (Nat.blt y 43) (cond (Nat.blt y 41) (cond (Nat.beq y 40) (true) false) (cond (Nat.blt y 42) (cond (Nat.beq y 41) (true) false) (cond (Nat.beq y 42) (true) false))) (cond (Nat.blt y 44) (cond (Nat.beq y 43) (true) false) (cond (Nat.blt y 45) (cond (Nat.beq y 44) (true) false) (cond (Nat.beq y 45) (true) false))))) (cond (Nat.blt y 53) (cond (Nat.blt y 50) (cond (Nat.blt y 47) (cond (Nat.beq y 46) (true) false) (cond (Nat.blt y 49) (cond (Nat.beq y 47) (true) false) (cond (Nat.beq y 49) (true) false))) (cond (Nat.blt y 51) (cond (Nat.beq y 50) (true) false) (cond (Nat.blt y 52) (cond (Nat.beq y 51) (true) false) (cond (Nat.beq y 52) (true) false)))) (cond (Nat.blt y 59) (cond (Nat.blt y 54) (cond (Nat.beq y 53) (true) false) (cond (Nat.blt y 55) (cond (Nat.beq y 54) (true) false) (cond (Nat.beq y 55) (true) false))) (cond (Nat.blt y 75) (cond (Nat.blt y 73) (cond (Nat.beq y 59) (true) false) (cond (Nat.beq y 73) (true) false)) (cond (Nat.blt y 76) (cond (Nat.beq y 75) (true) false) (cond (Nat.beq y 76) (true) false)))))) (cond (Nat.blt y 93) (cond (Nat.blt y 86) (cond (Nat.blt y 81) (cond (Nat.blt y 79) (cond (Nat.beq y 78) (true) false) (cond (Nat.blt y 80) (cond (Nat.beq y 79) (true) false) (cond (Nat.beq y 80) (true) false))) (cond (Nat.blt y 83) (cond (Nat.beq y 81) (true) false) (cond (Nat.blt y 84) (cond (Nat.beq y 83) (true) false) (cond (Nat.beq y 84) (true) false)))) (cond (Nat.blt y 89) (cond (Nat.blt y 87) (cond (Nat.beq y 86) (true) false) (cond (Nat.blt y 88) (cond (Nat.beq y 87) (true) false) (cond (Nat.beq y 88) (true) false))) (cond (Nat.blt y 90) (cond (Nat.beq y 89) (true) false) (cond (Nat.blt y 91) (cond (Nat.beq y 90) (true) false) (cond (Nat.beq y 91) (true) false))))) (cond (Nat.blt y 99) (cond (Nat.blt y 96) (cond (Nat.blt y 94) (cond (Nat.beq y 93) (true) false) (cond (Nat.blt y 95) (cond (Nat.beq y 94) (true) false) (cond (Nat.beq y 95) (true) false))) (cond (Nat.blt y 97) (cond (Nat.beq y 96) (true) false) (cond (Nat.blt y 98) (cond (Nat.beq y 97) (true) false) (cond (Nat.beq y 98) (true) false)))) (cond (Nat.blt y 223) (cond (Nat.blt y 105) (cond (Nat.beq y 99) (true) false) (cond (Nat.blt y 106) (cond (Nat.beq y 105) (true) false) (cond (Nat.beq y 106) (true) false))) (cond (Nat.blt y 225) (cond (Nat.blt y 224) (cond (Nat.beq y 223) (true) false) (cond (Nat.beq y 224) (true) false)) (cond (Nat.blt y 226) (cond (Nat.beq y 225) (true) false) (cond (Nat.beq y 226) (true) false))))))
/-- the kind of what a place of the program makes -/
def et_si (y pc : Nat) : Nat := cond (Nat.blt y 36) (cond (Nat.blt y 19) (cond (Nat.blt y 13) (cond (Nat.beq y 0) (cond (Nat.beq pc 5) (8) 0) 0) (cond (Nat.beq y 13) (cond (Nat.blt pc 15) (cond (Nat.beq pc 7) (209) 0) (cond (Nat.beq pc 15) (241) 0)) 0)) (cond (Nat.blt y 25) (cond (Nat.beq y 19) (cond (Nat.blt pc 15) (cond (Nat.beq pc 7) (81) 0) (cond (Nat.blt pc 22) (cond (Nat.beq pc 15) (113) 0) (cond (Nat.beq pc 22) (18) 0))) 0) (cond (Nat.blt y 29) (cond (Nat.beq y 25) (cond (Nat.blt pc 28) (cond (Nat.beq pc 6) (23) 0) (cond (Nat.beq pc 28) (6) 0)) 0) (cond (Nat.beq y 29) (cond (Nat.beq pc 7) (145) 0) 0)))) (cond (Nat.blt y 72) (cond (Nat.blt y 60) (cond (Nat.beq y 36) (cond (Nat.blt pc 45) (cond (Nat.blt pc 15) (cond (Nat.beq pc 7) (22) 0) (cond (Nat.blt pc 23) (cond (Nat.beq pc 15) (21) 0) (cond (Nat.beq pc 23) (24) 0))) (cond (Nat.blt pc 75) (cond (Nat.beq pc 45) (4) 0) (cond (Nat.blt pc 105) (cond (Nat.beq pc 75) (3) 0) (cond (Nat.beq pc 105) (10) 0)))) 0) (cond (Nat.beq y 60) (cond (Nat.blt pc 17) (cond (Nat.beq pc 5) (40) 0) (cond (Nat.beq pc 17) (177) 0)) 0)) (cond (Nat.blt y 224) (cond (Nat.beq y 72) (cond (Nat.blt pc 27) (cond (Nat.blt pc 16) (cond (Nat.beq pc 5) (7) 0) (cond (Nat.beq pc 16) (9) 0)) (cond (Nat.blt pc 38) (cond (Nat.beq pc 27) (9) 0) (cond (Nat.beq pc 38) (5) 0))) 0) (cond (Nat.blt y 242) (cond (Nat.beq y 224) (cond (Nat.blt pc 29) (cond (Nat.blt pc 6) (cond (Nat.beq pc 1) (244) 0) (cond (Nat.beq pc 6) (625) 0)) (cond (Nat.blt pc 52) (cond (Nat.beq pc 29) (657) 0) (cond (Nat.blt pc 88) (cond (Nat.beq pc 52) (689) 0) (cond (Nat.beq pc 88) (721) 0)))) 0) (cond (Nat.beq y 242) (cond (Nat.beq pc 0) (11) 0) 0))))
end
section
/-! Names of classes and methods by number. -/
def ew_on (c : Nat) : String := cond (Nat.blt c 9) (cond (Nat.blt c 4) (cond (Nat.blt c 2) (cond (Nat.blt c 1) (cond (Nat.beq c 0) (RX0) "") (cond (Nat.beq c 1) (RX0) "")) (cond (Nat.blt c 3) (cond (Nat.beq c 2) (RX0) "") (cond (Nat.beq c 3) (RX0) ""))) (cond (Nat.blt c 6) (cond (Nat.blt c 5) (cond (Nat.beq c 4) (RX1) "") (cond (Nat.beq c 5) (RX2) "")) (cond (Nat.blt c 7) (cond (Nat.beq c 6) (RX3) "") (cond (Nat.blt c 8) (cond (Nat.beq c 7) (RX4) "") (cond (Nat.beq c 8) (RX5) ""))))) (cond (Nat.blt c 14) (cond (Nat.blt c 11) (cond (Nat.blt c 10) (cond (Nat.beq c 9) (RX6) "") (cond (Nat.beq c 10) (RX7) "")) (cond (Nat.blt c 12) (cond (Nat.beq c 11) (RX8) "") (cond (Nat.blt c 13) (cond (Nat.beq c 12) (RX0) "") (cond (Nat.beq c 13) (RX0) "")))) (cond (Nat.blt c 16) (cond (Nat.blt c 15) (cond (Nat.beq c 14) (RX0) "") (cond (Nat.beq c 15) (RX0) "")) (cond (Nat.blt c 40) (cond (Nat.beq c 16) (RX0) "") (cond (Nat.blt c 43) (cond (Nat.beq c 40) (RL) "") (cond (Nat.beq c 43) (RJ9) "")))))
def ew_nm (y : Nat) : MethodName := cond (Nat.blt y 60) (cond (Nat.blt y 30) (cond (Nat.blt y 15) (cond (Nat.blt y 8) (cond (Nat.blt y 3) (cond (Nat.blt y 1) (cond (Nat.beq y 0) (yX0_init) ⟨"", "", ""⟩) (cond (Nat.blt y 2) (cond (Nat.beq y 1) (yX0_enter) ⟨"", "", ""⟩) (cond (Nat.beq y 2) (yX0_copyFrom) ⟨"", "", ""⟩))) (cond (Nat.blt y 5) (cond (Nat.blt y 4) (cond (Nat.beq y 3) (yX1_init) ⟨"", "", ""⟩) (cond (Nat.beq y 4) (yX1_worth) ⟨"", "", ""⟩)) (cond (Nat.blt y 6) (cond (Nat.beq y 5) (yX1_worthInChannel) ⟨"", "", ""⟩) (cond (Nat.beq y 6) (yX1_worthUnbroken) ⟨"", "", ""⟩)))) (cond (Nat.blt y 11) (cond (Nat.blt y 9) (cond (Nat.beq y 8) (yX1_giveTenthTo) ⟨"", "", ""⟩) (cond (Nat.blt y 10) (cond (Nat.beq y 9) (yX1_settleDrift) ⟨"", "", ""⟩) (cond (Nat.beq y 10) (yX1_freeze) ⟨"", "", ""⟩))) (cond (Nat.blt y 13) (cond (Nat.blt y 12) (cond (Nat.beq y 11) (yX1_closeChannel) ⟨"", "", ""⟩) (cond (Nat.beq y 12) (yX1_copyFrom) ⟨"", "", ""⟩)) (cond (Nat.blt y 14) (cond (Nat.beq y 13) (yX2_init) ⟨"", "", ""⟩) (cond (Nat.beq y 14) (yX2_setPrice) ⟨"", "", ""⟩))))) (cond (Nat.blt y 23) (cond (Nat.blt y 18) (cond (Nat.blt y 16) (cond (Nat.beq y 15) (yX2_cheapest) ⟨"", "", ""⟩) (cond (Nat.blt y 17) (cond (Nat.beq y 16) (yX2_relax) ⟨"", "", ""⟩) (cond (Nat.beq y 17) (yX2_cheapestNeighbour) ⟨"", "", ""⟩))) (cond (Nat.blt y 20) (cond (Nat.blt y 19) (cond (Nat.beq y 18) (yX2_costAt) ⟨"", "", ""⟩) (cond (Nat.beq y 19) (yX3_init) ⟨"", "", ""⟩)) (cond (Nat.blt y 21) (cond (Nat.beq y 20) (yX3_addRule) ⟨"", "", ""⟩) (cond (Nat.beq y 21) (yX3_leastAt) ⟨"", "", ""⟩)))) (cond (Nat.blt y 26) (cond (Nat.blt y 24) (cond (Nat.beq y 23) (yX3_isExempt) ⟨"", "", ""⟩) (cond (Nat.blt y 25) (cond (Nat.beq y 24) (yX3_letsIn) ⟨"", "", ""⟩) (cond (Nat.beq y 25) (yX4_init) ⟨"", "", ""⟩))) (cond (Nat.blt y 28) (cond (Nat.blt y 27) (cond (Nat.beq y 26) (yX4_portAt) ⟨"", "", ""⟩) (cond (Nat.beq y 27) (yX4_found) ⟨"", "", ""⟩)) (cond (Nat.blt y 29) (cond (Nat.beq y 28) (yX4_isPort) ⟨"", "", ""⟩) (cond (Nat.beq y 29) (yX5_init) ⟨"", "", ""⟩)))))) (cond (Nat.blt y 44) (cond (Nat.blt y 37) (cond (Nat.blt y 33) (cond (Nat.blt y 31) (cond (Nat.beq y 30) (yX5_isFull) ⟨"", "", ""⟩) (cond (Nat.blt y 32) (cond (Nat.beq y 31) (yX5_add) ⟨"", "", ""⟩) (cond (Nat.beq y 32) (yX5_first) ⟨"", "", ""⟩))) (cond (Nat.blt y 35) (cond (Nat.blt y 34) (cond (Nat.beq y 33) (yX5_takeFirst) ⟨"", "", ""⟩) (cond (Nat.beq y 34) (yX5_drop) ⟨"", "", ""⟩)) (cond (Nat.blt y 36) (cond (Nat.beq y 35) (yX5_copyFrom) ⟨"", "", ""⟩) (cond (Nat.beq y 36) (yX6_init) ⟨"", "", ""⟩)))) (cond (Nat.blt y 40) (cond (Nat.blt y 38) (cond (Nat.beq y 37) (yX6_cellAt) ⟨"", "", ""⟩) (cond (Nat.blt y 39) (cond (Nat.beq y 38) (yX6_breakerAt) ⟨"", "", ""⟩) (cond (Nat.beq y 39) (yX6_shipAt) ⟨"", "", ""⟩))) (cond (Nat.blt y 42) (cond (Nat.blt y 41) (cond (Nat.beq y 40) (yX6_addBreaker) ⟨"", "", ""⟩) (cond (Nat.beq y 41) (yX6_addShip) ⟨"", "", ""⟩)) (cond (Nat.blt y 43) (cond (Nat.beq y 42) (yX6_passHour) ⟨"", "", ""⟩) (cond (Nat.beq y 43) (yX6_drift) ⟨"", "", ""⟩))))) (cond (Nat.blt y 52) (cond (Nat.blt y 47) (cond (Nat.blt y 45) (cond (Nat.beq y 44) (yX6_moveBreaker) ⟨"", "", ""⟩) (cond (Nat.blt y 46) (cond (Nat.beq y 45) (yX6_moveShip) ⟨"", "", ""⟩) (cond (Nat.beq y 46) (yX6_goFree) ⟨"", "", ""⟩))) (cond (Nat.blt y 50) (cond (Nat.blt y 49) (cond (Nat.beq y 47) (yX6_goBound) ⟨"", "", ""⟩) (cond (Nat.beq y 49) (yX6_countShipsIn) ⟨"", "", ""⟩)) (cond (Nat.blt y 51) (cond (Nat.beq y 50) (yX6_countLed) ⟨"", "", ""⟩) (cond (Nat.beq y 51) (yX6_towedBy) ⟨"", "", ""⟩)))) (cond (Nat.blt y 55) (cond (Nat.blt y 53) (cond (Nat.beq y 52) (yX6_countArrived) ⟨"", "", ""⟩) (cond (Nat.blt y 54) (cond (Nat.beq y 53) (yX6_allWaits) ⟨"", "", ""⟩) (cond (Nat.beq y 54) (yX6_allDues) ⟨"", "", ""⟩))) (cond (Nat.blt y 57) (cond (Nat.blt y 56) (cond (Nat.beq y 55) (yX6_allDamage) ⟨"", "", ""⟩) (cond (Nat.beq y 56) (yX6_allIce) ⟨"", "", ""⟩)) (cond (Nat.blt y 59) (cond (Nat.beq y 57) (yX6_countChannels) ⟨"", "", ""⟩) (cond (Nat.beq y 59) (yX6_copyFrom) ⟨"", "", ""⟩))))))) (cond (Nat.blt y 93) (cond (Nat.blt y 75) (cond (Nat.blt y 67) (cond (Nat.blt y 63) (cond (Nat.blt y 61) (cond (Nat.beq y 60) (yX7_init) ⟨"", "", ""⟩) (cond (Nat.blt y 62) (cond (Nat.beq y 61) (yX7_setClass) ⟨"", "", ""⟩) (cond (Nat.beq y 62) (yX7_hindrance) ⟨"", "", ""⟩))) (cond (Nat.blt y 65) (cond (Nat.blt y 64) (cond (Nat.beq y 63) (yX7_isBound) ⟨"", "", ""⟩) (cond (Nat.beq y 64) (yX7_bind) ⟨"", "", ""⟩)) (cond (Nat.blt y 66) (cond (Nat.beq y 65) (yX7_setFree) ⟨"", "", ""⟩) (cond (Nat.beq y 66) (yX7_follow) ⟨"", "", ""⟩)))) (cond (Nat.blt y 70) (cond (Nat.blt y 68) (cond (Nat.beq y 67) (yX7_arrive) ⟨"", "", ""⟩) (cond (Nat.blt y 69) (cond (Nat.beq y 68) (yX7_countWait) ⟨"", "", ""⟩) (cond (Nat.beq y 69) (yX7_waitsBy) ⟨"", "", ""⟩))) (cond (Nat.blt y 72) (cond (Nat.blt y 71) (cond (Nat.beq y 70) (yX7_allWaits) ⟨"", "", ""⟩) (cond (Nat.beq y 71) (yX7_copyFrom) ⟨"", "", ""⟩)) (cond (Nat.blt y 73) (cond (Nat.beq y 72) (yX8_init) ⟨"", "", ""⟩) (cond (Nat.beq y 73) (yX8_ice) ⟨"", "", ""⟩))))) (cond (Nat.blt y 84) (cond (Nat.blt y 79) (cond (Nat.blt y 76) (cond (Nat.beq y 75) (yX8_port) ⟨"", "", ""⟩) (cond (Nat.blt y 78) (cond (Nat.beq y 76) (yX8_rule) ⟨"", "", ""⟩) (cond (Nat.beq y 78) (yX8_breaker) ⟨"", "", ""⟩))) (cond (Nat.blt y 81) (cond (Nat.blt y 80) (cond (Nat.beq y 79) (yX8_ship) ⟨"", "", ""⟩) (cond (Nat.beq y 80) (yX8_steer) ⟨"", "", ""⟩)) (cond (Nat.blt y 83) (cond (Nat.beq y 81) (yX8_sail) ⟨"", "", ""⟩) (cond (Nat.beq y 83) (yX8_lead) ⟨"", "", ""⟩)))) (cond (Nat.blt y 88) (cond (Nat.blt y 86) (cond (Nat.beq y 84) (yX8_tow) ⟨"", "", ""⟩) (cond (Nat.blt y 87) (cond (Nat.beq y 86) (yX8_pass) ⟨"", "", ""⟩) (cond (Nat.beq y 87) (yX8_ofCell) ⟨"", "", ""⟩))) (cond (Nat.blt y 90) (cond (Nat.blt y 89) (cond (Nat.beq y 88) (yX8_ofBreaker) ⟨"", "", ""⟩) (cond (Nat.beq y 89) (yX8_ofShip) ⟨"", "", ""⟩)) (cond (Nat.blt y 91) (cond (Nat.beq y 90) (yX8_inForce) ⟨"", "", ""⟩) (cond (Nat.beq y 91) (yX8_many) ⟨"", "", ""⟩)))))) (cond (Nat.blt y 107) (cond (Nat.blt y 100) (cond (Nat.blt y 96) (cond (Nat.blt y 94) (cond (Nat.beq y 93) (yX8_way) ⟨"", "", ""⟩) (cond (Nat.blt y 95) (cond (Nat.beq y 94) (yX8_toBreak) ⟨"", "", ""⟩) (cond (Nat.beq y 95) (yX8_helpNext) ⟨"", "", ""⟩))) (cond (Nat.blt y 98) (cond (Nat.blt y 97) (cond (Nat.beq y 96) (yX8_arriveIn) ⟨"", "", ""⟩) (cond (Nat.beq y 97) (yX8_digest) ⟨"", "", ""⟩)) (cond (Nat.blt y 99) (cond (Nat.beq y 98) (yX8_portCellOf) ⟨"", "", ""⟩) (cond (Nat.beq y 99) (yX8_channelsNeeded) ⟨"", "", ""⟩)))) (cond (Nat.blt y 103) (cond (Nat.blt y 101) (cond (Nat.beq y 100) (yX8_breakingPrice) ⟨"", "", ""⟩) (cond (Nat.blt y 102) (cond (Nat.beq y 101) (yX8_canEnter) ⟨"", "", ""⟩) (cond (Nat.beq y 102) (yX8_canTake) ⟨"", "", ""⟩))) (cond (Nat.blt y 105) (cond (Nat.blt y 104) (cond (Nat.beq y 103) (yX8_isWeather) ⟨"", "", ""⟩) (cond (Nat.beq y 104) (yX8_within) ⟨"", "", ""⟩)) (cond (Nat.blt y 106) (cond (Nat.beq y 105) (yX8_demandArgument) ⟨"", "", ""⟩) (cond (Nat.beq y 106) (yX8_demandState) ⟨"", "", ""⟩))))) (cond (Nat.blt y 221) (cond (Nat.blt y 189) (cond (Nat.blt y 108) (cond (Nat.beq y 107) (yX8_neighbour) ⟨"", "", ""⟩) (cond (Nat.blt y 188) (cond (Nat.beq y 108) (yX8_distance) ⟨"", "", ""⟩) (cond (Nat.beq y 188) (yJ9_abs_0f7a4) ⟨"", "", ""⟩))) (cond (Nat.blt y 219) (cond (Nat.blt y 190) (cond (Nat.beq y 189) (yJ9_max_7cf53) ⟨"", "", ""⟩) (cond (Nat.beq y 190) (yJ9_min_7cf53) ⟨"", "", ""⟩)) (cond (Nat.blt y 220) (cond (Nat.beq y 219) (yL_below) ⟨"", "", ""⟩) (cond (Nat.beq y 220) (yL_cell) ⟨"", "", ""⟩)))) (cond (Nat.blt y 224) (cond (Nat.blt y 222) (cond (Nat.beq y 221) (yL_isBeside) ⟨"", "", ""⟩) (cond (Nat.blt y 223) (cond (Nat.beq y 222) (yL_next) ⟨"", "", ""⟩) (cond (Nat.beq y 223) (yL_waits) ⟨"", "", ""⟩))) (cond (Nat.blt y 226) (cond (Nat.blt y 225) (cond (Nat.beq y 224) (yL_isPassed) ⟨"", "", ""⟩) (cond (Nat.beq y 225) (yL_isAhead) ⟨"", "", ""⟩)) (cond (Nat.blt y 242) (cond (Nat.beq y 226) (yL_isSound) ⟨"", "", ""⟩) (cond (Nat.beq y 242) (yL_law) ⟨"", "", ""⟩)))))))
def ew_cd (y : Nat) : ByteArray := cond (Nat.blt y 60) (cond (Nat.blt y 30) (cond (Nat.blt y 15) (cond (Nat.blt y 8) (cond (Nat.blt y 3) (cond (Nat.blt y 1) (cond (Nat.beq y 0) (cX0_init) ByteArray.empty) (cond (Nat.blt y 2) (cond (Nat.beq y 1) (cX0_enter) ByteArray.empty) (cond (Nat.beq y 2) (cX0_copyFrom) ByteArray.empty))) (cond (Nat.blt y 5) (cond (Nat.blt y 4) (cond (Nat.beq y 3) (cX1_init) ByteArray.empty) (cond (Nat.beq y 4) (cX1_worth) ByteArray.empty)) (cond (Nat.blt y 6) (cond (Nat.beq y 5) (cX1_worthInChannel) ByteArray.empty) (cond (Nat.beq y 6) (cX1_worthUnbroken) ByteArray.empty)))) (cond (Nat.blt y 11) (cond (Nat.blt y 9) (cond (Nat.beq y 8) (cX1_giveTenthTo) ByteArray.empty) (cond (Nat.blt y 10) (cond (Nat.beq y 9) (cX1_settleDrift) ByteArray.empty) (cond (Nat.beq y 10) (cX1_freeze) ByteArray.empty))) (cond (Nat.blt y 13) (cond (Nat.blt y 12) (cond (Nat.beq y 11) (cX1_closeChannel) ByteArray.empty) (cond (Nat.beq y 12) (cX1_copyFrom) ByteArray.empty)) (cond (Nat.blt y 14) (cond (Nat.beq y 13) (cX2_init) ByteArray.empty) (cond (Nat.beq y 14) (cX2_setPrice) ByteArray.empty))))) (cond (Nat.blt y 23) (cond (Nat.blt y 18) (cond (Nat.blt y 16) (cond (Nat.beq y 15) (cX2_cheapest) ByteArray.empty) (cond (Nat.blt y 17) (cond (Nat.beq y 16) (cX2_relax) ByteArray.empty) (cond (Nat.beq y 17) (cX2_cheapestNeighbour) ByteArray.empty))) (cond (Nat.blt y 20) (cond (Nat.blt y 19) (cond (Nat.beq y 18) (cX2_costAt) ByteArray.empty) (cond (Nat.beq y 19) (cX3_init) ByteArray.empty)) (cond (Nat.blt y 21) (cond (Nat.beq y 20) (cX3_addRule) ByteArray.empty) (cond (Nat.beq y 21) (cX3_leastAt) ByteArray.empty)))) (cond (Nat.blt y 26) (cond (Nat.blt y 24) (cond (Nat.beq y 23) (cX3_isExempt) ByteArray.empty) (cond (Nat.blt y 25) (cond (Nat.beq y 24) (cX3_letsIn) ByteArray.empty) (cond (Nat.beq y 25) (cX4_init) ByteArray.empty))) (cond (Nat.blt y 28) (cond (Nat.blt y 27) (cond (Nat.beq y 26) (cX4_portAt) ByteArray.empty) (cond (Nat.beq y 27) (cX4_found) ByteArray.empty)) (cond (Nat.blt y 29) (cond (Nat.beq y 28) (cX4_isPort) ByteArray.empty) (cond (Nat.beq y 29) (cX5_init) ByteArray.empty)))))) (cond (Nat.blt y 44) (cond (Nat.blt y 37) (cond (Nat.blt y 33) (cond (Nat.blt y 31) (cond (Nat.beq y 30) (cX5_isFull) ByteArray.empty) (cond (Nat.blt y 32) (cond (Nat.beq y 31) (cX5_add) ByteArray.empty) (cond (Nat.beq y 32) (cX5_first) ByteArray.empty))) (cond (Nat.blt y 35) (cond (Nat.blt y 34) (cond (Nat.beq y 33) (cX5_takeFirst) ByteArray.empty) (cond (Nat.beq y 34) (cX5_drop) ByteArray.empty)) (cond (Nat.blt y 36) (cond (Nat.beq y 35) (cX5_copyFrom) ByteArray.empty) (cond (Nat.beq y 36) (cX6_init) ByteArray.empty)))) (cond (Nat.blt y 40) (cond (Nat.blt y 38) (cond (Nat.beq y 37) (cX6_cellAt) ByteArray.empty) (cond (Nat.blt y 39) (cond (Nat.beq y 38) (cX6_breakerAt) ByteArray.empty) (cond (Nat.beq y 39) (cX6_shipAt) ByteArray.empty))) (cond (Nat.blt y 42) (cond (Nat.blt y 41) (cond (Nat.beq y 40) (cX6_addBreaker) ByteArray.empty) (cond (Nat.beq y 41) (cX6_addShip) ByteArray.empty)) (cond (Nat.blt y 43) (cond (Nat.beq y 42) (cX6_passHour) ByteArray.empty) (cond (Nat.beq y 43) (cX6_drift) ByteArray.empty))))) (cond (Nat.blt y 52) (cond (Nat.blt y 47) (cond (Nat.blt y 45) (cond (Nat.beq y 44) (cX6_moveBreaker) ByteArray.empty) (cond (Nat.blt y 46) (cond (Nat.beq y 45) (cX6_moveShip) ByteArray.empty) (cond (Nat.beq y 46) (cX6_goFree) ByteArray.empty))) (cond (Nat.blt y 50) (cond (Nat.blt y 49) (cond (Nat.beq y 47) (cX6_goBound) ByteArray.empty) (cond (Nat.beq y 49) (cX6_countShipsIn) ByteArray.empty)) (cond (Nat.blt y 51) (cond (Nat.beq y 50) (cX6_countLed) ByteArray.empty) (cond (Nat.beq y 51) (cX6_towedBy) ByteArray.empty)))) (cond (Nat.blt y 55) (cond (Nat.blt y 53) (cond (Nat.beq y 52) (cX6_countArrived) ByteArray.empty) (cond (Nat.blt y 54) (cond (Nat.beq y 53) (cX6_allWaits) ByteArray.empty) (cond (Nat.beq y 54) (cX6_allDues) ByteArray.empty))) (cond (Nat.blt y 57) (cond (Nat.blt y 56) (cond (Nat.beq y 55) (cX6_allDamage) ByteArray.empty) (cond (Nat.beq y 56) (cX6_allIce) ByteArray.empty)) (cond (Nat.blt y 59) (cond (Nat.beq y 57) (cX6_countChannels) ByteArray.empty) (cond (Nat.beq y 59) (cX6_copyFrom) ByteArray.empty))))))) (cond (Nat.blt y 93) (cond (Nat.blt y 75) (cond (Nat.blt y 67) (cond (Nat.blt y 63) (cond (Nat.blt y 61) (cond (Nat.beq y 60) (cX7_init) ByteArray.empty) (cond (Nat.blt y 62) (cond (Nat.beq y 61) (cX7_setClass) ByteArray.empty) (cond (Nat.beq y 62) (cX7_hindrance) ByteArray.empty))) (cond (Nat.blt y 65) (cond (Nat.blt y 64) (cond (Nat.beq y 63) (cX7_isBound) ByteArray.empty) (cond (Nat.beq y 64) (cX7_bind) ByteArray.empty)) (cond (Nat.blt y 66) (cond (Nat.beq y 65) (cX7_setFree) ByteArray.empty) (cond (Nat.beq y 66) (cX7_follow) ByteArray.empty)))) (cond (Nat.blt y 70) (cond (Nat.blt y 68) (cond (Nat.beq y 67) (cX7_arrive) ByteArray.empty) (cond (Nat.blt y 69) (cond (Nat.beq y 68) (cX7_countWait) ByteArray.empty) (cond (Nat.beq y 69) (cX7_waitsBy) ByteArray.empty))) (cond (Nat.blt y 72) (cond (Nat.blt y 71) (cond (Nat.beq y 70) (cX7_allWaits) ByteArray.empty) (cond (Nat.beq y 71) (cX7_copyFrom) ByteArray.empty)) (cond (Nat.blt y 73) (cond (Nat.beq y 72) (cX8_init) ByteArray.empty) (cond (Nat.beq y 73) (cX8_ice) ByteArray.empty))))) (cond (Nat.blt y 84) (cond (Nat.blt y 79) (cond (Nat.blt y 76) (cond (Nat.beq y 75) (cX8_port) ByteArray.empty) (cond (Nat.blt y 78) (cond (Nat.beq y 76) (cX8_rule) ByteArray.empty) (cond (Nat.beq y 78) (cX8_breaker) ByteArray.empty))) (cond (Nat.blt y 81) (cond (Nat.blt y 80) (cond (Nat.beq y 79) (cX8_ship) ByteArray.empty) (cond (Nat.beq y 80) (cX8_steer) ByteArray.empty)) (cond (Nat.blt y 83) (cond (Nat.beq y 81) (cX8_sail) ByteArray.empty) (cond (Nat.beq y 83) (cX8_lead) ByteArray.empty)))) (cond (Nat.blt y 88) (cond (Nat.blt y 86) (cond (Nat.beq y 84) (cX8_tow) ByteArray.empty) (cond (Nat.blt y 87) (cond (Nat.beq y 86) (cX8_pass) ByteArray.empty) (cond (Nat.beq y 87) (cX8_ofCell) ByteArray.empty))) (cond (Nat.blt y 90) (cond (Nat.blt y 89) (cond (Nat.beq y 88) (cX8_ofBreaker) ByteArray.empty) (cond (Nat.beq y 89) (cX8_ofShip) ByteArray.empty)) (cond (Nat.blt y 91) (cond (Nat.beq y 90) (cX8_inForce) ByteArray.empty) (cond (Nat.beq y 91) (cX8_many) ByteArray.empty)))))) (cond (Nat.blt y 107) (cond (Nat.blt y 100) (cond (Nat.blt y 96) (cond (Nat.blt y 94) (cond (Nat.beq y 93) (cX8_way) ByteArray.empty) (cond (Nat.blt y 95) (cond (Nat.beq y 94) (cX8_toBreak) ByteArray.empty) (cond (Nat.beq y 95) (cX8_helpNext) ByteArray.empty))) (cond (Nat.blt y 98) (cond (Nat.blt y 97) (cond (Nat.beq y 96) (cX8_arriveIn) ByteArray.empty) (cond (Nat.beq y 97) (cX8_digest) ByteArray.empty)) (cond (Nat.blt y 99) (cond (Nat.beq y 98) (cX8_portCellOf) ByteArray.empty) (cond (Nat.beq y 99) (cX8_channelsNeeded) ByteArray.empty)))) (cond (Nat.blt y 103) (cond (Nat.blt y 101) (cond (Nat.beq y 100) (cX8_breakingPrice) ByteArray.empty) (cond (Nat.blt y 102) (cond (Nat.beq y 101) (cX8_canEnter) ByteArray.empty) (cond (Nat.beq y 102) (cX8_canTake) ByteArray.empty))) (cond (Nat.blt y 105) (cond (Nat.blt y 104) (cond (Nat.beq y 103) (cX8_isWeather) ByteArray.empty) (cond (Nat.beq y 104) (cX8_within) ByteArray.empty)) (cond (Nat.blt y 106) (cond (Nat.beq y 105) (cX8_demandArgument) ByteArray.empty) (cond (Nat.beq y 106) (cX8_demandState) ByteArray.empty))))) (cond (Nat.blt y 221) (cond (Nat.blt y 189) (cond (Nat.blt y 108) (cond (Nat.beq y 107) (cX8_neighbour) ByteArray.empty) (cond (Nat.blt y 188) (cond (Nat.beq y 108) (cX8_distance) ByteArray.empty) (cond (Nat.beq y 188) (cJ9_abs_0f7a4) ByteArray.empty))) (cond (Nat.blt y 219) (cond (Nat.blt y 190) (cond (Nat.beq y 189) (cJ9_max_7cf53) ByteArray.empty) (cond (Nat.beq y 190) (cJ9_min_7cf53) ByteArray.empty)) (cond (Nat.blt y 220) (cond (Nat.beq y 219) (cL_below) ByteArray.empty) (cond (Nat.beq y 220) (cL_cell) ByteArray.empty)))) (cond (Nat.blt y 224) (cond (Nat.blt y 222) (cond (Nat.beq y 221) (cL_isBeside) ByteArray.empty) (cond (Nat.blt y 223) (cond (Nat.beq y 222) (cL_next) ByteArray.empty) (cond (Nat.beq y 223) (cL_waits) ByteArray.empty))) (cond (Nat.blt y 226) (cond (Nat.blt y 225) (cond (Nat.beq y 224) (cL_isPassed) ByteArray.empty) (cond (Nat.beq y 225) (cL_isAhead) ByteArray.empty)) (cond (Nat.blt y 242) (cond (Nat.beq y 226) (cL_isSound) ByteArray.empty) (cond (Nat.beq y 242) (cL_law) ByteArray.empty)))))))
def ew_rt (y : Nat) : Option FieldType := cond (Nat.blt y 60) (cond (Nat.blt y 30) (cond (Nat.blt y 15) (cond (Nat.blt y 8) (cond (Nat.blt y 3) (cond (Nat.blt y 1) (cond (Nat.beq y 0) (none) none) (cond (Nat.blt y 2) (cond (Nat.beq y 1) (none) none) (cond (Nat.beq y 2) (none) none))) (cond (Nat.blt y 5) (cond (Nat.blt y 4) (cond (Nat.beq y 3) (none) none) (cond (Nat.beq y 4) (some .int) none)) (cond (Nat.blt y 6) (cond (Nat.beq y 5) (some .int) none) (cond (Nat.beq y 6) (some .int) none)))) (cond (Nat.blt y 11) (cond (Nat.blt y 9) (cond (Nat.beq y 8) (none) none) (cond (Nat.blt y 10) (cond (Nat.beq y 9) (none) none) (cond (Nat.beq y 10) (some .int) none))) (cond (Nat.blt y 13) (cond (Nat.blt y 12) (cond (Nat.beq y 11) (none) none) (cond (Nat.beq y 12) (none) none)) (cond (Nat.blt y 14) (cond (Nat.beq y 13) (none) none) (cond (Nat.beq y 14) (none) none))))) (cond (Nat.blt y 23) (cond (Nat.blt y 18) (cond (Nat.blt y 16) (cond (Nat.beq y 15) (some .int) none) (cond (Nat.blt y 17) (cond (Nat.beq y 16) (some .boolean) none) (cond (Nat.beq y 17) (some .int) none))) (cond (Nat.blt y 20) (cond (Nat.blt y 19) (cond (Nat.beq y 18) (some .int) none) (cond (Nat.beq y 19) (none) none)) (cond (Nat.blt y 21) (cond (Nat.beq y 20) (none) none) (cond (Nat.beq y 21) (some .int) none)))) (cond (Nat.blt y 26) (cond (Nat.blt y 24) (cond (Nat.beq y 23) (some .boolean) none) (cond (Nat.blt y 25) (cond (Nat.beq y 24) (some .boolean) none) (cond (Nat.beq y 25) (none) none))) (cond (Nat.blt y 28) (cond (Nat.blt y 27) (cond (Nat.beq y 26) (some (.object "ChannelWinter$Port")) none) (cond (Nat.beq y 27) (some .int) none)) (cond (Nat.blt y 29) (cond (Nat.beq y 28) (some .boolean) none) (cond (Nat.beq y 29) (none) none)))))) (cond (Nat.blt y 44) (cond (Nat.blt y 37) (cond (Nat.blt y 33) (cond (Nat.blt y 31) (cond (Nat.beq y 30) (some .boolean) none) (cond (Nat.blt y 32) (cond (Nat.beq y 31) (some .int) none) (cond (Nat.beq y 32) (some .int) none))) (cond (Nat.blt y 35) (cond (Nat.blt y 34) (cond (Nat.beq y 33) (none) none) (cond (Nat.beq y 34) (some .int) none)) (cond (Nat.blt y 36) (cond (Nat.beq y 35) (none) none) (cond (Nat.beq y 36) (none) none)))) (cond (Nat.blt y 40) (cond (Nat.blt y 38) (cond (Nat.beq y 37) (some (.object "ChannelWinter$Cell")) none) (cond (Nat.blt y 39) (cond (Nat.beq y 38) (some (.object "ChannelWinter$Breaker")) none) (cond (Nat.beq y 39) (some (.object "ChannelWinter$Ship")) none))) (cond (Nat.blt y 42) (cond (Nat.blt y 41) (cond (Nat.beq y 40) (some .int) none) (cond (Nat.beq y 41) (some .int) none)) (cond (Nat.blt y 43) (cond (Nat.beq y 42) (some .int) none) (cond (Nat.beq y 43) (none) none))))) (cond (Nat.blt y 52) (cond (Nat.blt y 47) (cond (Nat.blt y 45) (cond (Nat.beq y 44) (none) none) (cond (Nat.blt y 46) (cond (Nat.beq y 45) (some .boolean) none) (cond (Nat.beq y 46) (some .int) none))) (cond (Nat.blt y 50) (cond (Nat.blt y 49) (cond (Nat.beq y 47) (some .int) none) (cond (Nat.beq y 49) (some .int) none)) (cond (Nat.blt y 51) (cond (Nat.beq y 50) (some .int) none) (cond (Nat.beq y 51) (some .int) none)))) (cond (Nat.blt y 55) (cond (Nat.blt y 53) (cond (Nat.beq y 52) (some .int) none) (cond (Nat.blt y 54) (cond (Nat.beq y 53) (some .int) none) (cond (Nat.beq y 54) (some .int) none))) (cond (Nat.blt y 57) (cond (Nat.blt y 56) (cond (Nat.beq y 55) (some .int) none) (cond (Nat.beq y 56) (some .int) none)) (cond (Nat.blt y 59) (cond (Nat.beq y 57) (some .int) none) (cond (Nat.beq y 59) (none) none))))))) (cond (Nat.blt y 93) (cond (Nat.blt y 75) (cond (Nat.blt y 67) (cond (Nat.blt y 63) (cond (Nat.blt y 61) (cond (Nat.beq y 60) (none) none) (cond (Nat.blt y 62) (cond (Nat.beq y 61) (none) none) (cond (Nat.beq y 62) (some .int) none))) (cond (Nat.blt y 65) (cond (Nat.blt y 64) (cond (Nat.beq y 63) (some .boolean) none) (cond (Nat.beq y 64) (none) none)) (cond (Nat.blt y 66) (cond (Nat.beq y 65) (none) none) (cond (Nat.beq y 66) (some .int) none)))) (cond (Nat.blt y 70) (cond (Nat.blt y 68) (cond (Nat.beq y 67) (none) none) (cond (Nat.blt y 69) (cond (Nat.beq y 68) (none) none) (cond (Nat.beq y 69) (some .int) none))) (cond (Nat.blt y 72) (cond (Nat.blt y 71) (cond (Nat.beq y 70) (some .int) none) (cond (Nat.beq y 71) (none) none)) (cond (Nat.blt y 73) (cond (Nat.beq y 72) (none) none) (cond (Nat.beq y 73) (some .int) none))))) (cond (Nat.blt y 84) (cond (Nat.blt y 79) (cond (Nat.blt y 76) (cond (Nat.beq y 75) (some .int) none) (cond (Nat.blt y 78) (cond (Nat.beq y 76) (some .int) none) (cond (Nat.beq y 78) (some .int) none))) (cond (Nat.blt y 81) (cond (Nat.blt y 80) (cond (Nat.beq y 79) (some .int) none) (cond (Nat.beq y 80) (some .int) none)) (cond (Nat.blt y 83) (cond (Nat.beq y 81) (some .int) none) (cond (Nat.beq y 83) (some .int) none)))) (cond (Nat.blt y 88) (cond (Nat.blt y 86) (cond (Nat.beq y 84) (some .int) none) (cond (Nat.blt y 87) (cond (Nat.beq y 86) (some .int) none) (cond (Nat.beq y 87) (some .int) none))) (cond (Nat.blt y 90) (cond (Nat.blt y 89) (cond (Nat.beq y 88) (some .int) none) (cond (Nat.beq y 89) (some .int) none)) (cond (Nat.blt y 91) (cond (Nat.beq y 90) (some .int) none) (cond (Nat.beq y 91) (some .int) none)))))) (cond (Nat.blt y 107) (cond (Nat.blt y 100) (cond (Nat.blt y 96) (cond (Nat.blt y 94) (cond (Nat.beq y 93) (some .int) none) (cond (Nat.blt y 95) (cond (Nat.beq y 94) (some .int) none) (cond (Nat.beq y 95) (some .int) none))) (cond (Nat.blt y 98) (cond (Nat.blt y 97) (cond (Nat.beq y 96) (some .int) none) (cond (Nat.beq y 97) (some .long) none)) (cond (Nat.blt y 99) (cond (Nat.beq y 98) (some .int) none) (cond (Nat.beq y 99) (some .int) none)))) (cond (Nat.blt y 103) (cond (Nat.blt y 101) (cond (Nat.beq y 100) (some .int) none) (cond (Nat.blt y 102) (cond (Nat.beq y 101) (some .boolean) none) (cond (Nat.beq y 102) (some .boolean) none))) (cond (Nat.blt y 105) (cond (Nat.blt y 104) (cond (Nat.beq y 103) (some .boolean) none) (cond (Nat.beq y 104) (some .boolean) none)) (cond (Nat.blt y 106) (cond (Nat.beq y 105) (none) none) (cond (Nat.beq y 106) (none) none))))) (cond (Nat.blt y 221) (cond (Nat.blt y 189) (cond (Nat.blt y 108) (cond (Nat.beq y 107) (some .int) none) (cond (Nat.blt y 188) (cond (Nat.beq y 108) (some .int) none) (cond (Nat.beq y 188) (some .int) none))) (cond (Nat.blt y 219) (cond (Nat.blt y 190) (cond (Nat.beq y 189) (some .int) none) (cond (Nat.beq y 190) (some .int) none)) (cond (Nat.blt y 220) (cond (Nat.beq y 219) (some .int) none) (cond (Nat.beq y 220) (some .int) none)))) (cond (Nat.blt y 224) (cond (Nat.blt y 222) (cond (Nat.beq y 221) (some .boolean) none) (cond (Nat.blt y 223) (cond (Nat.beq y 222) (some .int) none) (cond (Nat.beq y 223) (some .int) none))) (cond (Nat.blt y 226) (cond (Nat.blt y 225) (cond (Nat.beq y 224) (some .boolean) none) (cond (Nat.beq y 225) (some .boolean) none)) (cond (Nat.blt y 242) (cond (Nat.beq y 226) (some .boolean) none) (cond (Nat.beq y 242) (some .boolean) none)))))))
def ew_hh (y : Nat) : List (Nat × Nat × Nat × Nat) := []
def ew_cv (y : Nat) : Cond := .codeWith (ew_nm y) (ew_cd y) (et_mx y) (ew_rt y) (ew_hh y)
def ew_cw (y : Nat) : Cond := .code (ew_nm y) (ew_cd y) (et_mx y) (ew_rt y)
end
section
/-! One step. -/
def ew_cl (t : Nat) : Nat := bif Nat.beq t 20 then 17 else bif Nat.beq t 21 then 3 else bif Nat.beq t 22 then 4 else bif Nat.beq t 23 then 6 else 10
def ew_st (y cl : Nat) (i : Instr) (pc nx tg : Nat) (cv : Int32) (ls : List (Option ew_V)) (st : List ew_V) (h : ew_H) : ew_N := match i with
  | .aconst_null => ewG (nx, ls, ew_0 :: st, h)
  | .iconst _ => ewG (nx, ls, ew_i cv :: st, h)
  | .bipush _ => ewG (nx, ls, ew_i cv :: st, h)
  | .sipush _ => ewG (nx, ls, ew_i cv :: st, h)
  | .lconst n => ewG (nx, ls, ew_j (Int64.ofNat n) :: st, h)
  | .ldc2_w n => match et_cl cl n with
    | some v => ewG (nx, ls, ew_j v :: st, h)
    | none => none
  | .ldc n => match et_ci cl n with
    | some v => ewG (nx, ls, ew_i v :: st, h)
    | none => none
  | .iload n => ew_ld 0 ls st h nx n
  | .iload_n n => ew_ld 0 ls st h nx n
  | .lload n => ew_ld 1 ls st h nx n
  | .lload_n n => ew_ld 1 ls st h nx n
  | .dload n => ew_ld 2 ls st h nx n
  | .dload_n n => ew_ld 2 ls st h nx n
  | .aload n => ew_ld 3 ls st h nx n
  | .aload_n n => ew_ld 3 ls st h nx n
  | .istore n => ew_sto 0 ls st h nx n
  | .istore_n n => ew_sto 0 ls st h nx n
  | .lstore n => ew_sto 1 ls st h nx n
  | .lstore_n n => ew_sto 1 ls st h nx n
  | .dstore n => ew_sto 2 ls st h nx n
  | .dstore_n n => ew_sto 2 ls st h nx n
  | .astore n => ew_sto 3 ls st h nx n
  | .astore_n n => ew_sto 3 ls st h nx n
  | .iinc n _ => match (ls[n]? : Option (Option ew_V)) with
    | some (some (.inl (.int x))) => bif Nat.blt n ls.length then ewG (nx, ew_st1 ls n (ew_i (x + cv)), st, h) else none
    | _ => none
  | .iadd => ew_bin (fun x y => x + y) ls st h nx
  | .isub => ew_bin (fun x y => x - y) ls st h nx
  | .imul => ew_bin (fun x y => x * y) ls st h nx
  | .iand => ew_bin (fun x y => x &&& y) ls st h nx
  | .ishr => ew_bin (fun (x y : Int32) => x >>> (y &&& 31)) ls st h nx
  | .idiv => match st with
    | .inl (.int b) :: .inl (.int a) :: st => ewN (¬ b = 0) (nx, ls, ew_i (a / b) :: st, h)
    | _ => none
  | .irem => match st with
    | .inl (.int b) :: .inl (.int a) :: st => ewN (¬ b = 0) (nx, ls, ew_i (a - a / b * b) :: st, h)
    | _ => none
  | .ladd => ew_binl (fun x y => x + y) ls st h nx
  | .lmul => ew_binl (fun x y => x * y) ls st h nx
  | .i2l => match st with
    | .inl (.int a) :: st => ewG (nx, ls, ew_j a.toInt64 :: st, h)
    | _ => none
  | .dconst n => bif Nat.beq n 0 then ewG (nx, ls, .inl (.double FP.dconst0) :: st, h) else none
  | .i2d => match st with
    | .inl (.int a) :: st => ewG (nx, ls, .inl (.double (FP.i2d a)) :: st, h)
    | _ => none
  | .ddiv => match st with
    | .inl (.double b) :: .inl (.double a) :: st => ewN (vf_n64 (FP.ddiv a b)) (nx, ls, .inl (.double (FP.ddiv a b)) :: st, h)
    | _ => none
  | .dcmp o => match st with
    | .inl (.double b) :: .inl (.double a) :: st => ewG (nx, ls, ew_i (Op.cmpValue (FP.dcmp a b) o) :: st, h)
    | _ => none
  | .dreturn => match st with
    | [.inl (.double x)] => ewE True (.inl (some (.inl (.double x)))) h
    | _ => none
  | .lcmp => match st with
    | .inl (.long b) :: .inl (.long a) :: st => ewB (a = b) (nx, ls, ew_i 0 :: st, h) (nx, ls, ew_i (if a < b then -1 else 1) :: st, h)
    | _ => none
  | .dup => match st with
    | v :: st => bif Nat.beq (ew_cat v) 1 then ewG (nx, ls, v :: v :: st, h) else none
    | _ => none
  | .pop => match st with
    | v :: st => bif Nat.beq (ew_cat v) 1 then ewG (nx, ls, st, h) else none
    | _ => none
  | .dup_x1 => match st with
    | v :: w :: st => bif Nat.beq (ew_cat v) 1 && Nat.beq (ew_cat w) 1 then ewG (nx, ls, v :: w :: v :: st, h) else none
    | _ => none
  | .dup2 => match st with
    | v :: w :: st => bif Nat.beq (ew_cat v) 1 && Nat.beq (ew_cat w) 1 then ewG (nx, ls, v :: w :: v :: w :: st, h) else none
    | _ => none
  | .ifCond o _ => match st with
    | .inl (.int a) :: st => ewB (ew_c1 o a) (tg, ls, st, h) (nx, ls, st, h)
    | _ => none
  | .if_icmp o _ => match st with
    | .inl (.int b) :: .inl (.int a) :: st => ewB (ew_c2 o a b) (tg, ls, st, h) (nx, ls, st, h)
    | _ => none
  | .if_acmp .eq _ => match st with
    | .inr q :: .inr p :: st => bif Nat.beq p.1 q.1 && Nat.beq p.2 q.2 then ewG (tg, ls, st, h) else bif Nat.beq p.1 q.1 || (Nat.beq p.1 31 || Nat.beq q.1 31) then none else ewG (nx, ls, st, h)
    | _ => none
  | .goto _ => ewG (tg, ls, st, h)
  | .tableswitch d lo _ os => match st with
    | .inl (.int x) :: st => ewS x (Int32.ofInt lo) (os.toList.map (fun (o : Int) => (((pc : Int) + o).toNat, ls, st, h))) (((pc : Int) + d).toNat, ls, st, h)
    | _ => none
  | .getfield n => match et_fd cl n with
    | some (c, s, _) => (match st with
      | .inr (k, i) :: st => bif Nat.beq (ew_ct k) c then ewG (nx, ls, h.1 k i s :: st, h) else none
      | _ => none)
    | none => none
  | .putfield n => match et_fd cl n with
    | some (c, s, t) => (match st with
      | v :: .inr (k, i) :: st => bif Nat.beq (ew_ct k) c && !et_fn cl n && !ew_cst k && (!et_fin c s || (et_ini y && Nat.beq cl c)) then ewN (ew_fit t v) (nx, ls, st, ew_put h k i s v) else none
      | _ => none)
    | none => none
  | .getstatic n => match et_sd cl n with
    | some v => ewG (nx, ls, v :: st, h)
    | none => none
  | .arraylength => match st with
    | .inr (k, i) :: st => bif Nat.ble 17 (ew_ct k) && Nat.blt (ew_ct k) 25 then ewG (nx, ls, ew_i (Int32.ofNat (ew_len h k i)) :: st, h) else none
    | _ => none
  | .iaload => ew_ald 17 ls st h nx
  | .baload => ew_ald 18 ls st h nx
  | .aaload => ew_ald 20 ls st h nx
  | .iastore => ew_ast 17 ls st h nx
  | .bastore => ew_ast 18 ls st h nx
  | .aastore => ew_ast 20 ls st h nx
  | .new n => match et_nw cl n with
    | some c => bif Nat.blt c 17 then (bif Nat.beq (ew_ct (et_si y pc)) c && ew_ctr (et_si y pc) then ew_new (et_si y pc) (et_N c) (et_dv c) ls st h nx else none) else bif Nat.ble 100 c && Nat.ble (ew_cats st) 20 then ewE True (.inr (c - 100)) (ew_pay h 1 6) else none
    | none => none
  | .newarray .int => bif Nat.beq (ew_ct (ew_kn y (et_si y pc) ls)) 17 && ew_ctr (ew_kn y (et_si y pc) ls) then ew_newa (ew_kn y (et_si y pc) ls) (ew_i 0) ls st h nx else none
  | .newarray .boolean => bif Nat.beq (ew_ct (et_si y pc)) 18 && ew_ctr (et_si y pc) then ew_newa (et_si y pc) (ew_i 0) ls st h nx else none
  | .anewarray n => match et_nw cl n with
    | some c => bif (Nat.ble 20 (ew_ct (et_si y pc)) && Nat.blt (ew_ct (et_si y pc)) 25 && Nat.beq c (ew_cl (ew_ct (et_si y pc)))) && ew_ctr (et_si y pc) then ew_newa (et_si y pc) ew_0 ls st h nx else none
    | none => none
  | .checkcast n => match et_nw cl n with
    | some c => (match st with
      | .inr (k, i) :: st => bif Nat.beq (ew_ct k) c && (Nat.ble c 17 && (Nat.blt c 17 || !ew_cst k)) then ewG (nx, ls, .inr (k, i) :: st, h) else none
      | _ => none)
    | none => none
  | .invokestatic n => match et_md cl n with
    | some (z, a, _) => bif Nat.ble 900 z then
        bif Nat.beq z 900 then (bif Nat.ble (ew_cats (st.drop 2)) 20 then ew_bin ew_max ls st h nx else none) else bif Nat.beq z 901 then (bif Nat.ble (ew_cats (st.drop 2)) 20 then ew_bin ew_min ls st h nx else none) else bif Nat.beq z 902 then (match st with
        | .inl (.int a) :: st => bif Nat.ble (ew_cats st) 20 then ewG (nx, ls, ew_i (ew_abs a) :: st, h) else none
        | _ => none) else none
      else bif Nat.beq (et_kd z) 0 && (Nat.ble (ew_cats (st.drop a)) 8 && Nat.ble a st.length) then ewK z (st.take a).reverse (st.drop a) nx else none
    | none => none
  | .invokevirtual n => match et_md cl n with
    | some (z, a, c) => match st.drop a with
      | .inr (k, i) :: rest => bif (Nat.beq (et_kd z) 1 && !et_if cl n) && (Nat.beq (ew_ct k) c && Nat.ble (ew_cats rest) 8) then ewK z (.inr (k, i) :: (st.take a).reverse) rest nx else none
      | _ => none
    | none => none
  | .invokespecial n => match et_md cl n with
    | some (z, a, c) => match st.drop a with
      | .inr (k, i) :: rest => bif Nat.beq z 904 then (bif Nat.ble (ew_cats rest) 8 then ewG (nx, ls, rest, h) else none)
        else bif Nat.beq (et_kd z) 2 && Nat.ble (ew_cats rest) 8 then ewK z (.inr (k, i) :: (st.take a).reverse) rest nx else none
      | _ => none
    | none => none
  | .invokeinterface n _ => match et_md cl n with
    | some (z, a, c) => match st.drop a with
      | .inr (k, i) :: rest => bif et_if cl n && (Nat.beq (ew_ct k) c && Nat.ble (ew_cats rest) 8) then ewK z (.inr (k, i) :: (st.take a).reverse) rest nx else none
      | _ => none
    | none => none
  | .ireturn => match st with
    | [.inl (.int x)] => ewE (bif et_bl y then x = 0 ∨ x = 1 else True) (.inl (some (ew_i x))) h
    | _ => none
  | .lreturn => match st with
    | [.inl (.long x)] => ewE True (.inl (some (ew_j x))) h
    | _ => none
  | .areturn => match st with
    | [v] => bif Nat.beq (ew_tag v) 3 then ewE True (.inl (some v)) h else none
    | _ => none
  | .return_ => match st with
    | [] => ewE True (.inl none) h
    | _ => none
  | _ => none
/-- where a thrown exception is caught: the pc behind its being stored, and where it is stored -/
def ew_hd (y pc x : Nat) : Option (Nat × Nat) := et_hd y pc x
/-- methods of which it is told that they throw: no constructors, none of the library -/
def ew_th (z : Nat) : Bool := et_tw z && !(Nat.beq (et_kd z) 2) && Nat.blt z 185
/-- one step of method y, with what calls do in C: P of the states behind it, K of its end -/
def ew_G (C : Nat → List ew_V → ew_H → (ew_R → ew_H → Prop) → Prop) (y : Nat) (P : ew_C → Prop) (K : ew_R → ew_H → Prop) (c : ew_C) : Prop := match ew_pg y c.1 with
  | none => False
  | some (i, nx, tg, cv) => match ew_st y (et_cls y) i c.1 nx tg cv c.2.1 c.2.2.1 c.2.2.2 with
    | none => False
    | some (.inl c') => P c'
    | some (.inr (.inl (p, a, b))) => (p → P a) ∧ (¬ p → P b)
    | some (.inr (.inr (.inl (p, a)))) => p ∧ P a
    | some (.inr (.inr (.inr (.inl (z, as, rest, nx))))) => C z as c.2.2.2 (fun r h' => match r with
      | .inl v => P (nx, c.2.1, v.toList ++ rest, h')
      | .inr x => ew_th z = true ∧ match ew_hd y c.1 x with
        | some t => P (t.1, ew_un c.2.1 t.2, [], h')
        | none => K (.inr x) h')
    | some (.inr (.inr (.inr (.inr (.inl (p, r, h)))))) => p ∧ K r h
    | some (.inr (.inr (.inr (.inr (.inr (x, v, l, d)))))) => ew_sw P x v l d
end
section
/-! Runs: the least predicate closed under steps; calls by depth. -/
def ew_W (C : Nat → List ew_V → ew_H → (ew_R → ew_H → Prop) → Prop) (y : Nat) (K : ew_R → ew_H → Prop) (c : ew_C) : Prop := ∀ Q : ew_C → Prop, (∀ c, ew_G C y Q K c → Q c) → Q c
def ew_M (C : Nat → List ew_V → ew_H → (ew_R → ew_H → Prop) → Prop) : Prop := ∀ (z : Nat) (as : List ew_V) (h : ew_H) (K K' : ew_R → ew_H → Prop), (∀ r h, K r h → K' r h) → C z as h K → C z as h K'
theorem ew_sw_mono {P P' : ew_C → Prop} (hP : ∀ c, P c → P' c) (x : Int32) (d : ew_C) : ∀ (l : List ew_C) (v : Int32), ew_sw P x v l d → ew_sw P' x v l d
  | [], _, h => hP _ h
  | _ :: l, v, h => ⟨fun e => hP _ (h.1 e), fun e => ew_sw_mono hP x d l (v + 1) (h.2 e)⟩
theorem ew_G_mono {C : Nat → List ew_V → ew_H → (ew_R → ew_H → Prop) → Prop} (hC : ew_M C) {y : Nat} {P P' : ew_C → Prop} {K K' : ew_R → ew_H → Prop} (hP : ∀ c, P c → P' c) (hK : ∀ r h, K r h → K' r h) {c : ew_C} (g : ew_G C y P K c) : ew_G C y P' K' c := by
  unfold ew_G at g ⊢
  cases h1 : ew_pg y c.1 with
  | none => simp only [h1] at g
  | some q =>
    obtain ⟨i, nx, tg, cv⟩ := q
    simp only [h1] at g ⊢
    cases h2 : ew_st y (et_cls y) i c.1 nx tg cv c.2.1 c.2.2.1 c.2.2.2 with
    | none => simp only [h2] at g
    | some n =>
      simp only [h2] at g ⊢
      rcases n with c' | ⟨p, a, b⟩ | ⟨p, a⟩ | ⟨z, as, rest, nx⟩ | ⟨p, r, h⟩ | ⟨x, v, l, d⟩
      · exact hP _ g
      · exact ⟨fun e => hP _ (g.1 e), fun e => hP _ (g.2 e)⟩
      · exact ⟨g.1, hP _ g.2⟩
      · refine hC _ _ _ _ _ (fun r h' hr => ?_) g
        rcases r with v | x
        · exact hP _ hr
        · obtain ⟨ht, hr⟩ := hr
          refine ⟨ht, ?_⟩
          cases h3 : ew_hd y c.1 x with
          | none => simp only [h3] at hr ⊢; exact hK _ _ hr
          | some t => simp only [h3] at hr ⊢; exact hP _ hr
      · exact ⟨g.1, hK _ _ g.2⟩
      · exact ew_sw_mono hP x d l v g
theorem ew_W.fold {C : Nat → List ew_V → ew_H → (ew_R → ew_H → Prop) → Prop} (hC : ew_M C) {y : Nat} {K : ew_R → ew_H → Prop} {c : ew_C} (g : ew_G C y (ew_W C y K) K c) : ew_W C y K c :=
  fun Q hQ => hQ c (ew_G_mono hC (fun _ w => w Q hQ) (fun _ _ k => k) g)
theorem ew_W.mono {C : Nat → List ew_V → ew_H → (ew_R → ew_H → Prop) → Prop} (hC : ew_M C) {y : Nat} {K K' : ew_R → ew_H → Prop} (hK : ∀ r h, K r h → K' r h) {c : ew_C} (w : ew_W C y K c) : ew_W C y K' c :=
  w _ (fun _ g => ew_W.fold hC (ew_G_mono hC (fun _ k => k) hK g))
def ew_ar (as : List ew_V) : List (Option ew_V) := match as with
  | [] => []
  | v :: as => bif Nat.beq (ew_cat v) 2 then some v :: none :: ew_ar as else some v :: ew_ar as
/-- a method's start -/
def ew_en (y : Nat) (as : List ew_V) (h : ew_H) : ew_C := (bif Nat.ble (ew_ar as).length (et_mx y) then 0 else 65535, ew_ar as ++ List.replicate (et_mx y - (ew_ar as).length) none, [], h)
/-- no method of the library but the tables' own -/
def ew_In (_ : Nat) (_ : List ew_V) (_ : ew_H) (_ : ew_R → ew_H → Prop) : Prop := False
def ew_Call : Nat → Nat → List ew_V → ew_H → (ew_R → ew_H → Prop) → Prop
  | 0, _, _, _, _ => False
  | d + 1, y, as, h, K => (∃ r h', ew_W (ew_Call d) y (fun r1 h1 => r1 = r ∧ h1 = h') (ew_en y as h) ∧ K r h') ∨ ew_In y as h K
theorem ew_In_mono {y : Nat} {as : List ew_V} {h : ew_H} {K K' : ew_R → ew_H → Prop} (_ : ∀ r h, K r h → K' r h) (g : ew_In y as h K) : ew_In y as h K' := g
theorem ew_Call_mono : ∀ d : Nat, ew_M (ew_Call d)
  | 0 => fun _ _ _ _ _ _ g => g.elim
  | d + 1 => fun z as h K K' hK g => by
    rcases g with ⟨r, h', w, k⟩ | g
    · exact Or.inl ⟨r, h', w, hK _ _ k⟩
    · exact Or.inr (ew_In_mono hK g)
theorem ew_call {d y : Nat} {as : List ew_V} {h : ew_H} {K : ew_R → ew_H → Prop} (w : ew_W (ew_Call d) y K (ew_en y as h)) : ew_Call (d + 1) y as h K := by
  refine Or.inl (w (fun c => ∃ r h', ew_W (ew_Call d) y (fun r1 h1 => r1 = r ∧ h1 = h') c ∧ K r h') (fun c g => ?_))
  have hC := ew_Call_mono d
  have fold : ∀ {r h'}, ew_G (ew_Call d) y (ew_W (ew_Call d) y (fun r1 h1 => r1 = r ∧ h1 = h')) (fun r1 h1 => r1 = r ∧ h1 = h') c → ew_W (ew_Call d) y (fun r1 h1 => r1 = r ∧ h1 = h') c := fun g => ew_W.fold hC g
  unfold ew_G at g fold
  cases h1 : ew_pg y c.1 with
  | none => simp only [h1] at g
  | some q =>
    obtain ⟨i, nx, tg, cv⟩ := q
    simp only [h1] at g fold
    cases h2 : ew_st y (et_cls y) i c.1 nx tg cv c.2.1 c.2.2.1 c.2.2.2 with
    | none => simp only [h2] at g
    | some n =>
      simp only [h2] at g fold
      rcases n with c' | ⟨p, a, b⟩ | ⟨p, a⟩ | ⟨z, as, rest, nx⟩ | ⟨p, r, h⟩ | ⟨x, v, l, dd⟩
      · obtain ⟨r, h', w, k⟩ := g
        exact ⟨r, h', fold w, k⟩
      · by_cases e : p
        · obtain ⟨r, h', w, k⟩ := g.1 e
          exact ⟨r, h', fold ⟨fun _ => w, fun n => absurd e n⟩, k⟩
        · obtain ⟨r, h', w, k⟩ := g.2 e
          exact ⟨r, h', fold ⟨fun n => absurd n e, fun _ => w⟩, k⟩
      · obtain ⟨e, r, h', w, k⟩ := g
        exact ⟨r, h', fold ⟨e, w⟩, k⟩
      · dsimp only at g fold
        have key : ∃ r0 h0, ew_Call d z as c.2.2.2 (fun r h => r = r0 ∧ h = h0) ∧ (match r0 with
            | .inl v => (fun c => ∃ r h', ew_W (ew_Call d) y (fun r1 h1 => r1 = r ∧ h1 = h') c ∧ K r h') (nx, c.2.1, v.toList ++ rest, h0)
            | .inr x => ew_th z = true ∧ match ew_hd y c.1 x with
              | some t => (fun c => ∃ r h', ew_W (ew_Call d) y (fun r1 h1 => r1 = r ∧ h1 = h') c ∧ K r h') (t.1, ew_un c.2.1 t.2, [], h0)
              | none => K (.inr x) h0) := by
          cases d with
          | zero => exact g.elim
          | succ d =>
            rcases g with ⟨r0, h0, w0, k0⟩ | g
            · exact ⟨r0, h0, Or.inl ⟨r0, h0, w0, rfl, rfl⟩, k0⟩
            · exact g.elim
        obtain ⟨r0, h0, hc, hk⟩ := key
        rcases r0 with v | x
        · obtain ⟨r, h', w, k⟩ := hk
          refine ⟨r, h', fold (hC _ _ _ _ _ (fun r1 h1 e => ?_) hc), k⟩
          obtain ⟨rfl, rfl⟩ := e
          exact w
        · obtain ⟨ht, hk⟩ := hk
          cases h3 : ew_hd y c.1 x with
          | none =>
            simp only [h3] at hk
            refine ⟨.inr x, h0, fold (hC _ _ _ _ _ (fun r1 h1 e => ?_) hc), hk⟩
            obtain ⟨rfl, rfl⟩ := e
            simp only [h3]
            exact ⟨ht, trivial, trivial⟩
          | some t =>
            simp only [h3] at hk
            obtain ⟨r, h', w, k⟩ := hk
            refine ⟨r, h', fold (hC _ _ _ _ _ (fun r1 h1 e => ?_) hc), k⟩
            obtain ⟨rfl, rfl⟩ := e
            simp only [h3]
            exact ⟨ht, w⟩
      · exact ⟨r, h, fold ⟨g.1, rfl, rfl⟩, g.2⟩
      · dsimp only at g fold
        have key : ∀ (l : List ew_C) (v : Int32), ew_sw (fun c => ∃ r h', ew_W (ew_Call d) y (fun r1 h1 => r1 = r ∧ h1 = h') c ∧ K r h') x v l dd → ∃ r h', ew_sw (ew_W (ew_Call d) y (fun r1 h1 => r1 = r ∧ h1 = h')) x v l dd ∧ K r h' := by
          intro l
          induction l with
          | nil => exact fun v g => g
          | cons c0 l ih =>
            intro v g
            by_cases e : x = v
            · obtain ⟨r, h', w, k⟩ := g.1 e
              exact ⟨r, h', ⟨fun _ => w, fun n => absurd e n⟩, k⟩
            · obtain ⟨r, h', w, k⟩ := ih _ (g.2 e)
              exact ⟨r, h', ⟨fun n => absurd n e, fun _ => w⟩, k⟩
        obtain ⟨r, h', w, k⟩ := key _ _ g
        exact ⟨r, h', fold w, k⟩
/-- n steps at once, till a pc of sp -/
def ew_Z (C : Nat → List ew_V → ew_H → (ew_R → ew_H → Prop) → Prop) (y : Nat) (K : ew_R → ew_H → Prop) (sp : Nat → Bool) (P : ew_C → Prop) : Nat → ew_C → Prop
  | 0, c => P c
  | n + 1, c => ew_G C y (fun c' => bif sp c'.1 then P c' else ew_Z C y K sp P n c') K c
theorem ew_run {C : Nat → List ew_V → ew_H → (ew_R → ew_H → Prop) → Prop} (hC : ew_M C) {y : Nat} {K : ew_R → ew_H → Prop} (sp : Nat → Bool) : ∀ (n : Nat) {c : ew_C}, ew_Z C y K sp (ew_W C y K) n c → ew_W C y K c
  | 0, _, h => h
  | n + 1, _, h => ew_W.fold hC (ew_G_mono hC (fun c' w => by
      cases e : sp c'.1 with
      | true => rw [e, cond_true] at w; exact w
      | false => rw [e, cond_false] at w; exact ew_run hC sp n w) (fun _ _ k => k) h)
theorem ew_go {d y : Nat} {K : ew_R → ew_H → Prop} {c : ew_C} (sp : Nat → Bool) (n : Nat) (h : ew_Z (ew_Call d) y K sp (ew_W (ew_Call d) y K) n c) : ew_W (ew_Call d) y K c := ew_run (ew_Call_mono d) sp n h
end
section
/-! The small machine's objects in the machine's heap. -/
def ew_ty (t : Nat) : FieldType := match t with
  | 17 => .int
  | 18 => .boolean
  | 19 => .int
  | 20 => .array .int
  | 21 => .object "ChannelWinter$Breaker"
  | 22 => .object "ChannelWinter$Cell"
  | 23 => .object "ChannelWinter$Port"
  | _ => .object "ChannelWinter$Ship"
def ew_cellX (G : va_G) (TY : Nat → ClassId) (a : Nat → Nat → Nat) (h : ew_H) (k i : Nat) (H : Heap) : Prop :=
  (ew_ct k < 17 → ∃ r : vw_C, vwCl[ew_ct k]? = some r ∧ t_OB (a k i) (G.1 (ew_ct k)) r.2.2 (G.2 (ew_ct k)) H (fun s => ew_c a (h.1 k i s))) ∧
  (17 ≤ ew_ct k → ew_ct k < 25 → H[a k i]? = some (arrV (TY (ew_ct k)) (ew_len h k i) (fun s => ew_c a (h.1 k i s))))
/-- the class of arrays that were there: the script's and BEARS' own -/
def ew_tc (TY : Nat → ClassId) (k : Nat) : ClassId := bif Nat.beq k 17 || Nat.beq k 49 then TY (100 + k) else TY (ew_ct k)
/-- what nobody writes: only what reading it gives -/
def ew_cellC (G : va_G) (TY : Nat → ClassId) (a : Nat → Nat → Nat) (h : ew_H) (k i : Nat) (H : Heap) : Prop := ∃ cell : Cell, H[a k i]? = some cell ∧ (cell.vm ≠ .unknown ∧ cell.vm.isStatics = false) ∧
  (ew_ct k < 17 → ∃ r : vw_C, vwCl[ew_ct k]? = some r ∧ cell.cls = G.1 (ew_ct k) ∧ ∀ s, s < r.2.2 → cell.slots[G.2 (ew_ct k) s]? = some (ew_c a (h.1 k i s))) ∧
  (17 ≤ ew_ct k → ew_ct k < 25 → cell.cls = ew_tc TY k ∧ (ew_len h k i ≤ cell.slots.size ∧ cell.slots.size.toInt32 = Int32.ofNat (ew_len h k i)) ∧ ∀ j, j < ew_len h k i → cell.slots[j]? = some (ew_c a (h.1 k i j)))
def ew_cell (G : va_G) (TY : Nat → ClassId) (a : Nat → Nat → Nat) (h : ew_H) (k i : Nat) (H : Heap) : Prop := (ew_cst k = false → ew_cellX G TY a h k i H) ∧ (ew_cst k = true → ew_cellC G TY a h k i H)
theorem ew_cell.of {G : va_G} {TY : Nat → ClassId} {a : Nat → Nat → Nat} {h : ew_H} {k i : Nat} {H : Heap} (hc : ew_cst k = false) (x : ew_cellX G TY a h k i H) : ew_cell G TY a h k i H := ⟨fun _ => x, fun z => by rw [hc] at z; cases z⟩
/-- v is a number, null, or an object that is there -/
def ew_wf (h : ew_H) (v : ew_V) : Prop := match v with
  | .inl (.ref _) => False
  | .inl _ => True
  | .inr q => q.1 = 31 ∨ h.2.2.1 q.1 q.2 = true
/-- .. of those that may lie in objects -/
def ew_wh (h : ew_H) (v : ew_V) : Prop := match v with
  | .inl (.ref _) => False
  | .inl _ => True
  | .inr q => h.2.2.1 q.1 q.2 = true
theorem ew_wh.wf {h : ew_H} {v : ew_V} (w : ew_wh h v) : ew_wf h v := by
  rcases v with v | q
  · cases v <;> exact w
  · exact Or.inr w
theorem ew_wh_of {h : ew_H} {v : ew_V} {t : Nat} (w : ew_wf h v) (f : ew_fit t v) : ew_wh h v := by
  rcases v with v | q
  · cases v <;> exact w
  · rcases w with w | w
    · exfalso
      unfold ew_fit at f
      split at f
      · rename_i e; cases e
      · rename_i e; cases e
      · rename_i e
        cases e
        rw [w] at f
        exact absurd f (by decide)
      · rename_i e; cases e
      · rename_i e; cases e
      · exact f
    · exact w
/-- the heap H holds the objects of h at their places a; below sz nothing has moved since H0 -/
def ew_I (G : va_G) (TY : Nat → ClassId) (sz : Nat) (H0 : Heap) (a : Nat → Nat → Nat) (h : ew_H) (H : Heap) : Prop :=
  (∀ k i, h.2.2.1 k i = true → ew_cell G TY a h k i H ∧ a k i < H.size ∧ (ew_cst k = false → sz ≤ a k i) ∧ ew_ct k < 25) ∧
  (∀ k i k' i', h.2.2.1 k i = true → h.2.2.1 k' i' = true → a k i = a k' i' → k = k' ∧ i = i') ∧
  (∀ k i s, h.2.2.1 k i = true → ew_wh h (h.1 k i s)) ∧
  (∀ k i, ew_ctr k = true → h.2.2.2.1 k ≤ i → h.2.2.1 k i = false) ∧
  sz ≤ H.size ∧ ∀ q : Nat, q < sz → H[q]? = H0[q]?
def ew_le (h h' : ew_H) : Prop := (∀ k i, h.2.2.1 k i = true → h'.2.2.1 k i = true) ∧ h.2.2.2.2.1 ≤ h'.2.2.2.2.1 ∧ h.2.2.2.2.2 ≤ h'.2.2.2.2.2
theorem ew_le.rf (h : ew_H) : ew_le h h := ⟨fun _ _ e => e, Nat.le_refl _, Nat.le_refl _⟩
theorem ew_le.tr {h h' h'' : ew_H} (x : ew_le h h') (y : ew_le h' h'') : ew_le h h'' := ⟨fun k i e => y.1 k i (x.1 k i e), Nat.le_trans x.2.1 y.2.1, Nat.le_trans x.2.2 y.2.2⟩
theorem ew_wf.le {h h' : ew_H} {v : ew_V} (w : ew_wf h v) (l : ew_le h h') : ew_wf h' v := by
  rcases v with v | q
  · cases v <;> first | exact w | exact trivial
  · rcases w with w | w
    · exact Or.inl w
    · exact Or.inr (l.1 _ _ w)
theorem ew_wh.le {h h' : ew_H} {v : ew_V} (w : ew_wh h v) (l : ew_le h h') : ew_wh h' v := by
  rcases v with v | q
  · cases v <;> first | exact w | exact trivial
  · exact l.1 _ _ w
/-- the locals by their places -/
def ew_lp (a : Nat → Nat → Nat) (n : Nat) (ls : List (Option ew_V)) : List (Nat × Value) := match ls with
  | [] => []
  | some v :: l => (n, ew_c a v) :: ew_lp a (n + 1) l
  | none :: l => ew_lp a (n + 1) l
theorem ew_lp_mem {a : Nat → Nat → Nat} : ∀ (ls : List (Option ew_V)) (n : Nat) (q : Nat × Value), q ∈ ew_lp a n ls ↔ ∃ j v, ls[j]? = some (some v) ∧ q = (n + j, ew_c a v)
  | [], n, q => by simp [ew_lp]
  | some v :: l, n, q => by
    rw [ew_lp, List.mem_cons, ew_lp_mem l (n + 1) q]
    constructor
    · rintro (rfl | ⟨j, w, h, rfl⟩)
      · exact ⟨0, v, rfl, rfl⟩
      · exact ⟨j + 1, w, h, by rw [Nat.add_right_comm, Nat.add_assoc]⟩
    · rintro ⟨j, w, h, rfl⟩
      cases j with
      | zero => cases h; exact Or.inl rfl
      | succ j => exact Or.inr ⟨j, w, h, by rw [Nat.add_right_comm, Nat.add_assoc]⟩
  | none :: l, n, q => by
    rw [ew_lp, ew_lp_mem l (n + 1) q]
    constructor
    · rintro ⟨j, w, h, rfl⟩
      exact ⟨j + 1, w, h, by rw [Nat.add_right_comm, Nat.add_assoc]⟩
    · rintro ⟨j, w, h, rfl⟩
      cases j with
      | zero => cases h
      | succ j => exact ⟨j, w, h, by rw [Nat.add_right_comm, Nat.add_assoc]⟩
theorem ew_lp_at {a : Nat → Nat → Nat} {ls : List (Option ew_V)} {L : Array Slot} {nL j : Nat} {v : ew_V} (hl : lv_has L nL (ew_lp a 0 ls)) (h : ls[j]? = some (some v)) : L[j]? = some (.val (ew_c a v)) := by
  have := hl.2.2 (0 + j, ew_c a v) ((ew_lp_mem ls 0 _).mpr ⟨j, v, h, rfl⟩)
  rw [Nat.zero_add] at this
  exact this
theorem ew_c_cat (a : Nat → Nat → Nat) (v : ew_V) : (ew_c a v).category = ew_cat v := by
  rcases v with v | q <;> rfl
theorem ew_clr_mem {a : Nat → Nat → Nat} {ls : List (Option ew_V)} {i j : Nat} {v : ew_V} (h : (ew_clr ls i)[j]? = some (some v)) : ls[j]? = some (some v) ∧ ¬ (j + 1 = i ∧ ew_cat v = 2) := by
  unfold ew_clr at h
  cases i with
  | zero => exact ⟨h, fun e => by omega⟩
  | succ n =>
    dsimp only at h
    split at h
    · rename_i w hw
      cases hc : Nat.beq (ew_cat w) 2 with
      | true =>
        rw [hc, cond_true] at h
        by_cases e : j = n
        · subst e
          rw [List.getElem?_set] at h
          simp at h
        · rw [List.getElem?_set_ne (Ne.symm e)] at h
          exact ⟨h, fun q => e (by omega)⟩
      | false =>
        rw [hc, cond_false] at h
        refine ⟨h, fun q => ?_⟩
        have e : j = n := by omega
        subst e
        rw [hw] at h
        cases h
        rw [q.2] at hc
        cases hc
    · rename_i hn
      refine ⟨h, fun q => ?_⟩
      have e : j = n := by omega
      subst e
      exact hn _ h
theorem ew_clr_len (ls : List (Option ew_V)) (i : Nat) : (ew_clr ls i).length = ls.length := by
  unfold ew_clr
  cases i with
  | zero => rfl
  | succ n =>
    dsimp only
    split
    · rename_i w hw
      cases hc : Nat.beq (ew_cat w) 2 with
      | true => rw [cond_true, List.length_set]
      | false => rw [cond_false]
    · rfl
theorem ew_st1_has {a : Nat → Nat → Nat} {ls : List (Option ew_V)} {L : Array Slot} {nL i : Nat} {v : ew_V}
    (h : lv_has L nL ((i, ew_c a v) :: (ew_lp a 0 ls).filter (fun q => !(q.1 == i) && !(q.1 + 1 == i && q.2.category == 2)))) : lv_has L nL (ew_lp a 0 (ew_st1 ls i v)) := by
  refine ⟨h.1, h.2.1, fun q hq => h.2.2 q ?_⟩
  obtain ⟨j, w, e1, rfl⟩ := (ew_lp_mem _ 0 q).mp hq
  unfold ew_st1 at e1
  by_cases e : i = j
  · subst e
    rw [List.getElem?_set] at e1
    split at e1
    · split at e1
      · cases e1
        rw [Nat.zero_add]
        exact List.mem_cons_self
      · cases e1
    · rename_i hne
      exact absurd rfl hne
  · rw [List.getElem?_set_ne e] at e1
    obtain ⟨e2, e3⟩ := ew_clr_mem (a := a) e1
    refine List.mem_cons_of_mem _ (List.mem_filter.mpr ⟨(ew_lp_mem _ 0 _).mpr ⟨j, w, e2, rfl⟩, ?_⟩)
    simp only [Nat.zero_add, ew_c_cat, Bool.and_eq_true, Bool.not_eq_true', beq_eq_false_iff_ne, ne_eq, Bool.and_eq_false_iff]
    refine ⟨fun q => e q.symm, ?_⟩
    by_cases e4 : j + 1 = i
    · exact Or.inr (fun q => e3 ⟨e4, q⟩)
    · exact Or.inl e4
theorem ew_st2_has {a : Nat → Nat → Nat} {ls : List (Option ew_V)} {L : Array Slot} {nL i : Nat} {v : ew_V}
    (h : lv_has L nL ((i, ew_c a v) :: (ew_lp a 0 ls).filter (fun q => !(q.1 == i) && (!(q.1 == i + 1) && !(q.1 + 1 == i && q.2.category == 2))))) : lv_has L nL (ew_lp a 0 (ew_st2 ls i v)) := by
  refine ⟨h.1, h.2.1, fun q hq => h.2.2 q ?_⟩
  obtain ⟨j, w, e1, rfl⟩ := (ew_lp_mem _ 0 q).mp hq
  unfold ew_st2 at e1
  by_cases e0 : i + 1 = j
  · subst e0
    rw [List.getElem?_set] at e1
    split at e1
    · split at e1 <;> cases e1
    · rename_i hne
      exact absurd rfl hne
  rw [List.getElem?_set_ne e0] at e1
  by_cases e : i = j
  · subst e
    rw [List.getElem?_set] at e1
    split at e1
    · split at e1
      · cases e1
        rw [Nat.zero_add]
        exact List.mem_cons_self
      · cases e1
    · rename_i hne
      exact absurd rfl hne
  · rw [List.getElem?_set_ne e] at e1
    obtain ⟨e2, e3⟩ := ew_clr_mem (a := a) e1
    refine List.mem_cons_of_mem _ (List.mem_filter.mpr ⟨(ew_lp_mem _ 0 _).mpr ⟨j, w, e2, rfl⟩, ?_⟩)
    simp only [Nat.zero_add, ew_c_cat, Bool.and_eq_true, Bool.not_eq_true', beq_eq_false_iff_ne, ne_eq, Bool.and_eq_false_iff]
    refine ⟨fun q => e q.symm, fun q => e0 q.symm, ?_⟩
    by_cases e4 : j + 1 = i
    · exact Or.inr (fun q => e3 ⟨e4, q⟩)
    · exact Or.inl e4
end
section
/-! What writing and making do to the picture. -/
theorem ew_mg_eq (b : Bool) (v w : ew_V) : ew_mg b v w = bif b then v else w := by
  unfold ew_mg
  rcases v with v | ⟨k, i⟩
  · cases v <;> rcases w with w | w <;> cases b <;> first | rfl | (cases w <;> rfl)
  · rcases w with w | ⟨k', i'⟩
    · rfl
    · dsimp only
      cases hk : Nat.beq k k' with
      | false => rfl
      | true =>
        have e := Nat.eq_of_beq_eq_true hk
        subst e
        cases b <;> rfl
theorem ew_beq {a b : Nat} (h : Nat.beq a b = true) : a = b := Nat.eq_of_beq_eq_true h
theorem ew_beqr (a : Nat) : Nat.beq a a = true := Nat.beq_refl a
theorem ew_bne {a b : Nat} (h : ¬ a = b) : Nat.beq a b = false := by
  cases e : Nat.beq a b with
  | false => rfl
  | true => exact absurd (ew_beq e) h
theorem ew_put_self (h : ew_H) (k i s : Nat) (v : ew_V) : (ew_put h k i s v).1 k i s = v := by
  unfold ew_put
  dsimp only
  rw [ew_beqr, ew_beqr, ew_beqr, cond_true, ew_mg_eq]
  rfl
theorem ew_put_at (h : ew_H) (k i : Nat) {s s' : Nat} (v : ew_V) (e : ¬ s' = s) : (ew_put h k i s v).1 k i s' = h.1 k i s' := by
  unfold ew_put
  dsimp only
  rw [ew_beqr, cond_true, ew_mg_eq, ew_bne e]
  rfl
theorem ew_put_ne (h : ew_H) {k i k' i' : Nat} (s s' : Nat) (v : ew_V) (e : ¬ (k' = k ∧ i' = i)) : (ew_put h k i s v).1 k' i' s' = h.1 k' i' s' := by
  unfold ew_put
  dsimp only
  by_cases hk : k' = k
  · subst hk
    rw [ew_beqr, cond_true, ew_mg_eq, ew_bne (fun q => e ⟨rfl, q⟩), Bool.and_false]
    rfl
  · rw [ew_bne hk]
    rfl
theorem ew_cpy_in (h : ew_H) (k i s n : Nat) (f : Nat → ew_V) (j : Nat) : (ew_cpy h k i s n f).1 k i j = if s ≤ j ∧ j < s + n then f (j - s) else h.1 k i j := by
  unfold ew_cpy
  dsimp only
  rw [ew_beqr, ew_beqr, cond_true, cond_true]
  by_cases e1 : s ≤ j
  · by_cases e2 : j < s + n
    · rw [if_pos ⟨e1, e2⟩, Nat.ble_eq_true_of_le e1, show Nat.blt j (s + n) = true from Nat.ble_eq_true_of_le e2]
      rfl
    · rw [if_neg (fun q => e2 q.2)]
      cases e3 : Nat.blt j (s + n) with
      | true => exact absurd (Nat.le_of_ble_eq_true e3) e2
      | false => rw [Bool.and_false]; rfl
  · rw [if_neg (fun q => e1 q.1)]
    cases e3 : Nat.ble s j with
    | true => exact absurd (Nat.le_of_ble_eq_true e3) e1
    | false => rfl
theorem ew_cpy_ne (h : ew_H) {k i k' i' : Nat} (s n : Nat) (f : Nat → ew_V) (j : Nat) (e : ¬ (k' = k ∧ i' = i)) : (ew_cpy h k i s n f).1 k' i' j = h.1 k' i' j := by
  unfold ew_cpy
  dsimp only
  by_cases hk : k' = k
  · subst hk
    rw [ew_beqr, cond_true, ew_bne (fun q => e ⟨rfl, q⟩)]
    rfl
  · rw [ew_bne hk]
    rfl
/-- the places, with a new one for object i of kind k -/
def ew_al (a : Nat → Nat → Nat) (k i q : Nat) : Nat → Nat → Nat := fun k' i' => if k' = k ∧ i' = i then q else a k' i'
theorem ew_al_self (a : Nat → Nat → Nat) (k i q : Nat) : ew_al a k i q k i = q := if_pos ⟨rfl, rfl⟩
theorem ew_al_ne (a : Nat → Nat → Nat) {k i k' i' : Nat} (q : Nat) (e : ¬ (k' = k ∧ i' = i)) : ew_al a k i q k' i' = a k' i' := if_neg e
theorem ew_mk_self (h : ew_H) (k i N : Nat) (z : Nat → ew_V) (s : Nat) : (ew_mk h k i N z).1 k i s = z s := by
  unfold ew_mk
  dsimp only
  rw [ew_beqr, ew_beqr]
  rfl
theorem ew_mk_ne (h : ew_H) {k i k' i' : Nat} (N : Nat) (z : Nat → ew_V) (s : Nat) (e : ¬ (k' = k ∧ i' = i)) : (ew_mk h k i N z).1 k' i' s = h.1 k' i' s := by
  unfold ew_mk
  dsimp only
  by_cases hk : k' = k
  · subst hk
    rw [ew_beqr, cond_true, ew_bne (fun q => e ⟨rfl, q⟩)]
    rfl
  · rw [ew_bne hk]
    rfl
theorem ew_mk_nself (h : ew_H) (k i N : Nat) (z : Nat → ew_V) : (ew_mk h k i N z).2.1 k i = N := by
  unfold ew_mk
  dsimp only
  rw [ew_beqr, ew_beqr]
  rfl
theorem ew_mk_nne (h : ew_H) {k i k' i' : Nat} (N : Nat) (z : Nat → ew_V) (e : ¬ (k' = k ∧ i' = i)) : (ew_mk h k i N z).2.1 k' i' = h.2.1 k' i' := by
  unfold ew_mk
  dsimp only
  by_cases hk : k' = k
  · subst hk
    rw [ew_beqr, cond_true, ew_bne (fun q => e ⟨rfl, q⟩)]
    rfl
  · rw [ew_bne hk]
    rfl
theorem ew_mk_lself (h : ew_H) (k i N : Nat) (z : Nat → ew_V) : (ew_mk h k i N z).2.2.1 k i = true := by
  unfold ew_mk
  dsimp only
  rw [ew_beqr, ew_beqr]
  rfl
theorem ew_mk_lne (h : ew_H) {k i k' i' : Nat} (N : Nat) (z : Nat → ew_V) (e : ¬ (k' = k ∧ i' = i)) : (ew_mk h k i N z).2.2.1 k' i' = h.2.2.1 k' i' := by
  unfold ew_mk
  dsimp only
  by_cases hk : k' = k
  · subst hk
    rw [ew_beqr, cond_true, ew_bne (fun q => e ⟨rfl, q⟩)]
    rfl
  · rw [ew_bne hk]
    rfl
theorem ew_mk_le (h : ew_H) (k i N : Nat) (z : Nat → ew_V) : ew_le h (ew_mk h k i N z) := by
  refine ⟨fun k' i' e => ?_, Nat.le_add_right _ _, Nat.le_add_right _ _⟩
  by_cases q : k' = k ∧ i' = i
  · obtain ⟨rfl, rfl⟩ := q
    exact ew_mk_lself _ _ _ _ _
  · rw [ew_mk_lne h N z q]
    exact e
theorem ew_c_al {a : Nat → Nat → Nat} {h : ew_H} {k i q : Nat} (hk : ¬ k = 31) (hn : h.2.2.1 k i = false) {v : ew_V} (w : ew_wf h v) : ew_c (ew_al a k i q) v = ew_c a v := by
  rcases v with v | ⟨k', i'⟩
  · rfl
  · show Value.ref _ = Value.ref _
    congr 1
    refine ew_al_ne a q (fun e => ?_)
    obtain ⟨rfl, rfl⟩ := e
    rcases w with w | w
    · exact hk w
    · rw [hn] at w
      cases w
theorem ew_cell_kept {G : va_G} {TY : Nat → ClassId} {a a' : Nat → Nat → Nat} {h h' : ew_H} {k i : Nat} {H H' : Heap} (c : ew_cell G TY a h k i H) (ha : a' k i = a k i) (hv : ∀ s, ew_c a' (h'.1 k i s) = ew_c a (h.1 k i s)) (hn : h'.2.1 k i = h.2.1 k i) (hq : H'[a k i]? = H[a k i]?) : ew_cell G TY a' h' k i H' := by
  obtain ⟨cx, cc⟩ := c
  have hf : (fun s => ew_c a' (h'.1 k i s)) = (fun s => ew_c a (h.1 k i s)) := funext hv
  refine ⟨fun hc => ?_, fun hc => ?_⟩
  · obtain ⟨c1, c2⟩ := cx hc
    refine ⟨fun e => ?_, fun e1 e2 => ?_⟩
    · obtain ⟨r, r1, r2⟩ := c1 e
      exact ⟨r, r1, by rw [ha, hf]; exact r2.kept hq⟩
    · rw [ha, hf, hq, c2 e1 e2]
      show some (arrV _ (ew_sl k (h.2.1 k i)) _) = some (arrV _ (ew_sl k (h'.2.1 k i)) _)
      rw [hn]
  · obtain ⟨cell, q1, q2, q3, q4⟩ := cc hc
    refine ⟨cell, by rw [ha, hq]; exact q1, q2, fun e => ?_, fun e1 e2 => ?_⟩
    · obtain ⟨r, r1, r2, r3⟩ := q3 e
      exact ⟨r, r1, r2, fun s hs => by rw [hv]; exact r3 s hs⟩
    · obtain ⟨t1, t2, t3⟩ := q4 e1 e2
      have el : ew_len h' k i = ew_len h k i := by
        show ew_sl k (h'.2.1 k i) = ew_sl k (h.2.1 k i)
        rw [hn]
      exact ⟨t1, by rw [el]; exact t2, fun j hj => by rw [hv]; exact t3 j (by rw [← el]; exact hj)⟩
section EWI
variable {G : va_G} {TY : Nat → ClassId} {sz : Nat} {H0 : Heap} {a : Nat → Nat → Nat} {h : ew_H} {H : Heap}
theorem ew_I_set (I : ew_I G TY sz H0 a h H) {h' : ew_H} {k i : Nat} {H1 : Heap} (hl : h.2.2.1 k i = true) (hc : ew_cst k = false) (e2 : h'.2 = h.2) (hv : ∀ k' i' s, ¬ (k' = k ∧ i' = i) → h'.1 k' i' s = h.1 k' i' s) (hw : ∀ s, ew_wh h (h'.1 k i s))
    (hcell : ew_cell G TY a h' k i H1) (z : H1.size = H.size) (o : ∀ q : Nat, q ≠ a k i → H1[q]? = H[q]?) : ew_I G TY sz H0 a h' H1 := by
  obtain ⟨i1, i2, i3, i4, i5, i6⟩ := I
  have wf' : ∀ v, ew_wh h v → ew_wh h' v := fun v w => by
    rcases v with v | q
    · cases v <;> exact w
    · show h'.2.2.1 _ _ = true
      rw [e2]; exact w
  refine ⟨fun k' i' e => ?_, fun k1 j1 k2 j2 x y q => i2 k1 j1 k2 j2 (by rw [← e2]; exact x) (by rw [← e2]; exact y) q, fun k' i' s e => wf' _ ?_, fun k' i' x y => by rw [e2] at y ⊢; exact i4 k' i' x y, by rw [z]; exact i5, fun q hq => ?_⟩
  · rw [e2] at e
    obtain ⟨c1, c2, c3, c4⟩ := i1 k' i' e
    refine ⟨?_, by rw [z]; exact c2, c3, c4⟩
    by_cases x : k' = k ∧ i' = i
    · obtain ⟨rfl, rfl⟩ := x
      exact hcell
    · exact ew_cell_kept c1 rfl (fun s => by rw [hv k' i' s x]) (by rw [e2]) (o _ (fun q => x (i2 k' i' k i e hl q)))
  · rw [e2] at e
    by_cases x : k' = k ∧ i' = i
    · obtain ⟨rfl, rfl⟩ := x
      exact hw s
    · rw [hv k' i' s x]
      exact i3 k' i' s e
  · rw [o q (fun e => ?_)]
    · exact i6 q hq
    · have := (i1 k i hl).2.2.1 hc
      omega
theorem ew_I_mk (I : ew_I G TY sz H0 a h H) {k i N : Nat} {z : Nat → ew_V} {H1 : Heap} (hk : ew_ct k < 25) (hc : ew_cst k = false) (hn : h.2.2.1 k i = false) (hctr : ew_ctr k = true → i = h.2.2.2.1 k) (hw : ∀ s, ew_wh (ew_mk h k i N z) (z s))
    (hcell : ew_cell G TY (ew_al a k i H.size) (ew_mk h k i N z) k i H1) (hz : H1.size = H.size + 1) (o : ∀ q : Nat, q < H.size → H1[q]? = H[q]?) : ew_I G TY sz H0 (ew_al a k i H.size) (ew_mk h k i N z) H1 := by
  obtain ⟨i1, i2, i3, i4, i5, i6⟩ := I
  have h31 : ¬ k = 31 := fun e => by subst e; exact absurd hk (by decide)
  have old : ∀ k' i', (ew_mk h k i N z).2.2.1 k' i' = true → ¬ (k' = k ∧ i' = i) → h.2.2.1 k' i' = true := fun k' i' e x => by rw [ew_mk_lne h N z x] at e; exact e
  refine ⟨fun k' i' e => ?_, fun k1 j1 k2 j2 x y q => ?_, fun k' i' s e => ?_, fun k' i' x y => ?_, by rw [hz]; omega, fun q hq => by rw [o q (by omega)]; exact i6 q hq⟩
  · by_cases x : k' = k ∧ i' = i
    · obtain ⟨rfl, rfl⟩ := x
      refine ⟨hcell, ?_, fun _ => ?_, hk⟩
      · rw [ew_al_self, hz]; omega
      · rw [ew_al_self]; exact i5
    · obtain ⟨c1, c2, c3, c4⟩ := i1 k' i' (old k' i' e x)
      rw [ew_al_ne a H.size x]
      exact ⟨ew_cell_kept c1 (ew_al_ne a _ x) (fun s => by rw [ew_mk_ne h N z s x, ew_c_al h31 hn (i3 k' i' s (old k' i' e x)).wf]) (ew_mk_nne h N z x) (o _ c2), by rw [hz]; omega, c3, c4⟩
  · by_cases x1 : k1 = k ∧ j1 = i
    · by_cases x2 : k2 = k ∧ j2 = i
      · exact ⟨x1.1.trans x2.1.symm, x1.2.trans x2.2.symm⟩
      · obtain ⟨rfl, rfl⟩ := x1
        rw [ew_al_self, ew_al_ne a H.size x2] at q
        have := (i1 k2 j2 (old k2 j2 y x2)).2.1
        omega
    · by_cases x2 : k2 = k ∧ j2 = i
      · obtain ⟨rfl, rfl⟩ := x2
        rw [ew_al_self, ew_al_ne a H.size x1] at q
        have := (i1 k1 j1 (old k1 j1 x x1)).2.1
        omega
      · rw [ew_al_ne a H.size x1, ew_al_ne a H.size x2] at q
        exact i2 k1 j1 k2 j2 (old k1 j1 x x1) (old k2 j2 y x2) q
  · by_cases x : k' = k ∧ i' = i
    · obtain ⟨rfl, rfl⟩ := x
      rw [ew_mk_self]
      exact hw s
    · rw [ew_mk_ne h N z s x]
      exact (i3 k' i' s (old k' i' e x)).le (ew_mk_le h k i N z)
  · have hy : h.2.2.2.1 k' ≤ i' := by
      refine Nat.le_trans ?_ y
      show _ ≤ (bif Nat.beq k' k then h.2.2.2.1 k' + 1 else h.2.2.2.1 k')
      cases Nat.beq k' k
      · exact Nat.le_refl _
      · exact Nat.le_succ _
    by_cases e : k' = k ∧ i' = i
    · obtain ⟨rfl, rfl⟩ := e
      exfalso
      have e3 := hctr x
      have : (ew_mk h k' i' N z).2.2.2.1 k' = h.2.2.2.1 k' + 1 := by
        show (bif Nat.beq k' k' then h.2.2.2.1 k' + 1 else h.2.2.2.1 k') = _
        rw [ew_beqr]; rfl
      rw [this] at y
      omega
    · rw [ew_mk_lne h N z e]
      exact i4 k' i' x hy
end EWI
end
section
/-! The small machine's steps on the machine: fields. -/
def ew_TW : List Cond := lw_tbl.filter goodWord
def ew_tyP (t : Nat) (ty : FieldType) : Prop := (t = 0 ∧ ty = .int) ∨ (t = 1 ∧ ty = .boolean) ∨ (t = 2 ∧ ((∃ n, ty = .object n) ∨ ∃ u, ty = .array u)) ∨ (t = 3 ∧ ty = .long)
theorem ew_fits {t : Nat} {ty : FieldType} (h : ew_tyP t ty) {v : ew_V} (f : ew_fit t v) (a : Nat → Nat → Nat) : narrow ty (ew_c a v) = ew_c a v ∧ fits ty (ew_c a v) = true := by
  rcases h with ⟨rfl, rfl⟩ | ⟨rfl, rfl⟩ | ⟨rfl, h⟩ | ⟨rfl, rfl⟩
  · rcases v with v | q
    · cases v <;> first | exact f.elim | exact ⟨rfl, rfl⟩
    · exact f.elim
  · rcases v with v | q
    · cases v <;> first | exact f.elim | skip
      rcases f with rfl | rfl <;> exact ⟨rfl, rfl⟩
    · exact f.elim
  · rcases v with v | q
    · cases v <;> first | exact f.elim | skip
      rcases h with ⟨n, rfl⟩ | ⟨u, rfl⟩ <;> exact ⟨rfl, rfl⟩
    · rcases h with ⟨n, rfl⟩ | ⟨u, rfl⟩ <;> exact ⟨rfl, rfl⟩
  · rcases v with v | q
    · cases v <;> first | exact f.elim | exact ⟨rfl, rfl⟩
    · exact f.elim
/-- a class of the list: its words, the types of its fields, their names -/
def ew_ClP (ci : Nat) (r : vw_C) : Prop := (∀ w ∈ u_ws r.1 r.2.1 r.2.2, w ∈ ew_TW) ∧ (∃ ty : Nat → FieldType, ∀ k, k < r.2.2 → parseFieldDescriptor (r.2.1 k).2.2.1 = some (ty k) ∧ ew_c (fun _ _ => 0) (et_dv ci k) = defaultValue (ty k)) ∧
  (∀ a, a < r.2.2 → ∀ b, b < r.2.2 → a ≠ b → (r.2.1 a).2.1 ≠ (r.2.1 b).2.1) ∧ et_N ci = r.2.2 ∧ (∀ s, ∃ v, et_dv ci s = .inl v ∧ ∀ q, v ≠ .ref q)
def ew_FdP (NW : List Cond) (own : String) (x ci s t : Nat) : Prop := ∃ r : vw_C, vwCl[ci]? = some r ∧ s < r.2.2 ∧ (∃ ty, parseFieldDescriptor (r.2.1 s).2.2.1 = some ty ∧ ew_tyP t ty) ∧ ew_ClP ci r ∧ (r.2.1 s).2.2.2 = et_fin ci s ∧ (et_fin ci s = true → (r.2.1 s).1 = r.1) ∧
  ((∃ ref, Cond.fieldLink own x ref (r.2.1 s).2.1 (r.2.1 s).2.2.1 ∈ ew_TW ∧ ((r.2.1 s).1 = ref ∨ Cond.sameField ref (r.2.1 s).1 (r.2.1 s).2.1 (r.2.1 s).2.2.1 ∈ ew_TW)) ∨ ∃ host, Cond.fieldLinkNest own x (r.2.1 s).1 (r.2.1 s).2.1 (r.2.1 s).2.2.1 host ∈ NW)
section ER
variable {p : Program} {l : Launch} {e : Env} {R : Room} {s : State} {m : MethodId} {args : Array Value} {below : List Frame} {meth : Method} {c : Code} {H : Heap} {locs : List Loc} {cells slots : Nat} {Q : State → Prop}
variable {G : va_G} {TY : Nat → ClassId} {sz : Nat} {H0 : Heap} {a : Nat → Nat → Nat} {h : ew_H} {cc : ByteArray} {pc : Nat} {L : Array Slot} {rest : List Value} {NW : List Cond} {own : String}
theorem er_rdO (I : ew_I G TY sz H0 a h H) {k i : Nat} (hl : h.2.2.1 k i = true) (h1 : ew_ct k < 17) : ∃ (r : vw_C) (cell : Cell), vwCl[ew_ct k]? = some r ∧ H[a k i]? = some cell ∧ cell.cls = G.1 (ew_ct k) ∧ (cell.vm ≠ .unknown ∧ cell.vm.isStatics = false) ∧ ∀ s, s < r.2.2 → cell.slots[G.2 (ew_ct k) s]? = some (ew_c a (h.1 k i s)) := by
  obtain ⟨⟨cx, cc⟩, -⟩ := I.1 k i hl
  cases hc : ew_cst k with
  | false =>
    obtain ⟨r, hr, cell, q1, q2, q3, q4⟩ := (cx hc).1 h1
    exact ⟨r, cell, hr, q1, q2, ⟨(by rw [q3]; exact fun z => (by cases z)), (by rw [q3]; rfl)⟩, q4⟩
  | true =>
    obtain ⟨cell, q1, q2, q3, -⟩ := cc hc
    obtain ⟨r, r1, r2, r3⟩ := q3 h1
    exact ⟨r, cell, r1, q1, r2, q2, r3⟩
theorem er_get (hx : p.tables.exec = Jvm.exec) (hb : c.code = cc) (hts : ∀ w ∈ ew_TW, w.before args s = true) (hnw : ∀ w ∈ NW, va_Nw w s) (hK : va_K G vwCl [] s) (hown : s.vm.findClass own = some m.cls) (I : ew_I G TY sz H0 a h H) {k i x ci sl t : Nat} (hl : h.2.2.1 k i = true) (hF : ew_FdP NW own x ci sl t) (hc : ew_ct k = ci) (hci : ci < 17)
    (hdg : decode cc pc = .ok (.getfield x, 3)) (kk : W p l e R s m args below meth c H locs cells slots Q (F0 m (pc + 3) L (ew_c a (h.1 k i sl) :: rest))) : W p l e R s m args below meth c H locs cells slots Q (F0 m pc L (.ref (a k i) :: rest)) := by
  obtain ⟨r, hr, hs, -, hC, -, -, hlk⟩ := hF
  subst hc
  obtain ⟨r', cell, hr', q1, q2, ⟨q3, -⟩, q4⟩ := er_rdO I hl hci
  cases hr.symm.trans hr'
  obtain ⟨hS, hfc, kC, hkC, hkind⟩ := hK.1 _ _ hr
  obtain ⟨cf, kf, fi, f, hi, hsl⟩ := hS sl hs
  have hst := (u_facts hfc hkC (u_lays hts hC.1 hs) hi).1
  have hv : cell.slots[f.slot]? = some (ew_c a (h.1 k i sl)) := by rw [hsl]; exact q4 sl hs
  rcases hlk with ⟨ref, hw, hsame⟩ | ⟨host, hw⟩
  · refine W.getf hx hb hown (hts _ hw) (ref := ref) (name := (r.2.1 sl).2.1) (desc := (r.2.1 sl).2.2.1) (cf := cf) (k := kf) (i := fi) (f := f) ?_ hst q1 q3 hv rfl rfl hdg kk
    rcases hsame with rfl | hsm
    · exact hi
    · exact u_same (hts _ hsm) _ hi
  · exact va_Wgetf hx hb hown (va_Nw.use rfl (hnw _ hw)) hi hst q1 q3 hv rfl rfl hdg kk
theorem er_put (hx : p.tables.exec = Jvm.exec) (hb : c.code = cc) (hts : ∀ w ∈ ew_TW, w.before args s = true) (hK : va_K G vwCl [] s) (hown : s.vm.findClass own = some m.cls) (I : ew_I G TY sz H0 a h H) {k i x ci sl t : Nat} (hl : h.2.2.1 k i = true) (hF : ew_FdP [] own x ci sl t) (hc : ew_ct k = ci) (hci : ci < 17) (hcst : ew_cst k = false)
    (hfin : et_fin ci sl = true → meth.name = "<init>" ∧ ∀ r : vw_C, vwCl[ci]? = some r → r.1 = own)
    {v : ew_V} (hf : ew_fit t v) (hw : ew_wf h v) (hdg : decode cc pc = .ok (.putfield x, 3))
    (kk : ∀ (H1 : Heap) (locs1 : List Loc), (∀ q ∈ locs1, sz ≤ q.base) → ew_I G TY sz H0 a (ew_put h k i sl v) H1 → W p l e R s m args below meth c H1 locs1 cells slots Q (F0 m (pc + 3) L rest)) (hlocs : ∀ q ∈ locs, sz ≤ q.base) : W p l e R s m args below meth c H locs cells slots Q (F0 m pc L (ew_c a v :: .ref (a k i) :: rest)) := by
  obtain ⟨r, hr, hs, ⟨ty, hty, htp⟩, hC, hfe, hfd, hlk⟩ := hF
  subst hc
  obtain ⟨⟨c1, -⟩, -, hsz, -⟩ := I.1 k i hl
  obtain ⟨r', hr', cell, q1, q2, q3, q4⟩ := (c1 hcst).1 hci
  cases hr.symm.trans hr'
  have hKr := hK.1 _ _ hr
  obtain ⟨hS, hfc, kC, hkC, hkind⟩ := id hKr
  obtain ⟨cf, kf, fi, f, hi, hsl⟩ := hS sl hs
  obtain ⟨hC1, ⟨tyf, htyf⟩, hnm, -, -⟩ := hC
  have hap : ∀ x y, x < r.2.2 → y < r.2.2 → x ≠ y → (G.2 (ew_ct k)) x ≠ (G.2 (ew_ct k)) y := va_apart (own := own) (T := r.2.1) (N := r.2.2) (C := r.1) hts hC1 tyf (fun j hj => (htyf j hj).1) hnm hK (by rw [hr])
  have hst := (u_facts hfc hkC (u_lays hts hC1 hs) hi).1
  obtain ⟨hn, hfit⟩ := ew_fits htp hf a
  have hlt : f.slot < cell.slots.size := by rw [hsl]; exact k2_hasslot (q4 sl hs)
  have done : ∀ H' : Heap, H'[a k i]? = some (cell.setSlot f.slot (ew_c a v)) → H'.size = H.size → (∀ q, q ≠ a k i → H'[q]? = H[q]?) → ew_I G TY sz H0 a (ew_put h k i sl v) H' := by
    intro H' e1 e2 e3
    rw [hsl] at e1
    refine ew_I_set I hl hcst rfl (fun k' i' s' ne => ew_put_ne h sl s' v ne) (fun s' => ?_) (ew_cell.of hcst ⟨fun _ => ⟨r, hr, ?_⟩, fun z _ => absurd hci (Nat.not_lt.mpr z)⟩) e2 e3
    · by_cases z : s' = sl
      · subst z; rw [ew_put_self]; exact ew_wh_of hw hf
      · rw [ew_put_at h k i v z]; exact I.2.2.1 k i s' hl
    · refine t_OB.to (V := updV (fun s' => ew_c a (h.1 k i s')) sl (ew_c a v)) ⟨_, e1, q2, q3, t_set q4 hap hs (ew_c a v)⟩ (fun j _ => ?_)
      unfold updV
      by_cases z : j = sl
      · subst z; rw [if_pos rfl, ew_put_self]
      · rw [if_neg z, ew_put_at h k i v z]
  have hloc1 : ∀ q ∈ locs ++ [⟨a k i, f.slot⟩], sz ≤ q.base := fun q hq => by
    rcases List.mem_append.mp hq with z | z
    · exact hlocs q z
    · rw [List.mem_singleton.mp z]
      exact hsz hcst
  rcases hlk with ⟨ref, hwd, hsame⟩ | ⟨host, hwd⟩
  · have hi' : s.fieldFound? ref (r.2.1 sl).2.1 (r.2.1 sl).2.2.1 = some (cf, kf, fi, f) := by
      rcases hsame with rfl | hsm
      · exact hi
      · exact u_same (hts _ hsm) _ hi
    have hlay := hts _ (hC1 _ (u_in_lay hs))
    unfold u_lay at hlay
    cases hfn : et_fin (ew_ct k) sl with
    | false =>
      rw [if_neg (by rw [hfe, hfn]; decide)] at hlay
      have h6 := u_store hfc hkC hkind hlay hi hty hn hfit
      exact W.putK hx hb (f := f) ⟨hown, hts _ hwd, ⟨_, _, _, hi'⟩, hst⟩ (by rw [q2]; exact h6) q1 q3 hlt rfl rfl hdg fun H' e1 e2 e3 => kk H' _ hloc1 (done H' e1 e2 e3)
    | true =>
      rw [if_pos (by rw [hfe, hfn])] at hlay
      obtain ⟨hini, hro⟩ := hfin hfn
      have hcf : m.cls = cf := by
        obtain ⟨_, _, c', _, _, _, -, -, hf', -, -, -, hown2, -⟩ := Cond.laysFinal_spec hlay
        have e1 : c' = cf := by have := hi.symm.trans hf'; simp at this; exact this.1.symm
        rw [hfd hfn, hro r hr] at hown2
        rw [← e1]; exact Option.some.inj (hown.symm.trans hown2)
      have h6 := u_fits hfc hkC hkind (Or.inr hlay) hi hty hn hfit
      exact W.putFinK hx hb hown (hts _ hwd) hi' hst hcf hini (by rw [q2]; exact h6) q1 q3 hlt rfl rfl hdg fun H' e1 e2 e3 => kk H' _ hloc1 (done H' e1 e2 e3)
  · exact absurd hwd List.not_mem_nil
theorem er_new (hx : p.tables.exec = Jvm.exec) (hb : c.code = cc) (hts : ∀ w ∈ ew_TW, w.before args s = true) (hK : va_K G vwCl [] s) (hown : s.vm.findClass own = some m.cls) (I : ew_I G TY sz H0 a h H) {k x ci : Nat} {r : vw_C} (hr : vwCl[ci]? = some r) (hC : ew_ClP ci r) (hc : ew_ct k = ci) (hci : ci < 17) (hcst : ew_cst k = false) (hctr : ew_ctr k = true)
    (hlk : Cond.classLink own x r.1 ∈ ew_TW) (hin : Cond.instantiable r.1 r.2.2 ∈ ew_TW) (hini : Cond.initialized r.1 ∈ ew_TW) (hcells : cells + 1 ≤ R.cells) (hslots : slots + r.2.2 ≤ R.slots) (hdg : decode cc pc = .ok (.new x, 3))
    (kk : ∀ (H1 : Heap), ew_I G TY sz H0 (ew_al a k (h.2.2.2.1 k) H.size) (ew_mk h k (h.2.2.2.1 k) (et_N ci) (et_dv ci)) H1 → W p l e R s m args below meth c H1 locs (cells + 1) (slots + et_N ci) Q (F0 m (pc + 3) L (.ref (ew_al a k (h.2.2.2.1 k) H.size k (h.2.2.2.1 k)) :: rest))) : W p l e R s m args below meth c H locs cells slots Q (F0 m pc L rest) := by
  obtain ⟨hC1, ⟨tyf, htyf⟩, hnm, hN, hdv⟩ := hC
  have hKn := hK.1 _ _ hr
  subst hc
  refine W.newcK hx hb hown (hts _ hlk) (hts _ hin) (hts _ hini) rfl hdg hcells hslots hKn.2.1 rfl fun H1 kC hkC e1 z1 o1 => ?_
  have hn : h.2.2.1 k (h.2.2.2.1 k) = false := I.2.2.2.1 k _ hctr (Nat.le_refl _)
  have key := kk H1 (ew_I_mk I (by omega) hcst hn (fun _ => rfl) (fun s' => by obtain ⟨v, ev, hv⟩ := hdv s'; rw [ev]; cases v <;> first | exact trivial | exact absurd rfl (hv _)) (ew_cell.of hcst ⟨fun _ => ⟨r, hr, ?_⟩, fun z _ => absurd hci (Nat.not_lt.mpr z)⟩) z1 o1)
  · rw [hN, ew_al_self] at key
    exact key
  · rw [ew_al_self]
    refine (u_born tyf hts hC1 hKn hkC e1 (fun j hj => (htyf j hj).1)).to (fun j hj => ?_)
    rw [ew_mk_self, ← (htyf j hj).2]
    obtain ⟨v, ev, hv⟩ := hdv j
    rw [ev]
    rfl
end ER
end
section
/-! The small machine's steps on the machine: arrays. -/
def ew_AT (TY : Nat → ClassId) (s : State) : Prop := (∀ t, 17 ≤ t → t < 25 → ArrOfT s (TY t) (ew_ty t) ∧ va_RA s (TY t) (ew_ty t)) ∧ ∀ k, (k = 17 ∨ k = 49) → ArrOfT s (TY (100 + k)) .int
section EA
variable {p : Program} {l : Launch} {e : Env} {R : Room} {s : State} {m : MethodId} {args : Array Value} {below : List Frame} {meth : Method} {c : Code} {H : Heap} {locs : List Loc} {cells slots : Nat} {Q : State → Prop}
variable {G : va_G} {TY : Nat → ClassId} {sz : Nat} {H0 : Heap} {a : Nat → Nat → Nat} {h : ew_H} {cc : ByteArray} {pc : Nat} {L : Array Slot} {rest : List Value} {own : String} {k i : Nat}
theorem ew_tyR {t : Nat} (h1 : 20 ≤ t) : (ew_ty t).isReference = true := by
  unfold ew_ty
  split <;> first | omega | rfl
/-- arrays of arrays of ints can be made -/
def ew_AA (U : State) : Prop := (Cond.arrayOver (.array .int)).before #[] U = true
theorem ew_AA.use {A : Array Value} {U : State} (h : ew_AA U) : (Cond.arrayOver (.array .int)).before A U = true := h
theorem ew_AA.of {A : Array Value} {U : State} (h : (Cond.arrayOver (.array .int)).before A U = true) : ew_AA U := h
theorem ew_AT.tc {TY : Nat → ClassId} {s : State} (hA : ew_AT TY s) {k : Nat} (h1 : 17 ≤ ew_ct k) (h2 : ew_ct k < 25) : ArrOfT s (ew_tc TY k) (ew_ty (ew_ct k)) := by
  unfold ew_tc
  cases hb : Nat.beq k 17 || Nat.beq k 49 with
  | false => rw [cond_false]; exact (hA.1 _ h1 h2).1
  | true =>
    rw [cond_true]
    rw [Bool.or_eq_true] at hb
    rcases hb with hb | hb
    · have := hA.2 k (Or.inl (ew_beq hb))
      rw [ew_beq hb] at this ⊢
      exact this
    · have := hA.2 k (Or.inr (ew_beq hb))
      rw [ew_beq hb] at this ⊢
      exact this
/-- reading an array -/
theorem er_rdA (hA : ew_AT TY s) (I : ew_I G TY sz H0 a h H) (hl : h.2.2.1 k i = true) (h1 : 17 ≤ ew_ct k) (h2 : ew_ct k < 25) : ∃ cell : Cell, H[a k i]? = some cell ∧ s.isArrayOf cell (ew_ty (ew_ct k)) ∧ (cell.vm ≠ .unknown ∧ cell.vm.isStatics = false) ∧ (ew_len h k i ≤ cell.slots.size ∧ cell.slots.size.toInt32 = Int32.ofNat (ew_len h k i)) ∧ (∀ j, j < ew_len h k i → cell.slots[j]? = some (ew_c a (h.1 k i j))) ∧ cell.cls = ew_tc TY k := by
  obtain ⟨⟨cx, cc⟩, -⟩ := I.1 k i hl
  cases hc : ew_cst k with
  | false =>
    have htc : ew_tc TY k = TY (ew_ct k) := by
      unfold ew_tc
      cases hb : Nat.beq k 17 || Nat.beq k 49 with
      | false => rfl
      | true =>
        rw [Bool.or_eq_true] at hb
        rcases hb with hb | hb <;> (rw [ew_beq hb] at hc; exact absurd hc (by decide))
    exact ⟨_, (cx hc).2 h1 h2, (hA.1 _ h1 h2).1 _ _, ⟨fun q => (by cases q), rfl⟩, ⟨Nat.le_of_eq (arrV_size _ _ _).symm, (by rw [arrV_size])⟩, fun j hj => arrV_read _ _ hj, htc.symm⟩
  | true =>
    obtain ⟨cell, q1, q2, -, q3⟩ := cc hc
    obtain ⟨t1, t2, t3⟩ := q3 h1 h2
    obtain ⟨-, kA, hk, comp, hkind⟩ := hA.tc h1 h2 0 (fun _ => .null)
    exact ⟨cell, q1, ⟨fun q z => (by have := q2.2; rw [z] at this; cases this), kA, (by rw [t1]; exact hk), comp, hkind⟩, q2, t2, t3, t1⟩
theorem er_alen (hx : p.tables.exec = Jvm.exec) (hb : c.code = cc) (hA : ew_AT TY s) (I : ew_I G TY sz H0 a h H) (hl : h.2.2.1 k i = true) (h1 : 17 ≤ ew_ct k) (h2 : ew_ct k < 25) (hdg : decode cc pc = .ok (.arraylength, 1))
    (kk : W p l e R s m args below meth c H locs cells slots Q (F0 m (pc + 1) L (.int (Int32.ofNat (ew_len h k i)) :: rest))) : W p l e R s m args below meth c H locs cells slots Q (F0 m pc L (.ref (a k i) :: rest)) := by
  obtain ⟨cell, q1, q2, q3, q4, -⟩ := er_rdA hA I hl h1 h2
  exact W.alen (n := Int32.ofNat (ew_len h k i)) hx hb q1 q2 q4.2 rfl rfl hdg kk
theorem er_ix {i : Int32} {n : Nat} {cA : ClassId} {f : Nat → Value} (h : ew_ix i n) : ¬ (i < 0 ∨ (arrV cA n f).slots.size ≤ i.toNatClampNeg) ∧ i.toNatClampNeg < n := by
  refine ⟨by rw [arrV_size]; exact h, Nat.not_le.mp fun q => h (Or.inr q)⟩
theorem er_iald (hx : p.tables.exec = Jvm.exec) (hb : c.code = cc) (hA : ew_AT TY s) (I : ew_I G TY sz H0 a h H) (hl : h.2.2.1 k i = true) (h1 : ew_ct k = 17) {j : Int32} (hj : ew_ix j (ew_len h k i)) (hdg : decode cc pc = .ok (.iaload, 1))
    (kk : W p l e R s m args below meth c H locs cells slots Q (F0 m (pc + 1) L (ew_c a (h.1 k i j.toNatClampNeg) :: rest))) : W p l e R s m args below meth c H locs cells slots Q (F0 m pc L (.int j :: .ref (a k i) :: rest)) := by
  obtain ⟨cell, q1, q2, q3, q4, q5, -⟩ := er_rdA hA I hl (by omega) (by omega)
  rw [h1] at q2
  exact W.iald hx hb q1 q2 q3.1 (fun w => hj (w.imp id (fun w => Nat.le_trans q4.1 w))) (q5 _ (er_ix (cA := TY 17) (f := fun _ => .null) hj).2) rfl rfl hdg kk
theorem er_zald (hx : p.tables.exec = Jvm.exec) (hb : c.code = cc) (hA : ew_AT TY s) (I : ew_I G TY sz H0 a h H) (hl : h.2.2.1 k i = true) (h1 : ew_ct k = 18) {j : Int32} (hj : ew_ix j (ew_len h k i)) (hdg : decode cc pc = .ok (.baload, 1))
    (kk : W p l e R s m args below meth c H locs cells slots Q (F0 m (pc + 1) L (ew_c a (h.1 k i j.toNatClampNeg) :: rest))) : W p l e R s m args below meth c H locs cells slots Q (F0 m pc L (.int j :: .ref (a k i) :: rest)) := by
  obtain ⟨cell, q1, q2, q3, q4, q5, -⟩ := er_rdA hA I hl (by omega) (by omega)
  rw [h1] at q2
  exact W.zald hx hb q1 q2 q3.1 (fun w => hj (w.imp id (fun w => Nat.le_trans q4.1 w))) (q5 _ (er_ix (cA := TY 17) (f := fun _ => .null) hj).2) rfl rfl hdg kk
theorem er_aald (hx : p.tables.exec = Jvm.exec) (hb : c.code = cc) (hA : ew_AT TY s) (I : ew_I G TY sz H0 a h H) (hl : h.2.2.1 k i = true) (h1 : 20 ≤ ew_ct k) (h2 : ew_ct k < 25) {j : Int32} (hj : ew_ix j (ew_len h k i)) (hdg : decode cc pc = .ok (.aaload, 1))
    (kk : W p l e R s m args below meth c H locs cells slots Q (F0 m (pc + 1) L (ew_c a (h.1 k i j.toNatClampNeg) :: rest))) : W p l e R s m args below meth c H locs cells slots Q (F0 m pc L (.int j :: .ref (a k i) :: rest)) := by
  obtain ⟨cell, q1, q2, q3, q4, q5, -⟩ := er_rdA hA I hl (by omega) h2
  exact W.aald (ty := ew_ty (ew_ct k)) hx hb q1 q2 (ew_tyR h1) q3.1 (fun w => hj (w.imp id (fun w => Nat.le_trans q4.1 w))) (q5 _ (er_ix (cA := TY 17) (f := fun _ => .null) hj).2) rfl rfl hdg kk
/-- what a store into an array does to the picture -/
theorem er_stored (I : ew_I G TY sz H0 a h H) (hl : h.2.2.1 k i = true) (h1 : 17 ≤ ew_ct k) (h2 : ew_ct k < 25) (hcst : ew_cst k = false) {j : Nat} {v : ew_V} (hw : ew_wh h v) {H' : Heap}
    (e1 : H'[a k i]? = some ((arrV (TY (ew_ct k)) (ew_len h k i) (fun s => ew_c a (h.1 k i s))).setSlot j (ew_c a v))) (e2 : H'.size = H.size) (e3 : ∀ q, q ≠ a k i → H'[q]? = H[q]?) : ew_I G TY sz H0 a (ew_put h k i j v) H' := by
  refine ew_I_set I hl hcst rfl (fun k' i' s' ne => ew_put_ne h j s' v ne) (fun s' => ?_) (ew_cell.of hcst ⟨fun z => absurd h1 (Nat.not_le.mpr z), fun _ _ => ?_⟩) e2 e3
  · by_cases z : s' = j
    · subst z; rw [ew_put_self]; exact hw
    · rw [ew_put_at h k i v z]; exact I.2.2.1 k i s' hl
  · rw [e1, arrV_store]
    congr 2
    funext s'
    unfold updV
    by_cases z : s' = j
    · subst z; rw [if_pos rfl, ew_put_self]
    · rw [if_neg z, ew_put_at h k i v z]
theorem er_locs {locs : List Loc} {q : Loc} (hlocs : ∀ q ∈ locs, sz ≤ q.base) (hq : sz ≤ q.base) : ∀ z ∈ locs ++ [q], sz ≤ z.base := fun z hz => by
  rcases List.mem_append.mp hz with z1 | z1
  · exact hlocs z z1
  · rw [List.mem_singleton.mp z1]; exact hq
theorem er_iast (hx : p.tables.exec = Jvm.exec) (hb : c.code = cc) (hA : ew_AT TY s) (I : ew_I G TY sz H0 a h H) (hl : h.2.2.1 k i = true) (h1 : ew_ct k = 17) (hcst : ew_cst k = false) (hlocs : ∀ q ∈ locs, sz ≤ q.base) {j x : Int32} (hj : ew_ix j (ew_len h k i)) (hdg : decode cc pc = .ok (.iastore, 1))
    (kk : ∀ (H1 : Heap) (locs1 : List Loc), (∀ q ∈ locs1, sz ≤ q.base) → ew_I G TY sz H0 a (ew_put h k i j.toNatClampNeg (ew_i x)) H1 → W p l e R s m args below meth c H1 locs1 cells slots Q (F0 m (pc + 1) L rest)) : W p l e R s m args below meth c H locs cells slots Q (F0 m pc L (.int x :: .int j :: .ref (a k i) :: rest)) := by
  have hc := ((I.1 k i hl).1.1 hcst).2 (by omega) (by omega)
  have hAt := (hA.1 17 (by decide) (by decide)).1
  have hc' := hc
  rw [h1] at hc'
  refine W.iast hx hb hc' (hAt _ _) (fun q => by cases q) (er_ix hj).1 rfl rfl hdg fun H' e1 e2 e3 => kk H' _ (er_locs hlocs ((I.1 k i hl).2.2.1 hcst)) (er_stored (v := ew_i x) I hl (by omega) (by omega) hcst trivial (by rw [h1]; exact e1) e2 e3)
theorem er_zast (hx : p.tables.exec = Jvm.exec) (hb : c.code = cc) (hA : ew_AT TY s) (I : ew_I G TY sz H0 a h H) (hl : h.2.2.1 k i = true) (h1 : ew_ct k = 18) (hcst : ew_cst k = false) (hlocs : ∀ q ∈ locs, sz ≤ q.base) {j x : Int32} (hj : ew_ix j (ew_len h k i)) (h01 : x = 0 ∨ x = 1) (hdg : decode cc pc = .ok (.bastore, 1))
    (kk : ∀ (H1 : Heap) (locs1 : List Loc), (∀ q ∈ locs1, sz ≤ q.base) → ew_I G TY sz H0 a (ew_put h k i j.toNatClampNeg (ew_i x)) H1 → W p l e R s m args below meth c H1 locs1 cells slots Q (F0 m (pc + 1) L rest)) : W p l e R s m args below meth c H locs cells slots Q (F0 m pc L (.int x :: .int j :: .ref (a k i) :: rest)) := by
  have hc := ((I.1 k i hl).1.1 hcst).2 (by omega) (by omega)
  have hAt := (hA.1 18 (by decide) (by decide)).1
  have hn : narrow .boolean (.int x) = .int x := by rcases h01 with rfl | rfl <;> rfl
  have hc' := hc
  rw [h1] at hc'
  refine W.zast hx hb hc' (hAt _ _) (fun q => by cases q) (er_ix hj).1 rfl rfl hdg fun H' e1 e2 e3 => kk H' _ (er_locs hlocs ((I.1 k i hl).2.2.1 hcst)) (er_stored (v := ew_i x) I hl (by omega) (by omega) hcst trivial (by rw [hn] at e1; rw [h1]; exact e1) e2 e3)
theorem er_cv (hA : ew_AT TY s) (I : ew_I G TY sz H0 a h H) {k' i' : Nat} (hl' : h.2.2.1 k' i' = true) (hft : ew_fit 2 (ew_o k' i')) : ∃ cv : Cell, H[a k' i']? = some cv ∧ cv.vm.isStatics = false ∧ cv.cls = (if ew_ct k' < 17 then G.1 (ew_ct k') else TY (ew_ct k')) := by
  have h25 := (I.1 k' i' hl').2.2.2
  by_cases z : ew_ct k' < 17
  · obtain ⟨r, cell, -, q1, q2, q3, -⟩ := er_rdO I hl' z
    exact ⟨cell, q1, q3.2, by rw [if_pos z]; exact q2⟩
  · obtain ⟨cell, q1, -, q3, -, -, q6⟩ := er_rdA hA I hl' (by omega) h25
    refine ⟨cell, q1, q3.2, ?_⟩
    rw [if_neg z, q6]
    unfold ew_tc
    have hft : (Nat.beq k' 31 || (Nat.beq k' 17 || Nat.beq k' 49)) = false := hft
    rw [Bool.or_eq_false_iff] at hft
    rw [hft.2, cond_false]
/-- the object may lie in the array -/
def ew_asP (TY : Nat → ClassId) (G : va_G) (s : State) (k k' : Nat) : Prop := ∀ (kA : Class) (comp : ClassId) (t : FieldType), s.vm.classes[TY (ew_ct k)]? = some kA → kA.kind = .array comp t →
  (∃ kc, s.vm.classes[comp]? = some kc) ∧ ∃ kv, s.vm.classes[(if ew_ct k' < 17 then G.1 (ew_ct k') else TY (ew_ct k'))]? = some kv ∧ s.vm.assignable (if ew_ct k' < 17 then G.1 (ew_ct k') else TY (ew_ct k')) comp = true
theorem er_aast (hx : p.tables.exec = Jvm.exec) (hb : c.code = cc) (hA : ew_AT TY s) (I : ew_I G TY sz H0 a h H) (hl : h.2.2.1 k i = true) (h1 : 20 ≤ ew_ct k) (h2 : ew_ct k < 25) (hcst : ew_cst k = false) (hlocs : ∀ q ∈ locs, sz ≤ q.base) {j : Int32} (hj : ew_ix j (ew_len h k i)) {k' i' : Nat} (hl' : h.2.2.1 k' i' = true) (hft : ew_fit 2 (ew_o k' i')) (has : ew_asP TY G s k k') (hdg : decode cc pc = .ok (.aastore, 1))
    (kk : ∀ (H1 : Heap) (locs1 : List Loc), (∀ q ∈ locs1, sz ≤ q.base) → ew_I G TY sz H0 a (ew_put h k i j.toNatClampNeg (ew_o k' i')) H1 → W p l e R s m args below meth c H1 locs1 cells slots Q (F0 m (pc + 1) L rest)) : W p l e R s m args below meth c H locs cells slots Q (F0 m pc L (.ref (a k' i') :: .int j :: .ref (a k i) :: rest)) := by
  have hc := ((I.1 k i hl).1.1 hcst).2 (by omega) h2
  obtain ⟨-, kA, k1, comp, k2⟩ := (hA.1 _ (by omega) h2).1 0 (fun _ => .null)
  obtain ⟨⟨kc, hkc⟩, kv, hkv, hasg⟩ := has kA comp _ k1 k2
  obtain ⟨cv, g1, g2, g3⟩ := er_cv hA I hl' hft
  refine W.aast hx hb hc (fun q z => by cases z) (fun z => by cases z) k1 k2 (ew_tyR h1) hkc ⟨fun z => hj (Or.inl z), by rw [arrV_size]; exact (er_ix (cA := TY 17) (f := fun _ => .null) hj).2⟩ g1 (fun q z => by rw [z] at g2; cases g2) (by rw [g3]; exact hkv) (by rw [g3]; exact hasg) rfl rfl hdg fun H' e1 e2 e3 => kk H' _ (er_locs hlocs ((I.1 k i hl).2.2.1 hcst)) (er_stored (v := ew_o k' i') I hl (by omega) h2 hcst hl' e1 e2 e3)
theorem er_made (I : ew_I G TY sz H0 a h H) {N : Nat} {z : ew_V} (h1 : 17 ≤ ew_ct k) (h2 : ew_ct k < 25) (hcst : ew_cst k = false) (hn : h.2.2.1 k i = false) (hctr : ew_ctr k = true → i = h.2.2.2.1 k) (hz : ∃ v, z = .inl v ∧ ∀ q, v ≠ .ref q) (hsl : ew_sl k N = N) {H1 : Heap}
    (e1 : H1[H.size]? = some (arrV (TY (ew_ct k)) N (fun _ => ew_c a z))) (e2 : H1.size = H.size + 1) (e3 : ∀ q : Nat, q < H.size → H1[q]? = H[q]?) : ew_I G TY sz H0 (ew_al a k i H.size) (ew_mk h k i N (fun _ => z)) H1 := by
  obtain ⟨v, rfl, hv⟩ := hz
  refine ew_I_mk I h2 hcst hn hctr (fun s' => by cases v <;> first | exact trivial | exact absurd rfl (hv _)) (ew_cell.of hcst ⟨fun q => absurd h1 (Nat.not_le.mpr q), fun _ _ => ?_⟩) e2 e3
  rw [ew_al_self, e1]
  congr 2
  · rw [ew_len, ew_mk_nself, hsl]
  · funext s'
    rw [ew_mk_self]
    rfl
theorem er_newa (hx : p.tables.exec = Jvm.exec) (hb : c.code = cc) (hA : ew_AT TY s) (I : ew_I G TY sz H0 a h H) {at' : ArrayType} (hty : ew_ty (ew_ct k) = newarray.typeOf at') (hcl : (Cond.arrayClass (newarray.typeOf at')).before args s = true) (h1 : 17 ≤ ew_ct k) (h2 : ew_ct k < 20) (hcst : ew_cst k = false) (hctr : ew_ctr k = true) {z : ew_V} (hz : ∃ v, z = .inl v ∧ ∀ q, v ≠ .ref q) (hdv : ew_c a z = defaultValue (newarray.typeOf at'))
    {n : Int32} (hn : ¬ n < 0) (hsl : ew_sl k n.toNatClampNeg = n.toNatClampNeg) (hN : n.toNatClampNeg ≤ 1000000) (hcells : cells + 1 ≤ R.cells) (hslots : slots + n.toNatClampNeg ≤ R.slots) (hdg : decode cc pc = .ok (.newarray at', 2))
    (kk : ∀ (H1 : Heap), ew_I G TY sz H0 (ew_al a k (h.2.2.2.1 k) H.size) (ew_mk h k (h.2.2.2.1 k) n.toNatClampNeg (fun _ => z)) H1 → W p l e R s m args below meth c H1 locs (cells + 1) (slots + n.toNatClampNeg) Q (F0 m (pc + 2) L (.ref (ew_al a k (h.2.2.2.1 k) H.size k (h.2.2.2.1 k)) :: rest))) : W p l e R s m args below meth c H locs cells slots Q (F0 m pc L (.int n :: rest)) := by
  have hra := (hA.1 _ h1 (by omega)).2
  refine va_newaK hx hb hcl rfl hdg rfl hn rfl (by cases at' <;> (simp only [newarray.typeOf, componentBytes]; omega)) hcells hslots rfl fun H1 cA e1 z1 o1 hAr hNm => ?_
  have hcA : cA = TY (ew_ct k) := by
    rw [hty] at hra
    have h3 : s.vm.findClass ("[" ++ (newarray.typeOf at').toString) = some (TY (ew_ct k)) := by cases at' <;> exact hra
    exact Option.some.inj (hNm.symm.trans h3)
  subst hcA
  have key := kk H1 (er_made I h1 (by omega) hcst (I.2.2.2.1 k _ hctr (Nat.le_refl _)) (fun _ => rfl) hz hsl (by rw [hdv]; exact e1) z1 o1)
  rw [ew_al_self] at key
  exact key
theorem er_anewa (hx : p.tables.exec = Jvm.exec) (hb : c.code = cc) (hown : s.vm.findClass own = some m.cls) (hA : ew_AT TY s) (I : ew_I G TY sz H0 a h H) {C : String} {x : Nat} (hty : ew_ty (ew_ct k) = .object C) (hlk : (Cond.classLink own x C).before args s = true) (hov : va_AO C s) (h1 : 20 ≤ ew_ct k) (h2 : ew_ct k < 25) (hcst : ew_cst k = false) (hnl : h.2.2.1 k i = false) (hctr : ew_ctr k = true → i = h.2.2.2.1 k)
    {n : Int32} (hn : ¬ n < 0) (hsl : ew_sl k n.toNatClampNeg = n.toNatClampNeg) (hN : n.toNatClampNeg ≤ 1000000) (hcells : cells + 1 ≤ R.cells) (hslots : slots + n.toNatClampNeg ≤ R.slots) (hdg : decode cc pc = .ok (.anewarray x, 3))
    (kk : ∀ (H1 : Heap), ew_I G TY sz H0 (ew_al a k i H.size) (ew_mk h k i n.toNatClampNeg (fun _ => ew_0)) H1 → W p l e R s m args below meth c H1 locs (cells + 1) (slots + n.toNatClampNeg) Q (F0 m (pc + 3) L (.ref (ew_al a k i H.size k i) :: rest))) : W p l e R s m args below meth c H locs cells slots Q (F0 m pc L (.int n :: rest)) := by
  have hra := (hA.1 _ (by omega) h2).2
  rw [hty] at hra
  obtain ⟨kA0, comp0, r1, r2, r3, r4⟩ := hra
  refine W.anew hx hb hown hlk (va_AO.use hov) rfl hdg rfl hn (by omega) hcells hslots fun cA kA comp f1 f2 f3 f4 => ?_
  have hcA : cA = TY (ew_ct k) := Option.some.inj (f1.symm.trans r4)
  subst hcA
  generalize hH1 : H.push ({ cls := TY (ew_ct k), slots := Array.replicate n.toNatClampNeg .null, vm := .none } : Cell) = H1
  have z1 : H1.size = H.size + 1 := by rw [← hH1, Array.size_push]
  have e1 : H1[H.size]? = some (arrV (TY (ew_ct k)) n.toNatClampNeg (fun _ => .null)) := by rw [← hH1, Array.getElem?_push_size, ← arrV_new]
  have o1 : ∀ q : Nat, q < H.size → H1[q]? = H[q]? := fun q hq => by rw [← hH1, Array.getElem?_push, if_neg (Nat.ne_of_lt hq)]
  have key := kk H1 (er_made (z := ew_0) I (by omega) h2 hcst hnl hctr ⟨_, rfl, fun q z => by cases z⟩ hsl e1 z1 o1)
  rw [ew_al_self] at key
  exact key
theorem er_anewA (hx : p.tables.exec = Jvm.exec) (hb : c.code = cc) (hown : s.vm.findClass own = some m.cls) (hA : ew_AT TY s) (I : ew_I G TY sz H0 a h H) {x : Nat} (hty : ew_ty (ew_ct k) = .array .int) (hlk : (Cond.classLink own x "[I").before args s = true) (hov : ew_AA s) (h1 : 20 ≤ ew_ct k) (h2 : ew_ct k < 25) (hcst : ew_cst k = false) (hnl : h.2.2.1 k i = false) (hctr : ew_ctr k = true → i = h.2.2.2.1 k)
    {n : Int32} (hn : ¬ n < 0) (hsl : ew_sl k n.toNatClampNeg = n.toNatClampNeg) (hN : n.toNatClampNeg ≤ 1000000) (hcells : cells + 1 ≤ R.cells) (hslots : slots + n.toNatClampNeg ≤ R.slots) (hdg : decode cc pc = .ok (.anewarray x, 3))
    (kk : ∀ (H1 : Heap), ew_I G TY sz H0 (ew_al a k i H.size) (ew_mk h k i n.toNatClampNeg (fun _ => ew_0)) H1 → W p l e R s m args below meth c H1 locs (cells + 1) (slots + n.toNatClampNeg) Q (F0 m (pc + 3) L (.ref (ew_al a k i H.size k i) :: rest))) : W p l e R s m args below meth c H locs cells slots Q (F0 m pc L (.int n :: rest)) := by
  have hra := (hA.1 _ (by omega) h2).2
  rw [hty] at hra
  refine W.anewA (t := .int) hx hb hown hlk hov.use rfl hdg rfl hn (by omega) hcells hslots fun cA kA comp f1 f2 f3 f4 => ?_
  have hcA : cA = TY (ew_ct k) := Option.some.inj (f1.symm.trans hra)
  subst hcA
  generalize hH1 : H.push ({ cls := TY (ew_ct k), slots := Array.replicate n.toNatClampNeg .null, vm := .none } : Cell) = H1
  have z1 : H1.size = H.size + 1 := by rw [← hH1, Array.size_push]
  have e1 : H1[H.size]? = some (arrV (TY (ew_ct k)) n.toNatClampNeg (fun _ => .null)) := by rw [← hH1, Array.getElem?_push_size, ← arrV_new]
  have o1 : ∀ q : Nat, q < H.size → H1[q]? = H[q]? := fun q hq => by rw [← hH1, Array.getElem?_push, if_neg (Nat.ne_of_lt hq)]
  have key := kk H1 (er_made (z := ew_0) I (by omega) h2 hcst hnl hctr ⟨_, rfl, fun q z => by cases z⟩ hsl e1 z1 o1)
  rw [ew_al_self] at key
  exact key
end EA
end
section
/-! System.arraycopy and casts. -/
section EC
variable {p : Program} {l : Launch} {e : Env} {R : Room} {s : State} {m : MethodId} {args : Array Value} {below : List Frame} {meth : Method} {c : Code} {H : Heap} {locs : List Loc} {cells slots : Nat} {Q : State → Prop}
variable {G : va_G} {TY : Nat → ClassId} {sz : Nat} {H0 : Heap} {a : Nat → Nat → Nat} {h : ew_H} {cc : ByteArray} {pc : Nat} {L : Array Slot} {rest : List Value} {own : String} {k i : Nat}
def ew_AS (TY : Nat → ClassId) (G : va_G) (s : State) : Prop := ∀ k k' i', ew_asg k (.inr (k', i')) = true → ew_asP TY G s k k'
theorem er_cast (hx : p.tables.exec = Jvm.exec) (hb : c.code = cc) (hown : s.vm.findClass own = some m.cls) (hK : va_K G vwCl [] s) (I : ew_I G TY sz H0 a h H) (hl : h.2.2.1 k i = true) (h1 : ew_ct k < 17) {x : Nat} {r : vw_C} (hr : vwCl[ew_ct k]? = some r) (hlk : (Cond.classLink own x r.1).before args s = true) (hdg : decode cc pc = .ok (.checkcast x, 3))
    (kk : W p l e R s m args below meth c H locs cells slots Q (F0 m (pc + 3) L (.ref (a k i) :: rest))) : W p l e R s m args below meth c H locs cells slots Q (F0 m pc L (.ref (a k i) :: rest)) := by
  obtain ⟨r', cell, hr', q1, q2, q3, -⟩ := er_rdO I hl h1
  cases hr.symm.trans hr'
  have hcl := (hK.1 _ _ hr).2
  exact va_castS hx hb hown hlk hcl ⟨cell, q1, q3.2, by rw [q2]; exact hcl.1⟩ hdg kk
theorem er_castA (hx : p.tables.exec = Jvm.exec) (hb : c.code = cc) (hown : s.vm.findClass own = some m.cls) (I : ew_I G TY sz H0 a h H) (hl : h.2.2.1 k i = true) (hcst : ew_cst k = false) (h1 : 17 ≤ ew_ct k) (h2 : ew_ct k < 25) {x : Nat} {nm : String} (hlk : (Cond.classLink own x nm).before args s = true) (hnm : s.vm.findClass nm = some (TY (ew_ct k))) (hdg : decode cc pc = .ok (.checkcast x, 3))
    (kk : W p l e R s m args below meth c H locs cells slots Q (F0 m (pc + 3) L (.ref (a k i) :: rest))) : W p l e R s m args below meth c H locs cells slots Q (F0 m pc L (.ref (a k i) :: rest)) := by
  intro T hT X
  obtain ⟨vm', X', st⟩ := X.checkcastYes hx hown hlk (by rw [hT]; exact ((I.1 k i hl).1.1 hcst).2 h1 h2) rfl hnm (va_asg _ _) (g := F0 m pc L (.ref (a k i) :: rest)) rfl rfl (by rw [hb]; exact hdg)
  obtain ⟨t, a1, b1⟩ := kk (T.setVm vm') hT X'
  exact ⟨t, st t a1, b1⟩
end EC
end
section
/-! Calls: a run of the small machine as a contract, and the four ways of calling. -/
/-- facts of the tables that hold in any state of the run -/
def ew_WP (NW : List Cond) (G : va_G) (TY : Nat → ClassId) (Wd : State → Prop) : Prop :=
  (∀ U U' : State, U.vm = U'.vm → Wd U → Wd U') ∧ (∀ s U : State, s.WarmedH U.vm → Wd s → Wd U) ∧
  ∀ U : State, Wd U → va_K G vwCl [] U ∧ ew_AT TY U ∧ ew_AS TY G U ∧ ∀ w ∈ NW, va_Nw w U
/-- the places agree on what was there -/
def ew_ex (h : ew_H) (a a' : Nat → Nat → Nat) : Prop := ∀ k i, (k = 31 ∨ h.2.2.1 k i = true) → a' k i = a k i
theorem ew_ex.rf (h : ew_H) (a : Nat → Nat → Nat) : ew_ex h a a := fun _ _ _ => rfl
theorem ew_ex.tr {h h' : ew_H} {a a' a'' : Nat → Nat → Nat} (x : ew_ex h a a') (l : ew_le h h') (y : ew_ex h' a' a'') : ew_ex h a a'' := fun k i e => (y k i (e.imp id (l.1 k i))).trans (x k i e)
theorem ew_ex.c {h : ew_H} {a a' : Nat → Nat → Nat} (x : ew_ex h a a') {v : ew_V} (w : ew_wf h v) : ew_c a' v = ew_c a v := by
  rcases v with v | q
  · rfl
  · show Value.ref _ = Value.ref _
    rw [x q.1 q.2 w]
theorem ew_ex.map {h : ew_H} {a a' : Nat → Nat → Nat} (x : ew_ex h a a') {l : List ew_V} (w : ∀ v ∈ l, ew_wf h v) : l.map (ew_c a') = l.map (ew_c a) := List.map_congr_left fun v hv => x.c (w v hv)
theorem ew_ex.al {h : ew_H} {a : Nat → Nat → Nat} {k i q : Nat} (hk : ¬ k = 31) (hn : h.2.2.1 k i = false) : ew_ex h a (ew_al a k i q) := fun k' i' e => ew_al_ne a q (fun z => by
  obtain ⟨rfl, rfl⟩ := z
  rcases e with e | e
  · exact hk e
  · rw [hn] at e; cases e)
/-- the constants lie where they lay, and are there -/
def ew_ck (CK : Nat → Nat → Option Nat) (h : ew_H) (a : Nat → Nat → Nat) : Prop := ∀ k i q, CK k i = some q → h.2.2.1 k i = true ∧ a k i = q
theorem ew_ck.to {CK : Nat → Nat → Option Nat} {h h' : ew_H} {a a' : Nat → Nat → Nat} (c : ew_ck CK h a) (x : ew_ex h a a') (l : ew_le h h') : ew_ck CK h' a' := fun k i q e => ⟨l.1 k i (c k i q e).1, (x k i (Or.inr (c k i q e).1)).trans (c k i q e).2⟩
def ew_Pc (G : va_G) (TY : Nat → ClassId) (sz : Nat) (H0 : Heap) (CK : Nat → Nat → Option Nat) (Wd : State → Prop) (as : List ew_V) (h : ew_H) (a : Nat → Nat → Nat) : Array Value → State → Prop := fun av U => av = (as.map (ew_c a)).toArray ∧ ew_I G TY sz H0 a h U.heap ∧ Wd U ∧ (∀ w ∈ as, ew_wf h w) ∧ ew_ck CK h a
def ew_Qc (G : va_G) (TY : Nat → ClassId) (sz : Nat) (H0 : Heap) (h : ew_H) (a : Nat → Nat → Nat) (v : Option ew_V) (h' : ew_H) : Array Value → State → Outcome → State → Prop := fun _ _ o t => ∃ a', ew_ex h a a' ∧ o = .returned (v.map (ew_c a')) ∧ ew_I G TY sz H0 a' h' t.heap ∧ ∀ w, v = some w → ew_wf h' w
def ew_rm (d : Nat) (h h' : ew_H) : Room := { frames := 6 + d, cells := h'.2.2.2.2.1 - h.2.2.2.2.1, slots := h'.2.2.2.2.2 - h.2.2.2.2.2, locals := 150 + 40 * d }
/-- method z, from objects h to h', with answer v -/
def ew_Mt (l : Launch) (G : va_G) (TY : Nat → ClassId) (sz : Nat) (H0 : Heap) (CK : Nat → Nat → Option Nat) (Wd : State → Prop) (d z : Nat) (as : List ew_V) (h : ew_H) (v : Option ew_V) (h' : ew_H) : Prop :=
  ∀ a, Met l (ew_nm z) (ew_cw z :: ew_TW) (ew_rm d h h') (ew_Pc G TY sz H0 CK Wd as h a) (ew_Qc G TY sz H0 h a v h') (h'.2.2.2.2.1 - h.2.2.2.2.1) (h'.2.2.2.2.2 - h.2.2.2.2.2) (fun q => sz ≤ q)
/-- what the tables say of a method: 0 static, 1 of an object, 2 a constructor -/
def ew_YP (z : Nat) : Prop := ew_cw z ∈ ew_TW ∧ Cond.initialized (ew_nm z).cls ∈ ew_TW ∧ ((ew_nm z).cls ≠ "java/lang/invoke/MethodHandle" ∧ (ew_nm z).cls ≠ "java/lang/invoke/VarHandle") ∧ et_mx z ≤ 20 ∧
  (et_kd z = 0 → Cond.static (ew_nm z) ∈ ew_TW) ∧ (et_kd z = 1 → Cond.instanceMethod (ew_nm z) ∈ ew_TW) ∧ (et_kd z = 2 → Cond.instanceMethod (ew_nm z) ∈ ew_TW ∧ (ew_nm z).name = "<init>" ∧ ew_rt z = none)
def ew_LP (NW : List Cond) (own : String) (x z n : Nat) : Prop := (Cond.methodLink own x (ew_nm z) ∈ ew_TW ∨ ∃ host, Cond.methodLinkNest own x (ew_nm z) host ∈ NW) ∧ (parseMethodDescriptor (ew_nm z).desc).map (fun d => d.parameters.length) = some n
theorem ew_good {ws : List Cond} (h : ∀ w ∈ ws, w ∈ ew_TW) : GoodIn ew_TW ws := fun w hw => ⟨h w hw, good_of_word (List.mem_filter.mp (h w hw)).2⟩
theorem ew_cats_map (a : Nat → Nat → Nat) : ∀ l : List ew_V, ((l.map (ew_c a)).map fun v => v.category).sum = ew_cats l
  | [] => rfl
  | v :: l => by rw [List.map_cons, List.map_cons, List.sum_cons, ew_cats_map a l, ew_c_cat]; rfl
theorem es_cons {st : List ew_V} {v : ew_V} {P : ew_V → Prop} (h1 : P v) (h2 : ∀ w ∈ st, P w) : ∀ w ∈ v :: st, P w := fun w hw => by
  rcases List.mem_cons.mp hw with rfl | q
  · exact h1
  · exact h2 w q
section EC
variable {p : Program} {l : Launch} {e : Env} {R : Room} {s : State} {m : MethodId} {args : Array Value} {below : List Frame} {meth : Method} {c : Code} {H : Heap} {locs : List Loc} {cells slots : Nat} {Q : State → Prop}
variable {G : va_G} {TY : Nat → ClassId} {sz : Nat} {H0 : Heap} {a : Nat → Nat → Nat} {h : ew_H} {cc : ByteArray} {pc : Nat} {L : Array Slot} {own : String} {NW : List Cond} {Wd : State → Prop} {CK : Nat → Nat → Option Nat}
theorem ew_blind (hW : ew_WP NW G TY Wd) {as : List ew_V} : FrameBlind (ew_Pc G TY sz H0 CK Wd as h a) := fun av U g mk q => ⟨q.1, q.2.1, hW.1 U (U.calling g mk av) rfl q.2.2.1, q.2.2.2⟩
/-- what a call gives back -/
theorem er_back {rest : List ew_V} {v : Option ew_V} {h' : ew_H} {g : JFrame} {A : Array Value} (hr : va_Run p l e R s m args below meth c H locs cells slots (h'.2.2.2.2.1 - h.2.2.2.2.1) (h'.2.2.2.2.2 - h.2.2.2.2.2) g (rest.map (ew_c a)) (ew_Qc G TY sz H0 h a v h' A) (fun q => sz ≤ q)) (hrest : ∀ v ∈ rest, ew_wf h v) (hlocs : ∀ q ∈ locs, sz ≤ q.base)
    (kk : ∀ (a' : Nat → Nat → Nat) (H1 : Heap) (locs1 : List Loc), ew_ex h a a' → (∀ q ∈ locs1, sz ≤ q.base) → ew_I G TY sz H0 a' h' H1 → (∀ w, v = some w → ew_wf h' w) → W p l e R s m args below meth c H1 locs1 (cells + (h'.2.2.2.2.1 - h.2.2.2.2.1)) (slots + (h'.2.2.2.2.2 - h.2.2.2.2.2)) Q { g with pc := g.pc + 3, stack := (v.toList ++ rest).map (ew_c a') }) : W p l e R s m args below meth c H locs cells slots Q g := by
  intro T hT X
  obtain ⟨vv, st₀, t, T', L', h0, X', hL, e1, e2, ⟨a', hex, hv, hI, hvw⟩, st⟩ := hr T hT X
  have hvv : vv = v.map (ew_c a') := Outcome.returned.inj hv
  obtain ⟨t2, a1, b1⟩ := kk a' T'.heap (locs ++ L') hex (fun q hq => by
    rcases List.mem_append.mp hq with z | z
    · exact hlocs q z
    · exact hL q z) (by rw [e1]; exact hI) hvw T' rfl X'
  refine ⟨t2, st t2 ?_, b1⟩
  rw [hvv, ← hex.map hrest]
  have : (Option.map (ew_c a') v).toList ++ rest.map (ew_c a') = (v.toList ++ rest).map (ew_c a') := by
    cases v <;> simp
  rw [this]
  exact a1
theorem er_callV (hW : ew_WP NW G TY Wd) (hwd : Wd s) (hx : p.tables.exec = Jvm.exec) (hb : c.code = cc) (hml : c.maxLocals = L.size) (hown : s.vm.findClass own = some m.cls) (hts : ∀ w ∈ ew_TW, w.before args s = true) (I : ew_I G TY sz H0 a h H) (hck : ew_ck CK h a)
    {d x z n k i : Nat} {r : vw_C} (hr : vwCl[ew_ct k]? = some r) (hrc : (ew_nm z).cls = r.1) (h17 : ew_ct k < 17) (hY : ew_YP z) (hkd : et_kd z = 1) (y8 : Cond.selects (ew_nm z).cls (ew_nm z) (ew_nm z) ∈ ew_TW) (hL : ew_LP NW own x z n) {as rest : List ew_V} (hn : as.length = n) (hl : h.2.2.1 k i = true) (haw : ∀ v ∈ as, ew_wf h v) (hrest : ∀ v ∈ rest, ew_wf h v) {v : Option ew_V} {h' : ew_H} (hM : ew_Mt l G TY sz H0 CK Wd d z (ew_o k i :: as) h v h') (hc8 : ew_cats rest ≤ 8)
    (hf : 6 + d + 1 ≤ R.frames) (hlo : 150 + 40 * d + 40 ≤ R.locals) (hlocs : ∀ q ∈ locs, sz ≤ q.base) (hcl : cells + (h'.2.2.2.2.1 - h.2.2.2.2.1) ≤ R.cells) (hsl : slots + (h'.2.2.2.2.2 - h.2.2.2.2.2) ≤ R.slots) (hdg : decode cc pc = .ok (.invokevirtual x, 3))
    (kk : ∀ (a' : Nat → Nat → Nat) (H1 : Heap) (locs1 : List Loc), ew_ex h a a' → (∀ q ∈ locs1, sz ≤ q.base) → ew_I G TY sz H0 a' h' H1 → (∀ w, v = some w → ew_wf h' w) → W p l e R s m args below meth c H1 locs1 (cells + (h'.2.2.2.2.1 - h.2.2.2.2.1)) (slots + (h'.2.2.2.2.2 - h.2.2.2.2.2)) Q (F0 m (pc + 3) L ((v.toList ++ rest).map (ew_c a')))) :
    W p l e R s m args below meth c H locs cells slots Q (F0 m pc L ((as.reverse ++ ew_o k i :: rest).map (ew_c a))) := by
  obtain ⟨y1, y2, y3, y4, -, y6, -⟩ := hY
  have y7 := y6 hkd
  obtain ⟨hlk, hdesc⟩ := hL
  obtain ⟨hK, -, -, hNW⟩ := hW.2.2 s hwd
  obtain ⟨r', cell, hr', q1, q2, q3, -⟩ := er_rdO I hl h17
  cases hr.symm.trans hr'
  have hcl2 := (hK.1 _ _ hr).2
  have hst : (as.reverse ++ ew_o k i :: rest).map (ew_c a) = (as.map (ew_c a)).reverse ++ .ref (a k i) :: rest.map (ew_c a) := by
    rw [List.map_append, List.map_reverse]; rfl
  have hpre : PreV s H r.1 (a k i) (ew_Pc G TY sz H0 CK Wd (ew_o k i :: as) h a) (as.map (ew_c a)) := ⟨ew_blind hW, ⟨cell, q1, q3.2, by rw [q2]; exact hcl2.1⟩, fun U hU hw => ⟨rfl, by rw [hU]; exact I, hW.2.1 s U hw hwd, es_cons (Or.inr hl) haw, hck⟩⟩
  rcases hlk with hlk | ⟨host, hlk⟩
  · refine er_back (va_runV (C := r.1) (As := as.map (ew_c a)) (Ts := ew_TW) (own := own) ⟨hx, hb, hml, hown, hts⟩ (hM a) (cwV n hts (ew_good (fun w hw => ?_)) rfl rfl rfl ⟨hrc, y3.1, y3.2, hdesc⟩ ⟨hf, ?_⟩) hpre rfl (by rw [List.length_map]; exact hn) rfl hst (by rw [ew_cats_map]; show 2 * 0 + _ ≤ 8; omega) hdg ⟨hcl, hsl⟩) hrest hlocs kk
    · rcases List.mem_append.mp hw with q | q
      · simp only [List.mem_cons, List.not_mem_nil, or_false] at q
        rcases q with rfl | rfl | rfl | rfl
        · exact hlk
        · exact y7
        · rw [← hrc]; exact y8
        · rw [← hrc]; exact y2
      · rcases List.mem_cons.mp q with rfl | q
        · exact y1
        · exact q
    · show 8 + (et_mx z + 11) + (150 + 40 * d) ≤ R.locals
      omega
  · refine er_back (va_runVN (C := r.1) (As := as.map (ew_c a)) (Ts := ew_TW) (own := own) ⟨hx, hb, hml, hown, hts⟩ (hM a) ⟨va_cnB n hts (ew_good (fun w hw => ?_)) rfl rfl rfl (hNW _ hlk) (hts _ y2) ⟨y3.1, y3.2, hdesc⟩ ⟨hf, ?_⟩, hts _ y7, by rw [← hrc]; exact hts _ y8⟩ hpre rfl (by rw [List.length_map]; exact hn) rfl hst (by rw [ew_cats_map]; show 2 * 0 + _ ≤ 8; omega) hdg ⟨hcl, hsl⟩) hrest hlocs kk
    · rcases List.mem_cons.mp hw with rfl | q
      · exact y1
      · exact q
    · show 8 + (et_mx z + 11) + (150 + 40 * d) ≤ R.locals
      omega
theorem er_callS (hW : ew_WP NW G TY Wd) (hwd : Wd s) (hx : p.tables.exec = Jvm.exec) (hb : c.code = cc) (hml : c.maxLocals = L.size) (hown : s.vm.findClass own = some m.cls) (hts : ∀ w ∈ ew_TW, w.before args s = true) (I : ew_I G TY sz H0 a h H) (hck : ew_ck CK h a)
    {d x z n : Nat} (hY : ew_YP z) (hkd : et_kd z = 0) (hL : ew_LP NW own x z n) {as rest : List ew_V} (hn : as.length = n) (haw : ∀ v ∈ as, ew_wf h v) (hrest : ∀ v ∈ rest, ew_wf h v) {v : Option ew_V} {h' : ew_H} (hM : ew_Mt l G TY sz H0 CK Wd d z as h v h') (hc8 : ew_cats rest ≤ 8)
    (hf : 6 + d + 1 ≤ R.frames) (hlo : 150 + 40 * d + 40 ≤ R.locals) (hlocs : ∀ q ∈ locs, sz ≤ q.base) (hcl : cells + (h'.2.2.2.2.1 - h.2.2.2.2.1) ≤ R.cells) (hsl : slots + (h'.2.2.2.2.2 - h.2.2.2.2.2) ≤ R.slots) (hdg : decode cc pc = .ok (.invokestatic x, 3))
    (kk : ∀ (a' : Nat → Nat → Nat) (H1 : Heap) (locs1 : List Loc), ew_ex h a a' → (∀ q ∈ locs1, sz ≤ q.base) → ew_I G TY sz H0 a' h' H1 → (∀ w, v = some w → ew_wf h' w) → W p l e R s m args below meth c H1 locs1 (cells + (h'.2.2.2.2.1 - h.2.2.2.2.1)) (slots + (h'.2.2.2.2.2 - h.2.2.2.2.2)) Q (F0 m (pc + 3) L ((v.toList ++ rest).map (ew_c a')))) :
    W p l e R s m args below meth c H locs cells slots Q (F0 m pc L ((as.reverse ++ rest).map (ew_c a))) := by
  obtain ⟨y1, y2, y3, y4, y5, -, -⟩ := hY
  have y5 := y5 hkd
  obtain ⟨hlk, hdesc⟩ := hL
  obtain ⟨hK, -, -, hNW⟩ := hW.2.2 s hwd
  have hst : (as.reverse ++ rest).map (ew_c a) = (as.map (ew_c a)).reverse ++ rest.map (ew_c a) := by
    rw [List.map_append, List.map_reverse]
  have hpre : PreS s H (ew_Pc G TY sz H0 CK Wd as h a) (as.map (ew_c a)) := ⟨ew_blind hW, fun U hU hw => ⟨rfl, by rw [hU]; exact I, hW.2.1 s U hw hwd, haw, hck⟩⟩
  have hG : GoodIn ew_TW (ew_cw z :: ew_TW) := ew_good (fun w hw => by
    rcases List.mem_cons.mp hw with rfl | q
    · exact y1
    · exact q)
  have hR : (ew_rm d h h').frames + 1 ≤ R.frames ∧ 8 + (et_mx z + 11) + (ew_rm d h h').locals ≤ R.locals := ⟨hf, by show 8 + (et_mx z + 11) + (150 + 40 * d) ≤ R.locals; omega⟩
  rcases hlk with hlk | ⟨host, hlk⟩
  · exact er_back (va_runS (As := as.map (ew_c a)) (Ts := ew_TW) (own := own) ⟨hx, hb, hml, hown, hts⟩ (hM a) ⟨callB_of n hts hG rfl rfl rfl (hts _ y2) (hts _ hlk) ⟨y3.1, y3.2, hdesc⟩ hR, hts _ y5⟩ hpre rfl (by rw [List.length_map]; exact hn) rfl hst (by rw [ew_cats_map]; show 2 * 0 + _ ≤ 8; omega) hdg ⟨hcl, hsl⟩) hrest hlocs kk
  · exact er_back (va_runSN (As := as.map (ew_c a)) (Ts := ew_TW) (own := own) ⟨hx, hb, hml, hown, hts⟩ (hM a) ⟨va_cnB n hts hG rfl rfl rfl (hNW _ hlk) (hts _ y2) ⟨y3.1, y3.2, hdesc⟩ hR, hts _ y5, trivial⟩ hpre rfl (by rw [List.length_map]; exact hn) rfl hst (by rw [ew_cats_map]; show 2 * 0 + _ ≤ 8; omega) hdg ⟨hcl, hsl⟩) hrest hlocs kk
theorem er_callI (hW : ew_WP NW G TY Wd) (hwd : Wd s) (hx : p.tables.exec = Jvm.exec) (hb : c.code = cc) (hml : c.maxLocals = L.size) (hown : s.vm.findClass own = some m.cls) (hts : ∀ w ∈ ew_TW, w.before args s = true) (I : ew_I G TY sz H0 a h H) (hck : ew_ck CK h a)
    {d x z n k i : Nat} (hY : ew_YP z) (hkd : et_kd z = 2) (hL : ew_LP NW own x z n) {as rest : List ew_V} (hn : as.length = n) (hl : ew_wf h (ew_o k i)) (haw : ∀ v ∈ as, ew_wf h v) (hrest : ∀ v ∈ rest, ew_wf h v) {v : Option ew_V} {h' : ew_H} (hM : ew_Mt l G TY sz H0 CK Wd d z (ew_o k i :: as) h v h') (hc8 : ew_cats rest ≤ 8)
    (hf : 6 + d + 1 ≤ R.frames) (hlo : 150 + 40 * d + 40 ≤ R.locals) (hlocs : ∀ q ∈ locs, sz ≤ q.base) (hcl : cells + (h'.2.2.2.2.1 - h.2.2.2.2.1) ≤ R.cells) (hsl : slots + (h'.2.2.2.2.2 - h.2.2.2.2.2) ≤ R.slots) (hdg : decode cc pc = .ok (.invokespecial x, 3))
    (kk : ∀ (a' : Nat → Nat → Nat) (H1 : Heap) (locs1 : List Loc), ew_ex h a a' → (∀ q ∈ locs1, sz ≤ q.base) → ew_I G TY sz H0 a' h' H1 → (∀ w, v = some w → ew_wf h' w) → W p l e R s m args below meth c H1 locs1 (cells + (h'.2.2.2.2.1 - h.2.2.2.2.1)) (slots + (h'.2.2.2.2.2 - h.2.2.2.2.2)) Q (F0 m (pc + 3) L ((v.toList ++ rest).map (ew_c a')))) :
    W p l e R s m args below meth c H locs cells slots Q (F0 m pc L ((as.reverse ++ ew_o k i :: rest).map (ew_c a))) := by
  obtain ⟨y1, y2, y3, y4, -, -, y6⟩ := hY
  obtain ⟨y7, y8, y9⟩ := y6 hkd
  obtain ⟨hlk, hdesc⟩ := hL
  obtain ⟨hK, -, -, hNW⟩ := hW.2.2 s hwd
  have hst : (as.reverse ++ ew_o k i :: rest).map (ew_c a) = (as.map (ew_c a)).reverse ++ .ref (a k i) :: rest.map (ew_c a) := by
    rw [List.map_append, List.map_reverse]; rfl
  have hpre : PreS s H (ew_Pc G TY sz H0 CK Wd (ew_o k i :: as) h a) (.ref (a k i) :: as.map (ew_c a)) := ⟨ew_blind hW, fun U hU hw => ⟨rfl, by rw [hU]; exact I, hW.2.1 s U hw hwd, es_cons hl haw, hck⟩⟩
  have hG : GoodIn ew_TW (ew_cw z :: ew_TW) := ew_good (fun w hw => by
    rcases List.mem_cons.mp hw with rfl | q
    · exact y1
    · exact q)
  have hcw : ew_cw z :: ew_TW = Cond.code (ew_nm z) (ew_cd z) (et_mx z) none :: ew_TW := by unfold ew_cw; rw [y9]
  have hR : (ew_rm d h h').frames + 1 ≤ R.frames ∧ 8 + (et_mx z + 11) + (ew_rm d h h').locals ≤ R.locals := ⟨hf, by show 8 + (et_mx z + 11) + (150 + 40 * d) ≤ R.locals; omega⟩
  rcases hlk with hlk | ⟨host, hlk⟩
  · exact er_back (va_runI (As := as.map (ew_c a)) (Ts := ew_TW) (own := own) (ws := ew_cw z :: ew_TW) ⟨hx, hb, hml, hown, hts⟩ (hM a) (cwI n hts hG hcw rfl rfl (hts _ y2) (hts _ hlk) (hts _ y7) y8 ⟨y3.1, y3.2, hdesc⟩ hR) hpre rfl (by rw [List.length_map]; exact hn) rfl hst (by rw [ew_cats_map]; show 2 * 0 + _ ≤ 8; omega) hdg ⟨hcl, hsl⟩) hrest hlocs kk
  · exact er_back (va_runIN (As := as.map (ew_c a)) (Ts := ew_TW) (own := own) (ws := ew_cw z :: ew_TW) ⟨hx, hb, hml, hown, hts⟩ (hM a) ⟨va_cnB n hts hG hcw rfl rfl (hNW _ hlk) (hts _ y2) ⟨y3.1, y3.2, hdesc⟩ hR, y8, hts _ y7⟩ hpre rfl (by rw [List.length_map]; exact hn) rfl hst (by rw [ew_cats_map]; show 2 * 0 + _ ≤ 8; omega) hdg ⟨hcl, hsl⟩) hrest hlocs kk
end EC
end
section
/-! One step, on both machines. -/
/-- what stands in a method's body -/
def ew_Cx (p : Program) (l : Launch) (e : Env) (R : Room) (s : State) (m : MethodId) (args : Array Value) (below : List Frame) (meth : Method) (c : Code) (NW : List Cond) (G : va_G) (TY : Nat → ClassId) (Wd : State → Prop) (d y : Nat) : Prop :=
  p.tables.exec = Jvm.exec ∧ c.code = ew_cd y ∧ c.maxLocals = et_mx y ∧ s.vm.findClass (ew_on (et_cls y)) = some m.cls ∧ (∀ w ∈ ew_TW, w.before args s = true) ∧ ew_WP NW G TY Wd ∧ Wd s ∧ 6 + d ≤ R.frames ∧ 150 + 40 * d ≤ R.locals ∧ (et_ini y = true → meth.name = "<init>")
/-- the two states belong together -/
def ew_St (G : va_G) (TY : Nat → ClassId) (sz : Nat) (H0 : Heap) (y : Nat) (hS : ew_H) (aS a : Nat → Nat → Nat) (c : ew_C) (H : Heap) (locs : List Loc) (cells slots : Nat) (L : Array Slot) : Prop :=
  ew_ex hS aS a ∧ ew_I G TY sz H0 a c.2.2.2 H ∧ lv_has L (et_mx y) (ew_lp a 0 c.2.1) ∧ c.2.1.length = et_mx y ∧ (∀ v, some v ∈ c.2.1 → ew_wf c.2.2.2 v) ∧ (∀ v ∈ c.2.2.1, ew_wf c.2.2.2 v) ∧ (∀ q ∈ locs, sz ≤ q.base) ∧ cells + hS.2.2.2.2.1 = c.2.2.2.2.2.2.2.1 ∧ slots + hS.2.2.2.2.2 = c.2.2.2.2.2.2.2.2
def ew_Q (p : Program) (l : Launch) (e : Env) (R : Room) (s : State) (m : MethodId) (args : Array Value) (below : List Frame) (meth : Method) (c0 : Code) (G : va_G) (TY : Nat → ClassId) (sz : Nat) (H0 : Heap) (Q : State → Prop) (y : Nat) (hS hE : ew_H) (aS : Nat → Nat → Nat) (c : ew_C) : Prop :=
  ew_le hS c.2.2.2 → ew_le c.2.2.2 hE ∧ ∀ a H locs cells slots L, ew_St G TY sz H0 y hS aS a c H locs cells slots L → W p l e R s m args below meth c0 H locs cells slots Q (F0 m c.1 L (c.2.2.1.map (ew_c a)))
/-- an instruction of the program, with its length and jump -/
def ew_ok (cc : ByteArray) (x : Nat) (i : Instr) (nx tg : Nat) (cv : Int32) (n : Nat) : Prop := decode cc x = .ok (i, n) ∧ nx = x + n
section ES
variable {p : Program} {l : Launch} {e : Env} {R : Room} {s : State} {m : MethodId} {args : Array Value} {below : List Frame} {meth : Method} {c0 : Code} {Q : State → Prop}
variable {G : va_G} {TY : Nat → ClassId} {sz : Nat} {H0 : Heap} {NW : List Cond} {Wd : State → Prop} {d y : Nat} {hS hE : ew_H} {aS : Nat → Nat → Nat}
variable {pc nx tg : Nat} {cv : Int32} {ls : List (Option ew_V)} {st : List ew_V} {h : ew_H}
/-- a step that leaves the objects alone -/
theorem es_plain {pc' : Nat} {ls' : List (Option ew_V)} {st' : List ew_V} (hlen : ls'.length = ls.length) (hwl : (∀ v, some v ∈ ls → ew_wf h v) → (∀ v ∈ st, ew_wf h v) → (∀ v, some v ∈ ls' → ew_wf h v) ∧ ∀ v ∈ st', ew_wf h v)
    (hs : ∀ (a : Nat → Nat → Nat) (H : Heap) (locs : List Loc) (cells slots : Nat) (L : Array Slot), ew_I G TY sz H0 a h H → (∀ v ∈ st, ew_wf h v) → lv_has L (et_mx y) (ew_lp a 0 ls) → ls.length = et_mx y → (∀ L' : Array Slot, lv_has L' (et_mx y) (ew_lp a 0 ls') → W p l e R s m args below meth c0 H locs cells slots Q (F0 m pc' L' (st'.map (ew_c a)))) → W p l e R s m args below meth c0 H locs cells slots Q (F0 m pc L (st.map (ew_c a))))
    (k : ew_Q p l e R s m args below meth c0 G TY sz H0 Q y hS hE aS (pc', ls', st', h)) : ew_Q p l e R s m args below meth c0 G TY sz H0 Q y hS hE aS (pc, ls, st, h) := by
  intro hle
  obtain ⟨k1, k2⟩ := k hle
  refine ⟨k1, fun a H locs cells slots L hS => ?_⟩
  obtain ⟨s1, s2, s3, s4, s5, s6, s7, s8, s9⟩ := hS
  obtain ⟨w1, w2⟩ := hwl s5 s6
  exact hs a H locs cells slots L s2 s6 s3 s4 (fun L' hL' => k2 a H locs cells slots L' ⟨s1, s2, hL', hlen.trans s4, w1, w2, s7, s8, s9⟩)
/-- .. the locals, too -/
theorem es_st {pc' : Nat} {st' : List ew_V} (hwl : (∀ v, some v ∈ ls → ew_wf h v) → (∀ v ∈ st, ew_wf h v) → ∀ v ∈ st', ew_wf h v)
    (hs : ∀ (a : Nat → Nat → Nat) (H : Heap) (locs : List Loc) (cells slots : Nat) (L : Array Slot), ew_I G TY sz H0 a h H → (∀ v ∈ st, ew_wf h v) → lv_has L (et_mx y) (ew_lp a 0 ls) → W p l e R s m args below meth c0 H locs cells slots Q (F0 m pc' L (st'.map (ew_c a))) → W p l e R s m args below meth c0 H locs cells slots Q (F0 m pc L (st.map (ew_c a))))
    (k : ew_Q p l e R s m args below meth c0 G TY sz H0 Q y hS hE aS (pc', ls, st', h)) : ew_Q p l e R s m args below meth c0 G TY sz H0 Q y hS hE aS (pc, ls, st, h) :=
  es_plain rfl (fun w1 w2 => ⟨w1, hwl w1 w2⟩) (fun a H locs cells slots L I w hL _ kk => hs a H locs cells slots L I w hL (kk L hL)) k
theorem es_mem {n : Nat} {v : ew_V} (h1 : ls[n]? = some (some v)) : some v ∈ ls := List.mem_of_getElem? h1
theorem es_tail {v : ew_V} {P : ew_V → Prop} (h2 : ∀ w ∈ v :: st, P w) : ∀ w ∈ st, P w := fun w hw => h2 w (List.mem_cons_of_mem _ hw)
theorem es_hd {v : ew_V} {P : ew_V → Prop} (h2 : ∀ w ∈ v :: st, P w) : P v := h2 v List.mem_cons_self
theorem es_set {i : Nat} {v w : ew_V} (h2 : ∀ v, some v ∈ ls → ew_wf h v) (hv : ew_wf h v) (hw : some w ∈ ls.set i (some v)) : ew_wf h w := by
  rcases List.mem_or_eq_of_mem_set hw with q | q
  · exact h2 w q
  · cases q; exact hv
theorem es_clr {i : Nat} {w : ew_V} (hw : some w ∈ ew_clr ls i) : some w ∈ ls := by
  obtain ⟨j, hj⟩ := List.getElem?_of_mem hw
  exact List.mem_of_getElem? (ew_clr_mem (a := fun _ _ => 0) hj).1
theorem es_st1 {i : Nat} {v w : ew_V} (h2 : ∀ v, some v ∈ ls → ew_wf h v) (hv : ew_wf h v) (hw : some w ∈ ew_st1 ls i v) : ew_wf h w := es_set (ls := ew_clr ls i) (fun v q => h2 v (es_clr q)) hv hw
theorem es_st2 {i : Nat} {v w : ew_V} (h2 : ∀ v, some v ∈ ls → ew_wf h v) (hv : ew_wf h v) (hw : some w ∈ ew_st2 ls i v) : ew_wf h w := by
  rcases List.mem_or_eq_of_mem_set hw with q | q
  · exact es_set (ls := ew_clr ls i) (fun v q => h2 v (es_clr q)) hv q
  · cases q
theorem es_len1 (i : Nat) (v : ew_V) : (ew_st1 ls i v).length = ls.length := by rw [ew_st1, List.length_set, ew_clr_len]
theorem es_len2 (i : Nat) (v : ew_V) : (ew_st2 ls i v).length = ls.length := by rw [ew_st2, List.length_set, List.length_set, ew_clr_len]
abbrev ew_K (p : Program) (l : Launch) (e : Env) (R : Room) (s : State) (m : MethodId) (args : Array Value) (below : List Frame) (meth : Method) (c0 : Code) (G : va_G) (TY : Nat → ClassId) (sz : Nat) (H0 : Heap) (Q : State → Prop) (y : Nat) (hS hE : ew_H) (aS : Nat → Nat → Nat) (c c' : ew_C) : Prop :=
  ew_Q p l e R s m args below meth c0 G TY sz H0 Q y hS hE aS c' → ew_Q p l e R s m args below meth c0 G TY sz H0 Q y hS hE aS c
theorem ew_tag0 {v : ew_V} (h : Nat.beq (ew_tag v) 0 = true) : ∃ x, v = ew_i x := by
  rcases v with v | q
  · cases v <;> first | exact ⟨_, rfl⟩ | cases h
  · cases h
theorem ew_tag1 {v : ew_V} (h : Nat.beq (ew_tag v) 1 = true) : ∃ x, v = ew_j x := by
  rcases v with v | q
  · cases v <;> first | exact ⟨_, rfl⟩ | cases h
  · cases h
theorem ew_tag2 {v : ew_V} (h : Nat.beq (ew_tag v) 2 = true) : ∃ x, v = .inl (.double x) := by
  rcases v with v | q
  · cases v <;> first | exact ⟨_, rfl⟩ | cases h
  · cases h
theorem ew_tag3 {v : ew_V} (h : Nat.beq (ew_tag v) 3 = true) : v = ew_0 ∨ ∃ q : Nat × Nat, v = .inr q := by
  rcases v with v | q
  · cases v <;> first | exact Or.inl rfl | cases h
  · exact Or.inr ⟨q, rfl⟩
/-- loads -/
theorem es_ld {t n : Nat} {v : ew_V} (h1 : ls[n]? = some (some v)) (ht : Nat.beq (ew_tag v) t = true) {i : Instr} {w : Nat} (hx : p.tables.exec = Jvm.exec) (hb : c0.code = ew_cd y) (hd : decode (ew_cd y) pc = .ok (i, w))
    (hi : (t = 0 ∧ ((i = .iload n ∧ w = 2) ∨ ∃ k : Fin 4, i = .iload_n k ∧ (k : Nat) = n ∧ w = 1)) ∨ (t = 1 ∧ ((i = .lload n ∧ w = 2) ∨ ∃ k : Fin 4, i = .lload_n k ∧ (k : Nat) = n ∧ w = 1)) ∨ (t = 2 ∧ ((i = .dload n ∧ w = 2) ∨ ∃ k : Fin 4, i = .dload_n k ∧ (k : Nat) = n ∧ w = 1)) ∨ (t = 3 ∧ ((i = .aload n ∧ w = 2) ∨ ∃ k : Fin 4, i = .aload_n k ∧ (k : Nat) = n ∧ w = 1))) :
    ew_K p l e R s m args below meth c0 G TY sz H0 Q y hS hE aS (pc, ls, st, h) (pc + w, ls, v :: st, h) := by
  refine es_st (fun w1 w2 => es_cons (w1 v (es_mem h1)) w2) (fun a H locs cells slots L I _ hL kk => ?_)
  have hat := ew_lp_at hL h1
  rcases hi with ⟨rfl, hi⟩ | ⟨rfl, hi⟩ | ⟨rfl, hi⟩ | ⟨rfl, hi⟩
  · obtain ⟨x, rfl⟩ := ew_tag0 ht
    rcases hi with ⟨rfl, rfl⟩ | ⟨k, rfl, hk, rfl⟩
    · exact lv_iload hx hb hd hat kk
    · exact lv_iload_n hx hb hd hk hat kk
  · obtain ⟨x, rfl⟩ := ew_tag1 ht
    rcases hi with ⟨rfl, rfl⟩ | ⟨k, rfl, hk, rfl⟩
    · exact lv_lload hx hb hd hat kk
    · exact lv_lload_n hx hb hd hk hat kk
  · obtain ⟨x, rfl⟩ := ew_tag2 ht
    rcases hi with ⟨rfl, rfl⟩ | ⟨k, rfl, hk, rfl⟩
    · exact lv_dload hx hb hd hat kk
    · exact lv_dload_n hx hb hd hk hat kk
  · rcases ew_tag3 ht with rfl | ⟨q, rfl⟩
    · rcases hi with ⟨rfl, rfl⟩ | ⟨k, rfl, hk, rfl⟩
      · exact lv_aloadN hx hb hd hat kk
      · exact lv_aload_nN hx hb hd hk hat kk
    · rcases hi with ⟨rfl, rfl⟩ | ⟨k, rfl, hk, rfl⟩
      · exact lv_aload hx hb hd hat kk
      · exact lv_aload_n hx hb hd hk hat kk
/-- stores of one place -/
theorem es_sto1 {t n : Nat} {v : ew_V} (ht : Nat.beq (ew_tag v) t = true) (hn : n < ls.length) {i : Instr} {w : Nat} (hx : p.tables.exec = Jvm.exec) (hb : c0.code = ew_cd y) (hd : decode (ew_cd y) pc = .ok (i, w))
    (hi : (t = 0 ∧ ((i = .istore n ∧ w = 2) ∨ ∃ k : Fin 4, i = .istore_n k ∧ (k : Nat) = n ∧ w = 1)) ∨ (t = 3 ∧ ((i = .astore n ∧ w = 2) ∨ ∃ k : Fin 4, i = .astore_n k ∧ (k : Nat) = n ∧ w = 1))) :
    ew_K p l e R s m args below meth c0 G TY sz H0 Q y hS hE aS (pc, ls, v :: st, h) (pc + w, ew_st1 ls n v, st, h) := by
  refine es_plain (es_len1 n v) (fun w1 w2 => ⟨fun z hz => es_st1 w1 (es_hd w2) hz, es_tail w2⟩) (fun a H locs cells slots L I _ hL hlen kk => ?_)
  have hnL : n < et_mx y := by omega
  rcases hi with ⟨rfl, hi⟩ | ⟨rfl, hi⟩
  · obtain ⟨x, rfl⟩ := ew_tag0 ht
    rcases hi with ⟨rfl, rfl⟩ | ⟨k, rfl, hk, rfl⟩
    · exact lv_istore hx hb hd hL hnL rfl (fun L' hL' => kk L' (ew_st1_has hL'))
    · exact lv_istore_n hx hb hd hk hL hnL rfl (fun L' hL' => kk L' (ew_st1_has hL'))
  · rcases ew_tag3 ht with rfl | ⟨q, rfl⟩
    · rcases hi with ⟨rfl, rfl⟩ | ⟨k, rfl, hk, rfl⟩
      · exact lv_astoreN hx hb hd hL hnL rfl (fun L' hL' => kk L' (ew_st1_has hL'))
      · exact lv_astore_nN hx hb hd hk hL hnL rfl (fun L' hL' => kk L' (ew_st1_has hL'))
    · rcases hi with ⟨rfl, rfl⟩ | ⟨k, rfl, hk, rfl⟩
      · exact lv_astore hx hb hd hL hnL rfl (fun L' hL' => kk L' (ew_st1_has hL'))
      · exact lv_astore_n hx hb hd hk hL hnL rfl (fun L' hL' => kk L' (ew_st1_has hL'))
theorem es_sto2 {t n : Nat} {v : ew_V} (ht : Nat.beq (ew_tag v) t = true) (hn : n + 1 < ls.length) {i : Instr} {w : Nat} (hx : p.tables.exec = Jvm.exec) (hb : c0.code = ew_cd y) (hd : decode (ew_cd y) pc = .ok (i, w))
    (hi : (t = 1 ∧ ((i = .lstore n ∧ w = 2) ∨ ∃ k : Fin 4, i = .lstore_n k ∧ (k : Nat) = n ∧ w = 1)) ∨ (t = 2 ∧ ((i = .dstore n ∧ w = 2) ∨ ∃ k : Fin 4, i = .dstore_n k ∧ (k : Nat) = n ∧ w = 1))) :
    ew_K p l e R s m args below meth c0 G TY sz H0 Q y hS hE aS (pc, ls, v :: st, h) (pc + w, ew_st2 ls n v, st, h) := by
  refine es_plain (es_len2 n v) (fun w1 w2 => ⟨fun z hz => es_st2 w1 (es_hd w2) hz, es_tail w2⟩) (fun a H locs cells slots L I _ hL hlen kk => ?_)
  have hnL : n + 1 < et_mx y := by omega
  rcases hi with ⟨rfl, hi⟩ | ⟨rfl, hi⟩
  · obtain ⟨x, rfl⟩ := ew_tag1 ht
    rcases hi with ⟨rfl, rfl⟩ | ⟨k, rfl, hk, rfl⟩
    · exact lv_lstore hx hb hd hL hnL rfl (fun L' hL' => kk L' (ew_st2_has hL'))
    · exact lv_lstore_n hx hb hd hk hL hnL rfl (fun L' hL' => kk L' (ew_st2_has hL'))
  · obtain ⟨x, rfl⟩ := ew_tag2 ht
    rcases hi with ⟨rfl, rfl⟩ | ⟨k, rfl, hk, rfl⟩
    · exact lv_dstore hx hb hd hL hnL rfl (fun L' hL' => kk L' (ew_st2_has hL'))
    · exact lv_dstore_n hx hb hd hk hL hnL rfl (fun L' hL' => kk L' (ew_st2_has hL'))
theorem es_iinc {n : Nat} {k : Int} {x : Int32} (h1 : ls[n]? = some (some (ew_i x))) (hn : n < ls.length) (hcv : Int32.ofInt k = cv) (hx : p.tables.exec = Jvm.exec) (hb : c0.code = ew_cd y) (hd : decode (ew_cd y) pc = .ok (.iinc n k, 3)) :
    ew_K p l e R s m args below meth c0 G TY sz H0 Q y hS hE aS (pc, ls, st, h) (pc + 3, ew_st1 ls n (ew_i (x + cv)), st, h) := by
  refine es_plain (es_len1 n _) (fun w1 w2 => ⟨fun z hz => es_st1 (v := ew_i (x + cv)) w1 trivial hz, w2⟩) (fun a H locs cells slots L I _ hL hlen kk => ?_)
  have hnL : n < et_mx y := by omega
  have hm : (0 + n, ew_c a (ew_i x)) ∈ ew_lp a 0 ls := (ew_lp_mem ls 0 _).mpr ⟨n, _, h1, rfl⟩
  rw [Nat.zero_add] at hm
  obtain ⟨j, hj⟩ := List.getElem?_of_mem hm
  exact lv_iinc (v := x + cv) hx hb hd hL hj (by rw [hcv]) hnL rfl (fun L' hL' => kk L' (ew_st1_has (v := ew_i (x + cv)) hL'))
theorem es_iconst {k : Int} (hcv : Int32.ofInt k = cv) (hx : p.tables.exec = Jvm.exec) (hb : c0.code = ew_cd y) (hd : decode (ew_cd y) pc = .ok (.iconst k, 1)) : ew_K p l e R s m args below meth c0 G TY sz H0 Q y hS hE aS (pc, ls, st, h) (pc + 1, ls, ew_i cv :: st, h) :=
  es_st (fun _ w2 => es_cons trivial w2) (fun _ _ _ _ _ _ _ _ _ kk => lv_iconst hx hb hd hcv kk)
theorem es_bipush {k : Int} (hcv : (Int8.ofInt k).toInt32 = cv) (hx : p.tables.exec = Jvm.exec) (hb : c0.code = ew_cd y) (hd : decode (ew_cd y) pc = .ok (.bipush k, 2)) : ew_K p l e R s m args below meth c0 G TY sz H0 Q y hS hE aS (pc, ls, st, h) (pc + 2, ls, ew_i cv :: st, h) :=
  es_st (fun _ w2 => es_cons trivial w2) (fun _ _ _ _ _ _ _ _ _ kk => lv_bipush hx hb hd hcv kk)
theorem es_sipush {k : Int} (hcv : (Int16.ofInt k).toInt32 = cv) (hx : p.tables.exec = Jvm.exec) (hb : c0.code = ew_cd y) (hd : decode (ew_cd y) pc = .ok (.sipush k, 3)) : ew_K p l e R s m args below meth c0 G TY sz H0 Q y hS hE aS (pc, ls, st, h) (pc + 3, ls, ew_i cv :: st, h) :=
  es_st (fun _ w2 => es_cons trivial w2) (fun _ _ _ _ _ _ _ _ _ kk => lv_sipush hx hb hd hcv kk)
theorem es_null (hx : p.tables.exec = Jvm.exec) (hb : c0.code = ew_cd y) (hd : decode (ew_cd y) pc = .ok (.aconst_null, 1)) : ew_K p l e R s m args below meth c0 G TY sz H0 Q y hS hE aS (pc, ls, st, h) (pc + 1, ls, ew_0 :: st, h) :=
  es_st (fun _ w2 => es_cons trivial w2) (fun _ _ _ _ _ _ _ _ _ kk => lv_null hx hb hd kk)
theorem es_lconst {k : Fin 2} (hx : p.tables.exec = Jvm.exec) (hb : c0.code = ew_cd y) (hd : decode (ew_cd y) pc = .ok (.lconst k, 1)) : ew_K p l e R s m args below meth c0 G TY sz H0 Q y hS hE aS (pc, ls, st, h) (pc + 1, ls, ew_j (Int64.ofNat k) :: st, h) :=
  es_st (fun _ w2 => es_cons trivial w2) (fun _ _ _ _ _ _ _ _ _ kk => lv_lconst hx hb hd rfl kk)
theorem es_ldc2 {k : Nat} {v : Int64} (hown : s.vm.findClass (ew_on (et_cls y)) = some m.cls) (hw : (Jvm.Cond.constantLong (ew_on (et_cls y)) k v).before args s = true) (hx : p.tables.exec = Jvm.exec) (hb : c0.code = ew_cd y) (hd : decode (ew_cd y) pc = .ok (.ldc2_w k, 3)) : ew_K p l e R s m args below meth c0 G TY sz H0 Q y hS hE aS (pc, ls, st, h) (pc + 3, ls, ew_j v :: st, h) :=
  es_st (fun _ w2 => es_cons trivial w2) (fun _ _ _ _ _ _ _ _ _ kk => lv_ldc2 hx hb hown hw hd kk)
theorem es_ldc {k : Nat} {v : Int32} (hown : s.vm.findClass (ew_on (et_cls y)) = some m.cls) (hw : (Jvm.Cond.constant (ew_on (et_cls y)) k v).before args s = true) (hx : p.tables.exec = Jvm.exec) (hb : c0.code = ew_cd y) (hd : decode (ew_cd y) pc = .ok (.ldc k, 2)) : ew_K p l e R s m args below meth c0 G TY sz H0 Q y hS hE aS (pc, ls, st, h) (pc + 2, ls, ew_i v :: st, h) :=
  es_st (fun _ w2 => es_cons trivial w2) (fun _ _ _ _ _ _ _ _ _ kk => lv_ldc hx hb hown hw hd kk)
theorem es_dconst (hx : p.tables.exec = Jvm.exec) (hb : c0.code = ew_cd y) (hd : decode (ew_cd y) pc = .ok (.dconst 0, 1)) : ew_K p l e R s m args below meth c0 G TY sz H0 Q y hS hE aS (pc, ls, st, h) (pc + 1, ls, .inl (.double FP.dconst0) :: st, h) :=
  es_st (fun _ w2 => es_cons trivial w2) (fun _ _ _ _ _ _ _ _ _ kk => lv_dconst0 hx hb hd kk)
theorem es_bin {i : Instr} {f : Int32 → Int32 → Int32} {x z : Int32} (hx : p.tables.exec = Jvm.exec) (hb : c0.code = ew_cd y) (hd : decode (ew_cd y) pc = .ok (i, 1)) (hi : (i = .iadd ∧ f = fun x y => x + y) ∨ (i = .isub ∧ f = fun x y => x - y) ∨ (i = .imul ∧ f = fun x y => x * y) ∨ (i = .iand ∧ f = fun x y => x &&& y) ∨ (i = .ishr ∧ f = fun (x y : Int32) => x >>> (y &&& 31))) :
    ew_K p l e R s m args below meth c0 G TY sz H0 Q y hS hE aS (pc, ls, ew_i z :: ew_i x :: st, h) (pc + 1, ls, ew_i (f x z) :: st, h) := by
  refine es_st (fun _ w2 => es_cons trivial (es_tail (es_tail w2))) (fun a H locs cells slots L I _ hL kk => ?_)
  rcases hi with ⟨rfl, rfl⟩ | ⟨rfl, rfl⟩ | ⟨rfl, rfl⟩ | ⟨rfl, rfl⟩ | ⟨rfl, rfl⟩
  · exact lv_iadd hx hb hd kk
  · exact lv_isub hx hb hd kk
  · exact lv_imul hx hb hd kk
  · exact lv_iand hx hb hd kk
  · exact lv_ishr hx hb hd kk
theorem es_binl {i : Instr} {f : Int64 → Int64 → Int64} {x z : Int64} (hx : p.tables.exec = Jvm.exec) (hb : c0.code = ew_cd y) (hd : decode (ew_cd y) pc = .ok (i, 1)) (hi : (i = .ladd ∧ f = fun x y => x + y) ∨ (i = .lmul ∧ f = fun x y => x * y)) :
    ew_K p l e R s m args below meth c0 G TY sz H0 Q y hS hE aS (pc, ls, ew_j z :: ew_j x :: st, h) (pc + 1, ls, ew_j (f x z) :: st, h) := by
  refine es_st (fun _ w2 => es_cons trivial (es_tail (es_tail w2))) (fun a H locs cells slots L I _ hL kk => ?_)
  rcases hi with ⟨rfl, rfl⟩ | ⟨rfl, rfl⟩
  · exact lv_ladd hx hb hd kk
  · exact lv_lmul hx hb hd kk
theorem es_idiv {x z : Int32} (hz : ¬ z = 0) (hx : p.tables.exec = Jvm.exec) (hb : c0.code = ew_cd y) (hd : decode (ew_cd y) pc = .ok (.idiv, 1)) : ew_K p l e R s m args below meth c0 G TY sz H0 Q y hS hE aS (pc, ls, ew_i z :: ew_i x :: st, h) (pc + 1, ls, ew_i (x / z) :: st, h) :=
  es_st (fun _ w2 => es_cons trivial (es_tail (es_tail w2))) (fun _ _ _ _ _ _ _ _ _ kk => lv_idiv hx hb hd hz kk)
theorem es_irem {x z : Int32} (hz : ¬ z = 0) (hx : p.tables.exec = Jvm.exec) (hb : c0.code = ew_cd y) (hd : decode (ew_cd y) pc = .ok (.irem, 1)) : ew_K p l e R s m args below meth c0 G TY sz H0 Q y hS hE aS (pc, ls, ew_i z :: ew_i x :: st, h) (pc + 1, ls, ew_i (x - x / z * z) :: st, h) :=
  es_st (fun _ w2 => es_cons trivial (es_tail (es_tail w2))) (fun _ _ _ _ _ _ _ _ _ kk => lv_irem hx hb hd hz kk)
theorem es_i2l {x : Int32} (hx : p.tables.exec = Jvm.exec) (hb : c0.code = ew_cd y) (hd : decode (ew_cd y) pc = .ok (.i2l, 1)) : ew_K p l e R s m args below meth c0 G TY sz H0 Q y hS hE aS (pc, ls, ew_i x :: st, h) (pc + 1, ls, ew_j x.toInt64 :: st, h) :=
  es_st (fun _ w2 => es_cons trivial (es_tail w2)) (fun _ _ _ _ _ _ _ _ _ kk => lv_i2l hx hb hd rfl kk)
theorem es_i2d {x : Int32} (hx : p.tables.exec = Jvm.exec) (hb : c0.code = ew_cd y) (hd : decode (ew_cd y) pc = .ok (.i2d, 1)) : ew_K p l e R s m args below meth c0 G TY sz H0 Q y hS hE aS (pc, ls, ew_i x :: st, h) (pc + 1, ls, .inl (.double (FP.i2d x)) :: st, h) :=
  es_st (fun _ w2 => es_cons trivial (es_tail w2)) (fun _ _ _ _ _ _ _ _ _ kk => lv_i2d hx hb hd kk)
theorem es_ddiv {x z : UInt64} (hz : vf_n64 (FP.ddiv x z)) (hx : p.tables.exec = Jvm.exec) (hb : c0.code = ew_cd y) (hd : decode (ew_cd y) pc = .ok (.ddiv, 1)) : ew_K p l e R s m args below meth c0 G TY sz H0 Q y hS hE aS (pc, ls, .inl (.double z) :: .inl (.double x) :: st, h) (pc + 1, ls, .inl (.double (FP.ddiv x z)) :: st, h) :=
  es_st (fun _ w2 => es_cons trivial (es_tail (es_tail w2))) (fun _ _ _ _ _ _ _ _ _ kk => lv_ddiv hx hb hd hz kk)
theorem es_dcmp {x z : UInt64} {o : CmpOp} (hx : p.tables.exec = Jvm.exec) (hb : c0.code = ew_cd y) (hd : decode (ew_cd y) pc = .ok (.dcmp o, 1)) : ew_K p l e R s m args below meth c0 G TY sz H0 Q y hS hE aS (pc, ls, .inl (.double z) :: .inl (.double x) :: st, h) (pc + 1, ls, ew_i (Op.cmpValue (FP.dcmp x z) o) :: st, h) :=
  es_st (fun _ w2 => es_cons trivial (es_tail (es_tail w2))) (fun _ _ _ _ _ _ _ _ _ kk => lv_dcmp hx hb hd kk)
theorem ew_cat1 {v : ew_V} (h : Nat.beq (ew_cat v) 1 = true) (a : Nat → Nat → Nat) : (ew_c a v).category = 1 := by rw [ew_c_cat]; exact Nat.eq_of_beq_eq_true h
theorem es_dup {v : ew_V} (hv : Nat.beq (ew_cat v) 1 = true) (hx : p.tables.exec = Jvm.exec) (hb : c0.code = ew_cd y) (hd : decode (ew_cd y) pc = .ok (.dup, 1)) : ew_K p l e R s m args below meth c0 G TY sz H0 Q y hS hE aS (pc, ls, v :: st, h) (pc + 1, ls, v :: v :: st, h) :=
  es_st (fun _ w2 => es_cons (es_hd w2) w2) (fun a _ _ _ _ _ _ _ _ kk => lv_dup hx hb hd (ew_cat1 hv a) kk)
theorem es_pop {v : ew_V} (hv : Nat.beq (ew_cat v) 1 = true) (hx : p.tables.exec = Jvm.exec) (hb : c0.code = ew_cd y) (hd : decode (ew_cd y) pc = .ok (.pop, 1)) : ew_K p l e R s m args below meth c0 G TY sz H0 Q y hS hE aS (pc, ls, v :: st, h) (pc + 1, ls, st, h) :=
  es_st (fun _ w2 => es_tail w2) (fun a _ _ _ _ _ _ _ _ kk => lv_pop hx hb hd (ew_cat1 hv a) kk)
theorem es_dup_x1 {v w : ew_V} (hv : Nat.beq (ew_cat v) 1 = true) (hw : Nat.beq (ew_cat w) 1 = true) (hx : p.tables.exec = Jvm.exec) (hb : c0.code = ew_cd y) (hd : decode (ew_cd y) pc = .ok (.dup_x1, 1)) : ew_K p l e R s m args below meth c0 G TY sz H0 Q y hS hE aS (pc, ls, v :: w :: st, h) (pc + 1, ls, v :: w :: v :: st, h) :=
  es_st (fun _ w2 => es_cons (es_hd w2) (es_cons (es_hd (es_tail w2)) (es_cons (es_hd w2) (es_tail (es_tail w2))))) (fun a _ _ _ _ _ _ _ _ kk => lv_dup_x1 hx hb hd (ew_cat1 hv a) (ew_cat1 hw a) kk)
theorem es_dup2 {v w : ew_V} (hv : Nat.beq (ew_cat v) 1 = true) (hw : Nat.beq (ew_cat w) 1 = true) (hx : p.tables.exec = Jvm.exec) (hb : c0.code = ew_cd y) (hd : decode (ew_cd y) pc = .ok (.dup2, 1)) : ew_K p l e R s m args below meth c0 G TY sz H0 Q y hS hE aS (pc, ls, v :: w :: st, h) (pc + 1, ls, v :: w :: v :: w :: st, h) :=
  es_st (fun _ w2 => es_cons (es_hd w2) (es_cons (es_hd (es_tail w2)) w2)) (fun a _ _ _ _ _ _ _ _ kk => lv_dup2_11 hx hb hd (ew_cat1 hv a) (ew_cat1 hw a) kk)
theorem es_goto {o : Int} (ht : (pc : Int) + o = (tg : Int)) (hx : p.tables.exec = Jvm.exec) (hb : c0.code = ew_cd y) (hd : decode (ew_cd y) pc = .ok (.goto o, 3)) : ew_K p l e R s m args below meth c0 G TY sz H0 Q y hS hE aS (pc, ls, st, h) (tg, ls, st, h) :=
  es_st (fun _ w2 => w2) (fun _ _ _ _ _ _ _ _ _ kk => lv_goto hx hb hd ht kk)
end ES
end
section
/-! One step, on both machines: branches, objects, arrays. -/
section ET
variable {p : Program} {l : Launch} {e : Env} {R : Room} {s : State} {m : MethodId} {args : Array Value} {below : List Frame} {meth : Method} {c0 : Code} {Q : State → Prop}
variable {G : va_G} {TY : Nat → ClassId} {sz : Nat} {H0 : Heap} {NW : List Cond} {Wd : State → Prop} {d y : Nat} {hS hE : ew_H} {aS : Nat → Nat → Nat}
variable {pc nx tg : Nat} {cv : Int32} {ls : List (Option ew_V)} {st : List ew_V} {h : ew_H}
/-- a branch -/
theorem es_br {P : Prop} {c1 c2 : ew_C} {c : ew_C} (h1 : c1.2.2.2 = c.2.2.2) (h2 : c2.2.2.2 = c.2.2.2) (l1 : c1.2.1 = c.2.1) (l2 : c2.2.1 = c.2.1) (w1 : (∀ v ∈ c.2.2.1, ew_wf c.2.2.2 v) → ∀ v ∈ c1.2.2.1, ew_wf c.2.2.2 v) (w2 : (∀ v ∈ c.2.2.1, ew_wf c.2.2.2 v) → ∀ v ∈ c2.2.2.1, ew_wf c.2.2.2 v)
    (hs : ∀ (a : Nat → Nat → Nat) (H : Heap) (locs : List Loc) (cells slots : Nat) (L : Array Slot), (P → W p l e R s m args below meth c0 H locs cells slots Q (F0 m c1.1 L (c1.2.2.1.map (ew_c a)))) → (¬ P → W p l e R s m args below meth c0 H locs cells slots Q (F0 m c2.1 L (c2.2.2.1.map (ew_c a)))) → W p l e R s m args below meth c0 H locs cells slots Q (F0 m c.1 L (c.2.2.1.map (ew_c a))))
    (k1 : P → ew_Q p l e R s m args below meth c0 G TY sz H0 Q y hS hE aS c1) (k2 : ¬ P → ew_Q p l e R s m args below meth c0 G TY sz H0 Q y hS hE aS c2) : ew_Q p l e R s m args below meth c0 G TY sz H0 Q y hS hE aS c := by
  obtain ⟨pc, ls, st, h⟩ := c
  obtain ⟨pc1, ls1, st1, hh1⟩ := c1
  obtain ⟨pc2, ls2, st2, hh2⟩ := c2
  dsimp only at h1 h2 l1 l2 w1 w2 hs
  subst h1; subst h2; subst l1; subst l2
  intro hle
  refine ⟨?_, fun a H locs cells slots L hSt => ?_⟩
  · by_cases e : P
    · exact (k1 e hle).1
    · exact (k2 e hle).1
  · obtain ⟨s1, s2, s3, s4, s5, s6, s7, s8, s9⟩ := hSt
    exact hs a H locs cells slots L (fun e => (k1 e hle).2 a H locs cells slots L ⟨s1, s2, s3, s4, s5, w1 s6, s7, s8, s9⟩) (fun e => (k2 e hle).2 a H locs cells slots L ⟨s1, s2, s3, s4, s5, w2 s6, s7, s8, s9⟩)
abbrev ew_Kb (p : Program) (l : Launch) (e : Env) (R : Room) (s : State) (m : MethodId) (args : Array Value) (below : List Frame) (meth : Method) (c0 : Code) (G : va_G) (TY : Nat → ClassId) (sz : Nat) (H0 : Heap) (Q : State → Prop) (y : Nat) (hS hE : ew_H) (aS : Nat → Nat → Nat) (P : Prop) (c c1 c2 : ew_C) : Prop :=
  (P → ew_Q p l e R s m args below meth c0 G TY sz H0 Q y hS hE aS c1) → (¬ P → ew_Q p l e R s m args below meth c0 G TY sz H0 Q y hS hE aS c2) → ew_Q p l e R s m args below meth c0 G TY sz H0 Q y hS hE aS c
theorem es_if {o : Jvm.ClassFile.Cond} {off : Int} {x : Int32} (ht : (pc : Int) + off = (tg : Int)) (hx : p.tables.exec = Jvm.exec) (hb : c0.code = ew_cd y) (hd : decode (ew_cd y) pc = .ok (.ifCond o off, 3)) :
    ew_Kb p l e R s m args below meth c0 G TY sz H0 Q y hS hE aS (ew_c1 o x) (pc, ls, ew_i x :: st, h) (tg, ls, st, h) (pc + 3, ls, st, h) :=
  es_br rfl rfl rfl rfl es_tail es_tail (fun a H locs cells slots L k1 k2 => by
    cases o with
    | eq => exact lv_if_eq hx hb hd ht k1 k2
    | ne => exact lv_if_ne hx hb hd ht k1 (fun z => k2 (fun q => q z))
    | lt => exact lv_if_lt hx hb hd ht k1 k2
    | ge => exact lv_if_ge hx hb hd ht k1 k2
    | gt => exact lv_if_gt hx hb hd ht k1 k2
    | le => exact lv_if_le hx hb hd ht k1 k2)
theorem es_icmp {o : Jvm.ClassFile.Cond} {off : Int} {x z : Int32} (ht : (pc : Int) + off = (tg : Int)) (hx : p.tables.exec = Jvm.exec) (hb : c0.code = ew_cd y) (hd : decode (ew_cd y) pc = .ok (.if_icmp o off, 3)) :
    ew_Kb p l e R s m args below meth c0 G TY sz H0 Q y hS hE aS (ew_c2 o x z) (pc, ls, ew_i z :: ew_i x :: st, h) (tg, ls, st, h) (pc + 3, ls, st, h) :=
  es_br rfl rfl rfl rfl (fun w => es_tail (es_tail w)) (fun w => es_tail (es_tail w)) (fun a H locs cells slots L k1 k2 => by
    cases o with
    | eq => exact lv_icmp_eq hx hb hd ht k1 k2
    | ne => exact lv_icmp_ne hx hb hd ht k1 (fun z => k2 (fun q => q z))
    | lt => exact lv_icmp_lt hx hb hd ht k1 k2
    | ge => exact lv_icmp_ge hx hb hd ht k1 k2
    | gt => exact lv_icmp_gt hx hb hd ht k1 k2
    | le => exact lv_icmp_le hx hb hd ht k1 k2)
theorem es_lcmp {x z : Int64} (hx : p.tables.exec = Jvm.exec) (hb : c0.code = ew_cd y) (hd : decode (ew_cd y) pc = .ok (.lcmp, 1)) :
    ew_Kb p l e R s m args below meth c0 G TY sz H0 Q y hS hE aS (x = z) (pc, ls, ew_j z :: ew_j x :: st, h) (pc + 1, ls, ew_i 0 :: st, h) (pc + 1, ls, ew_i (if x < z then -1 else 1) :: st, h) :=
  es_br rfl rfl rfl rfl (fun w => es_cons trivial (es_tail (es_tail w))) (fun w => es_cons trivial (es_tail (es_tail w))) (fun a H locs cells slots L k1 k2 => by
    refine W.lcmp hx hb hd ?_
    by_cases e : x = z
    · subst e
      rw [show lg_cmp x x = 0 by simp [lg_cmp]]
      exact k1 rfl
    · have hne : ¬ x.toInt = z.toInt := fun q => e (Int64.toInt_inj.mp q)
      by_cases e2 : z < x
      · rw [show lg_cmp x z = 1 by simp [lg_cmp, e2]]
        have := k2 e
        rw [if_neg (by rw [Int64.lt_iff_toInt_lt] at e2 ⊢; omega)] at this
        exact this
      · rw [show lg_cmp x z = -1 by simp [lg_cmp, e2, e]]
        have := k2 e
        rw [if_pos (by rw [Int64.lt_iff_toInt_lt] at e2 ⊢; omega)] at this
        exact this)
theorem es_acmp {off : Int} {k i i' : Nat} (ht : (pc : Int) + off = (tg : Int)) (hx : p.tables.exec = Jvm.exec) (hb : c0.code = ew_cd y) (hd : decode (ew_cd y) pc = .ok (.if_acmp .eq off, 3)) (hii : i = i') :
    ew_K p l e R s m args below meth c0 G TY sz H0 Q y hS hE aS (pc, ls, ew_o k i' :: ew_o k i :: st, h) (tg, ls, st, h) := by
  subst hii
  refine es_st (fun w => fun w2 => es_tail (es_tail w2)) (fun a H locs cells slots L I w hL kk => ?_)
  exact lv_acmp_eq (rx := some (a k i)) (ry := some (a k i)) hx hb hd ht (fun _ => kk) (fun z => absurd rfl z)
theorem es_acmpN {off : Int} {k i k' i' : Nat} (ht : (pc : Int) + off = (tg : Int)) (hx : p.tables.exec = Jvm.exec) (hb : c0.code = ew_cd y) (hd : decode (ew_cd y) pc = .ok (.if_acmp .eq off, 3)) (hk : ¬ k = k') (h1 : ¬ k = 31) (h2 : ¬ k' = 31) :
    ew_K p l e R s m args below meth c0 G TY sz H0 Q y hS hE aS (pc, ls, ew_o k' i' :: ew_o k i :: st, h) (pc + 3, ls, st, h) := by
  refine es_st (fun w => fun w2 => es_tail (es_tail w2)) (fun a H locs cells slots L I w hL kk => ?_)
  have w1 := (es_hd w).resolve_left h2
  have w2 := (es_hd (es_tail w)).resolve_left h1
  exact lv_acmp_eq (rx := some (a k i)) (ry := some (a k' i')) hx hb hd ht (fun z => absurd (I.2.1 _ _ _ _ w2 w1 (Option.some.inj z)).1 hk) (fun _ => kk)
/-- a step that writes into an object -/
theorem es_wr {pc' : Nat} {st' : List ew_V} {h' : ew_H} (e2 : h'.2 = h.2) (hwl : (∀ v ∈ st, ew_wf h v) → ∀ v ∈ st', ew_wf h v)
    (hs : ∀ (a : Nat → Nat → Nat) (H : Heap) (locs : List Loc) (cells slots : Nat) (L : Array Slot), ew_I G TY sz H0 a h H → (∀ v ∈ st, ew_wf h v) → L.size = et_mx y → (∀ q ∈ locs, sz ≤ q.base) → (∀ (H1 : Heap) (locs1 : List Loc), (∀ q ∈ locs1, sz ≤ q.base) → ew_I G TY sz H0 a h' H1 → W p l e R s m args below meth c0 H1 locs1 cells slots Q (F0 m pc' L (st'.map (ew_c a)))) → W p l e R s m args below meth c0 H locs cells slots Q (F0 m pc L (st.map (ew_c a))))
    (k : ew_Q p l e R s m args below meth c0 G TY sz H0 Q y hS hE aS (pc', ls, st', h')) : ew_Q p l e R s m args below meth c0 G TY sz H0 Q y hS hE aS (pc, ls, st, h) := by
  have le1 : ew_le h h' := ⟨fun k i z => by rw [e2]; exact z, by rw [e2]; exact Nat.le_refl _, by rw [e2]; exact Nat.le_refl _⟩
  intro hle
  obtain ⟨k1, k2⟩ := k (hle.tr le1)
  refine ⟨le1.tr k1, fun a H locs cells slots L hSt => ?_⟩
  obtain ⟨s1, s2, s3, s4, s5, s6, s7, s8, s9⟩ := hSt
  refine hs a H locs cells slots L s2 s6 s3.1 s7 (fun H1 locs1 hl1 I1 => k2 a H1 locs1 cells slots L ⟨s1, I1, s3, s4, fun v z => (s5 v z).le le1, fun v z => (hwl s6 v z).le le1, hl1, ?_, ?_⟩)
  · rw [s8, e2]
  · rw [s9, e2]
/-- a step that makes an object -/
theorem es_mk {pc' k i N : Nat} {z : Nat → ew_V} {st0 : List ew_V} (hk31 : ¬ k = 31) (hn : ∀ {a H}, ew_I G TY sz H0 a h H → h.2.2.1 k i = false) (hwl : (∀ v ∈ st, ew_wf h v) → ∀ v ∈ st0, ew_wf h v)
    (hs : ∀ (a : Nat → Nat → Nat) (H : Heap) (locs : List Loc) (cells slots : Nat) (L : Array Slot), ew_I G TY sz H0 a h H → (∀ v ∈ st, ew_wf h v) → cells + 1 + hS.2.2.2.2.1 ≤ hE.2.2.2.2.1 → slots + N + hS.2.2.2.2.2 ≤ hE.2.2.2.2.2 → (∀ H1 : Heap, ew_I G TY sz H0 (ew_al a k i H.size) (ew_mk h k i N z) H1 → W p l e R s m args below meth c0 H1 locs (cells + 1) (slots + N) Q (F0 m pc' L (Value.ref (ew_al a k i H.size k i) :: st0.map (ew_c a)))) → W p l e R s m args below meth c0 H locs cells slots Q (F0 m pc L (st.map (ew_c a))))
    (kq : ew_Q p l e R s m args below meth c0 G TY sz H0 Q y hS hE aS (pc', ls, ew_o k i :: st0, ew_mk h k i N z)) : ew_Q p l e R s m args below meth c0 G TY sz H0 Q y hS hE aS (pc, ls, st, h) := by
  have le1 := ew_mk_le h k i N z
  intro hle
  obtain ⟨k1, k2⟩ := kq (hle.tr le1)
  refine ⟨le1.tr k1, fun a H locs cells slots L hSt => ?_⟩
  obtain ⟨s1, s2, s3, s4, s5, s6, s7, s8, s9⟩ := hSt
  have hex : ew_ex h a (ew_al a k i H.size) := ew_ex.al hk31 (hn s2)
  have c1 : cells + 1 + hS.2.2.2.2.1 ≤ hE.2.2.2.2.1 := by
    have := k1.2.1
    have e1 : (ew_mk h k i N z).2.2.2.2.1 = h.2.2.2.2.1 + 1 := rfl
    dsimp only at this s8
    omega
  have c2 : slots + N + hS.2.2.2.2.2 ≤ hE.2.2.2.2.2 := by
    have := k1.2.2
    have e1 : (ew_mk h k i N z).2.2.2.2.2 = h.2.2.2.2.2 + N := rfl
    dsimp only at this s9
    omega
  refine hs a H locs cells slots L s2 s6 c1 c2 (fun H1 I1 => ?_)
  have key := k2 (ew_al a k i H.size) H1 locs (cells + 1) (slots + N) L ⟨s1.tr hle hex, I1, ?_, s4, fun v q => (s5 v q).le le1, es_cons (Or.inr (ew_mk_lself h k i N z)) (fun v q => (hwl s6 v q).le le1), s7, ?_, ?_⟩
  · rw [List.map_cons, hex.map (hwl s6)] at key
    exact key
  · refine ⟨s3.1, s3.2.1, fun q hq => ?_⟩
    obtain ⟨j, v, e1, rfl⟩ := (ew_lp_mem ls 0 q).mp hq
    rw [hex.c (s5 v (es_mem e1))]
    exact s3.2.2 _ ((ew_lp_mem ls 0 _).mpr ⟨j, v, e1, rfl⟩)
  · show cells + 1 + hS.2.2.2.2.1 = h.2.2.2.2.1 + 1
    dsimp only at s8
    omega
  · show slots + N + hS.2.2.2.2.2 = h.2.2.2.2.2 + N
    dsimp only at s9
    omega
end ET
end
section
/-! One step, on both machines: fields, arrays, what is made, calls that return. -/
section EU
variable {p : Program} {l : Launch} {e : Env} {R : Room} {s : State} {m : MethodId} {args : Array Value} {below : List Frame} {meth : Method} {c0 : Code} {Q : State → Prop}
variable {G : va_G} {TY : Nat → ClassId} {sz : Nat} {H0 : Heap} {NW : List Cond} {Wd : State → Prop} {d y : Nat} {hS hE : ew_H} {aS : Nat → Nat → Nat}
variable {pc nx tg : Nat} {cv : Int32} {ls : List (Option ew_V)} {st : List ew_V} {h : ew_H}
theorem ew_live {k i : Nat} (w : ew_wf h (ew_o k i)) (hk : ¬ k = 31) : h.2.2.1 k i = true := w.resolve_left hk
theorem ew_ne31 {k t : Nat} (h : ew_ct k = t) (ht : t < 31) : ¬ k = 31 := fun e => by subst e; subst h; exact absurd ht (by decide)
theorem es_get (X : ew_Cx p l e R s m args below meth c0 NW G TY Wd d y) {x ci sl t k i : Nat} (hF : ew_FdP NW (ew_on (et_cls y)) x ci sl t) (hci : ci < 17) (hc : ew_ct k = ci) (hd : decode (ew_cd y) pc = .ok (.getfield x, 3)) :
    ew_K p l e R s m args below meth c0 G TY sz H0 Q y hS hE aS (pc, ls, ew_o k i :: st, h) (pc + 3, ls, h.1 k i sl :: st, h) := by
  obtain ⟨hx, hb, hml, hown, hts, hW, hwd, -, -, -⟩ := X
  obtain ⟨hK, hA, hO, hNW⟩ := hW.2.2 s hwd
  intro kq hle
  obtain ⟨k1, k2⟩ := kq hle
  refine ⟨k1, fun a H locs cells slots L hSt => ?_⟩
  obtain ⟨s1, s2, s3, s4, s5, s6, s7, s8, s9⟩ := hSt
  have hl := ew_live (es_hd s6) (ew_ne31 hc (by omega))
  exact er_get hx hb hts hNW hK hown s2 hl hF hc hci hd (k2 a H locs cells slots L ⟨s1, s2, s3, s4, s5, es_cons (s2.2.2.1 _ _ _ hl).wf (es_tail s6), s7, s8, s9⟩)
theorem es_put (X : ew_Cx p l e R s m args below meth c0 NW G TY Wd d y) {x ci sl t k i : Nat} {v : ew_V} (hF : ew_FdP [] (ew_on (et_cls y)) x ci sl t) (hci : ci < 17) (hc : ew_ct k = ci) (hcst : ew_cst k = false) (hfin : et_fin ci sl = true → et_ini y = true ∧ ∀ r : vw_C, vwCl[ci]? = some r → r.1 = ew_on (et_cls y)) (hf : ew_fit t v) (hd : decode (ew_cd y) pc = .ok (.putfield x, 3)) :
    ew_K p l e R s m args below meth c0 G TY sz H0 Q y hS hE aS (pc, ls, v :: ew_o k i :: st, h) (pc + 3, ls, st, ew_put h k i sl v) := by
  obtain ⟨hx, hb, hml, hown, hts, hW, hwd, -, -, hini⟩ := X
  obtain ⟨hK, hA, hO, hNW⟩ := hW.2.2 s hwd
  refine es_wr rfl (fun w => es_tail (es_tail w)) (fun a H locs cells slots L I w hL hlocs kk => ?_)
  exact er_put hx hb hts hK hown I (ew_live (es_hd (es_tail w)) (ew_ne31 hc (by omega))) hF hc hci hcst (fun z => ⟨hini (hfin z).1, (hfin z).2⟩) hf (es_hd w) hd kk hlocs
theorem es_alen (X : ew_Cx p l e R s m args below meth c0 NW G TY Wd d y) {k i : Nat} (h1 : 17 ≤ ew_ct k) (h2 : ew_ct k < 25) (hd : decode (ew_cd y) pc = .ok (.arraylength, 1)) :
    ew_K p l e R s m args below meth c0 G TY sz H0 Q y hS hE aS (pc, ls, ew_o k i :: st, h) (pc + 1, ls, ew_i (Int32.ofNat (ew_len h k i)) :: st, h) := by
  obtain ⟨hx, hb, hml, hown, hts, hW, hwd, -, -, -⟩ := X
  obtain ⟨hK, hA, hO, hNW⟩ := hW.2.2 s hwd
  refine es_st (fun _ w2 => es_cons trivial (es_tail w2)) (fun a H locs cells slots L I w _ kk => ?_)
  exact er_alen hx hb hA I (ew_live (es_hd w) (ew_ne31 (k := k) rfl (by omega))) h1 h2 hd kk
theorem es_ald (X : ew_Cx p l e R s m args below meth c0 NW G TY Wd d y) {k i : Nat} {j : Int32} {ins : Instr} (hj : ew_ix j (ew_len h k i)) (hd : decode (ew_cd y) pc = .ok (ins, 1)) (hi : (ins = .iaload ∧ ew_ct k = 17) ∨ (ins = .baload ∧ ew_ct k = 18) ∨ (ins = .aaload ∧ 20 ≤ ew_ct k ∧ ew_ct k < 25)) :
    ew_K p l e R s m args below meth c0 G TY sz H0 Q y hS hE aS (pc, ls, ew_i j :: ew_o k i :: st, h) (pc + 1, ls, h.1 k i j.toNatClampNeg :: st, h) := by
  obtain ⟨hx, hb, hml, hown, hts, hW, hwd, -, -, -⟩ := X
  obtain ⟨hK, hA, hO, hNW⟩ := hW.2.2 s hwd
  intro kq hle
  obtain ⟨k1, k2⟩ := kq hle
  refine ⟨k1, fun a H locs cells slots L hSt => ?_⟩
  obtain ⟨s1, s2, s3, s4, s5, s6, s7, s8, s9⟩ := hSt
  have h31 : ¬ k = 31 := by
    intro e
    subst e
    have e31 : ew_ct 31 = 31 := rfl
    rcases hi with ⟨-, hi⟩ | ⟨-, hi⟩ | ⟨-, hi⟩ <;> omega
  have hl := ew_live (es_hd (es_tail s6)) h31
  have kk := k2 a H locs cells slots L ⟨s1, s2, s3, s4, s5, es_cons (s2.2.2.1 _ _ _ hl).wf (es_tail (es_tail s6)), s7, s8, s9⟩
  rcases hi with ⟨rfl, hi⟩ | ⟨rfl, hi⟩ | ⟨rfl, hi⟩
  · exact er_iald hx hb hA s2 hl hi hj hd kk
  · exact er_zald hx hb hA s2 hl hi hj hd kk
  · exact er_aald hx hb hA s2 hl hi.1 hi.2 hj hd kk
theorem es_ast (X : ew_Cx p l e R s m args below meth c0 NW G TY Wd d y) {k i : Nat} {j : Int32} {v : ew_V} {ins : Instr} (hcst : ew_cst k = false) (hj : ew_ix j (ew_len h k i)) (hd : decode (ew_cd y) pc = .ok (ins, 1)) (h31 : ¬ k = 31)
    (hi : (ins = .iastore ∧ ew_ct k = 17 ∧ ew_fit 0 v) ∨ (ins = .bastore ∧ ew_ct k = 18 ∧ ew_fit 1 v) ∨ (ins = .aastore ∧ 20 ≤ ew_ct k ∧ ew_fit 2 v ∧ ew_asg k v = true)) :
    ew_K p l e R s m args below meth c0 G TY sz H0 Q y hS hE aS (pc, ls, v :: ew_i j :: ew_o k i :: st, h) (pc + 1, ls, st, ew_put h k i j.toNatClampNeg v) := by
  obtain ⟨hx, hb, hml, hown, hts, hW, hwd, -, -, -⟩ := X
  obtain ⟨hK, hA, hO, hNW⟩ := hW.2.2 s hwd
  refine es_wr rfl (fun w => es_tail (es_tail (es_tail w))) (fun a H locs cells slots L I w hL hlocs kk => ?_)
  have hl := ew_live (es_hd (es_tail (es_tail w))) h31
  rcases hi with ⟨rfl, hi, hf⟩ | ⟨rfl, hi, hf⟩ | ⟨rfl, hi, hf, hg⟩
  · rcases v with v | v
    · cases v <;> first | exact hf.elim | exact er_iast hx hb hA I hl hi hcst hlocs hj hd kk
    · exact hf.elim
  · rcases v with v | v
    · cases v <;> first | exact hf.elim | exact er_zast hx hb hA I hl hi hcst hlocs hj hf hd kk
    · exact hf.elim
  · have h25 := (I.1 k i hl).2.2.2
    rcases v with v | ⟨k', i'⟩
    · cases v <;> first | exact hf.elim | cases hg
    · exact er_aast hx hb hA I hl hi h25 hcst hlocs hj (ew_wh_of (v := ew_o k' i') (es_hd w) hf) hf (hO k k' i' hg) hd kk
theorem es_new (X : ew_Cx p l e R s m args below meth c0 NW G TY Wd d y) {x k ci : Nat} {r : vw_C} (hr : vwCl[ci]? = some r) (hC : ew_ClP ci r) (hc : ew_ct k = ci) (hci : ci < 17) (hcst : ew_cst k = false) (hctr : ew_ctr k = true)
    (hlk : Cond.classLink (ew_on (et_cls y)) x r.1 ∈ ew_TW) (hin : Cond.instantiable r.1 r.2.2 ∈ ew_TW) (hini : Cond.initialized r.1 ∈ ew_TW) (hRc : hE.2.2.2.2.1 - hS.2.2.2.2.1 ≤ R.cells) (hRs : hE.2.2.2.2.2 - hS.2.2.2.2.2 ≤ R.slots) (hd : decode (ew_cd y) pc = .ok (.new x, 3)) :
    ew_K p l e R s m args below meth c0 G TY sz H0 Q y hS hE aS (pc, ls, st, h) (pc + 3, ls, ew_o k (h.2.2.2.1 k) :: st, ew_mk h k (h.2.2.2.1 k) (et_N ci) (et_dv ci)) := by
  obtain ⟨hx, hb, hml, hown, hts, hW, hwd, -, -, -⟩ := X
  obtain ⟨hK, hA, hO, hNW⟩ := hW.2.2 s hwd
  have hN := hC.2.2.2.1
  refine es_mk (ew_ne31 hc (by omega)) (fun I => I.2.2.2.1 k _ hctr (Nat.le_refl _)) (fun w => w) (fun a H locs cells slots L I w c1 c2 kk => ?_)
  exact er_new hx hb hts hK hown I hr hC hc hci hcst hctr hlk hin hini (by omega) (by omega) hd kk
theorem es_newa (X : ew_Cx p l e R s m args below meth c0 NW G TY Wd d y) {k : Nat} {n : Int32} {at' : ArrayType} {z : ew_V} (hty : ew_ty (ew_ct k) = newarray.typeOf at') (hcl : Cond.arrayClass (newarray.typeOf at') ∈ ew_TW) (h1 : 17 ≤ ew_ct k) (h2 : ew_ct k < 20) (hcst : ew_cst k = false) (hctr : ew_ctr k = true) (hz : ∃ v, z = .inl v ∧ ∀ q, v ≠ .ref q) (hdv : ∀ a, ew_c a z = defaultValue (newarray.typeOf at'))
    (hn : ¬ n < 0) (hN : n.toNatClampNeg ≤ 1000000) (hsl : ew_sl k n.toNatClampNeg = n.toNatClampNeg) (hRc : hE.2.2.2.2.1 - hS.2.2.2.2.1 ≤ R.cells) (hRs : hE.2.2.2.2.2 - hS.2.2.2.2.2 ≤ R.slots) (hd : decode (ew_cd y) pc = .ok (.newarray at', 2)) :
    ew_K p l e R s m args below meth c0 G TY sz H0 Q y hS hE aS (pc, ls, ew_i n :: st, h) (pc + 2, ls, ew_o k (h.2.2.2.1 k) :: st, ew_mk h k (h.2.2.2.1 k) n.toNatClampNeg (fun _ => z)) := by
  obtain ⟨hx, hb, hml, hown, hts, hW, hwd, -, -, -⟩ := X
  obtain ⟨hK, hA, hO, hNW⟩ := hW.2.2 s hwd
  refine es_mk (ew_ne31 rfl (by omega)) (fun I => I.2.2.2.1 k _ hctr (Nat.le_refl _)) (fun w => es_tail w) (fun a H locs cells slots L I w c1 c2 kk => ?_)
  exact er_newa hx hb hA I hty (hts _ hcl) h1 h2 hcst hctr hz (hdv a) hn hsl hN (by omega) (by omega) hd kk
theorem es_anewa (X : ew_Cx p l e R s m args below meth c0 NW G TY Wd d y) {k i x : Nat} {n : Int32} {C : String} (hty : ew_ty (ew_ct k) = .object C) (hlk : Cond.classLink (ew_on (et_cls y)) x C ∈ ew_TW) (hov : ∀ U, Wd U → va_AO C U) (h1 : 20 ≤ ew_ct k) (h2 : ew_ct k < 25) (hcst : ew_cst k = false) (hctr : ew_ctr k = true → i = h.2.2.2.1 k) (hnl : ew_ctr k = false → h.2.2.1 k i = false)
    (hn : ¬ n < 0) (hN : n.toNatClampNeg ≤ 1000000) (hsl : ew_sl k n.toNatClampNeg = n.toNatClampNeg) (hRc : hE.2.2.2.2.1 - hS.2.2.2.2.1 ≤ R.cells) (hRs : hE.2.2.2.2.2 - hS.2.2.2.2.2 ≤ R.slots) (hd : decode (ew_cd y) pc = .ok (.anewarray x, 3)) :
    ew_K p l e R s m args below meth c0 G TY sz H0 Q y hS hE aS (pc, ls, ew_i n :: st, h) (pc + 3, ls, ew_o k i :: st, ew_mk h k i n.toNatClampNeg (fun _ => ew_0)) := by
  obtain ⟨hx, hb, hml, hown, hts, hW, hwd, -, -, -⟩ := X
  obtain ⟨hK, hA, hO, hNW⟩ := hW.2.2 s hwd
  have hnl' : ∀ {a H}, ew_I G TY sz H0 a h H → h.2.2.1 k i = false := fun I => by
    cases e : ew_ctr k with
    | true => exact I.2.2.2.1 k i e (by rw [hctr e]; exact Nat.le_refl _)
    | false => exact hnl e
  refine es_mk (ew_ne31 rfl (by omega)) hnl' (fun w => es_tail w) (fun a H locs cells slots L I w c1 c2 kk => ?_)
  exact er_anewa hx hb hown hA I hty (hts _ hlk) (hov s hwd) h1 h2 hcst (hnl' I) hctr hn hsl hN (by omega) (by omega) hd kk
theorem es_anewA (X : ew_Cx p l e R s m args below meth c0 NW G TY Wd d y) {k i x : Nat} {n : Int32} (hty : ew_ty (ew_ct k) = .array .int) (hlk : Cond.classLink (ew_on (et_cls y)) x "[I" ∈ ew_TW) (hov : ∀ U, Wd U → ew_AA U) (h1 : 20 ≤ ew_ct k) (h2 : ew_ct k < 25) (hcst : ew_cst k = false) (hctr : ew_ctr k = true → i = h.2.2.2.1 k) (hnl : ew_ctr k = false → h.2.2.1 k i = false)
    (hn : ¬ n < 0) (hN : n.toNatClampNeg ≤ 1000000) (hsl : ew_sl k n.toNatClampNeg = n.toNatClampNeg) (hRc : hE.2.2.2.2.1 - hS.2.2.2.2.1 ≤ R.cells) (hRs : hE.2.2.2.2.2 - hS.2.2.2.2.2 ≤ R.slots) (hd : decode (ew_cd y) pc = .ok (.anewarray x, 3)) :
    ew_K p l e R s m args below meth c0 G TY sz H0 Q y hS hE aS (pc, ls, ew_i n :: st, h) (pc + 3, ls, ew_o k i :: st, ew_mk h k i n.toNatClampNeg (fun _ => ew_0)) := by
  obtain ⟨hx, hb, hml, hown, hts, hW, hwd, -, -, -⟩ := X
  obtain ⟨hK, hA, hO, hNW⟩ := hW.2.2 s hwd
  have hnl' : ∀ {a H}, ew_I G TY sz H0 a h H → h.2.2.1 k i = false := fun I => by
    cases e : ew_ctr k with
    | true => exact I.2.2.2.1 k i e (by rw [hctr e]; exact Nat.le_refl _)
    | false => exact hnl e
  refine es_mk (ew_ne31 rfl (by omega)) hnl' (fun w => es_tail w) (fun a H locs cells slots L I w c1 c2 kk => ?_)
  exact er_anewA hx hb hown hA I hty (hts _ hlk) (hov s hwd) h1 h2 hcst (hnl' I) hctr hn hsl hN (by omega) (by omega) hd kk
theorem es_cast (X : ew_Cx p l e R s m args below meth c0 NW G TY Wd d y) {x k i : Nat} {r : vw_C} (h1 : ew_ct k < 17) (hr : vwCl[ew_ct k]? = some r) (hlk : Cond.classLink (ew_on (et_cls y)) x r.1 ∈ ew_TW) (hd : decode (ew_cd y) pc = .ok (.checkcast x, 3)) :
    ew_K p l e R s m args below meth c0 G TY sz H0 Q y hS hE aS (pc, ls, ew_o k i :: st, h) (pc + 3, ls, ew_o k i :: st, h) := by
  obtain ⟨hx, hb, hml, hown, hts, hW, hwd, -, -, -⟩ := X
  obtain ⟨hK, hA, hO, hNW⟩ := hW.2.2 s hwd
  refine es_st (fun _ w2 => w2) (fun a H locs cells slots L I w _ kk => ?_)
  exact er_cast hx hb hown hK I (ew_live (es_hd w) (ew_ne31 (k := k) rfl (by omega))) h1 hr (hts _ hlk) hd kk
theorem es_castA (X : ew_Cx p l e R s m args below meth c0 NW G TY Wd d y) {x k i : Nat} (hcst : ew_cst k = false) (h1 : ew_ct k = 17) (hlk : Cond.classLink (ew_on (et_cls y)) x "[I" ∈ ew_TW) (hd : decode (ew_cd y) pc = .ok (.checkcast x, 3)) :
    ew_K p l e R s m args below meth c0 G TY sz H0 Q y hS hE aS (pc, ls, ew_o k i :: st, h) (pc + 3, ls, ew_o k i :: st, h) := by
  obtain ⟨hx, hb, hml, hown, hts, hW, hwd, -, -, -⟩ := X
  obtain ⟨hK, hA, hO, hNW⟩ := hW.2.2 s hwd
  refine es_st (fun _ w2 => w2) (fun a H locs cells slots L I w _ kk => ?_)
  have hra := (hA.1 17 (by decide) (by decide)).2
  exact er_castA (k := k) hx hb hown I (ew_live (es_hd w) (ew_ne31 h1 (by omega))) hcst (by omega) (by omega) (hts _ hlk) (by rw [h1]; exact hra) hd kk
theorem es_obj (X : ew_Cx p l e R s m args below meth c0 NW G TY Wd d y) {x k i : Nat} (hlk : Cond.methodLink (ew_on (et_cls y)) x objectInit ∈ ew_TW) (hins : Cond.instanceMethod objectInit ∈ ew_TW) (hcd : Cond.code objectInit ⟨#[0xb1]⟩ 1 none ∈ ew_TW) (hc8 : ew_cats st ≤ 8) (hd : decode (ew_cd y) pc = .ok (.invokespecial x, 3)) :
    ew_K p l e R s m args below meth c0 G TY sz H0 Q y hS hE aS (pc, ls, ew_o k i :: st, h) (pc + 3, ls, st, h) := by
  obtain ⟨hx, hb, hml, hown, hts, hW, hwd, hf, hlo, -⟩ := X
  refine es_st (fun _ w2 => es_tail w2) (fun a H locs cells slots L I w hL kk => ?_)
  refine W.objInit hx hb hown (hts _ hlk) (hts _ hins) (hts _ hcd) rfl (by rw [hml]; exact hL.1) rfl hd (by omega) (by rw [ew_cats_map]; show 2 * 0 + _ + 12 ≤ _; omega) kk
theorem es_math (X : ew_Cx p l e R s m args below meth c0 NW G TY Wd d y) {x : Nat} {u v : Int32} (hw : ∀ w ∈ ([.static Lib.Math.max.name, .initialized "java/lang/Math", .code Lib.Math.max.name Lib.Math.max.code 2 (some .int), .static Lib.Math.min.name, .code Lib.Math.min.name Lib.Math.min.code 2 (some .int)] : List Cond), w ∈ ew_TW) (hc8 : ew_cats st ≤ 20) (hRc : hE.2.2.2.2.1 - hS.2.2.2.2.1 ≤ R.cells) (hRs : hE.2.2.2.2.2 - hS.2.2.2.2.2 ≤ R.slots) {f : Int32 → Int32 → Int32}
    (hlk : (f = ew_max ∧ Cond.methodLink (ew_on (et_cls y)) x Lib.Math.max.name ∈ ew_TW) ∨ (f = ew_min ∧ Cond.methodLink (ew_on (et_cls y)) x Lib.Math.min.name ∈ ew_TW)) (hd : decode (ew_cd y) pc = .ok (.invokestatic x, 3)) :
    ew_K p l e R s m args below meth c0 G TY sz H0 Q y hS hE aS (pc, ls, ew_i v :: ew_i u :: st, h) (pc + 3, ls, ew_i (f u v) :: st, h) := by
  obtain ⟨hx, hb, hml, hown, hts, hW, hwd, hf, hlo, -⟩ := X
  intro kq hle
  obtain ⟨k1, k2⟩ := kq hle
  refine ⟨k1, fun a H locs cells slots L hSt => ?_⟩
  obtain ⟨s1, s2, s3, s4, s5, s6, s7, s8, s9⟩ := hSt
  have kk := k2 a H locs cells slots L ⟨s1, s2, s3, s4, s5, es_cons trivial (es_tail (es_tail s6)), s7, s8, s9⟩
  have b1 := k1.2.1
  have b2 := k1.2.2
  dsimp only at b1 b2 s8 s9
  have hcs : ((st.map (ew_c a)).map fun v => v.category).sum + 13 ≤ R.locals := by rw [ew_cats_map]; omega
  rcases hlk with ⟨rfl, hlk⟩ | ⟨rfl, hlk⟩
  · exact va_mmax hx hb (by rw [hml]; exact s3.1.symm) hown (hts _ hlk) (hts _ (hw _ (by simp))) (hts _ (hw _ (by simp))) (hts _ (hw _ (by simp))) (by omega) hcs (by omega) (by omega) hd kk
  · exact va_mmin hx hb (by rw [hml]; exact s3.1.symm) hown (hts _ hlk) (hts _ (hw _ (by simp))) (hts _ (hw _ (by simp))) (hts _ (hw _ (by simp))) (by omega) hcs (by omega) (by omega) hd kk
theorem es_abs (X : ew_Cx p l e R s m args below meth c0 NW G TY Wd d y) {x : Nat} {u : Int32} (hw : ∀ w ∈ ([.static Lib.Math.abs.name, .initialized "java/lang/Math", .code Lib.Math.abs.name Lib.Math.abs.code 1 (some .int)] : List Cond), w ∈ ew_TW) (hc8 : ew_cats st ≤ 20) (hRc : hE.2.2.2.2.1 - hS.2.2.2.2.1 ≤ R.cells) (hRs : hE.2.2.2.2.2 - hS.2.2.2.2.2 ≤ R.slots)
    (hlk : Cond.methodLink (ew_on (et_cls y)) x Lib.Math.abs.name ∈ ew_TW) (hd : decode (ew_cd y) pc = .ok (.invokestatic x, 3)) :
    ew_K p l e R s m args below meth c0 G TY sz H0 Q y hS hE aS (pc, ls, ew_i u :: st, h) (pc + 3, ls, ew_i (ew_abs u) :: st, h) := by
  obtain ⟨hx, hb, hml, hown, hts, hW, hwd, hf, hlo, -⟩ := X
  intro kq hle
  obtain ⟨k1, k2⟩ := kq hle
  refine ⟨k1, fun a H locs cells slots L hSt => ?_⟩
  obtain ⟨s1, s2, s3, s4, s5, s6, s7, s8, s9⟩ := hSt
  have kk := k2 a H locs cells slots L ⟨s1, s2, s3, s4, s5, es_cons trivial (es_tail s6), s7, s8, s9⟩
  have b1 := k1.2.1
  have b2 := k1.2.2
  dsimp only at b1 b2 s8 s9
  have hcs : ((st.map (ew_c a)).map fun v => v.category).sum + 13 ≤ R.locals := by rw [ew_cats_map]; omega
  exact va_mabs hx hb (by rw [hml]; exact s3.1.symm) hown (hts _ hlk) (hts _ (hw _ (by simp))) (hts _ (hw _ (by simp))) (hts _ (hw _ (by simp))) (by omega) hcs (by omega) (by omega) hd kk
end EU
end
section
/-! One step, on both machines: calls. -/
section EV
variable {p : Program} {l : Launch} {e : Env} {R : Room} {s : State} {m : MethodId} {args : Array Value} {below : List Frame} {meth : Method} {c0 : Code} {Q : State → Prop}
variable {G : va_G} {TY : Nat → ClassId} {sz : Nat} {H0 : Heap} {NW : List Cond} {Wd : State → Prop} {CK : Nat → Nat → Option Nat} {d y : Nat} {hS hE : ew_H} {aS : Nat → Nat → Nat}
variable {pc nx tg : Nat} {cv : Int32} {ls : List (Option ew_V)} {st : List ew_V} {h : ew_H}
/-- behind a call -/
theorem es_after {a a' : Nat → Nat → Nat} {H H1 : Heap} {locs locs1 : List Loc} {cells slots pc pc' : Nat} {L : Array Slot} {st st' : List ew_V} {h' : ew_H} (hSt : ew_St G TY sz H0 y hS aS a (pc, ls, st, h) H locs cells slots L) (hle0 : ew_le hS h) (hle : ew_le h h') (hex : ew_ex h a a') (hl1 : ∀ q ∈ locs1, sz ≤ q.base) (I1 : ew_I G TY sz H0 a' h' H1) (hw : ∀ v ∈ st', ew_wf h' v) :
    ew_St G TY sz H0 y hS aS a' (pc', ls, st', h') H1 locs1 (cells + (h'.2.2.2.2.1 - h.2.2.2.2.1)) (slots + (h'.2.2.2.2.2 - h.2.2.2.2.2)) L := by
  obtain ⟨s1, s2, s3, s4, s5, s6, s7, s8, s9⟩ := hSt
  have b1 := hle.2.1
  have b2 := hle.2.2
  dsimp only at s8 s9
  refine ⟨s1.tr hle0 hex, I1, ⟨s3.1, s3.2.1, fun q hq => ?_⟩, s4, fun v q => (s5 v q).le hle, hw, hl1, by dsimp only; omega, by dsimp only; omega⟩
  obtain ⟨j, v, e1, rfl⟩ := (ew_lp_mem ls 0 q).mp hq
  rw [hex.c (s5 v (es_mem e1))]
  exact s3.2.2 _ ((ew_lp_mem ls 0 _).mpr ⟨j, v, e1, rfl⟩)
theorem es_callV (X : ew_Cx p l e R s m args below meth c0 NW G TY Wd d y) (hck : ew_ck CK hS aS) {d' x z n k i : Nat} {r : vw_C} (hdd : d = d' + 1) (hr : vwCl[ew_ct k]? = some r) (hrc : (ew_nm z).cls = r.1) (h17 : ew_ct k < 17) (hY : ew_YP z) (hkd : et_kd z = 1) (y8 : Cond.selects (ew_nm z).cls (ew_nm z) (ew_nm z) ∈ ew_TW) (hLP : ew_LP NW (ew_on (et_cls y)) x z n) {as rest : List ew_V} (hn : as.length = n) {v : Option ew_V} {h' : ew_H} (hM : ew_Mt l G TY sz H0 CK Wd d' z (ew_o k i :: as) h v h') (hc8 : ew_cats rest ≤ 8)
    (hle : ew_le h h') (hRc : hE.2.2.2.2.1 - hS.2.2.2.2.1 ≤ R.cells) (hRs : hE.2.2.2.2.2 - hS.2.2.2.2.2 ≤ R.slots) (hd : decode (ew_cd y) pc = .ok (.invokevirtual x, 3)) :
    ew_K p l e R s m args below meth c0 G TY sz H0 Q y hS hE aS (pc, ls, as.reverse ++ ew_o k i :: rest, h) (pc + 3, ls, v.toList ++ rest, h') := by
  obtain ⟨hx, hb, hml, hown, hts, hW, hwd, hf, hlo, -⟩ := X
  intro kq hle0
  obtain ⟨k1, k2⟩ := kq (hle0.tr hle)
  refine ⟨hle.tr k1, fun a H locs cells slots L hSt => ?_⟩
  obtain ⟨s1, s2, s3, s4, s5, s6, s7, s8, s9⟩ := id hSt
  have s2 : ew_I G TY sz H0 a h H := s2
  have b1 := k1.2.1
  have b2 := k1.2.2
  have b3 := hle.2.1
  have b4 := hle.2.2
  have b5 := hle0.2.1
  have b6 := hle0.2.2
  dsimp only at b1 b2 s8 s9 b5 b6
  have hrest : ∀ v ∈ rest, ew_wf h v := fun v q => s6 v (List.mem_append_right _ (List.mem_cons_of_mem _ q))
  have haw : ∀ v ∈ as, ew_wf h v := fun v q => s6 v (List.mem_append_left _ (List.mem_reverse.mpr q))
  refine er_callV hW hwd hx hb (by rw [hml]; exact s3.1.symm) hown hts s2 (hck.to s1 hle0) hr hrc h17 hY hkd y8 hLP hn (ew_live (s6 (ew_o k i) (List.mem_append_right _ List.mem_cons_self)) (ew_ne31 rfl (show ew_ct k < 31 by omega))) haw hrest hM hc8 (by omega) (by omega) s7 (by omega) (by omega) hd (fun a' H1 locs1 hex hl1 I1 hv => k2 a' H1 locs1 _ _ L (es_after hSt hle0 hle hex hl1 I1 ?_))
  intro w q
  rcases List.mem_append.mp q with q | q
  · cases v with
    | none => cases q
    | some u =>
      rw [List.mem_singleton.mp q]
      exact hv u rfl
  · exact (hrest w q).le hle
theorem es_callI (X : ew_Cx p l e R s m args below meth c0 NW G TY Wd d y) (hck : ew_ck CK hS aS) {d' x z n k i : Nat} (hdd : d = d' + 1) (hY : ew_YP z) (hkd : et_kd z = 2) (hLP : ew_LP NW (ew_on (et_cls y)) x z n) {as rest : List ew_V} (hn : as.length = n) {v : Option ew_V} {h' : ew_H} (hM : ew_Mt l G TY sz H0 CK Wd d' z (ew_o k i :: as) h v h') (hc8 : ew_cats rest ≤ 8)
    (hle : ew_le h h') (hRc : hE.2.2.2.2.1 - hS.2.2.2.2.1 ≤ R.cells) (hRs : hE.2.2.2.2.2 - hS.2.2.2.2.2 ≤ R.slots) (hd : decode (ew_cd y) pc = .ok (.invokespecial x, 3)) :
    ew_K p l e R s m args below meth c0 G TY sz H0 Q y hS hE aS (pc, ls, as.reverse ++ ew_o k i :: rest, h) (pc + 3, ls, v.toList ++ rest, h') := by
  obtain ⟨hx, hb, hml, hown, hts, hW, hwd, hf, hlo, -⟩ := X
  intro kq hle0
  obtain ⟨k1, k2⟩ := kq (hle0.tr hle)
  refine ⟨hle.tr k1, fun a H locs cells slots L hSt => ?_⟩
  obtain ⟨s1, s2, s3, s4, s5, s6, s7, s8, s9⟩ := id hSt
  have s2 : ew_I G TY sz H0 a h H := s2
  have b1 := k1.2.1
  have b2 := k1.2.2
  have b3 := hle.2.1
  have b4 := hle.2.2
  have b5 := hle0.2.1
  have b6 := hle0.2.2
  dsimp only at b1 b2 s8 s9 b5 b6
  have hrest : ∀ v ∈ rest, ew_wf h v := fun v q => s6 v (List.mem_append_right _ (List.mem_cons_of_mem _ q))
  have haw : ∀ v ∈ as, ew_wf h v := fun v q => s6 v (List.mem_append_left _ (List.mem_reverse.mpr q))
  refine er_callI hW hwd hx hb (by rw [hml]; exact s3.1.symm) hown hts s2 (hck.to s1 hle0) hY hkd hLP hn (s6 (ew_o k i) (List.mem_append_right _ List.mem_cons_self)) haw hrest hM hc8 (by omega) (by omega) s7 (by omega) (by omega) hd (fun a' H1 locs1 hex hl1 I1 hv => k2 a' H1 locs1 _ _ L (es_after hSt hle0 hle hex hl1 I1 ?_))
  intro w q
  rcases List.mem_append.mp q with q | q
  · cases v with
    | none => cases q
    | some u =>
      rw [List.mem_singleton.mp q]
      exact hv u rfl
  · exact (hrest w q).le hle
theorem es_callS (X : ew_Cx p l e R s m args below meth c0 NW G TY Wd d y) (hck : ew_ck CK hS aS) {d' x z n : Nat} (hdd : d = d' + 1) (hY : ew_YP z) (hkd : et_kd z = 0) (hLP : ew_LP NW (ew_on (et_cls y)) x z n) {as rest : List ew_V} (hn : as.length = n) {v : Option ew_V} {h' : ew_H} (hM : ew_Mt l G TY sz H0 CK Wd d' z as h v h') (hc8 : ew_cats rest ≤ 8)
    (hle : ew_le h h') (hRc : hE.2.2.2.2.1 - hS.2.2.2.2.1 ≤ R.cells) (hRs : hE.2.2.2.2.2 - hS.2.2.2.2.2 ≤ R.slots) (hd : decode (ew_cd y) pc = .ok (.invokestatic x, 3)) :
    ew_K p l e R s m args below meth c0 G TY sz H0 Q y hS hE aS (pc, ls, as.reverse ++ rest, h) (pc + 3, ls, v.toList ++ rest, h') := by
  obtain ⟨hx, hb, hml, hown, hts, hW, hwd, hf, hlo, -⟩ := X
  intro kq hle0
  obtain ⟨k1, k2⟩ := kq (hle0.tr hle)
  refine ⟨hle.tr k1, fun a H locs cells slots L hSt => ?_⟩
  obtain ⟨s1, s2, s3, s4, s5, s6, s7, s8, s9⟩ := id hSt
  have s2 : ew_I G TY sz H0 a h H := s2
  have b1 := k1.2.1
  have b2 := k1.2.2
  have b3 := hle.2.1
  have b4 := hle.2.2
  have b5 := hle0.2.1
  have b6 := hle0.2.2
  dsimp only at b1 b2 s8 s9 b5 b6
  have hrest : ∀ v ∈ rest, ew_wf h v := fun v q => s6 v (List.mem_append_right _ q)
  have haw : ∀ v ∈ as, ew_wf h v := fun v q => s6 v (List.mem_append_left _ (List.mem_reverse.mpr q))
  refine er_callS hW hwd hx hb (by rw [hml]; exact s3.1.symm) hown hts s2 (hck.to s1 hle0) hY hkd hLP hn haw hrest hM hc8 (by omega) (by omega) s7 (by omega) (by omega) hd (fun a' H1 locs1 hex hl1 I1 hv => k2 a' H1 locs1 _ _ L (es_after hSt hle0 hle hex hl1 I1 ?_))
  intro w q
  rcases List.mem_append.mp q with q | q
  · cases v with
    | none => cases q
    | some u =>
      rw [List.mem_singleton.mp q]
      exact hv u rfl
  · exact (hrest w q).le hle
/-- a call through an interface -/
theorem es_callF (X : ew_Cx p l e R s m args below meth c0 NW G TY Wd d y) (hck : ew_ck CK hS aS) {d' x z n k i cnt : Nat} {r : vw_C} {xn : MethodName} (hdd : d = d' + 1) (hr : vwCl[ew_ct k]? = some r) (h17 : ew_ct k < 17) (hY : ew_YP z) (hkd : et_kd z = 1) (hlk : Cond.methodLink (ew_on (et_cls y)) x xn ∈ ew_TW) (hsel : Cond.selects r.1 xn (ew_nm z) ∈ ew_TW) (hF : ∀ U, Wd U → va_Fw r.1 xn (ew_nm z) U) (hxn : xn.cls ≠ "java/lang/invoke/MethodHandle" ∧ xn.cls ≠ "java/lang/invoke/VarHandle" ∧ (parseMethodDescriptor xn.desc).map (fun d => d.parameters.length) = some n)
    {as rest : List ew_V} (hn : as.length = n) {v : Option ew_V} {h' : ew_H} (hM : ew_Mt l G TY sz H0 CK Wd d' z (ew_o k i :: as) h v h') (hc8 : ew_cats rest ≤ 8)
    (hle : ew_le h h') (hRc : hE.2.2.2.2.1 - hS.2.2.2.2.1 ≤ R.cells) (hRs : hE.2.2.2.2.2 - hS.2.2.2.2.2 ≤ R.slots) (hd : decode (ew_cd y) pc = .ok (.invokeinterface x cnt, 5)) :
    ew_K p l e R s m args below meth c0 G TY sz H0 Q y hS hE aS (pc, ls, as.reverse ++ ew_o k i :: rest, h) (pc + 5, ls, v.toList ++ rest, h') := by
  obtain ⟨hx, hb, hml, hown, hts, hW, hwd, hf, hlo, -⟩ := X
  obtain ⟨hK, hA, hO, hNW⟩ := hW.2.2 s hwd
  obtain ⟨y1, y2, y3, y4, -, y6, -⟩ := hY
  have y7 := y6 hkd
  intro kq hle0
  obtain ⟨k1, k2⟩ := kq (hle0.tr hle)
  refine ⟨hle.tr k1, fun a H locs cells slots L hSt => ?_⟩
  obtain ⟨s1, s2, s3, s4, s5, s6, s7, s8, s9⟩ := id hSt
  have s2 : ew_I G TY sz H0 a h H := s2
  have b1 := k1.2.1
  have b2 := k1.2.2
  have b3 := hle.2.1
  have b4 := hle.2.2
  have b5 := hle0.2.1
  have b6 := hle0.2.2
  dsimp only at b1 b2 s8 s9 b5 b6
  have hrest : ∀ v ∈ rest, ew_wf h v := fun v q => s6 v (List.mem_append_right _ (List.mem_cons_of_mem _ q))
  have haw : ∀ v ∈ as, ew_wf h v := fun v q => s6 v (List.mem_append_left _ (List.mem_reverse.mpr q))
  have hl := ew_live (s6 (ew_o k i) (List.mem_append_right _ List.mem_cons_self)) (ew_ne31 rfl (show ew_ct k < 31 by omega))
  obtain ⟨r', cell, hr', q1, q2, q3, -⟩ := er_rdO s2 hl h17
  cases hr.symm.trans hr'
  have hcl2 := (hK.1 _ _ hr).2
  have hst : (as.reverse ++ ew_o k i :: rest).map (ew_c a) = (as.map (ew_c a)).reverse ++ .ref (a k i) :: rest.map (ew_c a) := by
    rw [List.map_append, List.map_reverse]; rfl
  have hpre : PreV s H r.1 (a k i) (ew_Pc G TY sz H0 CK Wd (ew_o k i :: as) h a) (as.map (ew_c a)) := ⟨ew_blind hW, ⟨cell, q1, q3.2, by rw [q2]; exact hcl2.1⟩, fun U hU hw => ⟨rfl, by rw [hU]; exact s2, hW.2.1 s U hw hwd, es_cons (Or.inr hl) haw, hck.to s1 hle0⟩⟩
  have hrun : va_Run5 p l e R s m args below meth c0 H locs cells slots (h'.2.2.2.2.1 - h.2.2.2.2.1) (h'.2.2.2.2.2 - h.2.2.2.2.2) (F0 m pc L ((as.reverse ++ ew_o k i :: rest).map (ew_c a))) (rest.map (ew_c a)) (ew_Qc G TY sz H0 h a v h' (Value.ref (a k i) :: as.map (ew_c a)).toArray) (fun q => sz ≤ q) := va_runF (C := r.1) (As := as.map (ew_c a)) (Ts := ew_TW) (own := ew_on (et_cls y)) (count := cnt) hcl2 ⟨hx, hb, by rw [hml]; exact s3.1.symm, hown, hts⟩ (hM a) (va_cwF (x := xn) n hts (ew_good (fun w hw => by
    rcases List.mem_append.mp hw with q | q
    · simp only [List.mem_cons, List.not_mem_nil, or_false] at q
      rcases q with rfl | rfl | rfl | rfl
      · exact hlk
      · exact hsel
      · exact y7
      · exact y2
    · rcases List.mem_cons.mp q with rfl | q
      · exact y1
      · exact q)) rfl rfl rfl (hF s hwd) hxn ⟨(show 6 + d' + 1 ≤ R.frames by omega), (show 8 + (et_mx z + 11) + (150 + 40 * d') ≤ R.locals by omega)⟩) hpre rfl (by rw [List.length_map]; exact hn) rfl hst (by rw [ew_cats_map]; show 2 * 0 + _ ≤ 8; omega) hd ⟨(show cells + (h'.2.2.2.2.1 - h.2.2.2.2.1) ≤ R.cells by omega), (show slots + (h'.2.2.2.2.2 - h.2.2.2.2.2) ≤ R.slots by omega)⟩
  intro T hT XX
  obtain ⟨vv, st₀, t, T', L', h0, X', hL, e1, e2, ⟨a', hex, hvr, hI, hv⟩, stt⟩ := hrun T hT XX
  have hvv : vv = v.map (ew_c a') := Outcome.returned.inj hvr
  obtain ⟨t2, a1, b1⟩ := k2 a' T'.heap (locs ++ L') _ _ L (es_after hSt hle0 hle hex (fun q hq => by
    rcases List.mem_append.mp hq with z | z
    · exact s7 q z
    · exact hL q z) (by rw [e1]; exact hI) (fun w q => by
      rcases List.mem_append.mp q with q | q
      · cases v with
        | none => cases q
        | some u =>
          rw [List.mem_singleton.mp q]
          exact hv u rfl
      · exact (hrest w q).le hle)) T' rfl X'
  refine ⟨t2, stt t2 ?_, b1⟩
  rw [hvv, ← hex.map hrest]
  have : (Option.map (ew_c a') v).toList ++ rest.map (ew_c a') = (v.toList ++ rest).map (ew_c a') := by
    cases v <;> simp
  rw [this]
  exact a1
end EV
end
section
/-! Any step, on both machines. -/
def ew_il (i : Instr) : Nat := match i with
  | .bipush _ | .iload _ | .lload _ | .dload _ | .aload _ | .istore _ | .lstore _ | .dstore _ | .astore _ | .newarray _ | .ldc _ => 2
  | .sipush _ | .iinc _ _ | .ifCond _ _ | .if_icmp _ _ | .if_acmp _ _ | .goto _ | .getfield _ | .putfield _ | .getstatic _ | .new _ | .anewarray _ | .checkcast _ | .invokevirtual _ | .invokespecial _ | .invokestatic _ | .ldc2_w _ | .ldc_w _ => 3
  | .invokeinterface _ _ => 5
  | _ => 1
def ew_ist (i : Instr) (n : Nat) : Bool := match i with
  | .tableswitch _ _ _ _ => true
  | i => Nat.beq n (ew_il i)
def ew_ioj (i : Instr) (x tg : Nat) : Bool := match i with
  | .ifCond _ o => decide ((x : Int) + o = (tg : Int))
  | .if_icmp _ o => decide ((x : Int) + o = (tg : Int))
  | .if_acmp _ o => decide ((x : Int) + o = (tg : Int))
  | .goto o => decide ((x : Int) + o = (tg : Int))
  | .tableswitch d lo hi os => decide (0 ≤ (x : Int) + d) && os.toList.all (fun o => decide (0 ≤ (x : Int) + o)) && decide (hi = lo + (os.size : Int) - 1) && decide (-1000 ≤ lo) && decide (hi ≤ 1000)
  | _ => true
def ew_ioc (i : Instr) (cv : Int32) : Bool := match i with
  | .iconst n => decide (Int32.ofInt n = cv)
  | .bipush n => decide ((Int8.ofInt n).toInt32 = cv)
  | .sipush n => decide ((Int16.ofInt n).toInt32 = cv)
  | .iinc _ n => decide (Int32.ofInt n = cv)
  | _ => true
def ew_okb (cc : ByteArray) (x : Nat) (q : Instr × Nat × Nat × Int32) : Bool := match decode cc x with
  | .ok (i, n) => decide (i = q.1) && (Nat.beq q.2.1 (x + n) && (ew_ist i n && (ew_ioj i x q.2.2.1 && ew_ioc i q.2.2.2)))
  | _ => false
theorem ew_okb_spec {cc : ByteArray} {x : Nat} {i : Instr} {nx tg : Nat} {cv : Int32} (h : ew_okb cc x (i, nx, tg, cv) = true) : ∃ n, decode cc x = .ok (i, n) ∧ nx = x + n ∧ ew_ist i n = true ∧ ew_ioj i x tg = true ∧ ew_ioc i cv = true := by
  unfold ew_okb at h
  split at h
  · rename_i i' n hd
    simp only [Bool.and_eq_true, decide_eq_true_eq] at h
    obtain ⟨rfl, h2, h3, h4, h5⟩ := h
    exact ⟨n, hd, Nat.eq_of_beq_eq_true h2, h3, h4, h5⟩
  · cases h
/-- a method's returns are of its type -/
def ew_okr (y : Nat) (i : Instr) : Prop := match i with
  | .ireturn => (ew_rt y = some .int ∧ et_bl y = false) ∨ (ew_rt y = some .boolean ∧ et_bl y = true)
  | .lreturn => ew_rt y = some .long
  | .dreturn => ew_rt y = some .double
  | .areturn => ∃ t, ew_rt y = some t ∧ ((∃ n, t = .object n) ∨ ∃ u, t = .array u)
  | .return_ => ew_rt y = none
  | _ => True
def ew_mathW : List Cond := [.static Lib.Math.max.name, .initialized "java/lang/Math", .code Lib.Math.max.name Lib.Math.max.code 2 (some .int), .static Lib.Math.min.name, .code Lib.Math.min.name Lib.Math.min.code 2 (some .int)]
def ew_absW : List Cond := [.static Lib.Math.abs.name, .initialized "java/lang/Math", .code Lib.Math.abs.name Lib.Math.abs.code 1 (some .int)]
/-- what the tables are checked for -/
def ew_Tab (NW : List Cond) (Wd : State → Prop) : Prop :=
  (∀ y x q, ew_pg y x = some q → ew_okb (ew_cd y) x q = true) ∧
  (∀ cl x q, et_fd cl x = some q → ew_FdP NW (ew_on cl) x q.1 q.2.1 q.2.2 ∧ q.1 < 17 ∧ (et_fn cl x = false → ew_FdP [] (ew_on cl) x q.1 q.2.1 q.2.2)) ∧
  (∀ ci r, vwCl[ci]? = some r → r.1 = ew_on ci ∧ ew_ClP ci r ∧ Cond.instantiable r.1 r.2.2 ∈ ew_TW ∧ Cond.initialized r.1 ∈ ew_TW) ∧
  (∀ cl x c, et_nw cl x = some c → (c < 17 → Cond.classLink (ew_on cl) x (ew_on c) ∈ ew_TW) ∧ (c = 17 → Cond.classLink (ew_on cl) x "[I" ∈ ew_TW) ∧ (c = 90 → Cond.classLink (ew_on cl) x "java/lang/Object" ∈ ew_TW)) ∧
  (∀ cl x z n c, et_md cl x = some (z, n, c) → z < 900 → et_wr z = false → ew_YP z ∧ (et_if cl x = false → ew_LP NW (ew_on cl) x z n ∧ (et_kd z = 1 → c < 17 ∧ (ew_nm z).cls = ew_on c ∧ Cond.selects (ew_nm z).cls (ew_nm z) (ew_nm z) ∈ ew_TW)) ∧
    (et_if cl x = true → c < 17 ∧ et_kd z = 1 ∧ ∃ xn : MethodName, Cond.methodLink (ew_on cl) x xn ∈ ew_TW ∧ Cond.selects (ew_on c) xn (ew_nm z) ∈ ew_TW ∧ (∀ U, Wd U → va_Fw (ew_on c) xn (ew_nm z) U) ∧ xn.cls ≠ "java/lang/invoke/MethodHandle" ∧ xn.cls ≠ "java/lang/invoke/VarHandle" ∧ (parseMethodDescriptor xn.desc).map (fun d => d.parameters.length) = some n)) ∧
  (∀ cl x n c, (et_md cl x = some (900, n, c) → Cond.methodLink (ew_on cl) x Lib.Math.max.name ∈ ew_TW) ∧ (et_md cl x = some (901, n, c) → Cond.methodLink (ew_on cl) x Lib.Math.min.name ∈ ew_TW) ∧ (et_md cl x = some (902, n, c) → Cond.methodLink (ew_on cl) x Lib.Math.abs.name ∈ ew_TW) ∧
    (et_md cl x = some (903, n, c) → Cond.methodLink (ew_on cl) x arraycopyName ∈ ew_TW) ∧ (et_md cl x = some (904, n, c) → n = 0 ∧ Cond.methodLink (ew_on cl) x objectInit ∈ ew_TW)) ∧
  (∀ w ∈ ew_mathW, w ∈ ew_TW) ∧ (∀ w ∈ ew_absW, w ∈ ew_TW) ∧ True ∧ (Cond.instanceMethod objectInit ∈ ew_TW ∧ Cond.code objectInit ⟨#[0xb1]⟩ 1 none ∈ ew_TW) ∧
  ((∀ cl x v, et_cl cl x = some v → Cond.constantLong (ew_on cl) x v ∈ ew_TW) ∧ ∀ cl x v, et_ci cl x = some v → Cond.constant (ew_on cl) x v ∈ ew_TW) ∧ (Cond.arrayClass .int ∈ ew_TW ∧ Cond.arrayClass .boolean ∈ ew_TW) ∧
  (∀ U, Wd U → ew_AA U ∧ va_AO "ChannelWinter$Breaker" U ∧ va_AO "ChannelWinter$Cell" U ∧ va_AO "ChannelWinter$Port" U ∧ va_AO "ChannelWinter$Ship" U) ∧
  (∀ cl x z n c, et_md cl x = some (z, n, c) → (et_wr z = true → et_kd z = 0 ∧ 185 ≤ z) ∧ (900 ≤ z → et_kd z = 9) ∧ (et_if cl x = true → z < 900 ∧ et_wr z = false ∧ 185 ≤ z)) ∧
  (∀ y x q, ew_pg y x = some q → x < 65535 ∧ ew_okr y q.1 ∧ plainName (ew_nm y).cls = true ∧ ew_on (et_cls y) = (ew_nm y).cls ∧ (et_ini y = true → (ew_nm y).name = "<init>")) ∧
  (∀ cl x z n c, et_md cl x = some (z, n, c) → z < 900 → ew_th z = true → et_if cl x = false → Cond.methodLink (ew_on cl) x (ew_nm z) ∈ ew_TW)
theorem ew_Call_get {d z : Nat} {as : List ew_V} {h : ew_H} {K : ew_R → ew_H → Prop} (g : ew_Call d z as h K) : ∃ r0 h0, ew_Call d z as h (fun r h => r = r0 ∧ h = h0) ∧ K r0 h0 := by
  cases d with
  | zero => exact g.elim
  | succ d =>
    rcases g with ⟨r0, h0, w0, k0⟩ | g
    · exact ⟨r0, h0, Or.inl ⟨r0, h0, w0, rfl, rfl⟩, k0⟩
    · exact g.elim
section ED
theorem ed_bin {f : Int32 → Int32 → Int32} {ls : List (Option ew_V)} {st : List ew_V} {h : ew_H} {nx : Nat} {n : ew_C ⊕ (Prop × ew_C × ew_C) ⊕ (Prop × ew_C) ⊕ (Nat × List ew_V × List ew_V × Nat) ⊕ (Prop × ew_R × ew_H) ⊕ (Int32 × Int32 × List ew_C × ew_C)} (hh : ew_bin f ls st h nx = some n) : ∃ x z st', st = ew_i z :: ew_i x :: st' ∧ n = .inl (nx, ls, ew_i (f x z) :: st', h) := by
  unfold ew_bin at hh
  split at hh
  · cases hh; exact ⟨_, _, _, rfl, rfl⟩
  · cases hh
theorem ed_binl {f : Int64 → Int64 → Int64} {ls : List (Option ew_V)} {st : List ew_V} {h : ew_H} {nx : Nat} {n : ew_C ⊕ (Prop × ew_C × ew_C) ⊕ (Prop × ew_C) ⊕ (Nat × List ew_V × List ew_V × Nat) ⊕ (Prop × ew_R × ew_H) ⊕ (Int32 × Int32 × List ew_C × ew_C)} (hh : ew_binl f ls st h nx = some n) : ∃ x z st', st = ew_j z :: ew_j x :: st' ∧ n = .inl (nx, ls, ew_j (f x z) :: st', h) := by
  unfold ew_binl at hh
  split at hh
  · cases hh; exact ⟨_, _, _, rfl, rfl⟩
  · cases hh
theorem ed_ld {t k : Nat} {ls : List (Option ew_V)} {st : List ew_V} {h : ew_H} {nx : Nat} {n : ew_C ⊕ (Prop × ew_C × ew_C) ⊕ (Prop × ew_C) ⊕ (Nat × List ew_V × List ew_V × Nat) ⊕ (Prop × ew_R × ew_H) ⊕ (Int32 × Int32 × List ew_C × ew_C)} (hh : ew_ld t ls st h nx k = some n) : ∃ v, ls[k]? = some (some v) ∧ Nat.beq (ew_tag v) t = true ∧ n = .inl (nx, ls, v :: st, h) := by
  unfold ew_ld at hh
  split at hh
  · rename_i v hv
    cases ht : Nat.beq (ew_tag v) t with
    | false => rw [ht] at hh; cases hh
    | true => rw [ht] at hh; cases hh; exact ⟨v, hv, ht, rfl⟩
  · cases hh
theorem ed_sto {t k : Nat} {ls : List (Option ew_V)} {st : List ew_V} {h : ew_H} {nx : Nat} {n : ew_C ⊕ (Prop × ew_C × ew_C) ⊕ (Prop × ew_C) ⊕ (Nat × List ew_V × List ew_V × Nat) ⊕ (Prop × ew_R × ew_H) ⊕ (Int32 × Int32 × List ew_C × ew_C)} (hh : ew_sto t ls st h nx k = some n) : ∃ v st', st = v :: st' ∧ Nat.beq (ew_tag v) t = true ∧
    (((t = 0 ∨ t = 3) ∧ k < ls.length ∧ n = .inl (nx, ew_st1 ls k v, st', h)) ∨ (¬ (t = 0 ∨ t = 3) ∧ k + 1 < ls.length ∧ n = .inl (nx, ew_st2 ls k v, st', h))) := by
  unfold ew_sto at hh
  split at hh
  · rename_i v st'
    cases ht : Nat.beq (ew_tag v) t with
    | false => rw [ht] at hh; cases hh
    | true =>
      rw [ht, cond_true] at hh
      refine ⟨v, st', rfl, ht, ?_⟩
      cases h03 : (Nat.beq t 0 || Nat.beq t 3) with
      | true =>
        rw [h03, cond_true] at hh
        cases hl : Nat.blt k ls.length with
        | false => rw [hl] at hh; cases hh
        | true =>
          rw [hl] at hh
          cases hh
          simp only [Bool.or_eq_true] at h03
          exact Or.inl ⟨h03.imp ew_beq ew_beq, Nat.le_of_ble_eq_true hl, rfl⟩
      | false =>
        rw [h03, cond_false] at hh
        cases hl : Nat.blt (k + 1) ls.length with
        | false => rw [hl] at hh; cases hh
        | true =>
          rw [hl] at hh
          cases hh
          refine Or.inr ⟨fun q => ?_, Nat.le_of_ble_eq_true hl, rfl⟩
          rcases q with rfl | rfl <;> cases h03
  · cases hh
end ED
end
section
/-! Any step: what is told of the tables carries a state to the next. -/
section EW
variable {p : Program} {l : Launch} {e : Env} {R : Room} {s : State} {m : MethodId} {args : Array Value} {below : List Frame} {meth : Method} {c0 : Code} {Q : State → Prop}
variable {G : va_G} {TY : Nat → ClassId} {sz : Nat} {H0 : Heap} {NW : List Cond} {Wd : State → Prop} {d y : Nat} {hS hE : ew_H} {aS : Nat → Nat → Nat}
variable {pc nx tg : Nat} {cv : Int32} {ls : List (Option ew_V)} {st : List ew_V} {h : ew_H} {i : Instr} {n : Nat} {r : ew_R}
theorem ed_cond {b : Bool} {α : Type} {x y : Option α} {P : Option α → Prop} (hn : P y → False) (h : P (bif b then x else y)) : b = true ∧ P x := by
  cases b with
  | true => exact ⟨rfl, h⟩
  | false => exact (hn h).elim
/-- what a step gives, with P of the states behind it -/
abbrev ew_U (P : ew_C → Prop) (K : Nat → List ew_V → List ew_V → Nat → Prop) (E : Prop → ew_R → ew_H → Prop) (n : ew_N) : Prop := match n with
  | none => False
  | some (.inl c') => P c'
  | some (.inr (.inl (q, a, b))) => (q → P a) ∧ (¬ q → P b)
  | some (.inr (.inr (.inl (q, a)))) => q ∧ P a
  | some (.inr (.inr (.inr (.inl (z, as, rest, nx))))) => K z as rest nx
  | some (.inr (.inr (.inr (.inr (.inl (q, r1, h1)))))) => E q r1 h1
  | some (.inr (.inr (.inr (.inr (.inr (x, v, l', dd)))))) => ew_sw P x v l' dd
theorem eu_ld {t k : Nat} {P : ew_C → Prop} {K : Nat → List ew_V → List ew_V → Nat → Prop} {E : Prop → ew_R → ew_H → Prop} (hh : ew_U P K E (ew_ld t ls st h nx k)) : ∃ v, ls[k]? = some (some v) ∧ Nat.beq (ew_tag v) t = true ∧ P (nx, ls, v :: st, h) := by
  unfold ew_ld at hh
  split at hh
  · rename_i v hv
    cases ht : Nat.beq (ew_tag v) t with
    | false => rw [ht] at hh; exact hh.elim
    | true => rw [ht] at hh; exact ⟨v, hv, ht, hh⟩
  · exact hh.elim
theorem eu_sto {t k : Nat} {P : ew_C → Prop} {K : Nat → List ew_V → List ew_V → Nat → Prop} {E : Prop → ew_R → ew_H → Prop} (hh : ew_U P K E (ew_sto t ls st h nx k)) : ∃ v st', st = v :: st' ∧ Nat.beq (ew_tag v) t = true ∧
    (((t = 0 ∨ t = 3) ∧ k < ls.length ∧ P (nx, ew_st1 ls k v, st', h)) ∨ (¬ (t = 0 ∨ t = 3) ∧ k + 1 < ls.length ∧ P (nx, ew_st2 ls k v, st', h))) := by
  cases hc : ew_sto t ls st h nx k with
  | none => rw [hc] at hh; exact hh.elim
  | some q =>
    obtain ⟨v, st', e1, e2, e3⟩ := ed_sto hc
    refine ⟨v, st', e1, e2, ?_⟩
    rw [hc] at hh
    rcases e3 with ⟨a1, a2, rfl⟩ | ⟨a1, a2, rfl⟩
    · exact Or.inl ⟨a1, a2, hh⟩
    · exact Or.inr ⟨a1, a2, hh⟩
theorem eu_bin {f : Int32 → Int32 → Int32} {P : ew_C → Prop} {K : Nat → List ew_V → List ew_V → Nat → Prop} {E : Prop → ew_R → ew_H → Prop} (hh : ew_U P K E (ew_bin f ls st h nx)) : ∃ x z st', st = ew_i z :: ew_i x :: st' ∧ P (nx, ls, ew_i (f x z) :: st', h) := by
  unfold ew_bin at hh
  split at hh
  · exact ⟨_, _, _, rfl, hh⟩
  · exact hh.elim
theorem eu_binl {f : Int64 → Int64 → Int64} {P : ew_C → Prop} {K : Nat → List ew_V → List ew_V → Nat → Prop} {E : Prop → ew_R → ew_H → Prop} (hh : ew_U P K E (ew_binl f ls st h nx)) : ∃ x z st', st = ew_j z :: ew_j x :: st' ∧ P (nx, ls, ew_j (f x z) :: st', h) := by
  unfold ew_binl at hh
  split at hh
  · exact ⟨_, _, _, rfl, hh⟩
  · exact hh.elim
theorem eu_ald {t : Nat} {P : ew_C → Prop} {K : Nat → List ew_V → List ew_V → Nat → Prop} {E : Prop → ew_R → ew_H → Prop} (hh : ew_U P K E (ew_ald t ls st h nx)) : ∃ j k i st', st = ew_i j :: ew_o k i :: st' ∧ (t = 20 → 20 ≤ ew_ct k ∧ ew_ct k < 25) ∧ (t ≠ 20 → ew_ct k = t) ∧ ew_ix j (ew_len h k i) ∧ P (nx, ls, h.1 k i j.toNatClampNeg :: st', h) := by
  unfold ew_ald at hh
  split at hh
  · rename_i j k i st'
    cases hb : (bif Nat.beq t 20 then Nat.ble 20 (ew_ct k) && Nat.blt (ew_ct k) 25 else Nat.beq (ew_ct k) t) with
    | false => rw [hb] at hh; exact hh.elim
    | true =>
      rw [hb] at hh
      refine ⟨j, k, i, st', rfl, fun e => ?_, fun e => ?_, hh.1, hh.2⟩
      · subst e
        rw [ew_beqr, cond_true, Bool.and_eq_true] at hb
        exact ⟨Nat.le_of_ble_eq_true hb.1, Nat.le_of_ble_eq_true hb.2⟩
      · rw [ew_bne e, cond_false] at hb
        exact ew_beq hb
  · exact hh.elim
theorem eu_ast {t : Nat} {P : ew_C → Prop} {K : Nat → List ew_V → List ew_V → Nat → Prop} {E : Prop → ew_R → ew_H → Prop} (hh : ew_U P K E (ew_ast t ls st h nx)) : ∃ v j k i st', st = v :: ew_i j :: ew_o k i :: st' ∧ ew_cst k = false ∧ (t = 20 → 20 ≤ ew_ct k ∧ ew_ct k < 25 ∧ ew_asg k v = true) ∧ (t ≠ 20 → ew_ct k = t) ∧ ew_ix j (ew_len h k i) ∧
    ew_fit (bif Nat.beq t 17 then 0 else bif Nat.beq t 18 then 1 else bif Nat.beq t 19 then 3 else 2) v ∧ P (nx, ls, st', ew_put h k i j.toNatClampNeg v) := by
  unfold ew_ast at hh
  split at hh
  · rename_i v j k i st'
    cases hb : (!ew_cst k && (bif Nat.beq t 20 then Nat.ble 20 (ew_ct k) && Nat.blt (ew_ct k) 25 && ew_asg k v else Nat.beq (ew_ct k) t)) with
    | false => rw [hb] at hh; exact hh.elim
    | true =>
      rw [hb] at hh
      rw [Bool.and_eq_true, Bool.not_eq_true'] at hb
      refine ⟨v, j, k, i, st', rfl, hb.1, fun e => ?_, fun e => ?_, hh.1.1, hh.1.2, hh.2⟩
      · subst e
        have h2 := hb.2
        rw [ew_beqr, cond_true, Bool.and_eq_true, Bool.and_eq_true] at h2
        exact ⟨Nat.le_of_ble_eq_true h2.1.1, Nat.le_of_ble_eq_true h2.1.2, h2.2⟩
      · have h2 := hb.2
        rw [ew_bne e, cond_false] at h2
        exact ew_beq h2
  · exact hh.elim
theorem eu_newa {k : Nat} {z : ew_V} {P : ew_C → Prop} {K : Nat → List ew_V → List ew_V → Nat → Prop} {E : Prop → ew_R → ew_H → Prop} (hh : ew_U P K E (ew_newa k z ls st h nx)) : ∃ n st', st = ew_i n :: st' ∧ ¬ n < 0 ∧ n.toNatClampNeg ≤ 1000000 ∧ ew_sl k n.toNatClampNeg = n.toNatClampNeg ∧ P (nx, ls, ew_o k (h.2.2.2.1 k) :: st', ew_mk h k (h.2.2.2.1 k) n.toNatClampNeg (fun _ => z)) := by
  unfold ew_newa at hh
  split at hh
  · exact ⟨_, _, rfl, hh.1.1, hh.1.2.1, hh.1.2.2, hh.2⟩
  · exact hh.elim
theorem ed_nc {k : Nat} (h : ew_ctr k = true) : ew_cst k = false ∧ ¬ k = 31 := by
  unfold ew_ctr at h
  simp only [Bool.and_eq_true, Bool.not_eq_true'] at h
  exact ⟨h.1.2, fun e => by subst e; exact absurd h.2 (by decide)⟩
end EW
end
section
/-! Any step. -/
section EX
variable {p : Program} {l : Launch} {e : Env} {R : Room} {s : State} {m : MethodId} {args : Array Value} {below : List Frame} {meth : Method} {c0 : Code} {Q : State → Prop}
variable {G : va_G} {TY : Nat → ClassId} {sz : Nat} {H0 : Heap} {NW : List Cond} {Wd : State → Prop} {d y : Nat} {hS hE : ew_H} {aS : Nat → Nat → Nat}
variable {pc nx tg : Nat} {cv : Int32} {ls : List (Option ew_V)} {st : List ew_V} {h : ew_H} {i : Instr} {n : Nat} {r : ew_R}
theorem ew_sw_get {P : ew_C → Prop} {x : Int32} {dd : ew_C} : ∀ (l : List ew_C) (v : Int32), v.toInt + l.length < 2147483648 → ew_sw P x v l dd → (∀ (j : Nat) (c : ew_C), l[j]? = some c → x.toInt = v.toInt + (j : Int) → P c) ∧ ((x.toInt < v.toInt ∨ v.toInt + (l.length : Int) ≤ x.toInt) → P dd)
  | [], v, _, g => ⟨fun j c h => by simp at h, fun _ => g⟩
  | c0 :: l, v, hb, g => by
    have hv1 : l.length ≠ 0 → (v + 1).toInt = v.toInt + 1 := fun hne => by
      rw [Int32.toInt_add]
      have h1 := Int32.minValue_le_toInt v
      have e1 : (1 : Int32).toInt = 1 := rfl
      have e2 : Int32.minValue.toInt = -2147483648 := rfl
      rw [List.length_cons] at hb
      push_cast at hb
      rw [e1, Int.bmod_def]
      rw [e2] at h1
      split <;> omega
    rw [List.length_cons] at hb ⊢
    push_cast at hb ⊢
    by_cases e : x = v
    · refine ⟨fun j c h1 h2 => ?_, fun h1 => ?_⟩
      · cases j with
        | zero => cases h1; exact g.1 e
        | succ j => subst e; push_cast at h2; omega
      · subst e; omega
    · have hne : ¬ x.toInt = v.toInt := fun q => e (Int32.toInt_inj.mp q)
      cases l with
      | nil =>
        refine ⟨fun j c h1 h2 => ?_, fun _ => g.2 e⟩
        cases j with
        | zero => exact absurd (by simpa using h2) hne
        | succ j => simp at h1
      | cons c1 l =>
        have hv := hv1 (by simp)
        obtain ⟨g1, g2⟩ := ew_sw_get (c1 :: l) (v + 1) (by rw [hv]; omega) (g.2 e)
        refine ⟨fun j c h1 h2 => ?_, fun h1 => g2 (by rw [hv]; omega)⟩
        cases j with
        | zero => exact absurd (by simpa using h2) hne
        | succ j => exact g1 j c (by simpa using h1) (by rw [hv]; push_cast at h2; omega)
theorem es_switch {dd lo hi : Int} {os : Array Int} {x : Int32} (hx : p.tables.exec = Jvm.exec) (hb : c0.code = ew_cd y) (hd : decode (ew_cd y) pc = .ok (.tableswitch dd lo hi os, n)) (hj : ew_ioj (.tableswitch dd lo hi os) pc tg = true)
    (g : ew_sw (ew_Q p l e R s m args below meth c0 G TY sz H0 Q y hS hE aS) x (Int32.ofInt lo) (os.toList.map (fun (o : Int) => (((pc : Int) + o).toNat, ls, st, h))) (((pc : Int) + dd).toNat, ls, st, h)) : ew_Q p l e R s m args below meth c0 G TY sz H0 Q y hS hE aS (pc, ls, ew_i x :: st, h) := by
  unfold ew_ioj at hj
  simp only [Bool.and_eq_true, decide_eq_true_eq, List.all_eq_true] at hj
  obtain ⟨⟨⟨⟨j1, j2⟩, j3⟩, j4⟩, j5⟩ := hj
  have hlo : (Int32.ofInt lo).toInt = lo := by
    rw [Int32.toInt_ofInt, Int.bmod_def]
    have : (os.size : Int) ≥ 0 := Int.natCast_nonneg _
    have e9 : ((Int32.size : Nat) : Int) = 4294967296 := rfl
    rw [e9]
    split <;> omega
  obtain ⟨g1, g2⟩ := ew_sw_get _ _ (by rw [hlo, List.length_map, Array.length_toList]; omega) g
  rw [hlo] at g1 g2
  rw [List.length_map, Array.length_toList] at g2
  by_cases h1 : x.toInt < lo
  · exact es_st (fun _ w => es_tail w) (fun a H locs cells slots L _ _ _ kk => lv_tableOut hx hb hd (Or.inl h1) (by omega) kk) (g2 (Or.inl h1))
  by_cases h2 : hi < x.toInt
  · exact es_st (fun _ w => es_tail w) (fun a H locs cells slots L _ _ _ kk => lv_tableOut hx hb hd (Or.inr h2) (by omega) kk) (g2 (Or.inr (by omega)))
  have hlt : (x.toInt - lo).toNat < os.size := by omega
  have ho : os[(x.toInt - lo).toNat]? = some os[(x.toInt - lo).toNat] := Array.getElem?_eq_getElem hlt
  have hmem : os[(x.toInt - lo).toNat] ∈ os.toList := by simp
  have hpos := j2 _ hmem
  refine es_st (fun _ w => es_tail w) (fun a H locs cells slots L _ _ _ kk => lv_tableIn hx hb hd h1 h2 ho (tgt := ((pc : Int) + os[(x.toInt - lo).toNat]).toNat) (by omega) kk) (g1 (x.toInt - lo).toNat _ ?_ (by omega))
  rw [List.getElem?_map, Array.getElem?_toList, ho]
  rfl
end EX
end
section
/-! Any step: all instructions. -/
section EY
variable {p : Program} {l : Launch} {e : Env} {R : Room} {s : State} {m : MethodId} {args : Array Value} {below : List Frame} {meth : Method} {c0 : Code} {Q : State → Prop}
variable {G : va_G} {TY : Nat → ClassId} {sz : Nat} {H0 : Heap} {NW : List Cond} {Wd : State → Prop} {d y : Nat} {hS hE : ew_H} {aS : Nat → Nat → Nat}
variable {pc nx tg : Nat} {cv : Int32} {ls : List (Option ew_V)} {st : List ew_V} {h : ew_H} {i : Instr} {n : Nat} {r : ew_R}
theorem ed_if {b : Bool} {x : ew_N} {P : ew_C → Prop} {K : Nat → List ew_V → List ew_V → Nat → Prop} {E : Prop → ew_R → ew_H → Prop} (g : ew_U P K E (bif b then x else none)) : b = true ∧ ew_U P K E x := by
  cases b with
  | true => exact ⟨rfl, g⟩
  | false => exact g.elim
theorem ed_fi {b : Bool} {x : ew_N} {P : ew_C → Prop} {K : Nat → List ew_V → List ew_V → Nat → Prop} {E : Prop → ew_R → ew_H → Prop} (g : ew_U P K E (bif b then none else x)) : b = false ∧ ew_U P K E x := by
  cases b with
  | true => exact g.elim
  | false => exact ⟨rfl, g⟩
theorem ed_el {b : Bool} {x z : ew_N} {P : ew_C → Prop} {K : Nat → List ew_V → List ew_V → Nat → Prop} {E : Prop → ew_R → ew_H → Prop} (g : ew_U P K E (bif b then x else z)) : (b = true ∧ ew_U P K E x) ∨ (b = false ∧ ew_U P K E z) := by
  cases b with
  | true => exact Or.inl ⟨rfl, g⟩
  | false => exact Or.inr ⟨rfl, g⟩
theorem ed_ty {t : Nat} (h1 : 21 ≤ t) (h2 : t < 25) : ew_ty t = .object (ew_on (ew_cl t)) := by
  have : t = 21 ∨ t = 22 ∨ t = 23 ∨ t = 24 := by omega
  rcases this with rfl | rfl | rfl | rfl <;> rfl
/-- the step's meaning -/
abbrev ew_UQ (p : Program) (l : Launch) (e : Env) (R : Room) (s : State) (m : MethodId) (args : Array Value) (below : List Frame) (meth : Method) (c0 : Code) (G : va_G) (TY : Nat → ClassId) (sz : Nat) (H0 : Heap) (Q : State → Prop) (y : Nat) (hS hE : ew_H) (aS : Nat → Nat → Nat) (pc : Nat) (ls : List (Option ew_V)) (h : ew_H) (d : Nat) (r : ew_R) : ew_N → Prop :=
  ew_U (ew_Q p l e R s m args below meth c0 G TY sz H0 Q y hS hE aS) (fun z as rest nx => ew_Call d z as h (fun r1 h' => match r1 with
      | .inl v => ew_Q p l e R s m args below meth c0 G TY sz H0 Q y hS hE aS (nx, ls, v.toList ++ rest, h')
      | .inr x => ew_th z = true ∧ match ew_hd y pc x with
        | some t => ew_Q p l e R s m args below meth c0 G TY sz H0 Q y hS hE aS (t.1, ew_un ls t.2, [], h')
        | none => (.inr x : ew_R) = r ∧ h' = hE)) (fun q r1 h1 => q ∧ r1 = r ∧ h1 = hE)
theorem ed_plain (X : ew_Cx p l e R s m args below meth c0 NW G TY Wd d y) (T : ew_Tab NW Wd) (hpg : ew_pg y pc = some (i, nx, tg, cv))
    (hi : match i with | .aconst_null | .iconst _ | .bipush _ | .sipush _ | .lconst _ | .ldc2_w _ | .ldc _ | .iload _ | .iload_n _ | .lload _ | .lload_n _ | .dload _ | .dload_n _ | .aload _ | .aload_n _ | .istore _ | .istore_n _ | .lstore _ | .lstore_n _ | .dstore _ | .dstore_n _ | .astore _ | .astore_n _ | .iinc _ _ | .iadd | .isub | .imul | .iand | .ishr | .idiv | .irem | .ladd | .lmul | .i2l | .dconst _ | .i2d | .ddiv | .dcmp _ | .dup | .pop | .dup_x1 | .dup2 | .goto _ => True | _ => False)
    (g : ew_UQ p l e R s m args below meth c0 G TY sz H0 Q y hS hE aS pc ls h d r (ew_st y (et_cls y) i pc nx tg cv ls st h)) : ew_Q p l e R s m args below meth c0 G TY sz H0 Q y hS hE aS (pc, ls, st, h) := by
  obtain ⟨n, hd, hnx, hst, hoj, hoc⟩ := ew_okb_spec (T.1 _ _ _ hpg)
  obtain ⟨hx, hb, hml, hown, hts, hW, hwd, hfr, hlo, hini⟩ := X
  subst hnx
  cases i <;> try exact hi.elim
  case aconst_null => obtain rfl : n = 1 := ew_beq hst; exact es_null hx hb hd g
  case iconst k => obtain rfl : n = 1 := ew_beq hst; exact es_iconst (of_decide_eq_true hoc) hx hb hd g
  case bipush k => obtain rfl : n = 2 := ew_beq hst; exact es_bipush (of_decide_eq_true hoc) hx hb hd g
  case sipush k => obtain rfl : n = 3 := ew_beq hst; exact es_sipush (of_decide_eq_true hoc) hx hb hd g
  case lconst k => obtain rfl : n = 1 := ew_beq hst; exact es_lconst hx hb hd g
  case ldc2_w k =>
    obtain rfl : n = 3 := ew_beq hst
    cases hv : et_cl (et_cls y) k with
    | none => dsimp only [ew_st] at g; rw [hv] at g; exact g.elim
    | some v => dsimp only [ew_st] at g; rw [hv] at g; exact es_ldc2 hown (hts _ (T.2.2.2.2.2.2.2.2.2.2.1.1 _ _ _ hv)) hx hb hd g
  case ldc k =>
    obtain rfl : n = 2 := ew_beq hst
    cases hv : et_ci (et_cls y) k with
    | none => dsimp only [ew_st] at g; rw [hv] at g; exact g.elim
    | some v => dsimp only [ew_st] at g; rw [hv] at g; exact es_ldc hown (hts _ (T.2.2.2.2.2.2.2.2.2.2.1.2 _ _ _ hv)) hx hb hd g
  case iload k => obtain ⟨v, a1, a2, a3⟩ := eu_ld g; obtain rfl : n = 2 := ew_beq hst; exact es_ld a1 a2 hx hb hd (Or.inl ⟨rfl, Or.inl ⟨rfl, rfl⟩⟩) a3
  case iload_n k => obtain ⟨v, a1, a2, a3⟩ := eu_ld g; obtain rfl : n = 1 := ew_beq hst; exact es_ld a1 a2 hx hb hd (Or.inl ⟨rfl, Or.inr ⟨k, rfl, rfl, rfl⟩⟩) a3
  case lload k => obtain ⟨v, a1, a2, a3⟩ := eu_ld g; obtain rfl : n = 2 := ew_beq hst; exact es_ld a1 a2 hx hb hd (Or.inr (Or.inl ⟨rfl, Or.inl ⟨rfl, rfl⟩⟩)) a3
  case lload_n k => obtain ⟨v, a1, a2, a3⟩ := eu_ld g; obtain rfl : n = 1 := ew_beq hst; exact es_ld a1 a2 hx hb hd (Or.inr (Or.inl ⟨rfl, Or.inr ⟨k, rfl, rfl, rfl⟩⟩)) a3
  case dload k => obtain ⟨v, a1, a2, a3⟩ := eu_ld g; obtain rfl : n = 2 := ew_beq hst; exact es_ld a1 a2 hx hb hd (Or.inr (Or.inr (Or.inl ⟨rfl, Or.inl ⟨rfl, rfl⟩⟩))) a3
  case dload_n k => obtain ⟨v, a1, a2, a3⟩ := eu_ld g; obtain rfl : n = 1 := ew_beq hst; exact es_ld a1 a2 hx hb hd (Or.inr (Or.inr (Or.inl ⟨rfl, Or.inr ⟨k, rfl, rfl, rfl⟩⟩))) a3
  case aload k => obtain ⟨v, a1, a2, a3⟩ := eu_ld g; obtain rfl : n = 2 := ew_beq hst; exact es_ld a1 a2 hx hb hd (Or.inr (Or.inr (Or.inr ⟨rfl, Or.inl ⟨rfl, rfl⟩⟩))) a3
  case aload_n k => obtain ⟨v, a1, a2, a3⟩ := eu_ld g; obtain rfl : n = 1 := ew_beq hst; exact es_ld a1 a2 hx hb hd (Or.inr (Or.inr (Or.inr ⟨rfl, Or.inr ⟨k, rfl, rfl, rfl⟩⟩))) a3
  case istore k =>
    obtain ⟨v, st', rfl, a2, a3⟩ := eu_sto g
    obtain rfl : n = 2 := ew_beq hst
    rcases a3 with ⟨-, a3, a4⟩ | ⟨a3, -, -⟩
    · exact es_sto1 a2 a3 hx hb hd (Or.inl ⟨rfl, Or.inl ⟨rfl, rfl⟩⟩) a4
    · exact absurd (Or.inl rfl) a3
  case istore_n k =>
    obtain ⟨v, st', rfl, a2, a3⟩ := eu_sto g
    obtain rfl : n = 1 := ew_beq hst
    rcases a3 with ⟨-, a3, a4⟩ | ⟨a3, -, -⟩
    · exact es_sto1 a2 a3 hx hb hd (Or.inl ⟨rfl, Or.inr ⟨k, rfl, rfl, rfl⟩⟩) a4
    · exact absurd (Or.inl rfl) a3
  case astore k =>
    obtain ⟨v, st', rfl, a2, a3⟩ := eu_sto g
    obtain rfl : n = 2 := ew_beq hst
    rcases a3 with ⟨-, a3, a4⟩ | ⟨a3, -, -⟩
    · exact es_sto1 a2 a3 hx hb hd (Or.inr ⟨rfl, Or.inl ⟨rfl, rfl⟩⟩) a4
    · exact absurd (Or.inr rfl) a3
  case astore_n k =>
    obtain ⟨v, st', rfl, a2, a3⟩ := eu_sto g
    obtain rfl : n = 1 := ew_beq hst
    rcases a3 with ⟨-, a3, a4⟩ | ⟨a3, -, -⟩
    · exact es_sto1 a2 a3 hx hb hd (Or.inr ⟨rfl, Or.inr ⟨k, rfl, rfl, rfl⟩⟩) a4
    · exact absurd (Or.inr rfl) a3
  case lstore k =>
    obtain ⟨v, st', rfl, a2, a3⟩ := eu_sto g
    obtain rfl : n = 2 := ew_beq hst
    rcases a3 with ⟨a3, -, -⟩ | ⟨-, a3, a4⟩
    · rcases a3 with a3 | a3 <;> cases a3
    · exact es_sto2 a2 a3 hx hb hd (Or.inl ⟨rfl, Or.inl ⟨rfl, rfl⟩⟩) a4
  case lstore_n k =>
    obtain ⟨v, st', rfl, a2, a3⟩ := eu_sto g
    obtain rfl : n = 1 := ew_beq hst
    rcases a3 with ⟨a3, -, -⟩ | ⟨-, a3, a4⟩
    · rcases a3 with a3 | a3 <;> cases a3
    · exact es_sto2 a2 a3 hx hb hd (Or.inl ⟨rfl, Or.inr ⟨k, rfl, rfl, rfl⟩⟩) a4
  case dstore k =>
    obtain ⟨v, st', rfl, a2, a3⟩ := eu_sto g
    obtain rfl : n = 2 := ew_beq hst
    rcases a3 with ⟨a3, -, -⟩ | ⟨-, a3, a4⟩
    · rcases a3 with a3 | a3 <;> cases a3
    · exact es_sto2 a2 a3 hx hb hd (Or.inr ⟨rfl, Or.inl ⟨rfl, rfl⟩⟩) a4
  case dstore_n k =>
    obtain ⟨v, st', rfl, a2, a3⟩ := eu_sto g
    obtain rfl : n = 1 := ew_beq hst
    rcases a3 with ⟨a3, -, -⟩ | ⟨-, a3, a4⟩
    · rcases a3 with a3 | a3 <;> cases a3
    · exact es_sto2 a2 a3 hx hb hd (Or.inr ⟨rfl, Or.inr ⟨k, rfl, rfl, rfl⟩⟩) a4
  case iinc k c =>
    obtain rfl : n = 3 := ew_beq hst
    cases hk : (ls[k]? : Option (Option ew_V)) with
    | none => dsimp only [ew_st] at g; rw [hk] at g; exact g.elim
    | some o =>
      dsimp only [ew_st] at g
      rw [hk] at g
      rcases o with _ | v | v
      · exact g.elim
      · cases v <;> first | exact g.elim | skip
        obtain ⟨hlt, g⟩ := ed_if g
        exact es_iinc hk (Nat.le_of_ble_eq_true hlt) (of_decide_eq_true hoc) hx hb hd g
      · exact g.elim
  case iadd => obtain ⟨x, z, st', rfl, g⟩ := eu_bin g; obtain rfl : n = 1 := ew_beq hst; exact es_bin hx hb hd (Or.inl ⟨rfl, rfl⟩) g
  case isub => obtain ⟨x, z, st', rfl, g⟩ := eu_bin g; obtain rfl : n = 1 := ew_beq hst; exact es_bin hx hb hd (Or.inr (Or.inl ⟨rfl, rfl⟩)) g
  case imul => obtain ⟨x, z, st', rfl, g⟩ := eu_bin g; obtain rfl : n = 1 := ew_beq hst; exact es_bin hx hb hd (Or.inr (Or.inr (Or.inl ⟨rfl, rfl⟩))) g
  case iand => obtain ⟨x, z, st', rfl, g⟩ := eu_bin g; obtain rfl : n = 1 := ew_beq hst; exact es_bin hx hb hd (Or.inr (Or.inr (Or.inr (Or.inl ⟨rfl, rfl⟩)))) g
  case ishr => obtain ⟨x, z, st', rfl, g⟩ := eu_bin g; obtain rfl : n = 1 := ew_beq hst; exact es_bin hx hb hd (Or.inr (Or.inr (Or.inr (Or.inr ⟨rfl, rfl⟩)))) g
  case ladd => obtain ⟨x, z, st', rfl, g⟩ := eu_binl g; obtain rfl : n = 1 := ew_beq hst; exact es_binl hx hb hd (Or.inl ⟨rfl, rfl⟩) g
  case lmul => obtain ⟨x, z, st', rfl, g⟩ := eu_binl g; obtain rfl : n = 1 := ew_beq hst; exact es_binl hx hb hd (Or.inr ⟨rfl, rfl⟩) g
  case idiv =>
    obtain rfl : n = 1 := ew_beq hst
    rcases st with _ | ⟨b | b, _ | ⟨a | a, st⟩⟩ <;> first | exact g.elim | skip
    all_goals cases b <;> first | exact g.elim | skip
    all_goals cases a <;> first | exact g.elim | skip
    exact es_idiv g.1 hx hb hd g.2
  case irem =>
    obtain rfl : n = 1 := ew_beq hst
    rcases st with _ | ⟨b | b, _ | ⟨a | a, st⟩⟩ <;> first | exact g.elim | skip
    all_goals cases b <;> first | exact g.elim | skip
    all_goals cases a <;> first | exact g.elim | skip
    exact es_irem g.1 hx hb hd g.2
  case ddiv =>
    obtain rfl : n = 1 := ew_beq hst
    rcases st with _ | ⟨b | b, _ | ⟨a | a, st⟩⟩ <;> first | exact g.elim | skip
    all_goals cases b <;> first | exact g.elim | skip
    all_goals cases a <;> first | exact g.elim | skip
    exact es_ddiv g.1 hx hb hd g.2
  case dcmp o =>
    obtain rfl : n = 1 := ew_beq hst
    rcases st with _ | ⟨b | b, _ | ⟨a | a, st⟩⟩ <;> first | exact g.elim | skip
    all_goals cases b <;> first | exact g.elim | skip
    all_goals cases a <;> first | exact g.elim | skip
    exact es_dcmp hx hb hd g
  case i2l =>
    obtain rfl : n = 1 := ew_beq hst
    rcases st with _ | ⟨a | a, st⟩ <;> first | exact g.elim | skip
    cases a <;> first | exact g.elim | exact es_i2l hx hb hd g
  case i2d =>
    obtain rfl : n = 1 := ew_beq hst
    rcases st with _ | ⟨a | a, st⟩ <;> first | exact g.elim | skip
    cases a <;> first | exact g.elim | exact es_i2d hx hb hd g
  case dconst k =>
    obtain rfl : n = 1 := ew_beq hst
    obtain ⟨hk, g⟩ := ed_if g
    obtain rfl : k = 0 := Fin.ext (ew_beq hk)
    exact es_dconst hx hb hd g
  case dup =>
    obtain rfl : n = 1 := ew_beq hst
    rcases st with _ | ⟨v, st⟩
    · exact g.elim
    · obtain ⟨hv, g⟩ := ed_if g
      exact es_dup hv hx hb hd g
  case pop =>
    obtain rfl : n = 1 := ew_beq hst
    rcases st with _ | ⟨v, st⟩
    · exact g.elim
    · obtain ⟨hv, g⟩ := ed_if g
      exact es_pop hv hx hb hd g
  case dup_x1 =>
    obtain rfl : n = 1 := ew_beq hst
    rcases st with _ | ⟨v, _ | ⟨w, st⟩⟩
    · exact g.elim
    · exact g.elim
    · obtain ⟨hv, g⟩ := ed_if g
      rw [Bool.and_eq_true] at hv
      exact es_dup_x1 hv.1 hv.2 hx hb hd g
  case dup2 =>
    obtain rfl : n = 1 := ew_beq hst
    rcases st with _ | ⟨v, _ | ⟨w, st⟩⟩
    · exact g.elim
    · exact g.elim
    · obtain ⟨hv, g⟩ := ed_if g
      rw [Bool.and_eq_true] at hv
      exact es_dup2 hv.1 hv.2 hx hb hd g
  case goto o => obtain rfl : n = 3 := ew_beq hst; exact es_goto (of_decide_eq_true hoj) hx hb hd g
end EY
end
section
/-! Any step: branches, objects, arrays. -/
section EZ
variable {p : Program} {l : Launch} {e : Env} {R : Room} {s : State} {m : MethodId} {args : Array Value} {below : List Frame} {meth : Method} {c0 : Code} {Q : State → Prop}
variable {G : va_G} {TY : Nat → ClassId} {sz : Nat} {H0 : Heap} {NW : List Cond} {Wd : State → Prop} {d y : Nat} {hS hE : ew_H} {aS : Nat → Nat → Nat}
variable {pc nx tg : Nat} {cv : Int32} {ls : List (Option ew_V)} {st : List ew_V} {h : ew_H} {i : Instr} {n : Nat} {r : ew_R}
theorem ed_obj (X : ew_Cx p l e R s m args below meth c0 NW G TY Wd d y) (T : ew_Tab NW Wd) (hpg : ew_pg y pc = some (i, nx, tg, cv)) (hRc : hE.2.2.2.2.1 - hS.2.2.2.2.1 ≤ R.cells) (hRs : hE.2.2.2.2.2 - hS.2.2.2.2.2 ≤ R.slots)
    (hi : match i with | .ifCond _ _ | .if_icmp _ _ | .if_acmp _ _ | .lcmp | .tableswitch _ _ _ _ | .getfield _ | .putfield _ | .arraylength | .iaload | .baload | .aaload | .iastore | .bastore | .aastore => True | _ => False)
    (g : ew_UQ p l e R s m args below meth c0 G TY sz H0 Q y hS hE aS pc ls h d r (ew_st y (et_cls y) i pc nx tg cv ls st h)) : ew_Q p l e R s m args below meth c0 G TY sz H0 Q y hS hE aS (pc, ls, st, h) := by
  obtain ⟨n, hd, hnx, hst, hoj, hoc⟩ := ew_okb_spec (T.1 _ _ _ hpg)
  obtain ⟨hx, hb, hml, hown, hts, hW, hwd, hfr, hlo, hini⟩ := id X
  subst hnx
  cases i <;> try exact hi.elim
  case ifCond o q =>
    obtain rfl : n = 3 := ew_beq hst
    rcases st with _ | ⟨a | a, st⟩ <;> first | exact g.elim | skip
    cases a <;> first | exact g.elim | skip
    exact es_if (of_decide_eq_true hoj) hx hb hd g.1 g.2
  case if_icmp o q =>
    obtain rfl : n = 3 := ew_beq hst
    rcases st with _ | ⟨b | b, _ | ⟨a | a, st⟩⟩ <;> first | exact g.elim | skip
    all_goals cases b <;> first | exact g.elim | skip
    all_goals cases a <;> first | exact g.elim | skip
    exact es_icmp (of_decide_eq_true hoj) hx hb hd g.1 g.2
  case if_acmp o q =>
    obtain rfl : n = 3 := ew_beq hst
    cases o <;> first | exact g.elim | skip
    rcases st with _ | ⟨b | ⟨k1, i1⟩, _ | ⟨a | ⟨k2, i2⟩, st⟩⟩ <;> first | exact g.elim | skip
    rcases ed_el g with ⟨hh, g3⟩ | ⟨hh, g3⟩
    · rw [Bool.and_eq_true] at hh
      obtain rfl : k2 = k1 := ew_beq hh.1
      exact es_acmp (of_decide_eq_true hoj) hx hb hd (ew_beq hh.2) g3
    · obtain ⟨h2, g⟩ := ed_fi g3
      simp only [Bool.or_eq_false_iff] at h2
      refine es_acmpN (of_decide_eq_true hoj) hx hb hd (fun z => ?_) (fun z => ?_) (fun z => ?_) g
      · rw [z, ew_beqr] at h2; exact absurd h2.1 (by decide)
      · rw [z] at h2; exact absurd h2.2.1 (by decide)
      · rw [z] at h2; exact absurd h2.2.2 (by decide)
  case lcmp =>
    obtain rfl : n = 1 := ew_beq hst
    rcases st with _ | ⟨b | b, _ | ⟨a | a, st⟩⟩ <;> first | exact g.elim | skip
    all_goals cases b <;> first | exact g.elim | skip
    all_goals cases a <;> first | exact g.elim | skip
    exact es_lcmp hx hb hd g.1 g.2
  case tableswitch dd lo hi2 os =>
    rcases st with _ | ⟨a | a, st⟩ <;> first | exact g.elim | skip
    cases a <;> first | exact g.elim | skip
    exact es_switch (tg := tg) hx hb hd hoj g
  case getfield x =>
    obtain rfl : n = 3 := ew_beq hst
    cases hv : et_fd (et_cls y) x with
    | none => dsimp only [ew_st] at g; rw [hv] at g; exact g.elim
    | some q =>
      obtain ⟨ci, sl, t⟩ := q
      dsimp only [ew_st] at g
      rw [hv] at g
      obtain ⟨f1, f2, f3⟩ := T.2.1 _ _ _ hv
      rcases st with _ | ⟨a | ⟨k, j⟩, st⟩ <;> first | exact g.elim | skip
      obtain ⟨hh, g⟩ := ed_if g
      exact es_get X f1 f2 (ew_beq hh) hd g
  case putfield x =>
    obtain rfl : n = 3 := ew_beq hst
    cases hv : et_fd (et_cls y) x with
    | none => dsimp only [ew_st] at g; rw [hv] at g; exact g.elim
    | some q =>
      obtain ⟨ci, sl, t⟩ := q
      dsimp only [ew_st] at g
      rw [hv] at g
      obtain ⟨f1, f2, f3⟩ := T.2.1 _ _ _ hv
      rcases st with _ | ⟨v, _ | ⟨a | ⟨k, j⟩, st⟩⟩ <;> first | exact g.elim | skip
      obtain ⟨hh, g⟩ := ed_if g
      simp only [Bool.and_eq_true, Bool.not_eq_true', Bool.or_eq_true] at hh
      obtain ⟨⟨⟨h1, h2⟩, h3⟩, h4⟩ := hh
      refine es_put X (f3 h2) f2 (ew_beq h1) h3 (fun hf => ?_) g.1 hd g.2
      rcases h4 with h4 | ⟨h4, h5⟩
      · dsimp only at hf h4
        rw [hf] at h4
        cases h4
      · refine ⟨h4, fun r hr => ?_⟩
        rw [ew_beq h5]
        exact (T.2.2.1 _ _ hr).1
  case arraylength =>
    obtain rfl : n = 1 := ew_beq hst
    rcases st with _ | ⟨a | ⟨k, j⟩, st⟩ <;> first | exact g.elim | skip
    obtain ⟨hh, g⟩ := ed_if g
    rw [Bool.and_eq_true] at hh
    exact es_alen X (Nat.le_of_ble_eq_true hh.1) (Nat.le_of_ble_eq_true hh.2) hd g
  case iaload => obtain ⟨j, k, i, st', rfl, -, a2, a3, g⟩ := eu_ald g; obtain rfl : n = 1 := ew_beq hst; exact es_ald X a3 hd (Or.inl ⟨rfl, a2 (by decide)⟩) g
  case baload => obtain ⟨j, k, i, st', rfl, -, a2, a3, g⟩ := eu_ald g; obtain rfl : n = 1 := ew_beq hst; exact es_ald X a3 hd (Or.inr (Or.inl ⟨rfl, a2 (by decide)⟩)) g
  case aaload => obtain ⟨j, k, i, st', rfl, a2, -, a3, g⟩ := eu_ald g; obtain rfl : n = 1 := ew_beq hst; exact es_ald X a3 hd (Or.inr (Or.inr ⟨rfl, a2 rfl⟩)) g
  case iastore =>
    obtain ⟨v, j, k, i, st', rfl, a0, -, a2, a3, a4, g⟩ := eu_ast g
    obtain rfl : n = 1 := ew_beq hst
    have a2 := a2 (by decide)
    exact es_ast X a0 a3 hd (ew_ne31 a2 (by decide)) (Or.inl ⟨rfl, a2, a4⟩) g
  case bastore =>
    obtain ⟨v, j, k, i, st', rfl, a0, -, a2, a3, a4, g⟩ := eu_ast g
    obtain rfl : n = 1 := ew_beq hst
    have a2 := a2 (by decide)
    exact es_ast X a0 a3 hd (ew_ne31 a2 (by decide)) (Or.inr (Or.inl ⟨rfl, a2, a4⟩)) g
  case aastore =>
    obtain ⟨v, j, k, i, st', rfl, a0, a2, -, a3, a4, g⟩ := eu_ast g
    obtain rfl : n = 1 := ew_beq hst
    obtain ⟨b1, b2, b3⟩ := a2 rfl
    exact es_ast X a0 a3 hd (ew_ne31 (k := k) rfl (by omega)) (Or.inr (Or.inr ⟨rfl, b1, a4, b3⟩)) g
theorem ed_made (X : ew_Cx p l e R s m args below meth c0 NW G TY Wd d y) (T : ew_Tab NW Wd) (hpg : ew_pg y pc = some (i, nx, tg, cv)) (hRc : hE.2.2.2.2.1 - hS.2.2.2.2.1 ≤ R.cells) (hRs : hE.2.2.2.2.2 - hS.2.2.2.2.2 ≤ R.slots)
    (hi : match i with | .new _ | .newarray _ | .anewarray _ | .checkcast _ => True | _ => False)
    (hN : ∀ x c, i = .new x → et_nw (et_cls y) x = some c → 100 ≤ c → ew_cats st ≤ 20 → (.inr (c - 100) : ew_R) = r → ew_pay h 1 6 = hE → ew_Q p l e R s m args below meth c0 G TY sz H0 Q y hS hE aS (pc, ls, st, h))
    (g : ew_UQ p l e R s m args below meth c0 G TY sz H0 Q y hS hE aS pc ls h d r (ew_st y (et_cls y) i pc nx tg cv ls st h)) : ew_Q p l e R s m args below meth c0 G TY sz H0 Q y hS hE aS (pc, ls, st, h) := by
  obtain ⟨n, hd, hnx, hst, hoj, hoc⟩ := ew_okb_spec (T.1 _ _ _ hpg)
  obtain ⟨hx, hb, hml, hown, hts, hW, hwd, hfr, hlo, hini⟩ := id X
  obtain ⟨-, -, t3, t4, -, -, -, -, -, -, -, t12, t13, -⟩ := T
  subst hnx
  cases i <;> try exact hi.elim
  case new x =>
    obtain rfl : n = 3 := ew_beq hst
    cases hv : et_nw (et_cls y) x with
    | none => dsimp only [ew_st] at g; rw [hv] at g; exact g.elim
    | some c =>
      dsimp only [ew_st] at g
      rw [hv] at g
      rcases ed_el g with ⟨hh, g⟩ | ⟨hh, g⟩
      · obtain ⟨h2, g⟩ := ed_if g
        rw [Bool.and_eq_true] at h2
        have hc17 : c < 17 := Nat.le_of_ble_eq_true hh
        have hcl : vwCl.length = 17 := rfl
        have hr : vwCl[c]? = some vwCl[c] := List.getElem?_eq_getElem (by rw [hcl]; exact hc17)
        obtain ⟨u1, u2, u3, u4⟩ := t3 _ _ hr
        refine es_new X hr u2 (ew_beq h2.1) hc17 (ed_nc h2.2).1 h2.2 ?_ u3 u4 hRc hRs hd g
        rw [u1]
        exact (t4 _ _ _ hv).1 hc17
      · obtain ⟨h2, g⟩ := ed_if g
        rw [Bool.and_eq_true] at h2
        exact hN x c rfl hv (Nat.le_of_ble_eq_true h2.1) (Nat.le_of_ble_eq_true h2.2) g.2.1 g.2.2
  case newarray at' =>
    obtain rfl : n = 2 := ew_beq hst
    cases at' <;> first | exact g.elim | skip
    case boolean =>
      obtain ⟨h2, g⟩ := ed_if g
      rw [Bool.and_eq_true] at h2
      obtain ⟨nn, st', rfl, a1, a2, a3, g⟩ := eu_newa g
      have e1 := ew_beq h2.1
      exact es_newa (at' := .boolean) X (by rw [e1]; rfl) t12.2 (by rw [e1]; decide) (by rw [e1]; decide) (ed_nc h2.2).1 h2.2 ⟨.int 0, rfl, fun q z => by cases z⟩ (fun a => rfl) a1 a2 a3 hRc hRs hd g
    case int =>
      obtain ⟨h2, g⟩ := ed_if g
      rw [Bool.and_eq_true] at h2
      obtain ⟨nn, st', rfl, a1, a2, a3, g⟩ := eu_newa g
      have e1 := ew_beq h2.1
      exact es_newa (at' := .int) X (by rw [e1]; rfl) t12.1 (by rw [e1]; decide) (by rw [e1]; decide) (ed_nc h2.2).1 h2.2 ⟨.int 0, rfl, fun q z => by cases z⟩ (fun a => rfl) a1 a2 a3 hRc hRs hd g
  case anewarray x =>
    obtain rfl : n = 3 := ew_beq hst
    cases hv : et_nw (et_cls y) x with
    | none => dsimp only [ew_st] at g; rw [hv] at g; exact g.elim
    | some c =>
      dsimp only [ew_st] at g
      rw [hv] at g
      obtain ⟨w1, w2, -⟩ := t4 _ _ _ hv
      obtain ⟨h2, g⟩ := ed_if g
      rw [Bool.and_eq_true, Bool.and_eq_true, Bool.and_eq_true] at h2
      obtain ⟨nn, st', rfl, a1, a2, a3, g⟩ := eu_newa g
      obtain ⟨⟨⟨b1, b2⟩, b3⟩, b4⟩ := h2
      have b1 : 20 ≤ ew_ct (et_si y pc) := Nat.le_of_ble_eq_true b1
      have b2 : ew_ct (et_si y pc) < 25 := Nat.le_of_ble_eq_true b2
      have b3 := ew_beq b3
      by_cases h20 : ew_ct (et_si y pc) = 20
      · rw [h20] at b3
        exact es_anewA X (by rw [h20]; rfl) (w2 b3) (fun U hU => (t13 U hU).1) (by omega) b2 (ed_nc b4).1 (fun _ => rfl) (fun z => by rw [b4] at z; cases z) a1 a2 a3 hRc hRs hd g
      · have b1 : 21 ≤ ew_ct (et_si y pc) := by omega
        have hlt : c < 17 := by
          rw [b3]
          have : ∀ t, 21 ≤ t → t < 25 → ew_cl t < 17 := by
            intro t q1 q2
            have : t = 21 ∨ t = 22 ∨ t = 23 ∨ t = 24 := by omega
            rcases this with rfl | rfl | rfl | rfl <;> decide
          exact this _ b1 b2
        have hov : ∀ U, Wd U → va_AO (ew_on (ew_cl (ew_ct (et_si y pc)))) U := by
          intro U hU
          obtain ⟨o1, o2, o3, o4, o5⟩ := t13 U hU
          have : ∀ t, 21 ≤ t → t < 25 → va_AO (ew_on (ew_cl t)) U := by
            intro t q1 q2
            have : t = 21 ∨ t = 22 ∨ t = 23 ∨ t = 24 := by omega
            rcases this with rfl | rfl | rfl | rfl
            · exact o2
            · exact o3
            · exact o4
            · exact o5
          exact this _ b1 b2
        exact es_anewa (C := ew_on (ew_cl (ew_ct (et_si y pc)))) X (ed_ty b1 b2) (by rw [← b3]; exact w1 hlt) hov (by omega) b2 (ed_nc b4).1 (fun _ => rfl) (fun z => by rw [b4] at z; cases z) a1 a2 a3 hRc hRs hd g
  case checkcast x =>
    obtain rfl : n = 3 := ew_beq hst
    cases hv : et_nw (et_cls y) x with
    | none => dsimp only [ew_st] at g; rw [hv] at g; exact g.elim
    | some c =>
      dsimp only [ew_st] at g
      rw [hv] at g
      rcases st with _ | ⟨a | ⟨k, j⟩, st⟩ <;> first | exact g.elim | skip
      obtain ⟨hh, g⟩ := ed_if g
      rw [Bool.and_eq_true] at hh
      obtain ⟨w1, w2, -⟩ := t4 _ _ _ hv
      have hk := ew_beq hh.1
      have hh2 := hh.2
      rw [Bool.and_eq_true] at hh2
      have hc := Nat.le_of_ble_eq_true hh2.1
      by_cases h17 : c < 17
      · have hcl : vwCl.length = 17 := rfl
        have hr : vwCl[ew_ct k]? = some (vwCl[ew_ct k]'(by rw [hcl, hk]; exact h17)) := List.getElem?_eq_getElem (by rw [hcl, hk]; exact h17)
        refine es_cast X (by rw [hk]; exact h17) hr ?_ hd g
        rw [(t3 _ _ hr).1, hk]
        exact w1 h17
      · refine es_castA X ?_ (by omega) (w2 (by omega)) hd g
        have h3 := hh2.2
        rw [show Nat.blt c 17 = false from (by
          cases hb : Nat.blt c 17 with
          | false => rfl
          | true => exact absurd (Nat.le_of_ble_eq_true hb) h17), Bool.false_or] at h3
        exact (Bool.not_eq_true' _).mp h3
end EZ
end
section
/-! Any step: calls and ends. -/
section FA
variable {p : Program} {l : Launch} {e : Env} {R : Room} {s : State} {m : MethodId} {args : Array Value} {below : List Frame} {meth : Method} {c0 : Code} {Q : State → Prop}
variable {G : va_G} {TY : Nat → ClassId} {sz : Nat} {H0 : Heap} {NW : List Cond} {Wd : State → Prop} {CK : Nat → Nat → Option Nat} {d y : Nat} {hS hE : ew_H} {aS : Nat → Nat → Nat}
variable {pc nx tg : Nat} {cv : Int32} {ls : List (Option ew_V)} {st : List ew_V} {h : ew_H} {i : Instr} {n : Nat} {r : ew_R}
theorem ed_split {st : List ew_V} {a : Nat} {k j : Nat} {rest : List ew_V} (h : st.drop a = ew_o k j :: rest) : st = (st.take a).reverse.reverse ++ ew_o k j :: rest ∧ (st.take a).reverse.length = a := by
  refine ⟨by rw [List.reverse_reverse, ← h, List.take_append_drop], ?_⟩
  rw [List.length_reverse, List.length_take]
  have : a < st.length := by
    by_cases q : a < st.length
    · exact q
    · rw [List.drop_eq_nil_of_le (by omega)] at h
      cases h
  omega
theorem ed_call (X : ew_Cx p l e R s m args below meth c0 NW G TY Wd d y) (hck : ew_ck CK hS aS) (T : ew_Tab NW Wd) (hpg : ew_pg y pc = some (i, nx, tg, cv)) (hRc : hE.2.2.2.2.1 - hS.2.2.2.2.1 ≤ R.cells) (hRs : hE.2.2.2.2.2 - hS.2.2.2.2.2 ≤ R.slots)
    (hi : match i with | .invokestatic _ | .invokevirtual _ | .invokespecial _ | .invokeinterface _ _ => True | _ => False)
    (hM : ∀ (d' z : Nat) (as : List ew_V) (v : Option ew_V) (h' : ew_H), d = d' + 1 → et_wr z = false → ew_Call d z as h (fun r1 h1 => r1 = .inl v ∧ h1 = h') → ew_Mt l G TY sz H0 CK Wd d' z as h v h' ∧ ew_le h h')
    (hXV : ∀ (x z n c k j : Nat) (as rest : List ew_V) (xx : Nat) (h' : ew_H), i = .invokevirtual x → et_md (et_cls y) x = some (z, n, c) → et_if (et_cls y) x = false → et_kd z = 1 → ew_ct k = c → as.length = n → st = as.reverse ++ ew_o k j :: rest → ew_cats rest ≤ 8 → ew_th z = true → ew_Call d z (ew_o k j :: as) h (fun r1 h1 => r1 = .inr xx ∧ h1 = h') →
      (match ew_hd y pc xx with | some t => ew_Q p l e R s m args below meth c0 G TY sz H0 Q y hS hE aS (t.1, ew_un ls t.2, [], h') | none => (.inr xx : ew_R) = r ∧ h' = hE) → ew_Q p l e R s m args below meth c0 G TY sz H0 Q y hS hE aS (pc, ls, st, h))
    (hXS : ∀ (x z n c : Nat) (as rest : List ew_V) (xx : Nat) (h' : ew_H), i = .invokestatic x → et_md (et_cls y) x = some (z, n, c) → z < 900 → et_kd z = 0 → as.length = n → st = as.reverse ++ rest → ew_cats rest ≤ 8 → ew_th z = true → ew_Call d z as h (fun r1 h1 => r1 = .inr xx ∧ h1 = h') →
      (match ew_hd y pc xx with | some t => ew_Q p l e R s m args below meth c0 G TY sz H0 Q y hS hE aS (t.1, ew_un ls t.2, [], h') | none => (.inr xx : ew_R) = r ∧ h' = hE) → ew_Q p l e R s m args below meth c0 G TY sz H0 Q y hS hE aS (pc, ls, st, h))
    (hWS : ∀ (x z n c : Nat) (as rest : List ew_V) (v : Option ew_V) (h' : ew_H), i = .invokestatic x → et_md (et_cls y) x = some (z, n, c) → et_wr z = true → et_kd z = 0 → as.length = n → st = as.reverse ++ rest → ew_cats rest ≤ 8 → ew_Call d z as h (fun r1 h1 => r1 = .inl v ∧ h1 = h') → ew_Q p l e R s m args below meth c0 G TY sz H0 Q y hS hE aS (pc + 3, ls, v.toList ++ rest, h') → ew_Q p l e R s m args below meth c0 G TY sz H0 Q y hS hE aS (pc, ls, st, h))
    (g : ew_UQ p l e R s m args below meth c0 G TY sz H0 Q y hS hE aS pc ls h d r (ew_st y (et_cls y) i pc nx tg cv ls st h)) : ew_Q p l e R s m args below meth c0 G TY sz H0 Q y hS hE aS (pc, ls, st, h) := by
  obtain ⟨n, hd, hnx, hst, hoj, hoc⟩ := ew_okb_spec (T.1 _ _ _ hpg)
  obtain ⟨hx, hb, hml, hown, hts, hW, hwd, hfr, hlo, hini⟩ := id X
  have hsucc : ∀ {z : Nat} {as : List ew_V} {K : ew_R → ew_H → Prop}, ew_Call d z as h K → ∃ d', d = d' + 1 := fun {z as K} g => by
    cases d with
    | zero => exact g.elim
    | succ d' => exact ⟨d', rfl⟩
  have hlast : ∀ cl x z n c, et_md cl x = some (z, n, c) → (et_wr z = true → et_kd z = 0 ∧ 185 ≤ z) ∧ (900 ≤ z → et_kd z = 9) ∧ (et_if cl x = true → z < 900 ∧ et_wr z = false ∧ 185 ≤ z) := T.2.2.2.2.2.2.2.2.2.2.2.2.2.1
  subst hnx
  cases i <;> try exact hi.elim
  case invokestatic x =>
    obtain rfl : n = 3 := ew_beq hst
    cases hv : et_md (et_cls y) x with
    | none => dsimp only [ew_st] at g; rw [hv] at g; exact g.elim
    | some q =>
      obtain ⟨z, a, c⟩ := q
      dsimp only [ew_st] at g
      rw [hv] at g
      obtain ⟨u1, u2, u3, u4, u5⟩ := T.2.2.2.2.2.1 (et_cls y) x a c
      obtain ⟨hma, hab, hcp, hob⟩ : (∀ w ∈ ew_mathW, w ∈ ew_TW) ∧ (∀ w ∈ ew_absW, w ∈ ew_TW) ∧ True ∧ (Cond.instanceMethod objectInit ∈ ew_TW ∧ Cond.code objectInit ⟨#[0xb1]⟩ 1 none ∈ ew_TW) := ⟨T.2.2.2.2.2.2.1, T.2.2.2.2.2.2.2.1, T.2.2.2.2.2.2.2.2.1, T.2.2.2.2.2.2.2.2.2.1⟩
      rcases ed_el g with ⟨h9, g1⟩ | ⟨h9, g1⟩
      · rcases ed_el g1 with ⟨ha, g2⟩ | ⟨-, g2⟩
        · obtain rfl := ew_beq ha
          obtain ⟨hcs, g2⟩ := ed_if g2
          obtain ⟨xx, zz, st', rfl, g3⟩ := eu_bin g2
          exact es_math X hma (Nat.le_of_ble_eq_true hcs) hRc hRs (Or.inl ⟨rfl, u1 hv⟩) hd g3
        rcases ed_el g2 with ⟨ha, g3⟩ | ⟨-, g3⟩
        · obtain rfl := ew_beq ha
          obtain ⟨hcs, g3⟩ := ed_if g3
          obtain ⟨xx, zz, st', rfl, g4⟩ := eu_bin g3
          exact es_math X hma (Nat.le_of_ble_eq_true hcs) hRc hRs (Or.inr ⟨rfl, u2 hv⟩) hd g4
        obtain ⟨ha, g5⟩ := ed_if g3
        obtain rfl := ew_beq ha
        rcases st with _ | ⟨b1 | b1, st⟩ <;> first | exact g5.elim | skip
        cases b1 <;> first | exact g5.elim | skip
        obtain ⟨hcs, g6⟩ := ed_if g5
        exact es_abs X hab (Nat.le_of_ble_eq_true hcs) hRc hRs (u3 hv) hd g6
      · obtain ⟨h5, g5⟩ := ed_if g1
        simp only [Bool.and_eq_true] at h5
        obtain ⟨k1, k2, k3⟩ := h5
        have k1 := ew_beq k1
        have z9 : z < 900 := by
          by_cases q : z < 900
          · exact q
          · rw [Nat.ble_eq_true_of_le (show 900 ≤ z by omega)] at h9; cases h9
        have hlen : (st.take a).reverse.length = a := by
          rw [List.length_reverse, List.length_take]
          have := Nat.le_of_ble_eq_true k3
          omega
        have hsp : st = (st.take a).reverse.reverse ++ st.drop a := by rw [List.reverse_reverse, List.take_append_drop]
        obtain ⟨r0, h0, hc, hk⟩ := ew_Call_get g5
        obtain ⟨d', hdd⟩ := hsucc hc
        rcases r0 with v | xx
        · cases hwr : et_wr z with
          | true => exact hWS x z a c _ _ v h0 rfl hv hwr k1 hlen hsp (Nat.le_of_ble_eq_true k2) hc hk
          | false =>
            obtain ⟨M, hle⟩ := hM d' z _ v h0 hdd hwr hc
            obtain ⟨w1, w2, -⟩ := T.2.2.2.2.1 _ _ _ _ _ hv z9 hwr
            have hif : et_if (et_cls y) x = false := by
              cases hif : et_if (et_cls y) x with
              | false => rfl
              | true =>
                have := ((T.2.2.2.2.1 _ _ _ _ _ hv z9 hwr).2.2 hif).2.1
                rw [k1] at this
                cases this
            have := es_callS (Q := Q) (sz := sz) (H0 := H0) (aS := aS) (ls := ls) X hck hdd w1 k1 (w2 hif).1 hlen M (Nat.le_of_ble_eq_true k2) hle hRc hRs hd hk
            rw [← hsp] at this
            exact this
        · exact hXS x z a c _ _ xx h0 rfl hv z9 k1 hlen hsp (Nat.le_of_ble_eq_true k2) hk.1 hc hk.2
  case invokevirtual x =>
    obtain rfl : n = 3 := ew_beq hst
    cases hv : et_md (et_cls y) x with
    | none => dsimp only [ew_st] at g; rw [hv] at g; exact g.elim
    | some q =>
      obtain ⟨z, a, c⟩ := q
      dsimp only [ew_st] at g
      rw [hv] at g
      dsimp only at g
      cases hdr : st.drop a with
      | nil => rw [hdr] at g; exact g.elim
      | cons u rest =>
        rw [hdr] at g
        rcases u with u | ⟨k, j⟩
        · exact g.elim
        obtain ⟨h5, g5⟩ := ed_if g
        simp only [Bool.and_eq_true, Bool.not_eq_true'] at h5
        obtain ⟨⟨k1, k2⟩, k3, k4⟩ := h5
        have k1 := ew_beq k1
        have k3 := ew_beq k3
        obtain ⟨hsp, hlen⟩ := ed_split hdr
        obtain ⟨r0, h0, hc, hk⟩ := ew_Call_get g5
        obtain ⟨d', hdd⟩ := hsucc hc
        have hwr : et_wr z = false := by
          cases hwr : et_wr z with
          | false => rfl
          | true => have := ((hlast _ _ _ _ _ hv).1 hwr).1; rw [k1] at this; cases this
        rcases r0 with v | xx
        · obtain ⟨M, hle⟩ := hM d' z _ v h0 hdd hwr hc
          have z9 : z < 900 := Nat.lt_of_not_le fun q => by have := (hlast _ _ _ _ _ hv).2.1 q; rw [k1] at this; cases this
          obtain ⟨w1, w2, -⟩ := T.2.2.2.2.1 _ _ _ _ _ hv z9 hwr
          obtain ⟨w3, w4⟩ := w2 k2
          obtain ⟨c17, hcn, hse⟩ := w4 k1
          have hcl : vwCl.length = 17 := rfl
          have hr : vwCl[ew_ct k]? = some (vwCl[ew_ct k]'(by rw [hcl, k3]; exact c17)) := List.getElem?_eq_getElem (by rw [hcl, k3]; exact c17)
          have := es_callV (Q := Q) (sz := sz) (H0 := H0) (aS := aS) (ls := ls) X hck hdd hr (by rw [hcn, (T.2.2.1 _ _ hr).1, k3]) (by rw [k3]; exact c17) w1 k1 hse w3 hlen M (Nat.le_of_ble_eq_true k4) hle hRc hRs hd hk
          rw [← hsp] at this
          exact this
        · exact hXV x z a c k j _ _ xx h0 rfl hv k2 k1 k3 hlen hsp (Nat.le_of_ble_eq_true k4) hk.1 hc hk.2
  case invokespecial x =>
    obtain rfl : n = 3 := ew_beq hst
    cases hv : et_md (et_cls y) x with
    | none => dsimp only [ew_st] at g; rw [hv] at g; exact g.elim
    | some q =>
      obtain ⟨z, a, c⟩ := q
      dsimp only [ew_st] at g
      rw [hv] at g
      dsimp only at g
      cases hdr : st.drop a with
      | nil => rw [hdr] at g; exact g.elim
      | cons u rest =>
        rw [hdr] at g
        rcases u with u | ⟨k, j⟩
        · exact g.elim
        obtain ⟨hsp, hlen⟩ := ed_split hdr
        rcases ed_el g with ⟨h5, g5⟩ | ⟨h5, g5⟩
        · obtain ⟨h6, g6⟩ := ed_if g5
          obtain rfl := ew_beq h5
          obtain ⟨-, -, -, -, u5⟩ := T.2.2.2.2.2.1 (et_cls y) x a c
          obtain ⟨rfl, u6⟩ := u5 hv
          have h1 : st = ew_o k j :: rest := hdr
          rw [h1]
          obtain ⟨o1, o2⟩ := T.2.2.2.2.2.2.2.2.2.1
          exact es_obj X u6 o1 o2 (Nat.le_of_ble_eq_true h6) hd g6
        · obtain ⟨h6, g6⟩ := ed_if g5
          simp only [Bool.and_eq_true] at h6
          obtain ⟨k1, k4⟩ := h6
          have k1 := ew_beq k1
          obtain ⟨r0, h0, hc, hk⟩ := ew_Call_get g6
          obtain ⟨d', hdd⟩ := hsucc hc
          have hwr : et_wr z = false := by
            cases hwr : et_wr z with
            | false => rfl
            | true => have := ((hlast _ _ _ _ _ hv).1 hwr).1; rw [k1] at this; cases this
          rcases r0 with v | xx
          · obtain ⟨M, hle⟩ := hM d' z _ v h0 hdd hwr hc
            have z9 : z < 900 := Nat.lt_of_not_le fun q => by have := (hlast _ _ _ _ _ hv).2.1 q; rw [k1] at this; cases this
            obtain ⟨w1, w2, w3⟩ := T.2.2.2.2.1 _ _ _ _ _ hv z9 hwr
            have hif : et_if (et_cls y) x = false := by
              cases hif : et_if (et_cls y) x with
              | false => rfl
              | true =>
                have := (w3 hif).2.1
                rw [k1] at this
                cases this
            have := es_callI (Q := Q) (sz := sz) (H0 := H0) (aS := aS) (ls := ls) X hck hdd w1 k1 (w2 hif).1 hlen M (Nat.le_of_ble_eq_true k4) hle hRc hRs hd hk
            rw [← hsp] at this
            exact this
          · exfalso
            have h1 := hk.1
            unfold ew_th at h1
            rw [k1, show Nat.beq 2 2 = true from rfl, Bool.not_true, Bool.and_false] at h1
            cases h1
  case invokeinterface x cnt =>
    obtain rfl : n = 5 := ew_beq hst
    cases hv : et_md (et_cls y) x with
    | none => dsimp only [ew_st] at g; rw [hv] at g; exact g.elim
    | some q =>
      obtain ⟨z, a, c⟩ := q
      dsimp only [ew_st] at g
      rw [hv] at g
      dsimp only at g
      cases hdr : st.drop a with
      | nil => rw [hdr] at g; exact g.elim
      | cons u rest =>
        rw [hdr] at g
        rcases u with u | ⟨k, j⟩
        · exact g.elim
        obtain ⟨hsp, hlen⟩ := ed_split hdr
        obtain ⟨h5, g5⟩ := ed_if g
        simp only [Bool.and_eq_true] at h5
        obtain ⟨k1, k2, k4⟩ := h5
        have k2 := ew_beq k2
        obtain ⟨r0, h0, hc, hk⟩ := ew_Call_get g5
        obtain ⟨d', hdd⟩ := hsucc hc
        have z9 : z < 900 ∧ et_wr z = false ∧ 185 ≤ z := (hlast _ _ _ _ _ hv).2.2 k1
        obtain ⟨z9, hwr, z185⟩ := z9
        obtain ⟨w1, -, w3⟩ := T.2.2.2.2.1 _ _ _ _ _ hv z9 hwr
        obtain ⟨c17, kd1, xn, x1, x2, x3, x4, x5, x6⟩ := w3 k1
        rcases r0 with v | xx
        · obtain ⟨M, hle⟩ := hM d' z _ v h0 hdd hwr hc
          have hcl : vwCl.length = 17 := rfl
          have hr : vwCl[ew_ct k]? = some (vwCl[ew_ct k]'(by rw [hcl, k2]; exact c17)) := List.getElem?_eq_getElem (by rw [hcl, k2]; exact c17)
          have hrn := (T.2.2.1 _ _ hr).1
          have := es_callF (Q := Q) (sz := sz) (H0 := H0) (aS := aS) (ls := ls) (xn := xn) X hck hdd hr (by rw [k2]; exact c17) w1 kd1 x1 (by rw [hrn, k2]; exact x2) (fun U hU => by rw [hrn, k2]; exact x3 U hU) ⟨x4, x5, x6⟩ hlen M (Nat.le_of_ble_eq_true k4) hle hRc hRs hd hk
          rw [← hsp] at this
          exact this
        · exfalso
          have h1 := hk.1
          unfold ew_th at h1
          rw [Bool.and_eq_true] at h1
          have := Nat.le_of_ble_eq_true h1.2
          omega
end FA
end
section
/-! Objects stay: what is there remains there, and the room taken grows. -/
section GA
theorem ew_put_le (h : ew_H) (k i s : Nat) (v : ew_V) : ew_le h (ew_put h k i s v) := ⟨fun _ _ e => e, Nat.le_refl _, Nat.le_refl _⟩
theorem ew_cpy_le (h : ew_H) (k i s n : Nat) (f : Nat → ew_V) : ew_le h (ew_cpy h k i s n f) := ⟨fun _ _ e => e, Nat.le_refl _, Nat.le_refl _⟩
theorem ew_pay_le (h : ew_H) (c s : Nat) : ew_le h (ew_pay h c s) := ⟨fun _ _ e => e, Nat.le_add_right _ _, Nat.le_add_right _ _⟩
abbrev ew_U2 (h : ew_H) (n : ew_N) : Prop := match n with
  | none => True
  | some (.inl c') => ew_le h c'.2.2.2
  | some (.inr (.inl (_, a, b))) => ew_le h a.2.2.2 ∧ ew_le h b.2.2.2
  | some (.inr (.inr (.inl (_, a)))) => ew_le h a.2.2.2
  | some (.inr (.inr (.inr (.inl _)))) => True
  | some (.inr (.inr (.inr (.inr (.inl (_, _, h1)))))) => ew_le h h1
  | some (.inr (.inr (.inr (.inr (.inr (_, _, l', dd)))))) => (∀ c ∈ l', ew_le h c.2.2.2) ∧ ew_le h dd.2.2.2
theorem el_if {h : ew_H} {b : Bool} {x : ew_N} (g : ew_U2 h x) : ew_U2 h (bif b then x else none) := by
  cases b
  · exact trivial
  · exact g
theorem el_fi {h : ew_H} {b : Bool} {x : ew_N} (g : ew_U2 h x) : ew_U2 h (bif b then none else x) := by
  cases b
  · exact g
  · exact trivial
theorem el_el {h : ew_H} {b : Bool} {x y : ew_N} (g : ew_U2 h x) (g' : ew_U2 h y) : ew_U2 h (bif b then x else y) := by
  cases b
  · exact g'
  · exact g
variable {ls : List (Option ew_V)} {st : List ew_V} {h : ew_H} {nx : Nat}
theorem el_ld (t k : Nat) : ew_U2 h (ew_ld t ls st h nx k) := by
  unfold ew_ld
  split
  · exact el_if (ew_le.rf h)
  · trivial
theorem el_sto (t k : Nat) : ew_U2 h (ew_sto t ls st h nx k) := by
  unfold ew_sto
  split
  · exact el_if (el_el (el_if (ew_le.rf h)) (el_if (ew_le.rf h)))
  · trivial
theorem el_bin (f : Int32 → Int32 → Int32) : ew_U2 h (ew_bin f ls st h nx) := by
  unfold ew_bin
  split
  · exact ew_le.rf h
  · trivial
theorem el_binl (f : Int64 → Int64 → Int64) : ew_U2 h (ew_binl f ls st h nx) := by
  unfold ew_binl
  split
  · exact ew_le.rf h
  · trivial
theorem el_ald (t : Nat) : ew_U2 h (ew_ald t ls st h nx) := by
  unfold ew_ald
  split
  · exact el_if (ew_le.rf h)
  · trivial
theorem el_ast (t : Nat) : ew_U2 h (ew_ast t ls st h nx) := by
  unfold ew_ast
  split
  · exact el_if (ew_put_le _ _ _ _ _)
  · trivial
theorem el_newa (k : Nat) (z : ew_V) : ew_U2 h (ew_newa k z ls st h nx) := by
  unfold ew_newa
  split
  · exact ew_mk_le _ _ _ _ _
  · trivial
theorem ew_st_le (y cl : Nat) (i : Instr) (pc tg : Nat) (cv : Int32) : ew_U2 h (ew_st y cl i pc nx tg cv ls st h) := by
  cases i <;> try exact trivial
  case newarray at' => cases at' <;> first | exact trivial | exact el_if (el_newa _ _)
  case if_acmp o q =>
    cases o
    · dsimp only [ew_st]
      split
      · exact el_el (ew_le.rf h) (el_fi (ew_le.rf h))
      · trivial
    · trivial
  all_goals first | exact ew_le.rf h | exact el_ld _ _ | exact el_sto _ _ | exact el_bin _ | exact el_binl _ | exact el_ald _ | exact el_ast _ | exact el_if (ew_le.rf h) | skip
  all_goals dsimp only [ew_st]
  case new =>
    split
    · exact el_el (el_if (ew_mk_le _ _ _ _ _)) (el_if (ew_pay_le _ _ _))
    · trivial
  case anewarray =>
    split
    · exact el_if (el_newa _ _)
    · trivial
  case invokestatic =>
    split
    · refine el_el (el_el (el_if (el_bin _)) (el_el (el_if (el_bin _)) (el_if ?_))) (el_if trivial)
      split
      · exact el_if (ew_le.rf h)
      · trivial
    · trivial
  case tableswitch =>
    split
    · refine ⟨fun c hc => ?_, ew_le.rf h⟩
      obtain ⟨o, -, rfl⟩ := List.mem_map.mp hc
      exact ew_le.rf h
    · trivial
  case invokespecial =>
    split
    · split
      · exact el_el (el_if (ew_le.rf h)) (el_if trivial)
      · trivial
    · trivial
  all_goals (repeat' (first | exact trivial | exact ew_le.rf h | exact ⟨ew_le.rf h, ew_le.rf h⟩ | exact el_if (ew_le.rf h) | exact el_if (ew_put_le _ _ _ _ _) | exact el_if trivial | split))
theorem ew_sw_le {h h' : ew_H} (x : Int32) (dd : ew_C) : ∀ (l : List ew_C) (v : Int32), (∀ c ∈ l, ew_le h c.2.2.2) → ew_le h dd.2.2.2 → ew_sw (fun c => ew_le c.2.2.2 h') x v l dd → ew_le h h'
  | [], _, _, h2, g => h2.tr g
  | c :: l, v, h1, h2, g => by
    by_cases e : x = v
    · exact (h1 c List.mem_cons_self).tr (g.1 e)
    · exact ew_sw_le x dd l (v + 1) (fun c hc => h1 c (List.mem_cons_of_mem _ hc)) h2 (g.2 e)
theorem ew_Call_le : ∀ (d z : Nat) (as : List ew_V) (h h' : ew_H) (r : ew_R), ew_Call d z as h (fun r1 h1 => r1 = r ∧ h1 = h') → ew_le h h'
  | 0, _, _, _, _, _, g => g.elim
  | d + 1, z, as, h, h', r, g => by
    rcases g with ⟨r0, h0, w, rfl, rfl⟩ | g
    · refine w (fun c => ew_le c.2.2.2 h0) (fun c gg => ?_)
      unfold ew_G at gg
      cases h1 : ew_pg z c.1 with
      | none => simp only [h1] at gg
      | some q =>
        obtain ⟨i, nx, tg, cv⟩ := q
        simp only [h1] at gg
        have hs := ew_st_le (h := c.2.2.2) (ls := c.2.1) (st := c.2.2.1) (nx := nx) z (et_cls z) i c.1 tg cv
        cases h2 : ew_st z (et_cls z) i c.1 nx tg cv c.2.1 c.2.2.1 c.2.2.2 with
        | none => simp only [h2] at gg
        | some n =>
          simp only [h2] at gg
          rw [h2] at hs
          rcases n with c' | ⟨p, a, b⟩ | ⟨p, a⟩ | ⟨z', as', rest, nx'⟩ | ⟨p, r1, h1'⟩ | ⟨x, v, l, dd⟩
          · exact hs.tr gg
          · by_cases e : p
            · exact hs.1.tr (gg.1 e)
            · exact hs.2.tr (gg.2 e)
          · exact hs.tr gg.2
          · obtain ⟨r2, h2', g1, g2⟩ := ew_Call_get gg
            refine (ew_Call_le d _ _ _ _ _ g1).tr ?_
            rcases r2 with v2 | x2
            · exact g2
            · obtain ⟨-, g2⟩ := g2
              cases h3 : ew_hd z c.1 x2 with
              | none => simp only [h3] at g2; rw [g2.2]; exact ew_le.rf _
              | some t => simp only [h3] at g2; exact g2
          · rw [← gg.2.2]; exact hs
          · exact ew_sw_le x dd l v hs.1 hs.2 gg
    · exact g.elim
end GA
end
section
/-! Ends: returns, throws. -/
def ew_xn (x : Nat) : String := match x with
  | 0 => "java/lang/IndexOutOfBoundsException"
  | 1 => "java/lang/IllegalArgumentException"
  | _ => "java/lang/IllegalStateException"
def ew_xs : List String := ["java/lang/RuntimeException", "java/lang/Exception"]
def ew_XC (G : va_G) (TY : Nat → ClassId) (sz : Nat) (H0 : Heap) (h : ew_H) (a : Nat → Nat → Nat) (x : Nat) (h' : ew_H) : String → State → State → Prop := fun E _ t => E = ew_xn x ∧ ∃ a', ew_ex h a a' ∧ ew_I G TY sz H0 a' h' t.heap
/-- method z throws x, with the objects h' then -/
def ew_Mx (l : Launch) (G : va_G) (TY : Nat → ClassId) (sz : Nat) (H0 : Heap) (CK : Nat → Nat → Option Nat) (Wd : State → Prop) (d z : Nat) (as : List ew_V) (h : ew_H) (x : Nat) (h' : ew_H) : Prop :=
  ∀ a, vx_Met l (ew_nm z) (ew_cw z :: ew_TW) (ew_rm d h h') (ew_Pc G TY sz H0 CK Wd as h a) (fun _ _ _ _ => False) (ew_XC G TY sz H0 h a x h') (h'.2.2.2.2.1 - h.2.2.2.2.1) (h'.2.2.2.2.2 - h.2.2.2.2.2) (fun q => sz ≤ q)
/-- what is told of a place where method y throws x: 'new' at pc, by the class's entry ik -/
def ew_XP (Wd : State → Prop) (y pc ik x : Nat) : Prop := ∃ (ic is sa : Nat) (text : String), Bundle.fit (ew_xn x) = true ∧ (∀ n ∈ ew_xs, Bundle.fit n = true) ∧ Cond.classLink (ew_on (et_cls y)) ik (ew_xn x) ∈ ew_TW ∧ Cond.initialized (ew_xn x) ∈ ew_TW ∧
  (∀ w ∈ vx_atS (ew_on (et_cls y)) ic (ew_xn x) ew_xs, w ∈ ew_TW ∨ (vx_ot w = true ∧ ∀ (U : State) (A : Array Value), Wd U → w.before A U = true)) ∧ (∀ U, Wd U → vk_R (ew_on (et_cls y)) is text sa U) ∧
  decode (ew_cd y) pc = .ok (.new ik, 3) ∧ decode (ew_cd y) (pc + 3) = .ok (.dup, 1) ∧
  ((decode (ew_cd y) (pc + 4) = .ok (.ldc is, 2) ∧ decode (ew_cd y) (pc + 6) = .ok (.invokespecial ic, 3) ∧ decode (ew_cd y) (pc + 9) = .ok (.athrow, 1)) ∨
   (decode (ew_cd y) (pc + 4) = .ok (.ldc_w is, 3) ∧ decode (ew_cd y) (pc + 7) = .ok (.invokespecial ic, 3) ∧ decode (ew_cd y) (pc + 10) = .ok (.athrow, 1)))
/-- the machine's own statics, and those of two arrays -/
def ew_ZP (CK : Nat → Nat → Option Nat) (Wd : State → Prop) (sz : Nat) (H0 : Heap) : Prop := H0.size = sz ∧ ∀ U, Wd U → vx_Zq Bundle.tN "UNASSIGNED_STACK" Bundle.steD (fun q => sz ≤ q) U H0 ∧ vx_Zq Bundle.tN "SUPPRESSED_SENTINEL" Bundle.listD (fun q => sz ≤ q) U H0
section GB
variable {p : Program} {l : Launch} {e : Env} {R : Room} {s : State} {m : MethodId} {args : Array Value} {below : List Frame} {meth : Method} {c0 : Code} {Q : State → Prop}
variable {G : va_G} {TY : Nat → ClassId} {sz : Nat} {H0 : Heap} {NW : List Cond} {Wd : State → Prop} {CK : Nat → Nat → Option Nat} {d y : Nat} {hS hE : ew_H} {aS : Nat → Nat → Nat}
variable {pc nx tg : Nat} {cv : Int32} {ls : List (Option ew_V)} {st : List ew_V} {h : ew_H} {i : Instr} {n : Nat} {r : ew_R}
theorem ew_I.more {a : Nat → Nat → Nat} {H H1 : Heap} (I : ew_I G TY sz H0 a h H) (hz : H.size ≤ H1.size) (hq : ∀ q : Nat, q < H.size → H1[q]? = H[q]?) (c t : Nat) : ew_I G TY sz H0 a (ew_pay h c t) H1 := by
  obtain ⟨i1, i2, i3, i4, i5, i6⟩ := I
  refine ⟨fun k i e => ?_, i2, fun k i s e => ?_, i4, Nat.le_trans i5 hz, fun q z => by rw [hq q (Nat.lt_of_lt_of_le z i5)]; exact i6 q z⟩
  · obtain ⟨c1, c2, c3, c4⟩ := i1 k i e
    exact ⟨ew_cell_kept c1 rfl (fun _ => rfl) rfl (hq _ c2), Nat.lt_of_lt_of_le c2 hz, c3, c4⟩
  · exact (i3 k i s e).le (ew_pay_le h c t)
theorem ew_sized {H : Heap} {locs : List Loc} {cells slots : Nat} {g : JFrame} (k : s.heap.size ≤ H.size → W p l e R s m args below meth c0 H locs cells slots Q g) : W p l e R s m args below meth c0 H locs cells slots Q g := by
  intro T hT X
  have h := (vx_frame X.same).1
  exact k (by rw [← hT]; exact h) T hT X
/-- a return -/
theorem ee_ret (X : ew_Cx p l e R s m args below meth c0 NW G TY Wd d y) (hr : meth.sig.returnType = ew_rt y) (hlocks : meth.locks = false) {v : Option ew_V} {ins : Instr} (hd : decode (ew_cd y) pc = .ok (ins, 1)) (hok : ew_okr y ins)
    (hv : (ins = .ireturn ∧ ∃ x, v = some (ew_i x) ∧ (et_bl y = true → x = 0 ∨ x = 1)) ∨ (ins = .lreturn ∧ ∃ x, v = some (ew_j x)) ∨ (ins = .dreturn ∧ ∃ x, v = some (.inl (.double x))) ∨ (ins = .areturn ∧ ∃ w, v = some w ∧ Nat.beq (ew_tag w) 3 = true) ∨ (ins = .return_ ∧ v = none)) :
    ew_Q p l e R s m args below meth c0 G TY sz H0 (MQ below (ew_Qc G TY sz H0 hS aS v hE) args s (hE.2.2.2.2.1 - hS.2.2.2.2.1) (hE.2.2.2.2.2 - hS.2.2.2.2.2) (fun q => sz ≤ q)) y hS hE aS (pc, ls, v.toList, hE) := by
  obtain ⟨hx, hb, hml, hown, hts, hW, hwd, hfr, hlo, hini⟩ := X
  intro hle
  refine ⟨ew_le.rf _, fun a H locs cells slots L hSt => ?_⟩
  obtain ⟨s1, s2, s3, s4, s5, s6, s7, s8, s9⟩ := hSt
  dsimp only at s1 s2 s6 s8 s9 ⊢
  have e1 : cells = hE.2.2.2.2.1 - hS.2.2.2.2.1 := by omega
  have e2 : slots = hE.2.2.2.2.2 - hS.2.2.2.2.2 := by omega
  subst e1; subst e2
  rcases hv with ⟨rfl, x, rfl, hbl⟩ | ⟨rfl, x, rfl⟩ | ⟨rfl, x, rfl⟩ | ⟨rfl, w, rfl, hw⟩ | ⟨rfl, rfl⟩
  · have hq : ∀ t : State, t.heap = H → s.WarmedH t.vm → ew_Qc G TY sz H0 hS aS (some (ew_i x)) hE args s (.returned (some (.int x))) t := fun t ht _ => ⟨a, s1, rfl, by rw [ht]; exact s2, fun w e => s6 w (by cases e; exact List.mem_cons_self)⟩
    rcases hok with ⟨o1, o2⟩ | ⟨o1, o2⟩
    · exact W.iret hx hb (hr.trans o1) hq s7 hd hlocks
    · exact W.zret hx hb (hr.trans o1) (by rcases hbl o2 with rfl | rfl <;> rfl) hq s7 hd hlocks
  · exact W.lret hx hb (hr.trans hok) (fun t ht _ => ⟨a, s1, rfl, by rw [ht]; exact s2, fun w e => s6 w (by cases e; exact List.mem_cons_self)⟩) s7 hd hlocks
  · exact W.dret hx hb (hr.trans hok) (fun t ht _ => ⟨a, s1, rfl, by rw [ht]; exact s2, fun w e => s6 w (by cases e; exact List.mem_cons_self)⟩) s7 hd hlocks
  · obtain ⟨rt, o1, o2⟩ := hok
    refine W.aret hx hb (hr.trans o1) o2 ?_ (fun t ht _ => ⟨a, s1, rfl, by rw [ht]; exact s2, fun w e => s6 w (by cases e; exact List.mem_cons_self)⟩) s7 hd hlocks
    rcases ew_tag3 hw with rfl | ⟨q, rfl⟩
    · exact Or.inl rfl
    · exact Or.inr ⟨_, rfl⟩
  · exact W.vret hx hb (hr.trans hok) (fun t ht _ => ⟨a, s1, rfl, by rw [ht]; exact s2, fun w e => by cases e⟩) s7 hd hlocks
/-- its own throw -/
theorem ee_throw (X : ew_Cx p l e R s m args below meth c0 NW G TY Wd d y) (hl : l.stackTraces = false) (hlocks : meth.locks = false) (hnt : ∀ x ∈ c0.exceptionTable.toList, False) (hZ : ew_ZP CK Wd sz H0) (hs0 : ∀ q : Nat, q < sz → s.heap[q]? = H0[q]?) {ik x : Nat} (hXP : ew_XP Wd y pc ik x) (hc8 : ew_cats st ≤ 20) (hE1 : ew_pay h 1 6 = hE)
    (hRc : hE.2.2.2.2.1 - hS.2.2.2.2.1 ≤ R.cells) (hRs : hE.2.2.2.2.2 - hS.2.2.2.2.2 ≤ R.slots) {Qc : Array Value → State → Outcome → State → Prop} :
    ew_Q p l e R s m args below meth c0 G TY sz H0 (vx_MQ below Qc (ew_XC G TY sz H0 hS aS x hE) args s (hE.2.2.2.2.1 - hS.2.2.2.2.1) (hE.2.2.2.2.2 - hS.2.2.2.2.2) (fun q => sz ≤ q)) y hS hE aS (pc, ls, st, h) := by
  obtain ⟨hx, hb, hml, hown, hts, hW, hwd, hfr, hlo, hini⟩ := X
  subst hE1
  intro hle
  refine ⟨ew_pay_le _ _ _, fun a H locs cells slots L hSt => ?_⟩
  obtain ⟨s1, s2, s3, s4, s5, s6, s7, s8, s9⟩ := hSt
  dsimp only at s1 s2 s6 s8 s9 ⊢
  refine ew_sized (fun hsz => ?_)
  obtain ⟨hZs, hZ2⟩ := hZ
  obtain ⟨z1, z2⟩ := hZ2 s hwd
  have k0 : ∀ a : Nat, a < H0.size → ¬ sz ≤ a → s.heap[a]? = H0[a]? := fun a h1 h2 => hs0 a (by omega)
  have hSv : va_S (fun q => sz ≤ q) s.heap H locs := ⟨hsz, fun q h1 h2 => by
    have h2' : q < sz := Nat.lt_of_not_le h2
    rw [s2.2.2.2.2.2 q h2', hs0 q h2'], s7⟩
  obtain ⟨ic, is, sa, text, x1, x2, x3, x4, x5, x6, x7, x8, x9⟩ := hXP
  have b1 := hle.2.1
  have b2 := hle.2.2
  have e1 : (ew_pay h 1 6).2.2.2.2.1 = h.2.2.2.2.1 + 1 := rfl
  have e2 : (ew_pay h 1 6).2.2.2.2.2 = h.2.2.2.2.2 + 6 := rfl
  rw [e1] at hRc ⊢
  rw [e2] at hRs ⊢
  dsimp only at b1 b2
  have hat : ∀ w ∈ vx_atS (ew_on (et_cls y)) ic (ew_xn x) ew_xs, w.before args s = true := fun w hw => by
    rcases x5 w hw with q | q
    · exact hts w q
    · exact q.2 s args hwd
  have hot : ∀ w ∈ ew_TW, vx_ot w = true := fun w hw => by
    unfold vx_ot
    rw [(List.mem_filter.mp hw).2, Bool.or_true]
  have hgood : ∀ w ∈ Cond.classLink (ew_on (et_cls y)) ik (ew_xn x) :: Cond.initialized (ew_xn x) :: vx_atS (ew_on (et_cls y)) ic (ew_xn x) ew_xs, vx_ot w = true := fun w hw => by
    rcases List.mem_cons.mp hw with rfl | hw
    · exact hot _ x3
    rcases List.mem_cons.mp hw with rfl | hw
    · exact hot _ x4
    rcases x5 w hw with q | q
    · exact hot w q
    · exact q.1
  have hxx : ∀ t : State, s.vm.Alike t.vm → H.size ≤ t.heap.size → (∀ q : Nat, q < H.size → t.heap[q]? = H[q]?) → ew_XC G TY sz H0 hS aS x (ew_pay h 1 6) (ew_xn x) s t := fun t _ t1 t2 => ⟨rfl, a, s1, s2.more t1 t2 1 6⟩
  have hcs : ((st.map (ew_c a)).map fun v => v.category).sum = ew_cats st := ew_cats_map a st
  rcases x9 with ⟨d4, d6, d9⟩ | ⟨d4, d7, d10⟩
  · exact vx_throwS hx hb hl hown x1 x2 (hts _ x3) (hts _ x4) (x6 s hwd) hat hgood (z1.kept k0) (z2.kept k0) hSv (by rw [hml]; exact s3.1) x7 x8 d4 d6 d9 (fun z hz => (hnt z hz).elim) (show 2 + 3 < R.frames by omega) (by rw [hcs]; show ew_cats st + (13 * 3 + 43) ≤ R.locals; omega) (by omega) (by omega) hlocks hxx s7 (by omega) (by omega)
  · exact vx_throwSW hx hb hl hown x1 x2 (hts _ x3) (hts _ x4) (x6 s hwd) hat hgood (z1.kept k0) (z2.kept k0) hSv (by rw [hml]; exact s3.1) x7 x8 d4 d7 d10 (fun z hz => (hnt z hz).elim) (show 2 + 3 < R.frames by omega) (by rw [hcs]; show ew_cats st + (13 * 3 + 43) ≤ R.locals; omega) (by omega) (by omega) hlocks hxx s7 (by omega) (by omega)
end GB
end
section
/-! Calls that throw: further to the caller, or caught. -/
def ew_HP (Wd : State → Prop) (hh : List (Nat × Nat × Nat × Nat)) (y pc x t slot : Nat) : Prop := ∃ (pre : List ExceptionTableEntry) (z : ExceptionTableEntry) (suf : List ExceptionTableEntry), tableOf hh = pre ++ z :: suf ∧
  (∀ w ∈ pre, covers w pc = false ∨ (w.catchType ≠ 0 ∧ ∃ nm : String, Cond.classLink (ew_on (et_cls y)) w.catchType nm ∈ ew_TW ∧ ∀ U, Wd U → va_Nc (ew_xn x) nm U)) ∧ covers z pc = true ∧ z.catchType ≠ 0 ∧ Cond.classLink (ew_on (et_cls y)) z.catchType (ew_xn x) ∈ ew_TW ∧
  (∀ (U : State) (A : Array Value), Wd U → (Cond.castable (ew_xn x) (ew_xn x)).before A U = true) ∧ slot < et_mx y ∧ ∃ (ins : Instr) (w : Nat), decode (ew_cd y) z.handlerPc = .ok (ins, w) ∧ t = z.handlerPc + w ∧ ((ins = .astore slot ∧ w = 2) ∨ ∃ k : Fin 4, ins = .astore_n k ∧ (k : Nat) = slot ∧ w = 1)
section GC
variable {p : Program} {l : Launch} {e : Env} {R : Room} {s : State} {m : MethodId} {args : Array Value} {below : List Frame} {meth : Method} {c0 : Code} {Q : State → Prop}
variable {G : va_G} {TY : Nat → ClassId} {sz : Nat} {H0 : Heap} {NW : List Cond} {Wd : State → Prop} {CK : Nat → Nat → Option Nat} {d y : Nat} {hS hE : ew_H} {aS a : Nat → Nat → Nat} {H : Heap} {locs : List Loc} {cells slots : Nat} {L : Array Slot}
variable {pc nx tg : Nat} {cv : Int32} {ls : List (Option ew_V)} {st : List ew_V} {h : ew_H} {i : Instr} {n : Nat} {r : ew_R}
theorem ex_runV (X : ew_Cx p l e R s m args below meth c0 NW G TY Wd d y) (hck : ew_ck CK hS aS) {d' x z n k i : Nat} {r : vw_C} (hdd : d = d' + 1) (hr : vwCl[ew_ct k]? = some r) (hrc : (ew_nm z).cls = r.1) (h17 : ew_ct k < 17) (hY : ew_YP z) (hkd : et_kd z = 1) (y8 : Cond.selects (ew_nm z).cls (ew_nm z) (ew_nm z) ∈ ew_TW) (hlk : Cond.methodLink (ew_on (et_cls y)) x (ew_nm z) ∈ ew_TW) (hLP : ew_LP NW (ew_on (et_cls y)) x z n) {as rest : List ew_V} (hn : as.length = n) {xx : Nat} {h' : ew_H} (hM : ew_Mx l G TY sz H0 CK Wd d' z (ew_o k i :: as) h xx h') (hc8 : ew_cats rest ≤ 8)
    (hle0 : ew_le hS h) (hle : ew_le h h') (hle1 : ew_le h' hE) (hRc : hE.2.2.2.2.1 - hS.2.2.2.2.1 ≤ R.cells) (hRs : hE.2.2.2.2.2 - hS.2.2.2.2.2 ≤ R.slots) (hd : decode (ew_cd y) pc = .ok (.invokevirtual x, 3)) (hSt : ew_St G TY sz H0 y hS aS a (pc, ls, as.reverse ++ ew_o k i :: rest, h) H locs cells slots L) :
    vx_Run p l e R s m args below meth c0 H locs cells slots (h'.2.2.2.2.1 - h.2.2.2.2.1) (h'.2.2.2.2.2 - h.2.2.2.2.2) (F0 m pc L ((as.reverse ++ ew_o k i :: rest).map (ew_c a))) (rest.map (ew_c a)) (fun _ _ _ => False) (ew_XC G TY sz H0 h a xx h') (fun q => sz ≤ q) := by
  obtain ⟨hx, hb, hml, hown, hts, hW, hwd, hf, hlo, -⟩ := X
  obtain ⟨hK, -, -, -⟩ := hW.2.2 s hwd
  obtain ⟨y1, y2, y3, y4, -, y6, -⟩ := hY
  have y7 := y6 hkd
  obtain ⟨s1, s2, s3, s4, s5, s6, s7, s8, s9⟩ := id hSt
  have s2 : ew_I G TY sz H0 a h H := s2
  have b1 := hle1.2.1
  have b2 := hle1.2.2
  have b3 := hle.2.1
  have b4 := hle.2.2
  have b5 := hle0.2.1
  have b6 := hle0.2.2
  dsimp only at s6 s8 s9
  have haw : ∀ v ∈ as, ew_wf h v := fun v q => s6 v (List.mem_append_left _ (List.mem_reverse.mpr q))
  have hl := ew_live (s6 (ew_o k i) (List.mem_append_right _ List.mem_cons_self)) (ew_ne31 rfl (show ew_ct k < 31 by omega))
  obtain ⟨r', cell, hr', q1, q2, q3, -⟩ := er_rdO s2 hl h17
  cases hr.symm.trans hr'
  have hcl2 := (hK.1 _ _ hr).2
  have hst : (as.reverse ++ ew_o k i :: rest).map (ew_c a) = (as.map (ew_c a)).reverse ++ .ref (a k i) :: rest.map (ew_c a) := by
    rw [List.map_append, List.map_reverse]; rfl
  have hpre : PreV s H r.1 (a k i) (ew_Pc G TY sz H0 CK Wd (ew_o k i :: as) h a) (as.map (ew_c a)) := ⟨ew_blind hW, ⟨cell, q1, q3.2, by rw [q2]; exact hcl2.1⟩, fun U hU hw => ⟨rfl, by rw [hU]; exact s2, hW.2.1 s U hw hwd, es_cons (Or.inr hl) haw, hck.to s1 hle0⟩⟩
  refine vx_runV (C := r.1) (As := as.map (ew_c a)) (Ts := ew_TW) (own := ew_on (et_cls y)) (index := x) ⟨hx, hb, hml, hown, hts⟩ (hM a) (cwV n hts (ew_good (fun w hw => ?_)) rfl rfl rfl ⟨hrc, y3.1, y3.2, hLP.2⟩ ⟨show 6 + d' + 1 ≤ R.frames by omega, show 8 + (et_mx z + 11) + (150 + 40 * d') ≤ R.locals by omega⟩) hpre rfl (by rw [List.length_map]; exact hn) s3.1 hst (by rw [ew_cats_map]; show 2 * 0 + _ ≤ 8; omega) hd ⟨by omega, by omega⟩
  rcases List.mem_append.mp hw with q | q
  · simp only [List.mem_cons, List.not_mem_nil, or_false] at q
    rcases q with rfl | rfl | rfl | rfl
    · exact hlk
    · exact y7
    · rw [← hrc]; exact y8
    · rw [← hrc]; exact y2
  · rcases List.mem_cons.mp q with rfl | q
    · exact y1
    · exact q
theorem ex_runS (X : ew_Cx p l e R s m args below meth c0 NW G TY Wd d y) (hck : ew_ck CK hS aS) {d' x z n : Nat} (hdd : d = d' + 1) (hY : ew_YP z) (hkd : et_kd z = 0) (hlk : Cond.methodLink (ew_on (et_cls y)) x (ew_nm z) ∈ ew_TW) (hLP : ew_LP NW (ew_on (et_cls y)) x z n) {as rest : List ew_V} (hn : as.length = n) {xx : Nat} {h' : ew_H} (hM : ew_Mx l G TY sz H0 CK Wd d' z as h xx h') (hc8 : ew_cats rest ≤ 8)
    (hle0 : ew_le hS h) (hle : ew_le h h') (hle1 : ew_le h' hE) (hRc : hE.2.2.2.2.1 - hS.2.2.2.2.1 ≤ R.cells) (hRs : hE.2.2.2.2.2 - hS.2.2.2.2.2 ≤ R.slots) (hd : decode (ew_cd y) pc = .ok (.invokestatic x, 3)) (hSt : ew_St G TY sz H0 y hS aS a (pc, ls, as.reverse ++ rest, h) H locs cells slots L) :
    vx_Run p l e R s m args below meth c0 H locs cells slots (h'.2.2.2.2.1 - h.2.2.2.2.1) (h'.2.2.2.2.2 - h.2.2.2.2.2) (F0 m pc L ((as.reverse ++ rest).map (ew_c a))) (rest.map (ew_c a)) (fun _ _ _ => False) (ew_XC G TY sz H0 h a xx h') (fun q => sz ≤ q) := by
  obtain ⟨hx, hb, hml, hown, hts, hW, hwd, hf, hlo, -⟩ := X
  obtain ⟨y1, y2, y3, y4, y5, -, -⟩ := hY
  have y5 := y5 hkd
  obtain ⟨s1, s2, s3, s4, s5, s6, s7, s8, s9⟩ := id hSt
  have s2 : ew_I G TY sz H0 a h H := s2
  have b1 := hle1.2.1
  have b2 := hle1.2.2
  have b3 := hle.2.1
  have b4 := hle.2.2
  have b5 := hle0.2.1
  have b6 := hle0.2.2
  dsimp only at s6 s8 s9
  have haw : ∀ v ∈ as, ew_wf h v := fun v q => s6 v (List.mem_append_left _ (List.mem_reverse.mpr q))
  have hst : (as.reverse ++ rest).map (ew_c a) = (as.map (ew_c a)).reverse ++ rest.map (ew_c a) := by
    rw [List.map_append, List.map_reverse]
  have hpre : PreS s H (ew_Pc G TY sz H0 CK Wd as h a) (as.map (ew_c a)) := ⟨ew_blind hW, fun U hU hw => ⟨rfl, by rw [hU]; exact s2, hW.2.1 s U hw hwd, haw, hck.to s1 hle0⟩⟩
  have hG : GoodIn ew_TW (ew_cw z :: ew_TW) := ew_good (fun w hw => by
    rcases List.mem_cons.mp hw with rfl | q
    · exact y1
    · exact q)
  exact vx_runS (As := as.map (ew_c a)) (Ts := ew_TW) (own := ew_on (et_cls y)) (index := x) ⟨hx, hb, hml, hown, hts⟩ (hM a) ⟨callB_of n hts hG rfl rfl rfl (hts _ y2) (hts _ hlk) ⟨y3.1, y3.2, hLP.2⟩ ⟨show 6 + d' + 1 ≤ R.frames by omega, show 8 + (et_mx z + 11) + (150 + 40 * d') ≤ R.locals by omega⟩, hts _ y5⟩ hpre rfl (by rw [List.length_map]; exact hn) s3.1 hst (by rw [ew_cats_map]; show 2 * 0 + _ ≤ 8; omega) hd ⟨by omega, by omega⟩
/-- not caught -/
theorem ex_out (hlocks : meth.locks = false) (hnt : ∀ x ∈ c0.exceptionTable.toList, False) {xx : Nat} {rest : List Value} {g0 : List Value} (hle0 : ew_le hS h) (hle : ew_le h hE) {Qc : Array Value → State → Outcome → State → Prop} (hSt : ew_St G TY sz H0 y hS aS a (pc, ls, st, h) H locs cells slots L)
    (hr : vx_Run p l e R s m args below meth c0 H locs cells slots (hE.2.2.2.2.1 - h.2.2.2.2.1) (hE.2.2.2.2.2 - h.2.2.2.2.2) (F0 m pc L g0) rest (fun _ _ _ => False) (ew_XC G TY sz H0 h a xx hE) (fun q => sz ≤ q)) :
    W p l e R s m args below meth c0 H locs cells slots (vx_MQ below Qc (ew_XC G TY sz H0 hS aS xx hE) args s (hE.2.2.2.2.1 - hS.2.2.2.2.1) (hE.2.2.2.2.2 - hS.2.2.2.2.2) (fun q => sz ≤ q)) (F0 m pc L g0) := by
  obtain ⟨s1, s2, s3, s4, s5, s6, s7, s8, s9⟩ := hSt
  have b3 := hle.2.1
  have b4 := hle.2.2
  have b5 := hle0.2.1
  have b6 := hle0.2.2
  dsimp only at s8 s9
  intro T hT XX
  rcases hr T hT XX with ⟨v, st₀, t, T', L', h0, X', hL, e1, e2, hF, stp⟩ | ⟨q, st₀, t, T', L', E, ce, h0, X', hL, e1, e2, ⟨rfl, a', hex, hI⟩, hce, hcv, hcl, stp⟩
  · exact hF.elim
  · have key : vx_W p l e R s m args below meth c0 T'.heap (locs ++ L') (cells + (hE.2.2.2.2.1 - h.2.2.2.2.1)) (slots + (hE.2.2.2.2.2 - h.2.2.2.2.2)) (vx_MQ below Qc (ew_XC G TY sz H0 hS aS xx hE) args s (hE.2.2.2.2.1 - hS.2.2.2.2.1) (hE.2.2.2.2.2 - hS.2.2.2.2.2) (fun q => sz ≤ q)) (F0 m pc L rest) q := by
      refine vx_out (ce := ce) (fun z hz => (hnt z hz).elim) hlocks (by rw [e1]; exact hce) hcv hcl (fun t2 ht2 _ => ⟨rfl, a', s1.tr hle0 hex, by rw [ht2, e1]; exact hI⟩) (fun z hz => ?_) (by omega) (by omega)
      rcases List.mem_append.mp hz with hz | hz
      · exact s7 z hz
      · exact hL z hz
    obtain ⟨t2, a1, b1⟩ := key T' rfl X'
    exact ⟨t2, stp.trans a1, b1⟩
theorem ew_un_has {a : Nat → Nat → Nat} {ls : List (Option ew_V)} {L : Array Slot} {nL i : Nat} {v : Value}
    (h : lv_has L nL ((i, v) :: (ew_lp a 0 ls).filter (fun q => !(q.1 == i) && !(q.1 + 1 == i && q.2.category == 2)))) : lv_has L nL (ew_lp a 0 (ew_un ls i)) := by
  refine ⟨h.1, h.2.1, fun q hq => h.2.2 q ?_⟩
  obtain ⟨j, w, e1, rfl⟩ := (ew_lp_mem _ 0 q).mp hq
  unfold ew_un at e1
  by_cases e : i = j
  · subst e
    rw [List.getElem?_set] at e1
    split at e1
    · split at e1 <;> cases e1
    · rename_i hne
      exact absurd rfl hne
  · rw [List.getElem?_set_ne e] at e1
    obtain ⟨e2, e3⟩ := ew_clr_mem (a := a) e1
    refine List.mem_cons_of_mem _ (List.mem_filter.mpr ⟨(ew_lp_mem _ 0 _).mpr ⟨j, w, e2, rfl⟩, ?_⟩)
    simp only [Nat.zero_add, ew_c_cat, Bool.and_eq_true, Bool.not_eq_true', beq_eq_false_iff_ne, ne_eq, Bool.and_eq_false_iff]
    refine ⟨fun q => e q.symm, ?_⟩
    by_cases e4 : j + 1 = i
    · exact Or.inr (fun q => e3 ⟨e4, q⟩)
    · exact Or.inl e4
theorem ew_un_wf {ls : List (Option ew_V)} {n : Nat} {v : ew_V} (hv : some v ∈ ew_un ls n) : some v ∈ ls := by
  rcases List.mem_or_eq_of_mem_set hv with q | q
  · exact es_clr q
  · cases q
/-- caught -/
theorem ex_caught (X : ew_Cx p l e R s m args below meth c0 NW G TY Wd d y) {hh : List (Nat × Nat × Nat × Nat)} (htab : c0.exceptionTable.toList = tableOf hh) {xx t slot : Nat} (hHP : ew_HP Wd hh y pc xx t slot) {rest : List Value} {g0 : List Value} {h' : ew_H} (hle0 : ew_le hS h) (hle : ew_le h h') (hSt : ew_St G TY sz H0 y hS aS a (pc, ls, st, h) H locs cells slots L)
    (hr : vx_Run p l e R s m args below meth c0 H locs cells slots (h'.2.2.2.2.1 - h.2.2.2.2.1) (h'.2.2.2.2.2 - h.2.2.2.2.2) (F0 m pc L g0) rest (fun _ _ _ => False) (ew_XC G TY sz H0 h a xx h') (fun q => sz ≤ q))
    (k2 : ∀ a H locs cells slots L, ew_St G TY sz H0 y hS aS a (t, ew_un ls slot, [], h') H locs cells slots L → W p l e R s m args below meth c0 H locs cells slots Q (F0 m t L [])) :
    W p l e R s m args below meth c0 H locs cells slots Q (F0 m pc L g0) := by
  obtain ⟨hx, hb, hml, hown, hts, hW, hwd, hf, hlo, -⟩ := X
  obtain ⟨s1, s2, s3, s4, s5, s6, s7, s8, s9⟩ := hSt
  have b3 := hle.2.1
  have b4 := hle.2.2
  have b5 := hle0.2.1
  have b6 := hle0.2.2
  dsimp only at s3 s4 s5 s8 s9
  obtain ⟨pre, z, suf, hsplit, hpass, hcov, hc0, hlk, hcast, hslot, ins, w, hdec, rfl, hins⟩ := hHP
  intro T hT XX
  rcases hr T hT XX with ⟨v, st₀, t, T', L', h0, X', hL, e1, e2, hF, stp⟩ | ⟨q, st₀, t, T', L', E, ce, h0, X', hL, e1, e2, ⟨rfl, a', hex, hI⟩, hce, hcv, hcl, stp⟩
  · exact hF.elim
  · have hloc : ∀ q ∈ locs ++ L', sz ≤ q.base := fun q hq => by
      rcases List.mem_append.mp hq with hz | hz
      · exact s7 q hz
      · exact hL q hz
    have hlv : lv_has L (et_mx y) (ew_lp a' 0 ls) := ⟨s3.1, s3.2.1, fun q hq => by
      obtain ⟨j, v, e1, rfl⟩ := (ew_lp_mem ls 0 q).mp hq
      rw [hex.c (s5 v (es_mem e1))]
      exact s3.2.2 _ ((ew_lp_mem ls 0 _).mpr ⟨j, v, e1, rfl⟩)⟩
    have fin : ∀ L1 : Array Slot, lv_has L1 (et_mx y) (ew_lp a' 0 (ew_un ls slot)) → W p l e R s m args below meth c0 T'.heap (locs ++ L') (cells + (h'.2.2.2.2.1 - h.2.2.2.2.1)) (slots + (h'.2.2.2.2.2 - h.2.2.2.2.2)) Q (F0 m (z.handlerPc + w) L1 []) := fun L1 hL1 =>
      k2 a' _ _ _ _ L1 ⟨s1.tr hle0 hex, by rw [e1]; exact hI, hL1, by rw [ew_un, List.length_set, ew_clr_len]; exact s4, fun v hv => (s5 v (ew_un_wf hv)).le hle, fun v (hv : v ∈ ([] : List ew_V)) => absurd hv List.not_mem_nil, hloc, (by show cells + (h'.2.2.2.2.1 - h.2.2.2.2.1) + hS.2.2.2.2.1 = h'.2.2.2.2.1; omega), (by show slots + (h'.2.2.2.2.2 - h.2.2.2.2.2) + hS.2.2.2.2.2 = h'.2.2.2.2.2; omega)⟩
    have key : vx_W p l e R s m args below meth c0 T'.heap (locs ++ L') (cells + (h'.2.2.2.2.1 - h.2.2.2.2.1)) (slots + (h'.2.2.2.2.2 - h.2.2.2.2.2)) Q (F0 m pc L rest) q := by
      refine vx_catch (E := ew_xn xx) (name := ew_xn xx) (ce := ce) hown pre z suf (htab.trans hsplit) (fun u hu => ?_) hcov hc0 (hts _ hlk) (hcast s args hwd) (by rw [e1]; exact hce) hcv hcl ?_
      · rcases hpass u hu with g | ⟨g1, nm, g2, g3⟩
        · exact Or.inl g
        · exact Or.inr ⟨g1, nm, hts _ g2, g3 s hwd⟩
      · rcases hins with ⟨rfl, rfl⟩ | ⟨k, rfl, hk, rfl⟩
        · exact lv_astore hx hb hdec hlv hslot rfl (fun L1 hL1 => fin L1 (ew_un_has hL1))
        · exact lv_astore_n hx hb hdec hk hlv hslot rfl (fun L1 hL1 => fin L1 (ew_un_has hL1))
    obtain ⟨t2, a1, b1⟩ := key T' rfl X'
    exact ⟨t2, stp.trans a1, b1⟩
end GC
end
section
/-! One step of a method's body, by what is told of the calls and ends. -/
section GD
variable {p : Program} {l : Launch} {e : Env} {R : Room} {s : State} {m : MethodId} {args : Array Value} {below : List Frame} {meth : Method} {c0 : Code} {Q : State → Prop}
variable {G : va_G} {TY : Nat → ClassId} {sz : Nat} {H0 : Heap} {NW : List Cond} {Wd : State → Prop} {CK : Nat → Nat → Option Nat} {d y : Nat} {hS hE : ew_H} {aS : Nat → Nat → Nat}
variable {pc nx tg : Nat} {cv : Int32} {ls : List (Option ew_V)} {st : List ew_V} {h : ew_H} {i : Instr} {n : Nat} {r : ew_R}
def ew_vi (y : Nat) (ins : Instr) (v : Option ew_V) : Prop := (ins = .ireturn ∧ ∃ x, v = some (ew_i x) ∧ (et_bl y = true → x = 0 ∨ x = 1)) ∨ (ins = .lreturn ∧ ∃ x, v = some (ew_j x)) ∨ (ins = .dreturn ∧ ∃ x, v = some (.inl (.double x))) ∨ (ins = .areturn ∧ ∃ w, v = some w ∧ Nat.beq (ew_tag w) 3 = true) ∨ (ins = .return_ ∧ v = none)
theorem ed_step (X : ew_Cx p l e R s m args below meth c0 NW G TY Wd d y) (hck : ew_ck CK hS aS) (T : ew_Tab NW Wd) (hpg : ew_pg y pc = some (i, nx, tg, cv)) (hRc : hE.2.2.2.2.1 - hS.2.2.2.2.1 ≤ R.cells) (hRs : hE.2.2.2.2.2 - hS.2.2.2.2.2 ≤ R.slots)
    (hret : ∀ v, ew_vi y i v → decode (ew_cd y) pc = .ok (i, 1) → ew_okr y i → st = v.toList → (.inl v : ew_R) = r → h = hE → ew_Q p l e R s m args below meth c0 G TY sz H0 Q y hS hE aS (pc, ls, st, h))
    (hN : ∀ x c, i = .new x → et_nw (et_cls y) x = some c → 100 ≤ c → ew_cats st ≤ 20 → (.inr (c - 100) : ew_R) = r → ew_pay h 1 6 = hE → ew_Q p l e R s m args below meth c0 G TY sz H0 Q y hS hE aS (pc, ls, st, h))
    (hM : ∀ (d' z : Nat) (as : List ew_V) (v : Option ew_V) (h' : ew_H), d = d' + 1 → et_wr z = false → ew_Call d z as h (fun r1 h1 => r1 = .inl v ∧ h1 = h') → ew_Mt l G TY sz H0 CK Wd d' z as h v h' ∧ ew_le h h')
    (hXV : ∀ (x z n c k j : Nat) (as rest : List ew_V) (xx : Nat) (h' : ew_H), i = .invokevirtual x → et_md (et_cls y) x = some (z, n, c) → et_if (et_cls y) x = false → et_kd z = 1 → ew_ct k = c → as.length = n → st = as.reverse ++ ew_o k j :: rest → ew_cats rest ≤ 8 → ew_th z = true → ew_Call d z (ew_o k j :: as) h (fun r1 h1 => r1 = .inr xx ∧ h1 = h') →
      (match ew_hd y pc xx with | some t => ew_Q p l e R s m args below meth c0 G TY sz H0 Q y hS hE aS (t.1, ew_un ls t.2, [], h') | none => (.inr xx : ew_R) = r ∧ h' = hE) → ew_Q p l e R s m args below meth c0 G TY sz H0 Q y hS hE aS (pc, ls, st, h))
    (hXS : ∀ (x z n c : Nat) (as rest : List ew_V) (xx : Nat) (h' : ew_H), i = .invokestatic x → et_md (et_cls y) x = some (z, n, c) → z < 900 → et_kd z = 0 → as.length = n → st = as.reverse ++ rest → ew_cats rest ≤ 8 → ew_th z = true → ew_Call d z as h (fun r1 h1 => r1 = .inr xx ∧ h1 = h') →
      (match ew_hd y pc xx with | some t => ew_Q p l e R s m args below meth c0 G TY sz H0 Q y hS hE aS (t.1, ew_un ls t.2, [], h') | none => (.inr xx : ew_R) = r ∧ h' = hE) → ew_Q p l e R s m args below meth c0 G TY sz H0 Q y hS hE aS (pc, ls, st, h))
    (hWS : ∀ (x z n c : Nat) (as rest : List ew_V) (v : Option ew_V) (h' : ew_H), i = .invokestatic x → et_md (et_cls y) x = some (z, n, c) → et_wr z = true → et_kd z = 0 → as.length = n → st = as.reverse ++ rest → ew_cats rest ≤ 8 → ew_Call d z as h (fun r1 h1 => r1 = .inl v ∧ h1 = h') → ew_Q p l e R s m args below meth c0 G TY sz H0 Q y hS hE aS (pc + 3, ls, v.toList ++ rest, h') → ew_Q p l e R s m args below meth c0 G TY sz H0 Q y hS hE aS (pc, ls, st, h))
    (hGs : ∀ x v, i = .getstatic x → decode (ew_cd y) pc = .ok (.getstatic x, 3) → et_sd (et_cls y) x = some v → ew_Q p l e R s m args below meth c0 G TY sz H0 Q y hS hE aS (pc + 3, ls, v :: st, h) → ew_Q p l e R s m args below meth c0 G TY sz H0 Q y hS hE aS (pc, ls, st, h))
    (g : ew_UQ p l e R s m args below meth c0 G TY sz H0 Q y hS hE aS pc ls h d r (ew_st y (et_cls y) i pc nx tg cv ls st h)) : ew_Q p l e R s m args below meth c0 G TY sz H0 Q y hS hE aS (pc, ls, st, h) := by
  have hokr := (T.2.2.2.2.2.2.2.2.2.2.2.2.2.2.1 _ _ _ hpg).2.1
  obtain ⟨n, hd, hnx, hst, -, -⟩ := ew_okb_spec (T.1 _ _ _ hpg)
  cases i <;> first | exact g.elim | exact ed_plain X T hpg trivial g | exact ed_obj X T hpg hRc hRs trivial g | exact ed_made X T hpg hRc hRs trivial hN g | exact ed_call X hck T hpg hRc hRs trivial hM hXV hXS hWS g | skip
  case ireturn =>
    obtain rfl : n = 1 := ew_beq hst
    rcases st with _ | ⟨a | a, _ | ⟨b, st⟩⟩ <;> first | exact g.elim | skip
    all_goals cases a <;> first | exact g.elim | skip
    obtain ⟨g1, g2, g3⟩ := g
    exact hret (some (ew_i _)) (Or.inl ⟨rfl, _, rfl, fun hb => by rw [hb] at g1; exact g1⟩) hd hokr rfl g2 g3
  case lreturn =>
    obtain rfl : n = 1 := ew_beq hst
    rcases st with _ | ⟨a | a, _ | ⟨b, st⟩⟩ <;> first | exact g.elim | skip
    all_goals cases a <;> first | exact g.elim | skip
    exact hret (some (ew_j _)) (Or.inr (Or.inl ⟨rfl, _, rfl⟩)) hd hokr rfl g.2.1 g.2.2
  case dreturn =>
    obtain rfl : n = 1 := ew_beq hst
    rcases st with _ | ⟨a | a, _ | ⟨b, st⟩⟩ <;> first | exact g.elim | skip
    all_goals cases a <;> first | exact g.elim | skip
    exact hret (some (.inl (.double _))) (Or.inr (Or.inr (Or.inl ⟨rfl, _, rfl⟩))) hd hokr rfl g.2.1 g.2.2
  case areturn =>
    obtain rfl : n = 1 := ew_beq hst
    rcases st with _ | ⟨a, _ | ⟨b, st⟩⟩ <;> first | exact g.elim | skip
    obtain ⟨hh, g⟩ := ed_if g
    exact hret (some a) (Or.inr (Or.inr (Or.inr (Or.inl ⟨rfl, _, rfl, hh⟩)))) hd hokr rfl g.2.1 g.2.2
  case return_ =>
    obtain rfl : n = 1 := ew_beq hst
    rcases st with _ | ⟨a, st⟩ <;> first | exact g.elim | skip
    exact hret none (Or.inr (Or.inr (Or.inr (Or.inr ⟨rfl, rfl⟩)))) hd hokr rfl g.2.1 g.2.2
end GD
end
section
/-! Every run of the small machine is a contract of the machine. -/
def ew_Mw (l : Launch) (G : va_G) (TY : Nat → ClassId) (sz : Nat) (H0 : Heap) (CK : Nat → Nat → Option Nat) (Wd : State → Prop) (d z : Nat) (as : List ew_V) (h : ew_H) (v : Option ew_V) (h' : ew_H) : Prop :=
  ∀ a, Met l (ew_nm z) (ew_cv z :: ew_TW) (ew_rm d h h') (ew_Pc G TY sz H0 CK Wd as h a) (ew_Qc G TY sz H0 h a v h') (h'.2.2.2.2.1 - h.2.2.2.2.1) (h'.2.2.2.2.2 - h.2.2.2.2.2) (fun q => sz ≤ q)
/-- statics that hold constants -/
def ew_SP (CK : Nat → Nat → Option Nat) (NW : List Cond) (Wd : State → Prop) (sz : Nat) (H0 : Heap) : Prop := ∀ cl x v, et_sd cl x = some v → ∃ (k i q : Nat) (C n dd : String), v = ew_o k i ∧ CK k i = some q ∧ (∀ U, Wd U → va_Z C n dd (.ref q) (fun q => sz ≤ q) U H0) ∧
  ((∃ ref, Cond.fieldLink (ew_on cl) x ref n dd ∈ ew_TW ∧ (C = ref ∨ Cond.sameField ref C n dd ∈ ew_TW)) ∨ ∃ host, Cond.fieldLinkNest (ew_on cl) x C n dd host ∈ NW)
def ew_YW (z : Nat) : Prop := ew_cv z ∈ ew_TW ∧ Cond.initialized (ew_nm z).cls ∈ ew_TW ∧ ((ew_nm z).cls ≠ "java/lang/invoke/MethodHandle" ∧ (ew_nm z).cls ≠ "java/lang/invoke/VarHandle") ∧ et_mx z ≤ 20 ∧ Cond.static (ew_nm z) ∈ ew_TW
/-- all that is told of the tables, the launch, the start -/
def ew_Sf (l : Launch) (G : va_G) (TY : Nat → ClassId) (sz : Nat) (H0 : Heap) (CK : Nat → Nat → Option Nat) (NW : List Cond) (Wd : State → Prop) : Prop :=
  ew_WP NW G TY Wd ∧ ew_Tab NW Wd ∧ l.stackTraces = false ∧ ew_ZP CK Wd sz H0 ∧ ew_SP CK NW Wd sz H0 ∧
  (∀ y pc x nx tg cv c, ew_pg y pc = some (.new x, nx, tg, cv) → et_nw (et_cls y) x = some c → 100 ≤ c → ew_XP Wd y pc x (c - 100)) ∧
  (∀ y pc x t, ew_hd y pc x = some t → et_wr y = true ∧ ew_HP Wd (ew_hh y) y pc x t.1 t.2) ∧
  (∀ cl x z n c, et_md cl x = some (z, n, c) → et_wr z = true → ew_YW z ∧ (parseMethodDescriptor (ew_nm z).desc).map (fun d => d.parameters.length) = some n ∧ Cond.methodLink (ew_on cl) x (ew_nm z) ∈ ew_TW) ∧
  (∀ d z as h r h', ew_In z as h (fun r1 h1 => r1 = r ∧ h1 = h') → et_wr z = false ∧ ∃ v, r = .inl v ∧ ew_Mt l G TY sz H0 CK Wd d z as h v h')
theorem ew_ofWH {l : Launch} {y : MethodName} {ws ws' : List Cond} {rm : Room} {Pc : Array Value → State → Prop} {Qc : Array Value → State → Outcome → State → Prop} {mc ms : Nat} {free : Addr → Prop} {cc : ByteArray} {maxL : Nat} {ret : Option FieldType} {hh : List (Nat × Nat × Nat × Nat)}
    (hy : plainName y.cls = true) (hw : ws = Cond.codeWith y cc maxL ret hh :: ws')
    (body : ∀ p e s m args below meth c s₁, BodyLoose p l y (headSpec ws rm) cc maxL ret e s m args below meth c s₁ → c.maxLocals = maxL → Pc args s →
      W p l e (headSpec ws rm).room s m args below meth c s.heap [] 0 0 (MQ below Qc args s mc ms free) (entryFrame m args maxL)) : Met l y ws rm Pc Qc mc ms free := by
  refine MetFree.of_bodyS (code := cc) (maxLocals := maxL) (ret := ret) hy ?_ ?_
  · intro args s m h hn
    obtain ⟨m9, meth, c, hn9, h1, h2, h3, h4, -, h5, h6, -⟩ := Cond.codeWith_spec (atoms_spec (ws := ws) h _ (by rw [hw]; exact List.mem_cons_self))
    cases hn.symm.trans hn9
    exact ⟨meth, c, h1, h2, h3, h4, h5, h6⟩
  · intro p e s m args below meth c s₁ B hml hP _
    have hh0 : s₁.heap = s.heap := by rw [B.state]; rfl
    obtain ⟨t, a1, o, b1, b2, b3⟩ := body p e s m args below meth c s₁ B hml hP s₁ hh0 (Stand.of_body B)
    exact ⟨t, o, a1, b1, b2, ⟨b3.1, b3.2⟩⟩
/-- the entry's locals -/
theorem ew_ar_slots (a : Nat → Nat → Nat) : ∀ as : List ew_V, (lg_sl (as.map (ew_c a))).length = (ew_ar as).length
  | [] => rfl
  | v :: as => by
    have ih := ew_ar_slots a as
    rw [List.map_cons, ew_ar]
    show (List.flatMap _ (ew_c a v :: as.map (ew_c a))).length = _
    rw [List.flatMap_cons, List.length_append]
    have ih' : (List.flatMap (fun v => if Value.category v = 2 then [Slot.val v, Slot.second] else [Slot.val v]) (as.map (ew_c a))).length = (ew_ar as).length := ih
    rw [ih', ew_c_cat]
    cases hb : Nat.beq (ew_cat v) 2 with
    | true => rw [if_pos (ew_beq hb), cond_true, List.length_cons, List.length_cons, List.length_cons, List.length_cons, List.length_nil]; omega
    | false => rw [if_neg (fun q => by rw [q] at hb; cases hb), cond_false, List.length_cons, List.length_cons, List.length_nil]; omega
theorem ew_lp_none (a : Nat → Nat → Nat) : ∀ (k n : Nat), ew_lp a n (List.replicate k none) = []
  | 0, _ => rfl
  | k + 1, n => by rw [List.replicate_succ, ew_lp]; exact ew_lp_none a k (n + 1)
theorem ew_ar_lp (a : Nat → Nat → Nat) : ∀ (as : List ew_V) (n k : Nat), ew_lp a n (ew_ar as ++ List.replicate k none) = lv_args n (as.map (ew_c a))
  | [], n, k => ew_lp_none a k n
  | v :: as, n, k => by
    rw [List.map_cons, ew_ar, lv_args, ew_c_cat]
    cases hb : Nat.beq (ew_cat v) 2 with
    | true => rw [if_pos (ew_beq hb), cond_true, List.cons_append, List.cons_append, ew_lp, ew_lp, ew_ar_lp a as (n + 1 + 1) k]
    | false => rw [if_neg (fun q => by rw [q] at hb; cases hb), cond_false, List.cons_append, ew_lp, ew_ar_lp a as (n + 1) k]
theorem ew_ar_mem {as : List ew_V} {v : ew_V} : some v ∈ ew_ar as → v ∈ as := by
  induction as with
  | nil => intro h; cases h
  | cons u as ih =>
    intro h
    rw [ew_ar] at h
    cases hb : Nat.beq (ew_cat u) 2 with
    | true =>
      rw [hb, cond_true] at h
      rcases List.mem_cons.mp h with h | h
      · cases h; exact List.mem_cons_self
      rcases List.mem_cons.mp h with h | h
      · cases h
      exact List.mem_cons_of_mem _ (ih h)
    | false =>
      rw [hb, cond_false] at h
      rcases List.mem_cons.mp h with h | h
      · cases h; exact List.mem_cons_self
      exact List.mem_cons_of_mem _ (ih h)
def ew_snd (l : Launch) (G : va_G) (TY : Nat → ClassId) (sz : Nat) (H0 : Heap) (CK : Nat → Nat → Option Nat) (Wd : State → Prop) (d : Nat) : Prop := ∀ z as h r h', ew_Call (d + 1) z as h (fun r1 h1 => r1 = r ∧ h1 = h') →
  (et_wr z = false → (∀ v, r = .inl v → ew_Mt l G TY sz H0 CK Wd d z as h v h') ∧ (∀ x, r = .inr x → ew_Mx l G TY sz H0 CK Wd d z as h x h')) ∧ (et_wr z = true → ∀ v, r = .inl v → ew_Mw l G TY sz H0 CK Wd d z as h v h')
section GE
variable {p : Program} {l : Launch} {e : Env} {R : Room} {s : State} {m : MethodId} {args : Array Value} {below : List Frame} {meth : Method} {c0 : Code} {Q : State → Prop}
variable {G : va_G} {TY : Nat → ClassId} {sz : Nat} {H0 : Heap} {NW : List Cond} {Wd : State → Prop} {CK : Nat → Nat → Option Nat} {d y : Nat} {hS hE : ew_H} {aS : Nat → Nat → Nat}
variable {pc nx tg : Nat} {cv : Int32} {ls : List (Option ew_V)} {st : List ew_V} {h : ew_H} {i : Instr} {n : Nat} {r : ew_R}
/-- a call of a method of the law -/
theorem es_callW (X : ew_Cx p l e R s m args below meth c0 NW G TY Wd d y) (hck : ew_ck CK hS aS) {d' x z n : Nat} (hdd : d = d' + 1) (hY : ew_YW z) (hlk : Cond.methodLink (ew_on (et_cls y)) x (ew_nm z) ∈ ew_TW) (hdesc : (parseMethodDescriptor (ew_nm z).desc).map (fun d => d.parameters.length) = some n) {as rest : List ew_V} (hn : as.length = n) {v : Option ew_V} {h' : ew_H} (hM : ew_Mw l G TY sz H0 CK Wd d' z as h v h') (hc8 : ew_cats rest ≤ 8)
    (hle : ew_le h h') (hRc : hE.2.2.2.2.1 - hS.2.2.2.2.1 ≤ R.cells) (hRs : hE.2.2.2.2.2 - hS.2.2.2.2.2 ≤ R.slots) (hd : decode (ew_cd y) pc = .ok (.invokestatic x, 3)) :
    ew_K p l e R s m args below meth c0 G TY sz H0 Q y hS hE aS (pc, ls, as.reverse ++ rest, h) (pc + 3, ls, v.toList ++ rest, h') := by
  obtain ⟨hx, hb, hml, hown, hts, hW, hwd, hf, hlo, -⟩ := X
  obtain ⟨y1, y2, y3, y4, y5⟩ := hY
  intro kq hle0
  obtain ⟨k1, k2⟩ := kq (hle0.tr hle)
  refine ⟨hle.tr k1, fun a H locs cells slots L hSt => ?_⟩
  obtain ⟨s1, s2, s3, s4, s5, s6, s7, s8, s9⟩ := id hSt
  have s2 : ew_I G TY sz H0 a h H := s2
  have b1 := k1.2.1
  have b2 := k1.2.2
  have b3 := hle.2.1
  have b4 := hle.2.2
  have b5 := hle0.2.1
  have b6 := hle0.2.2
  dsimp only at b1 b2 s8 s9 b5 b6
  have hrest : ∀ v ∈ rest, ew_wf h v := fun v q => s6 v (List.mem_append_right _ q)
  have haw : ∀ v ∈ as, ew_wf h v := fun v q => s6 v (List.mem_append_left _ (List.mem_reverse.mpr q))
  have hst : (as.reverse ++ rest).map (ew_c a) = (as.map (ew_c a)).reverse ++ rest.map (ew_c a) := by
    rw [List.map_append, List.map_reverse]
  have hpre : PreS s H (ew_Pc G TY sz H0 CK Wd as h a) (as.map (ew_c a)) := ⟨ew_blind hW, fun U hU hw => ⟨rfl, by rw [hU]; exact s2, hW.2.1 s U hw hwd, haw, hck.to s1 hle0⟩⟩
  have hG : GoodIn ew_TW (va_wsS (ew_on (et_cls y)) x (ew_nm z) (ew_cv z :: ew_TW)) := ew_good (fun w hw => by
    unfold va_wsS at hw
    rcases List.mem_append.mp hw with q | q
    · simp only [List.mem_cons, List.not_mem_nil, or_false] at q
      rcases q with rfl | rfl | rfl
      · exact hlk
      · exact y5
      · exact y2
    · rcases List.mem_cons.mp q with rfl | q
      · exact y1
      · exact q)
  refine er_back (vx_runSW (As := as.map (ew_c a)) (Ts := ew_TW) (own := ew_on (et_cls y)) (index := x) ⟨hx, hb, hml, hown, hts⟩ (hM a) (vx_cwSW n hts hG rfl rfl rfl ⟨y3.1, y3.2, hdesc⟩ ⟨show 6 + d' + 1 ≤ R.frames by omega, show 8 + (et_mx z + 11) + (150 + 40 * d') ≤ R.locals by omega⟩) hpre rfl (by rw [List.length_map]; exact hn) s3.1 hst (by rw [ew_cats_map]; show 2 * 0 + _ ≤ 8; omega) hd ⟨by omega, by omega⟩) hrest s7 (fun a' H1 locs1 hex hl1 I1 hv => k2 a' H1 locs1 _ _ L (es_after hSt hle0 hle hex hl1 I1 ?_))
  intro w q
  rcases List.mem_append.mp q with q | q
  · cases v with
    | none => cases q
    | some u =>
      rw [List.mem_singleton.mp q]
      exact hv u rfl
  · exact (hrest w q).le hle
theorem es_gets (X : ew_Cx p l e R s m args below meth c0 NW G TY Wd d y) (hck : ew_ck CK hS aS) (hSP : ew_SP CK NW Wd sz H0) (hs0 : ∀ q : Nat, q < sz → s.heap[q]? = H0[q]?) (hH0 : H0.size = sz) {x : Nat} {v : ew_V} (hd : decode (ew_cd y) pc = .ok (.getstatic x, 3)) (hv : et_sd (et_cls y) x = some v) :
    ew_K p l e R s m args below meth c0 G TY sz H0 Q y hS hE aS (pc, ls, st, h) (pc + 3, ls, v :: st, h) := by
  obtain ⟨hx, hb, hml, hown, hts, hW, hwd, hf, hlo, -⟩ := X
  obtain ⟨-, -, -, hNW⟩ := hW.2.2 s hwd
  obtain ⟨k, i, q, C, n, dd, rfl, hq, hZ, hlk⟩ := hSP _ _ _ hv
  intro kq hle0
  obtain ⟨k1, k2⟩ := kq hle0
  refine ⟨k1, fun a H locs cells slots L hSt => ?_⟩
  obtain ⟨s1, s2, s3, s4, s5, s6, s7, s8, s9⟩ := id hSt
  obtain ⟨c1, c2⟩ := hck.to s1 hle0 k i q hq
  refine ew_sized (fun hsz => ?_)
  have hSv : va_S (fun q => sz ≤ q) s.heap H locs := ⟨hsz, fun q h1 h2 => by
    have h2' : q < sz := Nat.lt_of_not_le h2
    rw [s2.2.2.2.2.2 q h2', hs0 q h2'], s7⟩
  have hZ' : va_Z C n dd (.ref q) (fun q => sz ≤ q) s s.heap := (hZ s hwd).kept (fun a h1 h2 => hs0 a (by omega))
  have kk : W p l e R s m args below meth c0 H locs cells slots Q (F0 m (pc + 3) L (.ref q :: st.map (ew_c a))) := by
    have := k2 a H locs cells slots L ⟨s1, s2, s3, s4, s5, es_cons (Or.inr c1) s6, s7, s8, s9⟩
    have e1 : ew_c a (ew_o k i) = .ref q := by show Value.ref (a k i) = _; rw [c2]
    rw [List.map_cons, e1] at this
    exact this
  rcases hlk with ⟨ref, hw, hsame⟩ | ⟨host, hw⟩
  · refine va_gets hx hb hZ' hSv hown (hts _ hw) (fun x hx => ?_) hd kk
    rcases hsame with rfl | hsm
    · exact hx
    · exact u_same (hts _ hsm) _ hx
  · exact va_getsN hx hb hZ' hSv hown (va_Nw.use rfl (hNW _ hw)) (fun x hx => hx) hd kk
/-- a method's body, whatever its end is for -/
theorem ew_body (S : ew_Sf l G TY sz H0 CK NW Wd) (X : ew_Cx p l e R s m args below meth c0 NW G TY Wd d y) (hck : ew_ck CK hS aS) (hs0 : ∀ q : Nat, q < sz → s.heap[q]? = H0[q]?) (IH : ∀ d', d = d' + 1 → ew_snd l G TY sz H0 CK Wd d') (htab : et_wr y = true → c0.exceptionTable.toList = tableOf (ew_hh y)) (hRc : hE.2.2.2.2.1 - hS.2.2.2.2.1 ≤ R.cells) (hRs : hE.2.2.2.2.2 - hS.2.2.2.2.2 ≤ R.slots)
    (hret : ∀ pc ls v ins, ew_vi y ins v → decode (ew_cd y) pc = .ok (ins, 1) → ew_okr y ins → (.inl v : ew_R) = r → ew_Q p l e R s m args below meth c0 G TY sz H0 Q y hS hE aS (pc, ls, v.toList, hE))
    (hN : ∀ pc ls st h ik xx, ew_XP Wd y pc ik xx → ew_cats st ≤ 20 → (.inr xx : ew_R) = r → ew_pay h 1 6 = hE → ew_Q p l e R s m args below meth c0 G TY sz H0 Q y hS hE aS (pc, ls, st, h))
    (hX : ∀ pc ls st h a H locs cells slots L g0 rest xx, ew_le hS h → ew_le h hE → ew_St G TY sz H0 y hS aS a (pc, ls, st, h) H locs cells slots L →
      vx_Run p l e R s m args below meth c0 H locs cells slots (hE.2.2.2.2.1 - h.2.2.2.2.1) (hE.2.2.2.2.2 - h.2.2.2.2.2) (F0 m pc L g0) rest (fun _ _ _ => False) (ew_XC G TY sz H0 h a xx hE) (fun q => sz ≤ q) → (.inr xx : ew_R) = r → W p l e R s m args below meth c0 H locs cells slots Q (F0 m pc L g0)) :
    ∀ c, ew_G (ew_Call d) y (ew_Q p l e R s m args below meth c0 G TY sz H0 Q y hS hE aS) (fun r1 h1 => r1 = r ∧ h1 = hE) c → ew_Q p l e R s m args below meth c0 G TY sz H0 Q y hS hE aS c := by
  obtain ⟨hW, T, hl, hZ, hSP, hXP, hHP, hYW, hIn⟩ := id S
  rintro ⟨pc, ls, st, h⟩ g
  unfold ew_G at g
  dsimp only at g
  cases hpg : ew_pg y pc with
  | none => rw [hpg] at g; exact g.elim
  | some q =>
    obtain ⟨i, nx, tg, cv⟩ := q
    rw [hpg] at g
    dsimp only at g
    have g' : ew_UQ p l e R s m args below meth c0 G TY sz H0 Q y hS hE aS pc ls h d r (ew_st y (et_cls y) i pc nx tg cv ls st h) := by
      revert g
      cases ew_st y (et_cls y) i pc nx tg cv ls st h with
      | none => exact fun g => g
      | some n => rcases n with c' | ⟨p, a, b⟩ | ⟨p, a⟩ | ⟨z', as', rest, nx'⟩ | ⟨p, r1, h1'⟩ | ⟨x, v, l, dd⟩ <;> exact fun g => g
    obtain ⟨n0, hd0, -, hst0, -, -⟩ := ew_okb_spec (T.1 _ _ _ hpg)
    have thrown : ∀ (z : Nat) (as : List ew_V) (xx : Nat) (h' : ew_H) (rest g0 : List ew_V), ew_Call d z as h (fun r1 h1 => r1 = .inr xx ∧ h1 = h') →
        (∀ a H locs cells slots L, ew_le hS h → ew_le h' hE → ew_St G TY sz H0 y hS aS a (pc, ls, st, h) H locs cells slots L → vx_Run p l e R s m args below meth c0 H locs cells slots (h'.2.2.2.2.1 - h.2.2.2.2.1) (h'.2.2.2.2.2 - h.2.2.2.2.2) (F0 m pc L (st.map (ew_c a))) (rest.map (ew_c a)) (fun _ _ _ => False) (ew_XC G TY sz H0 h a xx h') (fun q => sz ≤ q)) →
        (match ew_hd y pc xx with | some t => ew_Q p l e R s m args below meth c0 G TY sz H0 Q y hS hE aS (t.1, ew_un ls t.2, [], h') | none => (.inr xx : ew_R) = r ∧ h' = hE) → ew_Q p l e R s m args below meth c0 G TY sz H0 Q y hS hE aS (pc, ls, st, h) := by
      intro z as xx h' rest g0 hc hrun hk
      have hle := ew_Call_le _ _ _ _ _ _ hc
      cases hh : ew_hd y pc xx with
      | none =>
        rw [hh] at hk
        obtain ⟨hk1, rfl⟩ := hk
        exact fun hle0 => ⟨hle, fun a H locs cells slots L hSt => hX pc ls st h a H locs cells slots L _ _ xx hle0 hle hSt (hrun a H locs cells slots L hle0 (ew_le.rf _) hSt) hk1⟩
      | some t =>
        rw [hh] at hk
        obtain ⟨hwr, hHP⟩ := hHP _ _ _ _ hh
        intro hle0
        obtain ⟨k1, k2⟩ := hk (hle0.tr hle)
        exact ⟨hle.tr k1, fun a H locs cells slots L hSt => ex_caught X (htab hwr) hHP hle0 hle hSt (hrun a H locs cells slots L hle0 k1 hSt) k2⟩
    refine ed_step X hck T hpg hRc hRs (fun v hv hd hok e1 e2 e3 => ?_) (fun x c e1 e2 e3 e4 e5 e6 => ?_) (fun d' z as v h' e1 e2 hc => ?_) (fun x z n c k j as rest xx h' e1 e2 e3 e4 e5 e6 e7 e8 e9 hc hk => ?_) (fun x z n c as rest xx h' e1 e2 e3 e4 e5 e6 e7 e8 hc hk => ?_) (fun x z n c as rest v h' e1 e2 e3 e4 e5 e6 e7 hc hk => ?_) (fun x v e1 hd e2 => ?_) g'
    · subst e1; subst e3
      exact hret pc ls v i hv hd hok e2
    · subst e1
      exact hN pc ls st h x _ (hXP _ _ _ _ _ _ _ hpg e2 e3) e4 e5 e6
    · subst e1
      exact ⟨((IH d' rfl z as h _ h' hc).1 e2).1 v rfl, ew_Call_le _ _ _ _ _ _ hc⟩
    · subst e1
      obtain rfl : n0 = 3 := ew_beq hst0
      have hc' := ew_Call_le _ _ _ _ _ _ hc
      cases d with
      | zero => exact hc.elim
      | succ d' =>
        have hwr : et_wr z = false := by
          cases hwr : et_wr z with
          | false => rfl
          | true => have := ((T.2.2.2.2.2.2.2.2.2.2.2.2.2.1 _ _ _ _ _ e2).1 hwr).1; rw [e4] at this; cases this
        have hz9 : z < 900 := Nat.lt_of_not_le fun q => by have := (T.2.2.2.2.2.2.2.2.2.2.2.2.2.1 _ _ _ _ _ e2).2.1 q; rw [e4] at this; cases this
        have hM := ((IH d' rfl z _ h _ h' hc).1 hwr).2 xx rfl
        obtain ⟨w1, w2, -⟩ := T.2.2.2.2.1 _ _ _ _ _ e2 hz9 hwr
        obtain ⟨w3, w4⟩ := w2 e3
        obtain ⟨c17, hcn, hse⟩ := w4 e4
        have hcl : vwCl.length = 17 := rfl
        have hr : vwCl[ew_ct k]? = some (vwCl[ew_ct k]'(by rw [hcl, e5]; exact c17)) := List.getElem?_eq_getElem (by rw [hcl, e5]; exact c17)
        refine thrown z _ xx h' rest [] hc (fun a H locs cells slots L hle0 hle1 hSt => ?_) hk
        subst e7
        exact ex_runV X hck rfl hr (by rw [hcn, (T.2.2.1 _ _ hr).1, e5]) (by rw [e5]; exact c17) w1 e4 hse (T.2.2.2.2.2.2.2.2.2.2.2.2.2.2.2 _ _ _ _ _ e2 hz9 e9 e3) w3 e6 hM e8 hle0 hc' hle1 hRc hRs hd0 hSt
    · subst e1
      obtain rfl : n0 = 3 := ew_beq hst0
      have hc' := ew_Call_le _ _ _ _ _ _ hc
      cases d with
      | zero => exact hc.elim
      | succ d' =>
        have hif : et_if (et_cls y) x = false := by
          cases hif : et_if (et_cls y) x with
          | false => rfl
          | true =>
            have h1 := (T.2.2.2.2.2.2.2.2.2.2.2.2.2.1 _ _ _ _ _ e2).2.2 hif
            unfold ew_th at e8
            rw [Bool.and_eq_true] at e8
            have := Nat.le_of_ble_eq_true e8.2
            omega
        have hwr : et_wr z = false := by
          cases hwr : et_wr z with
          | false => rfl
          | true =>
            have h1 := ((T.2.2.2.2.2.2.2.2.2.2.2.2.2.1 _ _ _ _ _ e2).1 hwr).2
            unfold ew_th at e8
            rw [Bool.and_eq_true] at e8
            have := Nat.le_of_ble_eq_true e8.2
            omega
        have hM := ((IH d' rfl z _ h _ h' hc).1 hwr).2 xx rfl
        obtain ⟨w1, w2, -⟩ := T.2.2.2.2.1 _ _ _ _ _ e2 e3 hwr
        refine thrown z _ xx h' rest [] hc (fun a H locs cells slots L hle0 hle1 hSt => ?_) hk
        subst e6
        exact ex_runS X hck rfl w1 e4 (T.2.2.2.2.2.2.2.2.2.2.2.2.2.2.2 _ _ _ _ _ e2 e3 e8 hif) (w2 hif).1 e5 hM e7 hle0 hc' hle1 hRc hRs hd0 hSt
    · subst e1
      obtain rfl : n0 = 3 := ew_beq hst0
      cases d with
      | zero => exact hc.elim
      | succ d' =>
        obtain ⟨w1, w2, w3⟩ := hYW _ _ _ _ _ e2 e3
        have hM := (IH d' rfl z _ h _ h' hc).2 e3 v rfl
        subst e6
        exact es_callW X hck rfl w1 w3 w2 e5 hM e7 (ew_Call_le _ _ _ _ _ _ hc) hRc hRs hd0 hk
    · exact es_gets X hck hSP hs0 hZ.1 hd e2
end GE
end
section
/-! Every run of the small machine is a contract of the machine: by the depth of calls. -/
section GF
variable {l : Launch} {G : va_G} {TY : Nat → ClassId} {sz : Nat} {H0 : Heap} {NW : List Cond} {Wd : State → Prop} {CK : Nat → Nat → Option Nat}
theorem ew_entry {p : Program} {e : Env} {R : Room} {s : State} {m : MethodId} {below : List Frame} {meth : Method} {c0 : Code} {Q : State → Prop} {y : Nat} {as : List ew_V} {h hE : ew_H} {a : Nat → Nat → Nat} (hlen : (ew_ar as).length ≤ et_mx y) (I : ew_I G TY sz H0 a h s.heap) (hw : ∀ v ∈ as, ew_wf h v)
    (k : ew_Q p l e R s m (as.map (ew_c a)).toArray below meth c0 G TY sz H0 Q y h hE a (ew_en y as h)) : W p l e R s m (as.map (ew_c a)).toArray below meth c0 s.heap [] 0 0 Q (entryFrame m (as.map (ew_c a)).toArray (et_mx y)) := by
  have hen : ew_en y as h = (0, ew_ar as ++ List.replicate (et_mx y - (ew_ar as).length) none, [], h) := by
    unfold ew_en
    rw [Nat.ble_eq_true_of_le hlen]
    rfl
  rw [hen] at k
  have hl := lv_entry (as.map (ew_c a)) (n := et_mx y) (by rw [ew_ar_slots]; exact hlen)
  rw [lg_entry_eq]
  have := (k (ew_le.rf h)).2 a s.heap [] 0 0 _ ⟨ew_ex.rf h a, I, by rw [ew_ar_lp]; exact hl, by dsimp only; rw [List.length_append, List.length_replicate]; omega, fun v hv => ?_, fun v (hv : v ∈ ([] : List ew_V)) => absurd hv List.not_mem_nil, fun q hq => absurd hq List.not_mem_nil, (by show 0 + h.2.2.2.2.1 = h.2.2.2.2.1; omega), (by show 0 + h.2.2.2.2.2 = h.2.2.2.2.2; omega)⟩
  · exact this
  · rcases List.mem_append.mp hv with q | q
    · exact hw v (ew_ar_mem q)
    · have := List.eq_of_mem_replicate q
      cases this
theorem ew_fits_len {d y : Nat} {as : List ew_V} {h : ew_H} {K : ew_R → ew_H → Prop} (hlt : ∀ y x q, ew_pg y x = some q → x < 65535) (w : ew_W (ew_Call d) y K (ew_en y as h)) : (ew_ar as).length ≤ et_mx y ∧ ∃ q, ew_pg y 0 = some q := by
  have h1 : ∃ q, ew_pg y (ew_en y as h).1 = some q := w (fun c => ∃ q, ew_pg y c.1 = some q) (fun c g => by
    unfold ew_G at g
    cases e : ew_pg y c.1 with
    | none => rw [e] at g; exact g.elim
    | some q => exact ⟨q, rfl⟩)
  obtain ⟨q, hq⟩ := h1
  unfold ew_en at hq
  dsimp only at hq
  cases hb : Nat.ble (ew_ar as).length (et_mx y) with
  | true => rw [hb] at hq; exact ⟨Nat.le_of_ble_eq_true hb, q, hq⟩
  | false =>
    rw [hb] at hq
    have := hlt _ _ _ hq
    exact absurd this (by decide)
theorem ew_sound (S : ew_Sf l G TY sz H0 CK NW Wd) : ∀ d, ew_snd l G TY sz H0 CK Wd d := by
  intro d
  induction d using Nat.strongRecOn with
  | _ d IHs =>
    have IH : ∀ d', d = d' + 1 → ew_snd l G TY sz H0 CK Wd d' := fun d' e => IHs d' (by omega)
    intro z as h r h' hc
    obtain ⟨hW, T, hl, hZ, hSP, hXP, hHP, hYW, hIn⟩ := id S
    have hle := ew_Call_le _ _ _ _ _ _ hc
    have b1 := hle.2.1
    have b2 := hle.2.2
    rcases hc with ⟨r0, h0, w, rfl, rfl⟩ | hin
    · obtain ⟨hlen, q, hq⟩ := ew_fits_len (fun y x q h => (T.2.2.2.2.2.2.2.2.2.2.2.2.2.2.1 y x q h).1) w
      obtain ⟨-, -, hpl, hon, hini⟩ := T.2.2.2.2.2.2.2.2.2.2.2.2.2.2.1 _ _ _ hq
      refine ⟨fun hwr => ⟨fun v hv => ?_, fun x hx => ?_⟩, fun hwr v hv => ?_⟩
      · subst hv
        intro a
        refine Met.ofW (cc := ew_cd z) (maxL := et_mx z) (ret := ew_rt z) hpl rfl ?_
        intro p e s m args below meth c s₁ B hml hv
        obtain ⟨rfl, I, hwd, hw, hck⟩ := hv
        have hts : ∀ w ∈ ew_TW, w.before (as.map (ew_c a)).toArray s = true := fun w hw => atoms_spec (ws := ew_cw z :: ew_TW) B.pre w (List.mem_cons_of_mem _ hw)
        have X : ew_Cx p l e (ew_rm d h h0) s m (as.map (ew_c a)).toArray below meth c NW G TY Wd d z := ⟨B.exec, B.bytes, hml, by rw [hon]; exact findClass_of_methodNamed B.named, hts, hW, hwd, Nat.le_refl _, Nat.le_refl _, fun hi => (name_of_methodNamed B.named B.method).1.trans (hini hi)⟩
        refine ew_entry hlen I hw (w _ (ew_body (Q := MQ below (ew_Qc G TY sz H0 h a v h0) (as.map (ew_c a)).toArray s (h0.2.2.2.2.1 - h.2.2.2.2.1) (h0.2.2.2.2.2 - h.2.2.2.2.2) (fun q => sz ≤ q)) (hE := h0) (hS := h) (aS := a) S X hck (fun q hq => I.2.2.2.2.2 q hq) IH (fun h9 => by rw [hwr] at h9; cases h9) (Nat.le_refl _) (Nat.le_refl _) (fun pc ls v' ins hv hd hok e1 => ?_) (fun pc ls st h ik xx _ _ e1 _ => by cases e1) (fun pc ls st h a H locs cells slots L g0 rest xx _ _ _ _ e1 => by cases e1)))
        cases e1
        exact ee_ret X B.returns B.notSynchronized hd hok hv
      · subst hx
        intro a
        refine vx_ofW (cc := ew_cd z) (maxL := et_mx z) (ret := ew_rt z) hpl rfl ?_
        intro p e s m args below meth c s₁ B hml hnt hv
        obtain ⟨rfl, I, hwd, hw, hck⟩ := hv
        have hts : ∀ w ∈ ew_TW, w.before (as.map (ew_c a)).toArray s = true := fun w hw => atoms_spec (ws := ew_cw z :: ew_TW) B.pre w (List.mem_cons_of_mem _ hw)
        have X : ew_Cx p l e (ew_rm d h h0) s m (as.map (ew_c a)).toArray below meth c NW G TY Wd d z := ⟨B.exec, B.bytes, hml, by rw [hon]; exact findClass_of_methodNamed B.named, hts, hW, hwd, Nat.le_refl _, Nat.le_refl _, fun hi => (name_of_methodNamed B.named B.method).1.trans (hini hi)⟩
        refine ew_entry hlen I hw (w _ (ew_body (Q := vx_MQ below (fun _ _ _ _ => False) (ew_XC G TY sz H0 h a x h0) (as.map (ew_c a)).toArray s (h0.2.2.2.2.1 - h.2.2.2.2.1) (h0.2.2.2.2.2 - h.2.2.2.2.2) (fun q => sz ≤ q)) (hE := h0) (hS := h) (aS := a) S X hck (fun q hq => I.2.2.2.2.2 q hq) IH (fun h9 => by rw [hwr] at h9; cases h9) (Nat.le_refl _) (Nat.le_refl _) (fun pc ls v' ins hv hd hok e1 => by cases e1) (fun pc ls st h ik xx hXP hc e1 e2 => ?_) (fun pc ls st h a H locs cells slots L g0 rest xx hle0 hle hSt hr e1 => ?_)))
        · cases e1
          exact ee_throw X hl B.notSynchronized hnt hZ (fun q hq => I.2.2.2.2.2 q hq) hXP hc e2 (Nat.le_refl _) (Nat.le_refl _)
        · cases e1
          exact ex_out B.notSynchronized hnt hle0 hle hSt hr
      · subst hv
        intro a
        refine ew_ofWH (cc := ew_cd z) (maxL := et_mx z) (ret := ew_rt z) (hh := ew_hh z) hpl rfl ?_
        intro p e s m args below meth c s₁ B hml hv
        obtain ⟨rfl, I, hwd, hw, hck⟩ := hv
        have hts : ∀ w ∈ ew_TW, w.before (as.map (ew_c a)).toArray s = true := fun w hw => atoms_spec (ws := ew_cv z :: ew_TW) B.pre w (List.mem_cons_of_mem _ hw)
        have hcv : (ew_cv z).before (as.map (ew_c a)).toArray s = true := atoms_spec (ws := ew_cv z :: ew_TW) B.pre _ List.mem_cons_self
        have X : ew_Cx p l e (ew_rm d h h0) s m (as.map (ew_c a)).toArray below meth c NW G TY Wd d z := ⟨B.exec, B.bytes, hml, by rw [hon]; exact findClass_of_methodNamed B.named, hts, hW, hwd, Nat.le_refl _, Nat.le_refl _, fun hi => (name_of_methodNamed B.named B.method).1.trans (hini hi)⟩
        refine ew_entry hlen I hw (w _ (ew_body (Q := MQ below (ew_Qc G TY sz H0 h a v h0) (as.map (ew_c a)).toArray s (h0.2.2.2.2.1 - h.2.2.2.2.1) (h0.2.2.2.2.2 - h.2.2.2.2.2) (fun q => sz ≤ q)) (hE := h0) (hS := h) (aS := a) S X hck (fun q hq => I.2.2.2.2.2 q hq) IH (fun _ => vx_table (x := ew_nm z) B hcv) (Nat.le_refl _) (Nat.le_refl _) (fun pc ls v' ins hv hd hok e1 => ?_) (fun pc ls st h ik xx _ _ e1 _ => by cases e1) (fun pc ls st h a H locs cells slots L g0 rest xx _ _ _ _ e1 => by cases e1)))
        cases e1
        exact ee_ret X B.returns B.notSynchronized hd hok hv
    · obtain ⟨q1, v0, rfl, hM⟩ := hIn d z as h r h' hin
      refine ⟨fun _ => ⟨fun v hv => ?_, fun x hx => by cases hx⟩, fun hwr => by rw [q1] at hwr; cases hwr⟩
      cases hv
      exact hM
end GF
end
