/-! One step, on both machines. -/
/-- what stands in a method's body -/
def ew_Cx (p : Program) (l : Launch) (e : Env) (R : Room) (s : State) (m : MethodId) (args : Array Value) (below : List Frame) (meth : Method) (c : Code) (NW : List Cond) (G : va_G) (TY : Nat → ClassId) (Wd : State → Prop) (d y : Nat) : Prop :=
  p.tables.exec = Jvm.exec ∧ c.code = ew_cd y ∧ c.maxLocals = et_mx y ∧ s.vm.findClass (ew_on (et_cls y)) = some m.cls ∧ (∀ w ∈ ew_TW, w.before args s = true) ∧ ew_WP NW G TY Wd ∧ Wd s ∧ 6 + d ≤ R.frames ∧ 150 + 40 * d ≤ R.locals ∧ (et_ini y = true → meth.name = "<init>")
/-- the two states belong together -/
def ew_St (G : va_G) (TY : Nat → ClassId) (sz : Nat) (H0 : Heap) (y : Nat) (hS : ew_H) (aS a : Nat → Nat → Nat) (c : ew_C) (H : Heap) (locs : List Loc) (cells slots : Nat) (L : Array Slot) : Prop :=
  ew_ex hS aS a ∧ ew_I G TY sz H0 a c.2.2.2 H ∧ lv_has L (et_mx y) (ew_lp a 0 c.2.1) ∧ c.2.1.length = et_mx y ∧ (∀ v, some v ∈ c.2.1 → ew_wf c.2.2.2 v) ∧ (∀ v ∈ c.2.2.1, ew_wf c.2.2.2 v) ∧ (∀ q ∈ locs, sz ≤ q.base) ∧ cells + hS.2.2.2.2.1 = c.2.2.2.2.2.2.2.1 ∧ slots + hS.2.2.2.2.2 = c.2.2.2.2.2.2.2.2
def ew_Q (p : Program) (l : Launch) (e : Env) (R : Room) (s : State) (m : MethodId) (args : Array Value) (below : List Frame) (meth : Method) (c0 : Code) (G : va_G) (TY : Nat → ClassId) (sz : Nat) (H0 : Heap) (Q : State → Prop) (y : Nat) (hS hE : ew_H) (aS : Nat → Nat → Nat) (c : ew_C) : Prop :=
  ew_le hS c.2.2.2 → ew_le c.2.2.2 hE ∧ ∀ a H locs cells slots L, ew_St G TY sz H0 y hS aS a c H locs cells slots L → W p l e R s m args below meth c0 H locs cells slots Q (F0 m c.1 L (c.2.2.1.map (ew_c a)))
/-- an instruction of the program, with its length and jump -/
def ew_ok (cc : ByteArray) (x : Nat) (i : Instr) (nx tg : Nat) (cv : Int32) (n : Nat) : Prop := decode cc x = .ok (i, n) ∧ nx = x + n
section ES
variable {p : Program} {l : Launch} {e : Env} {R : Room} {s : State} {m : MethodId} {args : Array Value} {below : List Frame} {meth : Method} {c0 : Code} {Q : State → Prop}
variable {G : va_G} {TY : Nat → ClassId} {sz : Nat} {H0 : Heap} {NW : List Cond} {Wd : State → Prop} {d y : Nat} {hS hE : ew_H} {aS : Nat → Nat → Nat}
variable {pc nx tg : Nat} {cv : Int32} {ls : List (Option ew_V)} {st : List ew_V} {h : ew_H}
/-- a step that leaves the objects alone -/
theorem es_plain {pc' : Nat} {ls' : List (Option ew_V)} {st' : List ew_V} (hlen : ls'.length = ls.length) (hwl : (∀ v, some v ∈ ls → ew_wf h v) → (∀ v ∈ st, ew_wf h v) → (∀ v, some v ∈ ls' → ew_wf h v) ∧ ∀ v ∈ st', ew_wf h v)
    (hs : ∀ (a : Nat → Nat → Nat) (H : Heap) (locs : List Loc) (cells slots : Nat) (L : Array Slot), ew_I G TY sz H0 a h H → (∀ v ∈ st, ew_wf h v) → lv_has L (et_mx y) (ew_lp a 0 ls) → ls.length = et_mx y → (∀ L' : Array Slot, lv_has L' (et_mx y) (ew_lp a 0 ls') → W p l e R s m args below meth c0 H locs cells slots Q (F0 m pc' L' (st'.map (ew_c a)))) → W p l e R s m args below meth c0 H locs cells slots Q (F0 m pc L (st.map (ew_c a))))
    (k : ew_Q p l e R s m args below meth c0 G TY sz H0 Q y hS hE aS (pc', ls', st', h)) : ew_Q p l e R s m args below meth c0 G TY sz H0 Q y hS hE aS (pc, ls, st, h) := by
  intro hle
  obtain ⟨k1, k2⟩ := k hle
  refine ⟨k1, fun a H locs cells slots L hS => ?_⟩
  obtain ⟨s1, s2, s3, s4, s5, s6, s7, s8, s9⟩ := hS
  obtain ⟨w1, w2⟩ := hwl s5 s6
  exact hs a H locs cells slots L s2 s6 s3 s4 (fun L' hL' => k2 a H locs cells slots L' ⟨s1, s2, hL', hlen.trans s4, w1, w2, s7, s8, s9⟩)
/-- .. the locals, too -/
theorem es_st {pc' : Nat} {st' : List ew_V} (hwl : (∀ v, some v ∈ ls → ew_wf h v) → (∀ v ∈ st, ew_wf h v) → ∀ v ∈ st', ew_wf h v)
    (hs : ∀ (a : Nat → Nat → Nat) (H : Heap) (locs : List Loc) (cells slots : Nat) (L : Array Slot), ew_I G TY sz H0 a h H → (∀ v ∈ st, ew_wf h v) → lv_has L (et_mx y) (ew_lp a 0 ls) → W p l e R s m args below meth c0 H locs cells slots Q (F0 m pc' L (st'.map (ew_c a))) → W p l e R s m args below meth c0 H locs cells slots Q (F0 m pc L (st.map (ew_c a))))
    (k : ew_Q p l e R s m args below meth c0 G TY sz H0 Q y hS hE aS (pc', ls, st', h)) : ew_Q p l e R s m args below meth c0 G TY sz H0 Q y hS hE aS (pc, ls, st, h) :=
  es_plain rfl (fun w1 w2 => ⟨w1, hwl w1 w2⟩) (fun a H locs cells slots L I w hL _ kk => hs a H locs cells slots L I w hL (kk L hL)) k
theorem es_mem {n : Nat} {v : ew_V} (h1 : ls[n]? = some (some v)) : some v ∈ ls := List.mem_of_getElem? h1
theorem es_tail {v : ew_V} {P : ew_V → Prop} (h2 : ∀ w ∈ v :: st, P w) : ∀ w ∈ st, P w := fun w hw => h2 w (List.mem_cons_of_mem _ hw)
theorem es_hd {v : ew_V} {P : ew_V → Prop} (h2 : ∀ w ∈ v :: st, P w) : P v := h2 v List.mem_cons_self
theorem es_set {i : Nat} {v w : ew_V} (h2 : ∀ v, some v ∈ ls → ew_wf h v) (hv : ew_wf h v) (hw : some w ∈ ls.set i (some v)) : ew_wf h w := by
  rcases List.mem_or_eq_of_mem_set hw with q | q
  · exact h2 w q
  · cases q; exact hv
theorem es_clr {i : Nat} {w : ew_V} (hw : some w ∈ ew_clr ls i) : some w ∈ ls := by
  obtain ⟨j, hj⟩ := List.getElem?_of_mem hw
  exact List.mem_of_getElem? (ew_clr_mem (a := fun _ _ => 0) hj).1
theorem es_st1 {i : Nat} {v w : ew_V} (h2 : ∀ v, some v ∈ ls → ew_wf h v) (hv : ew_wf h v) (hw : some w ∈ ew_st1 ls i v) : ew_wf h w := es_set (ls := ew_clr ls i) (fun v q => h2 v (es_clr q)) hv hw
theorem es_st2 {i : Nat} {v w : ew_V} (h2 : ∀ v, some v ∈ ls → ew_wf h v) (hv : ew_wf h v) (hw : some w ∈ ew_st2 ls i v) : ew_wf h w := by
  rcases List.mem_or_eq_of_mem_set hw with q | q
  · exact es_set (ls := ew_clr ls i) (fun v q => h2 v (es_clr q)) hv q
  · cases q
theorem es_len1 (i : Nat) (v : ew_V) : (ew_st1 ls i v).length = ls.length := by rw [ew_st1, List.length_set, ew_clr_len]
theorem es_len2 (i : Nat) (v : ew_V) : (ew_st2 ls i v).length = ls.length := by rw [ew_st2, List.length_set, List.length_set, ew_clr_len]
abbrev ew_K (p : Program) (l : Launch) (e : Env) (R : Room) (s : State) (m : MethodId) (args : Array Value) (below : List Frame) (meth : Method) (c0 : Code) (G : va_G) (TY : Nat → ClassId) (sz : Nat) (H0 : Heap) (Q : State → Prop) (y : Nat) (hS hE : ew_H) (aS : Nat → Nat → Nat) (c c' : ew_C) : Prop :=
  ew_Q p l e R s m args below meth c0 G TY sz H0 Q y hS hE aS c' → ew_Q p l e R s m args below meth c0 G TY sz H0 Q y hS hE aS c
theorem ew_tag0 {v : ew_V} (h : Nat.beq (ew_tag v) 0 = true) : ∃ x, v = ew_i x := by
  rcases v with v | q
  · cases v <;> first | exact ⟨_, rfl⟩ | cases h
  · cases h
theorem ew_tag1 {v : ew_V} (h : Nat.beq (ew_tag v) 1 = true) : ∃ x, v = ew_j x := by
  rcases v with v | q
  · cases v <;> first | exact ⟨_, rfl⟩ | cases h
  · cases h
theorem ew_tag2 {v : ew_V} (h : Nat.beq (ew_tag v) 2 = true) : ∃ x, v = .inl (.double x) := by
  rcases v with v | q
  · cases v <;> first | exact ⟨_, rfl⟩ | cases h
  · cases h
theorem ew_tag3 {v : ew_V} (h : Nat.beq (ew_tag v) 3 = true) : v = ew_0 ∨ ∃ q : Nat × Nat, v = .inr q := by
  rcases v with v | q
  · cases v <;> first | exact Or.inl rfl | cases h
  · exact Or.inr ⟨q, rfl⟩
/-- loads -/
theorem es_ld {t n : Nat} {v : ew_V} (h1 : ls[n]? = some (some v)) (ht : Nat.beq (ew_tag v) t = true) {i : Instr} {w : Nat} (hx : p.tables.exec = Jvm.exec) (hb : c0.code = ew_cd y) (hd : decode (ew_cd y) pc = .ok (i, w))
    (hi : (t = 0 ∧ ((i = .iload n ∧ w = 2) ∨ ∃ k : Fin 4, i = .iload_n k ∧ (k : Nat) = n ∧ w = 1)) ∨ (t = 1 ∧ ((i = .lload n ∧ w = 2) ∨ ∃ k : Fin 4, i = .lload_n k ∧ (k : Nat) = n ∧ w = 1)) ∨ (t = 2 ∧ ((i = .dload n ∧ w = 2) ∨ ∃ k : Fin 4, i = .dload_n k ∧ (k : Nat) = n ∧ w = 1)) ∨ (t = 3 ∧ ((i = .aload n ∧ w = 2) ∨ ∃ k : Fin 4, i = .aload_n k ∧ (k : Nat) = n ∧ w = 1))) :
    ew_K p l e R s m args below meth c0 G TY sz H0 Q y hS hE aS (pc, ls, st, h) (pc + w, ls, v :: st, h) := by
  refine es_st (fun w1 w2 => es_cons (w1 v (es_mem h1)) w2) (fun a H locs cells slots L I _ hL kk => ?_)
  have hat := ew_lp_at hL h1
  rcases hi with ⟨rfl, hi⟩ | ⟨rfl, hi⟩ | ⟨rfl, hi⟩ | ⟨rfl, hi⟩
  · obtain ⟨x, rfl⟩ := ew_tag0 ht
    rcases hi with ⟨rfl, rfl⟩ | ⟨k, rfl, hk, rfl⟩
    · exact lv_iload hx hb hd hat kk
    · exact lv_iload_n hx hb hd hk hat kk
  · obtain ⟨x, rfl⟩ := ew_tag1 ht
    rcases hi with ⟨rfl, rfl⟩ | ⟨k, rfl, hk, rfl⟩
    · exact lv_lload hx hb hd hat kk
    · exact lv_lload_n hx hb hd hk hat kk
  · obtain ⟨x, rfl⟩ := ew_tag2 ht
    rcases hi with ⟨rfl, rfl⟩ | ⟨k, rfl, hk, rfl⟩
    · exact lv_dload hx hb hd hat kk
    · exact lv_dload_n hx hb hd hk hat kk
  · rcases ew_tag3 ht with rfl | ⟨q, rfl⟩
    · rcases hi with ⟨rfl, rfl⟩ | ⟨k, rfl, hk, rfl⟩
      · exact lv_aloadN hx hb hd hat kk
      · exact lv_aload_nN hx hb hd hk hat kk
    · rcases hi with ⟨rfl, rfl⟩ | ⟨k, rfl, hk, rfl⟩
      · exact lv_aload hx hb hd hat kk
      · exact lv_aload_n hx hb hd hk hat kk
/-- stores of one place -/
theorem es_sto1 {t n : Nat} {v : ew_V} (ht : Nat.beq (ew_tag v) t = true) (hn : n < ls.length) {i : Instr} {w : Nat} (hx : p.tables.exec = Jvm.exec) (hb : c0.code = ew_cd y) (hd : decode (ew_cd y) pc = .ok (i, w))
    (hi : (t = 0 ∧ ((i = .istore n ∧ w = 2) ∨ ∃ k : Fin 4, i = .istore_n k ∧ (k : Nat) = n ∧ w = 1)) ∨ (t = 3 ∧ ((i = .astore n ∧ w = 2) ∨ ∃ k : Fin 4, i = .astore_n k ∧ (k : Nat) = n ∧ w = 1))) :
    ew_K p l e R s m args below meth c0 G TY sz H0 Q y hS hE aS (pc, ls, v :: st, h) (pc + w, ew_st1 ls n v, st, h) := by
  refine es_plain (es_len1 n v) (fun w1 w2 => ⟨fun z hz => es_st1 w1 (es_hd w2) hz, es_tail w2⟩) (fun a H locs cells slots L I _ hL hlen kk => ?_)
  have hnL : n < et_mx y := by omega
  rcases hi with ⟨rfl, hi⟩ | ⟨rfl, hi⟩
  · obtain ⟨x, rfl⟩ := ew_tag0 ht
    rcases hi with ⟨rfl, rfl⟩ | ⟨k, rfl, hk, rfl⟩
    · exact lv_istore hx hb hd hL hnL rfl (fun L' hL' => kk L' (ew_st1_has hL'))
    · exact lv_istore_n hx hb hd hk hL hnL rfl (fun L' hL' => kk L' (ew_st1_has hL'))
  · rcases ew_tag3 ht with rfl | ⟨q, rfl⟩
    · rcases hi with ⟨rfl, rfl⟩ | ⟨k, rfl, hk, rfl⟩
      · exact lv_astoreN hx hb hd hL hnL rfl (fun L' hL' => kk L' (ew_st1_has hL'))
      · exact lv_astore_nN hx hb hd hk hL hnL rfl (fun L' hL' => kk L' (ew_st1_has hL'))
    · rcases hi with ⟨rfl, rfl⟩ | ⟨k, rfl, hk, rfl⟩
      · exact lv_astore hx hb hd hL hnL rfl (fun L' hL' => kk L' (ew_st1_has hL'))
      · exact lv_astore_n hx hb hd hk hL hnL rfl (fun L' hL' => kk L' (ew_st1_has hL'))
theorem es_sto2 {t n : Nat} {v : ew_V} (ht : Nat.beq (ew_tag v) t = true) (hn : n + 1 < ls.length) {i : Instr} {w : Nat} (hx : p.tables.exec = Jvm.exec) (hb : c0.code = ew_cd y) (hd : decode (ew_cd y) pc = .ok (i, w))
    (hi : (t = 1 ∧ ((i = .lstore n ∧ w = 2) ∨ ∃ k : Fin 4, i = .lstore_n k ∧ (k : Nat) = n ∧ w = 1)) ∨ (t = 2 ∧ ((i = .dstore n ∧ w = 2) ∨ ∃ k : Fin 4, i = .dstore_n k ∧ (k : Nat) = n ∧ w = 1))) :
    ew_K p l e R s m args below meth c0 G TY sz H0 Q y hS hE aS (pc, ls, v :: st, h) (pc + w, ew_st2 ls n v, st, h) := by
  refine es_plain (es_len2 n v) (fun w1 w2 => ⟨fun z hz => es_st2 w1 (es_hd w2) hz, es_tail w2⟩) (fun a H locs cells slots L I _ hL hlen kk => ?_)
  have hnL : n + 1 < et_mx y := by omega
  rcases hi with ⟨rfl, hi⟩ | ⟨rfl, hi⟩
  · obtain ⟨x, rfl⟩ := ew_tag1 ht
    rcases hi with ⟨rfl, rfl⟩ | ⟨k, rfl, hk, rfl⟩
    · exact lv_lstore hx hb hd hL hnL rfl (fun L' hL' => kk L' (ew_st2_has hL'))
    · exact lv_lstore_n hx hb hd hk hL hnL rfl (fun L' hL' => kk L' (ew_st2_has hL'))
  · obtain ⟨x, rfl⟩ := ew_tag2 ht
    rcases hi with ⟨rfl, rfl⟩ | ⟨k, rfl, hk, rfl⟩
    · exact lv_dstore hx hb hd hL hnL rfl (fun L' hL' => kk L' (ew_st2_has hL'))
    · exact lv_dstore_n hx hb hd hk hL hnL rfl (fun L' hL' => kk L' (ew_st2_has hL'))
theorem es_iinc {n : Nat} {k : Int} {x : Int32} (h1 : ls[n]? = some (some (ew_i x))) (hn : n < ls.length) (hcv : Int32.ofInt k = cv) (hx : p.tables.exec = Jvm.exec) (hb : c0.code = ew_cd y) (hd : decode (ew_cd y) pc = .ok (.iinc n k, 3)) :
    ew_K p l e R s m args below meth c0 G TY sz H0 Q y hS hE aS (pc, ls, st, h) (pc + 3, ew_st1 ls n (ew_i (x + cv)), st, h) := by
  refine es_plain (es_len1 n _) (fun w1 w2 => ⟨fun z hz => es_st1 (v := ew_i (x + cv)) w1 trivial hz, w2⟩) (fun a H locs cells slots L I _ hL hlen kk => ?_)
  have hnL : n < et_mx y := by omega
  have hm : (0 + n, ew_c a (ew_i x)) ∈ ew_lp a 0 ls := (ew_lp_mem ls 0 _).mpr ⟨n, _, h1, rfl⟩
  rw [Nat.zero_add] at hm
  obtain ⟨j, hj⟩ := List.getElem?_of_mem hm
  exact lv_iinc (v := x + cv) hx hb hd hL hj (by rw [hcv]) hnL rfl (fun L' hL' => kk L' (ew_st1_has (v := ew_i (x + cv)) hL'))
theorem es_iconst {k : Int} (hcv : Int32.ofInt k = cv) (hx : p.tables.exec = Jvm.exec) (hb : c0.code = ew_cd y) (hd : decode (ew_cd y) pc = .ok (.iconst k, 1)) : ew_K p l e R s m args below meth c0 G TY sz H0 Q y hS hE aS (pc, ls, st, h) (pc + 1, ls, ew_i cv :: st, h) :=
  es_st (fun _ w2 => es_cons trivial w2) (fun _ _ _ _ _ _ _ _ _ kk => lv_iconst hx hb hd hcv kk)
theorem es_bipush {k : Int} (hcv : (Int8.ofInt k).toInt32 = cv) (hx : p.tables.exec = Jvm.exec) (hb : c0.code = ew_cd y) (hd : decode (ew_cd y) pc = .ok (.bipush k, 2)) : ew_K p l e R s m args below meth c0 G TY sz H0 Q y hS hE aS (pc, ls, st, h) (pc + 2, ls, ew_i cv :: st, h) :=
  es_st (fun _ w2 => es_cons trivial w2) (fun _ _ _ _ _ _ _ _ _ kk => lv_bipush hx hb hd hcv kk)
theorem es_sipush {k : Int} (hcv : (Int16.ofInt k).toInt32 = cv) (hx : p.tables.exec = Jvm.exec) (hb : c0.code = ew_cd y) (hd : decode (ew_cd y) pc = .ok (.sipush k, 3)) : ew_K p l e R s m args below meth c0 G TY sz H0 Q y hS hE aS (pc, ls, st, h) (pc + 3, ls, ew_i cv :: st, h) :=
  es_st (fun _ w2 => es_cons trivial w2) (fun _ _ _ _ _ _ _ _ _ kk => lv_sipush hx hb hd hcv kk)
theorem es_null (hx : p.tables.exec = Jvm.exec) (hb : c0.code = ew_cd y) (hd : decode (ew_cd y) pc = .ok (.aconst_null, 1)) : ew_K p l e R s m args below meth c0 G TY sz H0 Q y hS hE aS (pc, ls, st, h) (pc + 1, ls, ew_0 :: st, h) :=
  es_st (fun _ w2 => es_cons trivial w2) (fun _ _ _ _ _ _ _ _ _ kk => lv_null hx hb hd kk)
theorem es_lconst {k : Fin 2} (hx : p.tables.exec = Jvm.exec) (hb : c0.code = ew_cd y) (hd : decode (ew_cd y) pc = .ok (.lconst k, 1)) : ew_K p l e R s m args below meth c0 G TY sz H0 Q y hS hE aS (pc, ls, st, h) (pc + 1, ls, ew_j (Int64.ofNat k) :: st, h) :=
  es_st (fun _ w2 => es_cons trivial w2) (fun _ _ _ _ _ _ _ _ _ kk => lv_lconst hx hb hd rfl kk)
theorem es_ldc2 {k : Nat} {v : Int64} (hown : s.vm.findClass (ew_on (et_cls y)) = some m.cls) (hw : (Jvm.Cond.constantLong (ew_on (et_cls y)) k v).before args s = true) (hx : p.tables.exec = Jvm.exec) (hb : c0.code = ew_cd y) (hd : decode (ew_cd y) pc = .ok (.ldc2_w k, 3)) : ew_K p l e R s m args below meth c0 G TY sz H0 Q y hS hE aS (pc, ls, st, h) (pc + 3, ls, ew_j v :: st, h) :=
  es_st (fun _ w2 => es_cons trivial w2) (fun _ _ _ _ _ _ _ _ _ kk => lv_ldc2 hx hb hown hw hd kk)
theorem es_ldc {k : Nat} {v : Int32} (hown : s.vm.findClass (ew_on (et_cls y)) = some m.cls) (hw : (Jvm.Cond.constant (ew_on (et_cls y)) k v).before args s = true) (hx : p.tables.exec = Jvm.exec) (hb : c0.code = ew_cd y) (hd : decode (ew_cd y) pc = .ok (.ldc k, 2)) : ew_K p l e R s m args below meth c0 G TY sz H0 Q y hS hE aS (pc, ls, st, h) (pc + 2, ls, ew_i v :: st, h) :=
  es_st (fun _ w2 => es_cons trivial w2) (fun _ _ _ _ _ _ _ _ _ kk => lv_ldc hx hb hown hw hd kk)
theorem es_dconst (hx : p.tables.exec = Jvm.exec) (hb : c0.code = ew_cd y) (hd : decode (ew_cd y) pc = .ok (.dconst 0, 1)) : ew_K p l e R s m args below meth c0 G TY sz H0 Q y hS hE aS (pc, ls, st, h) (pc + 1, ls, .inl (.double FP.dconst0) :: st, h) :=
  es_st (fun _ w2 => es_cons trivial w2) (fun _ _ _ _ _ _ _ _ _ kk => lv_dconst0 hx hb hd kk)
theorem es_bin {i : Instr} {f : Int32 → Int32 → Int32} {x z : Int32} (hx : p.tables.exec = Jvm.exec) (hb : c0.code = ew_cd y) (hd : decode (ew_cd y) pc = .ok (i, 1)) (hi : (i = .iadd ∧ f = fun x y => x + y) ∨ (i = .isub ∧ f = fun x y => x - y) ∨ (i = .imul ∧ f = fun x y => x * y) ∨ (i = .iand ∧ f = fun x y => x &&& y) ∨ (i = .ishr ∧ f = fun (x y : Int32) => x >>> (y &&& 31))) :
    ew_K p l e R s m args below meth c0 G TY sz H0 Q y hS hE aS (pc, ls, ew_i z :: ew_i x :: st, h) (pc + 1, ls, ew_i (f x z) :: st, h) := by
  refine es_st (fun _ w2 => es_cons trivial (es_tail (es_tail w2))) (fun a H locs cells slots L I _ hL kk => ?_)
  rcases hi with ⟨rfl, rfl⟩ | ⟨rfl, rfl⟩ | ⟨rfl, rfl⟩ | ⟨rfl, rfl⟩ | ⟨rfl, rfl⟩
  · exact lv_iadd hx hb hd kk
  · exact lv_isub hx hb hd kk
  · exact lv_imul hx hb hd kk
  · exact lv_iand hx hb hd kk
  · exact lv_ishr hx hb hd kk
theorem es_binl {i : Instr} {f : Int64 → Int64 → Int64} {x z : Int64} (hx : p.tables.exec = Jvm.exec) (hb : c0.code = ew_cd y) (hd : decode (ew_cd y) pc = .ok (i, 1)) (hi : (i = .ladd ∧ f = fun x y => x + y) ∨ (i = .lmul ∧ f = fun x y => x * y)) :
    ew_K p l e R s m args below meth c0 G TY sz H0 Q y hS hE aS (pc, ls, ew_j z :: ew_j x :: st, h) (pc + 1, ls, ew_j (f x z) :: st, h) := by
  refine es_st (fun _ w2 => es_cons trivial (es_tail (es_tail w2))) (fun a H locs cells slots L I _ hL kk => ?_)
  rcases hi with ⟨rfl, rfl⟩ | ⟨rfl, rfl⟩
  · exact lv_ladd hx hb hd kk
  · exact lv_lmul hx hb hd kk
theorem es_idiv {x z : Int32} (hz : ¬ z = 0) (hx : p.tables.exec = Jvm.exec) (hb : c0.code = ew_cd y) (hd : decode (ew_cd y) pc = .ok (.idiv, 1)) : ew_K p l e R s m args below meth c0 G TY sz H0 Q y hS hE aS (pc, ls, ew_i z :: ew_i x :: st, h) (pc + 1, ls, ew_i (x / z) :: st, h) :=
  es_st (fun _ w2 => es_cons trivial (es_tail (es_tail w2))) (fun _ _ _ _ _ _ _ _ _ kk => lv_idiv hx hb hd hz kk)
theorem es_irem {x z : Int32} (hz : ¬ z = 0) (hx : p.tables.exec = Jvm.exec) (hb : c0.code = ew_cd y) (hd : decode (ew_cd y) pc = .ok (.irem, 1)) : ew_K p l e R s m args below meth c0 G TY sz H0 Q y hS hE aS (pc, ls, ew_i z :: ew_i x :: st, h) (pc + 1, ls, ew_i (x - x / z * z) :: st, h) :=
  es_st (fun _ w2 => es_cons trivial (es_tail (es_tail w2))) (fun _ _ _ _ _ _ _ _ _ kk => lv_irem hx hb hd hz kk)
theorem es_i2l {x : Int32} (hx : p.tables.exec = Jvm.exec) (hb : c0.code = ew_cd y) (hd : decode (ew_cd y) pc = .ok (.i2l, 1)) : ew_K p l e R s m args below meth c0 G TY sz H0 Q y hS hE aS (pc, ls, ew_i x :: st, h) (pc + 1, ls, ew_j x.toInt64 :: st, h) :=
  es_st (fun _ w2 => es_cons trivial (es_tail w2)) (fun _ _ _ _ _ _ _ _ _ kk => lv_i2l hx hb hd rfl kk)
theorem es_i2d {x : Int32} (hx : p.tables.exec = Jvm.exec) (hb : c0.code = ew_cd y) (hd : decode (ew_cd y) pc = .ok (.i2d, 1)) : ew_K p l e R s m args below meth c0 G TY sz H0 Q y hS hE aS (pc, ls, ew_i x :: st, h) (pc + 1, ls, .inl (.double (FP.i2d x)) :: st, h) :=
  es_st (fun _ w2 => es_cons trivial (es_tail w2)) (fun _ _ _ _ _ _ _ _ _ kk => lv_i2d hx hb hd kk)
theorem es_ddiv {x z : UInt64} (hz : vf_n64 (FP.ddiv x z)) (hx : p.tables.exec = Jvm.exec) (hb : c0.code = ew_cd y) (hd : decode (ew_cd y) pc = .ok (.ddiv, 1)) : ew_K p l e R s m args below meth c0 G TY sz H0 Q y hS hE aS (pc, ls, .inl (.double z) :: .inl (.double x) :: st, h) (pc + 1, ls, .inl (.double (FP.ddiv x z)) :: st, h) :=
  es_st (fun _ w2 => es_cons trivial (es_tail (es_tail w2))) (fun _ _ _ _ _ _ _ _ _ kk => lv_ddiv hx hb hd hz kk)
theorem es_dcmp {x z : UInt64} {o : CmpOp} (hx : p.tables.exec = Jvm.exec) (hb : c0.code = ew_cd y) (hd : decode (ew_cd y) pc = .ok (.dcmp o, 1)) : ew_K p l e R s m args below meth c0 G TY sz H0 Q y hS hE aS (pc, ls, .inl (.double z) :: .inl (.double x) :: st, h) (pc + 1, ls, ew_i (Op.cmpValue (FP.dcmp x z) o) :: st, h) :=
  es_st (fun _ w2 => es_cons trivial (es_tail (es_tail w2))) (fun _ _ _ _ _ _ _ _ _ kk => lv_dcmp hx hb hd kk)
theorem ew_cat1 {v : ew_V} (h : Nat.beq (ew_cat v) 1 = true) (a : Nat → Nat → Nat) : (ew_c a v).category = 1 := by rw [ew_c_cat]; exact Nat.eq_of_beq_eq_true h
theorem es_dup {v : ew_V} (hv : Nat.beq (ew_cat v) 1 = true) (hx : p.tables.exec = Jvm.exec) (hb : c0.code = ew_cd y) (hd : decode (ew_cd y) pc = .ok (.dup, 1)) : ew_K p l e R s m args below meth c0 G TY sz H0 Q y hS hE aS (pc, ls, v :: st, h) (pc + 1, ls, v :: v :: st, h) :=
  es_st (fun _ w2 => es_cons (es_hd w2) w2) (fun a _ _ _ _ _ _ _ _ kk => lv_dup hx hb hd (ew_cat1 hv a) kk)
theorem es_pop {v : ew_V} (hv : Nat.beq (ew_cat v) 1 = true) (hx : p.tables.exec = Jvm.exec) (hb : c0.code = ew_cd y) (hd : decode (ew_cd y) pc = .ok (.pop, 1)) : ew_K p l e R s m args below meth c0 G TY sz H0 Q y hS hE aS (pc, ls, v :: st, h) (pc + 1, ls, st, h) :=
  es_st (fun _ w2 => es_tail w2) (fun a _ _ _ _ _ _ _ _ kk => lv_pop hx hb hd (ew_cat1 hv a) kk)
theorem es_dup_x1 {v w : ew_V} (hv : Nat.beq (ew_cat v) 1 = true) (hw : Nat.beq (ew_cat w) 1 = true) (hx : p.tables.exec = Jvm.exec) (hb : c0.code = ew_cd y) (hd : decode (ew_cd y) pc = .ok (.dup_x1, 1)) : ew_K p l e R s m args below meth c0 G TY sz H0 Q y hS hE aS (pc, ls, v :: w :: st, h) (pc + 1, ls, v :: w :: v :: st, h) :=
  es_st (fun _ w2 => es_cons (es_hd w2) (es_cons (es_hd (es_tail w2)) (es_cons (es_hd w2) (es_tail (es_tail w2))))) (fun a _ _ _ _ _ _ _ _ kk => lv_dup_x1 hx hb hd (ew_cat1 hv a) (ew_cat1 hw a) kk)
theorem es_dup2 {v w : ew_V} (hv : Nat.beq (ew_cat v) 1 = true) (hw : Nat.beq (ew_cat w) 1 = true) (hx : p.tables.exec = Jvm.exec) (hb : c0.code = ew_cd y) (hd : decode (ew_cd y) pc = .ok (.dup2, 1)) : ew_K p l e R s m args below meth c0 G TY sz H0 Q y hS hE aS (pc, ls, v :: w :: st, h) (pc + 1, ls, v :: w :: v :: w :: st, h) :=
  es_st (fun _ w2 => es_cons (es_hd w2) (es_cons (es_hd (es_tail w2)) w2)) (fun a _ _ _ _ _ _ _ _ kk => lv_dup2_11 hx hb hd (ew_cat1 hv a) (ew_cat1 hw a) kk)
theorem es_goto {o : Int} (ht : (pc : Int) + o = (tg : Int)) (hx : p.tables.exec = Jvm.exec) (hb : c0.code = ew_cd y) (hd : decode (ew_cd y) pc = .ok (.goto o, 3)) : ew_K p l e R s m args below meth c0 G TY sz H0 Q y hS hE aS (pc, ls, st, h) (tg, ls, st, h) :=
  es_st (fun _ w2 => w2) (fun _ _ _ _ _ _ _ _ _ kk => lv_goto hx hb hd ht kk)
end ES
