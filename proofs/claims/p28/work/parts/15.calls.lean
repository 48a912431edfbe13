/-! Calls: a run of the small machine as a contract, and the four ways of calling. -/
/-- facts of the tables that hold in any state of the run -/
def ew_WP (NW : List Cond) (G : va_G) (TY : Nat → ClassId) (Wd : State → Prop) : Prop :=
  (∀ U U' : State, U.vm = U'.vm → Wd U → Wd U') ∧ (∀ s U : State, s.WarmedH U.vm → Wd s → Wd U) ∧
  ∀ U : State, Wd U → va_K G vwCl [] U ∧ ew_AT TY U ∧ ew_AS TY G U ∧ ∀ w ∈ NW, va_Nw w U
/-- the places agree on what was there -/
def ew_ex (h : ew_H) (a a' : Nat → Nat → Nat) : Prop := ∀ k i, (k = 31 ∨ h.2.2.1 k i = true) → a' k i = a k i
theorem ew_ex.rf (h : ew_H) (a : Nat → Nat → Nat) : ew_ex h a a := fun _ _ _ => rfl
theorem ew_ex.tr {h h' : ew_H} {a a' a'' : Nat → Nat → Nat} (x : ew_ex h a a') (l : ew_le h h') (y : ew_ex h' a' a'') : ew_ex h a a'' := fun k i e => (y k i (e.imp id (l.1 k i))).trans (x k i e)
theorem ew_ex.c {h : ew_H} {a a' : Nat → Nat → Nat} (x : ew_ex h a a') {v : ew_V} (w : ew_wf h v) : ew_c a' v = ew_c a v := by
  rcases v with v | q
  · rfl
  · show Value.ref _ = Value.ref _
    rw [x q.1 q.2 w]
theorem ew_ex.map {h : ew_H} {a a' : Nat → Nat → Nat} (x : ew_ex h a a') {l : List ew_V} (w : ∀ v ∈ l, ew_wf h v) : l.map (ew_c a') = l.map (ew_c a) := List.map_congr_left fun v hv => x.c (w v hv)
theorem ew_ex.al {h : ew_H} {a : Nat → Nat → Nat} {k i q : Nat} (hk : ¬ k = 31) (hn : h.2.2.1 k i = false) : ew_ex h a (ew_al a k i q) := fun k' i' e => ew_al_ne a q (fun z => by
  obtain ⟨rfl, rfl⟩ := z
  rcases e with e | e
  · exact hk e
  · rw [hn] at e; cases e)
/-- the constants lie where they lay, and are there -/
def ew_ck (CK : Nat → Nat → Option Nat) (h : ew_H) (a : Nat → Nat → Nat) : Prop := ∀ k i q, CK k i = some q → h.2.2.1 k i = true ∧ a k i = q
theorem ew_ck.to {CK : Nat → Nat → Option Nat} {h h' : ew_H} {a a' : Nat → Nat → Nat} (c : ew_ck CK h a) (x : ew_ex h a a') (l : ew_le h h') : ew_ck CK h' a' := fun k i q e => ⟨l.1 k i (c k i q e).1, (x k i (Or.inr (c k i q e).1)).trans (c k i q e).2⟩
def ew_Pc (G : va_G) (TY : Nat → ClassId) (sz : Nat) (H0 : Heap) (CK : Nat → Nat → Option Nat) (Wd : State → Prop) (as : List ew_V) (h : ew_H) (a : Nat → Nat → Nat) : Array Value → State → Prop := fun av U => av = (as.map (ew_c a)).toArray ∧ ew_I G TY sz H0 a h U.heap ∧ Wd U ∧ (∀ w ∈ as, ew_wf h w) ∧ ew_ck CK h a
def ew_Qc (G : va_G) (TY : Nat → ClassId) (sz : Nat) (H0 : Heap) (h : ew_H) (a : Nat → Nat → Nat) (v : Option ew_V) (h' : ew_H) : Array Value → State → Outcome → State → Prop := fun _ _ o t => ∃ a', ew_ex h a a' ∧ o = .returned (v.map (ew_c a')) ∧ ew_I G TY sz H0 a' h' t.heap ∧ ∀ w, v = some w → ew_wf h' w
def ew_rm (d : Nat) (h h' : ew_H) : Room := { frames := 6 + d, cells := h'.2.2.2.2.1 - h.2.2.2.2.1, slots := h'.2.2.2.2.2 - h.2.2.2.2.2, locals := 150 + 40 * d }
/-- method z, from objects h to h', with answer v -/
def ew_Mt (l : Launch) (G : va_G) (TY : Nat → ClassId) (sz : Nat) (H0 : Heap) (CK : Nat → Nat → Option Nat) (Wd : State → Prop) (d z : Nat) (as : List ew_V) (h : ew_H) (v : Option ew_V) (h' : ew_H) : Prop :=
  ∀ a, Met l (ew_nm z) (ew_cw z :: ew_TW) (ew_rm d h h') (ew_Pc G TY sz H0 CK Wd as h a) (ew_Qc G TY sz H0 h a v h') (h'.2.2.2.2.1 - h.2.2.2.2.1) (h'.2.2.2.2.2 - h.2.2.2.2.2) (fun q => sz ≤ q)
/-- what the tables say of a method: 0 static, 1 of an object, 2 a constructor -/
def ew_YP (z : Nat) : Prop := ew_cw z ∈ ew_TW ∧ Cond.initialized (ew_nm z).cls ∈ ew_TW ∧ ((ew_nm z).cls ≠ "java/lang/invoke/MethodHandle" ∧ (ew_nm z).cls ≠ "java/lang/invoke/VarHandle") ∧ et_mx z ≤ 20 ∧
  (et_kd z = 0 → Cond.static (ew_nm z) ∈ ew_TW) ∧ (et_kd z = 1 → Cond.instanceMethod (ew_nm z) ∈ ew_TW) ∧ (et_kd z = 2 → Cond.instanceMethod (ew_nm z) ∈ ew_TW ∧ (ew_nm z).name = "<init>" ∧ ew_rt z = none)
def ew_LP (NW : List Cond) (own : String) (x z n : Nat) : Prop := (Cond.methodLink own x (ew_nm z) ∈ ew_TW ∨ ∃ host, Cond.methodLinkNest own x (ew_nm z) host ∈ NW) ∧ (parseMethodDescriptor (ew_nm z).desc).map (fun d => d.parameters.length) = some n
theorem ew_good {ws : List Cond} (h : ∀ w ∈ ws, w ∈ ew_TW) : GoodIn ew_TW ws := fun w hw => ⟨h w hw, good_of_word (List.mem_filter.mp (h w hw)).2⟩
theorem ew_cats_map (a : Nat → Nat → Nat) : ∀ l : List ew_V, ((l.map (ew_c a)).map fun v => v.category).sum = ew_cats l
  | [] => rfl
  | v :: l => by rw [List.map_cons, List.map_cons, List.sum_cons, ew_cats_map a l, ew_c_cat]; rfl
theorem es_cons {st : List ew_V} {v : ew_V} {P : ew_V → Prop} (h1 : P v) (h2 : ∀ w ∈ st, P w) : ∀ w ∈ v :: st, P w := fun w hw => by
  rcases List.mem_cons.mp hw with rfl | q
  · exact h1
  · exact h2 w q
section EC
variable {p : Program} {l : Launch} {e : Env} {R : Room} {s : State} {m : MethodId} {args : Array Value} {below : List Frame} {meth : Method} {c : Code} {H : Heap} {locs : List Loc} {cells slots : Nat} {Q : State → Prop}
variable {G : va_G} {TY : Nat → ClassId} {sz : Nat} {H0 : Heap} {a : Nat → Nat → Nat} {h : ew_H} {cc : ByteArray} {pc : Nat} {L : Array Slot} {own : String} {NW : List Cond} {Wd : State → Prop} {CK : Nat → Nat → Option Nat}
theorem ew_blind (hW : ew_WP NW G TY Wd) {as : List ew_V} : FrameBlind (ew_Pc G TY sz H0 CK Wd as h a) := fun av U g mk q => ⟨q.1, q.2.1, hW.1 U (U.calling g mk av) rfl q.2.2.1, q.2.2.2⟩
/-- what a call gives back -/
theorem er_back {rest : List ew_V} {v : Option ew_V} {h' : ew_H} {g : JFrame} {A : Array Value} (hr : va_Run p l e R s m args below meth c H locs cells slots (h'.2.2.2.2.1 - h.2.2.2.2.1) (h'.2.2.2.2.2 - h.2.2.2.2.2) g (rest.map (ew_c a)) (ew_Qc G TY sz H0 h a v h' A) (fun q => sz ≤ q)) (hrest : ∀ v ∈ rest, ew_wf h v) (hlocs : ∀ q ∈ locs, sz ≤ q.base)
    (kk : ∀ (a' : Nat → Nat → Nat) (H1 : Heap) (locs1 : List Loc), ew_ex h a a' → (∀ q ∈ locs1, sz ≤ q.base) → ew_I G TY sz H0 a' h' H1 → (∀ w, v = some w → ew_wf h' w) → W p l e R s m args below meth c H1 locs1 (cells + (h'.2.2.2.2.1 - h.2.2.2.2.1)) (slots + (h'.2.2.2.2.2 - h.2.2.2.2.2)) Q { g with pc := g.pc + 3, stack := (v.toList ++ rest).map (ew_c a') }) : W p l e R s m args below meth c H locs cells slots Q g := by
  intro T hT X
  obtain ⟨vv, st₀, t, T', L', h0, X', hL, e1, e2, ⟨a', hex, hv, hI, hvw⟩, st⟩ := hr T hT X
  have hvv : vv = v.map (ew_c a') := Outcome.returned.inj hv
  obtain ⟨t2, a1, b1⟩ := kk a' T'.heap (locs ++ L') hex (fun q hq => by
    rcases List.mem_append.mp hq with z | z
    · exact hlocs q z
    · exact hL q z) (by rw [e1]; exact hI) hvw T' rfl X'
  refine ⟨t2, st t2 ?_, b1⟩
  rw [hvv, ← hex.map hrest]
  have : (Option.map (ew_c a') v).toList ++ rest.map (ew_c a') = (v.toList ++ rest).map (ew_c a') := by
    cases v <;> simp
  rw [this]
  exact a1
theorem er_callV (hW : ew_WP NW G TY Wd) (hwd : Wd s) (hx : p.tables.exec = Jvm.exec) (hb : c.code = cc) (hml : c.maxLocals = L.size) (hown : s.vm.findClass own = some m.cls) (hts : ∀ w ∈ ew_TW, w.before args s = true) (I : ew_I G TY sz H0 a h H) (hck : ew_ck CK h a)
    {d x z n k i : Nat} {r : vw_C} (hr : vwCl[ew_ct k]? = some r) (hrc : (ew_nm z).cls = r.1) (h17 : ew_ct k < 17) (hY : ew_YP z) (hkd : et_kd z = 1) (y8 : Cond.selects (ew_nm z).cls (ew_nm z) (ew_nm z) ∈ ew_TW) (hL : ew_LP NW own x z n) {as rest : List ew_V} (hn : as.length = n) (hl : h.2.2.1 k i = true) (haw : ∀ v ∈ as, ew_wf h v) (hrest : ∀ v ∈ rest, ew_wf h v) {v : Option ew_V} {h' : ew_H} (hM : ew_Mt l G TY sz H0 CK Wd d z (ew_o k i :: as) h v h') (hc8 : ew_cats rest ≤ 8)
    (hf : 6 + d + 1 ≤ R.frames) (hlo : 150 + 40 * d + 40 ≤ R.locals) (hlocs : ∀ q ∈ locs, sz ≤ q.base) (hcl : cells + (h'.2.2.2.2.1 - h.2.2.2.2.1) ≤ R.cells) (hsl : slots + (h'.2.2.2.2.2 - h.2.2.2.2.2) ≤ R.slots) (hdg : decode cc pc = .ok (.invokevirtual x, 3))
    (kk : ∀ (a' : Nat → Nat → Nat) (H1 : Heap) (locs1 : List Loc), ew_ex h a a' → (∀ q ∈ locs1, sz ≤ q.base) → ew_I G TY sz H0 a' h' H1 → (∀ w, v = some w → ew_wf h' w) → W p l e R s m args below meth c H1 locs1 (cells + (h'.2.2.2.2.1 - h.2.2.2.2.1)) (slots + (h'.2.2.2.2.2 - h.2.2.2.2.2)) Q (F0 m (pc + 3) L ((v.toList ++ rest).map (ew_c a')))) :
    W p l e R s m args below meth c H locs cells slots Q (F0 m pc L ((as.reverse ++ ew_o k i :: rest).map (ew_c a))) := by
  obtain ⟨y1, y2, y3, y4, -, y6, -⟩ := hY
  have y7 := y6 hkd
  obtain ⟨hlk, hdesc⟩ := hL
  obtain ⟨hK, -, -, hNW⟩ := hW.2.2 s hwd
  obtain ⟨r', cell, hr', q1, q2, q3, -⟩ := er_rdO I hl h17
  cases hr.symm.trans hr'
  have hcl2 := (hK.1 _ _ hr).2
  have hst : (as.reverse ++ ew_o k i :: rest).map (ew_c a) = (as.map (ew_c a)).reverse ++ .ref (a k i) :: rest.map (ew_c a) := by
    rw [List.map_append, List.map_reverse]; rfl
  have hpre : PreV s H r.1 (a k i) (ew_Pc G TY sz H0 CK Wd (ew_o k i :: as) h a) (as.map (ew_c a)) := ⟨ew_blind hW, ⟨cell, q1, q3.2, by rw [q2]; exact hcl2.1⟩, fun U hU hw => ⟨rfl, by rw [hU]; exact I, hW.2.1 s U hw hwd, es_cons (Or.inr hl) haw, hck⟩⟩
  rcases hlk with hlk | ⟨host, hlk⟩
  · refine er_back (va_runV (C := r.1) (As := as.map (ew_c a)) (Ts := ew_TW) (own := own) ⟨hx, hb, hml, hown, hts⟩ (hM a) (cwV n hts (ew_good (fun w hw => ?_)) rfl rfl rfl ⟨hrc, y3.1, y3.2, hdesc⟩ ⟨hf, ?_⟩) hpre rfl (by rw [List.length_map]; exact hn) rfl hst (by rw [ew_cats_map]; show 2 * 0 + _ ≤ 8; omega) hdg ⟨hcl, hsl⟩) hrest hlocs kk
    · rcases List.mem_append.mp hw with q | q
      · simp only [List.mem_cons, List.not_mem_nil, or_false] at q
        rcases q with rfl | rfl | rfl | rfl
        · exact hlk
        · exact y7
        · rw [← hrc]; exact y8
        · rw [← hrc]; exact y2
      · rcases List.mem_cons.mp q with rfl | q
        · exact y1
        · exact q
    · show 8 + (et_mx z + 11) + (150 + 40 * d) ≤ R.locals
      omega
  · refine er_back (va_runVN (C := r.1) (As := as.map (ew_c a)) (Ts := ew_TW) (own := own) ⟨hx, hb, hml, hown, hts⟩ (hM a) ⟨va_cnB n hts (ew_good (fun w hw => ?_)) rfl rfl rfl (hNW _ hlk) (hts _ y2) ⟨y3.1, y3.2, hdesc⟩ ⟨hf, ?_⟩, hts _ y7, by rw [← hrc]; exact hts _ y8⟩ hpre rfl (by rw [List.length_map]; exact hn) rfl hst (by rw [ew_cats_map]; show 2 * 0 + _ ≤ 8; omega) hdg ⟨hcl, hsl⟩) hrest hlocs kk
    · rcases List.mem_cons.mp hw with rfl | q
      · exact y1
      · exact q
    · show 8 + (et_mx z + 11) + (150 + 40 * d) ≤ R.locals
      omega
theorem er_callS (hW : ew_WP NW G TY Wd) (hwd : Wd s) (hx : p.tables.exec = Jvm.exec) (hb : c.code = cc) (hml : c.maxLocals = L.size) (hown : s.vm.findClass own = some m.cls) (hts : ∀ w ∈ ew_TW, w.before args s = true) (I : ew_I G TY sz H0 a h H) (hck : ew_ck CK h a)
    {d x z n : Nat} (hY : ew_YP z) (hkd : et_kd z = 0) (hL : ew_LP NW own x z n) {as rest : List ew_V} (hn : as.length = n) (haw : ∀ v ∈ as, ew_wf h v) (hrest : ∀ v ∈ rest, ew_wf h v) {v : Option ew_V} {h' : ew_H} (hM : ew_Mt l G TY sz H0 CK Wd d z as h v h') (hc8 : ew_cats rest ≤ 8)
    (hf : 6 + d + 1 ≤ R.frames) (hlo : 150 + 40 * d + 40 ≤ R.locals) (hlocs : ∀ q ∈ locs, sz ≤ q.base) (hcl : cells + (h'.2.2.2.2.1 - h.2.2.2.2.1) ≤ R.cells) (hsl : slots + (h'.2.2.2.2.2 - h.2.2.2.2.2) ≤ R.slots) (hdg : decode cc pc = .ok (.invokestatic x, 3))
    (kk : ∀ (a' : Nat → Nat → Nat) (H1 : Heap) (locs1 : List Loc), ew_ex h a a' → (∀ q ∈ locs1, sz ≤ q.base) → ew_I G TY sz H0 a' h' H1 → (∀ w, v = some w → ew_wf h' w) → W p l e R s m args below meth c H1 locs1 (cells + (h'.2.2.2.2.1 - h.2.2.2.2.1)) (slots + (h'.2.2.2.2.2 - h.2.2.2.2.2)) Q (F0 m (pc + 3) L ((v.toList ++ rest).map (ew_c a')))) :
    W p l e R s m args below meth c H locs cells slots Q (F0 m pc L ((as.reverse ++ rest).map (ew_c a))) := by
  obtain ⟨y1, y2, y3, y4, y5, -, -⟩ := hY
  have y5 := y5 hkd
  obtain ⟨hlk, hdesc⟩ := hL
  obtain ⟨hK, -, -, hNW⟩ := hW.2.2 s hwd
  have hst : (as.reverse ++ rest).map (ew_c a) = (as.map (ew_c a)).reverse ++ rest.map (ew_c a) := by
    rw [List.map_append, List.map_reverse]
  have hpre : PreS s H (ew_Pc G TY sz H0 CK Wd as h a) (as.map (ew_c a)) := ⟨ew_blind hW, fun U hU hw => ⟨rfl, by rw [hU]; exact I, hW.2.1 s U hw hwd, haw, hck⟩⟩
  have hG : GoodIn ew_TW (ew_cw z :: ew_TW) := ew_good (fun w hw => by
    rcases List.mem_cons.mp hw with rfl | q
    · exact y1
    · exact q)
  have hR : (ew_rm d h h').frames + 1 ≤ R.frames ∧ 8 + (et_mx z + 11) + (ew_rm d h h').locals ≤ R.locals := ⟨hf, by show 8 + (et_mx z + 11) + (150 + 40 * d) ≤ R.locals; omega⟩
  rcases hlk with hlk | ⟨host, hlk⟩
  · exact er_back (va_runS (As := as.map (ew_c a)) (Ts := ew_TW) (own := own) ⟨hx, hb, hml, hown, hts⟩ (hM a) ⟨callB_of n hts hG rfl rfl rfl (hts _ y2) (hts _ hlk) ⟨y3.1, y3.2, hdesc⟩ hR, hts _ y5⟩ hpre rfl (by rw [List.length_map]; exact hn) rfl hst (by rw [ew_cats_map]; show 2 * 0 + _ ≤ 8; omega) hdg ⟨hcl, hsl⟩) hrest hlocs kk
  · exact er_back (va_runSN (As := as.map (ew_c a)) (Ts := ew_TW) (own := own) ⟨hx, hb, hml, hown, hts⟩ (hM a) ⟨va_cnB n hts hG rfl rfl rfl (hNW _ hlk) (hts _ y2) ⟨y3.1, y3.2, hdesc⟩ hR, hts _ y5, trivial⟩ hpre rfl (by rw [List.length_map]; exact hn) rfl hst (by rw [ew_cats_map]; show 2 * 0 + _ ≤ 8; omega) hdg ⟨hcl, hsl⟩) hrest hlocs kk
theorem er_callI (hW : ew_WP NW G TY Wd) (hwd : Wd s) (hx : p.tables.exec = Jvm.exec) (hb : c.code = cc) (hml : c.maxLocals = L.size) (hown : s.vm.findClass own = some m.cls) (hts : ∀ w ∈ ew_TW, w.before args s = true) (I : ew_I G TY sz H0 a h H) (hck : ew_ck CK h a)
    {d x z n k i : Nat} (hY : ew_YP z) (hkd : et_kd z = 2) (hL : ew_LP NW own x z n) {as rest : List ew_V} (hn : as.length = n) (hl : ew_wf h (ew_o k i)) (haw : ∀ v ∈ as, ew_wf h v) (hrest : ∀ v ∈ rest, ew_wf h v) {v : Option ew_V} {h' : ew_H} (hM : ew_Mt l G TY sz H0 CK Wd d z (ew_o k i :: as) h v h') (hc8 : ew_cats rest ≤ 8)
    (hf : 6 + d + 1 ≤ R.frames) (hlo : 150 + 40 * d + 40 ≤ R.locals) (hlocs : ∀ q ∈ locs, sz ≤ q.base) (hcl : cells + (h'.2.2.2.2.1 - h.2.2.2.2.1) ≤ R.cells) (hsl : slots + (h'.2.2.2.2.2 - h.2.2.2.2.2) ≤ R.slots) (hdg : decode cc pc = .ok (.invokespecial x, 3))
    (kk : ∀ (a' : Nat → Nat → Nat) (H1 : Heap) (locs1 : List Loc), ew_ex h a a' → (∀ q ∈ locs1, sz ≤ q.base) → ew_I G TY sz H0 a' h' H1 → (∀ w, v = some w → ew_wf h' w) → W p l e R s m args below meth c H1 locs1 (cells + (h'.2.2.2.2.1 - h.2.2.2.2.1)) (slots + (h'.2.2.2.2.2 - h.2.2.2.2.2)) Q (F0 m (pc + 3) L ((v.toList ++ rest).map (ew_c a')))) :
    W p l e R s m args below meth c H locs cells slots Q (F0 m pc L ((as.reverse ++ ew_o k i :: rest).map (ew_c a))) := by
  obtain ⟨y1, y2, y3, y4, -, -, y6⟩ := hY
  obtain ⟨y7, y8, y9⟩ := y6 hkd
  obtain ⟨hlk, hdesc⟩ := hL
  obtain ⟨hK, -, -, hNW⟩ := hW.2.2 s hwd
  have hst : (as.reverse ++ ew_o k i :: rest).map (ew_c a) = (as.map (ew_c a)).reverse ++ .ref (a k i) :: rest.map (ew_c a) := by
    rw [List.map_append, List.map_reverse]; rfl
  have hpre : PreS s H (ew_Pc G TY sz H0 CK Wd (ew_o k i :: as) h a) (.ref (a k i) :: as.map (ew_c a)) := ⟨ew_blind hW, fun U hU hw => ⟨rfl, by rw [hU]; exact I, hW.2.1 s U hw hwd, es_cons hl haw, hck⟩⟩
  have hG : GoodIn ew_TW (ew_cw z :: ew_TW) := ew_good (fun w hw => by
    rcases List.mem_cons.mp hw with rfl | q
    · exact y1
    · exact q)
  have hcw : ew_cw z :: ew_TW = Cond.code (ew_nm z) (ew_cd z) (et_mx z) none :: ew_TW := by unfold ew_cw; rw [y9]
  have hR : (ew_rm d h h').frames + 1 ≤ R.frames ∧ 8 + (et_mx z + 11) + (ew_rm d h h').locals ≤ R.locals := ⟨hf, by show 8 + (et_mx z + 11) + (150 + 40 * d) ≤ R.locals; omega⟩
  rcases hlk with hlk | ⟨host, hlk⟩
  · exact er_back (va_runI (As := as.map (ew_c a)) (Ts := ew_TW) (own := own) (ws := ew_cw z :: ew_TW) ⟨hx, hb, hml, hown, hts⟩ (hM a) (cwI n hts hG hcw rfl rfl (hts _ y2) (hts _ hlk) (hts _ y7) y8 ⟨y3.1, y3.2, hdesc⟩ hR) hpre rfl (by rw [List.length_map]; exact hn) rfl hst (by rw [ew_cats_map]; show 2 * 0 + _ ≤ 8; omega) hdg ⟨hcl, hsl⟩) hrest hlocs kk
  · exact er_back (va_runIN (As := as.map (ew_c a)) (Ts := ew_TW) (own := own) (ws := ew_cw z :: ew_TW) ⟨hx, hb, hml, hown, hts⟩ (hM a) ⟨va_cnB n hts hG hcw rfl rfl (hNW _ hlk) (hts _ y2) ⟨y3.1, y3.2, hdesc⟩ hR, y8, hts _ y7⟩ hpre rfl (by rw [List.length_map]; exact hn) rfl hst (by rw [ew_cats_map]; show 2 * 0 + _ ≤ 8; omega) hdg ⟨hcl, hsl⟩) hrest hlocs kk
end EC
