/-! The glue to the machine: the tables, as the steps ask for them. -/
theorem gl_math : ∀ w ∈ ew_mathW, w ∈ lw_tbl ∧ goodWord w = true := by decide +kernel
theorem gl_abs : ∀ w ∈ ew_absW, w ∈ lw_tbl ∧ goodWord w = true := by decide +kernel
theorem gl_arc : Cond.native arraycopyName ∈ lw_tbl ∧ Cond.static arraycopyName ∈ lw_tbl ∧ Cond.initialized "java/lang/System" ∈ lw_tbl ∧ Cond.instanceMethod objectInit ∈ lw_tbl ∧ Cond.code objectInit ⟨#[0xb1]⟩ 1 none ∈ lw_tbl ∧ Cond.arrayClass .int ∈ lw_tbl ∧ Cond.arrayClass .boolean ∈ lw_tbl ∧ Cond.arrayClass .long ∈ lw_tbl := by decide +kernel
theorem gl_tin {w : Cond} (h : w ∈ lw_tbl) (g : goodWord w = true) : w ∈ ew_TW := List.mem_filter.mpr ⟨h, g⟩
theorem gl_cc {cl x : Nat} {v : Int64} (hq : et_cl cl x = some v) : Cond.constantLong (ew_on cl) x v ∈ ew_TW := by
  obtain ⟨h1, h2⟩ := ev_bd hq
  have h := ev_cc_ok cl h1 x h2
  unfold ev_cc at h
  rw [hq] at h
  exact ex_lk_ok h
theorem gl_Tab {Wd : State → Prop} (hAO : ∀ U, Wd U → va_AO "java/lang/Object" U ∧ va_AO "ChannelWinter$Breaker" U ∧ va_AO "ChannelWinter$Cell" U ∧ va_AO "ChannelWinter$Port" U ∧ va_AO "ChannelWinter$Ship" U)
    (hFw : ∀ cl x z n c, et_md cl x = some (z, n, c) → et_if cl x = true → ∀ U, Wd U → va_Fw (ew_on c) (ex_xn cl x) (ew_nm z) U) : ew_Tab ev_NW Wd := by
  obtain ⟨g1, g2, g3, g4, g5, g6, g7, g8⟩ := gl_arc
  refine ⟨fun y x q h => (ev_T1 h).1, fun cl x q h => ev_T2 h, fun ci r h => ev_clp h, fun cl x c h => ev_T4 h, fun cl x z n c h h9 hw => ?_, fun cl x n c => ⟨fun h => (ev_T5 h).2.1 rfl, fun h => (ev_T5 h).2.2.1 rfl, fun h => (ev_T5 h).2.2.2.1 rfl, fun h => (ev_T5 h).2.2.2.2.1 rfl, fun h => (ev_T5 h).2.2.2.2.2.1 rfl⟩, fun w hw => gl_tin (gl_math w hw).1 (gl_math w hw).2, fun w hw => gl_tin (gl_abs w hw).1 (gl_abs w hw).2, ⟨gl_tin g1 rfl, gl_tin g2 rfl, gl_tin g3 rfl⟩, ⟨gl_tin g4 rfl, gl_tin g5 rfl⟩, fun cl x v h => gl_cc h, ⟨gl_tin g6 rfl, gl_tin g7 rfl, gl_tin g8 rfl⟩, hAO, fun cl x z n c h => (ev_T5 h).2.2.2.2.2.2.1, fun y x q h => (ev_T1 h).2, fun cl x z n c h h9 ht hf => ?_⟩
  · obtain ⟨a1, a2, a3⟩ := (ev_T5 h).1 h9 hw
    refine ⟨a1, fun hf => ⟨(a2 hf).1, (a2 hf).2.1⟩, fun hf => ?_⟩
    obtain ⟨b1, b2, b3, b4, b5, b6, b7⟩ := a3 hf
    exact ⟨b1, b2, _, b3, b4, hFw cl x z n c h hf, b5, b6, b7⟩
  · cases hw : et_wr z with
    | true => exact ((ev_T5 h).2.2.2.2.2.2.2 hw).2.2
    | false => exact (((ev_T5 h).1 h9 hw).2.1 hf).2.2 ht
/-- where a method of the law is called -/
theorem gl_YW {cl x z n c : Nat} (h : et_md cl x = some (z, n, c)) (hw : et_wr z = true) : ew_YW z ∧ (parseMethodDescriptor (ew_nm z).desc).map (fun d => d.parameters.length) = some n ∧ Cond.methodLink (ew_on cl) x (ew_nm z) ∈ ew_TW := (ev_T5 h).2.2.2.2.2.2.2 hw
/-- calls through interfaces: three kinds of them -/
abbrev gl_x1 : MethodName := ⟨"java/util/Collection", "toArray", "()[Ljava/lang/Object;"⟩
abbrev gl_x2 : MethodName := ⟨"java/util/Iterator", "hasNext", "()Z"⟩
abbrev gl_x3 : MethodName := ⟨"java/util/Iterator", "next", "()Ljava/lang/Object;"⟩
def gl_if (cl x : Nat) : Bool := match et_md cl x with
  | some (z, _, c) => !et_if cl x || ((Nat.beq z 203 && Nat.beq c 2 && decide (ex_xn cl x = gl_x1)) || (Nat.beq z 195 && Nat.beq c 1 && decide (ex_xn cl x = gl_x2)) || (Nat.beq z 196 && Nat.beq c 1 && decide (ex_xn cl x = gl_x3)))
  | none => true
theorem gl_if_ok : ∀ cl, cl < 50 → ∀ x, x < 400 → gl_if cl x = true := by decide +kernel
def gl_F3 (U : State) : Prop := va_Fw (ew_on 2) gl_x1 (ew_nm 203) U ∧ va_Fw (ew_on 1) gl_x2 (ew_nm 195) U ∧ va_Fw (ew_on 1) gl_x3 (ew_nm 196) U
theorem gl_F3_ok {s : State} {A : Array Value} (hts : ∀ w ∈ lw_tbl, w.before A s = true) : gl_F3 s :=
  ⟨va_Fw.of (hts _ (by decide +kernel)) (hts _ (by decide +kernel)) (hts _ (by decide +kernel)) (hts _ (by decide +kernel)) (hts _ (by decide +kernel)),
   va_Fw.of (hts _ (by decide +kernel)) (hts _ (by decide +kernel)) (hts _ (by decide +kernel)) (hts _ (by decide +kernel)) (hts _ (by decide +kernel)),
   va_Fw.of (hts _ (by decide +kernel)) (hts _ (by decide +kernel)) (hts _ (by decide +kernel)) (hts _ (by decide +kernel)) (hts _ (by decide +kernel))⟩
theorem gl_F3.moved {u U : State} (hvm : u.vm.Alike U.vm) (h : gl_F3 u) : gl_F3 U :=
  ⟨va_Fw.moved (by decide) hvm h.1, va_Fw.moved (by decide) hvm h.2.1, va_Fw.moved (by decide) hvm h.2.2⟩
theorem gl_Fw {U : State} (h3 : gl_F3 U) {cl x z n c : Nat} (h : et_md cl x = some (z, n, c)) (hf : et_if cl x = true) : va_Fw (ew_on c) (ex_xn cl x) (ew_nm z) U := by
  obtain ⟨h1, h2⟩ := ev_bd h
  have g := gl_if_ok cl h1 x h2
  unfold gl_if at g
  rw [h, hf] at g
  simp only [Bool.not_true, Bool.false_or, Bool.or_eq_true, Bool.and_eq_true, decide_eq_true_eq] at g
  rcases g with (⟨⟨a, b⟩, e⟩ | ⟨⟨a, b⟩, e⟩) | ⟨⟨a, b⟩, e⟩
  · rw [ew_beq a, ew_beq b, e]; exact h3.1
  · rw [ew_beq a, ew_beq b, e]; exact h3.2.1
  · rw [ew_beq a, ew_beq b, e]; exact h3.2.2
