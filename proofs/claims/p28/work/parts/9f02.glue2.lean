/-! The glue to the machine: the tables, as the steps ask for them. -/
theorem gl_math : ∀ w ∈ ew_mathW, w ∈ lw_tbl ∧ goodWord w = true := by decide +kernel
theorem gl_abs : ∀ w ∈ ew_absW, w ∈ lw_tbl ∧ goodWord w = true := by decide +kernel
theorem gl_arc : Cond.instanceMethod objectInit ∈ lw_tbl ∧ Cond.code objectInit ⟨#[0xb1]⟩ 1 none ∈ lw_tbl ∧ Cond.arrayClass .int ∈ lw_tbl ∧ Cond.arrayClass .boolean ∈ lw_tbl := by decide +kernel
theorem gl_tin {w : Cond} (h : w ∈ lw_tbl) (g : goodWord w = true) : w ∈ ew_TW := List.mem_filter.mpr ⟨h, g⟩
theorem gl_cc {cl x : Nat} {v : Int64} (hq : et_cl cl x = some v) : Cond.constantLong (ew_on cl) x v ∈ ew_TW := by
  obtain ⟨h1, h2⟩ := ev_bd hq
  have h := ev_cc_ok cl h1 x h2
  unfold ev_cc at h
  rw [hq] at h
  exact ex_lk_ok h
theorem gl_ci {cl x : Nat} {v : Int32} (hq : et_ci cl x = some v) : Cond.constant (ew_on cl) x v ∈ ew_TW := by
  obtain ⟨h1, h2⟩ := ev_bd hq
  have h := ev_ci_ok cl h1 x h2
  unfold ev_ci at h
  rw [hq] at h
  exact ex_lk_ok h
theorem gl_Tab {Wd : State → Prop} (hAO : ∀ U, Wd U → ew_AA U ∧ va_AO "ChannelWinter$Breaker" U ∧ va_AO "ChannelWinter$Cell" U ∧ va_AO "ChannelWinter$Port" U ∧ va_AO "ChannelWinter$Ship" U) : ew_Tab ev_NW Wd := by
  obtain ⟨g4, g5, g6, g7⟩ := gl_arc
  refine ⟨fun y x q h => (ev_T1 h).1, fun cl x q h => ev_T2 h, fun ci r h => ev_clp h, fun cl x c h => ev_T4 h, fun cl x z n c h h9 hw => ?_, fun cl x n c => ⟨fun h => (ev_T5 h).2.1 rfl, fun h => (ev_T5 h).2.2.1 rfl, fun h => (ev_T5 h).2.2.2.1 rfl, fun h => (ev_T5 h).2.2.2.2.1 rfl, fun h => (ev_T5 h).2.2.2.2.2.1 rfl⟩, fun w hw => gl_tin (gl_math w hw).1 (gl_math w hw).2, fun w hw => gl_tin (gl_abs w hw).1 (gl_abs w hw).2, trivial, ⟨gl_tin g4 rfl, gl_tin g5 rfl⟩, ⟨fun cl x v h => gl_cc h, fun cl x v h => gl_ci h⟩, ⟨gl_tin g6 rfl, gl_tin g7 rfl⟩, hAO, fun cl x z n c h => (ev_T5 h).2.2.2.2.2.2.1, fun y x q h => (ev_T1 h).2, fun cl x z n c h h9 ht hf => ?_⟩
  · obtain ⟨a1, a2, a3⟩ := (ev_T5 h).1 h9 hw
    exact ⟨a1, fun hf => ⟨(a2 hf).1, (a2 hf).2.1⟩, fun hf => Bool.noConfusion (show false = true from hf)⟩
  · exact (((ev_T5 h).1 h9 rfl).2.1 hf).2.2 ht
/-! The glue to the machine: what holds at the start holds at every state that is as warm. -/
theorem gl_NW_in : ∀ w ∈ ev_NW, w ∈ lw_tbl ∧ w.onTables = true := by decide +kernel
section
variable {s : State} {A : Array Value} {G : va_G} {TY : Nat → ClassId}
abbrev gl_Wd (s : State) : State → Prop := fun U => s.WarmedH U.vm
theorem gl_NW (hts : ∀ w ∈ lw_tbl, w.before A s = true) {U : State} (hW : s.WarmedH U.vm) : ∀ w ∈ ev_NW, va_Nw w U := by
  intro w hw
  have h0 : va_Nw w s := va_Nw.of (gl_NW_in w hw).2 (hts w (gl_NW_in w hw).1)
  unfold ev_NW at hw
  simp only [List.mem_cons, List.not_mem_nil, or_false] at hw
  repeat' (rcases hw with rfl | hw)
  all_goals first | exact va_Nw.warmM hW h0 | exact va_Nw.warmF hW h0 | (subst hw; first | exact va_Nw.warmM hW h0 | exact va_Nw.warmF hW h0)
theorem gl_AT.moved {U : State} (hvm : s.vm.Alike U.vm) (hA : ew_AT TY s) : ew_AT TY U :=
  ⟨fun t h1 h2 => ⟨arrOfT_moved hvm (hA.1 t h1 h2).1, (hA.1 t h1 h2).2.moved hvm⟩, fun k hk => arrOfT_moved hvm (hA.2 k hk)⟩
theorem gl_aa (hts : ∀ w ∈ lw_tbl, w.before A s = true) : ew_AA s := ew_AA.of (hts _ (by decide +kernel))
theorem gl_WP (hts : ∀ w ∈ lw_tbl, w.before A s = true) (hK : va_K G vwCl [] s) (hA : ew_AT TY s) : ew_WP ev_NW G TY (gl_Wd s) := by
  refine ⟨fun U U' e h => (by unfold gl_Wd at *; rw [← e]; exact h), fun s' U h h' => State.WarmedH.trans (t := s') h' h, fun U hW => ?_⟩
  have hW : s.WarmedH U.vm := hW
  have hK' := hK.moved hW.alike
  have hA' := gl_AT.moved hW.alike hA
  exact ⟨hK', hA', gl_AS hK' hA' (gl_AA.moved hW.alike (gl_aa hts)), gl_NW hts hW⟩
theorem gl_AOs (hts : ∀ w ∈ lw_tbl, w.before A s = true) : va_AO "ChannelWinter$Breaker" s ∧ va_AO "ChannelWinter$Cell" s ∧ va_AO "ChannelWinter$Port" s ∧ va_AO "ChannelWinter$Ship" s :=
  ⟨va_AO.of (hts _ (by decide +kernel)), va_AO.of (hts _ (by decide +kernel)), va_AO.of (hts _ (by decide +kernel)), va_AO.of (hts _ (by decide +kernel))⟩
theorem gl_TabW (hts : ∀ w ∈ lw_tbl, w.before A s = true) : ew_Tab ev_NW (gl_Wd s) := by
  obtain ⟨o2, o3, o4, o5⟩ := gl_AOs hts
  refine gl_Tab (fun U hW => ?_)
  have hv := State.WarmedH.alike hW
  exact ⟨gl_AA.moved hv (gl_aa hts), o2.moved hv, o3.moved hv, o4.moved hv, o5.moved hv⟩
/-- statics of Throwable -/
theorem gl_ZP (hts : ∀ w ∈ lw_tbl, w.before A s = true) (z1 : (Cond.isRef (.static "java/lang/Throwable" "UNASSIGNED_STACK" "[Ljava/lang/StackTraceElement;")).before A s = true) (z2 : (Cond.isRef (.static "java/lang/Throwable" "SUPPRESSED_SENTINEL" "Ljava/util/List;")).before A s = true) (CK : Nat → Nat → Option Nat) : ew_ZP CK (gl_Wd s) s.heap.size s.heap := by
  refine ⟨rfl, fun U hW => ⟨?_, ?_⟩⟩
  · exact (vx_Zqof (hts _ (by decide +kernel)) (hts _ (by decide +kernel)) z1 (fun a h q => by omega)).moved (State.WarmedH.alike hW)
  · exact (vx_Zqof (hts _ (by decide +kernel)) (hts _ (by decide +kernel)) z2 (fun a h q => by omega)).moved (State.WarmedH.alike hW)
end
