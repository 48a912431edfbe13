/-! The glue to the machine: what holds at the start holds at every state that is as warm. -/
theorem gl_NW_in : ∀ w ∈ ev_NW, w ∈ lw_tbl ∧ w.onTables = true := by decide +kernel
section
variable {s : State} {A : Array Value} {G : va_G} {TY : Nat → ClassId}
abbrev gl_Wd (s : State) : State → Prop := fun U => s.WarmedH U.vm
theorem gl_NW (hts : ∀ w ∈ lw_tbl, w.before A s = true) {U : State} (hW : s.WarmedH U.vm) : ∀ w ∈ ev_NW, va_Nw w U := by
  intro w hw
  have h0 : va_Nw w s := va_Nw.of (gl_NW_in w hw).2 (hts w (gl_NW_in w hw).1)
  unfold ev_NW at hw
  simp only [List.mem_cons, List.not_mem_nil, or_false] at hw
  rcases hw with rfl | rfl | rfl | rfl | rfl | rfl | rfl | rfl | rfl | rfl | rfl | rfl | rfl | rfl | rfl <;> first | exact va_Nw.warmM hW h0 | exact va_Nw.warmF hW h0
theorem gl_AT.moved {U : State} (hvm : s.vm.Alike U.vm) (hA : ew_AT TY s) : ew_AT TY U :=
  ⟨fun t h1 h2 => ⟨arrOfT_moved hvm (hA.1 t h1 h2).1, (hA.1 t h1 h2).2.moved hvm⟩, fun k hk => arrOfT_moved hvm (hA.2 k hk)⟩
theorem gl_WP (hts : ∀ w ∈ lw_tbl, w.before A s = true) (hK : va_K G vwCl [] s) (hA : ew_AT TY s) : ew_WP ev_NW G TY (gl_Wd s) := by
  refine ⟨fun U U' e h => (by unfold gl_Wd at *; rw [← e]; exact h), fun s' U h h' => State.WarmedH.trans (t := s') h' h, fun U hW => ?_⟩
  have hW : s.WarmedH U.vm := hW
  have hK' := hK.moved hW.alike
  have hA' := gl_AT.moved hW.alike hA
  exact ⟨hK', hA', gl_AS hK' hA' (fun c hc => va_Nw.warmC hW (va_Nw.of rfl (hts _ (gl_ca c hc)))) (fun t h1 h2 => va_Nw.warmC hW (va_Nw.of rfl (hts _ (gl_cb t h1 h2)))), gl_NW hts hW⟩
theorem gl_AOs (hts : ∀ w ∈ lw_tbl, w.before A s = true) : va_AO "java/lang/Object" s ∧ va_AO "ChannelWinter$Breaker" s ∧ va_AO "ChannelWinter$Cell" s ∧ va_AO "ChannelWinter$Port" s ∧ va_AO "ChannelWinter$Ship" s :=
  ⟨va_AO.of (hts _ (by decide +kernel)), va_AO.of (hts _ (by decide +kernel)), va_AO.of (hts _ (by decide +kernel)), va_AO.of (hts _ (by decide +kernel)), va_AO.of (hts _ (by decide +kernel))⟩
theorem gl_TabW (hts : ∀ w ∈ lw_tbl, w.before A s = true) : ew_Tab ev_NW (gl_Wd s) := by
  obtain ⟨o1, o2, o3, o4, o5⟩ := gl_AOs hts
  refine gl_Tab (fun U hW => ?_) (fun cl x z n c h hf U hW => gl_Fw (gl_F3.moved (State.WarmedH.alike hW) (gl_F3_ok hts)) h hf)
  have hv := State.WarmedH.alike hW
  exact ⟨o1.moved hv, o2.moved hv, o3.moved hv, o4.moved hv, o5.moved hv⟩
/-- statics of Throwable -/
theorem gl_ZP (hts : ∀ w ∈ lw_tbl, w.before A s = true) (z1 : (Cond.isRef (.static "java/lang/Throwable" "UNASSIGNED_STACK" "[Ljava/lang/StackTraceElement;")).before A s = true) (z2 : (Cond.isRef (.static "java/lang/Throwable" "SUPPRESSED_SENTINEL" "Ljava/util/List;")).before A s = true) (CK : Nat → Nat → Option Nat) : ew_ZP CK (gl_Wd s) s.heap.size s.heap := by
  refine ⟨rfl, fun U hW => ⟨?_, ?_⟩⟩
  · exact (vx_Zqof (hts _ (by decide +kernel)) (hts _ (by decide +kernel)) z1 (fun a h q => by omega)).moved (State.WarmedH.alike hW)
  · exact (vx_Zqof (hts _ (by decide +kernel)) (hts _ (by decide +kernel)) z2 (fun a h q => by omega)).moved (State.WarmedH.alike hW)
end
