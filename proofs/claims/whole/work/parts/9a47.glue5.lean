/-! The glue to the machine: what is there at the start, out of what is given. -/
section
variable {s : State} {A : Array Value} {b L : Nat} {xs : Nat → Int32}
theorem gl_start (hts : ∀ w ∈ lw_tbl, w.before A s = true) (hA0 : A = #[Value.ref b]) (hgv : (Jvm.Cond.and given_1 narrow_1).before A s = true) (hX : va_X b L xs s s.heap) : ∃ (G : va_G) (TY : Nat → ClassId) (ad : Nat → Nat) (tb te : Nat), va_K G vwCl [] s ∧ ew_AT TY s ∧ gl_cells s TY ad b tb te L xs ∧ gl_BE.eval A s none [] s = some (.ref tb) ∧ gl_EM.eval A s none [] s = some (.ref te) ∧ ∀ j : Nat, j < 256 → (Term.elem gl_IC (.int (Int32.ofNat j))).eval A s none [] s = some (.ref (ad j)) := by
  have hq := flat_of_before _ hgv
  obtain ⟨G, hK⟩ := gl_K (gl_tw hts)
  obtain ⟨scr, x1, x2, x3, x4, x5⟩ := hX
  have e0 : ef_bears (ei 0) = 10 := by decide
  have e1 : ef_bears (ei 1) = 30 := by decide
  have e2 : ef_bears (ei 2) = 50 := by decide
  have e3 : ef_bears (ei 3) = 80 := by decide
  have e4 : ef_bears (ei 4) = 120 := by decide
  have b0 := va_eqt (hq (Cond.eq (.elem gl_BE (.int 0)) (.int 10)) (by decide +kernel))
  have b1 := va_eqt (hq (Cond.eq (.elem gl_BE (.int 1)) (.int 30)) (by decide +kernel))
  have b2 := va_eqt (hq (Cond.eq (.elem gl_BE (.int 2)) (.int 50)) (by decide +kernel))
  have b3 := va_eqt (hq (Cond.eq (.elem gl_BE (.int 3)) (.int 80)) (by decide +kernel))
  have b4 := va_eqt (hq (Cond.eq (.elem gl_BE (.int 4)) (.int 120)) (by decide +kernel))
  rw [← e0] at b0
  rw [← e1] at b1
  rw [← e2] at b2
  rw [← e3] at b3
  rw [← e4] at b4
  obtain ⟨tb, y1, cB, y2, y3, y4, y5, y6, y7, -⟩ := va_Tof (tm := gl_BE) (ty := .int) (N := 5) (f := fun j => .int (ef_bears (ei j))) (A := fun q => s.heap.size ≤ q) (by decide) (hq (Cond.arrayOf gl_BE .int) (by decide +kernel)) (va_eqt (hq (Cond.eq (.length gl_BE) (.int 5)) (by decide +kernel))) (fun j hj => by
    have h5 : j = 0 ∨ j = 1 ∨ j = 2 ∨ j = 3 ∨ j = 4 := by omega
    rcases h5 with rfl | rfl | rfl | rfl | rfl
    · exact b0
    · exact b1
    · exact b2
    · exact b3
    · exact b4) (fun a h q => by omega)
  obtain ⟨te, z1, cE, z2, z3, z4, z5, z6, -, -⟩ := va_Tof (tm := gl_EM) (ty := .object "java/lang/Object") (N := 0) (f := fun _ => .null) (A := fun q => s.heap.size ≤ q) (by decide) (hq (Cond.arrayOf gl_EM (.object "java/lang/Object")) (by decide +kernel)) (va_eqt (hq (Cond.eq (.length gl_EM) (.int 0)) (by decide +kernel))) (fun j hj => absurd hj (Nat.not_lt_zero j)) (fun a h q => by omega)
  obtain ⟨a9, c9, cell9, k9, w1, w2, w3, -, -, w6, -⟩ := Cond.exactly_spec (hq (Cond.exactly gl_EM "[Ljava/lang/Object;") (by decide +kernel))
  obtain ⟨ad, i1, i2⟩ := vb_Cof (st := gl_IC) (A := fun q => s.heap.size ≤ q) rfl (va_eqt (hq (Cond.eq (.length gl_IC) (.int 256)) (by decide +kernel))) (hq _ (by decide +kernel)) (fun a h q => by omega)
  have tA : ∀ {c : Cell}, s.isArrayOf c .int → ArrOfT s c.cls .int := fun h => by
    obtain ⟨-, k, hk, comp, hkind⟩ := h
    exact fun n z => ⟨fun k h => (by cases h), k, hk, comp, hkind⟩
  obtain ⟨o1, o2, o3, o4, o5⟩ := gl_AOs hts
  obtain ⟨TY, hA, f1, f2⟩ := gl_AT (hts _ (by decide +kernel)) (hts _ (by decide +kernel)) (hts _ (by decide +kernel)) o1 o2 o3 o4 o5 (tA x2) (tA y3)
  have h20 : s.vm.findClass "[Ljava/lang/Object;" = some (TY 20) := va_nmO (hA.1 20 (by decide) (by decide)).2 (by decide +kernel)
  have e9 : te = a9 := by
    have := z1.symm.trans w1
    exact Value.ref.inj (Option.some.inj this)
  subst e9
  cases z2.symm.trans w3
  have hne : b ≠ tb := by
    intro e
    subst e
    have hn := hq (Cond.not (.eq (.arg 0) gl_BE)) (by decide +kernel)
    have ea : (Term.arg 0).eval A s none [] s = some (.ref b) := by rw [hA0]; rfl
    simp [Cond.before, Cond.holds, Cond.value, ea, y1] at hn
  exact ⟨G, TY, ad, tb, te, hK, hA, ⟨⟨scr, x1, x2, x3, x4, x5, f1.symm⟩, ⟨cB, y2, y3, y4, ⟨y5, y6⟩, y7, f2.symm⟩, ⟨cE, z2, z3, z4, z6, by rw [w6]; exact Option.some.inj (w2.symm.trans h20)⟩, i1, hne⟩, y1, z1, i2⟩
def gl_CK (ad : Nat → Nat) (b tb te : Nat) (k i : Nat) : Option Nat := bif cx_f0 k i then some (gl_a0 ad b tb te k i) else none
theorem gl_ck {ad : Nat → Nat} {b tb te : Nat} : ew_ck (gl_CK ad b tb te) (cx_h0 xs L) (gl_a0 ad b tb te) := fun k i q e => by
  unfold gl_CK at e
  cases hf : cx_f0 k i with
  | false => rw [hf, cond_false] at e; cases e
  | true => rw [hf, cond_true] at e; exact ⟨hf, Option.some.inj e⟩
theorem gl_SP (hts : ∀ w ∈ lw_tbl, w.before A s = true) {ad : Nat → Nat} {tb te : Nat} (eB : gl_BE.eval A s none [] s = some (.ref tb)) (eE : gl_EM.eval A s none [] s = some (.ref te)) : ew_SP (gl_CK ad b tb te) ev_NW (gl_Wd s) s.heap.size s.heap := by
  intro cl x v h
  have h3 : (cl = 2 ∧ x = 39 ∧ v = ew_o 212 0) ∨ (cl = 15 ∧ x = 51 ∧ v = ew_o 49 0) := by
    unfold et_sd at h
    cases h1 : Nat.beq cl 2 with
    | true =>
      rw [h1, cond_true] at h
      obtain ⟨h2, h4⟩ := ev_cn h
      exact Or.inl ⟨ew_beq h1, ew_beq h2, (Option.some.inj h4).symm⟩
    | false =>
      rw [h1, cond_false] at h
      obtain ⟨h2, h4⟩ := ev_cn h
      obtain ⟨h5, h6⟩ := ev_cn h4
      exact Or.inr ⟨ew_beq h2, ew_beq h5, (Option.some.inj h6).symm⟩
  rcases h3 with ⟨rfl, rfl, rfl⟩ | ⟨rfl, rfl, rfl⟩
  · exact ⟨212, 0, te, "java/util/ArrayList", "DEFAULTCAPACITY_EMPTY_ELEMENTDATA", "[Ljava/lang/Object;", rfl, rfl, fun U hW => (va_Zof (hts _ (by decide +kernel)) (hts _ (by decide +kernel)) eE (fun a h q => by omega)).moved (State.WarmedH.alike hW), Or.inl ⟨"java/util/ArrayList", gl_tin (by decide +kernel) rfl, Or.inl rfl⟩⟩
  · exact ⟨49, 0, tb, "ChannelWinterModel", "BEARS", "[I", rfl, rfl, fun U hW => (va_Zof (hts _ (by decide +kernel)) (hts _ (by decide +kernel)) eB (fun a h q => by omega)).moved (State.WarmedH.alike hW), Or.inr ⟨"ChannelWinterModel", by decide +kernel⟩⟩
end
