/-! The glue to the machine: Integer.valueOf of a small number. -/
theorem gl_v0 : decode (ew_cd 185) 0 = .ok (.iload_n 0, 1) := by decide +kernel
theorem gl_v1 : decode (ew_cd 185) 1 = .ok (.bipush (-128), 2) := by decide +kernel
theorem gl_v3 : decode (ew_cd 185) 3 = .ok (.if_icmp .lt 20, 3) := by decide +kernel
theorem gl_v6 : decode (ew_cd 185) 6 = .ok (.iload_n 0, 1) := by decide +kernel
theorem gl_v7 : decode (ew_cd 185) 7 = .ok (.getstatic 191, 3) := by decide +kernel
theorem gl_v10 : decode (ew_cd 185) 10 = .ok (.if_icmp .gt 13, 3) := by decide +kernel
theorem gl_v13 : decode (ew_cd 185) 13 = .ok (.getstatic 195, 3) := by decide +kernel
theorem gl_v16 : decode (ew_cd 185) 16 = .ok (.iload_n 0, 1) := by decide +kernel
theorem gl_v17 : decode (ew_cd 185) 17 = .ok (.sipush 128, 3) := by decide +kernel
theorem gl_v20 : decode (ew_cd 185) 20 = .ok (.iadd, 1) := by decide +kernel
theorem gl_v21 : decode (ew_cd 185) 21 = .ok (.aaload, 1) := by decide +kernel
theorem gl_v22 : decode (ew_cd 185) 22 = .ok (.areturn, 1) := by decide +kernel
def gl_V (ad : Nat → Nat) (sz : Nat) (U : State) (H : Heap) : Prop := ∃ tc : Nat, va_Z "java/lang/Integer$IntegerCache" "high" "I" (.int 127) (fun q => sz ≤ q) U H ∧ va_Z "java/lang/Integer$IntegerCache" "cache" "[Ljava/lang/Integer;" (.ref tc) (fun q => sz ≤ q) U H ∧ va_T (.object "java/lang/Integer") tc 256 (fun j => .ref (ad j)) (fun q => sz ≤ q) U H
section
variable {s : State} {A : Array Value}
theorem gl_Vs (hts : ∀ w ∈ lw_tbl, w.before A s = true) (hgv : (Jvm.Cond.and given_1 narrow_1).before A s = true) {ad : Nat → Nat} (hI : ∀ j : Nat, j < 256 → (Term.elem gl_IC (.int (Int32.ofNat j))).eval A s none [] s = some (.ref (ad j))) : gl_V ad s.heap.size s s.heap := by
  have hq := flat_of_before _ hgv
  obtain ⟨tc, e1, hT⟩ := va_Tof (tm := gl_IC) (ty := .object "java/lang/Integer") (N := 256) (f := fun j => .ref (ad j)) (A := fun q => s.heap.size ≤ q) (by decide) (hq (Cond.arrayOf gl_IC (.object "java/lang/Integer")) (by decide +kernel)) (va_eqt (hq (Cond.eq (.length gl_IC) (.int 256)) (by decide +kernel))) hI (fun a h q => by omega)
  exact ⟨tc, va_Zof (hts _ (by decide +kernel)) (hts _ (by decide +kernel)) (va_eqi (hq _ (by decide +kernel))) (fun a h q => by omega), va_Zof (hts _ (by decide +kernel)) (hts _ (by decide +kernel)) e1 (fun a h q => by omega), hT⟩
theorem gl_185 {l : Launch} {G : va_G} {TY : Nat → ClassId} {ad : Nat → Nat} {b tb te : Nat} (hV : gl_V ad s.heap.size s s.heap) {x : Int32} (h1 : ¬ x < -128) (h2 : ¬ 127 < x) (d : Nat) (h : ew_H) : ew_Mt l G TY s.heap.size s.heap (gl_CK ad b tb te) (gl_Wd s) d 185 [ew_i x] h (some (ew_o 0 (x + 128).toNatClampNeg)) h := by
  intro a
  refine Met.ofW (cc := ew_cd 185) (maxL := et_mx 185) (ret := ew_rt 185) (by decide) rfl ?_
  intro p e u m args below meth c s₁ B hml hv
  obtain ⟨rfl, I, hwd, hw, hck⟩ := hv
  have hts : ∀ w ∈ ew_TW, w.before ([ew_i x].map (ew_c a)).toArray u = true := fun w hw => atoms_spec (ws := ew_cw 185 :: ew_TW) B.pre w (List.mem_cons_of_mem _ hw)
  have hx := B.exec
  have hb := B.bytes
  have hr := B.returns
  have hlocks := B.notSynchronized
  have hown : u.vm.findClass "java/lang/Integer" = some m.cls := findClass_of_methodNamed B.named
  have hW : s.WarmedH u.vm := hwd
  have k0 : ∀ q : Nat, q < s.heap.size → ¬ s.heap.size ≤ q → u.heap[q]? = s.heap[q]? := fun q q1 _ => I.2.2.2.2.2 q q1
  obtain ⟨tc, z1, z2, z3⟩ := hV
  have z1 := (z1.moved hW.alike).kept k0
  have z2 := (z2.moved hW.alike).kept k0
  obtain ⟨cell, c1, c2, c3, c4, c5, c6, -⟩ := (z3.moved hW.alike).kept k0
  have hxn : ∃ j, j < 256 ∧ x + 128 = ei j := by
    have e1 : -128 ≤ x := Int32.not_lt.mp h1
    have e2 : x ≤ 127 := Int32.not_lt.mp h2
    rw [Int32.le_iff_toInt_le] at e1 e2
    have e3 : (-128 : Int32).toInt = -128 := by decide
    have e4 : (127 : Int32).toInt = 127 := by decide
    rw [e3] at e1
    rw [e4] at e2
    refine ⟨(x.toInt + 128).toNat, by omega, ?_⟩
    apply Int32.toInt_inj.mp
    have e5 : (128 : Int32).toInt = 128 := by decide
    rw [Int32.toInt_add, e5, show ei (x.toInt + 128).toNat = Int32.ofNat (x.toInt + 128).toNat from rfl, Int32.toInt_ofNat_of_lt (by omega)]
    rw [Int.toNat_of_nonneg (by omega)]
    refine Int.bmod_eq_of_le (by omega) (by omega)
  obtain ⟨j, hj, ej⟩ := hxn
  have en : (x + 128).toNatClampNeg = j := by rw [ej, ei_nat (by omega)]
  obtain ⟨hf, ha⟩ := hck 0 j (ad j) (by
    unfold gl_CK
    have : cx_f0 0 j = true := by
      unfold cx_f0
      rw [show Nat.blt j 256 = true from Nat.ble_eq_true_of_le hj]
      rfl
    rw [this]
    rfl)
  show W p l e (headSpec (ew_cw 185 :: ew_TW) (ew_rm d h h)).room u m _ below meth c u.heap [] 0 0 (MQ below (ew_Qc G TY s.heap.size s.heap h a (some (ew_o 0 (x + 128).toNatClampNeg)) h) ([ew_i x].map (ew_c a)).toArray u (h.2.2.2.2.1 - h.2.2.2.2.1) (h.2.2.2.2.2 - h.2.2.2.2.2) (fun q => s.heap.size ≤ q)) (entryFrame m ([ew_i x].map (ew_c a)).toArray 1)
  rw [Nat.sub_self, Nat.sub_self, en]
  have hl := lv_entry ([.int x]) (n := 1) (Nat.le_of_ble_eq_true rfl)
  show W p l e (headSpec (ew_cw 185 :: ew_TW) (ew_rm d h h)).room u m _ below meth c u.heap [] 0 0 _ (entryFrame m ([Value.int x] : List Value).toArray 1)
  rw [lg_entry_eq]
  generalize (lg_sl ([.int x]) ++ List.replicate (1 - (lg_sl ([.int x])).length) Slot.unset).toArray = ls at hl ⊢
  have hl : lv_has ls 1 [(0, .int x)] := hl
  refine lv_iload_n hx hb gl_v0 rfl (lv_at hl 0 rfl) ?_
  refine lv_bipush hx hb gl_v1 (v := -128) (by decide) ?_
  refine lv_icmp_lt hx hb gl_v3 (tgt := 23) (by decide) (fun w => absurd w h1) (fun _ => ?_)
  refine lv_iload_n hx hb gl_v6 rfl (lv_at hl 0 rfl) ?_
  refine va_gets hx hb z1 va_S.rf hown (hts (.fieldLink "java/lang/Integer" 191 "java/lang/Integer$IntegerCache" "high" "I") (gl_tin (by decide +kernel) rfl)) (fun x hx => hx) gl_v7 ?_
  refine lv_icmp_gt hx hb gl_v10 (tgt := 23) (by decide) (fun w => absurd w h2) (fun _ => ?_)
  refine va_gets hx hb z2 va_S.rf hown (hts (.fieldLink "java/lang/Integer" 195 "java/lang/Integer$IntegerCache" "cache" "[Ljava/lang/Integer;") (gl_tin (by decide +kernel) rfl)) (fun x hx => hx) gl_v13 ?_
  refine lv_iload_n hx hb gl_v16 rfl (lv_at hl 0 rfl) ?_
  refine lv_sipush hx hb gl_v17 (v := 128) (by decide) ?_
  refine lv_iadd hx hb gl_v20 ?_
  rw [ej]
  refine W.aald (v := .ref (ad j)) (ty := .object "java/lang/Integer") hx hb c1 c2 rfl c3 (fun w => by
    rcases w with w | w
    · exact ei_nn (by omega) w
    · rw [ei_nat (by omega)] at w; omega) (by rw [ei_nat (by omega)]; exact c6 j hj) rfl rfl gl_v21 ?_
  exact W.aret hx hb (rt := .object "java/lang/Integer") hr (Or.inl ⟨_, rfl⟩) (Or.inr ⟨_, rfl⟩) (fun t ht _ => ⟨a, ew_ex.rf h a, by show Outcome.returned (some (Value.ref (ad j))) = .returned (some (.ref (a 0 j))); rw [ha], by rw [ht]; exact I, fun w e => by cases e; exact Or.inr hf⟩) (fun q hq => by cases hq) gl_v22 hlocks
end
