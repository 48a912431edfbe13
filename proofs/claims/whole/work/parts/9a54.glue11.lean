/-! The glue to the machine: ArrayList.toArray, by two methods of Arrays. -/
theorem gl_t0 : decode (ew_cd 203) 0 = .ok (.aload_n 0, 1) := by decide +kernel
theorem gl_t1 : decode (ew_cd 203) 1 = .ok (.getfield 9, 3) := by decide +kernel
theorem gl_t4 : decode (ew_cd 203) 4 = .ok (.aload_n 0, 1) := by decide +kernel
theorem gl_t5 : decode (ew_cd 203) 5 = .ok (.getfield 48, 3) := by decide +kernel
theorem gl_t8 : decode (ew_cd 203) 8 = .ok (.invokestatic 66, 3) := by decide +kernel
theorem gl_t11 : decode (ew_cd 203) 11 = .ok (.areturn, 1) := by decide +kernel
theorem gl_a0' : decode (ew_cd 213) 0 = .ok (.aload_n 0, 1) := by decide +kernel
theorem gl_a1 : decode (ew_cd 213) 1 = .ok (.iload_n 1, 1) := by decide +kernel
theorem gl_a2 : decode (ew_cd 213) 2 = .ok (.aload_n 0, 1) := by decide +kernel
theorem gl_a3 : decode (ew_cd 213) 3 = .ok (.invokevirtual 86, 3) := by decide +kernel
theorem gl_a6 : decode (ew_cd 213) 6 = .ok (.invokestatic 300, 3) := by decide +kernel
theorem gl_a9 : decode (ew_cd 213) 9 = .ok (.areturn, 1) := by decide +kernel
theorem gl_c0 : decode (ew_cd 214) 0 = .ok (.aload_n 2, 1) := by decide +kernel
theorem gl_c1 : decode (ew_cd 214) 1 = .ok (.ldc 110, 2) := by decide +kernel
theorem gl_c3' : decode (ew_cd 214) 3 = .ok (.if_acmp .ne 10, 3) := by decide +kernel
theorem gl_c6 : decode (ew_cd 214) 6 = .ok (.iload_n 1, 1) := by decide +kernel
theorem gl_c7 : decode (ew_cd 214) 7 = .ok (.anewarray 2, 3) := by decide +kernel
theorem gl_c10 : decode (ew_cd 214) 10 = .ok (.goto 14, 3) := by decide +kernel
theorem gl_c24 : decode (ew_cd 214) 24 = .ok (.astore_n 3, 1) := by decide +kernel
theorem gl_c25 : decode (ew_cd 214) 25 = .ok (.aload_n 0, 1) := by decide +kernel
theorem gl_c26 : decode (ew_cd 214) 26 = .ok (.iconst 0, 1) := by decide +kernel
theorem gl_c27 : decode (ew_cd 214) 27 = .ok (.aload_n 3, 1) := by decide +kernel
theorem gl_c28 : decode (ew_cd 214) 28 = .ok (.iconst 0, 1) := by decide +kernel
theorem gl_c29 : decode (ew_cd 214) 29 = .ok (.aload_n 0, 1) := by decide +kernel
theorem gl_c30 : decode (ew_cd 214) 30 = .ok (.arraylength, 1) := by decide +kernel
theorem gl_c31 : decode (ew_cd 214) 31 = .ok (.iload_n 1, 1) := by decide +kernel
theorem gl_c32 : decode (ew_cd 214) 32 = .ok (.invokestatic 304, 3) := by decide +kernel
theorem gl_c35 : decode (ew_cd 214) 35 = .ok (.invokestatic 150, 3) := by decide +kernel
theorem gl_c38 : decode (ew_cd 214) 38 = .ok (.aload_n 3, 1) := by decide +kernel
theorem gl_c39 : decode (ew_cd 214) 39 = .ok (.areturn, 1) := by decide +kernel
theorem gl_f9 : et_fd 2 9 = some (2, 1, 2) := by decide +kernel
theorem gl_f48 : et_fd 2 48 = some (2, 2, 0) := by decide +kernel
theorem gl_nf : nativeFrameWords "java/lang/System" "arraycopy" 5 + 11 ≤ 60 := by decide +kernel
/-- what toArray leaves -/
def gl_hT (h : ew_H) (kb ib n : Nat) : ew_H := ew_mk h 244 (h.2.2.2.1 244) n (fun s => bif Nat.blt s n then h.1 kb ib s else ew_0)
theorem gl_cpT (h : ew_H) {kb ib g n : Nat} (hne : ¬ (kb = 244 ∧ ib = g)) : ew_cpy (ew_mk h 244 g n (fun _ => ew_0)) 244 g 0 n (fun j => (ew_mk h 244 g n (fun _ => ew_0)).1 kb ib (0 + j)) = ew_mk h 244 g n (fun s => bif Nat.blt s n then h.1 kb ib s else ew_0) := by
  refine Prod.ext (funext fun k' => funext fun i' => funext fun s' => ?_) rfl
  by_cases e : k' = 244 ∧ i' = g
  · obtain ⟨e1, e2⟩ := e
    rw [e1, e2, ew_cpy_in, ew_mk_self, ew_mk_self]
    by_cases w : s' < n
    · rw [if_pos ⟨Nat.zero_le _, by omega⟩, ew_mk_ne h _ _ _ hne, show Nat.blt s' n = true from Nat.ble_eq_true_of_le w, cond_true, Nat.zero_add, Nat.sub_zero]
    · rw [if_neg (by omega)]
      cases w2 : Nat.blt s' n with
      | false => rfl
      | true => exact absurd (Nat.le_of_ble_eq_true w2) w
  · rw [ew_cpy_ne _ _ _ _ _ e, ew_mk_ne h _ _ _ e, ew_mk_ne h _ _ _ e]
/-- words of both methods of Arrays -/
def gl_wA : List Cond := [.classLink "java/util/Arrays" 110 "[Ljava/lang/Object;", .classLink "java/util/Arrays" 2 "java/lang/Object", .methodLink "java/util/Arrays" 304 Lib.Math.min.name, .methodLink "java/util/Arrays" 150 arraycopyName, .static Lib.Math.min.name, .initialized "java/lang/Math", .code Lib.Math.min.name Lib.Math.min.code 2 (some .int), .native arraycopyName, .static arraycopyName, .initialized "java/lang/System"]
theorem gl_wA_in : ∀ w ∈ gl_wA, w ∈ lw_tbl ∧ goodWord w = true := by decide +kernel
/-- words of the second and of toArray -/
def gl_wB : List Cond := [.methodLink "java/util/Arrays" 86 ⟨"java/lang/Object", "getClass", "()Ljava/lang/Class;"⟩, .selects "[Ljava/lang/Object;" ⟨"java/lang/Object", "getClass", "()Ljava/lang/Class;"⟩ ⟨"java/lang/Object", "getClass", "()Ljava/lang/Class;"⟩, .instanceMethod ⟨"java/lang/Object", "getClass", "()Ljava/lang/Class;"⟩, .native ⟨"java/lang/Object", "getClass", "()Ljava/lang/Class;"⟩, .methodLink "java/util/Arrays" 300 (ew_nm 214), .static (ew_nm 214), .initialized "java/util/Arrays", ew_cw 214, .methodLink "java/util/ArrayList" 66 (ew_nm 213), .static (ew_nm 213), ew_cw 213]
theorem gl_wB_in : ∀ w ∈ gl_wB, w ∈ lw_tbl ∧ goodWord w = true := by decide +kernel
theorem gl_cast {p : Program} {l : Launch} {e : Env} {R : Room} {s : State} {m : MethodId} {args : Array Value} {below : List Frame} {meth : Method} {c : Code} {H : Heap} {locs : List Loc} {cells slots pc : Nat} {Q : State → Prop} {L : Array Slot} {st st' : List Value} (q : st = st') (k : W p l e R s m args below meth c H locs cells slots Q (F0 m pc L st)) : W p l e R s m args below meth c H locs cells slots Q (F0 m pc L st') := q ▸ k
section
variable {s : State} {A : Array Value} {l : Launch} {G : va_G} {TY : Nat → ClassId}
def gl_P3 (s : State) (G : va_G) (TY : Nat → ClassId) (h : ew_H) (a : Nat → Nat → Nat) (av : List Value) : Array Value → State → Prop := fun v U => v = av.toArray ∧ ew_I G TY s.heap.size s.heap a h U.heap ∧ gl_Wd s U
theorem gl_214 (hts : ∀ w ∈ lw_tbl, w.before A s = true) (hK : va_K G vwCl [] s) (hA : ew_AT TY s) {mi : Nat} (hM : va_Mi "[Ljava/lang/Object;" mi s) {kb ib : Nat} {n : Int32} {h : ew_H} (hl0 : h.2.2.1 kb ib = true) (g2 : ew_ct kb = 20) (g3 : ¬ n < 0) (g4 : n.toNatClampNeg ≤ ew_len h kb ib) (g5 : ew_len h kb ib ≤ 1000) (g6 : ∀ j, j < n.toNatClampNeg → ew_fit 2 (h.1 kb ib j)) (a : Nat → Nat → Nat) {mc ms : Nat} (em : mc = 0 + 1) (es : ms = 0 + n.toNatClampNeg) :
    Met l (ew_nm 214) (ew_cw 214 :: ew_TW) ({ frames := 1, cells := mc, slots := ms, locals := 60 }) (gl_P3 s G TY h a [.ref (a kb ib), .int n, .ref mi]) (ew_Qc G TY s.heap.size s.heap h a (some (ew_o 244 (h.2.2.2.1 244))) (gl_hT h kb ib n.toNatClampNeg)) mc ms (fun q => s.heap.size ≤ q) := by
  subst em; subst es
  refine Met.ofW (cc := ew_cd 214) (maxL := et_mx 214) (ret := ew_rt 214) (by decide) rfl ?_
  intro p e u m args below meth c s₁ B hml hv
  obtain ⟨rfl, I, hwd⟩ := hv
  have htw : ∀ w ∈ ew_TW, w.before ([Value.ref (a kb ib), .int n, .ref mi].toArray) u = true := fun w hw => atoms_spec (ws := ew_cw 214 :: ew_TW) B.pre w (List.mem_cons_of_mem _ hw)
  have hwA : ∀ w ∈ gl_wA, w.before ([Value.ref (a kb ib), .int n, .ref mi].toArray) u = true := fun w hw => htw _ (gl_tin (gl_wA_in w hw).1 (gl_wA_in w hw).2)
  have hx := B.exec
  have hb := B.bytes
  have hr := B.returns
  have hlocks := B.notSynchronized
  have hown : u.vm.findClass "java/util/Arrays" = some m.cls := findClass_of_methodNamed B.named
  have hW : s.WarmedH u.vm := hwd
  obtain ⟨hK', hA', hO, -⟩ := (gl_WP hts hK hA).2.2 u hwd
  have hMu := hM.moved hW.alike
  have hAO := (gl_AOs hts).1.moved hW.alike
  have hnl : h.2.2.1 244 (h.2.2.2.1 244) = false := I.2.2.2.1 244 _ rfl (Nat.le_refl _)
  have hne : ¬ (kb = 244 ∧ ib = h.2.2.2.1 244) := fun q => by
    rw [q.1, q.2, hnl] at hl0
    cases hl0
  have hl := lv_entry ([.ref (a kb ib), .int n, .ref mi]) (n := 4) (Nat.le_of_ble_eq_true rfl)
  show W p l e (headSpec (ew_cw 214 :: ew_TW) ({ frames := 1, cells := 0 + 1, slots := 0 + n.toNatClampNeg, locals := 60 })).room u m _ below meth c u.heap [] 0 0 _ (entryFrame m ([Value.ref (a kb ib), .int n, .ref mi] : List Value).toArray 4)
  rw [lg_entry_eq]
  generalize (lg_sl ([.ref (a kb ib), .int n, .ref mi]) ++ List.replicate (4 - (lg_sl ([.ref (a kb ib), .int n, .ref mi])).length) Slot.unset).toArray = ls at hl ⊢
  have hl : lv_has ls 4 [(0, .ref (a kb ib)), (1, .int n), (2, .ref mi)] := hl
  refine lv_aload_n hx hb gl_c0 rfl (lv_at hl 2 rfl) ?_
  refine va_ldcM hx hb hown (hwA (.classLink "java/util/Arrays" 110 "[Ljava/lang/Object;") (by decide)) hMu gl_c1 ?_
  refine lv_acmp_ne (rx := some mi) (ry := some mi) hx hb gl_c3' (tgt := 13) (by decide) (fun w => absurd rfl w) (fun _ => ?_)
  refine lv_iload_n hx hb gl_c6 rfl (lv_at hl 1 rfl) ?_
  refine er_anewa (k := 244) (i := h.2.2.2.1 244) (C := "java/lang/Object") hx hb hown hA' I rfl (hwA (.classLink "java/util/Arrays" 2 "java/lang/Object") (by decide)) hAO (by decide) (by decide) rfl hnl (fun _ => rfl) g3 rfl (by omega) (Nat.le_refl (0 + 1)) (Nat.le_refl (0 + n.toNatClampNeg)) gl_c7 (fun H1 I1 => ?_)
  refine lv_goto hx hb gl_c10 (tgt := 24) (by decide) ?_
  refine lv_astore_n hx hb gl_c24 rfl hl (by decide) rfl (fun ls2 hl2 => ?_)
  have ea : ew_al a 244 (h.2.2.2.1 244) u.heap.size kb ib = a kb ib := ew_al_ne a _ hne
  have hlb : (ew_mk h 244 (h.2.2.2.1 244) n.toNatClampNeg (fun _ => ew_0)).2.2.1 kb ib = true := (ew_mk_le h _ _ _ _).1 _ _ hl0
  have hln : ew_len (ew_mk h 244 (h.2.2.2.1 244) n.toNatClampNeg (fun _ => ew_0)) kb ib = ew_len h kb ib := by
    show ew_sl kb _ = ew_sl kb _
    rw [ew_mk_nne h _ _ hne]
  have hl3 : ew_len (ew_mk h 244 (h.2.2.2.1 244) n.toNatClampNeg (fun _ => ew_0)) 244 (h.2.2.2.1 244) = n.toNatClampNeg := by
    show ew_sl 244 _ = _
    rw [ew_mk_nself]
    rfl
  refine lv_aload_n hx hb gl_c25 rfl (lv_at hl2 1 rfl) ?_
  refine lv_iconst hx hb gl_c26 (v := 0) (by decide) ?_
  refine lv_aload_n hx hb gl_c27 rfl (lv_at hl2 0 rfl) ?_
  refine lv_iconst hx hb gl_c28 (v := 0) (by decide) ?_
  refine lv_aload_n hx hb gl_c29 rfl (lv_at hl2 1 rfl) ?_
  refine gl_cast (st := [.ref (ew_al a 244 (h.2.2.2.1 244) u.heap.size kb ib), .int 0, .ref (ew_al a 244 (h.2.2.2.1 244) u.heap.size 244 (h.2.2.2.1 244)), .int 0, .ref (ew_al a 244 (h.2.2.2.1 244) u.heap.size kb ib)]) (by rw [ea]) ?_
  refine er_alen hx hb hA' I1 hlb (by omega) (by omega) gl_c30 ?_
  refine lv_iload_n hx hb gl_c31 rfl (lv_at hl2 2 rfl) ?_
  refine va_mmin hx hb (by rw [hml]; exact hl2.1.symm) hown (hwA (.methodLink "java/util/Arrays" 304 Lib.Math.min.name) (by decide)) (hwA (.static Lib.Math.min.name) (by decide)) (hwA (.initialized "java/lang/Math") (by decide)) (hwA (.code Lib.Math.min.name Lib.Math.min.code 2 (some .int)) (by decide)) ?_ ?_ ?_ ?_ gl_c32 ?_
  · exact Nat.le_refl 1
  · show 4 + 13 ≤ 60
    decide
  · exact Nat.le_refl (0 + 1)
  · exact Nat.le_refl (0 + n.toNatClampNeg)
  have hmin : (if n < Int32.ofNat (ew_len (ew_mk h 244 (h.2.2.2.1 244) n.toNatClampNeg (fun _ => ew_0)) kb ib) then n else Int32.ofNat (ew_len (ew_mk h 244 (h.2.2.2.1 244) n.toNatClampNeg (fun _ => ew_0)) kb ib)) = n := by
    rw [hln]
    have en : n = ei n.toNatClampNeg := by
      rcases ei_dec n 1001 (by decide) with ⟨c, hc, rfl⟩ | ⟨w | w, -⟩
      · rw [ei_nat (by omega)]
      · exact absurd w g3
      · exfalso
        have := Int32.le_iff_toInt_le.mp w
        have e0 : n.toInt = (n.toNatClampNeg : Int) := by
          have := Int32.le_iff_toInt_le.mp (Int32.not_lt.mp g3)
          have e1 : (0 : Int32).toInt = 0 := rfl
          rw [e1] at this
          show n.toInt = ((n.toInt.toNat : Nat) : Int)
          omega
        have e2 : (ei 1001).toInt = 1001 := by decide
        omega
    by_cases w : n.toNatClampNeg = ew_len h kb ib
    · rw [← w]
      show (if n < ei n.toNatClampNeg then n else ei n.toNatClampNeg) = n
      rw [← en]
      split <;> rfl
    · rw [if_pos]
      rw [en]
      exact (ei_lt (by omega) (by omega)).mpr (by omega)
  rw [hmin]
  refine er_copy (k1 := kb) (i1 := ib) (k2 := 244) (i2 := h.2.2.2.1 244) hx hb (by rw [hml]; exact hl2.1.symm) hown hA' hO (hwA (.methodLink "java/util/Arrays" 150 arraycopyName) (by decide)) (hwA (.native arraycopyName) (by decide)) (hwA (.static arraycopyName) (by decide)) (hwA (.initialized "java/lang/System") (by decide)) I1 hlb (ew_mk_lself _ _ _ _ _) (by rw [g2]) (Or.inr (Or.inr g2)) rfl (fun q hq => by cases hq) (by decide) (by decide) g3 (by rw [hln]; show 0 + n.toNatClampNeg ≤ _; omega) (by rw [hl3]; show 0 + n.toNatClampNeg ≤ _; omega) (fun j hj => ?_) (Nat.le_refl 1) (by show 0 + (nativeFrameWords "java/lang/System" "arraycopy" 5 + 11) ≤ 60; have := gl_nf; omega) gl_c35 (fun H2 locs2 hlocs2 I2 => ?_)
  · show ew_fit (if ew_ct kb = 17 then 0 else if ew_ct kb = 18 then 1 else 2) ((ew_mk h 244 (h.2.2.2.1 244) n.toNatClampNeg (fun _ => ew_0)).1 kb ib (0 + j))
    rw [g2, if_neg (by decide), if_neg (by decide), ew_mk_ne h _ _ _ hne, Nat.zero_add]
    exact g6 j hj
  · have I2 : ew_I G TY s.heap.size s.heap (ew_al a 244 (h.2.2.2.1 244) u.heap.size) (ew_cpy (ew_mk h 244 (h.2.2.2.1 244) n.toNatClampNeg (fun _ => ew_0)) 244 (h.2.2.2.1 244) 0 n.toNatClampNeg (fun j => (ew_mk h 244 (h.2.2.2.1 244) n.toNatClampNeg (fun _ => ew_0)).1 kb ib (0 + j))) H2 := I2
    rw [gl_cpT h hne] at I2
    refine lv_aload_n hx hb gl_c38 rfl (lv_at hl2 0 rfl) ?_
    exact W.aret hx hb (rt := .array (.object "java/lang/Object")) hr (Or.inr ⟨_, rfl⟩) (Or.inr ⟨_, rfl⟩) (fun t ht _ => ⟨_, ew_ex.al (by decide) hnl, rfl, by rw [ht]; exact I2, fun w e => by cases e; exact Or.inr (ew_mk_lself _ _ _ _ _)⟩) hlocs2 gl_c39 hlocks
theorem gl_213 (hts : ∀ w ∈ lw_tbl, w.before A s = true) (hK : va_K G vwCl [] s) (hA : ew_AT TY s) {mi : Nat} (hM : va_Mi "[Ljava/lang/Object;" mi s) {kb ib : Nat} {n : Int32} {h : ew_H} (hl0 : h.2.2.1 kb ib = true) (g2 : ew_ct kb = 20) (g3 : ¬ n < 0) (g4 : n.toNatClampNeg ≤ ew_len h kb ib) (g5 : ew_len h kb ib ≤ 1000) (g6 : ∀ j, j < n.toNatClampNeg → ew_fit 2 (h.1 kb ib j)) (a : Nat → Nat → Nat) :
    Met l (ew_nm 213) (ew_cw 213 :: ew_TW) ({ frames := 2, cells := (gl_hT h kb ib n.toNatClampNeg).2.2.2.2.1 - h.2.2.2.2.1, slots := (gl_hT h kb ib n.toNatClampNeg).2.2.2.2.2 - h.2.2.2.2.2, locals := 90 }) (gl_P3 s G TY h a [.ref (a kb ib), .int n]) (ew_Qc G TY s.heap.size s.heap h a (some (ew_o 244 (h.2.2.2.1 244))) (gl_hT h kb ib n.toNatClampNeg)) ((gl_hT h kb ib n.toNatClampNeg).2.2.2.2.1 - h.2.2.2.2.1) ((gl_hT h kb ib n.toNatClampNeg).2.2.2.2.2 - h.2.2.2.2.2) (fun q => s.heap.size ≤ q) := by
  refine Met.ofW (cc := ew_cd 213) (maxL := et_mx 213) (ret := ew_rt 213) (by decide) rfl ?_
  intro p e u m args below meth c s₁ B hml hv
  obtain ⟨rfl, I, hwd⟩ := hv
  have htw : ∀ w ∈ ew_TW, w.before ([Value.ref (a kb ib), .int n].toArray) u = true := fun w hw => atoms_spec (ws := ew_cw 213 :: ew_TW) B.pre w (List.mem_cons_of_mem _ hw)
  have hwA : ∀ w ∈ gl_wB, w.before ([Value.ref (a kb ib), .int n].toArray) u = true := fun w hw => htw _ (gl_tin (gl_wB_in w hw).1 (gl_wB_in w hw).2)
  have hx := B.exec
  have hb := B.bytes
  have hr := B.returns
  have hlocks := B.notSynchronized
  have hown : u.vm.findClass "java/util/Arrays" = some m.cls := findClass_of_methodNamed B.named
  have hW : s.WarmedH u.vm := hwd
  obtain ⟨hK', hA', hO, -⟩ := (gl_WP hts hK hA).2.2 u hwd
  have hMu := hM.moved hW.alike
  have hDu : va_Dc u := (va_Dc.of (hts (.declares ⟨"java/lang/Object", "getClass", "()Ljava/lang/Class;"⟩) (by decide +kernel))).moved hW.alike
  have hl := lv_entry ([.ref (a kb ib), .int n]) (n := 2) (Nat.le_of_ble_eq_true rfl)
  show W p l e (headSpec (ew_cw 213 :: ew_TW) ({ frames := 2, cells := (gl_hT h kb ib n.toNatClampNeg).2.2.2.2.1 - h.2.2.2.2.1, slots := (gl_hT h kb ib n.toNatClampNeg).2.2.2.2.2 - h.2.2.2.2.2, locals := 90 })).room u m _ below meth c u.heap [] 0 0 _ (entryFrame m ([Value.ref (a kb ib), .int n] : List Value).toArray 2)
  rw [lg_entry_eq]
  generalize (lg_sl ([.ref (a kb ib), .int n]) ++ List.replicate (2 - (lg_sl ([.ref (a kb ib), .int n])).length) Slot.unset).toArray = ls at hl ⊢
  have hl : lv_has ls 2 [(0, .ref (a kb ib)), (1, .int n)] := hl
  refine lv_aload_n hx hb gl_a0' rfl (lv_at hl 0 rfl) ?_
  refine lv_iload_n hx hb gl_a1 rfl (lv_at hl 1 rfl) ?_
  refine lv_aload_n hx hb gl_a2 rfl (lv_at hl 0 rfl) ?_
  obtain ⟨cell, q1, -, q3, -, -, q6⟩ := er_rdA hA' I hl0 (by omega) (by omega)
  have hcn : u.vm.findClass "[Ljava/lang/Object;" = some cell.cls := by
    have e1 : ew_tc TY kb = TY 20 := by
      unfold ew_tc
      have e2 : (Nat.beq kb 17 || Nat.beq kb 49) = false := by
        cases w : (Nat.beq kb 17 || Nat.beq kb 49) with
        | false => rfl
        | true =>
          rcases Bool.or_eq_true_iff.mp w with w | w
          · rw [ew_beq w] at g2; exact absurd g2 (by decide)
          · rw [ew_beq w] at g2; exact absurd g2 (by decide)
      rw [e2, cond_false, g2]
    rw [q6, e1]
    exact va_nmO (C := "java/lang/Object") (hA'.1 20 (by decide) (by decide)).2 (by decide)
  refine va_getC hx hb (by rw [hml]; exact hl.1.symm) hown (hwA (.methodLink "java/util/Arrays" 86 ⟨"java/lang/Object", "getClass", "()Ljava/lang/Class;"⟩) (by decide)) hDu.use (hwA (.selects "[Ljava/lang/Object;" ⟨"java/lang/Object", "getClass", "()Ljava/lang/Class;"⟩ ⟨"java/lang/Object", "getClass", "()Ljava/lang/Class;"⟩) (by decide)) (hwA (.instanceMethod ⟨"java/lang/Object", "getClass", "()Ljava/lang/Class;"⟩) (by decide)) (hwA (.native ⟨"java/lang/Object", "getClass", "()Ljava/lang/Class;"⟩) (by decide)) hMu ⟨cell, q1, q3.2, hcn⟩ (by show 1 ≤ 2; decide) (by show (1 + (1 + 0)) + 14 ≤ 90; decide) gl_a3 ?_
  have hpre : PreS u u.heap (gl_P3 s G TY h a [.ref (a kb ib), .int n, .ref mi]) [.ref (a kb ib), .int n, .ref mi] := ⟨fun av U g mk q => ⟨q.1, q.2.1, (gl_WP hts hK hA).1 U (U.calling g mk av) rfl q.2.2⟩, fun U hU hw => ⟨rfl, by rw [hU]; exact I, (gl_WP hts hK hA).2.1 u U hw hwd⟩⟩
  refine er_back (rest := []) (va_runS (As := [.ref (a kb ib), .int n, .ref mi]) (Ts := ew_TW) (own := "java/util/Arrays") (nL := ls.size) ⟨hx, hb, by rw [hml]; exact hl.1.symm, hown, htw⟩ (gl_214 hts hK hA hM hl0 g2 g3 g4 g5 g6 a (mc := (gl_hT h kb ib n.toNatClampNeg).2.2.2.2.1 - h.2.2.2.2.1) (ms := (gl_hT h kb ib n.toNatClampNeg).2.2.2.2.2 - h.2.2.2.2.2) (by show h.2.2.2.2.1 + 1 - h.2.2.2.2.1 = 0 + 1; omega) (by show h.2.2.2.2.2 + n.toNatClampNeg - h.2.2.2.2.2 = 0 + n.toNatClampNeg; omega)) ⟨callB_of 3 htw (ew_good (fun w hw => ?_)) rfl rfl rfl (hwA (.initialized "java/util/Arrays") (by decide)) (hwA (.methodLink "java/util/Arrays" 300 (ew_nm 214)) (by decide +kernel)) (by decide) ⟨by show 1 + 1 ≤ 2; decide, by show 8 + (4 + 11) + 60 ≤ 90; decide⟩, hwA (.static (ew_nm 214)) (by decide +kernel)⟩ hpre rfl rfl rfl rfl (by show 2 * 0 + 0 ≤ 8; decide) gl_a6 ⟨by show 0 + _ ≤ _; rw [Nat.zero_add]; exact Nat.le_refl _, by show 0 + _ ≤ _; rw [Nat.zero_add]; exact Nat.le_refl _⟩) (fun v hv => by cases hv) (fun q hq => by cases hq) (fun a' H1 locs1 hex hlocs1 I1 hwf => ?_)
  · rcases List.mem_cons.mp hw with rfl | q
    · exact (gl_tin (gl_wB_in (ew_cw 214) (by decide +kernel)).1 (gl_wB_in (ew_cw 214) (by decide +kernel)).2)
    · exact q
  · rw [Nat.zero_add, Nat.zero_add]
    exact W.aret hx hb (rt := .array (.object "java/lang/Object")) hr (Or.inr ⟨_, rfl⟩) (Or.inr ⟨_, rfl⟩) (fun t ht _ => ⟨_, hex, rfl, by rw [ht]; exact I1, hwf⟩) hlocs1 gl_a9 hlocks
/-- ArrayList.toArray -/
theorem gl_203 (hts : ∀ w ∈ lw_tbl, w.before A s = true) (hK : va_K G vwCl [] s) (hA : ew_AT TY s) {mi : Nat} (hM : va_Mi "[Ljava/lang/Object;" mi s) (CK : Nat → Nat → Option Nat) (d : Nat) {k i kb ib : Nat} {n : Int32} {h : ew_H} (e1 : h.1 k i 1 = ew_o kb ib) (e2 : h.1 k i 2 = ew_i n) (g1 : ew_ct k = 2) (g2 : ew_ct kb = 20) (g3 : ¬ n < 0) (g4 : n.toNatClampNeg ≤ ew_len h kb ib) (g5 : ew_len h kb ib ≤ 1000) (g6 : ∀ j, j < n.toNatClampNeg → ew_fit 2 (h.1 kb ib j)) :
    ew_Mt l G TY s.heap.size s.heap CK (gl_Wd s) d 203 [ew_o k i] h (some (ew_o 244 (h.2.2.2.1 244))) (gl_hT h kb ib n.toNatClampNeg) := by
  intro a
  refine Met.ofW (cc := ew_cd 203) (maxL := et_mx 203) (ret := ew_rt 203) (by decide) rfl ?_
  intro p e u m args below meth c s₁ B hml hv
  obtain ⟨rfl, I, hwd, hw, -⟩ := hv
  have htw : ∀ w ∈ ew_TW, w.before ([ew_o k i].map (ew_c a)).toArray u = true := fun w hw => atoms_spec (ws := ew_cw 203 :: ew_TW) B.pre w (List.mem_cons_of_mem _ hw)
  have hwA : ∀ w ∈ gl_wB, w.before ([ew_o k i].map (ew_c a)).toArray u = true := fun w hw => htw _ (gl_tin (gl_wB_in w hw).1 (gl_wB_in w hw).2)
  have hx := B.exec
  have hb := B.bytes
  have hr := B.returns
  have hlocks := B.notSynchronized
  have hown : u.vm.findClass (ew_on 2) = some m.cls := findClass_of_methodNamed B.named
  have hW : s.WarmedH u.vm := hwd
  obtain ⟨hK', hA', hO, hNW⟩ := (gl_WP hts hK hA).2.2 u hwd
  have hlk : h.2.2.1 k i = true := by
    rcases hw (ew_o k i) List.mem_cons_self with w | w
    · have w : k = 31 := w
      rw [w] at g1; exact absurd g1 (by decide)
    · exact w
  have hl0 : h.2.2.1 kb ib = true := by
    have w := (I.2.2.1 k i 1 hlk).wf
    rw [e1] at w
    rcases w with w | w
    · have w : kb = 31 := w
      rw [w] at g2; exact absurd g2 (by decide)
    · exact w
  have hl := lv_entry ([.ref (a k i)]) (n := 1) (Nat.le_of_ble_eq_true rfl)
  show W p l e (headSpec (ew_cw 203 :: ew_TW) (ew_rm d h (gl_hT h kb ib n.toNatClampNeg))).room u m _ below meth c u.heap [] 0 0 _ (entryFrame m ([Value.ref (a k i)] : List Value).toArray 1)
  rw [lg_entry_eq]
  generalize (lg_sl ([.ref (a k i)]) ++ List.replicate (1 - (lg_sl ([.ref (a k i)])).length) Slot.unset).toArray = ls at hl ⊢
  have hl : lv_has ls 1 [(0, .ref (a k i))] := hl
  refine lv_aload_n hx hb gl_t0 rfl (lv_at hl 0 rfl) ?_
  refine er_get hx hb htw hNW hK' hown I hlk (ev_T2 gl_f9).1 g1 (by decide) gl_t1 ?_
  rw [e1]
  refine lv_aload_n hx hb gl_t4 rfl (lv_at hl 0 rfl) ?_
  refine er_get hx hb htw hNW hK' hown I hlk (ev_T2 gl_f48).1 g1 (by decide) gl_t5 ?_
  rw [e2]
  have hpre : PreS u u.heap (gl_P3 s G TY h a [.ref (a kb ib), .int n]) [.ref (a kb ib), .int n] := ⟨fun av U g mk q => ⟨q.1, q.2.1, (gl_WP hts hK hA).1 U (U.calling g mk av) rfl q.2.2⟩, fun U hU hw => ⟨rfl, by rw [hU]; exact I, (gl_WP hts hK hA).2.1 u U hw hwd⟩⟩
  refine er_back (rest := []) (va_runS (As := [.ref (a kb ib), .int n]) (Ts := ew_TW) (own := ew_on 2) (nL := ls.size) ⟨hx, hb, by rw [hml]; exact hl.1.symm, hown, htw⟩ (gl_213 hts hK hA hM hl0 g2 g3 g4 g5 g6 a) ⟨callB_of 2 htw (ew_good (fun w hw => ?_)) rfl rfl rfl (hwA (.initialized "java/util/Arrays") (by decide)) (hwA (.methodLink "java/util/ArrayList" 66 (ew_nm 213)) (by decide +kernel)) (by decide) ⟨by show 2 + 1 ≤ 6 + d; omega, by show 8 + (2 + 11) + 90 ≤ 150 + 32 * d; omega⟩, hwA (.static (ew_nm 213)) (by decide +kernel)⟩ hpre rfl rfl rfl rfl (by show 2 * 0 + 0 ≤ 8; decide) gl_t8 ⟨by show 0 + _ ≤ _; rw [Nat.zero_add]; exact Nat.le_refl _, by show 0 + _ ≤ _; rw [Nat.zero_add]; exact Nat.le_refl _⟩) (fun v hv => by cases hv) (fun q hq => by cases hq) (fun a' H1 locs1 hex hlocs1 I1 hwf => ?_)
  · rcases List.mem_cons.mp hw with rfl | q
    · exact (gl_tin (gl_wB_in (ew_cw 213) (by decide +kernel)).1 (gl_wB_in (ew_cw 213) (by decide +kernel)).2)
    · exact q
  · rw [Nat.zero_add, Nat.zero_add]
    exact W.aret hx hb (rt := .array (.object "java/lang/Object")) hr (Or.inr ⟨_, rfl⟩) (Or.inr ⟨_, rfl⟩) (fun t ht _ => ⟨_, hex, rfl, by rw [ht]; exact I1, hwf⟩) hlocs1 gl_t11 hlocks
theorem gl_T203_ok (hts : ∀ w ∈ lw_tbl, w.before A s = true) (hgv : (Jvm.Cond.and given_1 narrow_1).before A s = true) (hK : va_K G vwCl [] s) (hA : ew_AT TY s) (CK : Nat → Nat → Option Nat) : gl_T203 l G TY s CK := by
  obtain ⟨mi, hM⟩ := va_Mi.of (flat_of_before _ hgv (Cond.isRef (.mirror "[Ljava/lang/Object;")) (by decide +kernel))
  exact fun d k i kb ib n h e1 e2 g1 g2 g3 g4 g5 g6 => gl_203 hts hK hA hM CK d e1 e2 g1 g2 g3 g4 g5 g6
end
