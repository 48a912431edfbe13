/-! One step, on both machines: calls. -/
section EV
variable {p : Program} {l : Launch} {e : Env} {R : Room} {s : State} {m : MethodId} {args : Array Value} {below : List Frame} {meth : Method} {c0 : Code} {Q : State → Prop}
variable {G : va_G} {TY : Nat → ClassId} {sz : Nat} {H0 : Heap} {NW : List Cond} {Wd : State → Prop} {CK : Nat → Nat → Option Nat} {d y : Nat} {hS hE : ew_H} {aS : Nat → Nat → Nat}
variable {pc nx tg : Nat} {cv : Int32} {ls : List (Option ew_V)} {st : List ew_V} {h : ew_H}
/-- behind a call -/
theorem es_after {a a' : Nat → Nat → Nat} {H H1 : Heap} {locs locs1 : List Loc} {cells slots pc pc' : Nat} {L : Array Slot} {st st' : List ew_V} {h' : ew_H} (hSt : ew_St G TY sz H0 y hS aS a (pc, ls, st, h) H locs cells slots L) (hle0 : ew_le hS h) (hle : ew_le h h') (hex : ew_ex h a a') (hl1 : ∀ q ∈ locs1, sz ≤ q.base) (I1 : ew_I G TY sz H0 a' h' H1) (hw : ∀ v ∈ st', ew_wf h' v) :
    ew_St G TY sz H0 y hS aS a' (pc', ls, st', h') H1 locs1 (cells + (h'.2.2.2.2.1 - h.2.2.2.2.1)) (slots + (h'.2.2.2.2.2 - h.2.2.2.2.2)) L := by
  obtain ⟨s1, s2, s3, s4, s5, s6, s7, s8, s9⟩ := hSt
  have b1 := hle.2.1
  have b2 := hle.2.2
  dsimp only at s8 s9
  refine ⟨s1.tr hle0 hex, I1, ⟨s3.1, s3.2.1, fun q hq => ?_⟩, s4, fun v q => (s5 v q).le hle, hw, hl1, by dsimp only; omega, by dsimp only; omega⟩
  obtain ⟨j, v, e1, rfl⟩ := (ew_lp_mem ls 0 q).mp hq
  rw [hex.c (s5 v (es_mem e1))]
  exact s3.2.2 _ ((ew_lp_mem ls 0 _).mpr ⟨j, v, e1, rfl⟩)
theorem es_callV (X : ew_Cx p l e R s m args below meth c0 NW G TY Wd d y) (hck : ew_ck CK hS aS) {d' x z n k i : Nat} {r : vw_C} (hdd : d = d' + 1) (hr : vwCl[ew_ct k]? = some r) (hrc : (ew_nm z).cls = r.1) (h17 : ew_ct k < 17) (hY : ew_YP z) (hkd : et_kd z = 1) (y8 : Cond.selects (ew_nm z).cls (ew_nm z) (ew_nm z) ∈ ew_TW) (hLP : ew_LP NW (ew_on (et_cls y)) x z n) {as rest : List ew_V} (hn : as.length = n) {v : Option ew_V} {h' : ew_H} (hM : ew_Mt l G TY sz H0 CK Wd d' z (ew_o k i :: as) h v h') (hc8 : ew_cats rest ≤ 8)
    (hle : ew_le h h') (hRc : hE.2.2.2.2.1 - hS.2.2.2.2.1 ≤ R.cells) (hRs : hE.2.2.2.2.2 - hS.2.2.2.2.2 ≤ R.slots) (hd : decode (ew_cd y) pc = .ok (.invokevirtual x, 3)) :
    ew_K p l e R s m args below meth c0 G TY sz H0 Q y hS hE aS (pc, ls, as.reverse ++ ew_o k i :: rest, h) (pc + 3, ls, v.toList ++ rest, h') := by
  obtain ⟨hx, hb, hml, hown, hts, hW, hwd, hf, hlo, -⟩ := X
  intro kq hle0
  obtain ⟨k1, k2⟩ := kq (hle0.tr hle)
  refine ⟨hle.tr k1, fun a H locs cells slots L hSt => ?_⟩
  obtain ⟨s1, s2, s3, s4, s5, s6, s7, s8, s9⟩ := id hSt
  have s2 : ew_I G TY sz H0 a h H := s2
  have b1 := k1.2.1
  have b2 := k1.2.2
  have b3 := hle.2.1
  have b4 := hle.2.2
  have b5 := hle0.2.1
  have b6 := hle0.2.2
  dsimp only at b1 b2 s8 s9 b5 b6
  have hrest : ∀ v ∈ rest, ew_wf h v := fun v q => s6 v (List.mem_append_right _ (List.mem_cons_of_mem _ q))
  have haw : ∀ v ∈ as, ew_wf h v := fun v q => s6 v (List.mem_append_left _ (List.mem_reverse.mpr q))
  refine er_callV hW hwd hx hb (by rw [hml]; exact s3.1.symm) hown hts s2 (hck.to s1 hle0) hr hrc h17 hY hkd y8 hLP hn (ew_live (s6 (ew_o k i) (List.mem_append_right _ List.mem_cons_self)) (ew_ne31 rfl (show ew_ct k < 31 by omega))) haw hrest hM hc8 (by omega) (by omega) s7 (by omega) (by omega) hd (fun a' H1 locs1 hex hl1 I1 hv => k2 a' H1 locs1 _ _ L (es_after hSt hle0 hle hex hl1 I1 ?_))
  intro w q
  rcases List.mem_append.mp q with q | q
  · cases v with
    | none => cases q
    | some u =>
      rw [List.mem_singleton.mp q]
      exact hv u rfl
  · exact (hrest w q).le hle
theorem es_callI (X : ew_Cx p l e R s m args below meth c0 NW G TY Wd d y) (hck : ew_ck CK hS aS) {d' x z n k i : Nat} (hdd : d = d' + 1) (hY : ew_YP z) (hkd : et_kd z = 2) (hLP : ew_LP NW (ew_on (et_cls y)) x z n) {as rest : List ew_V} (hn : as.length = n) {v : Option ew_V} {h' : ew_H} (hM : ew_Mt l G TY sz H0 CK Wd d' z (ew_o k i :: as) h v h') (hc8 : ew_cats rest ≤ 8)
    (hle : ew_le h h') (hRc : hE.2.2.2.2.1 - hS.2.2.2.2.1 ≤ R.cells) (hRs : hE.2.2.2.2.2 - hS.2.2.2.2.2 ≤ R.slots) (hd : decode (ew_cd y) pc = .ok (.invokespecial x, 3)) :
    ew_K p l e R s m args below meth c0 G TY sz H0 Q y hS hE aS (pc, ls, as.reverse ++ ew_o k i :: rest, h) (pc + 3, ls, v.toList ++ rest, h') := by
  obtain ⟨hx, hb, hml, hown, hts, hW, hwd, hf, hlo, -⟩ := X
  intro kq hle0
  obtain ⟨k1, k2⟩ := kq (hle0.tr hle)
  refine ⟨hle.tr k1, fun a H locs cells slots L hSt => ?_⟩
  obtain ⟨s1, s2, s3, s4, s5, s6, s7, s8, s9⟩ := id hSt
  have s2 : ew_I G TY sz H0 a h H := s2
  have b1 := k1.2.1
  have b2 := k1.2.2
  have b3 := hle.2.1
  have b4 := hle.2.2
  have b5 := hle0.2.1
  have b6 := hle0.2.2
  dsimp only at b1 b2 s8 s9 b5 b6
  have hrest : ∀ v ∈ rest, ew_wf h v := fun v q => s6 v (List.mem_append_right _ (List.mem_cons_of_mem _ q))
  have haw : ∀ v ∈ as, ew_wf h v := fun v q => s6 v (List.mem_append_left _ (List.mem_reverse.mpr q))
  refine er_callI hW hwd hx hb (by rw [hml]; exact s3.1.symm) hown hts s2 (hck.to s1 hle0) hY hkd hLP hn (s6 (ew_o k i) (List.mem_append_right _ List.mem_cons_self)) haw hrest hM hc8 (by omega) (by omega) s7 (by omega) (by omega) hd (fun a' H1 locs1 hex hl1 I1 hv => k2 a' H1 locs1 _ _ L (es_after hSt hle0 hle hex hl1 I1 ?_))
  intro w q
  rcases List.mem_append.mp q with q | q
  · cases v with
    | none => cases q
    | some u =>
      rw [List.mem_singleton.mp q]
      exact hv u rfl
  · exact (hrest w q).le hle
theorem es_callS (X : ew_Cx p l e R s m args below meth c0 NW G TY Wd d y) (hck : ew_ck CK hS aS) {d' x z n : Nat} (hdd : d = d' + 1) (hY : ew_YP z) (hkd : et_kd z = 0) (hLP : ew_LP NW (ew_on (et_cls y)) x z n) {as rest : List ew_V} (hn : as.length = n) {v : Option ew_V} {h' : ew_H} (hM : ew_Mt l G TY sz H0 CK Wd d' z as h v h') (hc8 : ew_cats rest ≤ 8)
    (hle : ew_le h h') (hRc : hE.2.2.2.2.1 - hS.2.2.2.2.1 ≤ R.cells) (hRs : hE.2.2.2.2.2 - hS.2.2.2.2.2 ≤ R.slots) (hd : decode (ew_cd y) pc = .ok (.invokestatic x, 3)) :
    ew_K p l e R s m args below meth c0 G TY sz H0 Q y hS hE aS (pc, ls, as.reverse ++ rest, h) (pc + 3, ls, v.toList ++ rest, h') := by
  obtain ⟨hx, hb, hml, hown, hts, hW, hwd, hf, hlo, -⟩ := X
  intro kq hle0
  obtain ⟨k1, k2⟩ := kq (hle0.tr hle)
  refine ⟨hle.tr k1, fun a H locs cells slots L hSt => ?_⟩
  obtain ⟨s1, s2, s3, s4, s5, s6, s7, s8, s9⟩ := id hSt
  have s2 : ew_I G TY sz H0 a h H := s2
  have b1 := k1.2.1
  have b2 := k1.2.2
  have b3 := hle.2.1
  have b4 := hle.2.2
  have b5 := hle0.2.1
  have b6 := hle0.2.2
  dsimp only at b1 b2 s8 s9 b5 b6
  have hrest : ∀ v ∈ rest, ew_wf h v := fun v q => s6 v (List.mem_append_right _ q)
  have haw : ∀ v ∈ as, ew_wf h v := fun v q => s6 v (List.mem_append_left _ (List.mem_reverse.mpr q))
  refine er_callS hW hwd hx hb (by rw [hml]; exact s3.1.symm) hown hts s2 (hck.to s1 hle0) hY hkd hLP hn haw hrest hM hc8 (by omega) (by omega) s7 (by omega) (by omega) hd (fun a' H1 locs1 hex hl1 I1 hv => k2 a' H1 locs1 _ _ L (es_after hSt hle0 hle hex hl1 I1 ?_))
  intro w q
  rcases List.mem_append.mp q with q | q
  · cases v with
    | none => cases q
    | some u =>
      rw [List.mem_singleton.mp q]
      exact hv u rfl
  · exact (hrest w q).le hle
/-- a call through an interface -/
theorem es_callF (X : ew_Cx p l e R s m args below meth c0 NW G TY Wd d y) (hck : ew_ck CK hS aS) {d' x z n k i cnt : Nat} {r : vw_C} {xn : MethodName} (hdd : d = d' + 1) (hr : vwCl[ew_ct k]? = some r) (h17 : ew_ct k < 17) (hY : ew_YP z) (hkd : et_kd z = 1) (hlk : Cond.methodLink (ew_on (et_cls y)) x xn ∈ ew_TW) (hsel : Cond.selects r.1 xn (ew_nm z) ∈ ew_TW) (hF : ∀ U, Wd U → va_Fw r.1 xn (ew_nm z) U) (hxn : xn.cls ≠ "java/lang/invoke/MethodHandle" ∧ xn.cls ≠ "java/lang/invoke/VarHandle" ∧ (parseMethodDescriptor xn.desc).map (fun d => d.parameters.length) = some n)
    {as rest : List ew_V} (hn : as.length = n) {v : Option ew_V} {h' : ew_H} (hM : ew_Mt l G TY sz H0 CK Wd d' z (ew_o k i :: as) h v h') (hc8 : ew_cats rest ≤ 8)
    (hle : ew_le h h') (hRc : hE.2.2.2.2.1 - hS.2.2.2.2.1 ≤ R.cells) (hRs : hE.2.2.2.2.2 - hS.2.2.2.2.2 ≤ R.slots) (hd : decode (ew_cd y) pc = .ok (.invokeinterface x cnt, 5)) :
    ew_K p l e R s m args below meth c0 G TY sz H0 Q y hS hE aS (pc, ls, as.reverse ++ ew_o k i :: rest, h) (pc + 5, ls, v.toList ++ rest, h') := by
  obtain ⟨hx, hb, hml, hown, hts, hW, hwd, hf, hlo, -⟩ := X
  obtain ⟨hK, hA, hO, hNW⟩ := hW.2.2 s hwd
  obtain ⟨y1, y2, y3, y4, -, y6, -⟩ := hY
  have y7 := y6 hkd
  intro kq hle0
  obtain ⟨k1, k2⟩ := kq (hle0.tr hle)
  refine ⟨hle.tr k1, fun a H locs cells slots L hSt => ?_⟩
  obtain ⟨s1, s2, s3, s4, s5, s6, s7, s8, s9⟩ := id hSt
  have s2 : ew_I G TY sz H0 a h H := s2
  have b1 := k1.2.1
  have b2 := k1.2.2
  have b3 := hle.2.1
  have b4 := hle.2.2
  have b5 := hle0.2.1
  have b6 := hle0.2.2
  dsimp only at b1 b2 s8 s9 b5 b6
  have hrest : ∀ v ∈ rest, ew_wf h v := fun v q => s6 v (List.mem_append_right _ (List.mem_cons_of_mem _ q))
  have haw : ∀ v ∈ as, ew_wf h v := fun v q => s6 v (List.mem_append_left _ (List.mem_reverse.mpr q))
  have hl := ew_live (s6 (ew_o k i) (List.mem_append_right _ List.mem_cons_self)) (ew_ne31 rfl (show ew_ct k < 31 by omega))
  obtain ⟨r', cell, hr', q1, q2, q3, -⟩ := er_rdO s2 hl h17
  cases hr.symm.trans hr'
  have hcl2 := (hK.1 _ _ hr).2
  have hst : (as.reverse ++ ew_o k i :: rest).map (ew_c a) = (as.map (ew_c a)).reverse ++ .ref (a k i) :: rest.map (ew_c a) := by
    rw [List.map_append, List.map_reverse]; rfl
  have hpre : PreV s H r.1 (a k i) (ew_Pc G TY sz H0 CK Wd (ew_o k i :: as) h a) (as.map (ew_c a)) := ⟨ew_blind hW, ⟨cell, q1, q3.2, by rw [q2]; exact hcl2.1⟩, fun U hU hw => ⟨rfl, by rw [hU]; exact s2, hW.2.1 s U hw hwd, es_cons (Or.inr hl) haw, hck.to s1 hle0⟩⟩
  have hrun : va_Run5 p l e R s m args below meth c0 H locs cells slots (h'.2.2.2.2.1 - h.2.2.2.2.1) (h'.2.2.2.2.2 - h.2.2.2.2.2) (F0 m pc L ((as.reverse ++ ew_o k i :: rest).map (ew_c a))) (rest.map (ew_c a)) (ew_Qc G TY sz H0 h a v h' (Value.ref (a k i) :: as.map (ew_c a)).toArray) (fun q => sz ≤ q) := va_runF (C := r.1) (As := as.map (ew_c a)) (Ts := ew_TW) (own := ew_on (et_cls y)) (count := cnt) hcl2 ⟨hx, hb, by rw [hml]; exact s3.1.symm, hown, hts⟩ (hM a) (va_cwF (x := xn) n hts (ew_good (fun w hw => by
    rcases List.mem_append.mp hw with q | q
    · simp only [List.mem_cons, List.not_mem_nil, or_false] at q
      rcases q with rfl | rfl | rfl | rfl
      · exact hlk
      · exact hsel
      · exact y7
      · exact y2
    · rcases List.mem_cons.mp q with rfl | q
      · exact y1
      · exact q)) rfl rfl rfl (hF s hwd) hxn ⟨(show 6 + d' + 1 ≤ R.frames by omega), (show 8 + (et_mx z + 11) + (150 + 40 * d') ≤ R.locals by omega)⟩) hpre rfl (by rw [List.length_map]; exact hn) rfl hst (by rw [ew_cats_map]; show 2 * 0 + _ ≤ 8; omega) hd ⟨(show cells + (h'.2.2.2.2.1 - h.2.2.2.2.1) ≤ R.cells by omega), (show slots + (h'.2.2.2.2.2 - h.2.2.2.2.2) ≤ R.slots by omega)⟩
  intro T hT XX
  obtain ⟨vv, st₀, t, T', L', h0, X', hL, e1, e2, ⟨a', hex, hvr, hI, hv⟩, stt⟩ := hrun T hT XX
  have hvv : vv = v.map (ew_c a') := Outcome.returned.inj hvr
  obtain ⟨t2, a1, b1⟩ := k2 a' T'.heap (locs ++ L') _ _ L (es_after hSt hle0 hle hex (fun q hq => by
    rcases List.mem_append.mp hq with z | z
    · exact s7 q z
    · exact hL q z) (by rw [e1]; exact hI) (fun w q => by
      rcases List.mem_append.mp q with q | q
      · cases v with
        | none => cases q
        | some u =>
          rw [List.mem_singleton.mp q]
          exact hv u rfl
      · exact (hrest w q).le hle)) T' rfl X'
  refine ⟨t2, stt t2 ?_, b1⟩
  rw [hvv, ← hex.map hrest]
  have : (Option.map (ew_c a') v).toList ++ rest.map (ew_c a') = (v.toList ++ rest).map (ew_c a') := by
    cases v <;> simp
  rw [this]
  exact a1
end EV
