/-! Calls that throw: further to the caller, or caught. -/
def ew_HP (Wd : State → Prop) (hh : List (Nat × Nat × Nat × Nat)) (y pc x t slot : Nat) : Prop := ∃ (pre : List ExceptionTableEntry) (z : ExceptionTableEntry) (suf : List ExceptionTableEntry), tableOf hh = pre ++ z :: suf ∧
  (∀ w ∈ pre, covers w pc = false ∨ (w.catchType ≠ 0 ∧ ∃ nm : String, Cond.classLink (ew_on (et_cls y)) w.catchType nm ∈ ew_TW ∧ ∀ U, Wd U → va_Nc (ew_xn x) nm U)) ∧ covers z pc = true ∧ z.catchType ≠ 0 ∧ Cond.classLink (ew_on (et_cls y)) z.catchType (ew_xn x) ∈ ew_TW ∧
  (∀ (U : State) (A : Array Value), Wd U → (Cond.castable (ew_xn x) (ew_xn x)).before A U = true) ∧ slot < et_mx y ∧ ∃ (ins : Instr) (w : Nat), decode (ew_cd y) z.handlerPc = .ok (ins, w) ∧ t = z.handlerPc + w ∧ ((ins = .astore slot ∧ w = 2) ∨ ∃ k : Fin 4, ins = .astore_n k ∧ (k : Nat) = slot ∧ w = 1)
section GC
variable {p : Program} {l : Launch} {e : Env} {R : Room} {s : State} {m : MethodId} {args : Array Value} {below : List Frame} {meth : Method} {c0 : Code} {Q : State → Prop}
variable {G : va_G} {TY : Nat → ClassId} {sz : Nat} {H0 : Heap} {NW : List Cond} {Wd : State → Prop} {CK : Nat → Nat → Option Nat} {d y : Nat} {hS hE : ew_H} {aS a : Nat → Nat → Nat} {H : Heap} {locs : List Loc} {cells slots : Nat} {L : Array Slot}
variable {pc nx tg : Nat} {cv : Int32} {ls : List (Option ew_V)} {st : List ew_V} {h : ew_H} {i : Instr} {n : Nat} {r : ew_R}
theorem ex_runV (X : ew_Cx p l e R s m args below meth c0 NW G TY Wd d y) (hck : ew_ck CK hS aS) {d' x z n k i : Nat} {r : vw_C} (hdd : d = d' + 1) (hr : vwCl[ew_ct k]? = some r) (hrc : (ew_nm z).cls = r.1) (h17 : ew_ct k < 17) (hY : ew_YP z) (hkd : et_kd z = 1) (y8 : Cond.selects (ew_nm z).cls (ew_nm z) (ew_nm z) ∈ ew_TW) (hlk : Cond.methodLink (ew_on (et_cls y)) x (ew_nm z) ∈ ew_TW) (hLP : ew_LP NW (ew_on (et_cls y)) x z n) {as rest : List ew_V} (hn : as.length = n) {xx : Nat} {h' : ew_H} (hM : ew_Mx l G TY sz H0 CK Wd d' z (ew_o k i :: as) h xx h') (hc8 : ew_cats rest ≤ 8)
    (hle0 : ew_le hS h) (hle : ew_le h h') (hle1 : ew_le h' hE) (hRc : hE.2.2.2.2.1 - hS.2.2.2.2.1 ≤ R.cells) (hRs : hE.2.2.2.2.2 - hS.2.2.2.2.2 ≤ R.slots) (hd : decode (ew_cd y) pc = .ok (.invokevirtual x, 3)) (hSt : ew_St G TY sz H0 y hS aS a (pc, ls, as.reverse ++ ew_o k i :: rest, h) H locs cells slots L) :
    vx_Run p l e R s m args below meth c0 H locs cells slots (h'.2.2.2.2.1 - h.2.2.2.2.1) (h'.2.2.2.2.2 - h.2.2.2.2.2) (F0 m pc L ((as.reverse ++ ew_o k i :: rest).map (ew_c a))) (rest.map (ew_c a)) (fun _ _ _ => False) (ew_XC G TY sz H0 h a xx h') (fun q => sz ≤ q) := by
  obtain ⟨hx, hb, hml, hown, hts, hW, hwd, hf, hlo, -⟩ := X
  obtain ⟨hK, -, -, -⟩ := hW.2.2 s hwd
  obtain ⟨y1, y2, y3, y4, -, y6, -⟩ := hY
  have y7 := y6 hkd
  obtain ⟨s1, s2, s3, s4, s5, s6, s7, s8, s9⟩ := id hSt
  have s2 : ew_I G TY sz H0 a h H := s2
  have b1 := hle1.2.1
  have b2 := hle1.2.2
  have b3 := hle.2.1
  have b4 := hle.2.2
  have b5 := hle0.2.1
  have b6 := hle0.2.2
  dsimp only at s6 s8 s9
  have haw : ∀ v ∈ as, ew_wf h v := fun v q => s6 v (List.mem_append_left _ (List.mem_reverse.mpr q))
  have hl := ew_live (s6 (ew_o k i) (List.mem_append_right _ List.mem_cons_self)) (ew_ne31 rfl (show ew_ct k < 31 by omega))
  obtain ⟨r', cell, hr', q1, q2, q3, -⟩ := er_rdO s2 hl h17
  cases hr.symm.trans hr'
  have hcl2 := (hK.1 _ _ hr).2
  have hst : (as.reverse ++ ew_o k i :: rest).map (ew_c a) = (as.map (ew_c a)).reverse ++ .ref (a k i) :: rest.map (ew_c a) := by
    rw [List.map_append, List.map_reverse]; rfl
  have hpre : PreV s H r.1 (a k i) (ew_Pc G TY sz H0 CK Wd (ew_o k i :: as) h a) (as.map (ew_c a)) := ⟨ew_blind hW, ⟨cell, q1, q3.2, by rw [q2]; exact hcl2.1⟩, fun U hU hw => ⟨rfl, by rw [hU]; exact s2, hW.2.1 s U hw hwd, es_cons (Or.inr hl) haw, hck.to s1 hle0⟩⟩
  refine vx_runV (C := r.1) (As := as.map (ew_c a)) (Ts := ew_TW) (own := ew_on (et_cls y)) (index := x) ⟨hx, hb, hml, hown, hts⟩ (hM a) (cwV n hts (ew_good (fun w hw => ?_)) rfl rfl rfl ⟨hrc, y3.1, y3.2, hLP.2⟩ ⟨show 6 + d' + 1 ≤ R.frames by omega, show 8 + (et_mx z + 11) + (150 + 40 * d') ≤ R.locals by omega⟩) hpre rfl (by rw [List.length_map]; exact hn) s3.1 hst (by rw [ew_cats_map]; show 2 * 0 + _ ≤ 8; omega) hd ⟨by omega, by omega⟩
  rcases List.mem_append.mp hw with q | q
  · simp only [List.mem_cons, List.not_mem_nil, or_false] at q
    rcases q with rfl | rfl | rfl | rfl
    · exact hlk
    · exact y7
    · rw [← hrc]; exact y8
    · rw [← hrc]; exact y2
  · rcases List.mem_cons.mp q with rfl | q
    · exact y1
    · exact q
theorem ex_runS (X : ew_Cx p l e R s m args below meth c0 NW G TY Wd d y) (hck : ew_ck CK hS aS) {d' x z n : Nat} (hdd : d = d' + 1) (hY : ew_YP z) (hkd : et_kd z = 0) (hlk : Cond.methodLink (ew_on (et_cls y)) x (ew_nm z) ∈ ew_TW) (hLP : ew_LP NW (ew_on (et_cls y)) x z n) {as rest : List ew_V} (hn : as.length = n) {xx : Nat} {h' : ew_H} (hM : ew_Mx l G TY sz H0 CK Wd d' z as h xx h') (hc8 : ew_cats rest ≤ 8)
    (hle0 : ew_le hS h) (hle : ew_le h h') (hle1 : ew_le h' hE) (hRc : hE.2.2.2.2.1 - hS.2.2.2.2.1 ≤ R.cells) (hRs : hE.2.2.2.2.2 - hS.2.2.2.2.2 ≤ R.slots) (hd : decode (ew_cd y) pc = .ok (.invokestatic x, 3)) (hSt : ew_St G TY sz H0 y hS aS a (pc, ls, as.reverse ++ rest, h) H locs cells slots L) :
    vx_Run p l e R s m args below meth c0 H locs cells slots (h'.2.2.2.2.1 - h.2.2.2.2.1) (h'.2.2.2.2.2 - h.2.2.2.2.2) (F0 m pc L ((as.reverse ++ rest).map (ew_c a))) (rest.map (ew_c a)) (fun _ _ _ => False) (ew_XC G TY sz H0 h a xx h') (fun q => sz ≤ q) := by
  obtain ⟨hx, hb, hml, hown, hts, hW, hwd, hf, hlo, -⟩ := X
  obtain ⟨y1, y2, y3, y4, y5, -, -⟩ := hY
  have y5 := y5 hkd
  obtain ⟨s1, s2, s3, s4, s5, s6, s7, s8, s9⟩ := id hSt
  have s2 : ew_I G TY sz H0 a h H := s2
  have b1 := hle1.2.1
  have b2 := hle1.2.2
  have b3 := hle.2.1
  have b4 := hle.2.2
  have b5 := hle0.2.1
  have b6 := hle0.2.2
  dsimp only at s6 s8 s9
  have haw : ∀ v ∈ as, ew_wf h v := fun v q => s6 v (List.mem_append_left _ (List.mem_reverse.mpr q))
  have hst : (as.reverse ++ rest).map (ew_c a) = (as.map (ew_c a)).reverse ++ rest.map (ew_c a) := by
    rw [List.map_append, List.map_reverse]
  have hpre : PreS s H (ew_Pc G TY sz H0 CK Wd as h a) (as.map (ew_c a)) := ⟨ew_blind hW, fun U hU hw => ⟨rfl, by rw [hU]; exact s2, hW.2.1 s U hw hwd, haw, hck.to s1 hle0⟩⟩
  have hG : GoodIn ew_TW (ew_cw z :: ew_TW) := ew_good (fun w hw => by
    rcases List.mem_cons.mp hw with rfl | q
    · exact y1
    · exact q)
  exact vx_runS (As := as.map (ew_c a)) (Ts := ew_TW) (own := ew_on (et_cls y)) (index := x) ⟨hx, hb, hml, hown, hts⟩ (hM a) ⟨callB_of n hts hG rfl rfl rfl (hts _ y2) (hts _ hlk) ⟨y3.1, y3.2, hLP.2⟩ ⟨show 6 + d' + 1 ≤ R.frames by omega, show 8 + (et_mx z + 11) + (150 + 40 * d') ≤ R.locals by omega⟩, hts _ y5⟩ hpre rfl (by rw [List.length_map]; exact hn) s3.1 hst (by rw [ew_cats_map]; show 2 * 0 + _ ≤ 8; omega) hd ⟨by omega, by omega⟩
/-- not caught -/
theorem ex_out (hlocks : meth.locks = false) (hnt : ∀ x ∈ c0.exceptionTable.toList, False) {xx : Nat} {rest : List Value} {g0 : List Value} (hle0 : ew_le hS h) (hle : ew_le h hE) {Qc : Array Value → State → Outcome → State → Prop} (hSt : ew_St G TY sz H0 y hS aS a (pc, ls, st, h) H locs cells slots L)
    (hr : vx_Run p l e R s m args below meth c0 H locs cells slots (hE.2.2.2.2.1 - h.2.2.2.2.1) (hE.2.2.2.2.2 - h.2.2.2.2.2) (F0 m pc L g0) rest (fun _ _ _ => False) (ew_XC G TY sz H0 h a xx hE) (fun q => sz ≤ q)) :
    W p l e R s m args below meth c0 H locs cells slots (vx_MQ below Qc (ew_XC G TY sz H0 hS aS xx hE) args s (hE.2.2.2.2.1 - hS.2.2.2.2.1) (hE.2.2.2.2.2 - hS.2.2.2.2.2) (fun q => sz ≤ q)) (F0 m pc L g0) := by
  obtain ⟨s1, s2, s3, s4, s5, s6, s7, s8, s9⟩ := hSt
  have b3 := hle.2.1
  have b4 := hle.2.2
  have b5 := hle0.2.1
  have b6 := hle0.2.2
  dsimp only at s8 s9
  intro T hT XX
  rcases hr T hT XX with ⟨v, st₀, t, T', L', h0, X', hL, e1, e2, hF, stp⟩ | ⟨q, st₀, t, T', L', E, ce, h0, X', hL, e1, e2, ⟨rfl, a', hex, hI⟩, hce, hcv, hcl, stp⟩
  · exact hF.elim
  · have key : vx_W p l e R s m args below meth c0 T'.heap (locs ++ L') (cells + (hE.2.2.2.2.1 - h.2.2.2.2.1)) (slots + (hE.2.2.2.2.2 - h.2.2.2.2.2)) (vx_MQ below Qc (ew_XC G TY sz H0 hS aS xx hE) args s (hE.2.2.2.2.1 - hS.2.2.2.2.1) (hE.2.2.2.2.2 - hS.2.2.2.2.2) (fun q => sz ≤ q)) (F0 m pc L rest) q := by
      refine vx_out (ce := ce) (fun z hz => (hnt z hz).elim) hlocks (by rw [e1]; exact hce) hcv hcl (fun t2 ht2 _ => ⟨rfl, a', s1.tr hle0 hex, by rw [ht2, e1]; exact hI⟩) (fun z hz => ?_) (by omega) (by omega)
      rcases List.mem_append.mp hz with hz | hz
      · exact s7 z hz
      · exact hL z hz
    obtain ⟨t2, a1, b1⟩ := key T' rfl X'
    exact ⟨t2, stp.trans a1, b1⟩
theorem ew_un_has {a : Nat → Nat → Nat} {ls : List (Option ew_V)} {L : Array Slot} {nL i : Nat} {v : Value}
    (h : lv_has L nL ((i, v) :: (ew_lp a 0 ls).filter (fun q => !(q.1 == i) && !(q.1 + 1 == i && q.2.category == 2)))) : lv_has L nL (ew_lp a 0 (ew_un ls i)) := by
  refine ⟨h.1, h.2.1, fun q hq => h.2.2 q ?_⟩
  obtain ⟨j, w, e1, rfl⟩ := (ew_lp_mem _ 0 q).mp hq
  unfold ew_un at e1
  by_cases e : i = j
  · subst e
    rw [List.getElem?_set] at e1
    split at e1
    · split at e1 <;> cases e1
    · rename_i hne
      exact absurd rfl hne
  · rw [List.getElem?_set_ne e] at e1
    obtain ⟨e2, e3⟩ := ew_clr_mem (a := a) e1
    refine List.mem_cons_of_mem _ (List.mem_filter.mpr ⟨(ew_lp_mem _ 0 _).mpr ⟨j, w, e2, rfl⟩, ?_⟩)
    simp only [Nat.zero_add, ew_c_cat, Bool.and_eq_true, Bool.not_eq_true', beq_eq_false_iff_ne, ne_eq, Bool.and_eq_false_iff]
    refine ⟨fun q => e q.symm, ?_⟩
    by_cases e4 : j + 1 = i
    · exact Or.inr (fun q => e3 ⟨e4, q⟩)
    · exact Or.inl e4
theorem ew_un_wf {ls : List (Option ew_V)} {n : Nat} {v : ew_V} (hv : some v ∈ ew_un ls n) : some v ∈ ls := by
  rcases List.mem_or_eq_of_mem_set hv with q | q
  · exact es_clr q
  · cases q
/-- caught -/
theorem ex_caught (X : ew_Cx p l e R s m args below meth c0 NW G TY Wd d y) {hh : List (Nat × Nat × Nat × Nat)} (htab : c0.exceptionTable.toList = tableOf hh) {xx t slot : Nat} (hHP : ew_HP Wd hh y pc xx t slot) {rest : List Value} {g0 : List Value} {h' : ew_H} (hle0 : ew_le hS h) (hle : ew_le h h') (hSt : ew_St G TY sz H0 y hS aS a (pc, ls, st, h) H locs cells slots L)
    (hr : vx_Run p l e R s m args below meth c0 H locs cells slots (h'.2.2.2.2.1 - h.2.2.2.2.1) (h'.2.2.2.2.2 - h.2.2.2.2.2) (F0 m pc L g0) rest (fun _ _ _ => False) (ew_XC G TY sz H0 h a xx h') (fun q => sz ≤ q))
    (k2 : ∀ a H locs cells slots L, ew_St G TY sz H0 y hS aS a (t, ew_un ls slot, [], h') H locs cells slots L → W p l e R s m args below meth c0 H locs cells slots Q (F0 m t L [])) :
    W p l e R s m args below meth c0 H locs cells slots Q (F0 m pc L g0) := by
  obtain ⟨hx, hb, hml, hown, hts, hW, hwd, hf, hlo, -⟩ := X
  obtain ⟨s1, s2, s3, s4, s5, s6, s7, s8, s9⟩ := hSt
  have b3 := hle.2.1
  have b4 := hle.2.2
  have b5 := hle0.2.1
  have b6 := hle0.2.2
  dsimp only at s3 s4 s5 s8 s9
  obtain ⟨pre, z, suf, hsplit, hpass, hcov, hc0, hlk, hcast, hslot, ins, w, hdec, rfl, hins⟩ := hHP
  intro T hT XX
  rcases hr T hT XX with ⟨v, st₀, t, T', L', h0, X', hL, e1, e2, hF, stp⟩ | ⟨q, st₀, t, T', L', E, ce, h0, X', hL, e1, e2, ⟨rfl, a', hex, hI⟩, hce, hcv, hcl, stp⟩
  · exact hF.elim
  · have hloc : ∀ q ∈ locs ++ L', sz ≤ q.base := fun q hq => by
      rcases List.mem_append.mp hq with hz | hz
      · exact s7 q hz
      · exact hL q hz
    have hlv : lv_has L (et_mx y) (ew_lp a' 0 ls) := ⟨s3.1, s3.2.1, fun q hq => by
      obtain ⟨j, v, e1, rfl⟩ := (ew_lp_mem ls 0 q).mp hq
      rw [hex.c (s5 v (es_mem e1))]
      exact s3.2.2 _ ((ew_lp_mem ls 0 _).mpr ⟨j, v, e1, rfl⟩)⟩
    have fin : ∀ L1 : Array Slot, lv_has L1 (et_mx y) (ew_lp a' 0 (ew_un ls slot)) → W p l e R s m args below meth c0 T'.heap (locs ++ L') (cells + (h'.2.2.2.2.1 - h.2.2.2.2.1)) (slots + (h'.2.2.2.2.2 - h.2.2.2.2.2)) Q (F0 m (z.handlerPc + w) L1 []) := fun L1 hL1 =>
      k2 a' _ _ _ _ L1 ⟨s1.tr hle0 hex, by rw [e1]; exact hI, hL1, by rw [ew_un, List.length_set, ew_clr_len]; exact s4, fun v hv => (s5 v (ew_un_wf hv)).le hle, fun v (hv : v ∈ ([] : List ew_V)) => absurd hv List.not_mem_nil, hloc, (by show cells + (h'.2.2.2.2.1 - h.2.2.2.2.1) + hS.2.2.2.2.1 = h'.2.2.2.2.1; omega), (by show slots + (h'.2.2.2.2.2 - h.2.2.2.2.2) + hS.2.2.2.2.2 = h'.2.2.2.2.2; omega)⟩
    have key : vx_W p l e R s m args below meth c0 T'.heap (locs ++ L') (cells + (h'.2.2.2.2.1 - h.2.2.2.2.1)) (slots + (h'.2.2.2.2.2 - h.2.2.2.2.2)) Q (F0 m pc L rest) q := by
      refine vx_catch (E := ew_xn xx) (name := ew_xn xx) (ce := ce) hown pre z suf (htab.trans hsplit) (fun u hu => ?_) hcov hc0 (hts _ hlk) (hcast s args hwd) (by rw [e1]; exact hce) hcv hcl ?_
      · rcases hpass u hu with g | ⟨g1, nm, g2, g3⟩
        · exact Or.inl g
        · exact Or.inr ⟨g1, nm, hts _ g2, g3 s hwd⟩
      · rcases hins with ⟨rfl, rfl⟩ | ⟨k, rfl, hk, rfl⟩
        · exact lv_astore hx hb hdec hlv hslot rfl (fun L1 hL1 => fin L1 (ew_un_has hL1))
        · exact lv_astore_n hx hb hdec hk hlv hslot rfl (fun L1 hL1 => fin L1 (ew_un_has hL1))
    obtain ⟨t2, a1, b1⟩ := key T' rfl X'
    exact ⟨t2, stp.trans a1, b1⟩
end GC
