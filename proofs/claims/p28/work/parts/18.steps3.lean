/-! One step, on both machines: fields, arrays, what is made, calls that return. -/
section EU
variable {p : Program} {l : Launch} {e : Env} {R : Room} {s : State} {m : MethodId} {args : Array Value} {below : List Frame} {meth : Method} {c0 : Code} {Q : State → Prop}
variable {G : va_G} {TY : Nat → ClassId} {sz : Nat} {H0 : Heap} {NW : List Cond} {Wd : State → Prop} {d y : Nat} {hS hE : ew_H} {aS : Nat → Nat → Nat}
variable {pc nx tg : Nat} {cv : Int32} {ls : List (Option ew_V)} {st : List ew_V} {h : ew_H}
theorem ew_live {k i : Nat} (w : ew_wf h (ew_o k i)) (hk : ¬ k = 31) : h.2.2.1 k i = true := w.resolve_left hk
theorem ew_ne31 {k t : Nat} (h : ew_ct k = t) (ht : t < 31) : ¬ k = 31 := fun e => by subst e; subst h; exact absurd ht (by decide)
theorem es_get (X : ew_Cx p l e R s m args below meth c0 NW G TY Wd d y) {x ci sl t k i : Nat} (hF : ew_FdP NW (ew_on (et_cls y)) x ci sl t) (hci : ci < 17) (hc : ew_ct k = ci) (hd : decode (ew_cd y) pc = .ok (.getfield x, 3)) :
    ew_K p l e R s m args below meth c0 G TY sz H0 Q y hS hE aS (pc, ls, ew_o k i :: st, h) (pc + 3, ls, h.1 k i sl :: st, h) := by
  obtain ⟨hx, hb, hml, hown, hts, hW, hwd, -, -, -⟩ := X
  obtain ⟨hK, hA, hO, hNW⟩ := hW.2.2 s hwd
  intro kq hle
  obtain ⟨k1, k2⟩ := kq hle
  refine ⟨k1, fun a H locs cells slots L hSt => ?_⟩
  obtain ⟨s1, s2, s3, s4, s5, s6, s7, s8, s9⟩ := hSt
  have hl := ew_live (es_hd s6) (ew_ne31 hc (by omega))
  exact er_get hx hb hts hNW hK hown s2 hl hF hc hci hd (k2 a H locs cells slots L ⟨s1, s2, s3, s4, s5, es_cons (s2.2.2.1 _ _ _ hl).wf (es_tail s6), s7, s8, s9⟩)
theorem es_put (X : ew_Cx p l e R s m args below meth c0 NW G TY Wd d y) {x ci sl t k i : Nat} {v : ew_V} (hF : ew_FdP [] (ew_on (et_cls y)) x ci sl t) (hci : ci < 17) (hc : ew_ct k = ci) (hcst : ew_cst k = false) (hfin : et_fin ci sl = true → et_ini y = true ∧ ∀ r : vw_C, vwCl[ci]? = some r → r.1 = ew_on (et_cls y)) (hf : ew_fit t v) (hd : decode (ew_cd y) pc = .ok (.putfield x, 3)) :
    ew_K p l e R s m args below meth c0 G TY sz H0 Q y hS hE aS (pc, ls, v :: ew_o k i :: st, h) (pc + 3, ls, st, ew_put h k i sl v) := by
  obtain ⟨hx, hb, hml, hown, hts, hW, hwd, -, -, hini⟩ := X
  obtain ⟨hK, hA, hO, hNW⟩ := hW.2.2 s hwd
  refine es_wr rfl (fun w => es_tail (es_tail w)) (fun a H locs cells slots L I w hL hlocs kk => ?_)
  exact er_put hx hb hts hK hown I (ew_live (es_hd (es_tail w)) (ew_ne31 hc (by omega))) hF hc hci hcst (fun z => ⟨hini (hfin z).1, (hfin z).2⟩) hf (es_hd w) hd kk hlocs
theorem es_alen (X : ew_Cx p l e R s m args below meth c0 NW G TY Wd d y) {k i : Nat} (h1 : 17 ≤ ew_ct k) (h2 : ew_ct k < 25) (hd : decode (ew_cd y) pc = .ok (.arraylength, 1)) :
    ew_K p l e R s m args below meth c0 G TY sz H0 Q y hS hE aS (pc, ls, ew_o k i :: st, h) (pc + 1, ls, ew_i (Int32.ofNat (ew_len h k i)) :: st, h) := by
  obtain ⟨hx, hb, hml, hown, hts, hW, hwd, -, -, -⟩ := X
  obtain ⟨hK, hA, hO, hNW⟩ := hW.2.2 s hwd
  refine es_st (fun _ w2 => es_cons trivial (es_tail w2)) (fun a H locs cells slots L I w _ kk => ?_)
  exact er_alen hx hb hA I (ew_live (es_hd w) (ew_ne31 (k := k) rfl (by omega))) h1 h2 hd kk
theorem es_ald (X : ew_Cx p l e R s m args below meth c0 NW G TY Wd d y) {k i : Nat} {j : Int32} {ins : Instr} (hj : ew_ix j (ew_len h k i)) (hd : decode (ew_cd y) pc = .ok (ins, 1)) (hi : (ins = .iaload ∧ ew_ct k = 17) ∨ (ins = .baload ∧ ew_ct k = 18) ∨ (ins = .aaload ∧ 20 ≤ ew_ct k ∧ ew_ct k < 25)) :
    ew_K p l e R s m args below meth c0 G TY sz H0 Q y hS hE aS (pc, ls, ew_i j :: ew_o k i :: st, h) (pc + 1, ls, h.1 k i j.toNatClampNeg :: st, h) := by
  obtain ⟨hx, hb, hml, hown, hts, hW, hwd, -, -, -⟩ := X
  obtain ⟨hK, hA, hO, hNW⟩ := hW.2.2 s hwd
  intro kq hle
  obtain ⟨k1, k2⟩ := kq hle
  refine ⟨k1, fun a H locs cells slots L hSt => ?_⟩
  obtain ⟨s1, s2, s3, s4, s5, s6, s7, s8, s9⟩ := hSt
  have h31 : ¬ k = 31 := by
    intro e
    subst e
    have e31 : ew_ct 31 = 31 := rfl
    rcases hi with ⟨-, hi⟩ | ⟨-, hi⟩ | ⟨-, hi⟩ <;> omega
  have hl := ew_live (es_hd (es_tail s6)) h31
  have kk := k2 a H locs cells slots L ⟨s1, s2, s3, s4, s5, es_cons (s2.2.2.1 _ _ _ hl).wf (es_tail (es_tail s6)), s7, s8, s9⟩
  rcases hi with ⟨rfl, hi⟩ | ⟨rfl, hi⟩ | ⟨rfl, hi⟩
  · exact er_iald hx hb hA s2 hl hi hj hd kk
  · exact er_zald hx hb hA s2 hl hi hj hd kk
  · exact er_aald hx hb hA s2 hl hi.1 hi.2 hj hd kk
theorem es_ast (X : ew_Cx p l e R s m args below meth c0 NW G TY Wd d y) {k i : Nat} {j : Int32} {v : ew_V} {ins : Instr} (hcst : ew_cst k = false) (hj : ew_ix j (ew_len h k i)) (hd : decode (ew_cd y) pc = .ok (ins, 1)) (h31 : ¬ k = 31)
    (hi : (ins = .iastore ∧ ew_ct k = 17 ∧ ew_fit 0 v) ∨ (ins = .bastore ∧ ew_ct k = 18 ∧ ew_fit 1 v) ∨ (ins = .aastore ∧ 20 ≤ ew_ct k ∧ ew_fit 2 v ∧ ew_asg k v = true)) :
    ew_K p l e R s m args below meth c0 G TY sz H0 Q y hS hE aS (pc, ls, v :: ew_i j :: ew_o k i :: st, h) (pc + 1, ls, st, ew_put h k i j.toNatClampNeg v) := by
  obtain ⟨hx, hb, hml, hown, hts, hW, hwd, -, -, -⟩ := X
  obtain ⟨hK, hA, hO, hNW⟩ := hW.2.2 s hwd
  refine es_wr rfl (fun w => es_tail (es_tail (es_tail w))) (fun a H locs cells slots L I w hL hlocs kk => ?_)
  have hl := ew_live (es_hd (es_tail (es_tail w))) h31
  rcases hi with ⟨rfl, hi, hf⟩ | ⟨rfl, hi, hf⟩ | ⟨rfl, hi, hf, hg⟩
  · rcases v with v | v
    · cases v <;> first | exact hf.elim | exact er_iast hx hb hA I hl hi hcst hlocs hj hd kk
    · exact hf.elim
  · rcases v with v | v
    · cases v <;> first | exact hf.elim | exact er_zast hx hb hA I hl hi hcst hlocs hj hf hd kk
    · exact hf.elim
  · have h25 := (I.1 k i hl).2.2.2
    rcases v with v | ⟨k', i'⟩
    · cases v <;> first | exact hf.elim | cases hg
    · exact er_aast hx hb hA I hl hi h25 hcst hlocs hj (ew_wh_of (v := ew_o k' i') (es_hd w) hf) hf (hO k k' i' hg) hd kk
theorem es_new (X : ew_Cx p l e R s m args below meth c0 NW G TY Wd d y) {x k ci : Nat} {r : vw_C} (hr : vwCl[ci]? = some r) (hC : ew_ClP ci r) (hc : ew_ct k = ci) (hci : ci < 17) (hcst : ew_cst k = false) (hctr : ew_ctr k = true)
    (hlk : Cond.classLink (ew_on (et_cls y)) x r.1 ∈ ew_TW) (hin : Cond.instantiable r.1 r.2.2 ∈ ew_TW) (hini : Cond.initialized r.1 ∈ ew_TW) (hRc : hE.2.2.2.2.1 - hS.2.2.2.2.1 ≤ R.cells) (hRs : hE.2.2.2.2.2 - hS.2.2.2.2.2 ≤ R.slots) (hd : decode (ew_cd y) pc = .ok (.new x, 3)) :
    ew_K p l e R s m args below meth c0 G TY sz H0 Q y hS hE aS (pc, ls, st, h) (pc + 3, ls, ew_o k (h.2.2.2.1 k) :: st, ew_mk h k (h.2.2.2.1 k) (et_N ci) (et_dv ci)) := by
  obtain ⟨hx, hb, hml, hown, hts, hW, hwd, -, -, -⟩ := X
  obtain ⟨hK, hA, hO, hNW⟩ := hW.2.2 s hwd
  have hN := hC.2.2.2.1
  refine es_mk (ew_ne31 hc (by omega)) (fun I => I.2.2.2.1 k _ hctr (Nat.le_refl _)) (fun w => w) (fun a H locs cells slots L I w c1 c2 kk => ?_)
  exact er_new hx hb hts hK hown I hr hC hc hci hcst hctr hlk hin hini (by omega) (by omega) hd kk
theorem es_newa (X : ew_Cx p l e R s m args below meth c0 NW G TY Wd d y) {k : Nat} {n : Int32} {at' : ArrayType} {z : ew_V} (hty : ew_ty (ew_ct k) = newarray.typeOf at') (hcl : Cond.arrayClass (newarray.typeOf at') ∈ ew_TW) (h1 : 17 ≤ ew_ct k) (h2 : ew_ct k < 20) (hcst : ew_cst k = false) (hctr : ew_ctr k = true) (hz : ∃ v, z = .inl v ∧ ∀ q, v ≠ .ref q) (hdv : ∀ a, ew_c a z = defaultValue (newarray.typeOf at'))
    (hn : ¬ n < 0) (hN : n.toNatClampNeg ≤ 1000000) (hsl : ew_sl k n.toNatClampNeg = n.toNatClampNeg) (hRc : hE.2.2.2.2.1 - hS.2.2.2.2.1 ≤ R.cells) (hRs : hE.2.2.2.2.2 - hS.2.2.2.2.2 ≤ R.slots) (hd : decode (ew_cd y) pc = .ok (.newarray at', 2)) :
    ew_K p l e R s m args below meth c0 G TY sz H0 Q y hS hE aS (pc, ls, ew_i n :: st, h) (pc + 2, ls, ew_o k (h.2.2.2.1 k) :: st, ew_mk h k (h.2.2.2.1 k) n.toNatClampNeg (fun _ => z)) := by
  obtain ⟨hx, hb, hml, hown, hts, hW, hwd, -, -, -⟩ := X
  obtain ⟨hK, hA, hO, hNW⟩ := hW.2.2 s hwd
  refine es_mk (ew_ne31 rfl (by omega)) (fun I => I.2.2.2.1 k _ hctr (Nat.le_refl _)) (fun w => es_tail w) (fun a H locs cells slots L I w c1 c2 kk => ?_)
  exact er_newa hx hb hA I hty (hts _ hcl) h1 h2 hcst hctr hz (hdv a) hn hsl hN (by omega) (by omega) hd kk
theorem es_anewa (X : ew_Cx p l e R s m args below meth c0 NW G TY Wd d y) {k i x : Nat} {n : Int32} {C : String} (hty : ew_ty (ew_ct k) = .object C) (hlk : Cond.classLink (ew_on (et_cls y)) x C ∈ ew_TW) (hov : ∀ U, Wd U → va_AO C U) (h1 : 20 ≤ ew_ct k) (h2 : ew_ct k < 25) (hcst : ew_cst k = false) (hctr : ew_ctr k = true → i = h.2.2.2.1 k) (hnl : ew_ctr k = false → h.2.2.1 k i = false)
    (hn : ¬ n < 0) (hN : n.toNatClampNeg ≤ 1000000) (hsl : ew_sl k n.toNatClampNeg = n.toNatClampNeg) (hRc : hE.2.2.2.2.1 - hS.2.2.2.2.1 ≤ R.cells) (hRs : hE.2.2.2.2.2 - hS.2.2.2.2.2 ≤ R.slots) (hd : decode (ew_cd y) pc = .ok (.anewarray x, 3)) :
    ew_K p l e R s m args below meth c0 G TY sz H0 Q y hS hE aS (pc, ls, ew_i n :: st, h) (pc + 3, ls, ew_o k i :: st, ew_mk h k i n.toNatClampNeg (fun _ => ew_0)) := by
  obtain ⟨hx, hb, hml, hown, hts, hW, hwd, -, -, -⟩ := X
  obtain ⟨hK, hA, hO, hNW⟩ := hW.2.2 s hwd
  have hnl' : ∀ {a H}, ew_I G TY sz H0 a h H → h.2.2.1 k i = false := fun I => by
    cases e : ew_ctr k with
    | true => exact I.2.2.2.1 k i e (by rw [hctr e]; exact Nat.le_refl _)
    | false => exact hnl e
  refine es_mk (ew_ne31 rfl (by omega)) hnl' (fun w => es_tail w) (fun a H locs cells slots L I w c1 c2 kk => ?_)
  exact er_anewa hx hb hown hA I hty (hts _ hlk) (hov s hwd) h1 h2 hcst (hnl' I) hctr hn hsl hN (by omega) (by omega) hd kk
theorem es_anewA (X : ew_Cx p l e R s m args below meth c0 NW G TY Wd d y) {k i x : Nat} {n : Int32} (hty : ew_ty (ew_ct k) = .array .int) (hlk : Cond.classLink (ew_on (et_cls y)) x "[I" ∈ ew_TW) (hov : ∀ U, Wd U → ew_AA U) (h1 : 20 ≤ ew_ct k) (h2 : ew_ct k < 25) (hcst : ew_cst k = false) (hctr : ew_ctr k = true → i = h.2.2.2.1 k) (hnl : ew_ctr k = false → h.2.2.1 k i = false)
    (hn : ¬ n < 0) (hN : n.toNatClampNeg ≤ 1000000) (hsl : ew_sl k n.toNatClampNeg = n.toNatClampNeg) (hRc : hE.2.2.2.2.1 - hS.2.2.2.2.1 ≤ R.cells) (hRs : hE.2.2.2.2.2 - hS.2.2.2.2.2 ≤ R.slots) (hd : decode (ew_cd y) pc = .ok (.anewarray x, 3)) :
    ew_K p l e R s m args below meth c0 G TY sz H0 Q y hS hE aS (pc, ls, ew_i n :: st, h) (pc + 3, ls, ew_o k i :: st, ew_mk h k i n.toNatClampNeg (fun _ => ew_0)) := by
  obtain ⟨hx, hb, hml, hown, hts, hW, hwd, -, -, -⟩ := X
  obtain ⟨hK, hA, hO, hNW⟩ := hW.2.2 s hwd
  have hnl' : ∀ {a H}, ew_I G TY sz H0 a h H → h.2.2.1 k i = false := fun I => by
    cases e : ew_ctr k with
    | true => exact I.2.2.2.1 k i e (by rw [hctr e]; exact Nat.le_refl _)
    | false => exact hnl e
  refine es_mk (ew_ne31 rfl (by omega)) hnl' (fun w => es_tail w) (fun a H locs cells slots L I w c1 c2 kk => ?_)
  exact er_anewA hx hb hown hA I hty (hts _ hlk) (hov s hwd) h1 h2 hcst (hnl' I) hctr hn hsl hN (by omega) (by omega) hd kk
theorem es_cast (X : ew_Cx p l e R s m args below meth c0 NW G TY Wd d y) {x k i : Nat} {r : vw_C} (h1 : ew_ct k < 17) (hr : vwCl[ew_ct k]? = some r) (hlk : Cond.classLink (ew_on (et_cls y)) x r.1 ∈ ew_TW) (hd : decode (ew_cd y) pc = .ok (.checkcast x, 3)) :
    ew_K p l e R s m args below meth c0 G TY sz H0 Q y hS hE aS (pc, ls, ew_o k i :: st, h) (pc + 3, ls, ew_o k i :: st, h) := by
  obtain ⟨hx, hb, hml, hown, hts, hW, hwd, -, -, -⟩ := X
  obtain ⟨hK, hA, hO, hNW⟩ := hW.2.2 s hwd
  refine es_st (fun _ w2 => w2) (fun a H locs cells slots L I w _ kk => ?_)
  exact er_cast hx hb hown hK I (ew_live (es_hd w) (ew_ne31 (k := k) rfl (by omega))) h1 hr (hts _ hlk) hd kk
theorem es_castA (X : ew_Cx p l e R s m args below meth c0 NW G TY Wd d y) {x k i : Nat} (hcst : ew_cst k = false) (h1 : ew_ct k = 17) (hlk : Cond.classLink (ew_on (et_cls y)) x "[I" ∈ ew_TW) (hd : decode (ew_cd y) pc = .ok (.checkcast x, 3)) :
    ew_K p l e R s m args below meth c0 G TY sz H0 Q y hS hE aS (pc, ls, ew_o k i :: st, h) (pc + 3, ls, ew_o k i :: st, h) := by
  obtain ⟨hx, hb, hml, hown, hts, hW, hwd, -, -, -⟩ := X
  obtain ⟨hK, hA, hO, hNW⟩ := hW.2.2 s hwd
  refine es_st (fun _ w2 => w2) (fun a H locs cells slots L I w _ kk => ?_)
  have hra := (hA.1 17 (by decide) (by decide)).2
  exact er_castA (k := k) hx hb hown I (ew_live (es_hd w) (ew_ne31 h1 (by omega))) hcst (by omega) (by omega) (hts _ hlk) (by rw [h1]; exact hra) hd kk
theorem es_obj (X : ew_Cx p l e R s m args below meth c0 NW G TY Wd d y) {x k i : Nat} (hlk : Cond.methodLink (ew_on (et_cls y)) x objectInit ∈ ew_TW) (hins : Cond.instanceMethod objectInit ∈ ew_TW) (hcd : Cond.code objectInit ⟨#[0xb1]⟩ 1 none ∈ ew_TW) (hc8 : ew_cats st ≤ 8) (hd : decode (ew_cd y) pc = .ok (.invokespecial x, 3)) :
    ew_K p l e R s m args below meth c0 G TY sz H0 Q y hS hE aS (pc, ls, ew_o k i :: st, h) (pc + 3, ls, st, h) := by
  obtain ⟨hx, hb, hml, hown, hts, hW, hwd, hf, hlo, -⟩ := X
  refine es_st (fun _ w2 => es_tail w2) (fun a H locs cells slots L I w hL kk => ?_)
  refine W.objInit hx hb hown (hts _ hlk) (hts _ hins) (hts _ hcd) rfl (by rw [hml]; exact hL.1) rfl hd (by omega) (by rw [ew_cats_map]; show 2 * 0 + _ + 12 ≤ _; omega) kk
theorem es_math (X : ew_Cx p l e R s m args below meth c0 NW G TY Wd d y) {x : Nat} {u v : Int32} (hw : ∀ w ∈ ([.static Lib.Math.max.name, .initialized "java/lang/Math", .code Lib.Math.max.name Lib.Math.max.code 2 (some .int), .static Lib.Math.min.name, .code Lib.Math.min.name Lib.Math.min.code 2 (some .int)] : List Cond), w ∈ ew_TW) (hc8 : ew_cats st ≤ 20) (hRc : hE.2.2.2.2.1 - hS.2.2.2.2.1 ≤ R.cells) (hRs : hE.2.2.2.2.2 - hS.2.2.2.2.2 ≤ R.slots) {f : Int32 → Int32 → Int32}
    (hlk : (f = ew_max ∧ Cond.methodLink (ew_on (et_cls y)) x Lib.Math.max.name ∈ ew_TW) ∨ (f = ew_min ∧ Cond.methodLink (ew_on (et_cls y)) x Lib.Math.min.name ∈ ew_TW)) (hd : decode (ew_cd y) pc = .ok (.invokestatic x, 3)) :
    ew_K p l e R s m args below meth c0 G TY sz H0 Q y hS hE aS (pc, ls, ew_i v :: ew_i u :: st, h) (pc + 3, ls, ew_i (f u v) :: st, h) := by
  obtain ⟨hx, hb, hml, hown, hts, hW, hwd, hf, hlo, -⟩ := X
  intro kq hle
  obtain ⟨k1, k2⟩ := kq hle
  refine ⟨k1, fun a H locs cells slots L hSt => ?_⟩
  obtain ⟨s1, s2, s3, s4, s5, s6, s7, s8, s9⟩ := hSt
  have kk := k2 a H locs cells slots L ⟨s1, s2, s3, s4, s5, es_cons trivial (es_tail (es_tail s6)), s7, s8, s9⟩
  have b1 := k1.2.1
  have b2 := k1.2.2
  dsimp only at b1 b2 s8 s9
  have hcs : ((st.map (ew_c a)).map fun v => v.category).sum + 13 ≤ R.locals := by rw [ew_cats_map]; omega
  rcases hlk with ⟨rfl, hlk⟩ | ⟨rfl, hlk⟩
  · exact va_mmax hx hb (by rw [hml]; exact s3.1.symm) hown (hts _ hlk) (hts _ (hw _ (by simp))) (hts _ (hw _ (by simp))) (hts _ (hw _ (by simp))) (by omega) hcs (by omega) (by omega) hd kk
  · exact va_mmin hx hb (by rw [hml]; exact s3.1.symm) hown (hts _ hlk) (hts _ (hw _ (by simp))) (hts _ (hw _ (by simp))) (hts _ (hw _ (by simp))) (by omega) hcs (by omega) (by omega) hd kk
theorem es_abs (X : ew_Cx p l e R s m args below meth c0 NW G TY Wd d y) {x : Nat} {u : Int32} (hw : ∀ w ∈ ([.static Lib.Math.abs.name, .initialized "java/lang/Math", .code Lib.Math.abs.name Lib.Math.abs.code 1 (some .int)] : List Cond), w ∈ ew_TW) (hc8 : ew_cats st ≤ 20) (hRc : hE.2.2.2.2.1 - hS.2.2.2.2.1 ≤ R.cells) (hRs : hE.2.2.2.2.2 - hS.2.2.2.2.2 ≤ R.slots)
    (hlk : Cond.methodLink (ew_on (et_cls y)) x Lib.Math.abs.name ∈ ew_TW) (hd : decode (ew_cd y) pc = .ok (.invokestatic x, 3)) :
    ew_K p l e R s m args below meth c0 G TY sz H0 Q y hS hE aS (pc, ls, ew_i u :: st, h) (pc + 3, ls, ew_i (ew_abs u) :: st, h) := by
  obtain ⟨hx, hb, hml, hown, hts, hW, hwd, hf, hlo, -⟩ := X
  intro kq hle
  obtain ⟨k1, k2⟩ := kq hle
  refine ⟨k1, fun a H locs cells slots L hSt => ?_⟩
  obtain ⟨s1, s2, s3, s4, s5, s6, s7, s8, s9⟩ := hSt
  have kk := k2 a H locs cells slots L ⟨s1, s2, s3, s4, s5, es_cons trivial (es_tail s6), s7, s8, s9⟩
  have b1 := k1.2.1
  have b2 := k1.2.2
  dsimp only at b1 b2 s8 s9
  have hcs : ((st.map (ew_c a)).map fun v => v.category).sum + 13 ≤ R.locals := by rw [ew_cats_map]; omega
  exact va_mabs hx hb (by rw [hml]; exact s3.1.symm) hown (hts _ hlk) (hts _ (hw _ (by simp))) (hts _ (hw _ (by simp))) (hts _ (hw _ (by simp))) (by omega) hcs (by omega) (by omega) hd kk
end EU
