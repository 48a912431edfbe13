/-! Every run of the small machine is a contract of the machine. -/
def ew_Mw (l : Launch) (G : va_G) (TY : Nat → ClassId) (sz : Nat) (H0 : Heap) (CK : Nat → Nat → Option Nat) (Wd : State → Prop) (d z : Nat) (as : List ew_V) (h : ew_H) (v : Option ew_V) (h' : ew_H) : Prop :=
  ∀ a, Met l (ew_nm z) (ew_cv z :: ew_TW) (ew_rm d h h') (ew_Pc G TY sz H0 CK Wd as h a) (ew_Qc G TY sz H0 h a v h') (h'.2.2.2.2.1 - h.2.2.2.2.1) (h'.2.2.2.2.2 - h.2.2.2.2.2) (fun q => sz ≤ q)
/-- statics that hold constants -/
def ew_SP (CK : Nat → Nat → Option Nat) (NW : List Cond) (Wd : State → Prop) (sz : Nat) (H0 : Heap) : Prop := ∀ cl x v, et_sd cl x = some v → ∃ (k i q : Nat) (C n dd : String), v = ew_o k i ∧ CK k i = some q ∧ (∀ U, Wd U → va_Z C n dd (.ref q) (fun q => sz ≤ q) U H0) ∧
  ((∃ ref, Cond.fieldLink (ew_on cl) x ref n dd ∈ ew_TW ∧ (C = ref ∨ Cond.sameField ref C n dd ∈ ew_TW)) ∨ ∃ host, Cond.fieldLinkNest (ew_on cl) x C n dd host ∈ NW)
def ew_YW (z : Nat) : Prop := ew_cv z ∈ ew_TW ∧ Cond.initialized (ew_nm z).cls ∈ ew_TW ∧ ((ew_nm z).cls ≠ "java/lang/invoke/MethodHandle" ∧ (ew_nm z).cls ≠ "java/lang/invoke/VarHandle") ∧ et_mx z ≤ 20 ∧ Cond.static (ew_nm z) ∈ ew_TW
/-- all that is told of the tables, the launch, the start -/
def ew_Sf (l : Launch) (G : va_G) (TY : Nat → ClassId) (sz : Nat) (H0 : Heap) (CK : Nat → Nat → Option Nat) (NW : List Cond) (Wd : State → Prop) : Prop :=
  ew_WP NW G TY Wd ∧ ew_Tab NW Wd ∧ l.stackTraces = false ∧ ew_ZP CK Wd sz H0 ∧ ew_SP CK NW Wd sz H0 ∧
  (∀ y pc x nx tg cv c, ew_pg y pc = some (.new x, nx, tg, cv) → et_nw (et_cls y) x = some c → 100 ≤ c → ew_XP Wd y pc x (c - 100)) ∧
  (∀ y pc x t, ew_hd y pc x = some t → et_wr y = true ∧ ew_HP Wd (ew_hh y) y pc x t.1 t.2) ∧
  (∀ cl x z n c, et_md cl x = some (z, n, c) → et_wr z = true → ew_YW z ∧ (parseMethodDescriptor (ew_nm z).desc).map (fun d => d.parameters.length) = some n ∧ Cond.methodLink (ew_on cl) x (ew_nm z) ∈ ew_TW) ∧
  (∀ d z as h r h', ew_In z as h (fun r1 h1 => r1 = r ∧ h1 = h') → et_wr z = false ∧ ∃ v, r = .inl v ∧ ew_Mt l G TY sz H0 CK Wd d z as h v h')
theorem ew_ofWH {l : Launch} {y : MethodName} {ws ws' : List Cond} {rm : Room} {Pc : Array Value → State → Prop} {Qc : Array Value → State → Outcome → State → Prop} {mc ms : Nat} {free : Addr → Prop} {cc : ByteArray} {maxL : Nat} {ret : Option FieldType} {hh : List (Nat × Nat × Nat × Nat)}
    (hy : plainName y.cls = true) (hw : ws = Cond.codeWith y cc maxL ret hh :: ws')
    (body : ∀ p e s m args below meth c s₁, BodyLoose p l y (headSpec ws rm) cc maxL ret e s m args below meth c s₁ → c.maxLocals = maxL → Pc args s →
      W p l e (headSpec ws rm).room s m args below meth c s.heap [] 0 0 (MQ below Qc args s mc ms free) (entryFrame m args maxL)) : Met l y ws rm Pc Qc mc ms free := by
  refine MetFree.of_bodyS (code := cc) (maxLocals := maxL) (ret := ret) hy ?_ ?_
  · intro args s m h hn
    obtain ⟨m9, meth, c, hn9, h1, h2, h3, h4, -, h5, h6, -⟩ := Cond.codeWith_spec (atoms_spec (ws := ws) h _ (by rw [hw]; exact List.mem_cons_self))
    cases hn.symm.trans hn9
    exact ⟨meth, c, h1, h2, h3, h4, h5, h6⟩
  · intro p e s m args below meth c s₁ B hml hP _
    have hh0 : s₁.heap = s.heap := by rw [B.state]; rfl
    obtain ⟨t, a1, o, b1, b2, b3⟩ := body p e s m args below meth c s₁ B hml hP s₁ hh0 (Stand.of_body B)
    exact ⟨t, o, a1, b1, b2, ⟨b3.1, b3.2⟩⟩
/-- the entry's locals -/
theorem ew_ar_slots (a : Nat → Nat → Nat) : ∀ as : List ew_V, (lg_sl (as.map (ew_c a))).length = (ew_ar as).length
  | [] => rfl
  | v :: as => by
    have ih := ew_ar_slots a as
    rw [List.map_cons, ew_ar]
    show (List.flatMap _ (ew_c a v :: as.map (ew_c a))).length = _
    rw [List.flatMap_cons, List.length_append]
    have ih' : (List.flatMap (fun v => if Value.category v = 2 then [Slot.val v, Slot.second] else [Slot.val v]) (as.map (ew_c a))).length = (ew_ar as).length := ih
    rw [ih', ew_c_cat]
    cases hb : Nat.beq (ew_cat v) 2 with
    | true => rw [if_pos (ew_beq hb), cond_true, List.length_cons, List.length_cons, List.length_cons, List.length_cons, List.length_nil]; omega
    | false => rw [if_neg (fun q => by rw [q] at hb; cases hb), cond_false, List.length_cons, List.length_cons, List.length_nil]; omega
theorem ew_lp_none (a : Nat → Nat → Nat) : ∀ (k n : Nat), ew_lp a n (List.replicate k none) = []
  | 0, _ => rfl
  | k + 1, n => by rw [List.replicate_succ, ew_lp]; exact ew_lp_none a k (n + 1)
theorem ew_ar_lp (a : Nat → Nat → Nat) : ∀ (as : List ew_V) (n k : Nat), ew_lp a n (ew_ar as ++ List.replicate k none) = lv_args n (as.map (ew_c a))
  | [], n, k => ew_lp_none a k n
  | v :: as, n, k => by
    rw [List.map_cons, ew_ar, lv_args, ew_c_cat]
    cases hb : Nat.beq (ew_cat v) 2 with
    | true => rw [if_pos (ew_beq hb), cond_true, List.cons_append, List.cons_append, ew_lp, ew_lp, ew_ar_lp a as (n + 1 + 1) k]
    | false => rw [if_neg (fun q => by rw [q] at hb; cases hb), cond_false, List.cons_append, ew_lp, ew_ar_lp a as (n + 1) k]
theorem ew_ar_mem {as : List ew_V} {v : ew_V} : some v ∈ ew_ar as → v ∈ as := by
  induction as with
  | nil => intro h; cases h
  | cons u as ih =>
    intro h
    rw [ew_ar] at h
    cases hb : Nat.beq (ew_cat u) 2 with
    | true =>
      rw [hb, cond_true] at h
      rcases List.mem_cons.mp h with h | h
      · cases h; exact List.mem_cons_self
      rcases List.mem_cons.mp h with h | h
      · cases h
      exact List.mem_cons_of_mem _ (ih h)
    | false =>
      rw [hb, cond_false] at h
      rcases List.mem_cons.mp h with h | h
      · cases h; exact List.mem_cons_self
      exact List.mem_cons_of_mem _ (ih h)
def ew_snd (l : Launch) (G : va_G) (TY : Nat → ClassId) (sz : Nat) (H0 : Heap) (CK : Nat → Nat → Option Nat) (Wd : State → Prop) (d : Nat) : Prop := ∀ z as h r h', ew_Call (d + 1) z as h (fun r1 h1 => r1 = r ∧ h1 = h') →
  (et_wr z = false → (∀ v, r = .inl v → ew_Mt l G TY sz H0 CK Wd d z as h v h') ∧ (∀ x, r = .inr x → ew_Mx l G TY sz H0 CK Wd d z as h x h')) ∧ (et_wr z = true → ∀ v, r = .inl v → ew_Mw l G TY sz H0 CK Wd d z as h v h')
section GE
variable {p : Program} {l : Launch} {e : Env} {R : Room} {s : State} {m : MethodId} {args : Array Value} {below : List Frame} {meth : Method} {c0 : Code} {Q : State → Prop}
variable {G : va_G} {TY : Nat → ClassId} {sz : Nat} {H0 : Heap} {NW : List Cond} {Wd : State → Prop} {CK : Nat → Nat → Option Nat} {d y : Nat} {hS hE : ew_H} {aS : Nat → Nat → Nat}
variable {pc nx tg : Nat} {cv : Int32} {ls : List (Option ew_V)} {st : List ew_V} {h : ew_H} {i : Instr} {n : Nat} {r : ew_R}
/-- a call of a method of the law -/
theorem es_callW (X : ew_Cx p l e R s m args below meth c0 NW G TY Wd d y) (hck : ew_ck CK hS aS) {d' x z n : Nat} (hdd : d = d' + 1) (hY : ew_YW z) (hlk : Cond.methodLink (ew_on (et_cls y)) x (ew_nm z) ∈ ew_TW) (hdesc : (parseMethodDescriptor (ew_nm z).desc).map (fun d => d.parameters.length) = some n) {as rest : List ew_V} (hn : as.length = n) {v : Option ew_V} {h' : ew_H} (hM : ew_Mw l G TY sz H0 CK Wd d' z as h v h') (hc8 : ew_cats rest ≤ 8)
    (hle : ew_le h h') (hRc : hE.2.2.2.2.1 - hS.2.2.2.2.1 ≤ R.cells) (hRs : hE.2.2.2.2.2 - hS.2.2.2.2.2 ≤ R.slots) (hd : decode (ew_cd y) pc = .ok (.invokestatic x, 3)) :
    ew_K p l e R s m args below meth c0 G TY sz H0 Q y hS hE aS (pc, ls, as.reverse ++ rest, h) (pc + 3, ls, v.toList ++ rest, h') := by
  obtain ⟨hx, hb, hml, hown, hts, hW, hwd, hf, hlo, -⟩ := X
  obtain ⟨y1, y2, y3, y4, y5⟩ := hY
  intro kq hle0
  obtain ⟨k1, k2⟩ := kq (hle0.tr hle)
  refine ⟨hle.tr k1, fun a H locs cells slots L hSt => ?_⟩
  obtain ⟨s1, s2, s3, s4, s5, s6, s7, s8, s9⟩ := id hSt
  have s2 : ew_I G TY sz H0 a h H := s2
  have b1 := k1.2.1
  have b2 := k1.2.2
  have b3 := hle.2.1
  have b4 := hle.2.2
  have b5 := hle0.2.1
  have b6 := hle0.2.2
  dsimp only at b1 b2 s8 s9 b5 b6
  have hrest : ∀ v ∈ rest, ew_wf h v := fun v q => s6 v (List.mem_append_right _ q)
  have haw : ∀ v ∈ as, ew_wf h v := fun v q => s6 v (List.mem_append_left _ (List.mem_reverse.mpr q))
  have hst : (as.reverse ++ rest).map (ew_c a) = (as.map (ew_c a)).reverse ++ rest.map (ew_c a) := by
    rw [List.map_append, List.map_reverse]
  have hpre : PreS s H (ew_Pc G TY sz H0 CK Wd as h a) (as.map (ew_c a)) := ⟨ew_blind hW, fun U hU hw => ⟨rfl, by rw [hU]; exact s2, hW.2.1 s U hw hwd, haw, hck.to s1 hle0⟩⟩
  have hG : GoodIn ew_TW (va_wsS (ew_on (et_cls y)) x (ew_nm z) (ew_cv z :: ew_TW)) := ew_good (fun w hw => by
    unfold va_wsS at hw
    rcases List.mem_append.mp hw with q | q
    · simp only [List.mem_cons, List.not_mem_nil, or_false] at q
      rcases q with rfl | rfl | rfl
      · exact hlk
      · exact y5
      · exact y2
    · rcases List.mem_cons.mp q with rfl | q
      · exact y1
      · exact q)
  refine er_back (vx_runSW (As := as.map (ew_c a)) (Ts := ew_TW) (own := ew_on (et_cls y)) (index := x) ⟨hx, hb, hml, hown, hts⟩ (hM a) (vx_cwSW n hts hG rfl rfl rfl ⟨y3.1, y3.2, hdesc⟩ ⟨show 6 + d' + 1 ≤ R.frames by omega, show 8 + (et_mx z + 11) + (150 + 40 * d') ≤ R.locals by omega⟩) hpre rfl (by rw [List.length_map]; exact hn) s3.1 hst (by rw [ew_cats_map]; show 2 * 0 + _ ≤ 8; omega) hd ⟨by omega, by omega⟩) hrest s7 (fun a' H1 locs1 hex hl1 I1 hv => k2 a' H1 locs1 _ _ L (es_after hSt hle0 hle hex hl1 I1 ?_))
  intro w q
  rcases List.mem_append.mp q with q | q
  · cases v with
    | none => cases q
    | some u =>
      rw [List.mem_singleton.mp q]
      exact hv u rfl
  · exact (hrest w q).le hle
theorem es_gets (X : ew_Cx p l e R s m args below meth c0 NW G TY Wd d y) (hck : ew_ck CK hS aS) (hSP : ew_SP CK NW Wd sz H0) (hs0 : ∀ q : Nat, q < sz → s.heap[q]? = H0[q]?) (hH0 : H0.size = sz) {x : Nat} {v : ew_V} (hd : decode (ew_cd y) pc = .ok (.getstatic x, 3)) (hv : et_sd (et_cls y) x = some v) :
    ew_K p l e R s m args below meth c0 G TY sz H0 Q y hS hE aS (pc, ls, st, h) (pc + 3, ls, v :: st, h) := by
  obtain ⟨hx, hb, hml, hown, hts, hW, hwd, hf, hlo, -⟩ := X
  obtain ⟨-, -, -, hNW⟩ := hW.2.2 s hwd
  obtain ⟨k, i, q, C, n, dd, rfl, hq, hZ, hlk⟩ := hSP _ _ _ hv
  intro kq hle0
  obtain ⟨k1, k2⟩ := kq hle0
  refine ⟨k1, fun a H locs cells slots L hSt => ?_⟩
  obtain ⟨s1, s2, s3, s4, s5, s6, s7, s8, s9⟩ := id hSt
  obtain ⟨c1, c2⟩ := hck.to s1 hle0 k i q hq
  refine ew_sized (fun hsz => ?_)
  have hSv : va_S (fun q => sz ≤ q) s.heap H locs := ⟨hsz, fun q h1 h2 => by
    have h2' : q < sz := Nat.lt_of_not_le h2
    rw [s2.2.2.2.2.2 q h2', hs0 q h2'], s7⟩
  have hZ' : va_Z C n dd (.ref q) (fun q => sz ≤ q) s s.heap := (hZ s hwd).kept (fun a h1 h2 => hs0 a (by omega))
  have kk : W p l e R s m args below meth c0 H locs cells slots Q (F0 m (pc + 3) L (.ref q :: st.map (ew_c a))) := by
    have := k2 a H locs cells slots L ⟨s1, s2, s3, s4, s5, es_cons (Or.inr c1) s6, s7, s8, s9⟩
    have e1 : ew_c a (ew_o k i) = .ref q := by show Value.ref (a k i) = _; rw [c2]
    rw [List.map_cons, e1] at this
    exact this
  rcases hlk with ⟨ref, hw, hsame⟩ | ⟨host, hw⟩
  · refine va_gets hx hb hZ' hSv hown (hts _ hw) (fun x hx => ?_) hd kk
    rcases hsame with rfl | hsm
    · exact hx
    · exact u_same (hts _ hsm) _ hx
  · exact va_getsN hx hb hZ' hSv hown (va_Nw.use rfl (hNW _ hw)) (fun x hx => hx) hd kk
/-- a method's body, whatever its end is for -/
theorem ew_body (S : ew_Sf l G TY sz H0 CK NW Wd) (X : ew_Cx p l e R s m args below meth c0 NW G TY Wd d y) (hck : ew_ck CK hS aS) (hs0 : ∀ q : Nat, q < sz → s.heap[q]? = H0[q]?) (IH : ∀ d', d = d' + 1 → ew_snd l G TY sz H0 CK Wd d') (htab : et_wr y = true → c0.exceptionTable.toList = tableOf (ew_hh y)) (hRc : hE.2.2.2.2.1 - hS.2.2.2.2.1 ≤ R.cells) (hRs : hE.2.2.2.2.2 - hS.2.2.2.2.2 ≤ R.slots)
    (hret : ∀ pc ls v ins, ew_vi y ins v → decode (ew_cd y) pc = .ok (ins, 1) → ew_okr y ins → (.inl v : ew_R) = r → ew_Q p l e R s m args below meth c0 G TY sz H0 Q y hS hE aS (pc, ls, v.toList, hE))
    (hN : ∀ pc ls st h ik xx, ew_XP Wd y pc ik xx → ew_cats st ≤ 20 → (.inr xx : ew_R) = r → ew_pay h 1 6 = hE → ew_Q p l e R s m args below meth c0 G TY sz H0 Q y hS hE aS (pc, ls, st, h))
    (hX : ∀ pc ls st h a H locs cells slots L g0 rest xx, ew_le hS h → ew_le h hE → ew_St G TY sz H0 y hS aS a (pc, ls, st, h) H locs cells slots L →
      vx_Run p l e R s m args below meth c0 H locs cells slots (hE.2.2.2.2.1 - h.2.2.2.2.1) (hE.2.2.2.2.2 - h.2.2.2.2.2) (F0 m pc L g0) rest (fun _ _ _ => False) (ew_XC G TY sz H0 h a xx hE) (fun q => sz ≤ q) → (.inr xx : ew_R) = r → W p l e R s m args below meth c0 H locs cells slots Q (F0 m pc L g0)) :
    ∀ c, ew_G (ew_Call d) y (ew_Q p l e R s m args below meth c0 G TY sz H0 Q y hS hE aS) (fun r1 h1 => r1 = r ∧ h1 = hE) c → ew_Q p l e R s m args below meth c0 G TY sz H0 Q y hS hE aS c := by
  obtain ⟨hW, T, hl, hZ, hSP, hXP, hHP, hYW, hIn⟩ := id S
  rintro ⟨pc, ls, st, h⟩ g
  unfold ew_G at g
  dsimp only at g
  cases hpg : ew_pg y pc with
  | none => rw [hpg] at g; exact g.elim
  | some q =>
    obtain ⟨i, nx, tg, cv⟩ := q
    rw [hpg] at g
    dsimp only at g
    have g' : ew_UQ p l e R s m args below meth c0 G TY sz H0 Q y hS hE aS pc ls h d r (ew_st y (et_cls y) i pc nx tg cv ls st h) := by
      revert g
      cases ew_st y (et_cls y) i pc nx tg cv ls st h with
      | none => exact fun g => g
      | some n => rcases n with c' | ⟨p, a, b⟩ | ⟨p, a⟩ | ⟨z', as', rest, nx'⟩ | ⟨p, r1, h1'⟩ | ⟨x, v, l, dd⟩ <;> exact fun g => g
    obtain ⟨n0, hd0, -, hst0, -, -⟩ := ew_okb_spec (T.1 _ _ _ hpg)
    have thrown : ∀ (z : Nat) (as : List ew_V) (xx : Nat) (h' : ew_H) (rest g0 : List ew_V), ew_Call d z as h (fun r1 h1 => r1 = .inr xx ∧ h1 = h') →
        (∀ a H locs cells slots L, ew_le hS h → ew_le h' hE → ew_St G TY sz H0 y hS aS a (pc, ls, st, h) H locs cells slots L → vx_Run p l e R s m args below meth c0 H locs cells slots (h'.2.2.2.2.1 - h.2.2.2.2.1) (h'.2.2.2.2.2 - h.2.2.2.2.2) (F0 m pc L (st.map (ew_c a))) (rest.map (ew_c a)) (fun _ _ _ => False) (ew_XC G TY sz H0 h a xx h') (fun q => sz ≤ q)) →
        (match ew_hd y pc xx with | some t => ew_Q p l e R s m args below meth c0 G TY sz H0 Q y hS hE aS (t.1, ew_un ls t.2, [], h') | none => (.inr xx : ew_R) = r ∧ h' = hE) → ew_Q p l e R s m args below meth c0 G TY sz H0 Q y hS hE aS (pc, ls, st, h) := by
      intro z as xx h' rest g0 hc hrun hk
      have hle := ew_Call_le _ _ _ _ _ _ hc
      cases hh : ew_hd y pc xx with
      | none =>
        rw [hh] at hk
        obtain ⟨hk1, rfl⟩ := hk
        exact fun hle0 => ⟨hle, fun a H locs cells slots L hSt => hX pc ls st h a H locs cells slots L _ _ xx hle0 hle hSt (hrun a H locs cells slots L hle0 (ew_le.rf _) hSt) hk1⟩
      | some t =>
        rw [hh] at hk
        obtain ⟨hwr, hHP⟩ := hHP _ _ _ _ hh
        intro hle0
        obtain ⟨k1, k2⟩ := hk (hle0.tr hle)
        exact ⟨hle.tr k1, fun a H locs cells slots L hSt => ex_caught X (htab hwr) hHP hle0 hle hSt (hrun a H locs cells slots L hle0 k1 hSt) k2⟩
    refine ed_step X hck T hpg hRc hRs (fun v hv hd hok e1 e2 e3 => ?_) (fun x c e1 e2 e3 e4 e5 e6 => ?_) (fun d' z as v h' e1 e2 hc => ?_) (fun x z n c k j as rest xx h' e1 e2 e3 e4 e5 e6 e7 e8 e9 hc hk => ?_) (fun x z n c as rest xx h' e1 e2 e3 e4 e5 e6 e7 e8 hc hk => ?_) (fun x z n c as rest v h' e1 e2 e3 e4 e5 e6 e7 hc hk => ?_) (fun x v e1 hd e2 => ?_) g'
    · subst e1; subst e3
      exact hret pc ls v i hv hd hok e2
    · subst e1
      exact hN pc ls st h x _ (hXP _ _ _ _ _ _ _ hpg e2 e3) e4 e5 e6
    · subst e1
      exact ⟨((IH d' rfl z as h _ h' hc).1 e2).1 v rfl, ew_Call_le _ _ _ _ _ _ hc⟩
    · subst e1
      obtain rfl : n0 = 3 := ew_beq hst0
      have hc' := ew_Call_le _ _ _ _ _ _ hc
      cases d with
      | zero => exact hc.elim
      | succ d' =>
        have hwr : et_wr z = false := by
          cases hwr : et_wr z with
          | false => rfl
          | true => have := ((T.2.2.2.2.2.2.2.2.2.2.2.2.2.1 _ _ _ _ _ e2).1 hwr).1; rw [e4] at this; cases this
        have hz9 : z < 900 := Nat.lt_of_not_le fun q => by have := (T.2.2.2.2.2.2.2.2.2.2.2.2.2.1 _ _ _ _ _ e2).2.1 q; rw [e4] at this; cases this
        have hM := ((IH d' rfl z _ h _ h' hc).1 hwr).2 xx rfl
        obtain ⟨w1, w2, -⟩ := T.2.2.2.2.1 _ _ _ _ _ e2 hz9 hwr
        obtain ⟨w3, w4⟩ := w2 e3
        obtain ⟨c17, hcn, hse⟩ := w4 e4
        have hcl : vwCl.length = 17 := rfl
        have hr : vwCl[ew_ct k]? = some (vwCl[ew_ct k]'(by rw [hcl, e5]; exact c17)) := List.getElem?_eq_getElem (by rw [hcl, e5]; exact c17)
        refine thrown z _ xx h' rest [] hc (fun a H locs cells slots L hle0 hle1 hSt => ?_) hk
        subst e7
        exact ex_runV X hck rfl hr (by rw [hcn, (T.2.2.1 _ _ hr).1, e5]) (by rw [e5]; exact c17) w1 e4 hse (T.2.2.2.2.2.2.2.2.2.2.2.2.2.2.2 _ _ _ _ _ e2 hz9 e9 e3) w3 e6 hM e8 hle0 hc' hle1 hRc hRs hd0 hSt
    · subst e1
      obtain rfl : n0 = 3 := ew_beq hst0
      have hc' := ew_Call_le _ _ _ _ _ _ hc
      cases d with
      | zero => exact hc.elim
      | succ d' =>
        have hif : et_if (et_cls y) x = false := by
          cases hif : et_if (et_cls y) x with
          | false => rfl
          | true =>
            have h1 := (T.2.2.2.2.2.2.2.2.2.2.2.2.2.1 _ _ _ _ _ e2).2.2 hif
            unfold ew_th at e8
            rw [Bool.and_eq_true] at e8
            have := Nat.le_of_ble_eq_true e8.2
            omega
        have hwr : et_wr z = false := by
          cases hwr : et_wr z with
          | false => rfl
          | true =>
            have h1 := ((T.2.2.2.2.2.2.2.2.2.2.2.2.2.1 _ _ _ _ _ e2).1 hwr).2
            unfold ew_th at e8
            rw [Bool.and_eq_true] at e8
            have := Nat.le_of_ble_eq_true e8.2
            omega
        have hM := ((IH d' rfl z _ h _ h' hc).1 hwr).2 xx rfl
        obtain ⟨w1, w2, -⟩ := T.2.2.2.2.1 _ _ _ _ _ e2 e3 hwr
        refine thrown z _ xx h' rest [] hc (fun a H locs cells slots L hle0 hle1 hSt => ?_) hk
        subst e6
        exact ex_runS X hck rfl w1 e4 (T.2.2.2.2.2.2.2.2.2.2.2.2.2.2.2 _ _ _ _ _ e2 e3 e8 hif) (w2 hif).1 e5 hM e7 hle0 hc' hle1 hRc hRs hd0 hSt
    · subst e1
      obtain rfl : n0 = 3 := ew_beq hst0
      cases d with
      | zero => exact hc.elim
      | succ d' =>
        obtain ⟨w1, w2, w3⟩ := hYW _ _ _ _ _ e2 e3
        have hM := (IH d' rfl z _ h _ h' hc).2 e3 v rfl
        subst e6
        exact es_callW X hck rfl w1 w3 w2 e5 hM e7 (ew_Call_le _ _ _ _ _ _ hc) hRc hRs hd0 hk
    · exact es_gets X hck hSP hs0 hZ.1 hd e2
end GE
