/-! The small machine's steps on the machine: fields. -/
def ew_TW : List Cond := lw_tbl.filter goodWord
def ew_tyP (t : Nat) (ty : FieldType) : Prop := (t = 0 ∧ ty = .int) ∨ (t = 1 ∧ ty = .boolean) ∨ (t = 2 ∧ ((∃ n, ty = .object n) ∨ ∃ u, ty = .array u)) ∨ (t = 3 ∧ ty = .long)
theorem ew_fits {t : Nat} {ty : FieldType} (h : ew_tyP t ty) {v : ew_V} (f : ew_fit t v) (a : Nat → Nat → Nat) : narrow ty (ew_c a v) = ew_c a v ∧ fits ty (ew_c a v) = true := by
  rcases h with ⟨rfl, rfl⟩ | ⟨rfl, rfl⟩ | ⟨rfl, h⟩ | ⟨rfl, rfl⟩
  · rcases v with v | q
    · cases v <;> first | exact f.elim | exact ⟨rfl, rfl⟩
    · exact f.elim
  · rcases v with v | q
    · cases v <;> first | exact f.elim | skip
      rcases f with rfl | rfl <;> exact ⟨rfl, rfl⟩
    · exact f.elim
  · rcases v with v | q
    · cases v <;> first | exact f.elim | skip
      rcases h with ⟨n, rfl⟩ | ⟨u, rfl⟩ <;> exact ⟨rfl, rfl⟩
    · rcases h with ⟨n, rfl⟩ | ⟨u, rfl⟩ <;> exact ⟨rfl, rfl⟩
  · rcases v with v | q
    · cases v <;> first | exact f.elim | exact ⟨rfl, rfl⟩
    · exact f.elim
/-- a class of the list: its words, the types of its fields, their names -/
def ew_ClP (ci : Nat) (r : vw_C) : Prop := (∀ w ∈ u_ws r.1 r.2.1 r.2.2, w ∈ ew_TW) ∧ (∃ ty : Nat → FieldType, ∀ k, k < r.2.2 → parseFieldDescriptor (r.2.1 k).2.2.1 = some (ty k) ∧ ew_c (fun _ _ => 0) (et_dv ci k) = defaultValue (ty k)) ∧
  (∀ a, a < r.2.2 → ∀ b, b < r.2.2 → a ≠ b → (r.2.1 a).2.1 ≠ (r.2.1 b).2.1) ∧ et_N ci = r.2.2 ∧ (∀ s, ∃ v, et_dv ci s = .inl v ∧ ∀ q, v ≠ .ref q)
def ew_FdP (NW : List Cond) (own : String) (x ci s t : Nat) : Prop := ∃ r : vw_C, vwCl[ci]? = some r ∧ s < r.2.2 ∧ (∃ ty, parseFieldDescriptor (r.2.1 s).2.2.1 = some ty ∧ ew_tyP t ty) ∧ ew_ClP ci r ∧ (r.2.1 s).2.2.2 = et_fin ci s ∧ (et_fin ci s = true → (r.2.1 s).1 = r.1) ∧
  ((∃ ref, Cond.fieldLink own x ref (r.2.1 s).2.1 (r.2.1 s).2.2.1 ∈ ew_TW ∧ ((r.2.1 s).1 = ref ∨ Cond.sameField ref (r.2.1 s).1 (r.2.1 s).2.1 (r.2.1 s).2.2.1 ∈ ew_TW)) ∨ ∃ host, Cond.fieldLinkNest own x (r.2.1 s).1 (r.2.1 s).2.1 (r.2.1 s).2.2.1 host ∈ NW)
section ER
variable {p : Program} {l : Launch} {e : Env} {R : Room} {s : State} {m : MethodId} {args : Array Value} {below : List Frame} {meth : Method} {c : Code} {H : Heap} {locs : List Loc} {cells slots : Nat} {Q : State → Prop}
variable {G : va_G} {TY : Nat → ClassId} {sz : Nat} {H0 : Heap} {a : Nat → Nat → Nat} {h : ew_H} {cc : ByteArray} {pc : Nat} {L : Array Slot} {rest : List Value} {NW : List Cond} {own : String}
theorem er_rdO (I : ew_I G TY sz H0 a h H) {k i : Nat} (hl : h.2.2.1 k i = true) (h1 : ew_ct k < 17) : ∃ (r : vw_C) (cell : Cell), vwCl[ew_ct k]? = some r ∧ H[a k i]? = some cell ∧ cell.cls = G.1 (ew_ct k) ∧ (cell.vm ≠ .unknown ∧ cell.vm.isStatics = false) ∧ ∀ s, s < r.2.2 → cell.slots[G.2 (ew_ct k) s]? = some (ew_c a (h.1 k i s)) := by
  obtain ⟨⟨cx, cc⟩, -⟩ := I.1 k i hl
  cases hc : ew_cst k with
  | false =>
    obtain ⟨r, hr, cell, q1, q2, q3, q4⟩ := (cx hc).1 h1
    exact ⟨r, cell, hr, q1, q2, ⟨(by rw [q3]; exact fun z => (by cases z)), (by rw [q3]; rfl)⟩, q4⟩
  | true =>
    obtain ⟨cell, q1, q2, q3, -⟩ := cc hc
    obtain ⟨r, r1, r2, r3⟩ := q3 h1
    exact ⟨r, cell, r1, q1, r2, q2, r3⟩
theorem er_get (hx : p.tables.exec = Jvm.exec) (hb : c.code = cc) (hts : ∀ w ∈ ew_TW, w.before args s = true) (hnw : ∀ w ∈ NW, va_Nw w s) (hK : va_K G vwCl [] s) (hown : s.vm.findClass own = some m.cls) (I : ew_I G TY sz H0 a h H) {k i x ci sl t : Nat} (hl : h.2.2.1 k i = true) (hF : ew_FdP NW own x ci sl t) (hc : ew_ct k = ci) (hci : ci < 17)
    (hdg : decode cc pc = .ok (.getfield x, 3)) (kk : W p l e R s m args below meth c H locs cells slots Q (F0 m (pc + 3) L (ew_c a (h.1 k i sl) :: rest))) : W p l e R s m args below meth c H locs cells slots Q (F0 m pc L (.ref (a k i) :: rest)) := by
  obtain ⟨r, hr, hs, -, hC, -, -, hlk⟩ := hF
  subst hc
  obtain ⟨r', cell, hr', q1, q2, ⟨q3, -⟩, q4⟩ := er_rdO I hl hci
  cases hr.symm.trans hr'
  obtain ⟨hS, hfc, kC, hkC, hkind⟩ := hK.1 _ _ hr
  obtain ⟨cf, kf, fi, f, hi, hsl⟩ := hS sl hs
  have hst := (u_facts hfc hkC (u_lays hts hC.1 hs) hi).1
  have hv : cell.slots[f.slot]? = some (ew_c a (h.1 k i sl)) := by rw [hsl]; exact q4 sl hs
  rcases hlk with ⟨ref, hw, hsame⟩ | ⟨host, hw⟩
  · refine W.getf hx hb hown (hts _ hw) (ref := ref) (name := (r.2.1 sl).2.1) (desc := (r.2.1 sl).2.2.1) (cf := cf) (k := kf) (i := fi) (f := f) ?_ hst q1 q3 hv rfl rfl hdg kk
    rcases hsame with rfl | hsm
    · exact hi
    · exact u_same (hts _ hsm) _ hi
  · exact va_Wgetf hx hb hown (va_Nw.use rfl (hnw _ hw)) hi hst q1 q3 hv rfl rfl hdg kk
theorem er_put (hx : p.tables.exec = Jvm.exec) (hb : c.code = cc) (hts : ∀ w ∈ ew_TW, w.before args s = true) (hK : va_K G vwCl [] s) (hown : s.vm.findClass own = some m.cls) (I : ew_I G TY sz H0 a h H) {k i x ci sl t : Nat} (hl : h.2.2.1 k i = true) (hF : ew_FdP [] own x ci sl t) (hc : ew_ct k = ci) (hci : ci < 17) (hcst : ew_cst k = false)
    (hfin : et_fin ci sl = true → meth.name = "<init>" ∧ ∀ r : vw_C, vwCl[ci]? = some r → r.1 = own)
    {v : ew_V} (hf : ew_fit t v) (hw : ew_wf h v) (hdg : decode cc pc = .ok (.putfield x, 3))
    (kk : ∀ (H1 : Heap) (locs1 : List Loc), (∀ q ∈ locs1, sz ≤ q.base) → ew_I G TY sz H0 a (ew_put h k i sl v) H1 → W p l e R s m args below meth c H1 locs1 cells slots Q (F0 m (pc + 3) L rest)) (hlocs : ∀ q ∈ locs, sz ≤ q.base) : W p l e R s m args below meth c H locs cells slots Q (F0 m pc L (ew_c a v :: .ref (a k i) :: rest)) := by
  obtain ⟨r, hr, hs, ⟨ty, hty, htp⟩, hC, hfe, hfd, hlk⟩ := hF
  subst hc
  obtain ⟨⟨c1, -⟩, -, hsz, -⟩ := I.1 k i hl
  obtain ⟨r', hr', cell, q1, q2, q3, q4⟩ := (c1 hcst).1 hci
  cases hr.symm.trans hr'
  have hKr := hK.1 _ _ hr
  obtain ⟨hS, hfc, kC, hkC, hkind⟩ := id hKr
  obtain ⟨cf, kf, fi, f, hi, hsl⟩ := hS sl hs
  obtain ⟨hC1, ⟨tyf, htyf⟩, hnm, -, -⟩ := hC
  have hap : ∀ x y, x < r.2.2 → y < r.2.2 → x ≠ y → (G.2 (ew_ct k)) x ≠ (G.2 (ew_ct k)) y := va_apart (own := own) (T := r.2.1) (N := r.2.2) (C := r.1) hts hC1 tyf (fun j hj => (htyf j hj).1) hnm hK (by rw [hr])
  have hst := (u_facts hfc hkC (u_lays hts hC1 hs) hi).1
  obtain ⟨hn, hfit⟩ := ew_fits htp hf a
  have hlt : f.slot < cell.slots.size := by rw [hsl]; exact k2_hasslot (q4 sl hs)
  have done : ∀ H' : Heap, H'[a k i]? = some (cell.setSlot f.slot (ew_c a v)) → H'.size = H.size → (∀ q, q ≠ a k i → H'[q]? = H[q]?) → ew_I G TY sz H0 a (ew_put h k i sl v) H' := by
    intro H' e1 e2 e3
    rw [hsl] at e1
    refine ew_I_set I hl hcst rfl (fun k' i' s' ne => ew_put_ne h sl s' v ne) (fun s' => ?_) (ew_cell.of hcst ⟨fun _ => ⟨r, hr, ?_⟩, fun z _ => absurd hci (Nat.not_lt.mpr z)⟩) e2 e3
    · by_cases z : s' = sl
      · subst z; rw [ew_put_self]; exact ew_wh_of hw hf
      · rw [ew_put_at h k i v z]; exact I.2.2.1 k i s' hl
    · refine t_OB.to (V := updV (fun s' => ew_c a (h.1 k i s')) sl (ew_c a v)) ⟨_, e1, q2, q3, t_set q4 hap hs (ew_c a v)⟩ (fun j _ => ?_)
      unfold updV
      by_cases z : j = sl
      · subst z; rw [if_pos rfl, ew_put_self]
      · rw [if_neg z, ew_put_at h k i v z]
  have hloc1 : ∀ q ∈ locs ++ [⟨a k i, f.slot⟩], sz ≤ q.base := fun q hq => by
    rcases List.mem_append.mp hq with z | z
    · exact hlocs q z
    · rw [List.mem_singleton.mp z]
      exact hsz hcst
  rcases hlk with ⟨ref, hwd, hsame⟩ | ⟨host, hwd⟩
  · have hi' : s.fieldFound? ref (r.2.1 sl).2.1 (r.2.1 sl).2.2.1 = some (cf, kf, fi, f) := by
      rcases hsame with rfl | hsm
      · exact hi
      · exact u_same (hts _ hsm) _ hi
    have hlay := hts _ (hC1 _ (u_in_lay hs))
    unfold u_lay at hlay
    cases hfn : et_fin (ew_ct k) sl with
    | false =>
      rw [if_neg (by rw [hfe, hfn]; decide)] at hlay
      have h6 := u_store hfc hkC hkind hlay hi hty hn hfit
      exact W.putK hx hb (f := f) ⟨hown, hts _ hwd, ⟨_, _, _, hi'⟩, hst⟩ (by rw [q2]; exact h6) q1 q3 hlt rfl rfl hdg fun H' e1 e2 e3 => kk H' _ hloc1 (done H' e1 e2 e3)
    | true =>
      rw [if_pos (by rw [hfe, hfn])] at hlay
      obtain ⟨hini, hro⟩ := hfin hfn
      have hcf : m.cls = cf := by
        obtain ⟨_, _, c', _, _, _, -, -, hf', -, -, -, hown2, -⟩ := Cond.laysFinal_spec hlay
        have e1 : c' = cf := by have := hi.symm.trans hf'; simp at this; exact this.1.symm
        rw [hfd hfn, hro r hr] at hown2
        rw [← e1]; exact Option.some.inj (hown.symm.trans hown2)
      have h6 := u_fits hfc hkC hkind (Or.inr hlay) hi hty hn hfit
      exact W.putFinK hx hb hown (hts _ hwd) hi' hst hcf hini (by rw [q2]; exact h6) q1 q3 hlt rfl rfl hdg fun H' e1 e2 e3 => kk H' _ hloc1 (done H' e1 e2 e3)
  · exact absurd hwd List.not_mem_nil
theorem er_new (hx : p.tables.exec = Jvm.exec) (hb : c.code = cc) (hts : ∀ w ∈ ew_TW, w.before args s = true) (hK : va_K G vwCl [] s) (hown : s.vm.findClass own = some m.cls) (I : ew_I G TY sz H0 a h H) {k x ci : Nat} {r : vw_C} (hr : vwCl[ci]? = some r) (hC : ew_ClP ci r) (hc : ew_ct k = ci) (hci : ci < 17) (hcst : ew_cst k = false) (hctr : ew_ctr k = true)
    (hlk : Cond.classLink own x r.1 ∈ ew_TW) (hin : Cond.instantiable r.1 r.2.2 ∈ ew_TW) (hini : Cond.initialized r.1 ∈ ew_TW) (hcells : cells + 1 ≤ R.cells) (hslots : slots + r.2.2 ≤ R.slots) (hdg : decode cc pc = .ok (.new x, 3))
    (kk : ∀ (H1 : Heap), ew_I G TY sz H0 (ew_al a k (h.2.2.2.1 k) H.size) (ew_mk h k (h.2.2.2.1 k) (et_N ci) (et_dv ci)) H1 → W p l e R s m args below meth c H1 locs (cells + 1) (slots + et_N ci) Q (F0 m (pc + 3) L (.ref (ew_al a k (h.2.2.2.1 k) H.size k (h.2.2.2.1 k)) :: rest))) : W p l e R s m args below meth c H locs cells slots Q (F0 m pc L rest) := by
  obtain ⟨hC1, ⟨tyf, htyf⟩, hnm, hN, hdv⟩ := hC
  have hKn := hK.1 _ _ hr
  subst hc
  refine W.newcK hx hb hown (hts _ hlk) (hts _ hin) (hts _ hini) rfl hdg hcells hslots hKn.2.1 rfl fun H1 kC hkC e1 z1 o1 => ?_
  have hn : h.2.2.1 k (h.2.2.2.1 k) = false := I.2.2.2.1 k _ hctr (Nat.le_refl _)
  have key := kk H1 (ew_I_mk I (by omega) hcst hn (fun _ => rfl) (fun s' => by obtain ⟨v, ev, hv⟩ := hdv s'; rw [ev]; cases v <;> first | exact trivial | exact absurd rfl (hv _)) (ew_cell.of hcst ⟨fun _ => ⟨r, hr, ?_⟩, fun z _ => absurd hci (Nat.not_lt.mpr z)⟩) z1 o1)
  · rw [hN, ew_al_self] at key
    exact key
  · rw [ew_al_self]
    refine (u_born tyf hts hC1 hKn hkC e1 (fun j hj => (htyf j hj).1)).to (fun j hj => ?_)
    rw [ew_mk_self, ← (htyf j hj).2]
    obtain ⟨v, ev, hv⟩ := hdv j
    rw [ev]
    rfl
end ER
