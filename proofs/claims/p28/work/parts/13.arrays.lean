/-! The small machine's steps on the machine: arrays. -/
def ew_AT (TY : Nat → ClassId) (s : State) : Prop := (∀ t, 17 ≤ t → t < 25 → ArrOfT s (TY t) (ew_ty t) ∧ va_RA s (TY t) (ew_ty t)) ∧ ∀ k, (k = 17 ∨ k = 49) → ArrOfT s (TY (100 + k)) .int
section EA
variable {p : Program} {l : Launch} {e : Env} {R : Room} {s : State} {m : MethodId} {args : Array Value} {below : List Frame} {meth : Method} {c : Code} {H : Heap} {locs : List Loc} {cells slots : Nat} {Q : State → Prop}
variable {G : va_G} {TY : Nat → ClassId} {sz : Nat} {H0 : Heap} {a : Nat → Nat → Nat} {h : ew_H} {cc : ByteArray} {pc : Nat} {L : Array Slot} {rest : List Value} {own : String} {k i : Nat}
theorem ew_tyR {t : Nat} (h1 : 20 ≤ t) : (ew_ty t).isReference = true := by
  unfold ew_ty
  split <;> first | omega | rfl
/-- arrays of arrays of ints can be made -/
def ew_AA (U : State) : Prop := (Cond.arrayOver (.array .int)).before #[] U = true
theorem ew_AA.use {A : Array Value} {U : State} (h : ew_AA U) : (Cond.arrayOver (.array .int)).before A U = true := h
theorem ew_AA.of {A : Array Value} {U : State} (h : (Cond.arrayOver (.array .int)).before A U = true) : ew_AA U := h
theorem ew_AT.tc {TY : Nat → ClassId} {s : State} (hA : ew_AT TY s) {k : Nat} (h1 : 17 ≤ ew_ct k) (h2 : ew_ct k < 25) : ArrOfT s (ew_tc TY k) (ew_ty (ew_ct k)) := by
  unfold ew_tc
  cases hb : Nat.beq k 17 || Nat.beq k 49 with
  | false => rw [cond_false]; exact (hA.1 _ h1 h2).1
  | true =>
    rw [cond_true]
    rw [Bool.or_eq_true] at hb
    rcases hb with hb | hb
    · have := hA.2 k (Or.inl (ew_beq hb))
      rw [ew_beq hb] at this ⊢
      exact this
    · have := hA.2 k (Or.inr (ew_beq hb))
      rw [ew_beq hb] at this ⊢
      exact this
/-- reading an array -/
theorem er_rdA (hA : ew_AT TY s) (I : ew_I G TY sz H0 a h H) (hl : h.2.2.1 k i = true) (h1 : 17 ≤ ew_ct k) (h2 : ew_ct k < 25) : ∃ cell : Cell, H[a k i]? = some cell ∧ s.isArrayOf cell (ew_ty (ew_ct k)) ∧ (cell.vm ≠ .unknown ∧ cell.vm.isStatics = false) ∧ (ew_len h k i ≤ cell.slots.size ∧ cell.slots.size.toInt32 = Int32.ofNat (ew_len h k i)) ∧ (∀ j, j < ew_len h k i → cell.slots[j]? = some (ew_c a (h.1 k i j))) ∧ cell.cls = ew_tc TY k := by
  obtain ⟨⟨cx, cc⟩, -⟩ := I.1 k i hl
  cases hc : ew_cst k with
  | false =>
    have htc : ew_tc TY k = TY (ew_ct k) := by
      unfold ew_tc
      cases hb : Nat.beq k 17 || Nat.beq k 49 with
      | false => rfl
      | true =>
        rw [Bool.or_eq_true] at hb
        rcases hb with hb | hb <;> (rw [ew_beq hb] at hc; exact absurd hc (by decide))
    exact ⟨_, (cx hc).2 h1 h2, (hA.1 _ h1 h2).1 _ _, ⟨fun q => (by cases q), rfl⟩, ⟨Nat.le_of_eq (arrV_size _ _ _).symm, (by rw [arrV_size])⟩, fun j hj => arrV_read _ _ hj, htc.symm⟩
  | true =>
    obtain ⟨cell, q1, q2, -, q3⟩ := cc hc
    obtain ⟨t1, t2, t3⟩ := q3 h1 h2
    obtain ⟨-, kA, hk, comp, hkind⟩ := hA.tc h1 h2 0 (fun _ => .null)
    exact ⟨cell, q1, ⟨fun q z => (by have := q2.2; rw [z] at this; cases this), kA, (by rw [t1]; exact hk), comp, hkind⟩, q2, t2, t3, t1⟩
theorem er_alen (hx : p.tables.exec = Jvm.exec) (hb : c.code = cc) (hA : ew_AT TY s) (I : ew_I G TY sz H0 a h H) (hl : h.2.2.1 k i = true) (h1 : 17 ≤ ew_ct k) (h2 : ew_ct k < 25) (hdg : decode cc pc = .ok (.arraylength, 1))
    (kk : W p l e R s m args below meth c H locs cells slots Q (F0 m (pc + 1) L (.int (Int32.ofNat (ew_len h k i)) :: rest))) : W p l e R s m args below meth c H locs cells slots Q (F0 m pc L (.ref (a k i) :: rest)) := by
  obtain ⟨cell, q1, q2, q3, q4, -⟩ := er_rdA hA I hl h1 h2
  exact W.alen (n := Int32.ofNat (ew_len h k i)) hx hb q1 q2 q4.2 rfl rfl hdg kk
theorem er_ix {i : Int32} {n : Nat} {cA : ClassId} {f : Nat → Value} (h : ew_ix i n) : ¬ (i < 0 ∨ (arrV cA n f).slots.size ≤ i.toNatClampNeg) ∧ i.toNatClampNeg < n := by
  refine ⟨by rw [arrV_size]; exact h, Nat.not_le.mp fun q => h (Or.inr q)⟩
theorem er_iald (hx : p.tables.exec = Jvm.exec) (hb : c.code = cc) (hA : ew_AT TY s) (I : ew_I G TY sz H0 a h H) (hl : h.2.2.1 k i = true) (h1 : ew_ct k = 17) {j : Int32} (hj : ew_ix j (ew_len h k i)) (hdg : decode cc pc = .ok (.iaload, 1))
    (kk : W p l e R s m args below meth c H locs cells slots Q (F0 m (pc + 1) L (ew_c a (h.1 k i j.toNatClampNeg) :: rest))) : W p l e R s m args below meth c H locs cells slots Q (F0 m pc L (.int j :: .ref (a k i) :: rest)) := by
  obtain ⟨cell, q1, q2, q3, q4, q5, -⟩ := er_rdA hA I hl (by omega) (by omega)
  rw [h1] at q2
  exact W.iald hx hb q1 q2 q3.1 (fun w => hj (w.imp id (fun w => Nat.le_trans q4.1 w))) (q5 _ (er_ix (cA := TY 17) (f := fun _ => .null) hj).2) rfl rfl hdg kk
theorem er_zald (hx : p.tables.exec = Jvm.exec) (hb : c.code = cc) (hA : ew_AT TY s) (I : ew_I G TY sz H0 a h H) (hl : h.2.2.1 k i = true) (h1 : ew_ct k = 18) {j : Int32} (hj : ew_ix j (ew_len h k i)) (hdg : decode cc pc = .ok (.baload, 1))
    (kk : W p l e R s m args below meth c H locs cells slots Q (F0 m (pc + 1) L (ew_c a (h.1 k i j.toNatClampNeg) :: rest))) : W p l e R s m args below meth c H locs cells slots Q (F0 m pc L (.int j :: .ref (a k i) :: rest)) := by
  obtain ⟨cell, q1, q2, q3, q4, q5, -⟩ := er_rdA hA I hl (by omega) (by omega)
  rw [h1] at q2
  exact W.zald hx hb q1 q2 q3.1 (fun w => hj (w.imp id (fun w => Nat.le_trans q4.1 w))) (q5 _ (er_ix (cA := TY 17) (f := fun _ => .null) hj).2) rfl rfl hdg kk
theorem er_aald (hx : p.tables.exec = Jvm.exec) (hb : c.code = cc) (hA : ew_AT TY s) (I : ew_I G TY sz H0 a h H) (hl : h.2.2.1 k i = true) (h1 : 20 ≤ ew_ct k) (h2 : ew_ct k < 25) {j : Int32} (hj : ew_ix j (ew_len h k i)) (hdg : decode cc pc = .ok (.aaload, 1))
    (kk : W p l e R s m args below meth c H locs cells slots Q (F0 m (pc + 1) L (ew_c a (h.1 k i j.toNatClampNeg) :: rest))) : W p l e R s m args below meth c H locs cells slots Q (F0 m pc L (.int j :: .ref (a k i) :: rest)) := by
  obtain ⟨cell, q1, q2, q3, q4, q5, -⟩ := er_rdA hA I hl (by omega) h2
  exact W.aald (ty := ew_ty (ew_ct k)) hx hb q1 q2 (ew_tyR h1) q3.1 (fun w => hj (w.imp id (fun w => Nat.le_trans q4.1 w))) (q5 _ (er_ix (cA := TY 17) (f := fun _ => .null) hj).2) rfl rfl hdg kk
/-- what a store into an array does to the picture -/
theorem er_stored (I : ew_I G TY sz H0 a h H) (hl : h.2.2.1 k i = true) (h1 : 17 ≤ ew_ct k) (h2 : ew_ct k < 25) (hcst : ew_cst k = false) {j : Nat} {v : ew_V} (hw : ew_wh h v) {H' : Heap}
    (e1 : H'[a k i]? = some ((arrV (TY (ew_ct k)) (ew_len h k i) (fun s => ew_c a (h.1 k i s))).setSlot j (ew_c a v))) (e2 : H'.size = H.size) (e3 : ∀ q, q ≠ a k i → H'[q]? = H[q]?) : ew_I G TY sz H0 a (ew_put h k i j v) H' := by
  refine ew_I_set I hl hcst rfl (fun k' i' s' ne => ew_put_ne h j s' v ne) (fun s' => ?_) (ew_cell.of hcst ⟨fun z => absurd h1 (Nat.not_le.mpr z), fun _ _ => ?_⟩) e2 e3
  · by_cases z : s' = j
    · subst z; rw [ew_put_self]; exact hw
    · rw [ew_put_at h k i v z]; exact I.2.2.1 k i s' hl
  · rw [e1, arrV_store]
    congr 2
    funext s'
    unfold updV
    by_cases z : s' = j
    · subst z; rw [if_pos rfl, ew_put_self]
    · rw [if_neg z, ew_put_at h k i v z]
theorem er_locs {locs : List Loc} {q : Loc} (hlocs : ∀ q ∈ locs, sz ≤ q.base) (hq : sz ≤ q.base) : ∀ z ∈ locs ++ [q], sz ≤ z.base := fun z hz => by
  rcases List.mem_append.mp hz with z1 | z1
  · exact hlocs z z1
  · rw [List.mem_singleton.mp z1]; exact hq
theorem er_iast (hx : p.tables.exec = Jvm.exec) (hb : c.code = cc) (hA : ew_AT TY s) (I : ew_I G TY sz H0 a h H) (hl : h.2.2.1 k i = true) (h1 : ew_ct k = 17) (hcst : ew_cst k = false) (hlocs : ∀ q ∈ locs, sz ≤ q.base) {j x : Int32} (hj : ew_ix j (ew_len h k i)) (hdg : decode cc pc = .ok (.iastore, 1))
    (kk : ∀ (H1 : Heap) (locs1 : List Loc), (∀ q ∈ locs1, sz ≤ q.base) → ew_I G TY sz H0 a (ew_put h k i j.toNatClampNeg (ew_i x)) H1 → W p l e R s m args below meth c H1 locs1 cells slots Q (F0 m (pc + 1) L rest)) : W p l e R s m args below meth c H locs cells slots Q (F0 m pc L (.int x :: .int j :: .ref (a k i) :: rest)) := by
  have hc := ((I.1 k i hl).1.1 hcst).2 (by omega) (by omega)
  have hAt := (hA.1 17 (by decide) (by decide)).1
  have hc' := hc
  rw [h1] at hc'
  refine W.iast hx hb hc' (hAt _ _) (fun q => by cases q) (er_ix hj).1 rfl rfl hdg fun H' e1 e2 e3 => kk H' _ (er_locs hlocs ((I.1 k i hl).2.2.1 hcst)) (er_stored (v := ew_i x) I hl (by omega) (by omega) hcst trivial (by rw [h1]; exact e1) e2 e3)
theorem er_zast (hx : p.tables.exec = Jvm.exec) (hb : c.code = cc) (hA : ew_AT TY s) (I : ew_I G TY sz H0 a h H) (hl : h.2.2.1 k i = true) (h1 : ew_ct k = 18) (hcst : ew_cst k = false) (hlocs : ∀ q ∈ locs, sz ≤ q.base) {j x : Int32} (hj : ew_ix j (ew_len h k i)) (h01 : x = 0 ∨ x = 1) (hdg : decode cc pc = .ok (.bastore, 1))
    (kk : ∀ (H1 : Heap) (locs1 : List Loc), (∀ q ∈ locs1, sz ≤ q.base) → ew_I G TY sz H0 a (ew_put h k i j.toNatClampNeg (ew_i x)) H1 → W p l e R s m args below meth c H1 locs1 cells slots Q (F0 m (pc + 1) L rest)) : W p l e R s m args below meth c H locs cells slots Q (F0 m pc L (.int x :: .int j :: .ref (a k i) :: rest)) := by
  have hc := ((I.1 k i hl).1.1 hcst).2 (by omega) (by omega)
  have hAt := (hA.1 18 (by decide) (by decide)).1
  have hn : narrow .boolean (.int x) = .int x := by rcases h01 with rfl | rfl <;> rfl
  have hc' := hc
  rw [h1] at hc'
  refine W.zast hx hb hc' (hAt _ _) (fun q => by cases q) (er_ix hj).1 rfl rfl hdg fun H' e1 e2 e3 => kk H' _ (er_locs hlocs ((I.1 k i hl).2.2.1 hcst)) (er_stored (v := ew_i x) I hl (by omega) (by omega) hcst trivial (by rw [hn] at e1; rw [h1]; exact e1) e2 e3)
theorem er_cv (hA : ew_AT TY s) (I : ew_I G TY sz H0 a h H) {k' i' : Nat} (hl' : h.2.2.1 k' i' = true) (hft : ew_fit 2 (ew_o k' i')) : ∃ cv : Cell, H[a k' i']? = some cv ∧ cv.vm.isStatics = false ∧ cv.cls = (if ew_ct k' < 17 then G.1 (ew_ct k') else TY (ew_ct k')) := by
  have h25 := (I.1 k' i' hl').2.2.2
  by_cases z : ew_ct k' < 17
  · obtain ⟨r, cell, -, q1, q2, q3, -⟩ := er_rdO I hl' z
    exact ⟨cell, q1, q3.2, by rw [if_pos z]; exact q2⟩
  · obtain ⟨cell, q1, -, q3, -, -, q6⟩ := er_rdA hA I hl' (by omega) h25
    refine ⟨cell, q1, q3.2, ?_⟩
    rw [if_neg z, q6]
    unfold ew_tc
    have hft : (Nat.beq k' 31 || (Nat.beq k' 17 || Nat.beq k' 49)) = false := hft
    rw [Bool.or_eq_false_iff] at hft
    rw [hft.2, cond_false]
/-- the object may lie in the array -/
def ew_asP (TY : Nat → ClassId) (G : va_G) (s : State) (k k' : Nat) : Prop := ∀ (kA : Class) (comp : ClassId) (t : FieldType), s.vm.classes[TY (ew_ct k)]? = some kA → kA.kind = .array comp t →
  (∃ kc, s.vm.classes[comp]? = some kc) ∧ ∃ kv, s.vm.classes[(if ew_ct k' < 17 then G.1 (ew_ct k') else TY (ew_ct k'))]? = some kv ∧ s.vm.assignable (if ew_ct k' < 17 then G.1 (ew_ct k') else TY (ew_ct k')) comp = true
theorem er_aast (hx : p.tables.exec = Jvm.exec) (hb : c.code = cc) (hA : ew_AT TY s) (I : ew_I G TY sz H0 a h H) (hl : h.2.2.1 k i = true) (h1 : 20 ≤ ew_ct k) (h2 : ew_ct k < 25) (hcst : ew_cst k = false) (hlocs : ∀ q ∈ locs, sz ≤ q.base) {j : Int32} (hj : ew_ix j (ew_len h k i)) {k' i' : Nat} (hl' : h.2.2.1 k' i' = true) (hft : ew_fit 2 (ew_o k' i')) (has : ew_asP TY G s k k') (hdg : decode cc pc = .ok (.aastore, 1))
    (kk : ∀ (H1 : Heap) (locs1 : List Loc), (∀ q ∈ locs1, sz ≤ q.base) → ew_I G TY sz H0 a (ew_put h k i j.toNatClampNeg (ew_o k' i')) H1 → W p l e R s m args below meth c H1 locs1 cells slots Q (F0 m (pc + 1) L rest)) : W p l e R s m args below meth c H locs cells slots Q (F0 m pc L (.ref (a k' i') :: .int j :: .ref (a k i) :: rest)) := by
  have hc := ((I.1 k i hl).1.1 hcst).2 (by omega) h2
  obtain ⟨-, kA, k1, comp, k2⟩ := (hA.1 _ (by omega) h2).1 0 (fun _ => .null)
  obtain ⟨⟨kc, hkc⟩, kv, hkv, hasg⟩ := has kA comp _ k1 k2
  obtain ⟨cv, g1, g2, g3⟩ := er_cv hA I hl' hft
  refine W.aast hx hb hc (fun q z => by cases z) (fun z => by cases z) k1 k2 (ew_tyR h1) hkc ⟨fun z => hj (Or.inl z), by rw [arrV_size]; exact (er_ix (cA := TY 17) (f := fun _ => .null) hj).2⟩ g1 (fun q z => by rw [z] at g2; cases g2) (by rw [g3]; exact hkv) (by rw [g3]; exact hasg) rfl rfl hdg fun H' e1 e2 e3 => kk H' _ (er_locs hlocs ((I.1 k i hl).2.2.1 hcst)) (er_stored (v := ew_o k' i') I hl (by omega) h2 hcst hl' e1 e2 e3)
theorem er_made (I : ew_I G TY sz H0 a h H) {N : Nat} {z : ew_V} (h1 : 17 ≤ ew_ct k) (h2 : ew_ct k < 25) (hcst : ew_cst k = false) (hn : h.2.2.1 k i = false) (hctr : ew_ctr k = true → i = h.2.2.2.1 k) (hz : ∃ v, z = .inl v ∧ ∀ q, v ≠ .ref q) (hsl : ew_sl k N = N) {H1 : Heap}
    (e1 : H1[H.size]? = some (arrV (TY (ew_ct k)) N (fun _ => ew_c a z))) (e2 : H1.size = H.size + 1) (e3 : ∀ q : Nat, q < H.size → H1[q]? = H[q]?) : ew_I G TY sz H0 (ew_al a k i H.size) (ew_mk h k i N (fun _ => z)) H1 := by
  obtain ⟨v, rfl, hv⟩ := hz
  refine ew_I_mk I h2 hcst hn hctr (fun s' => by cases v <;> first | exact trivial | exact absurd rfl (hv _)) (ew_cell.of hcst ⟨fun q => absurd h1 (Nat.not_le.mpr q), fun _ _ => ?_⟩) e2 e3
  rw [ew_al_self, e1]
  congr 2
  · rw [ew_len, ew_mk_nself, hsl]
  · funext s'
    rw [ew_mk_self]
    rfl
theorem er_newa (hx : p.tables.exec = Jvm.exec) (hb : c.code = cc) (hA : ew_AT TY s) (I : ew_I G TY sz H0 a h H) {at' : ArrayType} (hty : ew_ty (ew_ct k) = newarray.typeOf at') (hcl : (Cond.arrayClass (newarray.typeOf at')).before args s = true) (h1 : 17 ≤ ew_ct k) (h2 : ew_ct k < 20) (hcst : ew_cst k = false) (hctr : ew_ctr k = true) {z : ew_V} (hz : ∃ v, z = .inl v ∧ ∀ q, v ≠ .ref q) (hdv : ew_c a z = defaultValue (newarray.typeOf at'))
    {n : Int32} (hn : ¬ n < 0) (hsl : ew_sl k n.toNatClampNeg = n.toNatClampNeg) (hN : n.toNatClampNeg ≤ 1000000) (hcells : cells + 1 ≤ R.cells) (hslots : slots + n.toNatClampNeg ≤ R.slots) (hdg : decode cc pc = .ok (.newarray at', 2))
    (kk : ∀ (H1 : Heap), ew_I G TY sz H0 (ew_al a k (h.2.2.2.1 k) H.size) (ew_mk h k (h.2.2.2.1 k) n.toNatClampNeg (fun _ => z)) H1 → W p l e R s m args below meth c H1 locs (cells + 1) (slots + n.toNatClampNeg) Q (F0 m (pc + 2) L (.ref (ew_al a k (h.2.2.2.1 k) H.size k (h.2.2.2.1 k)) :: rest))) : W p l e R s m args below meth c H locs cells slots Q (F0 m pc L (.int n :: rest)) := by
  have hra := (hA.1 _ h1 (by omega)).2
  refine va_newaK hx hb hcl rfl hdg rfl hn rfl (by cases at' <;> (simp only [newarray.typeOf, componentBytes]; omega)) hcells hslots rfl fun H1 cA e1 z1 o1 hAr hNm => ?_
  have hcA : cA = TY (ew_ct k) := by
    rw [hty] at hra
    have h3 : s.vm.findClass ("[" ++ (newarray.typeOf at').toString) = some (TY (ew_ct k)) := by cases at' <;> exact hra
    exact Option.some.inj (hNm.symm.trans h3)
  subst hcA
  have key := kk H1 (er_made I h1 (by omega) hcst (I.2.2.2.1 k _ hctr (Nat.le_refl _)) (fun _ => rfl) hz hsl (by rw [hdv]; exact e1) z1 o1)
  rw [ew_al_self] at key
  exact key
theorem er_anewa (hx : p.tables.exec = Jvm.exec) (hb : c.code = cc) (hown : s.vm.findClass own = some m.cls) (hA : ew_AT TY s) (I : ew_I G TY sz H0 a h H) {C : String} {x : Nat} (hty : ew_ty (ew_ct k) = .object C) (hlk : (Cond.classLink own x C).before args s = true) (hov : va_AO C s) (h1 : 20 ≤ ew_ct k) (h2 : ew_ct k < 25) (hcst : ew_cst k = false) (hnl : h.2.2.1 k i = false) (hctr : ew_ctr k = true → i = h.2.2.2.1 k)
    {n : Int32} (hn : ¬ n < 0) (hsl : ew_sl k n.toNatClampNeg = n.toNatClampNeg) (hN : n.toNatClampNeg ≤ 1000000) (hcells : cells + 1 ≤ R.cells) (hslots : slots + n.toNatClampNeg ≤ R.slots) (hdg : decode cc pc = .ok (.anewarray x, 3))
    (kk : ∀ (H1 : Heap), ew_I G TY sz H0 (ew_al a k i H.size) (ew_mk h k i n.toNatClampNeg (fun _ => ew_0)) H1 → W p l e R s m args below meth c H1 locs (cells + 1) (slots + n.toNatClampNeg) Q (F0 m (pc + 3) L (.ref (ew_al a k i H.size k i) :: rest))) : W p l e R s m args below meth c H locs cells slots Q (F0 m pc L (.int n :: rest)) := by
  have hra := (hA.1 _ (by omega) h2).2
  rw [hty] at hra
  obtain ⟨kA0, comp0, r1, r2, r3, r4⟩ := hra
  refine W.anew hx hb hown hlk (va_AO.use hov) rfl hdg rfl hn (by omega) hcells hslots fun cA kA comp f1 f2 f3 f4 => ?_
  have hcA : cA = TY (ew_ct k) := Option.some.inj (f1.symm.trans r4)
  subst hcA
  generalize hH1 : H.push ({ cls := TY (ew_ct k), slots := Array.replicate n.toNatClampNeg .null, vm := .none } : Cell) = H1
  have z1 : H1.size = H.size + 1 := by rw [← hH1, Array.size_push]
  have e1 : H1[H.size]? = some (arrV (TY (ew_ct k)) n.toNatClampNeg (fun _ => .null)) := by rw [← hH1, Array.getElem?_push_size, ← arrV_new]
  have o1 : ∀ q : Nat, q < H.size → H1[q]? = H[q]? := fun q hq => by rw [← hH1, Array.getElem?_push, if_neg (Nat.ne_of_lt hq)]
  have key := kk H1 (er_made (z := ew_0) I (by omega) h2 hcst hnl hctr ⟨_, rfl, fun q z => by cases z⟩ hsl e1 z1 o1)
  rw [ew_al_self] at key
  exact key
theorem er_anewA (hx : p.tables.exec = Jvm.exec) (hb : c.code = cc) (hown : s.vm.findClass own = some m.cls) (hA : ew_AT TY s) (I : ew_I G TY sz H0 a h H) {x : Nat} (hty : ew_ty (ew_ct k) = .array .int) (hlk : (Cond.classLink own x "[I").before args s = true) (hov : ew_AA s) (h1 : 20 ≤ ew_ct k) (h2 : ew_ct k < 25) (hcst : ew_cst k = false) (hnl : h.2.2.1 k i = false) (hctr : ew_ctr k = true → i = h.2.2.2.1 k)
    {n : Int32} (hn : ¬ n < 0) (hsl : ew_sl k n.toNatClampNeg = n.toNatClampNeg) (hN : n.toNatClampNeg ≤ 1000000) (hcells : cells + 1 ≤ R.cells) (hslots : slots + n.toNatClampNeg ≤ R.slots) (hdg : decode cc pc = .ok (.anewarray x, 3))
    (kk : ∀ (H1 : Heap), ew_I G TY sz H0 (ew_al a k i H.size) (ew_mk h k i n.toNatClampNeg (fun _ => ew_0)) H1 → W p l e R s m args below meth c H1 locs (cells + 1) (slots + n.toNatClampNeg) Q (F0 m (pc + 3) L (.ref (ew_al a k i H.size k i) :: rest))) : W p l e R s m args below meth c H locs cells slots Q (F0 m pc L (.int n :: rest)) := by
  have hra := (hA.1 _ (by omega) h2).2
  rw [hty] at hra
  refine W.anewA (t := .int) hx hb hown hlk hov.use rfl hdg rfl hn (by omega) hcells hslots fun cA kA comp f1 f2 f3 f4 => ?_
  have hcA : cA = TY (ew_ct k) := Option.some.inj (f1.symm.trans hra)
  subst hcA
  generalize hH1 : H.push ({ cls := TY (ew_ct k), slots := Array.replicate n.toNatClampNeg .null, vm := .none } : Cell) = H1
  have z1 : H1.size = H.size + 1 := by rw [← hH1, Array.size_push]
  have e1 : H1[H.size]? = some (arrV (TY (ew_ct k)) n.toNatClampNeg (fun _ => .null)) := by rw [← hH1, Array.getElem?_push_size, ← arrV_new]
  have o1 : ∀ q : Nat, q < H.size → H1[q]? = H[q]? := fun q hq => by rw [← hH1, Array.getElem?_push, if_neg (Nat.ne_of_lt hq)]
  have key := kk H1 (er_made (z := ew_0) I (by omega) h2 hcst hnl hctr ⟨_, rfl, fun q z => by cases z⟩ hsl e1 z1 o1)
  rw [ew_al_self] at key
  exact key
end EA
