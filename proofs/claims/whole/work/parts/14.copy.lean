/-! System.arraycopy and casts. -/
section EC
variable {p : Program} {l : Launch} {e : Env} {R : Room} {s : State} {m : MethodId} {args : Array Value} {below : List Frame} {meth : Method} {c : Code} {H : Heap} {locs : List Loc} {cells slots : Nat} {Q : State → Prop}
variable {G : va_G} {TY : Nat → ClassId} {sz : Nat} {H0 : Heap} {a : Nat → Nat → Nat} {h : ew_H} {cc : ByteArray} {pc : Nat} {L : Array Slot} {rest : List Value} {own : String} {k i : Nat}
def ew_AS (TY : Nat → ClassId) (G : va_G) (s : State) : Prop := ∀ k k' i', ew_asg k (.inr (k', i')) = true → ew_asP TY G s k k'
theorem er_set {H : Heap} {a : Nat} {X : Cell} (h : a < H.size) : (H.setIfInBounds a X)[a]? = some X := by simp [Array.getElem?_setIfInBounds, h]
theorem er_copied {c1 c2 : Cell} {sp n : Int32} (h : c1.stretch sp.toNatClampNeg n.toNatClampNeg = c2.stretch sp.toNatClampNeg n.toNatClampNeg) (cd : Cell) (dp : Int32) : copied c1 cd sp dp n = copied c2 cd sp dp n := by
  unfold copied
  rw [h]
theorem er_copy (hx : p.tables.exec = Jvm.exec) (hb : c.code = cc) (hml : c.maxLocals = L.size) (hown : s.vm.findClass own = some m.cls) (hA : ew_AT TY s) (hO : ew_AS TY G s) {x : Nat} (hlink : (Cond.methodLink own x arraycopyName).before args s = true) (hnat : (Cond.native arraycopyName).before args s = true) (hstat : (Cond.static arraycopyName).before args s = true) (hini : (Cond.initialized "java/lang/System").before args s = true)
    (I : ew_I G TY sz H0 a h H) {k1 i1 k2 i2 : Nat} (hl1 : h.2.2.1 k1 i1 = true) (hl2 : h.2.2.1 k2 i2 = true) (hct : ew_ct k1 = ew_ct k2) (h3t : ew_ct k1 = 17 ∨ ew_ct k1 = 18 ∨ ew_ct k1 = 20) (hcst : ew_cst k2 = false) (hlocs : ∀ q ∈ locs, sz ≤ q.base)
    {sp dp n : Int32} (h1 : ¬ sp < 0) (h2 : ¬ dp < 0) (h3 : ¬ n < 0) (h4 : sp.toNatClampNeg + n.toNatClampNeg ≤ ew_len h k1 i1) (h5 : dp.toNatClampNeg + n.toNatClampNeg ≤ ew_len h k2 i2)
    (hf : ∀ j, j < n.toNatClampNeg → ew_fit (if ew_ct k1 = 17 then 0 else if ew_ct k1 = 18 then 1 else 2) (h.1 k1 i1 (sp.toNatClampNeg + j)))
    (hframes : 1 ≤ R.frames) (hlocals : (rest.map fun v => v.category).sum + (nativeFrameWords "java/lang/System" "arraycopy" 5 + 11) ≤ R.locals) (hdg : decode cc pc = .ok (.invokestatic x, 3))
    (kk : ∀ (H1 : Heap) (locs1 : List Loc), (∀ q ∈ locs1, sz ≤ q.base) → ew_I G TY sz H0 a (ew_cpy h k2 i2 dp.toNatClampNeg n.toNatClampNeg (fun j => h.1 k1 i1 (sp.toNatClampNeg + j))) H1 → W p l e R s m args below meth c H1 locs1 cells slots Q (F0 m (pc + 3) L rest)) :
    W p l e R s m args below meth c H locs cells slots Q (F0 m pc L (.int n :: .int dp :: .ref (a k2 i2) :: .int sp :: .ref (a k1 i1) :: rest)) := by
  have nn : ∀ z : Int32, ¬ z < 0 → z.toInt = (z.toNatClampNeg : Int) := by
    intro z hz
    have hz0 : (0 : Int) ≤ z.toInt := by
      have := Int32.not_lt.mp hz
      simpa using Int32.le_iff_toInt_le.mp this
    show z.toInt = ((z.toInt.toNat : Nat) : Int)
    omega
  have h17 : 17 ≤ ew_ct k1 := by rcases h3t with h | h | h <;> omega
  have h25 : ew_ct k1 < 25 := by rcases h3t with h | h | h <;> omega
  obtain ⟨cs, hc0, ⟨hs0, kS, hkS, cmS, hkkS⟩, hv0, hz0, hr0, -⟩ := er_rdA hA I hl1 h17 h25
  have hc1 := ((I.1 k2 i2 hl2).1.1 hcst).2 (by omega) (by omega)
  rw [← hct] at hc1
  obtain ⟨hAt, hRA⟩ := hA.1 _ h17 h25
  intro T hT X
  obtain ⟨-, k0, hk0, cm0, hkk0⟩ := hAt (ew_len h k1 i1) (fun s => ew_c a (h.1 k1 i1 s))
  have hgd : ∀ j, j < n.toNatClampNeg → cs.slots.getD (sp.toNatClampNeg + j) .null = ew_c a (h.1 k1 i1 (sp.toNatClampNeg + j)) := fun j hj => by
    rw [Array.getD_eq_getD_getElem?, hr0 _ (by omega)]
    rfl
  have hsl : cs.stretch sp.toNatClampNeg n.toNatClampNeg = (arrV (TY (ew_ct k1)) (ew_len h k1 i1) (fun s => ew_c a (h.1 k1 i1 s))).stretch sp.toNatClampNeg n.toNatClampNeg := by
    unfold Cell.stretch
    refine List.map_congr_left (fun j hj => ?_)
    have hj := List.mem_range.mp hj
    rw [hgd j hj, Array.getD_eq_getD_getElem?, arrV_read _ _ (by omega)]
    rfl
  obtain ⟨vm', X', step⟩ := X.arraycopy hx hown hlink hnat hstat hini (src := a k1 i1) (dst := a k2 i2) (cs := cs) (cd := arrV (TY (ew_ct k1)) (ew_len h k2 i2) (fun s => ew_c a (h.1 k2 i2 s))) (srcPos := sp) (destPos := dp) (n := n) (by rw [hT]; exact hc0) (by rw [hT]; exact hc1)
    hs0 (fun _ h => by cases h) hv0.1 (fun h => by cases h) hkS hk0 hkkS hkk0 (by rcases h3t with q | q | q <;> rw [q] <;> rfl) h1 h2 h3
    (by rw [nn sp h1, nn n h3]; have := hz0.1; omega)
    (by rw [nn dp h2, nn n h3, arrV_size]; omega)
    (fun vm₁ hal j hj => by
      rw [hgd j hj]
      have hfj := hf j hj
      rcases h3t with q | q | q
      · rw [if_pos q] at hfj
        rw [q]
        refine ⟨(ew_fits (Or.inl ⟨rfl, rfl⟩) hfj a).2, ?_⟩
        revert hfj
        generalize h.1 k1 i1 (sp.toNatClampNeg + j) = v
        intro hfj
        rcases v with v | v
        · cases v <;> first | exact hfj.elim | exact trivial
        · exact hfj.elim
      · rw [if_neg (by omega), if_pos q] at hfj
        rw [q]
        refine ⟨(ew_fits (Or.inr (Or.inl ⟨rfl, rfl⟩)) hfj a).2, ?_⟩
        revert hfj
        generalize h.1 k1 i1 (sp.toNatClampNeg + j) = v
        intro hfj
        rcases v with v | v
        · cases v <;> first | exact hfj.elim | exact trivial
        · exact hfj.elim
      · rw [if_neg (by omega), if_neg (by omega)] at hfj
        have hwf := I.2.2.1 k1 i1 (sp.toNatClampNeg + j) hl1
        revert hfj hwf
        generalize h.1 k1 i1 (sp.toNatClampNeg + j) = v
        intro hfj hwf
        rw [q]
        rcases v with v | ⟨k', i'⟩
        · cases v <;> first | exact hfj.elim | exact ⟨rfl, trivial⟩
        · · have hwf : h.2.2.1 k' i' = true := hwf
            have h25' := (I.1 k' i' hwf).2.2.2
            obtain ⟨cv, g1, g2, g3⟩ := er_cv hA I hwf hfj
            obtain ⟨C, hC⟩ := ew_ty20 (t := ew_ct k1) (by omega)
            rw [hC] at hRA
            obtain ⟨kA, comp, r1, r2, r3, -⟩ := hRA
            cases hk0.symm.trans r1
            rw [hC] at hkk0
            cases hkk0.symm.trans r2
            obtain ⟨⟨kc, hkc⟩, kv, hkv, hasg⟩ := hO k1 k' i' (by
              unfold ew_asg
              dsimp only
              rw [show Nat.beq (ew_ct k1) 20 = true by rw [q]; rfl, show Nat.blt (ew_ct k') 25 = true from Nat.ble_eq_true_of_le h25']
              rfl) _ _ _ r1 r2
            obtain ⟨kv', hkv', -⟩ := hal.2.2 _ _ hkv
            obtain ⟨kc', hkc', -⟩ := hal.2.2 _ _ hkc
            refine ⟨rfl, cv, (show T.heap[_]? = some cv by rw [hT]; exact g1), (fun q h => by rw [h] at g2; cases g2), ⟨kv', by rw [g3]; exact hkv'⟩, ⟨kc', hkc'⟩, ?_⟩
            show vm₁.assignable _ _ = true
            rw [hal.assignable, g3]
            exact hasg)
    (g := F0 m pc L (.int n :: .int dp :: .ref (a k2 i2) :: .int sp :: .ref (a k1 i1) :: rest)) rfl (by rw [hml]) (rest := rest) rfl (by rw [hb]; exact hdg) hframes (by show 2 * 0 + _ + _ ≤ _; omega)
  have e1 : copied cs (arrV (TY (ew_ct k1)) (ew_len h k2 i2) (fun s => ew_c a (h.1 k2 i2 s))) sp dp n = arrV (TY (ew_ct k1)) (ew_len h k2 i2) (fun s => ew_c a (va_cpy (h.1 k1 i1) (h.1 k2 i2) sp.toNatClampNeg dp.toNatClampNeg n.toNatClampNeg s)) := (er_copied hsl _ _).trans (va_copied (fun z => ew_c a z) _ _ _ _ h4)
  rw [e1] at X' step
  have hlt : a k2 i2 < H.size := (Array.getElem?_eq_some_iff.mp hc1).1
  have hI : ew_I G TY sz H0 a (ew_cpy h k2 i2 dp.toNatClampNeg n.toNatClampNeg (fun j => h.1 k1 i1 (sp.toNatClampNeg + j))) (H.setIfInBounds (a k2 i2) (arrV (TY (ew_ct k1)) (ew_len h k2 i2) (fun s => ew_c a (va_cpy (h.1 k1 i1) (h.1 k2 i2) sp.toNatClampNeg dp.toNatClampNeg n.toNatClampNeg s)))) := by
    refine ew_I_set I hl2 hcst rfl (fun k' i' s' ne => ew_cpy_ne h _ _ _ s' ne) (fun s' => ?_) (ew_cell.of hcst ⟨fun z => absurd z (by omega), fun _ _ => ?_⟩) (by simp) (fun q hq => by simp [Array.getElem?_setIfInBounds, Ne.symm hq])
    · rw [ew_cpy_in]
      split
      · exact I.2.2.1 _ _ _ hl1
      · exact I.2.2.1 _ _ _ hl2
    · rw [er_set hlt, hct]
      congr 2
      funext s'
      congr 1
      rw [ew_cpy_in]
      unfold va_cpy
      rfl
  obtain ⟨t, a1, b1⟩ := kk _ _ (fun q hq => by
      rcases List.mem_append.mp hq with z | z
      · exact hlocs q z
      · obtain ⟨z2, -, hz2⟩ := List.mem_map.mp z
        rw [← hz2]
        exact (I.1 k2 i2 hl2).2.2.1 hcst) hI _ (by rw [← hT]; rfl) X'
  exact ⟨t, step t a1, b1⟩
theorem er_cast (hx : p.tables.exec = Jvm.exec) (hb : c.code = cc) (hown : s.vm.findClass own = some m.cls) (hK : va_K G vwCl [] s) (I : ew_I G TY sz H0 a h H) (hl : h.2.2.1 k i = true) (h1 : ew_ct k < 17) {x : Nat} {r : vw_C} (hr : vwCl[ew_ct k]? = some r) (hlk : (Cond.classLink own x r.1).before args s = true) (hdg : decode cc pc = .ok (.checkcast x, 3))
    (kk : W p l e R s m args below meth c H locs cells slots Q (F0 m (pc + 3) L (.ref (a k i) :: rest))) : W p l e R s m args below meth c H locs cells slots Q (F0 m pc L (.ref (a k i) :: rest)) := by
  obtain ⟨r', cell, hr', q1, q2, q3, -⟩ := er_rdO I hl h1
  cases hr.symm.trans hr'
  have hcl := (hK.1 _ _ hr).2
  exact va_castS hx hb hown hlk hcl ⟨cell, q1, q3.2, by rw [q2]; exact hcl.1⟩ hdg kk
theorem er_castA (hx : p.tables.exec = Jvm.exec) (hb : c.code = cc) (hown : s.vm.findClass own = some m.cls) (I : ew_I G TY sz H0 a h H) (hl : h.2.2.1 k i = true) (hcst : ew_cst k = false) (h1 : 17 ≤ ew_ct k) (h2 : ew_ct k < 25) {x : Nat} {nm : String} (hlk : (Cond.classLink own x nm).before args s = true) (hnm : s.vm.findClass nm = some (TY (ew_ct k))) (hdg : decode cc pc = .ok (.checkcast x, 3))
    (kk : W p l e R s m args below meth c H locs cells slots Q (F0 m (pc + 3) L (.ref (a k i) :: rest))) : W p l e R s m args below meth c H locs cells slots Q (F0 m pc L (.ref (a k i) :: rest)) := by
  intro T hT X
  obtain ⟨vm', X', st⟩ := X.checkcastYes hx hown hlk (by rw [hT]; exact ((I.1 k i hl).1.1 hcst).2 h1 h2) rfl hnm (va_asg _ _) (g := F0 m pc L (.ref (a k i) :: rest)) rfl rfl (by rw [hb]; exact hdg)
  obtain ⟨t, a1, b1⟩ := kk (T.setVm vm') hT X'
  exact ⟨t, st t a1, b1⟩
end EC
