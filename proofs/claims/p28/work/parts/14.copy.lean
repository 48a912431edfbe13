/-! System.arraycopy and casts. -/
section EC
variable {p : Program} {l : Launch} {e : Env} {R : Room} {s : State} {m : MethodId} {args : Array Value} {below : List Frame} {meth : Method} {c : Code} {H : Heap} {locs : List Loc} {cells slots : Nat} {Q : State → Prop}
variable {G : va_G} {TY : Nat → ClassId} {sz : Nat} {H0 : Heap} {a : Nat → Nat → Nat} {h : ew_H} {cc : ByteArray} {pc : Nat} {L : Array Slot} {rest : List Value} {own : String} {k i : Nat}
def ew_AS (TY : Nat → ClassId) (G : va_G) (s : State) : Prop := ∀ k k' i', ew_asg k (.inr (k', i')) = true → ew_asP TY G s k k'
theorem er_cast (hx : p.tables.exec = Jvm.exec) (hb : c.code = cc) (hown : s.vm.findClass own = some m.cls) (hK : va_K G vwCl [] s) (I : ew_I G TY sz H0 a h H) (hl : h.2.2.1 k i = true) (h1 : ew_ct k < 17) {x : Nat} {r : vw_C} (hr : vwCl[ew_ct k]? = some r) (hlk : (Cond.classLink own x r.1).before args s = true) (hdg : decode cc pc = .ok (.checkcast x, 3))
    (kk : W p l e R s m args below meth c H locs cells slots Q (F0 m (pc + 3) L (.ref (a k i) :: rest))) : W p l e R s m args below meth c H locs cells slots Q (F0 m pc L (.ref (a k i) :: rest)) := by
  obtain ⟨r', cell, hr', q1, q2, q3, -⟩ := er_rdO I hl h1
  cases hr.symm.trans hr'
  have hcl := (hK.1 _ _ hr).2
  exact va_castS hx hb hown hlk hcl ⟨cell, q1, q3.2, by rw [q2]; exact hcl.1⟩ hdg kk
theorem er_castA (hx : p.tables.exec = Jvm.exec) (hb : c.code = cc) (hown : s.vm.findClass own = some m.cls) (I : ew_I G TY sz H0 a h H) (hl : h.2.2.1 k i = true) (hcst : ew_cst k = false) (h1 : 17 ≤ ew_ct k) (h2 : ew_ct k < 25) {x : Nat} {nm : String} (hlk : (Cond.classLink own x nm).before args s = true) (hnm : s.vm.findClass nm = some (TY (ew_ct k))) (hdg : decode cc pc = .ok (.checkcast x, 3))
    (kk : W p l e R s m args below meth c H locs cells slots Q (F0 m (pc + 3) L (.ref (a k i) :: rest))) : W p l e R s m args below meth c H locs cells slots Q (F0 m pc L (.ref (a k i) :: rest)) := by
  intro T hT X
  obtain ⟨vm', X', st⟩ := X.checkcastYes hx hown hlk (by rw [hT]; exact ((I.1 k i hl).1.1 hcst).2 h1 h2) rfl hnm (va_asg _ _) (g := F0 m pc L (.ref (a k i) :: rest)) rfl rfl (by rw [hb]; exact hdg)
  obtain ⟨t, a1, b1⟩ := kk (T.setVm vm') hT X'
  exact ⟨t, st t a1, b1⟩
end EC
