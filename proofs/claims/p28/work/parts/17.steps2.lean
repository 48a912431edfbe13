/-! One step, on both machines: branches, objects, arrays. -/
section ET
variable {p : Program} {l : Launch} {e : Env} {R : Room} {s : State} {m : MethodId} {args : Array Value} {below : List Frame} {meth : Method} {c0 : Code} {Q : State → Prop}
variable {G : va_G} {TY : Nat → ClassId} {sz : Nat} {H0 : Heap} {NW : List Cond} {Wd : State → Prop} {d y : Nat} {hS hE : ew_H} {aS : Nat → Nat → Nat}
variable {pc nx tg : Nat} {cv : Int32} {ls : List (Option ew_V)} {st : List ew_V} {h : ew_H}
/-- a branch -/
theorem es_br {P : Prop} {c1 c2 : ew_C} {c : ew_C} (h1 : c1.2.2.2 = c.2.2.2) (h2 : c2.2.2.2 = c.2.2.2) (l1 : c1.2.1 = c.2.1) (l2 : c2.2.1 = c.2.1) (w1 : (∀ v ∈ c.2.2.1, ew_wf c.2.2.2 v) → ∀ v ∈ c1.2.2.1, ew_wf c.2.2.2 v) (w2 : (∀ v ∈ c.2.2.1, ew_wf c.2.2.2 v) → ∀ v ∈ c2.2.2.1, ew_wf c.2.2.2 v)
    (hs : ∀ (a : Nat → Nat → Nat) (H : Heap) (locs : List Loc) (cells slots : Nat) (L : Array Slot), (P → W p l e R s m args below meth c0 H locs cells slots Q (F0 m c1.1 L (c1.2.2.1.map (ew_c a)))) → (¬ P → W p l e R s m args below meth c0 H locs cells slots Q (F0 m c2.1 L (c2.2.2.1.map (ew_c a)))) → W p l e R s m args below meth c0 H locs cells slots Q (F0 m c.1 L (c.2.2.1.map (ew_c a))))
    (k1 : P → ew_Q p l e R s m args below meth c0 G TY sz H0 Q y hS hE aS c1) (k2 : ¬ P → ew_Q p l e R s m args below meth c0 G TY sz H0 Q y hS hE aS c2) : ew_Q p l e R s m args below meth c0 G TY sz H0 Q y hS hE aS c := by
  obtain ⟨pc, ls, st, h⟩ := c
  obtain ⟨pc1, ls1, st1, hh1⟩ := c1
  obtain ⟨pc2, ls2, st2, hh2⟩ := c2
  dsimp only at h1 h2 l1 l2 w1 w2 hs
  subst h1; subst h2; subst l1; subst l2
  intro hle
  refine ⟨?_, fun a H locs cells slots L hSt => ?_⟩
  · by_cases e : P
    · exact (k1 e hle).1
    · exact (k2 e hle).1
  · obtain ⟨s1, s2, s3, s4, s5, s6, s7, s8, s9⟩ := hSt
    exact hs a H locs cells slots L (fun e => (k1 e hle).2 a H locs cells slots L ⟨s1, s2, s3, s4, s5, w1 s6, s7, s8, s9⟩) (fun e => (k2 e hle).2 a H locs cells slots L ⟨s1, s2, s3, s4, s5, w2 s6, s7, s8, s9⟩)
abbrev ew_Kb (p : Program) (l : Launch) (e : Env) (R : Room) (s : State) (m : MethodId) (args : Array Value) (below : List Frame) (meth : Method) (c0 : Code) (G : va_G) (TY : Nat → ClassId) (sz : Nat) (H0 : Heap) (Q : State → Prop) (y : Nat) (hS hE : ew_H) (aS : Nat → Nat → Nat) (P : Prop) (c c1 c2 : ew_C) : Prop :=
  (P → ew_Q p l e R s m args below meth c0 G TY sz H0 Q y hS hE aS c1) → (¬ P → ew_Q p l e R s m args below meth c0 G TY sz H0 Q y hS hE aS c2) → ew_Q p l e R s m args below meth c0 G TY sz H0 Q y hS hE aS c
theorem es_if {o : Jvm.ClassFile.Cond} {off : Int} {x : Int32} (ht : (pc : Int) + off = (tg : Int)) (hx : p.tables.exec = Jvm.exec) (hb : c0.code = ew_cd y) (hd : decode (ew_cd y) pc = .ok (.ifCond o off, 3)) :
    ew_Kb p l e R s m args below meth c0 G TY sz H0 Q y hS hE aS (ew_c1 o x) (pc, ls, ew_i x :: st, h) (tg, ls, st, h) (pc + 3, ls, st, h) :=
  es_br rfl rfl rfl rfl es_tail es_tail (fun a H locs cells slots L k1 k2 => by
    cases o with
    | eq => exact lv_if_eq hx hb hd ht k1 k2
    | ne => exact lv_if_ne hx hb hd ht k1 (fun z => k2 (fun q => q z))
    | lt => exact lv_if_lt hx hb hd ht k1 k2
    | ge => exact lv_if_ge hx hb hd ht k1 k2
    | gt => exact lv_if_gt hx hb hd ht k1 k2
    | le => exact lv_if_le hx hb hd ht k1 k2)
theorem es_icmp {o : Jvm.ClassFile.Cond} {off : Int} {x z : Int32} (ht : (pc : Int) + off = (tg : Int)) (hx : p.tables.exec = Jvm.exec) (hb : c0.code = ew_cd y) (hd : decode (ew_cd y) pc = .ok (.if_icmp o off, 3)) :
    ew_Kb p l e R s m args below meth c0 G TY sz H0 Q y hS hE aS (ew_c2 o x z) (pc, ls, ew_i z :: ew_i x :: st, h) (tg, ls, st, h) (pc + 3, ls, st, h) :=
  es_br rfl rfl rfl rfl (fun w => es_tail (es_tail w)) (fun w => es_tail (es_tail w)) (fun a H locs cells slots L k1 k2 => by
    cases o with
    | eq => exact lv_icmp_eq hx hb hd ht k1 k2
    | ne => exact lv_icmp_ne hx hb hd ht k1 (fun z => k2 (fun q => q z))
    | lt => exact lv_icmp_lt hx hb hd ht k1 k2
    | ge => exact lv_icmp_ge hx hb hd ht k1 k2
    | gt => exact lv_icmp_gt hx hb hd ht k1 k2
    | le => exact lv_icmp_le hx hb hd ht k1 k2)
theorem es_lcmp {x z : Int64} (hx : p.tables.exec = Jvm.exec) (hb : c0.code = ew_cd y) (hd : decode (ew_cd y) pc = .ok (.lcmp, 1)) :
    ew_Kb p l e R s m args below meth c0 G TY sz H0 Q y hS hE aS (x = z) (pc, ls, ew_j z :: ew_j x :: st, h) (pc + 1, ls, ew_i 0 :: st, h) (pc + 1, ls, ew_i (if x < z then -1 else 1) :: st, h) :=
  es_br rfl rfl rfl rfl (fun w => es_cons trivial (es_tail (es_tail w))) (fun w => es_cons trivial (es_tail (es_tail w))) (fun a H locs cells slots L k1 k2 => by
    refine W.lcmp hx hb hd ?_
    by_cases e : x = z
    · subst e
      rw [show lg_cmp x x = 0 by simp [lg_cmp]]
      exact k1 rfl
    · have hne : ¬ x.toInt = z.toInt := fun q => e (Int64.toInt_inj.mp q)
      by_cases e2 : z < x
      · rw [show lg_cmp x z = 1 by simp [lg_cmp, e2]]
        have := k2 e
        rw [if_neg (by rw [Int64.lt_iff_toInt_lt] at e2 ⊢; omega)] at this
        exact this
      · rw [show lg_cmp x z = -1 by simp [lg_cmp, e2, e]]
        have := k2 e
        rw [if_pos (by rw [Int64.lt_iff_toInt_lt] at e2 ⊢; omega)] at this
        exact this)
theorem es_acmp {off : Int} {k i i' : Nat} (ht : (pc : Int) + off = (tg : Int)) (hx : p.tables.exec = Jvm.exec) (hb : c0.code = ew_cd y) (hd : decode (ew_cd y) pc = .ok (.if_acmp .eq off, 3)) (hii : i = i') :
    ew_K p l e R s m args below meth c0 G TY sz H0 Q y hS hE aS (pc, ls, ew_o k i' :: ew_o k i :: st, h) (tg, ls, st, h) := by
  subst hii
  refine es_st (fun w => fun w2 => es_tail (es_tail w2)) (fun a H locs cells slots L I w hL kk => ?_)
  exact lv_acmp_eq (rx := some (a k i)) (ry := some (a k i)) hx hb hd ht (fun _ => kk) (fun z => absurd rfl z)
theorem es_acmpN {off : Int} {k i k' i' : Nat} (ht : (pc : Int) + off = (tg : Int)) (hx : p.tables.exec = Jvm.exec) (hb : c0.code = ew_cd y) (hd : decode (ew_cd y) pc = .ok (.if_acmp .eq off, 3)) (hk : ¬ k = k') (h1 : ¬ k = 31) (h2 : ¬ k' = 31) :
    ew_K p l e R s m args below meth c0 G TY sz H0 Q y hS hE aS (pc, ls, ew_o k' i' :: ew_o k i :: st, h) (pc + 3, ls, st, h) := by
  refine es_st (fun w => fun w2 => es_tail (es_tail w2)) (fun a H locs cells slots L I w hL kk => ?_)
  have w1 := (es_hd w).resolve_left h2
  have w2 := (es_hd (es_tail w)).resolve_left h1
  exact lv_acmp_eq (rx := some (a k i)) (ry := some (a k' i')) hx hb hd ht (fun z => absurd (I.2.1 _ _ _ _ w2 w1 (Option.some.inj z)).1 hk) (fun _ => kk)
/-- a step that writes into an object -/
theorem es_wr {pc' : Nat} {st' : List ew_V} {h' : ew_H} (e2 : h'.2 = h.2) (hwl : (∀ v ∈ st, ew_wf h v) → ∀ v ∈ st', ew_wf h v)
    (hs : ∀ (a : Nat → Nat → Nat) (H : Heap) (locs : List Loc) (cells slots : Nat) (L : Array Slot), ew_I G TY sz H0 a h H → (∀ v ∈ st, ew_wf h v) → L.size = et_mx y → (∀ q ∈ locs, sz ≤ q.base) → (∀ (H1 : Heap) (locs1 : List Loc), (∀ q ∈ locs1, sz ≤ q.base) → ew_I G TY sz H0 a h' H1 → W p l e R s m args below meth c0 H1 locs1 cells slots Q (F0 m pc' L (st'.map (ew_c a)))) → W p l e R s m args below meth c0 H locs cells slots Q (F0 m pc L (st.map (ew_c a))))
    (k : ew_Q p l e R s m args below meth c0 G TY sz H0 Q y hS hE aS (pc', ls, st', h')) : ew_Q p l e R s m args below meth c0 G TY sz H0 Q y hS hE aS (pc, ls, st, h) := by
  have le1 : ew_le h h' := ⟨fun k i z => by rw [e2]; exact z, by rw [e2]; exact Nat.le_refl _, by rw [e2]; exact Nat.le_refl _⟩
  intro hle
  obtain ⟨k1, k2⟩ := k (hle.tr le1)
  refine ⟨le1.tr k1, fun a H locs cells slots L hSt => ?_⟩
  obtain ⟨s1, s2, s3, s4, s5, s6, s7, s8, s9⟩ := hSt
  refine hs a H locs cells slots L s2 s6 s3.1 s7 (fun H1 locs1 hl1 I1 => k2 a H1 locs1 cells slots L ⟨s1, I1, s3, s4, fun v z => (s5 v z).le le1, fun v z => (hwl s6 v z).le le1, hl1, ?_, ?_⟩)
  · rw [s8, e2]
  · rw [s9, e2]
/-- a step that makes an object -/
theorem es_mk {pc' k i N : Nat} {z : Nat → ew_V} {st0 : List ew_V} (hk31 : ¬ k = 31) (hn : ∀ {a H}, ew_I G TY sz H0 a h H → h.2.2.1 k i = false) (hwl : (∀ v ∈ st, ew_wf h v) → ∀ v ∈ st0, ew_wf h v)
    (hs : ∀ (a : Nat → Nat → Nat) (H : Heap) (locs : List Loc) (cells slots : Nat) (L : Array Slot), ew_I G TY sz H0 a h H → (∀ v ∈ st, ew_wf h v) → cells + 1 + hS.2.2.2.2.1 ≤ hE.2.2.2.2.1 → slots + N + hS.2.2.2.2.2 ≤ hE.2.2.2.2.2 → (∀ H1 : Heap, ew_I G TY sz H0 (ew_al a k i H.size) (ew_mk h k i N z) H1 → W p l e R s m args below meth c0 H1 locs (cells + 1) (slots + N) Q (F0 m pc' L (Value.ref (ew_al a k i H.size k i) :: st0.map (ew_c a)))) → W p l e R s m args below meth c0 H locs cells slots Q (F0 m pc L (st.map (ew_c a))))
    (kq : ew_Q p l e R s m args below meth c0 G TY sz H0 Q y hS hE aS (pc', ls, ew_o k i :: st0, ew_mk h k i N z)) : ew_Q p l e R s m args below meth c0 G TY sz H0 Q y hS hE aS (pc, ls, st, h) := by
  have le1 := ew_mk_le h k i N z
  intro hle
  obtain ⟨k1, k2⟩ := kq (hle.tr le1)
  refine ⟨le1.tr k1, fun a H locs cells slots L hSt => ?_⟩
  obtain ⟨s1, s2, s3, s4, s5, s6, s7, s8, s9⟩ := hSt
  have hex : ew_ex h a (ew_al a k i H.size) := ew_ex.al hk31 (hn s2)
  have c1 : cells + 1 + hS.2.2.2.2.1 ≤ hE.2.2.2.2.1 := by
    have := k1.2.1
    have e1 : (ew_mk h k i N z).2.2.2.2.1 = h.2.2.2.2.1 + 1 := rfl
    dsimp only at this s8
    omega
  have c2 : slots + N + hS.2.2.2.2.2 ≤ hE.2.2.2.2.2 := by
    have := k1.2.2
    have e1 : (ew_mk h k i N z).2.2.2.2.2 = h.2.2.2.2.2 + N := rfl
    dsimp only at this s9
    omega
  refine hs a H locs cells slots L s2 s6 c1 c2 (fun H1 I1 => ?_)
  have key := k2 (ew_al a k i H.size) H1 locs (cells + 1) (slots + N) L ⟨s1.tr hle hex, I1, ?_, s4, fun v q => (s5 v q).le le1, es_cons (Or.inr (ew_mk_lself h k i N z)) (fun v q => (hwl s6 v q).le le1), s7, ?_, ?_⟩
  · rw [List.map_cons, hex.map (hwl s6)] at key
    exact key
  · refine ⟨s3.1, s3.2.1, fun q hq => ?_⟩
    obtain ⟨j, v, e1, rfl⟩ := (ew_lp_mem ls 0 q).mp hq
    rw [hex.c (s5 v (es_mem e1))]
    exact s3.2.2 _ ((ew_lp_mem ls 0 _).mpr ⟨j, v, e1, rfl⟩)
  · show cells + 1 + hS.2.2.2.2.1 = h.2.2.2.2.1 + 1
    dsimp only at s8
    omega
  · show slots + N + hS.2.2.2.2.2 = h.2.2.2.2.2 + N
    dsimp only at s9
    omega
end ET
