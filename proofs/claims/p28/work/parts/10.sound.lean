/-! The small machine's objects in the machine's heap. -/
def ew_ty (t : Nat) : FieldType := match t with
  | 17 => .int
  | 18 => .boolean
  | 19 => .int
  | 20 => .array .int
  | 21 => .object "ChannelWinter$Breaker"
  | 22 => .object "ChannelWinter$Cell"
  | 23 => .object "ChannelWinter$Port"
  | _ => .object "ChannelWinter$Ship"
def ew_cellX (G : va_G) (TY : Nat → ClassId) (a : Nat → Nat → Nat) (h : ew_H) (k i : Nat) (H : Heap) : Prop :=
  (ew_ct k < 17 → ∃ r : vw_C, vwCl[ew_ct k]? = some r ∧ t_OB (a k i) (G.1 (ew_ct k)) r.2.2 (G.2 (ew_ct k)) H (fun s => ew_c a (h.1 k i s))) ∧
  (17 ≤ ew_ct k → ew_ct k < 25 → H[a k i]? = some (arrV (TY (ew_ct k)) (ew_len h k i) (fun s => ew_c a (h.1 k i s))))
/-- the class of arrays that were there: the script's and BEARS' own -/
def ew_tc (TY : Nat → ClassId) (k : Nat) : ClassId := bif Nat.beq k 17 || Nat.beq k 49 then TY (100 + k) else TY (ew_ct k)
/-- what nobody writes: only what reading it gives -/
def ew_cellC (G : va_G) (TY : Nat → ClassId) (a : Nat → Nat → Nat) (h : ew_H) (k i : Nat) (H : Heap) : Prop := ∃ cell : Cell, H[a k i]? = some cell ∧ (cell.vm ≠ .unknown ∧ cell.vm.isStatics = false) ∧
  (ew_ct k < 17 → ∃ r : vw_C, vwCl[ew_ct k]? = some r ∧ cell.cls = G.1 (ew_ct k) ∧ ∀ s, s < r.2.2 → cell.slots[G.2 (ew_ct k) s]? = some (ew_c a (h.1 k i s))) ∧
  (17 ≤ ew_ct k → ew_ct k < 25 → cell.cls = ew_tc TY k ∧ (ew_len h k i ≤ cell.slots.size ∧ cell.slots.size.toInt32 = Int32.ofNat (ew_len h k i)) ∧ ∀ j, j < ew_len h k i → cell.slots[j]? = some (ew_c a (h.1 k i j)))
def ew_cell (G : va_G) (TY : Nat → ClassId) (a : Nat → Nat → Nat) (h : ew_H) (k i : Nat) (H : Heap) : Prop := (ew_cst k = false → ew_cellX G TY a h k i H) ∧ (ew_cst k = true → ew_cellC G TY a h k i H)
theorem ew_cell.of {G : va_G} {TY : Nat → ClassId} {a : Nat → Nat → Nat} {h : ew_H} {k i : Nat} {H : Heap} (hc : ew_cst k = false) (x : ew_cellX G TY a h k i H) : ew_cell G TY a h k i H := ⟨fun _ => x, fun z => by rw [hc] at z; cases z⟩
/-- v is a number, null, or an object that is there -/
def ew_wf (h : ew_H) (v : ew_V) : Prop := match v with
  | .inl (.ref _) => False
  | .inl _ => True
  | .inr q => q.1 = 31 ∨ h.2.2.1 q.1 q.2 = true
/-- .. of those that may lie in objects -/
def ew_wh (h : ew_H) (v : ew_V) : Prop := match v with
  | .inl (.ref _) => False
  | .inl _ => True
  | .inr q => h.2.2.1 q.1 q.2 = true
theorem ew_wh.wf {h : ew_H} {v : ew_V} (w : ew_wh h v) : ew_wf h v := by
  rcases v with v | q
  · cases v <;> exact w
  · exact Or.inr w
theorem ew_wh_of {h : ew_H} {v : ew_V} {t : Nat} (w : ew_wf h v) (f : ew_fit t v) : ew_wh h v := by
  rcases v with v | q
  · cases v <;> exact w
  · rcases w with w | w
    · exfalso
      unfold ew_fit at f
      split at f
      · rename_i e; cases e
      · rename_i e; cases e
      · rename_i e
        cases e
        rw [w] at f
        exact absurd f (by decide)
      · rename_i e; cases e
      · rename_i e; cases e
      · exact f
    · exact w
/-- the heap H holds the objects of h at their places a; below sz nothing has moved since H0 -/
def ew_I (G : va_G) (TY : Nat → ClassId) (sz : Nat) (H0 : Heap) (a : Nat → Nat → Nat) (h : ew_H) (H : Heap) : Prop :=
  (∀ k i, h.2.2.1 k i = true → ew_cell G TY a h k i H ∧ a k i < H.size ∧ (ew_cst k = false → sz ≤ a k i) ∧ ew_ct k < 25) ∧
  (∀ k i k' i', h.2.2.1 k i = true → h.2.2.1 k' i' = true → a k i = a k' i' → k = k' ∧ i = i') ∧
  (∀ k i s, h.2.2.1 k i = true → ew_wh h (h.1 k i s)) ∧
  (∀ k i, ew_ctr k = true → h.2.2.2.1 k ≤ i → h.2.2.1 k i = false) ∧
  sz ≤ H.size ∧ ∀ q : Nat, q < sz → H[q]? = H0[q]?
def ew_le (h h' : ew_H) : Prop := (∀ k i, h.2.2.1 k i = true → h'.2.2.1 k i = true) ∧ h.2.2.2.2.1 ≤ h'.2.2.2.2.1 ∧ h.2.2.2.2.2 ≤ h'.2.2.2.2.2
theorem ew_le.rf (h : ew_H) : ew_le h h := ⟨fun _ _ e => e, Nat.le_refl _, Nat.le_refl _⟩
theorem ew_le.tr {h h' h'' : ew_H} (x : ew_le h h') (y : ew_le h' h'') : ew_le h h'' := ⟨fun k i e => y.1 k i (x.1 k i e), Nat.le_trans x.2.1 y.2.1, Nat.le_trans x.2.2 y.2.2⟩
theorem ew_wf.le {h h' : ew_H} {v : ew_V} (w : ew_wf h v) (l : ew_le h h') : ew_wf h' v := by
  rcases v with v | q
  · cases v <;> first | exact w | exact trivial
  · rcases w with w | w
    · exact Or.inl w
    · exact Or.inr (l.1 _ _ w)
theorem ew_wh.le {h h' : ew_H} {v : ew_V} (w : ew_wh h v) (l : ew_le h h') : ew_wh h' v := by
  rcases v with v | q
  · cases v <;> first | exact w | exact trivial
  · exact l.1 _ _ w
/-- the locals by their places -/
def ew_lp (a : Nat → Nat → Nat) (n : Nat) (ls : List (Option ew_V)) : List (Nat × Value) := match ls with
  | [] => []
  | some v :: l => (n, ew_c a v) :: ew_lp a (n + 1) l
  | none :: l => ew_lp a (n + 1) l
theorem ew_lp_mem {a : Nat → Nat → Nat} : ∀ (ls : List (Option ew_V)) (n : Nat) (q : Nat × Value), q ∈ ew_lp a n ls ↔ ∃ j v, ls[j]? = some (some v) ∧ q = (n + j, ew_c a v)
  | [], n, q => by simp [ew_lp]
  | some v :: l, n, q => by
    rw [ew_lp, List.mem_cons, ew_lp_mem l (n + 1) q]
    constructor
    · rintro (rfl | ⟨j, w, h, rfl⟩)
      · exact ⟨0, v, rfl, rfl⟩
      · exact ⟨j + 1, w, h, by rw [Nat.add_right_comm, Nat.add_assoc]⟩
    · rintro ⟨j, w, h, rfl⟩
      cases j with
      | zero => cases h; exact Or.inl rfl
      | succ j => exact Or.inr ⟨j, w, h, by rw [Nat.add_right_comm, Nat.add_assoc]⟩
  | none :: l, n, q => by
    rw [ew_lp, ew_lp_mem l (n + 1) q]
    constructor
    · rintro ⟨j, w, h, rfl⟩
      exact ⟨j + 1, w, h, by rw [Nat.add_right_comm, Nat.add_assoc]⟩
    · rintro ⟨j, w, h, rfl⟩
      cases j with
      | zero => cases h
      | succ j => exact ⟨j, w, h, by rw [Nat.add_right_comm, Nat.add_assoc]⟩
theorem ew_lp_at {a : Nat → Nat → Nat} {ls : List (Option ew_V)} {L : Array Slot} {nL j : Nat} {v : ew_V} (hl : lv_has L nL (ew_lp a 0 ls)) (h : ls[j]? = some (some v)) : L[j]? = some (.val (ew_c a v)) := by
  have := hl.2.2 (0 + j, ew_c a v) ((ew_lp_mem ls 0 _).mpr ⟨j, v, h, rfl⟩)
  rw [Nat.zero_add] at this
  exact this
theorem ew_c_cat (a : Nat → Nat → Nat) (v : ew_V) : (ew_c a v).category = ew_cat v := by
  rcases v with v | q <;> rfl
theorem ew_clr_mem {a : Nat → Nat → Nat} {ls : List (Option ew_V)} {i j : Nat} {v : ew_V} (h : (ew_clr ls i)[j]? = some (some v)) : ls[j]? = some (some v) ∧ ¬ (j + 1 = i ∧ ew_cat v = 2) := by
  unfold ew_clr at h
  cases i with
  | zero => exact ⟨h, fun e => by omega⟩
  | succ n =>
    dsimp only at h
    split at h
    · rename_i w hw
      cases hc : Nat.beq (ew_cat w) 2 with
      | true =>
        rw [hc, cond_true] at h
        by_cases e : j = n
        · subst e
          rw [List.getElem?_set] at h
          simp at h
        · rw [List.getElem?_set_ne (Ne.symm e)] at h
          exact ⟨h, fun q => e (by omega)⟩
      | false =>
        rw [hc, cond_false] at h
        refine ⟨h, fun q => ?_⟩
        have e : j = n := by omega
        subst e
        rw [hw] at h
        cases h
        rw [q.2] at hc
        cases hc
    · rename_i hn
      refine ⟨h, fun q => ?_⟩
      have e : j = n := by omega
      subst e
      exact hn _ h
theorem ew_clr_len (ls : List (Option ew_V)) (i : Nat) : (ew_clr ls i).length = ls.length := by
  unfold ew_clr
  cases i with
  | zero => rfl
  | succ n =>
    dsimp only
    split
    · rename_i w hw
      cases hc : Nat.beq (ew_cat w) 2 with
      | true => rw [cond_true, List.length_set]
      | false => rw [cond_false]
    · rfl
theorem ew_st1_has {a : Nat → Nat → Nat} {ls : List (Option ew_V)} {L : Array Slot} {nL i : Nat} {v : ew_V}
    (h : lv_has L nL ((i, ew_c a v) :: (ew_lp a 0 ls).filter (fun q => !(q.1 == i) && !(q.1 + 1 == i && q.2.category == 2)))) : lv_has L nL (ew_lp a 0 (ew_st1 ls i v)) := by
  refine ⟨h.1, h.2.1, fun q hq => h.2.2 q ?_⟩
  obtain ⟨j, w, e1, rfl⟩ := (ew_lp_mem _ 0 q).mp hq
  unfold ew_st1 at e1
  by_cases e : i = j
  · subst e
    rw [List.getElem?_set] at e1
    split at e1
    · split at e1
      · cases e1
        rw [Nat.zero_add]
        exact List.mem_cons_self
      · cases e1
    · rename_i hne
      exact absurd rfl hne
  · rw [List.getElem?_set_ne e] at e1
    obtain ⟨e2, e3⟩ := ew_clr_mem (a := a) e1
    refine List.mem_cons_of_mem _ (List.mem_filter.mpr ⟨(ew_lp_mem _ 0 _).mpr ⟨j, w, e2, rfl⟩, ?_⟩)
    simp only [Nat.zero_add, ew_c_cat, Bool.and_eq_true, Bool.not_eq_true', beq_eq_false_iff_ne, ne_eq, Bool.and_eq_false_iff]
    refine ⟨fun q => e q.symm, ?_⟩
    by_cases e4 : j + 1 = i
    · exact Or.inr (fun q => e3 ⟨e4, q⟩)
    · exact Or.inl e4
theorem ew_st2_has {a : Nat → Nat → Nat} {ls : List (Option ew_V)} {L : Array Slot} {nL i : Nat} {v : ew_V}
    (h : lv_has L nL ((i, ew_c a v) :: (ew_lp a 0 ls).filter (fun q => !(q.1 == i) && (!(q.1 == i + 1) && !(q.1 + 1 == i && q.2.category == 2))))) : lv_has L nL (ew_lp a 0 (ew_st2 ls i v)) := by
  refine ⟨h.1, h.2.1, fun q hq => h.2.2 q ?_⟩
  obtain ⟨j, w, e1, rfl⟩ := (ew_lp_mem _ 0 q).mp hq
  unfold ew_st2 at e1
  by_cases e0 : i + 1 = j
  · subst e0
    rw [List.getElem?_set] at e1
    split at e1
    · split at e1 <;> cases e1
    · rename_i hne
      exact absurd rfl hne
  rw [List.getElem?_set_ne e0] at e1
  by_cases e : i = j
  · subst e
    rw [List.getElem?_set] at e1
    split at e1
    · split at e1
      · cases e1
        rw [Nat.zero_add]
        exact List.mem_cons_self
      · cases e1
    · rename_i hne
      exact absurd rfl hne
  · rw [List.getElem?_set_ne e] at e1
    obtain ⟨e2, e3⟩ := ew_clr_mem (a := a) e1
    refine List.mem_cons_of_mem _ (List.mem_filter.mpr ⟨(ew_lp_mem _ 0 _).mpr ⟨j, w, e2, rfl⟩, ?_⟩)
    simp only [Nat.zero_add, ew_c_cat, Bool.and_eq_true, Bool.not_eq_true', beq_eq_false_iff_ne, ne_eq, Bool.and_eq_false_iff]
    refine ⟨fun q => e q.symm, fun q => e0 q.symm, ?_⟩
    by_cases e4 : j + 1 = i
    · exact Or.inr (fun q => e3 ⟨e4, q⟩)
    · exact Or.inl e4
