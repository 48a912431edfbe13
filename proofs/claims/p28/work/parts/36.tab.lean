/-! What is told of the tables, out of their checks. -/
theorem ev_cn {α : Type} {b : Bool} {o : Option α} {q : α} (h : cond b o none = some q) : b = true ∧ o = some q := by
  cases b with
  | true => exact ⟨rfl, h⟩
  | false => cases h
theorem ev_bd {α : Type} {a b c d : Nat} {o : Option α} {q : α} (h : cond (Nat.blt a b && Nat.blt c d) o none = some q) : a < b ∧ c < d := by
  have := (ev_cn h).1
  rw [Bool.and_eq_true] at this
  exact ⟨Nat.le_of_ble_eq_true this.1, Nat.le_of_ble_eq_true this.2⟩
theorem ev_okr {y : Nat} {i : Instr} (h : ex_okr y i = true) : ew_okr y i := by
  unfold ex_okr at h
  unfold ew_okr
  split at h
  · simp only [Bool.or_eq_true, Bool.and_eq_true, decide_eq_true_eq, Bool.not_eq_true'] at h
    exact h
  · exact of_decide_eq_true h
  · exact of_decide_eq_true h
  · split at h
    · rename_i t e; exact ⟨_, e, Or.inl ⟨_, rfl⟩⟩
    · rename_i t e; exact ⟨_, e, Or.inr ⟨_, rfl⟩⟩
    · cases h
  · exact of_decide_eq_true h
  · split <;> first | trivial | (rename_i a1 a2 a3 a4 a5 _; first | exact absurd rfl a1 | exact absurd rfl a2 | exact absurd rfl a3 | exact absurd rfl a4 | exact absurd rfl a5)
theorem ev_T1 {y x : Nat} {q : Instr × Nat × Nat × Int32} (h : ew_pg y x = some q) : ew_okb (ew_cd y) x q = true ∧ x < 65535 ∧ ew_okr y q.1 ∧ plainName (ew_nm y).cls = true ∧ ew_on (et_cls y) = (ew_nm y).cls ∧ (et_ini y = true → (ew_nm y).name = "<init>") := by
  obtain ⟨h1, h2⟩ := ev_bd h
  have hc := ev_pg_ok y h1 x h2
  unfold ex_ck at hc
  rw [h] at hc
  dsimp only at hc
  rw [Bool.and_eq_true] at hc
  have hn := ev_ny_ok y h1
  unfold ev_ny at hn
  rw [ew_bne (show ¬ et_ln y = 0 by omega), Bool.false_or] at hn
  simp only [Bool.and_eq_true, decide_eq_true_eq, Bool.or_eq_true, Bool.not_eq_true'] at hn
  obtain ⟨⟨⟨n1, n2⟩, n3⟩, n4⟩ := hn
  have n4 := Nat.le_of_ble_eq_true n4
  refine ⟨hc.1, by omega, ev_okr hc.2, n1, n2, fun hi => ?_⟩
  rcases n3 with n3 | n3
  · rw [hi] at n3; cases n3
  · exact n3
theorem ev_clp {ci : Nat} {r : vw_C} (hr : vwCl[ci]? = some r) : r.1 = ew_on ci ∧ ew_ClP ci r ∧ Cond.instantiable r.1 r.2.2 ∈ ew_TW ∧ Cond.initialized r.1 ∈ ew_TW := by
  have hcl : vwCl.length = 17 := rfl
  have hlt : ci < 17 := by
    rw [← hcl]
    exact (List.getElem?_eq_some_iff.mp hr).1
  have h := ev_cl_ok ci hlt
  unfold ev_cl at h
  rw [hr] at h
  simp only [Bool.and_eq_true, decide_eq_true_eq, List.all_eq_true, List.mem_range] at h
  obtain ⟨⟨⟨⟨h1, h2⟩, h3⟩, h4⟩, h5⟩ := h
  refine ⟨h3, ⟨fun u hu => ?_, ⟨fun k => (parseFieldDescriptor (r.2.1 k).2.2.1).getD .int, fun k hk => ?_⟩, fun a ha b hb hab e => ?_, ew_beq h2, fun s => ?_⟩, ex_lk_ok h4, ex_lk_ok h5⟩
  · obtain ⟨k, hk, rfl⟩ := List.mem_map.mp hu
    exact ex_lk_ok (h1 k (List.mem_range.mp hk)).1.1
  · have := (h1 k hk).1.2
    split at this
    · rename_i ty hty
      show parseFieldDescriptor (r.2.1 k).2.2.1 = some ((parseFieldDescriptor (r.2.1 k).2.2.1).getD .int) ∧ ew_c (fun _ _ => 0) (et_dv ci k) = defaultValue ((parseFieldDescriptor (r.2.1 k).2.2.1).getD .int)
      rw [hty]
      refine ⟨rfl, ?_⟩
      show ew_c (fun _ _ => 0) (et_dv ci k) = defaultValue ty
      unfold ex_df at this
      split at this
      · rename_i x y e1 e2
        rw [e1, e2, of_decide_eq_true this]
      · rename_i e1 e2
        rw [e1, e2]
      · cases this
    · cases this
  · have := (h1 b hb).2 a ha
    rw [Bool.or_eq_true] at this
    rcases this with q | q
    · exact hab (ew_beq q)
    · rw [Bool.not_eq_true', decide_eq_false_iff_not] at q
      exact q e.symm
  · unfold et_dv
    cases et_dr ci s
    · exact ⟨.int 0, rfl, fun q z => by cases z⟩
    · exact ⟨.null, rfl, fun q z => by cases z⟩
theorem ev_tyP {o : Option FieldType} {t : Nat} (h : ex_ty o t = true) : ∃ ty, o = some ty ∧ ew_tyP t ty := by
  unfold ex_ty at h
  split at h
  · exact ⟨_, rfl, Or.inl ⟨rfl, rfl⟩⟩
  · exact ⟨_, rfl, Or.inr (Or.inl ⟨rfl, rfl⟩)⟩
  · exact ⟨_, rfl, Or.inr (Or.inr (Or.inl ⟨rfl, Or.inl ⟨_, rfl⟩⟩))⟩
  · exact ⟨_, rfl, Or.inr (Or.inr (Or.inl ⟨rfl, Or.inr ⟨_, rfl⟩⟩))⟩
  · exact ⟨_, rfl, Or.inr (Or.inr (Or.inr ⟨rfl, rfl⟩))⟩
  · cases h
theorem ev_T2 {cl x : Nat} {q : Nat × Nat × Nat} (hq : et_fd cl x = some q) : ew_FdP ev_NW (ew_on cl) x q.1 q.2.1 q.2.2 ∧ q.1 < 17 ∧ (et_fn cl x = false → ew_FdP [] (ew_on cl) x q.1 q.2.1 q.2.2) := by
  obtain ⟨h1, h2⟩ := ev_bd hq
  have h := ev_fd_ok cl h1 x h2
  obtain ⟨ci, s, t⟩ := q
  unfold ev_fd at h
  rw [hq] at h
  dsimp only at h ⊢
  rw [Bool.and_eq_true] at h
  obtain ⟨h3, h4⟩ := h
  split at h4
  · cases h4
  rename_i r hr
  simp only [Bool.and_eq_true, decide_eq_true_eq, Bool.or_eq_true, Bool.not_eq_true'] at h4
  obtain ⟨⟨⟨⟨a1, a2⟩, a3⟩, a4⟩, a5⟩ := h4
  have a1 : s < r.2.2 := Nat.le_of_ble_eq_true a1
  have a4' : et_fin ci s = true → (r.2.1 s).1 = r.1 := fun e => by
    rcases a4 with a4 | a4
    · rw [e] at a4; cases a4
    · exact a4
  have hcl := (ev_clp hr).2.1
  have key : (et_fn cl x = true → ∃ host, Cond.fieldLinkNest (ew_on cl) x (r.2.1 s).1 (r.2.1 s).2.1 (r.2.1 s).2.2.1 host ∈ ev_NW) ∧ (et_fn cl x = false → ∃ ref, Cond.fieldLink (ew_on cl) x ref (r.2.1 s).2.1 (r.2.1 s).2.2.1 ∈ ew_TW ∧ ((r.2.1 s).1 = ref ∨ Cond.sameField ref (r.2.1 s).1 (r.2.1 s).2.1 (r.2.1 s).2.2.1 ∈ ew_TW)) := by
    cases hf : et_fn cl x with
    | true =>
      rw [hf, cond_true] at a5
      refine ⟨fun _ => ?_, fun e => (by cases e)⟩
      obtain ⟨u, u1, u2⟩ := List.any_eq_true.mp a5
      split at u2
      · rename_i host
        rw [of_decide_eq_true u2] at u1
        exact ⟨host, u1⟩
      · cases u2
    | false =>
      rw [hf, cond_false] at a5
      refine ⟨fun e => (by cases e), fun _ => ?_⟩
      split at a5
      · rename_i o x' ref n d hat
        simp only [Bool.and_eq_true, decide_eq_true_eq, Bool.or_eq_true] at a5
        obtain ⟨⟨⟨⟨⟨b1, b2⟩, b3⟩, b4⟩, b5⟩, b6⟩ := a5
        have b6 := ex_lk_ok b6
        rw [b1, ew_beq b2, b3, b4] at b6
        refine ⟨ref, b6, b5.imp id ex_lk_ok⟩
      · cases a5
  refine ⟨⟨r, hr, a1, ev_tyP a2, hcl, a3, a4', ?_⟩, Nat.le_of_ble_eq_true h3, fun hf => ⟨r, hr, a1, ev_tyP a2, hcl, a3, a4', Or.inl (key.2 hf)⟩⟩
  cases hf : et_fn cl x with
  | true => exact Or.inr (key.1 hf)
  | false => exact Or.inl (key.2 hf)
theorem ev_T4 {cl x c : Nat} (hq : et_nw cl x = some c) : (c < 17 → Cond.classLink (ew_on cl) x (ew_on c) ∈ ew_TW) ∧ (c = 17 → Cond.classLink (ew_on cl) x "[I" ∈ ew_TW) ∧ (c = 90 → Cond.classLink (ew_on cl) x "java/lang/Object" ∈ ew_TW) := by
  obtain ⟨h1, h2⟩ := ev_bd hq
  have h := ev_nw_ok cl h1 x h2
  unfold ev_nw at h
  rw [hq] at h
  simp only [Bool.and_eq_true, Bool.or_eq_true, Bool.not_eq_true'] at h
  obtain ⟨⟨a1, a2⟩, a3⟩ := h
  refine ⟨fun e => ?_, fun e => ?_, fun e => ?_⟩
  · rcases a1 with a1 | a1
    · rw [show Nat.blt c 17 = true from Nat.ble_eq_true_of_le e] at a1; cases a1
    · exact ex_lk_ok a1
  · rcases a2 with a2 | a2
    · rw [e] at a2; cases a2
    · exact ex_lk_ok a2
  · rcases a3 with a3 | a3
    · rw [e] at a3; cases a3
    · exact ex_lk_ok a3
theorem ev_pl {m : MethodName} (h : ex_pl m = true) : m.cls ≠ "java/lang/invoke/MethodHandle" ∧ m.cls ≠ "java/lang/invoke/VarHandle" := by
  unfold ex_pl at h
  simp only [Bool.and_eq_true, Bool.not_eq_true', decide_eq_false_iff_not] at h
  exact h
theorem ev_ds {m : MethodName} {n : Nat} (h : ex_ds m n = true) : (parseMethodDescriptor m.desc).map (fun d => d.parameters.length) = some n := by
  unfold ex_ds at h
  split at h
  · rename_i d hd
    rw [hd]
    exact congrArg some (ew_beq h)
  · cases h
theorem ev_ypp {z : Nat} (hu : ex_us z = true) (hw : et_wr z = false) : ew_YP z := by
  have hz : z < 243 := by
    unfold ex_us at hu
    rw [Bool.and_eq_true] at hu
    exact Nat.le_of_ble_eq_true hu.1
  have h := ev_yy_ok z hz
  unfold ev_yy at h
  rw [hu, hw, Bool.not_true, Bool.false_or, cond_false] at h
  unfold ev_yp at h
  simp only [Bool.and_eq_true] at h
  obtain ⟨⟨⟨h1, h2⟩, h3⟩, h4⟩ := h
  refine ⟨(ex_cz_ok z hz hu).1 hw, ex_lk_ok h1, ev_pl h2, Nat.le_of_ble_eq_true h3, fun hk => ?_, fun hk => ?_, fun hk => ?_⟩
  · rw [hk] at h4; exact ex_lk_ok h4
  · rw [hk] at h4; exact ex_lk_ok h4
  · rw [hk] at h4
    have h4 : (ex_lk (ex_st z) (.instanceMethod (ew_nm z)) && decide ((ew_nm z).name = "<init>") && decide (ew_rt z = none)) = true := h4
    simp only [Bool.and_eq_true, decide_eq_true_eq] at h4
    exact ⟨ex_lk_ok h4.1.1, h4.1.2, h4.2⟩
theorem ev_yww {z : Nat} (hu : ex_us z = true) (hw : et_wr z = true) : ew_YW z := by
  have hz : z < 243 := by
    unfold ex_us at hu
    rw [Bool.and_eq_true] at hu
    exact Nat.le_of_ble_eq_true hu.1
  have h := ev_yy_ok z hz
  unfold ev_yy at h
  rw [hu, hw, Bool.not_true, Bool.false_or, cond_true] at h
  unfold ev_yw at h
  simp only [Bool.and_eq_true] at h
  obtain ⟨⟨⟨h1, h2⟩, h3⟩, h4⟩ := h
  exact ⟨(ex_cz_ok z hz hu).2 hw, ex_lk_ok h1, ev_pl h2, Nat.le_of_ble_eq_true h3, ex_lk_ok h4⟩
/-- an entry of the table of methods -/
theorem ev_T5 {cl x z n c : Nat} (hq : et_md cl x = some (z, n, c)) :
    (z < 900 → et_wr z = false → ew_YP z ∧ (et_if cl x = false → ew_LP ev_NW (ew_on cl) x z n ∧ (et_kd z = 1 → c < 17 ∧ (ew_nm z).cls = ew_on c ∧ Cond.selects (ew_nm z).cls (ew_nm z) (ew_nm z) ∈ ew_TW) ∧ (ew_th z = true → Cond.methodLink (ew_on cl) x (ew_nm z) ∈ ew_TW)) ∧
      (et_if cl x = true → c < 17 ∧ et_kd z = 1 ∧ Cond.methodLink (ew_on cl) x (ex_xn cl x) ∈ ew_TW ∧ Cond.selects (ew_on c) (ex_xn cl x) (ew_nm z) ∈ ew_TW ∧ (ex_xn cl x).cls ≠ "java/lang/invoke/MethodHandle" ∧ (ex_xn cl x).cls ≠ "java/lang/invoke/VarHandle" ∧ (parseMethodDescriptor (ex_xn cl x).desc).map (fun d => d.parameters.length) = some n)) ∧
    (z = 900 → Cond.methodLink (ew_on cl) x Lib.Math.max.name ∈ ew_TW) ∧ (z = 901 → Cond.methodLink (ew_on cl) x Lib.Math.min.name ∈ ew_TW) ∧ (z = 902 → Cond.methodLink (ew_on cl) x Lib.Math.abs.name ∈ ew_TW) ∧ (z = 903 → Cond.methodLink (ew_on cl) x arraycopyName ∈ ew_TW) ∧ (z = 904 → n = 0 ∧ Cond.methodLink (ew_on cl) x objectInit ∈ ew_TW) ∧
    ((et_wr z = true → et_kd z = 0 ∧ 185 ≤ z) ∧ (900 ≤ z → et_kd z = 9) ∧ (et_if cl x = true → z < 900 ∧ et_wr z = false ∧ 185 ≤ z)) ∧
    (et_wr z = true → ew_YW z ∧ (parseMethodDescriptor (ew_nm z).desc).map (fun d => d.parameters.length) = some n ∧ Cond.methodLink (ew_on cl) x (ew_nm z) ∈ ew_TW) := by
  obtain ⟨h1, h2⟩ := ev_bd hq
  have h := ev_md_ok cl h1 x h2
  unfold ev_md at h
  rw [hq] at h
  dsimp only at h
  cases h9 : Nat.ble 900 z with
  | true =>
    have h9' := Nat.le_of_ble_eq_true h9
    rw [h9, cond_true] at h
    simp only [Bool.and_eq_true, Bool.not_eq_true'] at h
    obtain ⟨⟨⟨⟨b1, b2⟩, b3⟩, b4⟩, b5⟩ := h
    refine ⟨fun e => by omega, fun e => ?_, fun e => ?_, fun e => ?_, fun e => ?_, fun e => ?_, ⟨fun e => (by rw [b3] at e; cases e), fun _ => ew_beq b1, fun e => (by rw [b2] at e; cases e)⟩, fun e => (by rw [b3] at e; cases e)⟩
    · subst e; exact ex_lk_ok b5
    · subst e; exact ex_lk_ok b5
    · subst e; exact ex_lk_ok b5
    · subst e; exact ex_lk_ok b5
    · subst e
      have b5 : (Nat.beq n 0 && ex_lk (ex_lw cl x) (.methodLink (ew_on cl) x objectInit)) = true := b5
      rw [Bool.and_eq_true] at b5
      exact ⟨ew_beq b5.1, ex_lk_ok b5.2⟩
  | false =>
    have h9' : z < 900 := Nat.lt_of_not_le fun q => by rw [Nat.ble_eq_true_of_le q] at h9; cases h9
    rw [h9, cond_false] at h
    cases hw : et_wr z with
    | true =>
      rw [hw, cond_true] at h
      simp only [Bool.and_eq_true, Bool.not_eq_true'] at h
      obtain ⟨⟨⟨⟨⟨b1, b2⟩, b3⟩, b4⟩, b5⟩, b6⟩ := h
      refine ⟨fun _ e => (by cases e), fun e => by omega, fun e => by omega, fun e => by omega, fun e => by omega, fun e => by omega, ⟨fun _ => ⟨ew_beq b1, Nat.le_of_ble_eq_true b2⟩, fun e => by omega, fun e => (by rw [b3] at e; cases e)⟩, fun _ => ⟨ev_yww b4 hw, ev_ds b5, ex_lk_ok b6⟩⟩
    | false =>
      rw [hw, cond_false, Bool.and_eq_true] at h
      obtain ⟨b1, b2⟩ := h
      cases hf : et_if cl x with
      | true =>
        rw [hf, cond_true] at b2
        simp only [Bool.and_eq_true] at b2
        obtain ⟨⟨⟨⟨⟨⟨c1, c2⟩, c3⟩, c4⟩, c5⟩, c6⟩, c7⟩ := b2
        have c1 : c < 17 := Nat.le_of_ble_eq_true c1
        have c3 := Nat.le_of_ble_eq_true c3
        have c6 := ev_pl c6
        exact ⟨fun _ _ => ⟨ev_ypp b1 hw, fun e => (by cases e), fun _ => ⟨c1, ew_beq c2, ex_lk_ok c4, ex_lk_ok c5, c6.1, c6.2, ev_ds c7⟩⟩, fun e => by omega, fun e => by omega, fun e => by omega, fun e => by omega, fun e => by omega, ⟨fun e => (by cases e), fun e => by omega, fun _ => ⟨h9', rfl, c3⟩⟩, fun e => (by cases e)⟩
      | false =>
        rw [hf, cond_false] at b2
        simp only [Bool.and_eq_true, Bool.or_eq_true, Bool.not_eq_true', decide_eq_true_eq] at b2
        obtain ⟨⟨c1, c2⟩, c3⟩ := b2
        refine ⟨fun _ _ => ⟨ev_ypp b1 hw, fun _ => ⟨?_, fun hk => ?_, fun ht => ?_⟩, fun e => (by cases e)⟩, fun e => by omega, fun e => by omega, fun e => by omega, fun e => by omega, fun e => by omega, ⟨fun e => (by cases e), fun e => by omega, fun e => (by cases e)⟩, fun e => (by cases e)⟩
        · unfold ex_LP at c1
          simp only [Bool.and_eq_true, Bool.or_eq_true] at c1
          obtain ⟨c4, c5⟩ := c1
          refine ⟨?_, ev_ds c5⟩
          rcases c4 with c4 | c4
          · exact Or.inl (ex_lk_ok c4)
          · obtain ⟨u, u1, u2⟩ := List.any_eq_true.mp c4
            split at u2
            · rename_i host
              rw [of_decide_eq_true u2] at u1
              exact Or.inr ⟨host, u1⟩
            · cases u2
        · rcases c2 with c2 | ⟨⟨c2, c4⟩, c5⟩
          · rw [hk] at c2; cases c2
          · exact ⟨Nat.le_of_ble_eq_true c2, c4, ex_lk_ok c5⟩
        · rcases c3 with c3 | c3
          · rw [ht] at c3; cases c3
          · exact ex_lk_ok c3
