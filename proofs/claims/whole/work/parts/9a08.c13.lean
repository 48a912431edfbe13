/-! Ports are made in one place only: calls of all other methods leave their number. -/
def ew_e13 (h h' : ew_H) : Prop := h'.2.2.2.1 13 = h.2.2.2.1 13
theorem ew_e13.rf (h : ew_H) : ew_e13 h h := rfl
theorem ew_e13.tr {h h' h'' : ew_H} (a : ew_e13 h h') (b : ew_e13 h' h'') : ew_e13 h h'' := Eq.trans b a
theorem ew_mk_13 (h : ew_H) {k : Nat} (i N : Nat) (z : Nat → ew_V) (hk : ¬ k = 13) : ew_e13 h (ew_mk h k i N z) := em_cn h i N z (fun e => hk e.symm)
theorem et_c13 {b : Bool} {x y : Nat} (hx : ¬ x = 13) (hy : ¬ y = 13) : ¬ cond b x y = 13 := by
  cases b
  · exact hy
  · exact hx
theorem et_si13 {y pc : Nat} (hy : ¬ y = 153) : ¬ et_si y pc = 13 := by
  unfold et_si
  rw [ew_bne hy]
  simp only [cond_false]
  repeat' (first | refine et_c13 ?_ ?_ | decide)
theorem et_kn13 {y pc : Nat} {ls : List (Option ew_V)} (hy : ¬ y = 153) : ¬ ew_kn y (et_si y pc) ls = 13 := by
  unfold ew_kn
  refine et_c13 ?_ (et_si13 hy)
  split
  · exact et_c13 (by decide) (by decide)
  · exact et_si13 hy
def et_m13 (cl x : Nat) : Bool := match et_md cl x with
  | some q => !(Nat.beq q.1 153) && !(Nat.beq (et_cls q.1) 40)
  | none => true
theorem et_m13_ok : ∀ cl, cl < 50 → cl = 40 ∨ ∀ x, x < 400 → et_m13 cl x = true := by decide +kernel
theorem ex_md13 {cl x : Nat} {q : Nat × Nat × Nat} (hc : ¬ cl = 40) (h : et_md cl x = some q) : ¬ q.1 = 153 ∧ ¬ et_cls q.1 = 40 := by
  obtain ⟨h1, h2⟩ := ev_bd h
  have := (et_m13_ok cl h1).resolve_left hc x h2
  unfold et_m13 at this
  rw [h] at this
  simp only [Bool.and_eq_true, Bool.not_eq_true'] at this
  refine ⟨fun e => ?_, fun e => ?_⟩
  · rw [e] at this; exact absurd this.1 (by decide)
  · rw [e] at this; exact absurd this.2 (by decide)
section GA
theorem ew_put_13 (h : ew_H) (k i s : Nat) (v : ew_V) : ew_e13 h (ew_put h k i s v) := rfl
theorem ew_cpy_13 (h : ew_H) (k i s n : Nat) (f : Nat → ew_V) : ew_e13 h (ew_cpy h k i s n f) := rfl
theorem ew_pay_13 (h : ew_H) (c s : Nat) : ew_e13 h (ew_pay h c s) := rfl
abbrev ew_U3 (h : ew_H) (n : ew_N) : Prop := match n with
  | none => True
  | some (.inl c') => ew_e13 h c'.2.2.2
  | some (.inr (.inl (_, a, b))) => ew_e13 h a.2.2.2 ∧ ew_e13 h b.2.2.2
  | some (.inr (.inr (.inl (_, a)))) => ew_e13 h a.2.2.2
  | some (.inr (.inr (.inr (.inl (z, _, _, _))))) => ¬ z = 153 ∧ ¬ et_cls z = 40
  | some (.inr (.inr (.inr (.inr (.inl (_, _, h1)))))) => ew_e13 h h1
  | some (.inr (.inr (.inr (.inr (.inr (_, _, l', dd)))))) => (∀ c ∈ l', ew_e13 h c.2.2.2) ∧ ew_e13 h dd.2.2.2
theorem e3_if {h : ew_H} {b : Bool} {x : ew_N} (g : ew_U3 h x) : ew_U3 h (bif b then x else none) := by
  cases b
  · exact trivial
  · exact g
theorem e3_fi {h : ew_H} {b : Bool} {x : ew_N} (g : ew_U3 h x) : ew_U3 h (bif b then none else x) := by
  cases b
  · exact g
  · exact trivial
theorem e3_el {h : ew_H} {b : Bool} {x y : ew_N} (g : ew_U3 h x) (g' : ew_U3 h y) : ew_U3 h (bif b then x else y) := by
  cases b
  · exact g'
  · exact g
variable {ls : List (Option ew_V)} {st : List ew_V} {h : ew_H} {nx : Nat}
theorem e3_ld (t k : Nat) : ew_U3 h (ew_ld t ls st h nx k) := by
  unfold ew_ld
  split
  · exact e3_if ((ew_e13.rf h))
  · trivial
theorem e3_sto (t k : Nat) : ew_U3 h (ew_sto t ls st h nx k) := by
  unfold ew_sto
  split
  · exact e3_if (e3_el (e3_if ((ew_e13.rf h))) (e3_if ((ew_e13.rf h))))
  · trivial
theorem e3_bin (f : Int32 → Int32 → Int32) : ew_U3 h (ew_bin f ls st h nx) := by
  unfold ew_bin
  split
  · exact (ew_e13.rf h)
  · trivial
theorem e3_binl (f : Int64 → Int64 → Int64) : ew_U3 h (ew_binl f ls st h nx) := by
  unfold ew_binl
  split
  · exact (ew_e13.rf h)
  · trivial
theorem e3_ald (t : Nat) : ew_U3 h (ew_ald t ls st h nx) := by
  unfold ew_ald
  split
  · exact e3_if ((ew_e13.rf h))
  · trivial
theorem e3_ast (t : Nat) : ew_U3 h (ew_ast t ls st h nx) := by
  unfold ew_ast
  split
  · exact e3_if (ew_put_13 _ _ _ _ _)
  · trivial
theorem e3_newa {k : Nat} (hk : ¬ k = 13) (z : ew_V) : ew_U3 h (ew_newa k z ls st h nx) := by
  unfold ew_newa
  split
  · exact ew_mk_13 _ _ _ _ hk
  · trivial
theorem e3_grow : ew_U3 h (ew_grow ls st h nx) := by
  unfold ew_grow
  split
  · split
    · exact e3_if (ew_mk_13 _ _ _ _ (by omega))
    · trivial
  · trivial
theorem e3_copy : ew_U3 h (ew_copy ls st h nx) := by
  unfold ew_copy
  split
  · exact e3_if (ew_cpy_13 _ _ _ _ _ _)
  · trivial
theorem ew_st_13 {y cl : Nat} (hy : ¬ y = 153) (hcl : ¬ cl = 40) (i : Instr) (pc tg : Nat) (cv : Int32) : ew_U3 h (ew_st y cl i pc nx tg cv ls st h) := by
  cases i <;> try exact trivial
  case newarray at' => cases at' <;> first | exact trivial | exact e3_if (e3_newa (et_kn13 hy) _) | exact e3_if (e3_newa (et_si13 hy) _)
  case if_acmp o q =>
    cases o
    · dsimp only [ew_st]
      split
      · exact e3_el ((ew_e13.rf h)) (e3_fi ((ew_e13.rf h)))
      · trivial
    · trivial
  all_goals first | exact (ew_e13.rf h) | exact e3_ld _ _ | exact e3_sto _ _ | exact e3_bin _ | exact e3_binl _ | exact e3_ald _ | exact e3_ast _ | exact e3_if ((ew_e13.rf h)) | skip
  all_goals dsimp only [ew_st]
  case new =>
    split
    · exact e3_el (e3_if (ew_mk_13 _ _ _ _ (et_si13 hy))) (e3_if (ew_pay_13 _ _ _))
    · trivial
  case anewarray =>
    split
    · exact e3_el (e3_if e3_grow) (e3_if (e3_newa (et_si13 hy) _))
    · trivial
  case invokestatic =>
    split
    · rename_i hq
      refine e3_el (e3_el (e3_if (e3_bin _)) (e3_el (e3_if (e3_bin _)) (e3_el e3_copy (e3_if ?_)))) (e3_if (ex_md13 hcl hq))
      split
      · exact e3_if (ew_e13.rf h)
      · trivial
    · trivial
  case invokevirtual =>
    split
    · rename_i hq
      split
      · exact e3_if (ex_md13 hcl hq)
      · trivial
    · trivial
  case invokeinterface =>
    split
    · rename_i hq
      split
      · exact e3_if (ex_md13 hcl hq)
      · trivial
    · trivial
  case tableswitch =>
    split
    · refine ⟨fun c hc => ?_, (ew_e13.rf h)⟩
      obtain ⟨o, -, rfl⟩ := List.mem_map.mp hc
      exact (ew_e13.rf h)
    · trivial
  case invokespecial =>
    split
    · rename_i hq
      split
      · exact e3_el (e3_if (ew_e13.rf h)) (e3_if (ex_md13 hcl hq))
      · trivial
    · trivial
  all_goals (repeat' (first | exact trivial | exact (ew_e13.rf h) | exact ⟨(ew_e13.rf h), (ew_e13.rf h)⟩ | exact e3_if ((ew_e13.rf h)) | exact e3_if (ew_put_13 _ _ _ _ _) | exact e3_if trivial | split))
theorem ew_sw_13 {h h' : ew_H} (x : Int32) (dd : ew_C) : ∀ (l : List ew_C) (v : Int32), (∀ c ∈ l, ew_e13 h c.2.2.2) → ew_e13 h dd.2.2.2 → ew_sw (fun c => ew_e13 c.2.2.2 h') x v l dd → ew_e13 h h'
  | [], _, _, h2, g => h2.tr g
  | c :: l, v, h1, h2, g => by
    by_cases e : x = v
    · exact (h1 c List.mem_cons_self).tr (g.1 e)
    · exact ew_sw_13 x dd l (v + 1) (fun c hc => h1 c (List.mem_cons_of_mem _ hc)) h2 (g.2 e)
theorem ew_In_13 {y : Nat} {as : List ew_V} {h h' : ew_H} {r : ew_R} (g : ew_In y as h (fun r1 h1 => r1 = r ∧ h1 = h')) : ew_e13 h h' := by
  unfold ew_In at g
  cases h1 : Nat.beq y 185 with
  | true =>
    rw [h1, cond_true] at g
    split at g
    · rw [← g.2.2]; exact (ew_e13.rf h)
    · exact g.elim
  | false =>
    rw [h1, cond_false] at g
    cases h2 : Nat.beq y 203 with
    | true =>
      rw [h2, cond_true] at g
      split at g
      · split at g
        · split at g
          · rw [← g.2.2]; exact ew_mk_13 _ _ _ _ (by decide)
          · exact g.elim
        · exact g.elim
      · exact g.elim
    | false =>
      rw [h2, cond_false] at g
      exact g.elim
theorem ew_Call_13 : ∀ (d z : Nat) (as : List ew_V) (h h' : ew_H) (r : ew_R), ¬ z = 153 → ¬ et_cls z = 40 → ew_Call d z as h (fun r1 h1 => r1 = r ∧ h1 = h') → ew_e13 h h'
  | 0, _, _, _, _, _, _, _, g => g.elim
  | d + 1, z, as, h, h', r, hz, hzc, g => by
    rcases g with ⟨r0, h0, w, rfl, rfl⟩ | g
    · refine w (fun c => ew_e13 c.2.2.2 h0) (fun c gg => ?_)
      unfold ew_G at gg
      cases h1 : ew_pg z c.1 with
      | none => simp only [h1] at gg
      | some q =>
        obtain ⟨i, nx, tg, cv⟩ := q
        simp only [h1] at gg
        have hs := ew_st_13 (h := c.2.2.2) (ls := c.2.1) (st := c.2.2.1) (nx := nx) hz hzc i c.1 tg cv
        cases h2 : ew_st z (et_cls z) i c.1 nx tg cv c.2.1 c.2.2.1 c.2.2.2 with
        | none => simp only [h2] at gg
        | some n =>
          simp only [h2] at gg
          rw [h2] at hs
          rcases n with c' | ⟨p, a, b⟩ | ⟨p, a⟩ | ⟨z', as', rest, nx'⟩ | ⟨p, r1, h1'⟩ | ⟨x, v, l, dd⟩
          · exact hs.tr gg
          · by_cases e : p
            · exact hs.1.tr (gg.1 e)
            · exact hs.2.tr (gg.2 e)
          · exact hs.tr gg.2
          · obtain ⟨r2, h2', g1, g2⟩ := ew_Call_get gg
            refine (ew_Call_13 d _ _ _ _ _ hs.1 hs.2 g1).tr ?_
            rcases r2 with v2 | x2
            · exact g2
            · obtain ⟨-, g2⟩ := g2
              cases h3 : ew_hd z c.1 x2 with
              | none => simp only [h3] at g2; rw [g2.2]; exact ew_e13.rf _
              | some t => simp only [h3] at g2; exact g2
          · rw [← gg.2.2]; exact hs
          · exact ew_sw_13 x dd l v hs.1 hs.2 gg
    · exact ew_In_13 g
theorem ew_c13 {d z : Nat} {as : List ew_V} {h : ew_H} {K : ew_R → ew_H → Prop} (hz : ¬ z = 153) (hc : ¬ et_cls z = 40) (g : ew_Call d z as h (fun r h' => ew_e13 h h' → K r h')) : ew_Call d z as h K := by
  obtain ⟨r, h', g1, g2⟩ := ew_Call_get g
  refine ew_Call_mono d _ _ _ _ _ (fun r1 h1 e => ?_) g1
  obtain ⟨rfl, rfl⟩ := e
  exact g2 (ew_Call_13 d _ _ _ _ _ hz hc g1)
end GA
