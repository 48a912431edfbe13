/-! Nobody makes a script: its length stands. -/
def ew_e17 (h h' : ew_H) : Prop := h'.2.1 17 = h.2.1 17
theorem ew_e17.rf (h : ew_H) : ew_e17 h h := rfl
theorem ew_e17.tr {h h' h'' : ew_H} (a : ew_e17 h h') (b : ew_e17 h' h'') : ew_e17 h h'' := Eq.trans b a
theorem ew_mk_17 (h : ew_H) {k : Nat} (i N : Nat) (z : Nat → ew_V) (hk : ¬ k = 17) : ew_e17 h (ew_mk h k i N z) := funext fun i' => by
  show (bif Nat.beq 17 k then (bif Nat.beq i' i then N else h.2.1 17 i') else h.2.1 17 i') = h.2.1 17 i'
  rw [ew_bne (fun e => hk e.symm), cond_false]
theorem et_c17 {b : Bool} {x y : Nat} (hx : ¬ x = 17) (hy : ¬ y = 17) : ¬ cond b x y = 17 := by
  cases b
  · exact hy
  · exact hx
theorem et_si17 {y pc : Nat} : ¬ et_si y pc = 17 := by
  unfold et_si
  repeat' (first | refine et_c17 ?_ ?_ | decide)
theorem et_kn17 {y pc : Nat} {ls : List (Option ew_V)} : ¬ ew_kn y (et_si y pc) ls = 17 := by
  unfold ew_kn
  refine et_c17 ?_ et_si17
  split
  · exact et_c17 (by decide) (by decide)
  · exact et_si17
section GA
theorem ew_put_17 (h : ew_H) (k i s : Nat) (v : ew_V) : ew_e17 h (ew_put h k i s v) := rfl
theorem ew_cpy_17 (h : ew_H) (k i s n : Nat) (f : Nat → ew_V) : ew_e17 h (ew_cpy h k i s n f) := rfl
theorem ew_pay_17 (h : ew_H) (c s : Nat) : ew_e17 h (ew_pay h c s) := rfl
abbrev ew_U7 (h : ew_H) (n : ew_N) : Prop := match n with
  | none => True
  | some (.inl c') => ew_e17 h c'.2.2.2
  | some (.inr (.inl (_, a, b))) => ew_e17 h a.2.2.2 ∧ ew_e17 h b.2.2.2
  | some (.inr (.inr (.inl (_, a)))) => ew_e17 h a.2.2.2
  | some (.inr (.inr (.inr (.inl _)))) => True
  | some (.inr (.inr (.inr (.inr (.inl (_, _, h1)))))) => ew_e17 h h1
  | some (.inr (.inr (.inr (.inr (.inr (_, _, l', dd)))))) => (∀ c ∈ l', ew_e17 h c.2.2.2) ∧ ew_e17 h dd.2.2.2
theorem e7_if {h : ew_H} {b : Bool} {x : ew_N} (g : ew_U7 h x) : ew_U7 h (bif b then x else none) := by
  cases b
  · exact trivial
  · exact g
theorem e7_fi {h : ew_H} {b : Bool} {x : ew_N} (g : ew_U7 h x) : ew_U7 h (bif b then none else x) := by
  cases b
  · exact g
  · exact trivial
theorem e7_el {h : ew_H} {b : Bool} {x y : ew_N} (g : ew_U7 h x) (g' : ew_U7 h y) : ew_U7 h (bif b then x else y) := by
  cases b
  · exact g'
  · exact g
variable {ls : List (Option ew_V)} {st : List ew_V} {h : ew_H} {nx : Nat}
theorem e7_ld (t k : Nat) : ew_U7 h (ew_ld t ls st h nx k) := by
  unfold ew_ld
  split
  · exact e7_if ((ew_e17.rf h))
  · trivial
theorem e7_sto (t k : Nat) : ew_U7 h (ew_sto t ls st h nx k) := by
  unfold ew_sto
  split
  · exact e7_if (e7_el (e7_if ((ew_e17.rf h))) (e7_if ((ew_e17.rf h))))
  · trivial
theorem e7_bin (f : Int32 → Int32 → Int32) : ew_U7 h (ew_bin f ls st h nx) := by
  unfold ew_bin
  split
  · exact (ew_e17.rf h)
  · trivial
theorem e7_binl (f : Int64 → Int64 → Int64) : ew_U7 h (ew_binl f ls st h nx) := by
  unfold ew_binl
  split
  · exact (ew_e17.rf h)
  · trivial
theorem e7_ald (t : Nat) : ew_U7 h (ew_ald t ls st h nx) := by
  unfold ew_ald
  split
  · exact e7_if ((ew_e17.rf h))
  · trivial
theorem e7_ast (t : Nat) : ew_U7 h (ew_ast t ls st h nx) := by
  unfold ew_ast
  split
  · exact e7_if (ew_put_17 _ _ _ _ _)
  · trivial
theorem e7_newa {k : Nat} (hk : ¬ k = 17) (z : ew_V) : ew_U7 h (ew_newa k z ls st h nx) := by
  unfold ew_newa
  split
  · exact ew_mk_17 _ _ _ _ hk
  · trivial
theorem e7_grow : ew_U7 h (ew_grow ls st h nx) := by
  unfold ew_grow
  split
  · split
    · exact e7_if (ew_mk_17 _ _ _ _ (by omega))
    · trivial
  · trivial
theorem e7_copy : ew_U7 h (ew_copy ls st h nx) := by
  unfold ew_copy
  split
  · exact e7_if (ew_cpy_17 _ _ _ _ _ _)
  · trivial
theorem ew_st_17 {y cl : Nat} (i : Instr) (pc tg : Nat) (cv : Int32) : ew_U7 h (ew_st y cl i pc nx tg cv ls st h) := by
  cases i <;> try exact trivial
  case newarray at' => cases at' <;> first | exact trivial | exact e7_if (e7_newa et_kn17 _) | exact e7_if (e7_newa et_si17 _)
  case if_acmp o q =>
    cases o
    · dsimp only [ew_st]
      split
      · exact e7_el ((ew_e17.rf h)) (e7_fi ((ew_e17.rf h)))
      · trivial
    · trivial
  all_goals first | exact (ew_e17.rf h) | exact e7_ld _ _ | exact e7_sto _ _ | exact e7_bin _ | exact e7_binl _ | exact e7_ald _ | exact e7_ast _ | exact e7_if ((ew_e17.rf h)) | skip
  all_goals dsimp only [ew_st]
  case new =>
    split
    · exact e7_el (e7_if (ew_mk_17 _ _ _ _ et_si17)) (e7_if (ew_pay_17 _ _ _))
    · trivial
  case anewarray =>
    split
    · exact e7_el (e7_if e7_grow) (e7_if (e7_newa et_si17 _))
    · trivial
  case invokestatic =>
    split
    · rename_i hq
      refine e7_el (e7_el (e7_if (e7_bin _)) (e7_el (e7_if (e7_bin _)) (e7_el e7_copy (e7_if ?_)))) (e7_if (trivial))
      split
      · exact e7_if (ew_e17.rf h)
      · trivial
    · trivial
  case invokevirtual =>
    split
    · rename_i hq
      split
      · exact e7_if (trivial)
      · trivial
    · trivial
  case invokeinterface =>
    split
    · rename_i hq
      split
      · exact e7_if (trivial)
      · trivial
    · trivial
  case tableswitch =>
    split
    · refine ⟨fun c hc => ?_, (ew_e17.rf h)⟩
      obtain ⟨o, -, rfl⟩ := List.mem_map.mp hc
      exact (ew_e17.rf h)
    · trivial
  case invokespecial =>
    split
    · rename_i hq
      split
      · exact e7_el (e7_if (ew_e17.rf h)) (e7_if (trivial))
      · trivial
    · trivial
  all_goals (repeat' (first | exact trivial | exact (ew_e17.rf h) | exact ⟨(ew_e17.rf h), (ew_e17.rf h)⟩ | exact e7_if ((ew_e17.rf h)) | exact e7_if (ew_put_17 _ _ _ _ _) | exact e7_if trivial | split))
theorem ew_sw_17 {h h' : ew_H} (x : Int32) (dd : ew_C) : ∀ (l : List ew_C) (v : Int32), (∀ c ∈ l, ew_e17 h c.2.2.2) → ew_e17 h dd.2.2.2 → ew_sw (fun c => ew_e17 c.2.2.2 h') x v l dd → ew_e17 h h'
  | [], _, _, h2, g => h2.tr g
  | c :: l, v, h1, h2, g => by
    by_cases e : x = v
    · exact (h1 c List.mem_cons_self).tr (g.1 e)
    · exact ew_sw_17 x dd l (v + 1) (fun c hc => h1 c (List.mem_cons_of_mem _ hc)) h2 (g.2 e)
theorem ew_In_17 {y : Nat} {as : List ew_V} {h h' : ew_H} {r : ew_R} (g : ew_In y as h (fun r1 h1 => r1 = r ∧ h1 = h')) : ew_e17 h h' := by
  unfold ew_In at g
  cases h1 : Nat.beq y 185 with
  | true =>
    rw [h1, cond_true] at g
    split at g
    · rw [← g.2.2]; exact (ew_e17.rf h)
    · exact g.elim
  | false =>
    rw [h1, cond_false] at g
    cases h2 : Nat.beq y 203 with
    | true =>
      rw [h2, cond_true] at g
      split at g
      · split at g
        · split at g
          · rw [← g.2.2]; exact ew_mk_17 _ _ _ _ (by decide)
          · exact g.elim
        · exact g.elim
      · exact g.elim
    | false =>
      rw [h2, cond_false] at g
      exact g.elim
theorem ew_Call_17 : ∀ (d z : Nat) (as : List ew_V) (h h' : ew_H) (r : ew_R), ew_Call d z as h (fun r1 h1 => r1 = r ∧ h1 = h') → ew_e17 h h'
  | 0, _, _, _, _, _, g => g.elim
  | d + 1, z, as, h, h', r, g => by
    rcases g with ⟨r0, h0, w, rfl, rfl⟩ | g
    · refine w (fun c => ew_e17 c.2.2.2 h0) (fun c gg => ?_)
      unfold ew_G at gg
      cases h1 : ew_pg z c.1 with
      | none => simp only [h1] at gg
      | some q =>
        obtain ⟨i, nx, tg, cv⟩ := q
        simp only [h1] at gg
        have hs := ew_st_17 (y := z) (cl := et_cls z) (h := c.2.2.2) (ls := c.2.1) (st := c.2.2.1) (nx := nx) i c.1 tg cv
        cases h2 : ew_st z (et_cls z) i c.1 nx tg cv c.2.1 c.2.2.1 c.2.2.2 with
        | none => simp only [h2] at gg
        | some n =>
          simp only [h2] at gg
          rw [h2] at hs
          rcases n with c' | ⟨p, a, b⟩ | ⟨p, a⟩ | ⟨z', as', rest, nx'⟩ | ⟨p, r1, h1'⟩ | ⟨x, v, l, dd⟩
          · exact hs.tr gg
          · by_cases e : p
            · exact hs.1.tr (gg.1 e)
            · exact hs.2.tr (gg.2 e)
          · exact hs.tr gg.2
          · obtain ⟨r2, h2', g1, g2⟩ := ew_Call_get gg
            refine (ew_Call_17 d _ _ _ _ _ g1).tr ?_
            rcases r2 with v2 | x2
            · exact g2
            · obtain ⟨-, g2⟩ := g2
              cases h3 : ew_hd z c.1 x2 with
              | none => simp only [h3] at g2; rw [g2.2]; exact ew_e17.rf _
              | some t => simp only [h3] at g2; exact g2
          · rw [← gg.2.2]; exact hs
          · exact ew_sw_17 x dd l v hs.1 hs.2 gg
    · exact ew_In_17 g
theorem ew_c17 {d z : Nat} {as : List ew_V} {h : ew_H} {K : ew_R → ew_H → Prop} (g : ew_Call d z as h (fun r h' => ew_e17 h h' → K r h')) : ew_Call d z as h K := by
  obtain ⟨r, h', g1, g2⟩ := ew_Call_get g
  refine ew_Call_mono d _ _ _ _ _ (fun r1 h1 e => ?_) g1
  obtain ⟨rfl, rfl⟩ := e
  exact g2 (ew_Call_17 d _ _ _ _ _ g1)
end GA
