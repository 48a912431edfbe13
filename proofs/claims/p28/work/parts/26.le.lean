/-! Objects stay: what is there remains there, and the room taken grows. -/
section GA
theorem ew_put_le (h : ew_H) (k i s : Nat) (v : ew_V) : ew_le h (ew_put h k i s v) := ⟨fun _ _ e => e, Nat.le_refl _, Nat.le_refl _⟩
theorem ew_cpy_le (h : ew_H) (k i s n : Nat) (f : Nat → ew_V) : ew_le h (ew_cpy h k i s n f) := ⟨fun _ _ e => e, Nat.le_refl _, Nat.le_refl _⟩
theorem ew_pay_le (h : ew_H) (c s : Nat) : ew_le h (ew_pay h c s) := ⟨fun _ _ e => e, Nat.le_add_right _ _, Nat.le_add_right _ _⟩
abbrev ew_U2 (h : ew_H) (n : ew_N) : Prop := match n with
  | none => True
  | some (.inl c') => ew_le h c'.2.2.2
  | some (.inr (.inl (_, a, b))) => ew_le h a.2.2.2 ∧ ew_le h b.2.2.2
  | some (.inr (.inr (.inl (_, a)))) => ew_le h a.2.2.2
  | some (.inr (.inr (.inr (.inl _)))) => True
  | some (.inr (.inr (.inr (.inr (.inl (_, _, h1)))))) => ew_le h h1
  | some (.inr (.inr (.inr (.inr (.inr (_, _, l', dd)))))) => (∀ c ∈ l', ew_le h c.2.2.2) ∧ ew_le h dd.2.2.2
theorem el_if {h : ew_H} {b : Bool} {x : ew_N} (g : ew_U2 h x) : ew_U2 h (bif b then x else none) := by
  cases b
  · exact trivial
  · exact g
theorem el_fi {h : ew_H} {b : Bool} {x : ew_N} (g : ew_U2 h x) : ew_U2 h (bif b then none else x) := by
  cases b
  · exact g
  · exact trivial
theorem el_el {h : ew_H} {b : Bool} {x y : ew_N} (g : ew_U2 h x) (g' : ew_U2 h y) : ew_U2 h (bif b then x else y) := by
  cases b
  · exact g'
  · exact g
variable {ls : List (Option ew_V)} {st : List ew_V} {h : ew_H} {nx : Nat}
theorem el_ld (t k : Nat) : ew_U2 h (ew_ld t ls st h nx k) := by
  unfold ew_ld
  split
  · exact el_if (ew_le.rf h)
  · trivial
theorem el_sto (t k : Nat) : ew_U2 h (ew_sto t ls st h nx k) := by
  unfold ew_sto
  split
  · exact el_if (el_el (el_if (ew_le.rf h)) (el_if (ew_le.rf h)))
  · trivial
theorem el_bin (f : Int32 → Int32 → Int32) : ew_U2 h (ew_bin f ls st h nx) := by
  unfold ew_bin
  split
  · exact ew_le.rf h
  · trivial
theorem el_binl (f : Int64 → Int64 → Int64) : ew_U2 h (ew_binl f ls st h nx) := by
  unfold ew_binl
  split
  · exact ew_le.rf h
  · trivial
theorem el_ald (t : Nat) : ew_U2 h (ew_ald t ls st h nx) := by
  unfold ew_ald
  split
  · exact el_if (ew_le.rf h)
  · trivial
theorem el_ast (t : Nat) : ew_U2 h (ew_ast t ls st h nx) := by
  unfold ew_ast
  split
  · exact el_if (ew_put_le _ _ _ _ _)
  · trivial
theorem el_newa (k : Nat) (z : ew_V) : ew_U2 h (ew_newa k z ls st h nx) := by
  unfold ew_newa
  split
  · exact ew_mk_le _ _ _ _ _
  · trivial
theorem ew_st_le (y cl : Nat) (i : Instr) (pc tg : Nat) (cv : Int32) : ew_U2 h (ew_st y cl i pc nx tg cv ls st h) := by
  cases i <;> try exact trivial
  case newarray at' => cases at' <;> first | exact trivial | exact el_if (el_newa _ _)
  case if_acmp o q =>
    cases o
    · dsimp only [ew_st]
      split
      · exact el_el (ew_le.rf h) (el_fi (ew_le.rf h))
      · trivial
    · trivial
  all_goals first | exact ew_le.rf h | exact el_ld _ _ | exact el_sto _ _ | exact el_bin _ | exact el_binl _ | exact el_ald _ | exact el_ast _ | exact el_if (ew_le.rf h) | skip
  all_goals dsimp only [ew_st]
  case new =>
    split
    · exact el_el (el_if (ew_mk_le _ _ _ _ _)) (el_if (ew_pay_le _ _ _))
    · trivial
  case anewarray =>
    split
    · exact el_if (el_newa _ _)
    · trivial
  case invokestatic =>
    split
    · refine el_el (el_el (el_if (el_bin _)) (el_el (el_if (el_bin _)) (el_if ?_))) (el_if trivial)
      split
      · exact el_if (ew_le.rf h)
      · trivial
    · trivial
  case tableswitch =>
    split
    · refine ⟨fun c hc => ?_, ew_le.rf h⟩
      obtain ⟨o, -, rfl⟩ := List.mem_map.mp hc
      exact ew_le.rf h
    · trivial
  case invokespecial =>
    split
    · split
      · exact el_el (el_if (ew_le.rf h)) (el_if trivial)
      · trivial
    · trivial
  all_goals (repeat' (first | exact trivial | exact ew_le.rf h | exact ⟨ew_le.rf h, ew_le.rf h⟩ | exact el_if (ew_le.rf h) | exact el_if (ew_put_le _ _ _ _ _) | exact el_if trivial | split))
theorem ew_sw_le {h h' : ew_H} (x : Int32) (dd : ew_C) : ∀ (l : List ew_C) (v : Int32), (∀ c ∈ l, ew_le h c.2.2.2) → ew_le h dd.2.2.2 → ew_sw (fun c => ew_le c.2.2.2 h') x v l dd → ew_le h h'
  | [], _, _, h2, g => h2.tr g
  | c :: l, v, h1, h2, g => by
    by_cases e : x = v
    · exact (h1 c List.mem_cons_self).tr (g.1 e)
    · exact ew_sw_le x dd l (v + 1) (fun c hc => h1 c (List.mem_cons_of_mem _ hc)) h2 (g.2 e)
theorem ew_Call_le : ∀ (d z : Nat) (as : List ew_V) (h h' : ew_H) (r : ew_R), ew_Call d z as h (fun r1 h1 => r1 = r ∧ h1 = h') → ew_le h h'
  | 0, _, _, _, _, _, g => g.elim
  | d + 1, z, as, h, h', r, g => by
    rcases g with ⟨r0, h0, w, rfl, rfl⟩ | g
    · refine w (fun c => ew_le c.2.2.2 h0) (fun c gg => ?_)
      unfold ew_G at gg
      cases h1 : ew_pg z c.1 with
      | none => simp only [h1] at gg
      | some q =>
        obtain ⟨i, nx, tg, cv⟩ := q
        simp only [h1] at gg
        have hs := ew_st_le (h := c.2.2.2) (ls := c.2.1) (st := c.2.2.1) (nx := nx) z (et_cls z) i c.1 tg cv
        cases h2 : ew_st z (et_cls z) i c.1 nx tg cv c.2.1 c.2.2.1 c.2.2.2 with
        | none => simp only [h2] at gg
        | some n =>
          simp only [h2] at gg
          rw [h2] at hs
          rcases n with c' | ⟨p, a, b⟩ | ⟨p, a⟩ | ⟨z', as', rest, nx'⟩ | ⟨p, r1, h1'⟩ | ⟨x, v, l, dd⟩
          · exact hs.tr gg
          · by_cases e : p
            · exact hs.1.tr (gg.1 e)
            · exact hs.2.tr (gg.2 e)
          · exact hs.tr gg.2
          · obtain ⟨r2, h2', g1, g2⟩ := ew_Call_get gg
            refine (ew_Call_le d _ _ _ _ _ g1).tr ?_
            rcases r2 with v2 | x2
            · exact g2
            · obtain ⟨-, g2⟩ := g2
              cases h3 : ew_hd z c.1 x2 with
              | none => simp only [h3] at g2; rw [g2.2]; exact ew_le.rf _
              | some t => simp only [h3] at g2; exact g2
          · rw [← gg.2.2]; exact hs
          · exact ew_sw_le x dd l v hs.1 hs.2 gg
    · exact g.elim
end GA
