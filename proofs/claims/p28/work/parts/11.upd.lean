/-! What writing and making do to the picture. -/
theorem ew_mg_eq (b : Bool) (v w : ew_V) : ew_mg b v w = bif b then v else w := by
  unfold ew_mg
  rcases v with v | ⟨k, i⟩
  · cases v <;> rcases w with w | w <;> cases b <;> first | rfl | (cases w <;> rfl)
  · rcases w with w | ⟨k', i'⟩
    · rfl
    · dsimp only
      cases hk : Nat.beq k k' with
      | false => rfl
      | true =>
        have e := Nat.eq_of_beq_eq_true hk
        subst e
        cases b <;> rfl
theorem ew_beq {a b : Nat} (h : Nat.beq a b = true) : a = b := Nat.eq_of_beq_eq_true h
theorem ew_beqr (a : Nat) : Nat.beq a a = true := Nat.beq_refl a
theorem ew_bne {a b : Nat} (h : ¬ a = b) : Nat.beq a b = false := by
  cases e : Nat.beq a b with
  | false => rfl
  | true => exact absurd (ew_beq e) h
theorem ew_put_self (h : ew_H) (k i s : Nat) (v : ew_V) : (ew_put h k i s v).1 k i s = v := by
  unfold ew_put
  dsimp only
  rw [ew_beqr, ew_beqr, ew_beqr, cond_true, ew_mg_eq]
  rfl
theorem ew_put_at (h : ew_H) (k i : Nat) {s s' : Nat} (v : ew_V) (e : ¬ s' = s) : (ew_put h k i s v).1 k i s' = h.1 k i s' := by
  unfold ew_put
  dsimp only
  rw [ew_beqr, cond_true, ew_mg_eq, ew_bne e]
  rfl
theorem ew_put_ne (h : ew_H) {k i k' i' : Nat} (s s' : Nat) (v : ew_V) (e : ¬ (k' = k ∧ i' = i)) : (ew_put h k i s v).1 k' i' s' = h.1 k' i' s' := by
  unfold ew_put
  dsimp only
  by_cases hk : k' = k
  · subst hk
    rw [ew_beqr, cond_true, ew_mg_eq, ew_bne (fun q => e ⟨rfl, q⟩), Bool.and_false]
    rfl
  · rw [ew_bne hk]
    rfl
theorem ew_cpy_in (h : ew_H) (k i s n : Nat) (f : Nat → ew_V) (j : Nat) : (ew_cpy h k i s n f).1 k i j = if s ≤ j ∧ j < s + n then f (j - s) else h.1 k i j := by
  unfold ew_cpy
  dsimp only
  rw [ew_beqr, ew_beqr, cond_true, cond_true]
  by_cases e1 : s ≤ j
  · by_cases e2 : j < s + n
    · rw [if_pos ⟨e1, e2⟩, Nat.ble_eq_true_of_le e1, show Nat.blt j (s + n) = true from Nat.ble_eq_true_of_le e2]
      rfl
    · rw [if_neg (fun q => e2 q.2)]
      cases e3 : Nat.blt j (s + n) with
      | true => exact absurd (Nat.le_of_ble_eq_true e3) e2
      | false => rw [Bool.and_false]; rfl
  · rw [if_neg (fun q => e1 q.1)]
    cases e3 : Nat.ble s j with
    | true => exact absurd (Nat.le_of_ble_eq_true e3) e1
    | false => rfl
theorem ew_cpy_ne (h : ew_H) {k i k' i' : Nat} (s n : Nat) (f : Nat → ew_V) (j : Nat) (e : ¬ (k' = k ∧ i' = i)) : (ew_cpy h k i s n f).1 k' i' j = h.1 k' i' j := by
  unfold ew_cpy
  dsimp only
  by_cases hk : k' = k
  · subst hk
    rw [ew_beqr, cond_true, ew_bne (fun q => e ⟨rfl, q⟩)]
    rfl
  · rw [ew_bne hk]
    rfl
/-- the places, with a new one for object i of kind k -/
def ew_al (a : Nat → Nat → Nat) (k i q : Nat) : Nat → Nat → Nat := fun k' i' => if k' = k ∧ i' = i then q else a k' i'
theorem ew_al_self (a : Nat → Nat → Nat) (k i q : Nat) : ew_al a k i q k i = q := if_pos ⟨rfl, rfl⟩
theorem ew_al_ne (a : Nat → Nat → Nat) {k i k' i' : Nat} (q : Nat) (e : ¬ (k' = k ∧ i' = i)) : ew_al a k i q k' i' = a k' i' := if_neg e
theorem ew_mk_self (h : ew_H) (k i N : Nat) (z : Nat → ew_V) (s : Nat) : (ew_mk h k i N z).1 k i s = z s := by
  unfold ew_mk
  dsimp only
  rw [ew_beqr, ew_beqr]
  rfl
theorem ew_mk_ne (h : ew_H) {k i k' i' : Nat} (N : Nat) (z : Nat → ew_V) (s : Nat) (e : ¬ (k' = k ∧ i' = i)) : (ew_mk h k i N z).1 k' i' s = h.1 k' i' s := by
  unfold ew_mk
  dsimp only
  by_cases hk : k' = k
  · subst hk
    rw [ew_beqr, cond_true, ew_bne (fun q => e ⟨rfl, q⟩)]
    rfl
  · rw [ew_bne hk]
    rfl
theorem ew_mk_nself (h : ew_H) (k i N : Nat) (z : Nat → ew_V) : (ew_mk h k i N z).2.1 k i = N := by
  unfold ew_mk
  dsimp only
  rw [ew_beqr, ew_beqr]
  rfl
theorem ew_mk_nne (h : ew_H) {k i k' i' : Nat} (N : Nat) (z : Nat → ew_V) (e : ¬ (k' = k ∧ i' = i)) : (ew_mk h k i N z).2.1 k' i' = h.2.1 k' i' := by
  unfold ew_mk
  dsimp only
  by_cases hk : k' = k
  · subst hk
    rw [ew_beqr, cond_true, ew_bne (fun q => e ⟨rfl, q⟩)]
    rfl
  · rw [ew_bne hk]
    rfl
theorem ew_mk_lself (h : ew_H) (k i N : Nat) (z : Nat → ew_V) : (ew_mk h k i N z).2.2.1 k i = true := by
  unfold ew_mk
  dsimp only
  rw [ew_beqr, ew_beqr]
  rfl
theorem ew_mk_lne (h : ew_H) {k i k' i' : Nat} (N : Nat) (z : Nat → ew_V) (e : ¬ (k' = k ∧ i' = i)) : (ew_mk h k i N z).2.2.1 k' i' = h.2.2.1 k' i' := by
  unfold ew_mk
  dsimp only
  by_cases hk : k' = k
  · subst hk
    rw [ew_beqr, cond_true, ew_bne (fun q => e ⟨rfl, q⟩)]
    rfl
  · rw [ew_bne hk]
    rfl
theorem ew_mk_le (h : ew_H) (k i N : Nat) (z : Nat → ew_V) : ew_le h (ew_mk h k i N z) := by
  refine ⟨fun k' i' e => ?_, Nat.le_add_right _ _, Nat.le_add_right _ _⟩
  by_cases q : k' = k ∧ i' = i
  · obtain ⟨rfl, rfl⟩ := q
    exact ew_mk_lself _ _ _ _ _
  · rw [ew_mk_lne h N z q]
    exact e
theorem ew_c_al {a : Nat → Nat → Nat} {h : ew_H} {k i q : Nat} (hk : ¬ k = 31) (hn : h.2.2.1 k i = false) {v : ew_V} (w : ew_wf h v) : ew_c (ew_al a k i q) v = ew_c a v := by
  rcases v with v | ⟨k', i'⟩
  · rfl
  · show Value.ref _ = Value.ref _
    congr 1
    refine ew_al_ne a q (fun e => ?_)
    obtain ⟨rfl, rfl⟩ := e
    rcases w with w | w
    · exact hk w
    · rw [hn] at w
      cases w
theorem ew_cell_kept {G : va_G} {TY : Nat → ClassId} {a a' : Nat → Nat → Nat} {h h' : ew_H} {k i : Nat} {H H' : Heap} (c : ew_cell G TY a h k i H) (ha : a' k i = a k i) (hv : ∀ s, ew_c a' (h'.1 k i s) = ew_c a (h.1 k i s)) (hn : h'.2.1 k i = h.2.1 k i) (hq : H'[a k i]? = H[a k i]?) : ew_cell G TY a' h' k i H' := by
  obtain ⟨cx, cc⟩ := c
  have hf : (fun s => ew_c a' (h'.1 k i s)) = (fun s => ew_c a (h.1 k i s)) := funext hv
  refine ⟨fun hc => ?_, fun hc => ?_⟩
  · obtain ⟨c1, c2⟩ := cx hc
    refine ⟨fun e => ?_, fun e1 e2 => ?_⟩
    · obtain ⟨r, r1, r2⟩ := c1 e
      exact ⟨r, r1, by rw [ha, hf]; exact r2.kept hq⟩
    · rw [ha, hf, hq, c2 e1 e2]
      show some (arrV _ (ew_sl k (h.2.1 k i)) _) = some (arrV _ (ew_sl k (h'.2.1 k i)) _)
      rw [hn]
  · obtain ⟨cell, q1, q2, q3, q4⟩ := cc hc
    refine ⟨cell, by rw [ha, hq]; exact q1, q2, fun e => ?_, fun e1 e2 => ?_⟩
    · obtain ⟨r, r1, r2, r3⟩ := q3 e
      exact ⟨r, r1, r2, fun s hs => by rw [hv]; exact r3 s hs⟩
    · obtain ⟨t1, t2, t3⟩ := q4 e1 e2
      have el : ew_len h' k i = ew_len h k i := by
        show ew_sl k (h'.2.1 k i) = ew_sl k (h.2.1 k i)
        rw [hn]
      exact ⟨t1, by rw [el]; exact t2, fun j hj => by rw [hv]; exact t3 j (by rw [← el]; exact hj)⟩
section EWI
variable {G : va_G} {TY : Nat → ClassId} {sz : Nat} {H0 : Heap} {a : Nat → Nat → Nat} {h : ew_H} {H : Heap}
theorem ew_I_set (I : ew_I G TY sz H0 a h H) {h' : ew_H} {k i : Nat} {H1 : Heap} (hl : h.2.2.1 k i = true) (hc : ew_cst k = false) (e2 : h'.2 = h.2) (hv : ∀ k' i' s, ¬ (k' = k ∧ i' = i) → h'.1 k' i' s = h.1 k' i' s) (hw : ∀ s, ew_wh h (h'.1 k i s))
    (hcell : ew_cell G TY a h' k i H1) (z : H1.size = H.size) (o : ∀ q : Nat, q ≠ a k i → H1[q]? = H[q]?) : ew_I G TY sz H0 a h' H1 := by
  obtain ⟨i1, i2, i3, i4, i5, i6⟩ := I
  have wf' : ∀ v, ew_wh h v → ew_wh h' v := fun v w => by
    rcases v with v | q
    · cases v <;> exact w
    · show h'.2.2.1 _ _ = true
      rw [e2]; exact w
  refine ⟨fun k' i' e => ?_, fun k1 j1 k2 j2 x y q => i2 k1 j1 k2 j2 (by rw [← e2]; exact x) (by rw [← e2]; exact y) q, fun k' i' s e => wf' _ ?_, fun k' i' x y => by rw [e2] at y ⊢; exact i4 k' i' x y, by rw [z]; exact i5, fun q hq => ?_⟩
  · rw [e2] at e
    obtain ⟨c1, c2, c3, c4⟩ := i1 k' i' e
    refine ⟨?_, by rw [z]; exact c2, c3, c4⟩
    by_cases x : k' = k ∧ i' = i
    · obtain ⟨rfl, rfl⟩ := x
      exact hcell
    · exact ew_cell_kept c1 rfl (fun s => by rw [hv k' i' s x]) (by rw [e2]) (o _ (fun q => x (i2 k' i' k i e hl q)))
  · rw [e2] at e
    by_cases x : k' = k ∧ i' = i
    · obtain ⟨rfl, rfl⟩ := x
      exact hw s
    · rw [hv k' i' s x]
      exact i3 k' i' s e
  · rw [o q (fun e => ?_)]
    · exact i6 q hq
    · have := (i1 k i hl).2.2.1 hc
      omega
theorem ew_I_mk (I : ew_I G TY sz H0 a h H) {k i N : Nat} {z : Nat → ew_V} {H1 : Heap} (hk : ew_ct k < 25) (hc : ew_cst k = false) (hn : h.2.2.1 k i = false) (hctr : ew_ctr k = true → i = h.2.2.2.1 k) (hw : ∀ s, ew_wh (ew_mk h k i N z) (z s))
    (hcell : ew_cell G TY (ew_al a k i H.size) (ew_mk h k i N z) k i H1) (hz : H1.size = H.size + 1) (o : ∀ q : Nat, q < H.size → H1[q]? = H[q]?) : ew_I G TY sz H0 (ew_al a k i H.size) (ew_mk h k i N z) H1 := by
  obtain ⟨i1, i2, i3, i4, i5, i6⟩ := I
  have h31 : ¬ k = 31 := fun e => by subst e; exact absurd hk (by decide)
  have old : ∀ k' i', (ew_mk h k i N z).2.2.1 k' i' = true → ¬ (k' = k ∧ i' = i) → h.2.2.1 k' i' = true := fun k' i' e x => by rw [ew_mk_lne h N z x] at e; exact e
  refine ⟨fun k' i' e => ?_, fun k1 j1 k2 j2 x y q => ?_, fun k' i' s e => ?_, fun k' i' x y => ?_, by rw [hz]; omega, fun q hq => by rw [o q (by omega)]; exact i6 q hq⟩
  · by_cases x : k' = k ∧ i' = i
    · obtain ⟨rfl, rfl⟩ := x
      refine ⟨hcell, ?_, fun _ => ?_, hk⟩
      · rw [ew_al_self, hz]; omega
      · rw [ew_al_self]; exact i5
    · obtain ⟨c1, c2, c3, c4⟩ := i1 k' i' (old k' i' e x)
      rw [ew_al_ne a H.size x]
      exact ⟨ew_cell_kept c1 (ew_al_ne a _ x) (fun s => by rw [ew_mk_ne h N z s x, ew_c_al h31 hn (i3 k' i' s (old k' i' e x)).wf]) (ew_mk_nne h N z x) (o _ c2), by rw [hz]; omega, c3, c4⟩
  · by_cases x1 : k1 = k ∧ j1 = i
    · by_cases x2 : k2 = k ∧ j2 = i
      · exact ⟨x1.1.trans x2.1.symm, x1.2.trans x2.2.symm⟩
      · obtain ⟨rfl, rfl⟩ := x1
        rw [ew_al_self, ew_al_ne a H.size x2] at q
        have := (i1 k2 j2 (old k2 j2 y x2)).2.1
        omega
    · by_cases x2 : k2 = k ∧ j2 = i
      · obtain ⟨rfl, rfl⟩ := x2
        rw [ew_al_self, ew_al_ne a H.size x1] at q
        have := (i1 k1 j1 (old k1 j1 x x1)).2.1
        omega
      · rw [ew_al_ne a H.size x1, ew_al_ne a H.size x2] at q
        exact i2 k1 j1 k2 j2 (old k1 j1 x x1) (old k2 j2 y x2) q
  · by_cases x : k' = k ∧ i' = i
    · obtain ⟨rfl, rfl⟩ := x
      rw [ew_mk_self]
      exact hw s
    · rw [ew_mk_ne h N z s x]
      exact (i3 k' i' s (old k' i' e x)).le (ew_mk_le h k i N z)
  · have hy : h.2.2.2.1 k' ≤ i' := by
      refine Nat.le_trans ?_ y
      show _ ≤ (bif Nat.beq k' k then h.2.2.2.1 k' + 1 else h.2.2.2.1 k')
      cases Nat.beq k' k
      · exact Nat.le_refl _
      · exact Nat.le_succ _
    by_cases e : k' = k ∧ i' = i
    · obtain ⟨rfl, rfl⟩ := e
      exfalso
      have e3 := hctr x
      have : (ew_mk h k' i' N z).2.2.2.1 k' = h.2.2.2.1 k' + 1 := by
        show (bif Nat.beq k' k' then h.2.2.2.1 k' + 1 else h.2.2.2.1 k') = _
        rw [ew_beqr]; rfl
      rw [this] at y
      omega
    · rw [ew_mk_lne h N z e]
      exact i4 k' i' x hy
end EWI
