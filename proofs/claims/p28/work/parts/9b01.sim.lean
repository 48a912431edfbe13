/-! Two seas of the class side by side: what an hour does to one it does to the other. -/
/-- how many numbers lie between the objects of one sea and the next -/
def sm_s (k : Nat) : Nat := bif Nat.beq k 4 then 15 else bif Nat.beq k 3 || Nat.beq k 8 || Nat.beq k 145 then 2 else bif Nat.beq k 10 || Nat.beq k 40 || Nat.beq k 593 || Nat.beq k 177 then 5 else bif Nat.beq k 9 then 1 else 0
/-- the places that count -/
def sm_R (k p i : Nat) : Prop := cond (Nat.beq k 4) (p < 5 ∧ i < 15) (cond (Nat.beq k 3) (0 < p ∧ p < 5 ∧ i < 2) (cond (Nat.beq k 8) (p = 1 ∧ i < 2) (cond (Nat.beq k 145) (p < 8 ∧ i < 2) (cond (Nat.beq k 10) (1 < p ∧ p < 12 ∧ i < 5) (cond (Nat.beq k 40) (p = 1 ∧ i < 5) (cond (Nat.beq k 593) (p < 8 ∧ i < 5) (cond (Nat.beq k 177) (p < 5 ∧ i < 5) (cond (Nat.beq k 9) (2 < p ∧ p < 7 ∧ i = 0) ((Nat.beq k 6 || Nat.beq k 18 || Nat.beq k 81 || Nat.beq k 113) = true)))))))))
def Sm (q q' : Nat) (s t : ew_S) : Prop := ∀ k p i, sm_R k p i → t k p (i + sm_s k * q') = s k p (i + sm_s k * q)
section
variable {q q' : Nat} {s t : ew_S}
theorem Sm.u (h : Sm q q' s t) {k : Nat} (p i n : Nat) (hn : sm_s k = n) (x : Int32) : Sm q q' (ew_u s k p (i + n * q) x) (ew_u t k p (i + n * q') x) := by
  subst hn
  intro k' p' i' hr
  by_cases e : k' = k ∧ p' = p ∧ i' = i
  · obtain ⟨rfl, rfl, rfl⟩ := e
    rw [ew_u_self, ew_u_self]
  · rw [ew_u_ne _ x (fun z => e (by obtain ⟨rfl, rfl, z⟩ := z; exact ⟨rfl, rfl, by omega⟩)), ew_u_ne _ x (fun z => e (by obtain ⟨rfl, rfl, z⟩ := z; exact ⟨rfl, rfl, by omega⟩))]
    exact h _ _ _ hr
theorem Sm.sh (h : Sm q q' s t) {k : Nat} (i n c : Nat) (hn : sm_s k = n) (hk : k = 145 ∨ k = 593) (hc : c ≤ 8) : Sm q q' (ef_sh s k (i + n * q) c) (ef_sh t k (i + n * q') c) := by
  subst hn
  intro k' p' i' hr
  by_cases e : k' = k ∧ i' = i
  · obtain ⟨rfl, rfl⟩ := e
    by_cases e2 : p' + 1 < c
    · rw [ef_sh_at _ e2, ef_sh_at _ e2]
      refine h _ _ _ ?_
      rcases hk with rfl | rfl
      · have hr : p' < 8 ∧ i' < 2 := hr
        exact (show p' + 1 < 8 ∧ i' < 2 from ⟨by omega, hr.2⟩)
      · have hr : p' < 8 ∧ i' < 5 := hr
        exact (show p' + 1 < 8 ∧ i' < 5 from ⟨by omega, hr.2⟩)
    · have hb : Nat.blt (p' + 1) c = false := by
        cases hb : Nat.blt (p' + 1) c with
        | false => rfl
        | true => exact absurd (Nat.le_of_ble_eq_true hb) e2
      have h0 : ∀ (s : ew_S) (j : Nat), ef_sh s k' j c k' p' j = s k' p' j := fun s j => by
        unfold ef_sh
        rw [hb, Bool.and_false, Bool.and_false]
        rfl
      rw [h0, h0]
      exact h _ _ _ hr
  · rw [ef_sh_ne _ (fun z => e (by obtain ⟨rfl, z⟩ := z; exact ⟨rfl, by omega⟩)), ef_sh_ne _ (fun z => e (by obtain ⟨rfl, z⟩ := z; exact ⟨rfl, by omega⟩))]
    exact h _ _ _ hr
theorem Sm.c (h : Sm q q' s t) {p c : Nat} (hp : p < 5) (hc : c < 15) : t 4 p (c + 15 * q') = s 4 p (c + 15 * q) := h 4 p c (show p < 5 ∧ c < 15 from ⟨hp, hc⟩)
theorem Sm.b (h : Sm q q' s t) {p b : Nat} (h0 : 0 < p) (hp : p < 5) (hb : b < 2) : t 3 p (b + 2 * q') = s 3 p (b + 2 * q) := h 3 p b (show 0 < p ∧ p < 5 ∧ b < 2 from ⟨h0, hp, hb⟩)
theorem Sm.r (h : Sm q q' s t) {b : Nat} (hb : b < 2) : t 8 1 (b + 2 * q') = s 8 1 (b + 2 * q) := h 8 1 b (show 1 = 1 ∧ b < 2 from ⟨rfl, hb⟩)
theorem Sm.rc (h : Sm q q' s t) {p b : Nat} (hp : p < 8) (hb : b < 2) : t 145 p (b + 2 * q') = s 145 p (b + 2 * q) := h 145 p b (show p < 8 ∧ b < 2 from ⟨hp, hb⟩)
theorem Sm.j (h : Sm q q' s t) {p j : Nat} (h0 : 1 < p) (hp : p < 12) (hj : j < 5) : t 10 p (j + 5 * q') = s 10 p (j + 5 * q) := h 10 p j (show 1 < p ∧ p < 12 ∧ j < 5 from ⟨h0, hp, hj⟩)
theorem Sm.o (h : Sm q q' s t) {j : Nat} (hj : j < 5) : t 40 1 (j + 5 * q') = s 40 1 (j + 5 * q) := h 40 1 j (show 1 = 1 ∧ j < 5 from ⟨rfl, hj⟩)
theorem Sm.oc (h : Sm q q' s t) {p j : Nat} (hp : p < 8) (hj : j < 5) : t 593 p (j + 5 * q') = s 593 p (j + 5 * q) := h 593 p j (show p < 8 ∧ j < 5 from ⟨hp, hj⟩)
theorem Sm.w (h : Sm q q' s t) {p j : Nat} (hp : p < 5) (hj : j < 5) : t 177 p (j + 5 * q') = s 177 p (j + 5 * q) := h 177 p j (show p < 5 ∧ j < 5 from ⟨hp, hj⟩)
theorem Sm.n (h : Sm q q' s t) {p : Nat} (h0 : 2 < p) (hp : p < 7) : t 9 p q' = s 9 p q := by
  have := h 9 p 0 (show 2 < p ∧ p < 7 ∧ 0 = 0 from ⟨h0, hp, rfl⟩)
  rw [show sm_s 9 = 1 from rfl, Nat.one_mul, Nat.one_mul, Nat.zero_add, Nat.zero_add] at this
  exact this
theorem Sm.p (h : Sm q q' s t) {k : Nat} (p i : Nat) (hk : k = 6 ∨ k = 18 ∨ k = 81 ∨ k = 113) : t k p i = s k p i := by
  have := h k p i (by rcases hk with rfl | rfl | rfl | rfl <;> exact rfl)
  have e : sm_s k = 0 := by rcases hk with rfl | rfl | rfl | rfl <;> rfl
  rw [e, Nat.zero_mul, Nat.zero_mul, Nat.add_zero] at this
  exact this
theorem Sm.u9 (h : Sm q q' s t) (p : Nat) (x : Int32) : Sm q q' (ew_u s 9 p q x) (ew_u t 9 p q' x) := by
  have := h.u (k := 9) p 0 1 rfl x
  rw [Nat.one_mul, Nat.one_mul, Nat.zero_add, Nat.zero_add] at this
  exact this
/-! Drift and frost. -/
theorem sm_give (h : Sm q q' s t) {i j : Nat} (hi : i < 15) (hj : j < 15) : Sm q q' (sp_give (i + 15 * q) (j + 15 * q) s) (sp_give (i + 15 * q') (j + 15 * q') t) := by
  unfold sp_give
  rw [h.c (p := 3) (by omega) hj, h.c (p := 4) (by omega) hi, h.c (p := 0) (by omega) hi]
  by_cases c : s 4 3 (j + 15 * q) = 0
  · rw [if_pos c, if_pos c]
    have h1 := h.u 4 i 15 (k := 4) rfl (s 4 4 (i + 15 * q) - s 4 0 (i + 15 * q) / 10)
    rw [h1.c (p := 4) (by omega) hj]
    exact h1.u 4 j 15 rfl _
  · rw [if_neg c, if_neg c]
    exact h
theorem sm_g1 (h : Sm q q' s t) (w : Int32) {c : Nat} (hc : c < 15) : Sm q q' (sp_g1 q w c s) (sp_g1 q' w c t) := by
  unfold sp_g1
  rcases ef_nb_r hc w with e | ⟨x, hx, e, -⟩
  · rw [if_pos e, if_pos e]; exact h
  · have ne : ¬ ef_nb c w = -1 := by rw [e]; exact ei_m1 x hx
    rw [if_neg ne, if_neg ne, e, ei_nat (by omega)]
    exact sm_give h hc hx
theorem sm_g (h : Sm q q' s t) (w : Int32) : ∀ j, j ≤ 15 → Sm q q' (sp_g q w s j) (sp_g q' w t j)
  | 0, _ => h
  | j + 1, hj => sm_g1 (sm_g h w j (by omega)) w (by omega)
theorem sm_s1 (h : Sm q q' s t) {i : Nat} (hi : i < 15) : Sm q q' (sp_s1 (i + 15 * q) s) (sp_s1 (i + 15 * q') t) := by
  unfold sp_s1
  rw [h.c (p := 0) (by omega) hi, h.c (p := 4) (by omega) hi]
  exact ((h.u 0 i 15 (k := 4) rfl _).u 1 i 15 (k := 4) rfl _).u 4 i 15 (k := 4) rfl _
theorem sm_s_ok (h : Sm q q' s t) : ∀ j, j ≤ 15 → Sm q q' (sp_s q s j) (sp_s q' t j)
  | 0, _ => h
  | j + 1, hj => sm_s1 (sm_s_ok h j (by omega)) (by omega)
theorem sm_fa (h : Sm q q' s t) (x : Int32) {i : Nat} (hi : i < 15) : sp_fa x (i + 15 * q') t = sp_fa x (i + 15 * q) s := by
  unfold sp_fa
  rw [h.c (p := 3) (by omega) hi, h.c (p := 0) (by omega) hi]
theorem sm_fi (h : Sm q q' s t) (x : Int32) {i : Nat} (hi : i < 15) : Sm q q' (sp_fi x (i + 15 * q) s) (sp_fi x (i + 15 * q') t) := by
  unfold sp_fi
  rw [h.c (p := 3) (by omega) hi, h.c (p := 0) (by omega) hi]
  split
  · exact h.u 0 i 15 (k := 4) rfl _
  · exact h
theorem sm_cl (h : Sm q q' s t) {i : Nat} (hi : i < 15) : Sm q q' (sp_cl (i + 15 * q) s) (sp_cl (i + 15 * q') t) := by
  unfold sp_cl
  rw [h.c (p := 2) (by omega) hi, h.c (p := 1) (by omega) hi]
  exact h.u 2 i 15 (k := 4) rfl _
theorem sm_f1 (h : Sm q q' s t) (x : Int32) {i : Nat} (hi : i < 15) : Sm q q' (sp_f1 q x (i + 15 * q) s) (sp_f1 q' x (i + 15 * q') t) := by
  unfold sp_f1
  rw [h.n (p := 6) (by omega) (by omega), sm_fa h x hi]
  exact sm_cl ((sm_fi h x hi).u9 6 _) hi
theorem sm_f (h : Sm q q' s t) (x : Int32) : ∀ j, j ≤ 15 → Sm q q' (sp_f q x s j) (sp_f q' x t j)
  | 0, _ => h
  | j + 1, hj => sm_f1 (sm_f h x j (by omega)) x (by omega)
/-! Breakers. -/
theorem sm_en (h : Sm q q' s t) {b n : Nat} (hb : b < 2) (hn : s 8 1 (b + 2 * q) = ei n) (h8 : n ≤ 8) (x c : Int32) : Sm q q' (sp_en (b + 2 * q) x c s) (sp_en (b + 2 * q') x c t) := by
  unfold sp_en
  rw [h.b (p := 2) (by omega) (by omega) hb, h.b (p := 1) (by omega) (by omega) hb, h.r hb, hn, ei_nat (by omega)]
  exact ((((h.u 2 b 2 (k := 3) rfl _).u 4 b 2 (k := 3) rfl _).u 1 b 2 (k := 3) rfl _).sh b 2 n (k := 145) rfl (Or.inl rfl) h8).u 1 b 2 (k := 8) rfl _
theorem sm_mb (h : Sm q q' s t) {b : Nat} (hb : b < 2) (iv : iv_b (ea s (b + 2 * q))) : Sm q q' (sp_mb q (b + 2 * q) s) (sp_mb q' (b + 2 * q') t) := by
  obtain ⟨-, hr⟩ := iv
  obtain ⟨n, h8, hn, -⟩ := id hr
  have hn : s 8 1 (b + 2 * q) = ei n := hn
  unfold sp_mb
  rw [h.r hb, h.b (p := 1) (by omega) (by omega) hb, h.b (p := 2) (by omega) (by omega) hb, h.b (p := 3) (by omega) (by omega) hb, h.rc (p := 0) (by omega) hb]
  by_cases c0 : s 8 1 (b + 2 * q) = 0
  · rw [if_pos c0, if_pos c0]
    exact h.u 4 b 2 (k := 3) rfl _
  · obtain ⟨x, hx, ex⟩ := hr.first c0
    have ex : s 145 0 (b + 2 * q) = ei x := ex
    rw [if_neg c0, if_neg c0, ex, ei_nat (by omega), h.c (p := 3) (by omega) hx, h.c (p := 0) (by omega) hx, h.c (p := 1) (by omega) hx]
    have h4 := h.u 4 b 2 (k := 3) rfl (-1)
    split
    · split
      · exact (sm_en h4 hb (show ew_u s 3 4 (b + 2 * q) (-1) 8 1 (b + 2 * q) = ei n by rw [ew_u_ne _ _ (by omega)]; exact hn) h8 _ _).u 2 x 15 (k := 4) rfl _
      · exact h4.u 3 b 2 (k := 3) rfl _
    · exact h4.u 1 b 2 (k := 8) rfl _
/-! Ships. -/
theorem sm_w (h : Sm q q' s t) {c : Nat} (hc : c < 15) : sp_w q' c t = sp_w q c s := by
  unfold sp_w
  rw [h.c (p := 2) (by omega) hc, h.c (p := 0) (by omega) hc, h.c (p := 1) (by omega) hc]
theorem sm_fr (h : Sm q q' s t) (j : Nat) : Sm q q' (sp_fr (j + 5 * q) s) (sp_fr (j + 5 * q') t) := (h.u 7 j 5 (k := 10) rfl 0).u 8 j 5 (k := 10) rfl (-1)
/-- what a ship does: its answer, and the sea -/
def SmO (q q' : Nat) (a b : Int32 × ew_S) : Prop := b.1 = a.1 ∧ Sm q q' a.2 b.2
theorem sm_gf (h : Sm q q' s t) {j : Nat} (hj : j < 5) (hr : iv_r 40 593 (ea s (j + 5 * q))) : SmO q q' (sp_gf q (j + 5 * q) s) (sp_gf q' (j + 5 * q') t) := by
  obtain ⟨n, h8, hn, -⟩ := id hr
  have hn : s 40 1 (j + 5 * q) = ei n := hn
  unfold sp_gf
  rw [h.o hj, h.j (p := 2) (by omega) (by omega) hj, h.j (p := 5) (by omega) (by omega) hj, h.j (p := 4) (by omega) (by omega) hj, h.oc (p := 0) (by omega) hj]
  by_cases c0 : s 40 1 (j + 5 * q) = 0
  · rw [if_pos c0, if_pos c0]
    exact ⟨rfl, h⟩
  · obtain ⟨x, hx, ex⟩ := hr.first c0
    have ex : s 593 0 (j + 5 * q) = ei x := ex
    rw [if_neg c0, if_neg c0, ex, ei_nat (by omega), h.c (p := 3) (by omega) hx, sm_w h hx]
    split
    · split
      · refine ⟨rfl, ?_⟩
        rw [hn, ei_nat (by omega)]
        exact ((h.u 2 j 5 (k := 10) rfl _).sh j 5 n (k := 593) rfl (Or.inr rfl) h8).u 1 j 5 (k := 40) rfl _
      · exact ⟨rfl, h⟩
    · exact ⟨rfl, h.u 1 j 5 (k := 40) rfl _⟩
theorem sm_gb (h : Sm q q' s t) {j b : Nat} (hj : j < 5) (hb : b < 2) (hr : iv_r 40 593 (ea s (j + 5 * q))) (hc : ∃ c, c < 15 ∧ s 3 1 (b + 2 * q) = ei c) : SmO q q' (sp_gb q (j + 5 * q) (b + 2 * q) s) (sp_gb q' (j + 5 * q') (b + 2 * q') t) := by
  obtain ⟨c, hc, ec⟩ := hc
  unfold sp_gb
  rw [h.j (p := 2) (by omega) (by omega) hj, h.j (p := 7) (by omega) (by omega) hj, h.j (p := 5) (by omega) (by omega) hj, h.j (p := 4) (by omega) (by omega) hj, h.j (p := 10) (by omega) (by omega) hj, h.b (p := 4) (by omega) (by omega) hb, h.b (p := 1) (by omega) (by omega) hb, ec, ei_nat (by omega), sm_w h hc]
  generalize (if s 10 7 (j + 5 * q) = 2 then (0 : Int32) else 1) = bb
  generalize (if s 10 7 (j + 5 * q) = 2 then (9 : Int32) else 4) = dd
  split
  · split
    · exact ⟨rfl, ((h.u 2 j 5 (k := 10) rfl _).u 1 j 5 (k := 40) rfl _).u 10 j 5 (k := 10) rfl _⟩
    · exact ⟨rfl, sm_fr h j⟩
  · split
    · exact ⟨rfl, h⟩
    · refine sm_gf (sm_fr h j) hj ?_
      exact hr.to (ew_u_ne _ _ (by omega) |>.trans (ew_u_ne _ _ (by omega))) (fun p => ew_u_ne _ _ (by omega) |>.trans (ew_u_ne _ _ (by omega)))
theorem sm_wt (h : Sm q q' s t) {j c r : Nat} (hj : j < 5) (hc : c < 15) (ec : s 10 2 (j + 5 * q) = ei c) (hr : r < 5) : Sm q q' (sp_wt q (j + 5 * q) (ei r) s) (sp_wt q' (j + 5 * q') (ei r) t) := by
  unfold sp_wt
  rw [h.j (p := 9) (by omega) (by omega) hj, h.j (p := 2) (by omega) (by omega) hj, ec, ei_nat (show c < 2147483648 by omega), ei_nat (show r < 2147483648 by omega), h.w hr hj, h.c (p := 1) (by omega) hc]
  exact (h.u r j 5 (k := 177) rfl _).u 9 j 5 (k := 10) rfl _
theorem sm_ap (h : Sm q q' s t) {j c : Nat} (p n : Nat) (hj : j < 5) (hc : c < 15) (ec : s 10 2 (j + 5 * q) = ei c) {r : Int32} (hr : r = -1 ∨ ∃ k, k < 5 ∧ r = ei k) : SmO q q' (sp_ap q (j + 5 * q) j p n r s) (sp_ap q' (j + 5 * q') j p n r t) := by
  unfold sp_ap
  have e1 : (fun r => t 113 r p) = fun r => s 113 r p := funext fun r => h.p r p (by omega)
  have e2 : (fun r => t 81 r p) = fun r => s 81 r p := funext fun r => h.p r p (by omega)
  rw [h.j (p := 2) (by omega) (by omega) hj, h.j (p := 3) (by omega) (by omega) hj, h.n (p := 5) (by omega) (by omega), h.p (k := 6) 4 p (by omega), h.p (k := 18) j p (by omega), e1, e2]
  split
  · split
    · exact ⟨rfl, (((h.u 7 j 5 (k := 10) rfl _).u 8 j 5 (k := 10) rfl _).u 1 j 5 (k := 40) rfl _).u 11 j 5 (k := 10) rfl _⟩
    · exact ⟨rfl, sm_wt h hj hc ec (r := 3) (by omega)⟩
  · rcases hr with rfl | ⟨k, hk, rfl⟩
    · rw [if_pos rfl, if_pos rfl]; exact ⟨rfl, h⟩
    · rw [if_neg (ei_m1 k (by omega)), if_neg (ei_m1 k (by omega))]
      exact ⟨rfl, sm_wt h hj hc ec hk⟩
end
section
variable {q q' nb ns np T : Nat} {s t : ew_S}
theorem sm_b (h : Sm q q' s t) (I : Iv q 2 ns np T s) : ∀ b, b ≤ 2 → Sm q q' (sp_b q s b) (sp_b q' t b)
  | 0, _ => h
  | b + 1, hb => sm_mb (sm_b h I b (by omega)) (by omega) ((iv_bs I b (by omega)).2.1.2.2.2.1 b (by omega))
theorem sm_ms (h : Sm q q' s t) (I : Iv q 2 5 np T s) {j : Nat} (hj : j < 5) : SmO q q' (sp_ms q j s) (sp_ms q' j t) := by
  unfold sp_ms
  rw [h.j (p := 7) (by omega) (by omega) hj]
  by_cases c3 : s 10 7 (j + 5 * q) = 3
  · rw [if_pos c3, if_pos c3]; exact ⟨rfl, h⟩
  rw [if_neg c3, if_neg c3]
  obtain ⟨-, ivs, hrr⟩ := iv_go I hj c3
  have hs := I.2.2.2.2.1 j hj
  have go : SmO q q' (sp_go q (j + 5 * q) s) (sp_go q' (j + 5 * q') t) := by
    unfold sp_go
    rw [h.j (p := 7) (by omega) (by omega) hj, h.j (p := 8) (by omega) (by omega) hj]
    by_cases c0 : s 10 7 (j + 5 * q) = 0
    · rw [if_pos c0, if_pos c0]
      exact sm_gf h hj hs.2.1
    · rw [if_neg c0, if_neg c0]
      obtain ⟨-, -, -, -, k⟩ := id hs
      rcases k with ⟨k, -⟩ | ⟨k, -⟩ | ⟨-, b, hb, eb⟩
      · exact absurd k c0
      · exact absurd k c3
      · have eb : s 10 8 (j + 5 * q) = ei b := eb
        rw [eb, ei_nat (by omega)]
        exact sm_gb h hj hb hs.2.1 (I.2.2.2.1 b hb).1
  obtain ⟨g1, g2⟩ := go
  obtain ⟨⟨c, hc, ec⟩, -⟩ := id ivs
  unfold sp_ar
  rw [g1, g2.j (p := 6) (by omega) (by omega) hj, g2.p (k := 6) 3 _ (by omega)]
  exact sm_ap g2 _ _ hj hc ec hrr
theorem sm_m (h : Sm q q' s t) (I : Iv q 2 5 np T s) : ∀ j, j ≤ 5 → SmO q q' (sp_m q s j) (sp_m q' t j)
  | 0, _ => ⟨rfl, h⟩
  | j + 1, hj => by
    obtain ⟨k1, k2⟩ := sm_m h I j (by omega)
    obtain ⟨k3, k4⟩ := sm_ms k2 (iv_m I j (by omega)).2 (j := j) (by omega)
    refine ⟨?_, k4⟩
    show (sp_m q' t j).1 + _ = (sp_m q s j).1 + _
    rw [k1, k3]
theorem sm_h (h : Sm q q' s t) (I : Iv q 2 5 np T s) (hT : T ≤ 100000000) (x w : Int32) (hx : 0 ≤ x ∧ x ≤ 9) : SmO q q' (sp_h q x w s) (sp_h q' x w t) := by
  have hc := sm_f (sm_s_ok (sm_g (h.u9 5 (s 9 5 q + 1)) w 15 (by omega)) 15 (by omega)) x 15 (by omega)
  obtain ⟨-, J, -⟩ := iv_ck I hT x w hx
  obtain ⟨-, J1⟩ := iv_h1 I hT x w hx
  have e3 : t 9 3 q' = s 9 3 q := h.n (by omega) (by omega)
  have e4 : t 9 4 q' = s 9 4 q := h.n (by omega) (by omega)
  have e5 : t 9 5 q' = s 9 5 q := h.n (by omega) (by omega)
  have n3 : (s 9 3 q).toNatClampNeg = 2 := by rw [I.2.1.1]; decide
  have n4 : (s 9 4 q).toNatClampNeg = 5 := by rw [I.2.1.2.1]; decide
  have h1 : Sm q q' (sp_h1 q x w s) (sp_h1 q' x w t) := by
    unfold sp_h1
    rw [e3, e5, n3]
    exact sm_b hc J 2 (by omega)
  unfold sp_h
  rw [e4, n4]
  exact sm_m h1 J1 5 (by omega)
theorem sm_hs (h : Sm q q' s t) (I : Iv q 2 5 np T s) (x w : Int32) (hx : 0 ≤ x ∧ x ≤ 9) : ∀ n, T + 135 * n ≤ 100000000 → SmO q q' (sp_hs q x w s n) (sp_hs q' x w t n)
  | 0, _ => ⟨rfl, h⟩
  | n + 1, hT => by
    obtain ⟨k1, k2⟩ := sm_hs h I x w hx n (by omega)
    obtain ⟨k3, k4⟩ := sm_h k2 (iv_hs I x w hx n (by omega)) (by omega) x w hx
    refine ⟨?_, k4⟩
    show (sp_hs q' x w t n).1 + _ = (sp_hs q x w s n).1 + _
    rw [k1, k3]
/-- a copy stands beside what it was made of -/
theorem sm_cp {s t : ew_S} (c : cp_d 2 5 s t) : Sm 0 1 s t := by
  obtain ⟨c9, cc, cb, cs, F⟩ := c
  intro k p i hr
  by_cases k4 : k = 4
  · subst k4; have hr : p < 5 ∧ i < 15 := hr; exact cc i hr.2 p hr.1
  by_cases k3 : k = 3
  · subst k3; have hr : 0 < p ∧ p < 5 ∧ i < 2 := hr; exact (cb i hr.2.2).1 p hr.1 hr.2.1
  by_cases k8 : k = 8
  · subst k8; have hr : p = 1 ∧ i < 2 := hr; rw [hr.1]; exact (cb i hr.2).2.1
  by_cases k145 : k = 145
  · subst k145; have hr : p < 8 ∧ i < 2 := hr; exact (cb i hr.2).2.2 p hr.1
  by_cases k10 : k = 10
  · subst k10; have hr : 1 < p ∧ p < 12 ∧ i < 5 := hr; exact (cs i hr.2.2).1 p hr.1 hr.2.1
  by_cases k40 : k = 40
  · subst k40; have hr : p = 1 ∧ i < 5 := hr; rw [hr.1]; exact (cs i hr.2).2.1
  by_cases k593 : k = 593
  · subst k593; have hr : p < 8 ∧ i < 5 := hr; exact (cs i hr.2).2.2.1 p hr.1
  by_cases k177 : k = 177
  · subst k177; have hr : p < 5 ∧ i < 5 := hr; exact (cs i hr.2).2.2.2 p hr.1
  by_cases k9 : k = 9
  · subst k9; have hr : 2 < p ∧ p < 7 ∧ i = 0 := hr; rw [hr.2.2]; exact c9 p hr.1 hr.2.1
  have h : k = 6 ∨ k = 18 ∨ k = 81 ∨ k = 113 := by
    unfold sm_R at hr
    rw [ew_bne k4, ew_bne k3, ew_bne k8, ew_bne k145, ew_bne k10, ew_bne k40, ew_bne k593, ew_bne k177, ew_bne k9] at hr
    simp only [cond_false, Bool.or_eq_true] at hr
    rcases hr with ((hr | hr) | hr) | hr
    · exact Or.inl (ew_beq hr)
    · exact Or.inr (Or.inl (ew_beq hr))
    · exact Or.inr (Or.inr (Or.inl (ew_beq hr)))
    · exact Or.inr (Or.inr (Or.inr (ew_beq hr)))
  have e : sm_s k = 0 := by rcases h with rfl | rfl | rfl | rfl <;> rfl
  rw [e, Nat.zero_mul, Nat.add_zero]
  exact F k p i (fun w => by unfold Ptr at w; omega)
end
