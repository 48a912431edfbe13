/-! The model's lists: what each call does to a list. -/
def Pl (k i : Nat) : Nat → Nat → Nat → Prop := fun k' _ i' => i' = i ∧ (k' = k ∨ k' = k + 18)
theorem ew_hp_mkx {s : ew_S} {m : ew_H} {k i N : Nat} {z : Nat → ew_V} (h : ∀ p, ew_sh k p = none ∨ (ew_sh k p = some none ∧ z p = ew_i 0)) : ew_mk (ew_hp s m) k i N z = ew_hp (ef_z s k i) (ew_mk m k i N z) := by
  refine Prod.ext ?_ rfl
  funext k' i' p'
  by_cases e : k' = k ∧ i' = i
  · obtain ⟨rfl, rfl⟩ := e
    rw [em_self]
    show z p' = ew_hq (ef_z s k' i') (ew_mk m k' i' N z).1 k' i' p'
    unfold ew_hq
    rcases h p' with h | ⟨h, h2⟩
    · rw [h]; exact (em_self _ _ _ _ _ _).symm
    · rw [h, h2]
      dsimp only
      rw [ef_z_self]
  · rw [em_ne _ _ _ _ e]
    show ew_hq s m.1 k' i' p' = ew_hq (ef_z s k i) (ew_mk m k i N z).1 k' i' p'
    unfold ew_hq
    rw [em_ne _ _ _ _ e, ef_z_ne _ _ e]
theorem ew_hp_cpt {s : ew_S} {m : ew_H} {k i a n : Nat} {f : Nat → ew_V} (h : ∀ p, ew_sh k p = none) : ew_cpy (ew_hp s m) k i a n f = ew_hp s (ew_cpy m k i a n f) := by
  refine Prod.ext ?_ rfl
  funext k' i' p'
  show (bif Nat.beq k' k then _ else _) = ew_hq s (ew_cpy m k i a n f).1 k' i' p'
  unfold ew_hq
  have e0 : (ew_cpy m k i a n f).1 k' i' p' = bif Nat.beq k' k then (bif Nat.beq i' i then (bif Nat.ble a p' && Nat.blt p' (a + n) then f (p' - a) else m.1 k' i' p') else m.1 k' i' p') else m.1 k' i' p' := rfl
  rw [e0]
  cases hk : Nat.beq k' k with
  | false => rfl
  | true =>
    obtain rfl := ew_beq hk
    rw [h p', cond_true, cond_true]
    cases hi : Nat.beq i' i with
    | false =>
      rw [cond_false]
      show ew_hq s m.1 k' i' p' = m.1 k' i' p'
      unfold ew_hq; rw [h p']
    | true =>
      rw [cond_true]
      cases hb : (Nat.ble a p' && Nat.blt p' (a + n)) with
      | false =>
        show ew_hq s m.1 k' i' p' = m.1 k' i' p'
        unfold ew_hq; rw [h p']
      | true => rfl
theorem ecp_in (m : ew_H) {k i a n j : Nat} (f : Nat → ew_V) (h : j < n) : (ew_cpy m k i a n f).1 k i (a + j) = f j := by
  show (bif Nat.beq k k then (bif Nat.beq i i then (bif Nat.ble a (a + j) && Nat.blt (a + j) (a + n) then f (a + j - a) else _) else _) else _) = f j
  rw [ew_beqr, ew_beqr, Nat.ble_eq_true_of_le (Nat.le_add_right _ _), show Nat.blt (a + j) (a + n) = true from Nat.ble_eq_true_of_le (by omega), Nat.add_sub_cancel_left]
  rfl
theorem ecp_ne (m : ew_H) {k i a n k' i' : Nat} (p : Nat) (f : Nat → ew_V) (h : ¬ (k' = k ∧ i' = i)) : (ew_cpy m k i a n f).1 k' i' p = m.1 k' i' p := by
  show (bif Nat.beq k' k then (bif Nat.beq i' i then _ else m.1 k' i' p) else m.1 k' i' p) = m.1 k' i' p
  cases hk : Nat.beq k' k with
  | false => rfl
  | true =>
    cases hi : Nat.beq i' i with
    | false => rfl
    | true => exact absurd ⟨ew_beq hk, ew_beq hi⟩ h
theorem Ex.cpy {P : Nat → Nat → Nat → Prop} {c : Nat} {s s1 : ew_S} {m m1 : ew_H} (a : Ex P c s m s1 m1) {k i b n : Nat} (f : Nat → ew_V) (hk : ef_K k = false) (h : (∀ p, P k p i) ∨ m.2.2.1 k i = false) : Ex P c s m s1 (ew_cpy m1 k i b n f) := by
  refine ⟨fun k' h' => ⟨(a.1 k' h').1, ?_⟩, a.2.1, fun k' p' i' z n' => ⟨(a.2.2.1 k' p' i' z n').1, ?_⟩, a.2.2.2⟩
  · rw [← (a.1 k' h').2]
    funext i' p'
    refine ecp_ne _ _ _ (fun e => ?_)
    rw [e.1, hk] at h'; cases h'
  · rw [← (a.2.2.1 k' p' i' z n').2]
    refine ecp_ne _ _ _ (fun e => ?_)
    obtain ⟨rfl, rfl⟩ := e
    rcases h with h | h
    · exact n' (h p')
    · rw [z] at h; cases h
theorem ef_L_K {k : Nat} (h : ef_L k = true) : ef_K k = false ∧ ef_K (k + 18) = false := by
  rcases ef_L_or h with rfl | rfl | rfl | rfl | rfl | rfl <;> exact ⟨rfl, rfl⟩
theorem ef_L_18 {k k' : Nat} (h : ef_L k = true) (h' : ef_L k' = true) (e : k' + 18 = k) : False := by
  rcases ef_L_or h with rfl | rfl | rfl | rfl | rfl | rfl <;> rcases ef_L_or h' with rfl | rfl | rfl | rfl | rfl | rfl <;> exact absurd e (by decide)
section
variable {k i n : Nat} {es : Nat → ew_V} {s : ew_S} {m : ew_H}
theorem LR.adc (hL : LR k i n es s m) (hk : ef_L k = true) (hn : n < 10) (cap : m.1 k i 1 = ew_o (k + 18) i) (hx : m.2.2.1 (k + 18) i = true) (x : Int32) (v : ew_V) : LR k i (n + 1) (fun j => if j = n then v else es j) (ew_u (ew_u s k 0 i x) k 2 i (ei (n + 1))) (ew_put m (k + 18) i n v) ∧ Ex (Pl k i) 0 s m (ew_u (ew_u s k 0 i x) k 2 i (ei (n + 1))) (ew_put m (k + 18) i n v) := by
  refine ⟨⟨hL.1, ew_u_self _ _ _ _ _, by omega, Or.inl ⟨?_, hx, fun j hj => ?_⟩⟩, (((Ex.rf _ _ _).u _ (ef_L_K hk).1 (Or.inl ⟨rfl, Or.inl rfl⟩)).u _ (ef_L_K hk).1 (Or.inl ⟨rfl, Or.inl rfl⟩)).put _ (ef_L_K hk).2 (Or.inl ⟨rfl, Or.inr rfl⟩)⟩
  · rw [ep_ne _ _ (by omega)]; exact cap
  · by_cases e : j = n
    · subst e; exact (ep_self _ _ _ _ _).trans (if_pos rfl).symm
    · exact (ep_ne _ _ (by omega)).trans (((hL.ne (by omega)).2.2 j (by omega)).trans (if_neg e).symm)
theorem LR.ad0 (hL : LR k i 0 es s m) (hk : ef_L k = true) (hx : m.2.2.1 (k + 18) i = false) (x : Int32) (v : ew_V) : LR k i 1 (fun j => if j = 0 then v else es j) (ew_u (ew_u s k 0 i x) k 2 i (ei 1)) (ew_put (ew_put (ew_mk m (k + 18) i 10 (fun _ => ew_0)) k i 1 (ew_o (k + 18) i)) (k + 18) i 0 v) ∧ Ex (Pl k i) 1 s m (ew_u (ew_u s k 0 i x) k 2 i (ei 1)) (ew_put (ew_put (ew_mk m (k + 18) i 10 (fun _ => ew_0)) k i 1 (ew_o (k + 18) i)) (k + 18) i 0 v) := by
  refine ⟨⟨em_xo m 10 (fun _ => ew_0) hL.1, ew_u_self _ _ _ _ _, by omega, Or.inl ⟨?_, em_xs m (k + 18) i 10 (fun _ => ew_0), fun j hj => ?_⟩⟩, (((((Ex.rf _ _ _).mk _ (ef_L_K hk).2 (by decide) hx (fun k' h' e => Or.inl ⟨rfl, Or.inl (by omega)⟩)).put _ (ef_L_K hk).1 (Or.inl ⟨rfl, Or.inl rfl⟩)).put _ (ef_L_K hk).2 (Or.inl ⟨rfl, Or.inr rfl⟩)).u _ (ef_L_K hk).1 (Or.inl ⟨rfl, Or.inl rfl⟩)).u _ (ef_L_K hk).1 (Or.inl ⟨rfl, Or.inl rfl⟩)⟩
  · rw [ep_ne _ _ (by omega), ep_self]
  · obtain rfl : j = 0 := by omega
    exact (ep_self _ _ _ _ _).trans (if_pos rfl).symm
def ef_cl (m : ew_H) (k i : Nat) : Nat → ew_H
  | 0 => m
  | j + 1 => ew_put (ef_cl m k i j) k i j ew_0
theorem ef_cl_2 (m : ew_H) (k i : Nat) : ∀ j, (ef_cl m k i j).2 = m.2
  | 0 => rfl
  | j + 1 => ef_cl_2 m k i j
theorem ef_cl_ne (m : ew_H) {k i k' i' : Nat} (p : Nat) (h : ¬ (k' = k ∧ i' = i)) : ∀ j, (ef_cl m k i j).1 k' i' p = m.1 k' i' p
  | 0 => rfl
  | j + 1 => (ep_ne _ _ (fun e => h ⟨e.1, e.2.1⟩)).trans (ef_cl_ne m p h j)
theorem LR.clr (hL : LR k i n es s m) (hk : ef_L k = true) (x : Int32) (es' : Nat → ew_V) : LR k i 0 es' (ew_u (ew_u s k 0 i x) k 2 i 0) (ef_cl m (k + 18) i n) ∧ Ex (Pl k i) 0 s m (ew_u (ew_u s k 0 i x) k 2 i 0) (ef_cl m (k + 18) i n) := by
  have E : ∀ j, Ex (Pl k i) 0 s m (ew_u (ew_u s k 0 i x) k 2 i 0) (ef_cl m (k + 18) i j) := fun j => by
    induction j with
    | zero => exact ((Ex.rf _ _ _).u _ (ef_L_K hk).1 (Or.inl ⟨rfl, Or.inl rfl⟩)).u _ (ef_L_K hk).1 (Or.inl ⟨rfl, Or.inl rfl⟩)
    | succ j ih => exact ih.put _ (ef_L_K hk).2 (Or.inl ⟨rfl, Or.inr rfl⟩)
  refine ⟨⟨?_, ew_u_self _ _ _ _ _, by omega, ?_⟩, E n⟩
  · rw [ef_cl_2]; exact hL.1
  · rw [ef_cl_ne _ _ (by omega), ef_cl_2]
    rcases hL.2.2.2 with ⟨a1, a2, -⟩ | ⟨a1, a2, -⟩
    · exact Or.inl ⟨a1, a2, fun j hj => absurd hj (Nat.not_lt_zero _)⟩
    · exact Or.inr ⟨a1, a2, rfl⟩
theorem LR.rem (hL : LR k i n es s m) (hk : ef_L k = true) (h0 : 0 < n) (x : Int32) {f : Nat → ew_V} (hf : ∀ j, j + 1 < n → f j = es (j + 1)) : LR k i (n - 1) (fun j => es (j + 1)) (ew_u (ew_u s k 0 i x) k 2 i (ei (n - 1))) (ew_put (ew_cpy m (k + 18) i 0 (n - 1) f) (k + 18) i (n - 1) ew_0) ∧ Ex (Pl k i) 0 s m (ew_u (ew_u s k 0 i x) k 2 i (ei (n - 1))) (ew_put (ew_cpy m (k + 18) i 0 (n - 1) f) (k + 18) i (n - 1) ew_0) := by
  obtain ⟨a1, a2, a3⟩ := hL.ne h0
  have hn := hL.2.2.1
  refine ⟨⟨hL.1, ew_u_self _ _ _ _ _, by omega, Or.inl ⟨?_, a2, fun j hj => ?_⟩⟩, ((((Ex.rf _ _ _).u _ (ef_L_K hk).1 (Or.inl ⟨rfl, Or.inl rfl⟩)).u _ (ef_L_K hk).1 (Or.inl ⟨rfl, Or.inl rfl⟩)).cpy f (ef_L_K hk).2 (Or.inl fun p => ⟨rfl, Or.inr rfl⟩)).put _ (ef_L_K hk).2 (Or.inl ⟨rfl, Or.inr rfl⟩)⟩
  · rw [ep_ne _ _ (by omega), ecp_ne _ _ _ (by omega)]; exact a1
  · rw [ep_ne _ _ (by omega)]
    have := ecp_in m (k := k + 18) (i := i) (a := 0) (n := n - 1) (j := j) f hj
    rw [Nat.zero_add] at this
    rw [this]
    exact hf j (by omega)
end
section
variable {d : Nat} {s : ew_S} {m : ew_H} {K : ew_R → ew_H → Prop}
theorem xm_chk (x y : Int32) (h1 : ¬ x < 0) (h2 : x < y) (g : K (.inl (some (ew_i x))) (ew_hp s m)) : ew_Call (d + 2) 215 [ew_i x, ew_i y] (ew_hp s m) K := by
  refine ew_call (ew_go (fun _ => false) 20 (ew_call (ew_go (fun _ => false) 20 ⟨fun c => absurd c h1, fun c => ⟨fun c => ?_, fun c => absurd h2 c⟩⟩)))
  exact ⟨trivial, trivial, g⟩
theorem xm_valueOf {x c : Nat} {y : Int32} (hy : y = ei c) (hc : c < 128) (g : K (.inl (some (ew_o 0 (c + 128)))) (ew_hp s m)) : ew_Call (d + 1) 185 [ew_i y] (ew_hp s m) K := by
  subst hy
  refine Or.inr ?_
  have e : (ei c + 128).toNatClampNeg = c + 128 := by
    show (ei c + ei 128).toNatClampNeg = c + 128
    rw [ei_add, ei_nat (by omega)]
  show (¬ ei c < -128 ∧ ¬ 127 < ei c) ∧ K (.inl (some (ew_o 0 (ei c + 128).toNatClampNeg))) (ew_hp s m)
  rw [e]
  refine ⟨⟨fun z => ?_, fun z => ?_⟩, g⟩
  · exact ei_nn (n := c) (by omega) (Int32.lt_trans z (by decide))
  · have := (ei_lt (a := 127) (by decide) (by omega)).mp z
    omega
theorem xm_intValue (x : Nat) (g : K (.inl (some (ew_i (s 0 0 x)))) (ew_hp s m)) : ew_Call (d + 1) 187 [ew_o 0 x] (ew_hp s m) K := ew_call (ew_go (fun _ => false) 20 ⟨trivial, g⟩)

theorem xm_size2 {i n : Nat} {es : Nat → ew_V} (hL : LR 2 i n es s m) (g : K (.inl (some (ew_i (ei n)))) (ew_hp s m)) : ew_Call (d + 1) 201 [ew_o 2 i] (ew_hp s m) K := by
  rw [← hL.2.1] at g
  exact ew_call (ew_go (fun _ => false) 20 ⟨trivial, g⟩)
theorem xm_get2 {i n j : Nat} {es : Nat → ew_V} (hL : LR 2 i n es s m) (hj : j < n) {x : Int32} (hx : x = ei j) {a b : Nat} (hv : es j = ew_o a b) (g : K (.inl (some (ew_o a b))) (ew_hp s m)) : ew_Call (d + 3) 205 [ew_o 2 i, ew_i x] (ew_hp s m) K := by
  subst hx
  have hn := hL.2.2.1
  have h1 := hL.2.1
  obtain ⟨a1, a2, a3⟩ := hL.ne (by omega)
  have hv' : m.1 20 i (ei j).toNatClampNeg = ew_o a b := by rw [ei_nat (by omega), a3 j hj, hv]
  refine ew_call (ew_go (fun _ => false) 40 (xm_chk _ _ (ei_nn (by omega)) ?_ ?_))
  · show ei j < s 2 2 i
    rw [h1, ei_lt (by omega) (by omega)]; exact hj
  · refine ew_call (ew_go (fun pc => Nat.beq pc 4) 20 (eq_s a1 ?_))
    exact ew_go (fun pc => Nat.beq pc 6) 20 ⟨ei_ix (n := 10) (by omega) (by decide), eq_s hv' (ew_go (fun _ => false) 20 ⟨trivial, trivial, g⟩)⟩
theorem xm_grow12 {i n : Nat} (a1 : m.1 2 i 1 = ew_o 212 0) (hx : m.2.2.1 20 i = false) {y : Int32} (hy : y = ei n) (hn : n ≤ 10) (g : K (.inl (some (ew_o 20 i))) (ew_hp s (ew_put (ew_mk m 20 i 10 (fun _ => ew_0)) 2 i 1 (ew_o 20 i)))) : ew_Call (d + 1) 199 [ew_o 2 i, ew_i y] (ew_hp s m) K := by
  subst hy
  refine ew_call (ew_go (fun pc => Nat.beq pc 4) 20 (eq_s a1 ?_))
  refine ew_go (fun pc => Nat.beq pc 14) 40 ⟨fun c => absurd c (show ¬ (0 : Int32) < ei 0 by decide), fun c => eq_s a1 ?_⟩
  refine ew_go (fun pc => Nat.beq pc 55) 40 ⟨⟨?_, hx⟩, eq_m (fun _ => rfl) ?_⟩
  · show ew_max 10 (ei n) = 10
    unfold ew_max
    rw [if_neg]
    show ¬ ei 10 < ei n
    rw [ei_lt (by decide) (by omega)]; omega
  · exact ew_go (fun _ => false) 40 ⟨rfl, trivial, ek_t rfl g⟩
theorem xm_grow02 {i : Nat} (a1 : m.1 2 i 1 = ew_o 212 0) (hx : m.2.2.1 20 i = false) (h0 : s 2 2 i = ei 0) (g : K (.inl (some (ew_o 20 i))) (ew_hp s (ew_put (ew_mk m 20 i 10 (fun _ => ew_0)) 2 i 1 (ew_o 20 i)))) : ew_Call (d + 2) 200 [ew_o 2 i] (ew_hp s m) K :=
  ew_call (ew_go (fun _ => false) 40 (xm_grow12 (n := 1) a1 hx (by show s 2 2 i + 1 = ei 1; rw [h0]; rfl) (by decide) ⟨trivial, g⟩))

theorem xm_addc2 {i n x : Nat} {y : Int32} (hy : y = ei n) (hn : n < 10) (g : K (.inl none) (ew_hp (ew_u s 2 2 i (ei (n + 1))) (ew_put m 20 i n (ew_o 12 x)))) : ew_Call (d + 3) 206 [ew_o 2 i, ew_o 12 x, ew_o 20 i, ew_i y] (ew_hp s m) K := by
  subst hy
  refine ew_call (ew_go (fun pc => Nat.beq pc 15) 40 ⟨fun c => ⟨⟨ei_ix (n := 10) hn (by decide), rfl⟩, ?_⟩, fun c => absurd (show ¬ ei n = ei 10 from fun z => ?_) c⟩)
  · show ew_W (ew_Call (d + 2)) 206 K (15, [some (ew_o 2 i), some (ew_o 12 x), some (ew_o 20 i), some (ew_i (ei n))], [], ew_put (ew_hp s m) 20 i (ei n).toNatClampNeg (ew_o 12 x))
    rw [ei_nat (by omega)]
    refine eq_t rfl (ew_go (fun _ => false) 40 ⟨trivial, trivial, ?_⟩)
    show K (.inl none) (ew_put (ew_hp s (ew_put m 20 i n (ew_o 12 x))) 2 i 2 (ew_i (ei n + 1)))
    rw [ei_1]
    exact ek_p rfl g
  · have := (ei_inj (by omega) (by decide)).mp z
    omega
theorem xm_adde2 {i x : Nat} {y : Int32} (hy : y = ei 0) (a1 : m.1 2 i 1 = ew_o 212 0) (hx : m.2.2.1 20 i = false) (h0 : s 2 2 i = ei 0) (g : K (.inl none) (ew_hp (ew_u s 2 2 i (ei 1)) (ew_put (ew_put (ew_mk m 20 i 10 (fun _ => ew_0)) 2 i 1 (ew_o 20 i)) 20 i 0 (ew_o 12 x)))) : ew_Call (d + 3) 206 [ew_o 2 i, ew_o 12 x, ew_o 212 0, ew_i y] (ew_hp s m) K := by
  subst hy
  refine ew_call (ew_go (fun pc => Nat.beq pc 15) 40 ⟨fun c => absurd (show ei 0 = ei 0 from rfl) c, fun c => xm_grow02 a1 hx h0 ⟨⟨ei_ix (j := 0) (n := 10) (by decide) (by decide), rfl⟩, ?_⟩⟩)
  show ew_W (ew_Call (d + 2)) 206 K (15, [some (ew_o 2 i), some (ew_o 12 x), some (ew_o 20 i), some (ew_i (ei 0))], [], ew_put (ew_hp s (ew_put (ew_mk m 20 i 10 (fun _ => ew_0)) 2 i 1 (ew_o 20 i))) 20 i 0 (ew_o 12 x))
  exact eq_t rfl (ew_go (fun _ => false) 40 ⟨trivial, trivial, ek_p rfl g⟩)
theorem xm_add2 {i n : Nat} {es : Nat → ew_V} (hL : LR 2 i n es s m) (G : GI m) (hn : n < 10) (x : Nat) (g : ∀ s' m', LR 2 i (n + 1) (fun j => if j = n then ew_o 12 x else es j) s' m' → Ex (Pl 2 i) 1 s m s' m' → GI m' → K (.inl (some (ew_i 1))) (ew_hp s' m')) : ew_Call (d + 4) 207 [ew_o 2 i, ew_o 12 x] (ew_hp s m) K := by
  have h1 := hL.2.1
  refine ew_call (ew_go (fun pc => Nat.beq pc 10) 40 ⟨trivial, ?_⟩)
  show ew_W (ew_Call (d + 3)) 207 K (10, [some (ew_o 2 i), some (ew_o 12 x)], [], ew_put (ew_hp s m) 2 i 0 (ew_i (s 2 0 i + 1)))
  refine eq_1 rfl ?_
  rcases hL.2.2.2 with ⟨a1, a2, -⟩ | ⟨a1, a2, rfl⟩
  · obtain ⟨l1, l2⟩ := hL.adc rfl hn a1 a2 (s 2 0 i + 1) (ew_o 12 x)
    have k := g _ _ l1 (l2.le (Nat.zero_le _)) G
    exact ew_go (fun _ => false) 40 (ec_a3 a1 (xm_addc2 h1 hn ⟨Or.inr rfl, k⟩))
  · obtain ⟨l1, l2⟩ := hL.ad0 rfl a2 (s 2 0 i + 1) (ew_o 12 x)
    have k := g _ _ l1 l2 (G.arr (k := 2) (z := fun _ => ew_0) rfl hL.1)
    exact ew_go (fun _ => false) 40 (ec_a3 a1 (xm_adde2 h1 a1 a2 h1 ⟨Or.inr rfl, k⟩))
theorem xm_size34 {i n : Nat} {es : Nat → ew_V} (hL : LR 34 i n es s m) (g : K (.inl (some (ew_i (ei n)))) (ew_hp s m)) : ew_Call (d + 1) 201 [ew_o 34 i] (ew_hp s m) K := by
  rw [← hL.2.1] at g
  exact ew_call (ew_go (fun _ => false) 20 ⟨trivial, g⟩)
theorem xm_get34 {i n j : Nat} {es : Nat → ew_V} (hL : LR 34 i n es s m) (hj : j < n) {x : Int32} (hx : x = ei j) {a b : Nat} (hv : es j = ew_o a b) (g : K (.inl (some (ew_o a b))) (ew_hp s m)) : ew_Call (d + 3) 205 [ew_o 34 i, ew_i x] (ew_hp s m) K := by
  subst hx
  have hn := hL.2.2.1
  have h1 := hL.2.1
  obtain ⟨a1, a2, a3⟩ := hL.ne (by omega)
  have hv' : m.1 52 i (ei j).toNatClampNeg = ew_o a b := by rw [ei_nat (by omega), a3 j hj, hv]
  refine ew_call (ew_go (fun _ => false) 40 (xm_chk _ _ (ei_nn (by omega)) ?_ ?_))
  · show ei j < s 34 2 i
    rw [h1, ei_lt (by omega) (by omega)]; exact hj
  · refine ew_call (ew_go (fun pc => Nat.beq pc 4) 20 (eq_s a1 ?_))
    exact ew_go (fun pc => Nat.beq pc 6) 20 ⟨ei_ix (n := 10) (by omega) (by decide), eq_s hv' (ew_go (fun _ => false) 20 ⟨trivial, trivial, g⟩)⟩
theorem xm_grow134 {i n : Nat} (a1 : m.1 34 i 1 = ew_o 212 0) (hx : m.2.2.1 52 i = false) {y : Int32} (hy : y = ei n) (hn : n ≤ 10) (g : K (.inl (some (ew_o 52 i))) (ew_hp s (ew_put (ew_mk m 52 i 10 (fun _ => ew_0)) 34 i 1 (ew_o 52 i)))) : ew_Call (d + 1) 199 [ew_o 34 i, ew_i y] (ew_hp s m) K := by
  subst hy
  refine ew_call (ew_go (fun pc => Nat.beq pc 4) 20 (eq_s a1 ?_))
  refine ew_go (fun pc => Nat.beq pc 14) 40 ⟨fun c => absurd c (show ¬ (0 : Int32) < ei 0 by decide), fun c => eq_s a1 ?_⟩
  refine ew_go (fun pc => Nat.beq pc 55) 40 ⟨⟨?_, hx⟩, eq_m (fun _ => rfl) ?_⟩
  · show ew_max 10 (ei n) = 10
    unfold ew_max
    rw [if_neg]
    show ¬ ei 10 < ei n
    rw [ei_lt (by decide) (by omega)]; omega
  · exact ew_go (fun _ => false) 40 ⟨rfl, trivial, ek_t rfl g⟩
theorem xm_grow034 {i : Nat} (a1 : m.1 34 i 1 = ew_o 212 0) (hx : m.2.2.1 52 i = false) (h0 : s 34 2 i = ei 0) (g : K (.inl (some (ew_o 52 i))) (ew_hp s (ew_put (ew_mk m 52 i 10 (fun _ => ew_0)) 34 i 1 (ew_o 52 i)))) : ew_Call (d + 2) 200 [ew_o 34 i] (ew_hp s m) K :=
  ew_call (ew_go (fun _ => false) 40 (xm_grow134 (n := 1) a1 hx (by show s 34 2 i + 1 = ei 1; rw [h0]; rfl) (by decide) ⟨trivial, g⟩))

theorem xm_addc34 {i n x : Nat} {y : Int32} (hy : y = ei n) (hn : n < 10) (g : K (.inl none) (ew_hp (ew_u s 34 2 i (ei (n + 1))) (ew_put m 52 i n (ew_o 15 x)))) : ew_Call (d + 3) 206 [ew_o 34 i, ew_o 15 x, ew_o 52 i, ew_i y] (ew_hp s m) K := by
  subst hy
  refine ew_call (ew_go (fun pc => Nat.beq pc 15) 40 ⟨fun c => ⟨⟨ei_ix (n := 10) hn (by decide), rfl⟩, ?_⟩, fun c => absurd (show ¬ ei n = ei 10 from fun z => ?_) c⟩)
  · show ew_W (ew_Call (d + 2)) 206 K (15, [some (ew_o 34 i), some (ew_o 15 x), some (ew_o 52 i), some (ew_i (ei n))], [], ew_put (ew_hp s m) 52 i (ei n).toNatClampNeg (ew_o 15 x))
    rw [ei_nat (by omega)]
    refine eq_t rfl (ew_go (fun _ => false) 40 ⟨trivial, trivial, ?_⟩)
    show K (.inl none) (ew_put (ew_hp s (ew_put m 52 i n (ew_o 15 x))) 34 i 2 (ew_i (ei n + 1)))
    rw [ei_1]
    exact ek_p rfl g
  · have := (ei_inj (by omega) (by decide)).mp z
    omega
theorem xm_adde34 {i x : Nat} {y : Int32} (hy : y = ei 0) (a1 : m.1 34 i 1 = ew_o 212 0) (hx : m.2.2.1 52 i = false) (h0 : s 34 2 i = ei 0) (g : K (.inl none) (ew_hp (ew_u s 34 2 i (ei 1)) (ew_put (ew_put (ew_mk m 52 i 10 (fun _ => ew_0)) 34 i 1 (ew_o 52 i)) 52 i 0 (ew_o 15 x)))) : ew_Call (d + 3) 206 [ew_o 34 i, ew_o 15 x, ew_o 212 0, ew_i y] (ew_hp s m) K := by
  subst hy
  refine ew_call (ew_go (fun pc => Nat.beq pc 15) 40 ⟨fun c => absurd (show ei 0 = ei 0 from rfl) c, fun c => xm_grow034 a1 hx h0 ⟨⟨ei_ix (j := 0) (n := 10) (by decide) (by decide), rfl⟩, ?_⟩⟩)
  show ew_W (ew_Call (d + 2)) 206 K (15, [some (ew_o 34 i), some (ew_o 15 x), some (ew_o 52 i), some (ew_i (ei 0))], [], ew_put (ew_hp s (ew_put (ew_mk m 52 i 10 (fun _ => ew_0)) 34 i 1 (ew_o 52 i))) 52 i 0 (ew_o 15 x))
  exact eq_t rfl (ew_go (fun _ => false) 40 ⟨trivial, trivial, ek_p rfl g⟩)
theorem xm_add34 {i n : Nat} {es : Nat → ew_V} (hL : LR 34 i n es s m) (G : GI m) (hn : n < 10) (x : Nat) (g : ∀ s' m', LR 34 i (n + 1) (fun j => if j = n then ew_o 15 x else es j) s' m' → Ex (Pl 34 i) 1 s m s' m' → GI m' → K (.inl (some (ew_i 1))) (ew_hp s' m')) : ew_Call (d + 4) 207 [ew_o 34 i, ew_o 15 x] (ew_hp s m) K := by
  have h1 := hL.2.1
  refine ew_call (ew_go (fun pc => Nat.beq pc 10) 40 ⟨trivial, ?_⟩)
  show ew_W (ew_Call (d + 3)) 207 K (10, [some (ew_o 34 i), some (ew_o 15 x)], [], ew_put (ew_hp s m) 34 i 0 (ew_i (s 34 0 i + 1)))
  refine eq_1 rfl ?_
  rcases hL.2.2.2 with ⟨a1, a2, -⟩ | ⟨a1, a2, rfl⟩
  · obtain ⟨l1, l2⟩ := hL.adc rfl hn a1 a2 (s 34 0 i + 1) (ew_o 15 x)
    have k := g _ _ l1 (l2.le (Nat.zero_le _)) G
    exact ew_go (fun _ => false) 40 (ec_a3 a1 (xm_addc34 h1 hn ⟨Or.inr rfl, k⟩))
  · obtain ⟨l1, l2⟩ := hL.ad0 rfl a2 (s 34 0 i + 1) (ew_o 15 x)
    have k := g _ _ l1 l2 (G.arr (k := 34) (z := fun _ => ew_0) rfl hL.1)
    exact ew_go (fun _ => false) 40 (ec_a3 a1 (xm_adde34 h1 a1 a2 h1 ⟨Or.inr rfl, k⟩))
theorem xm_size66 {i n : Nat} {es : Nat → ew_V} (hL : LR 66 i n es s m) (g : K (.inl (some (ew_i (ei n)))) (ew_hp s m)) : ew_Call (d + 1) 201 [ew_o 66 i] (ew_hp s m) K := by
  rw [← hL.2.1] at g
  exact ew_call (ew_go (fun _ => false) 20 ⟨trivial, g⟩)
theorem xm_get66 {i n j : Nat} {es : Nat → ew_V} (hL : LR 66 i n es s m) (hj : j < n) {x : Int32} (hx : x = ei j) {a b : Nat} (hv : es j = ew_o a b) (g : K (.inl (some (ew_o a b))) (ew_hp s m)) : ew_Call (d + 3) 205 [ew_o 66 i, ew_i x] (ew_hp s m) K := by
  subst hx
  have hn := hL.2.2.1
  have h1 := hL.2.1
  obtain ⟨a1, a2, a3⟩ := hL.ne (by omega)
  have hv' : m.1 84 i (ei j).toNatClampNeg = ew_o a b := by rw [ei_nat (by omega), a3 j hj, hv]
  refine ew_call (ew_go (fun _ => false) 40 (xm_chk _ _ (ei_nn (by omega)) ?_ ?_))
  · show ei j < s 66 2 i
    rw [h1, ei_lt (by omega) (by omega)]; exact hj
  · refine ew_call (ew_go (fun pc => Nat.beq pc 4) 20 (eq_s a1 ?_))
    exact ew_go (fun pc => Nat.beq pc 6) 20 ⟨ei_ix (n := 10) (by omega) (by decide), eq_s hv' (ew_go (fun _ => false) 20 ⟨trivial, trivial, g⟩)⟩
theorem xm_grow166 {i n : Nat} (a1 : m.1 66 i 1 = ew_o 212 0) (hx : m.2.2.1 84 i = false) {y : Int32} (hy : y = ei n) (hn : n ≤ 10) (g : K (.inl (some (ew_o 84 i))) (ew_hp s (ew_put (ew_mk m 84 i 10 (fun _ => ew_0)) 66 i 1 (ew_o 84 i)))) : ew_Call (d + 1) 199 [ew_o 66 i, ew_i y] (ew_hp s m) K := by
  subst hy
  refine ew_call (ew_go (fun pc => Nat.beq pc 4) 20 (eq_s a1 ?_))
  refine ew_go (fun pc => Nat.beq pc 14) 40 ⟨fun c => absurd c (show ¬ (0 : Int32) < ei 0 by decide), fun c => eq_s a1 ?_⟩
  refine ew_go (fun pc => Nat.beq pc 55) 40 ⟨⟨?_, hx⟩, eq_m (fun _ => rfl) ?_⟩
  · show ew_max 10 (ei n) = 10
    unfold ew_max
    rw [if_neg]
    show ¬ ei 10 < ei n
    rw [ei_lt (by decide) (by omega)]; omega
  · exact ew_go (fun _ => false) 40 ⟨rfl, trivial, ek_t rfl g⟩
theorem xm_grow066 {i : Nat} (a1 : m.1 66 i 1 = ew_o 212 0) (hx : m.2.2.1 84 i = false) (h0 : s 66 2 i = ei 0) (g : K (.inl (some (ew_o 84 i))) (ew_hp s (ew_put (ew_mk m 84 i 10 (fun _ => ew_0)) 66 i 1 (ew_o 84 i)))) : ew_Call (d + 2) 200 [ew_o 66 i] (ew_hp s m) K :=
  ew_call (ew_go (fun _ => false) 40 (xm_grow166 (n := 1) a1 hx (by show s 66 2 i + 1 = ei 1; rw [h0]; rfl) (by decide) ⟨trivial, g⟩))

theorem xm_addc66 {i n x : Nat} {y : Int32} (hy : y = ei n) (hn : n < 10) (g : K (.inl none) (ew_hp (ew_u s 66 2 i (ei (n + 1))) (ew_put m 84 i n (ew_o 13 x)))) : ew_Call (d + 3) 206 [ew_o 66 i, ew_o 13 x, ew_o 84 i, ew_i y] (ew_hp s m) K := by
  subst hy
  refine ew_call (ew_go (fun pc => Nat.beq pc 15) 40 ⟨fun c => ⟨⟨ei_ix (n := 10) hn (by decide), rfl⟩, ?_⟩, fun c => absurd (show ¬ ei n = ei 10 from fun z => ?_) c⟩)
  · show ew_W (ew_Call (d + 2)) 206 K (15, [some (ew_o 66 i), some (ew_o 13 x), some (ew_o 84 i), some (ew_i (ei n))], [], ew_put (ew_hp s m) 84 i (ei n).toNatClampNeg (ew_o 13 x))
    rw [ei_nat (by omega)]
    refine eq_t rfl (ew_go (fun _ => false) 40 ⟨trivial, trivial, ?_⟩)
    show K (.inl none) (ew_put (ew_hp s (ew_put m 84 i n (ew_o 13 x))) 66 i 2 (ew_i (ei n + 1)))
    rw [ei_1]
    exact ek_p rfl g
  · have := (ei_inj (by omega) (by decide)).mp z
    omega
theorem xm_adde66 {i x : Nat} {y : Int32} (hy : y = ei 0) (a1 : m.1 66 i 1 = ew_o 212 0) (hx : m.2.2.1 84 i = false) (h0 : s 66 2 i = ei 0) (g : K (.inl none) (ew_hp (ew_u s 66 2 i (ei 1)) (ew_put (ew_put (ew_mk m 84 i 10 (fun _ => ew_0)) 66 i 1 (ew_o 84 i)) 84 i 0 (ew_o 13 x)))) : ew_Call (d + 3) 206 [ew_o 66 i, ew_o 13 x, ew_o 212 0, ew_i y] (ew_hp s m) K := by
  subst hy
  refine ew_call (ew_go (fun pc => Nat.beq pc 15) 40 ⟨fun c => absurd (show ei 0 = ei 0 from rfl) c, fun c => xm_grow066 a1 hx h0 ⟨⟨ei_ix (j := 0) (n := 10) (by decide) (by decide), rfl⟩, ?_⟩⟩)
  show ew_W (ew_Call (d + 2)) 206 K (15, [some (ew_o 66 i), some (ew_o 13 x), some (ew_o 84 i), some (ew_i (ei 0))], [], ew_put (ew_hp s (ew_put (ew_mk m 84 i 10 (fun _ => ew_0)) 66 i 1 (ew_o 84 i))) 84 i 0 (ew_o 13 x))
  exact eq_t rfl (ew_go (fun _ => false) 40 ⟨trivial, trivial, ek_p rfl g⟩)
theorem xm_add66 {i n : Nat} {es : Nat → ew_V} (hL : LR 66 i n es s m) (G : GI m) (hn : n < 10) (x : Nat) (g : ∀ s' m', LR 66 i (n + 1) (fun j => if j = n then ew_o 13 x else es j) s' m' → Ex (Pl 66 i) 1 s m s' m' → GI m' → K (.inl (some (ew_i 1))) (ew_hp s' m')) : ew_Call (d + 4) 207 [ew_o 66 i, ew_o 13 x] (ew_hp s m) K := by
  have h1 := hL.2.1
  refine ew_call (ew_go (fun pc => Nat.beq pc 10) 40 ⟨trivial, ?_⟩)
  show ew_W (ew_Call (d + 3)) 207 K (10, [some (ew_o 66 i), some (ew_o 13 x)], [], ew_put (ew_hp s m) 66 i 0 (ew_i (s 66 0 i + 1)))
  refine eq_1 rfl ?_
  rcases hL.2.2.2 with ⟨a1, a2, -⟩ | ⟨a1, a2, rfl⟩
  · obtain ⟨l1, l2⟩ := hL.adc rfl hn a1 a2 (s 66 0 i + 1) (ew_o 13 x)
    have k := g _ _ l1 (l2.le (Nat.zero_le _)) G
    exact ew_go (fun _ => false) 40 (ec_a3 a1 (xm_addc66 h1 hn ⟨Or.inr rfl, k⟩))
  · obtain ⟨l1, l2⟩ := hL.ad0 rfl a2 (s 66 0 i + 1) (ew_o 13 x)
    have k := g _ _ l1 l2 (G.arr (k := 66) (z := fun _ => ew_0) rfl hL.1)
    exact ew_go (fun _ => false) 40 (ec_a3 a1 (xm_adde66 h1 a1 a2 h1 ⟨Or.inr rfl, k⟩))
theorem xm_size98 {i n : Nat} {es : Nat → ew_V} (hL : LR 98 i n es s m) (g : K (.inl (some (ew_i (ei n)))) (ew_hp s m)) : ew_Call (d + 1) 201 [ew_o 98 i] (ew_hp s m) K := by
  rw [← hL.2.1] at g
  exact ew_call (ew_go (fun _ => false) 20 ⟨trivial, g⟩)
theorem xm_isEmpty98 {i n : Nat} {es : Nat → ew_V} (hL : LR 98 i n es s m) (g1 : n = 0 → K (.inl (some (ew_i 1))) (ew_hp s m)) (g2 : 0 < n → K (.inl (some (ew_i 0))) (ew_hp s m)) : ew_Call (d + 1) 202 [ew_o 98 i] (ew_hp s m) K := by
  have hn := hL.2.2.1
  have h1 := hL.2.1
  refine ew_call (ew_go (fun _ => false) 20 ⟨fun c => ?_, fun c => ?_⟩)
  · have c : ¬ s 98 2 i = 0 := c
    exact ⟨Or.inl rfl, g2 (Nat.pos_of_ne_zero (fun z => c (by rw [h1, z]; rfl)))⟩
  · have c : ¬ ¬ s 98 2 i = 0 := c
    rw [Classical.not_not, h1] at c
    exact ⟨Or.inr rfl, g1 ((ei_inj (b := 0) (by omega) (by decide)).mp c)⟩
theorem xm_get98 {i n j : Nat} {es : Nat → ew_V} (hL : LR 98 i n es s m) (hj : j < n) {x : Int32} (hx : x = ei j) {a b : Nat} (hv : es j = ew_o a b) (g : K (.inl (some (ew_o a b))) (ew_hp s m)) : ew_Call (d + 3) 205 [ew_o 98 i, ew_i x] (ew_hp s m) K := by
  subst hx
  have hn := hL.2.2.1
  have h1 := hL.2.1
  obtain ⟨a1, a2, a3⟩ := hL.ne (by omega)
  have hv' : m.1 116 i (ei j).toNatClampNeg = ew_o a b := by rw [ei_nat (by omega), a3 j hj, hv]
  refine ew_call (ew_go (fun _ => false) 40 (xm_chk _ _ (ei_nn (by omega)) ?_ ?_))
  · show ei j < s 98 2 i
    rw [h1, ei_lt (by omega) (by omega)]; exact hj
  · refine ew_call (ew_go (fun pc => Nat.beq pc 4) 20 (eq_s a1 ?_))
    exact ew_go (fun pc => Nat.beq pc 6) 20 ⟨ei_ix (n := 10) (by omega) (by decide), eq_s hv' (ew_go (fun _ => false) 20 ⟨trivial, trivial, g⟩)⟩
theorem xm_grow198 {i n : Nat} (a1 : m.1 98 i 1 = ew_o 212 0) (hx : m.2.2.1 116 i = false) {y : Int32} (hy : y = ei n) (hn : n ≤ 10) (g : K (.inl (some (ew_o 116 i))) (ew_hp s (ew_put (ew_mk m 116 i 10 (fun _ => ew_0)) 98 i 1 (ew_o 116 i)))) : ew_Call (d + 1) 199 [ew_o 98 i, ew_i y] (ew_hp s m) K := by
  subst hy
  refine ew_call (ew_go (fun pc => Nat.beq pc 4) 20 (eq_s a1 ?_))
  refine ew_go (fun pc => Nat.beq pc 14) 40 ⟨fun c => absurd c (show ¬ (0 : Int32) < ei 0 by decide), fun c => eq_s a1 ?_⟩
  refine ew_go (fun pc => Nat.beq pc 55) 40 ⟨⟨?_, hx⟩, eq_m (fun _ => rfl) ?_⟩
  · show ew_max 10 (ei n) = 10
    unfold ew_max
    rw [if_neg]
    show ¬ ei 10 < ei n
    rw [ei_lt (by decide) (by omega)]; omega
  · exact ew_go (fun _ => false) 40 ⟨rfl, trivial, ek_t rfl g⟩
theorem xm_grow098 {i : Nat} (a1 : m.1 98 i 1 = ew_o 212 0) (hx : m.2.2.1 116 i = false) (h0 : s 98 2 i = ei 0) (g : K (.inl (some (ew_o 116 i))) (ew_hp s (ew_put (ew_mk m 116 i 10 (fun _ => ew_0)) 98 i 1 (ew_o 116 i)))) : ew_Call (d + 2) 200 [ew_o 98 i] (ew_hp s m) K :=
  ew_call (ew_go (fun _ => false) 40 (xm_grow198 (n := 1) a1 hx (by show s 98 2 i + 1 = ei 1; rw [h0]; rfl) (by decide) ⟨trivial, g⟩))

theorem xm_addc98 {i n x : Nat} {y : Int32} (hy : y = ei n) (hn : n < 10) (g : K (.inl none) (ew_hp (ew_u s 98 2 i (ei (n + 1))) (ew_put m 116 i n (ew_o 0 x)))) : ew_Call (d + 3) 206 [ew_o 98 i, ew_o 0 x, ew_o 116 i, ew_i y] (ew_hp s m) K := by
  subst hy
  refine ew_call (ew_go (fun pc => Nat.beq pc 15) 40 ⟨fun c => ⟨⟨ei_ix (n := 10) hn (by decide), rfl⟩, ?_⟩, fun c => absurd (show ¬ ei n = ei 10 from fun z => ?_) c⟩)
  · show ew_W (ew_Call (d + 2)) 206 K (15, [some (ew_o 98 i), some (ew_o 0 x), some (ew_o 116 i), some (ew_i (ei n))], [], ew_put (ew_hp s m) 116 i (ei n).toNatClampNeg (ew_o 0 x))
    rw [ei_nat (by omega)]
    refine eq_t rfl (ew_go (fun _ => false) 40 ⟨trivial, trivial, ?_⟩)
    show K (.inl none) (ew_put (ew_hp s (ew_put m 116 i n (ew_o 0 x))) 98 i 2 (ew_i (ei n + 1)))
    rw [ei_1]
    exact ek_p rfl g
  · have := (ei_inj (by omega) (by decide)).mp z
    omega
theorem xm_adde98 {i x : Nat} {y : Int32} (hy : y = ei 0) (a1 : m.1 98 i 1 = ew_o 212 0) (hx : m.2.2.1 116 i = false) (h0 : s 98 2 i = ei 0) (g : K (.inl none) (ew_hp (ew_u s 98 2 i (ei 1)) (ew_put (ew_put (ew_mk m 116 i 10 (fun _ => ew_0)) 98 i 1 (ew_o 116 i)) 116 i 0 (ew_o 0 x)))) : ew_Call (d + 3) 206 [ew_o 98 i, ew_o 0 x, ew_o 212 0, ew_i y] (ew_hp s m) K := by
  subst hy
  refine ew_call (ew_go (fun pc => Nat.beq pc 15) 40 ⟨fun c => absurd (show ei 0 = ei 0 from rfl) c, fun c => xm_grow098 a1 hx h0 ⟨⟨ei_ix (j := 0) (n := 10) (by decide) (by decide), rfl⟩, ?_⟩⟩)
  show ew_W (ew_Call (d + 2)) 206 K (15, [some (ew_o 98 i), some (ew_o 0 x), some (ew_o 116 i), some (ew_i (ei 0))], [], ew_put (ew_hp s (ew_put (ew_mk m 116 i 10 (fun _ => ew_0)) 98 i 1 (ew_o 116 i))) 116 i 0 (ew_o 0 x))
  exact eq_t rfl (ew_go (fun _ => false) 40 ⟨trivial, trivial, ek_p rfl g⟩)
theorem xm_add98 {i n : Nat} {es : Nat → ew_V} (hL : LR 98 i n es s m) (G : GI m) (hn : n < 10) (x : Nat) (g : ∀ s' m', LR 98 i (n + 1) (fun j => if j = n then ew_o 0 x else es j) s' m' → Ex (Pl 98 i) 1 s m s' m' → GI m' → K (.inl (some (ew_i 1))) (ew_hp s' m')) : ew_Call (d + 4) 207 [ew_o 98 i, ew_o 0 x] (ew_hp s m) K := by
  have h1 := hL.2.1
  refine ew_call (ew_go (fun pc => Nat.beq pc 10) 40 ⟨trivial, ?_⟩)
  show ew_W (ew_Call (d + 3)) 207 K (10, [some (ew_o 98 i), some (ew_o 0 x)], [], ew_put (ew_hp s m) 98 i 0 (ew_i (s 98 0 i + 1)))
  refine eq_1 rfl ?_
  rcases hL.2.2.2 with ⟨a1, a2, -⟩ | ⟨a1, a2, rfl⟩
  · obtain ⟨l1, l2⟩ := hL.adc rfl hn a1 a2 (s 98 0 i + 1) (ew_o 0 x)
    have k := g _ _ l1 (l2.le (Nat.zero_le _)) G
    exact ew_go (fun _ => false) 40 (ec_a3 a1 (xm_addc98 h1 hn ⟨Or.inr rfl, k⟩))
  · obtain ⟨l1, l2⟩ := hL.ad0 rfl a2 (s 98 0 i + 1) (ew_o 0 x)
    have k := g _ _ l1 l2 (G.arr (k := 98) (z := fun _ => ew_0) rfl hL.1)
    exact ew_go (fun _ => false) 40 (ec_a3 a1 (xm_adde98 h1 a1 a2 h1 ⟨Or.inr rfl, k⟩))
theorem xl_clear98 {i n : Nat} {v : ew_V} (hv : 0 < n → v = ew_o 116 i) (hn : n ≤ 10) (g : K (.inl none) (ew_hp s (ef_cl m 116 i n))) : ∀ (r j : Nat) (y : Int32), y = ei j → j + r = n →
    ew_W (ew_Call d) 210 K (27, [some (ew_o 98 i), some v, some (ew_i (ei n)), some (ew_i y)], [], ew_hp s (ef_cl m 116 i j)) := by
  intro r
  induction r with
  | zero =>
    intro j y hy hj
    subst hy
    obtain rfl : j = n := by omega
    exact ew_go (fun pc => Nat.beq pc 27) 20 ⟨fun c => ⟨trivial, g⟩, fun c => absurd (Int32.le_refl _) c⟩
  | succ r ih =>
    intro j y hy hj
    subst hy
    obtain rfl := hv (by omega)
    refine ew_go (fun pc => Nat.beq pc 27 || Nat.beq pc 36) 20 ⟨fun c => ?_, fun c => ⟨⟨ei_ix (n := 10) (by omega) (by decide), trivial⟩, ?_⟩⟩
    · have c : ei n ≤ ei j := c
      rw [ei_le (by omega) (by omega)] at c; omega
    · show ew_W (ew_Call d) 210 K (36, [some (ew_o 98 i), some (ew_o 116 i), some (ew_i (ei n)), some (ew_i (ei j))], [], ew_put (ew_hp s (ef_cl m 116 i j)) 116 i (ei j).toNatClampNeg ew_0)
      rw [ei_nat (by omega)]
      exact eq_t rfl (ew_go (fun pc => Nat.beq pc 27) 20 (ih (j + 1) (ei j + 1) (ei_1 _) (by omega)))
theorem xm_clearc98 {i n : Nat} (h1 : s 98 2 i = ei n) (a1 : m.1 98 i 1 = ew_o 116 i) (hn : n ≤ 10) (g : K (.inl none) (ew_hp (ew_u (ew_u s 98 0 i (s 98 0 i + 1)) 98 2 i 0) (ef_cl m 116 i n))) : ew_Call (d + 1) 210 [ew_o 98 i] (ew_hp s m) K := by
  refine ew_call (ew_go (fun pc => Nat.beq pc 10) 40 ⟨trivial, ?_⟩)
  show ew_W (ew_Call d) 210 K (10, [some (ew_o 98 i), none, none, none], [], ew_put (ew_hp s m) 98 i 0 (ew_i (s 98 0 i + 1)))
  refine eq_1 rfl (ew_go (fun pc => Nat.beq pc 14) 40 (eq_s a1 ?_))
  show ew_W (ew_Call d) 210 K (14, [some (ew_o 98 i), none, none, none], [ew_o 116 i], ew_hp (ew_u s 98 0 i (s 98 0 i + 1)) m)
  refine ew_go (fun pc => Nat.beq pc 19) 40 (eq_s (w := ew_i (ei n)) (by show ew_i (s 98 2 i) = _; rw [h1]) ?_)
  show ew_W (ew_Call d) 210 K (19, [some (ew_o 98 i), some (ew_o 116 i), none, none], [ew_i (ei n)], ew_hp (ew_u s 98 0 i (s 98 0 i + 1)) m)
  refine ew_go (fun pc => Nat.beq pc 26) 40 ⟨trivial, ?_⟩
  show ew_W (ew_Call d) 210 K (26, [some (ew_o 98 i), some (ew_o 116 i), some (ew_i (ei n)), none], [ew_i 0], ew_put (ew_hp (ew_u s 98 0 i (s 98 0 i + 1)) m) 98 i 2 (ew_i 0))
  exact eq_1 rfl (ew_go (fun pc => Nat.beq pc 27) 40 (xl_clear98 (d := d) (fun _ => rfl) hn g n 0 0 rfl (by omega)))
theorem xm_cleare98 {i n : Nat} (h1 : s 98 2 i = ei n) (a1 : m.1 98 i 1 = ew_o 212 0) (hn : n ≤ 10) (h0 : ¬ 0 < n) (g : K (.inl none) (ew_hp (ew_u (ew_u s 98 0 i (s 98 0 i + 1)) 98 2 i 0) (ef_cl m 116 i n))) : ew_Call (d + 1) 210 [ew_o 98 i] (ew_hp s m) K := by
  refine ew_call (ew_go (fun pc => Nat.beq pc 10) 40 ⟨trivial, ?_⟩)
  show ew_W (ew_Call d) 210 K (10, [some (ew_o 98 i), none, none, none], [], ew_put (ew_hp s m) 98 i 0 (ew_i (s 98 0 i + 1)))
  refine eq_1 rfl (ew_go (fun pc => Nat.beq pc 14) 40 (eq_s a1 ?_))
  show ew_W (ew_Call d) 210 K (14, [some (ew_o 98 i), none, none, none], [ew_o 212 0], ew_hp (ew_u s 98 0 i (s 98 0 i + 1)) m)
  refine ew_go (fun pc => Nat.beq pc 19) 40 (eq_s (w := ew_i (ei n)) (by show ew_i (s 98 2 i) = _; rw [h1]) ?_)
  show ew_W (ew_Call d) 210 K (19, [some (ew_o 98 i), some (ew_o 212 0), none, none], [ew_i (ei n)], ew_hp (ew_u s 98 0 i (s 98 0 i + 1)) m)
  refine ew_go (fun pc => Nat.beq pc 26) 40 ⟨trivial, ?_⟩
  show ew_W (ew_Call d) 210 K (26, [some (ew_o 98 i), some (ew_o 212 0), some (ew_i (ei n)), none], [ew_i 0], ew_put (ew_hp (ew_u s 98 0 i (s 98 0 i + 1)) m) 98 i 2 (ew_i 0))
  exact eq_1 rfl (ew_go (fun pc => Nat.beq pc 27) 40 (xl_clear98 (d := d) (fun z => absurd z h0) hn g n 0 0 rfl (by omega)))
theorem xm_clear98 {i n : Nat} {es : Nat → ew_V} (hL : LR 98 i n es s m) (G : GI m) (g : ∀ s' m' es', LR 98 i 0 es' s' m' → Ex (Pl 98 i) 0 s m s' m' → GI m' → K (.inl none) (ew_hp s' m')) : ew_Call (d + 1) 210 [ew_o 98 i] (ew_hp s m) K := by
  obtain ⟨l1, l2⟩ := hL.clr rfl (s 98 0 i + 1) es
  have g' := g _ _ es l1 l2 (by
    obtain ⟨g1, g2, g3⟩ := G
    have e := ef_cl_2 m 116 i n
    unfold GI
    rw [e]; exact ⟨g1, g2, g3⟩)
  rcases hL.2.2.2 with ⟨a1, a2, -⟩ | ⟨a1, a2, h0⟩
  · exact xm_clearc98 hL.2.1 a1 hL.2.2.1 g'
  · exact xm_cleare98 hL.2.1 a1 hL.2.2.1 (by omega) g'
theorem xl_remove98 {i n b : Nat} (h0 : 0 < n) (hn : n ≤ 10) (g : K (.inl none) (ew_hp (ew_u s 98 2 i (ei (n - 1))) (ew_put m 116 i (n - 1) ew_0))) : ew_W (ew_Call d) 209 K (34, [some (ew_o 98 i), some (ew_o 116 i), some (ew_i 0), some (ew_i (ei (n - 1)))], [], ew_hp s m) := by
  refine ew_go (fun pc => Nat.beq pc 41) 40 ⟨trivial, ?_⟩
  show ew_W (ew_Call d) 209 K (41, [some (ew_o 98 i), some (ew_o 116 i), some (ew_i 0), some (ew_i (ei (n - 1)))], [ew_i (ei (n - 1)), ew_o 116 i], ew_put (ew_hp s m) 98 i 2 (ew_i (ei (n - 1))))
  refine eq_1 rfl (ew_go (fun _ => false) 40 ⟨⟨ei_ix (n := 10) (by omega) (by decide), trivial⟩, trivial, ?_⟩)
  show K (.inl none) (ew_put (ew_hp (ew_u s 98 2 i (ei (n - 1))) m) 116 i (ei (n - 1)).toNatClampNeg ew_0)
  rw [ei_nat (by omega)]
  exact ek_t rfl g
theorem xm_fast98 {i n : Nat} {es : Nat → ew_V} (hL : LR 98 i n es s m) (h0 : 0 < n) (he : ∀ j, j < n → ∃ b, es j = ew_o 0 b) (g : ∀ f : Nat → ew_V, (∀ j, j + 1 < n → f j = es (j + 1)) → K (.inl none) (ew_hp (ew_u (ew_u s 98 0 i (s 98 0 i + 1)) 98 2 i (ei (n - 1))) (ew_put (ew_cpy m 116 i 0 (n - 1) f) 116 i (n - 1) ew_0))) : ew_Call (d + 1) 209 [ew_o 98 i, ew_o 116 i, ew_i 0] (ew_hp s m) K := by
  have h1 := hL.2.1
  have hn := hL.2.2.1
  obtain ⟨a1, a2, a3⟩ := hL.ne h0
  have hm1 : s 98 2 i - 1 = ei (n - 1) := by rw [h1]; exact ei_sub (b := 1) h0
  refine ew_call (ew_go (fun pc => Nat.beq pc 10) 40 ⟨trivial, ?_⟩)
  show ew_W (ew_Call d) 209 K (10, [some (ew_o 98 i), some (ew_o 116 i), some (ew_i 0), none], [], ew_put (ew_hp s m) 98 i 0 (ew_i (s 98 0 i + 1)))
  refine eq_1 rfl (ew_go (fun pc => Nat.beq pc 16) 40 (eq_s (w := ew_i (ei (n - 1))) (by show ew_i (s 98 2 i - 1) = _; rw [hm1]) ?_))
  show ew_W (ew_Call d) 209 K (16, [some (ew_o 98 i), some (ew_o 116 i), some (ew_i 0), none], [ew_i (ei (n - 1))], ew_hp (ew_u s 98 0 i (s 98 0 i + 1)) m)
  refine ew_go (fun pc => Nat.beq pc 34) 40 ⟨fun c => ?_, fun c => ⟨⟨by decide, by decide, ?_, ?_, ?_, fun j hj => ?_⟩, ?_⟩⟩
  · have c : ei (n - 1) ≤ ei 0 := c
    rw [ei_le (by omega) (by decide)] at c
    have := g (fun _ => ew_0) (fun j hj => by omega)
    have e : ew_cpy m 116 i 0 (n - 1) (fun _ => ew_0) = m := by
      refine Prod.ext ?_ rfl
      funext k' i' p'
      show (bif Nat.beq k' 116 then (bif Nat.beq i' i then (bif Nat.ble 0 p' && Nat.blt p' (0 + (n - 1)) then ew_0 else m.1 k' i' p') else m.1 k' i' p') else m.1 k' i' p') = m.1 k' i' p'
      rw [show Nat.blt p' (0 + (n - 1)) = false from by rw [show 0 + (n - 1) = 0 by omega]; rfl, Bool.and_false, cond_false]
      cases Nat.beq k' 116 <;> cases Nat.beq i' i <;> rfl
    rw [e] at this
    exact xl_remove98 (b := 0) h0 hn this
  · show ¬ ei (n - 1) - 0 < 0
    rw [Int32.sub_zero]
    exact ei_nn (by omega)
  · show (0 + 1 : Int32).toNatClampNeg + (ei (n - 1) - 0).toNatClampNeg ≤ 10
    rw [Int32.sub_zero, ei_nat (by omega)]
    show 1 + (n - 1) ≤ 10
    omega
  · show (0 : Int32).toNatClampNeg + (ei (n - 1) - 0).toNatClampNeg ≤ 10
    rw [Int32.sub_zero, ei_nat (by omega)]
    show 0 + (n - 1) ≤ 10
    omega
  · have hj : j < (ei (n - 1) - 0).toNatClampNeg := hj
    rw [Int32.sub_zero, ei_nat (by omega)] at hj
    obtain ⟨b, hb⟩ := he (1 + j) (by omega)
    show ew_fit 2 (m.1 116 i (1 + j))
    rw [a3 (1 + j) (by omega), hb]; rfl
  · show ew_W (ew_Call d) 209 K (34, [some (ew_o 98 i), some (ew_o 116 i), some (ew_i 0), some (ew_i (ei (n - 1)))], [], ew_cpy (ew_hp (ew_u s 98 0 i (s 98 0 i + 1)) m) 116 i 0 (ei (n - 1) - 0).toNatClampNeg (fun j => m.1 116 i (1 + j)))
    rw [Int32.sub_zero, ei_nat (by omega), ew_hp_cpt (fun _ => rfl)]
    exact xl_remove98 (b := 0) h0 hn (g _ (fun j hj => by rw [a3 (1 + j) (by omega), Nat.add_comm]))
theorem xm_remove98 {i n : Nat} {es : Nat → ew_V} (hL : LR 98 i n es s m) (G : GI m) (h0 : 0 < n) (he : ∀ j, j < n → ∃ b, es j = ew_o 0 b) (g : ∀ s' m' b, LR 98 i (n - 1) (fun j => es (j + 1)) s' m' → Ex (Pl 98 i) 0 s m s' m' → GI m' → K (.inl (some (ew_o 0 b))) (ew_hp s' m')) : ew_Call (d + 3) 208 [ew_o 98 i, ew_i 0] (ew_hp s m) K := by
  have h1 := hL.2.1
  have hn := hL.2.2.1
  obtain ⟨a1, a2, a3⟩ := hL.ne h0
  obtain ⟨b, hb⟩ := he 0 h0
  have hv' : m.1 116 i (0 : Int32).toNatClampNeg = ew_o 0 b := (a3 0 h0).trans hb
  refine ew_call (ew_go (fun pc => Nat.beq pc 9) 40 (xm_chk _ _ (by decide) ?_ ?_))
  · show ei 0 < s 98 2 i
    rw [h1, ei_lt (by omega) (by omega)]; exact h0
  show ew_W (ew_Call (d + 2)) 208 K (9, [some (ew_o 98 i), some (ew_i 0), none, none], [], ew_hp s m)
  refine ew_go (fun pc => Nat.beq pc 13) 40 (eq_s a1 ?_)
  show ew_W (ew_Call (d + 2)) 208 K (13, [some (ew_o 98 i), some (ew_i 0), none, none], [ew_o 116 i], ew_hp s m)
  refine ew_go (fun pc => Nat.beq pc 17) 40 ⟨ei_ix (j := 0) (n := 10) (by decide) (by decide), eq_s hv' ?_⟩
  show ew_W (ew_Call (d + 2)) 208 K (17, [some (ew_o 98 i), some (ew_i 0), some (ew_o 116 i), none], [ew_o 0 b], ew_hp s m)
  refine ew_go (fun _ => false) 40 (xm_fast98 hL h0 he (fun f hf => ⟨trivial, ?_⟩))
  obtain ⟨l1, l2⟩ := hL.rem rfl h0 (s 98 0 i + 1) hf
  exact g _ _ b l1 l2 G
theorem xm_size130 {i n : Nat} {es : Nat → ew_V} (hL : LR 130 i n es s m) (g : K (.inl (some (ew_i (ei n)))) (ew_hp s m)) : ew_Call (d + 1) 201 [ew_o 130 i] (ew_hp s m) K := by
  rw [← hL.2.1] at g
  exact ew_call (ew_go (fun _ => false) 20 ⟨trivial, g⟩)
theorem xm_isEmpty130 {i n : Nat} {es : Nat → ew_V} (hL : LR 130 i n es s m) (g1 : n = 0 → K (.inl (some (ew_i 1))) (ew_hp s m)) (g2 : 0 < n → K (.inl (some (ew_i 0))) (ew_hp s m)) : ew_Call (d + 1) 202 [ew_o 130 i] (ew_hp s m) K := by
  have hn := hL.2.2.1
  have h1 := hL.2.1
  refine ew_call (ew_go (fun _ => false) 20 ⟨fun c => ?_, fun c => ?_⟩)
  · have c : ¬ s 130 2 i = 0 := c
    exact ⟨Or.inl rfl, g2 (Nat.pos_of_ne_zero (fun z => c (by rw [h1, z]; rfl)))⟩
  · have c : ¬ ¬ s 130 2 i = 0 := c
    rw [Classical.not_not, h1] at c
    exact ⟨Or.inr rfl, g1 ((ei_inj (b := 0) (by omega) (by decide)).mp c)⟩
theorem xm_get130 {i n j : Nat} {es : Nat → ew_V} (hL : LR 130 i n es s m) (hj : j < n) {x : Int32} (hx : x = ei j) {a b : Nat} (hv : es j = ew_o a b) (g : K (.inl (some (ew_o a b))) (ew_hp s m)) : ew_Call (d + 3) 205 [ew_o 130 i, ew_i x] (ew_hp s m) K := by
  subst hx
  have hn := hL.2.2.1
  have h1 := hL.2.1
  obtain ⟨a1, a2, a3⟩ := hL.ne (by omega)
  have hv' : m.1 148 i (ei j).toNatClampNeg = ew_o a b := by rw [ei_nat (by omega), a3 j hj, hv]
  refine ew_call (ew_go (fun _ => false) 40 (xm_chk _ _ (ei_nn (by omega)) ?_ ?_))
  · show ei j < s 130 2 i
    rw [h1, ei_lt (by omega) (by omega)]; exact hj
  · refine ew_call (ew_go (fun pc => Nat.beq pc 4) 20 (eq_s a1 ?_))
    exact ew_go (fun pc => Nat.beq pc 6) 20 ⟨ei_ix (n := 10) (by omega) (by decide), eq_s hv' (ew_go (fun _ => false) 20 ⟨trivial, trivial, g⟩)⟩
theorem xm_grow1130 {i n : Nat} (a1 : m.1 130 i 1 = ew_o 212 0) (hx : m.2.2.1 148 i = false) {y : Int32} (hy : y = ei n) (hn : n ≤ 10) (g : K (.inl (some (ew_o 148 i))) (ew_hp s (ew_put (ew_mk m 148 i 10 (fun _ => ew_0)) 130 i 1 (ew_o 148 i)))) : ew_Call (d + 1) 199 [ew_o 130 i, ew_i y] (ew_hp s m) K := by
  subst hy
  refine ew_call (ew_go (fun pc => Nat.beq pc 4) 20 (eq_s a1 ?_))
  refine ew_go (fun pc => Nat.beq pc 14) 40 ⟨fun c => absurd c (show ¬ (0 : Int32) < ei 0 by decide), fun c => eq_s a1 ?_⟩
  refine ew_go (fun pc => Nat.beq pc 55) 40 ⟨⟨?_, hx⟩, eq_m (fun _ => rfl) ?_⟩
  · show ew_max 10 (ei n) = 10
    unfold ew_max
    rw [if_neg]
    show ¬ ei 10 < ei n
    rw [ei_lt (by decide) (by omega)]; omega
  · exact ew_go (fun _ => false) 40 ⟨rfl, trivial, ek_t rfl g⟩
theorem xm_grow0130 {i : Nat} (a1 : m.1 130 i 1 = ew_o 212 0) (hx : m.2.2.1 148 i = false) (h0 : s 130 2 i = ei 0) (g : K (.inl (some (ew_o 148 i))) (ew_hp s (ew_put (ew_mk m 148 i 10 (fun _ => ew_0)) 130 i 1 (ew_o 148 i)))) : ew_Call (d + 2) 200 [ew_o 130 i] (ew_hp s m) K :=
  ew_call (ew_go (fun _ => false) 40 (xm_grow1130 (n := 1) a1 hx (by show s 130 2 i + 1 = ei 1; rw [h0]; rfl) (by decide) ⟨trivial, g⟩))

theorem xm_addc130 {i n x : Nat} {y : Int32} (hy : y = ei n) (hn : n < 10) (g : K (.inl none) (ew_hp (ew_u s 130 2 i (ei (n + 1))) (ew_put m 148 i n (ew_o 0 x)))) : ew_Call (d + 3) 206 [ew_o 130 i, ew_o 0 x, ew_o 148 i, ew_i y] (ew_hp s m) K := by
  subst hy
  refine ew_call (ew_go (fun pc => Nat.beq pc 15) 40 ⟨fun c => ⟨⟨ei_ix (n := 10) hn (by decide), rfl⟩, ?_⟩, fun c => absurd (show ¬ ei n = ei 10 from fun z => ?_) c⟩)
  · show ew_W (ew_Call (d + 2)) 206 K (15, [some (ew_o 130 i), some (ew_o 0 x), some (ew_o 148 i), some (ew_i (ei n))], [], ew_put (ew_hp s m) 148 i (ei n).toNatClampNeg (ew_o 0 x))
    rw [ei_nat (by omega)]
    refine eq_t rfl (ew_go (fun _ => false) 40 ⟨trivial, trivial, ?_⟩)
    show K (.inl none) (ew_put (ew_hp s (ew_put m 148 i n (ew_o 0 x))) 130 i 2 (ew_i (ei n + 1)))
    rw [ei_1]
    exact ek_p rfl g
  · have := (ei_inj (by omega) (by decide)).mp z
    omega
theorem xm_adde130 {i x : Nat} {y : Int32} (hy : y = ei 0) (a1 : m.1 130 i 1 = ew_o 212 0) (hx : m.2.2.1 148 i = false) (h0 : s 130 2 i = ei 0) (g : K (.inl none) (ew_hp (ew_u s 130 2 i (ei 1)) (ew_put (ew_put (ew_mk m 148 i 10 (fun _ => ew_0)) 130 i 1 (ew_o 148 i)) 148 i 0 (ew_o 0 x)))) : ew_Call (d + 3) 206 [ew_o 130 i, ew_o 0 x, ew_o 212 0, ew_i y] (ew_hp s m) K := by
  subst hy
  refine ew_call (ew_go (fun pc => Nat.beq pc 15) 40 ⟨fun c => absurd (show ei 0 = ei 0 from rfl) c, fun c => xm_grow0130 a1 hx h0 ⟨⟨ei_ix (j := 0) (n := 10) (by decide) (by decide), rfl⟩, ?_⟩⟩)
  show ew_W (ew_Call (d + 2)) 206 K (15, [some (ew_o 130 i), some (ew_o 0 x), some (ew_o 148 i), some (ew_i (ei 0))], [], ew_put (ew_hp s (ew_put (ew_mk m 148 i 10 (fun _ => ew_0)) 130 i 1 (ew_o 148 i))) 148 i 0 (ew_o 0 x))
  exact eq_t rfl (ew_go (fun _ => false) 40 ⟨trivial, trivial, ek_p rfl g⟩)
theorem xm_add130 {i n : Nat} {es : Nat → ew_V} (hL : LR 130 i n es s m) (G : GI m) (hn : n < 10) (x : Nat) (g : ∀ s' m', LR 130 i (n + 1) (fun j => if j = n then ew_o 0 x else es j) s' m' → Ex (Pl 130 i) 1 s m s' m' → GI m' → K (.inl (some (ew_i 1))) (ew_hp s' m')) : ew_Call (d + 4) 207 [ew_o 130 i, ew_o 0 x] (ew_hp s m) K := by
  have h1 := hL.2.1
  refine ew_call (ew_go (fun pc => Nat.beq pc 10) 40 ⟨trivial, ?_⟩)
  show ew_W (ew_Call (d + 3)) 207 K (10, [some (ew_o 130 i), some (ew_o 0 x)], [], ew_put (ew_hp s m) 130 i 0 (ew_i (s 130 0 i + 1)))
  refine eq_1 rfl ?_
  rcases hL.2.2.2 with ⟨a1, a2, -⟩ | ⟨a1, a2, rfl⟩
  · obtain ⟨l1, l2⟩ := hL.adc rfl hn a1 a2 (s 130 0 i + 1) (ew_o 0 x)
    have k := g _ _ l1 (l2.le (Nat.zero_le _)) G
    exact ew_go (fun _ => false) 40 (ec_a3 a1 (xm_addc130 h1 hn ⟨Or.inr rfl, k⟩))
  · obtain ⟨l1, l2⟩ := hL.ad0 rfl a2 (s 130 0 i + 1) (ew_o 0 x)
    have k := g _ _ l1 l2 (G.arr (k := 130) (z := fun _ => ew_0) rfl hL.1)
    exact ew_go (fun _ => false) 40 (ec_a3 a1 (xm_adde130 h1 a1 a2 h1 ⟨Or.inr rfl, k⟩))
theorem xl_clear130 {i n : Nat} {v : ew_V} (hv : 0 < n → v = ew_o 148 i) (hn : n ≤ 10) (g : K (.inl none) (ew_hp s (ef_cl m 148 i n))) : ∀ (r j : Nat) (y : Int32), y = ei j → j + r = n →
    ew_W (ew_Call d) 210 K (27, [some (ew_o 130 i), some v, some (ew_i (ei n)), some (ew_i y)], [], ew_hp s (ef_cl m 148 i j)) := by
  intro r
  induction r with
  | zero =>
    intro j y hy hj
    subst hy
    obtain rfl : j = n := by omega
    exact ew_go (fun pc => Nat.beq pc 27) 20 ⟨fun c => ⟨trivial, g⟩, fun c => absurd (Int32.le_refl _) c⟩
  | succ r ih =>
    intro j y hy hj
    subst hy
    obtain rfl := hv (by omega)
    refine ew_go (fun pc => Nat.beq pc 27 || Nat.beq pc 36) 20 ⟨fun c => ?_, fun c => ⟨⟨ei_ix (n := 10) (by omega) (by decide), trivial⟩, ?_⟩⟩
    · have c : ei n ≤ ei j := c
      rw [ei_le (by omega) (by omega)] at c; omega
    · show ew_W (ew_Call d) 210 K (36, [some (ew_o 130 i), some (ew_o 148 i), some (ew_i (ei n)), some (ew_i (ei j))], [], ew_put (ew_hp s (ef_cl m 148 i j)) 148 i (ei j).toNatClampNeg ew_0)
      rw [ei_nat (by omega)]
      exact eq_t rfl (ew_go (fun pc => Nat.beq pc 27) 20 (ih (j + 1) (ei j + 1) (ei_1 _) (by omega)))
theorem xm_clearc130 {i n : Nat} (h1 : s 130 2 i = ei n) (a1 : m.1 130 i 1 = ew_o 148 i) (hn : n ≤ 10) (g : K (.inl none) (ew_hp (ew_u (ew_u s 130 0 i (s 130 0 i + 1)) 130 2 i 0) (ef_cl m 148 i n))) : ew_Call (d + 1) 210 [ew_o 130 i] (ew_hp s m) K := by
  refine ew_call (ew_go (fun pc => Nat.beq pc 10) 40 ⟨trivial, ?_⟩)
  show ew_W (ew_Call d) 210 K (10, [some (ew_o 130 i), none, none, none], [], ew_put (ew_hp s m) 130 i 0 (ew_i (s 130 0 i + 1)))
  refine eq_1 rfl (ew_go (fun pc => Nat.beq pc 14) 40 (eq_s a1 ?_))
  show ew_W (ew_Call d) 210 K (14, [some (ew_o 130 i), none, none, none], [ew_o 148 i], ew_hp (ew_u s 130 0 i (s 130 0 i + 1)) m)
  refine ew_go (fun pc => Nat.beq pc 19) 40 (eq_s (w := ew_i (ei n)) (by show ew_i (s 130 2 i) = _; rw [h1]) ?_)
  show ew_W (ew_Call d) 210 K (19, [some (ew_o 130 i), some (ew_o 148 i), none, none], [ew_i (ei n)], ew_hp (ew_u s 130 0 i (s 130 0 i + 1)) m)
  refine ew_go (fun pc => Nat.beq pc 26) 40 ⟨trivial, ?_⟩
  show ew_W (ew_Call d) 210 K (26, [some (ew_o 130 i), some (ew_o 148 i), some (ew_i (ei n)), none], [ew_i 0], ew_put (ew_hp (ew_u s 130 0 i (s 130 0 i + 1)) m) 130 i 2 (ew_i 0))
  exact eq_1 rfl (ew_go (fun pc => Nat.beq pc 27) 40 (xl_clear130 (d := d) (fun _ => rfl) hn g n 0 0 rfl (by omega)))
theorem xm_cleare130 {i n : Nat} (h1 : s 130 2 i = ei n) (a1 : m.1 130 i 1 = ew_o 212 0) (hn : n ≤ 10) (h0 : ¬ 0 < n) (g : K (.inl none) (ew_hp (ew_u (ew_u s 130 0 i (s 130 0 i + 1)) 130 2 i 0) (ef_cl m 148 i n))) : ew_Call (d + 1) 210 [ew_o 130 i] (ew_hp s m) K := by
  refine ew_call (ew_go (fun pc => Nat.beq pc 10) 40 ⟨trivial, ?_⟩)
  show ew_W (ew_Call d) 210 K (10, [some (ew_o 130 i), none, none, none], [], ew_put (ew_hp s m) 130 i 0 (ew_i (s 130 0 i + 1)))
  refine eq_1 rfl (ew_go (fun pc => Nat.beq pc 14) 40 (eq_s a1 ?_))
  show ew_W (ew_Call d) 210 K (14, [some (ew_o 130 i), none, none, none], [ew_o 212 0], ew_hp (ew_u s 130 0 i (s 130 0 i + 1)) m)
  refine ew_go (fun pc => Nat.beq pc 19) 40 (eq_s (w := ew_i (ei n)) (by show ew_i (s 130 2 i) = _; rw [h1]) ?_)
  show ew_W (ew_Call d) 210 K (19, [some (ew_o 130 i), some (ew_o 212 0), none, none], [ew_i (ei n)], ew_hp (ew_u s 130 0 i (s 130 0 i + 1)) m)
  refine ew_go (fun pc => Nat.beq pc 26) 40 ⟨trivial, ?_⟩
  show ew_W (ew_Call d) 210 K (26, [some (ew_o 130 i), some (ew_o 212 0), some (ew_i (ei n)), none], [ew_i 0], ew_put (ew_hp (ew_u s 130 0 i (s 130 0 i + 1)) m) 130 i 2 (ew_i 0))
  exact eq_1 rfl (ew_go (fun pc => Nat.beq pc 27) 40 (xl_clear130 (d := d) (fun z => absurd z h0) hn g n 0 0 rfl (by omega)))
theorem xm_clear130 {i n : Nat} {es : Nat → ew_V} (hL : LR 130 i n es s m) (G : GI m) (g : ∀ s' m' es', LR 130 i 0 es' s' m' → Ex (Pl 130 i) 0 s m s' m' → GI m' → K (.inl none) (ew_hp s' m')) : ew_Call (d + 1) 210 [ew_o 130 i] (ew_hp s m) K := by
  obtain ⟨l1, l2⟩ := hL.clr rfl (s 130 0 i + 1) es
  have g' := g _ _ es l1 l2 (by
    obtain ⟨g1, g2, g3⟩ := G
    have e := ef_cl_2 m 148 i n
    unfold GI
    rw [e]; exact ⟨g1, g2, g3⟩)
  rcases hL.2.2.2 with ⟨a1, a2, -⟩ | ⟨a1, a2, h0⟩
  · exact xm_clearc130 hL.2.1 a1 hL.2.2.1 g'
  · exact xm_cleare130 hL.2.1 a1 hL.2.2.1 (by omega) g'
theorem xl_remove130 {i n b : Nat} (h0 : 0 < n) (hn : n ≤ 10) (g : K (.inl none) (ew_hp (ew_u s 130 2 i (ei (n - 1))) (ew_put m 148 i (n - 1) ew_0))) : ew_W (ew_Call d) 209 K (34, [some (ew_o 130 i), some (ew_o 148 i), some (ew_i 0), some (ew_i (ei (n - 1)))], [], ew_hp s m) := by
  refine ew_go (fun pc => Nat.beq pc 41) 40 ⟨trivial, ?_⟩
  show ew_W (ew_Call d) 209 K (41, [some (ew_o 130 i), some (ew_o 148 i), some (ew_i 0), some (ew_i (ei (n - 1)))], [ew_i (ei (n - 1)), ew_o 148 i], ew_put (ew_hp s m) 130 i 2 (ew_i (ei (n - 1))))
  refine eq_1 rfl (ew_go (fun _ => false) 40 ⟨⟨ei_ix (n := 10) (by omega) (by decide), trivial⟩, trivial, ?_⟩)
  show K (.inl none) (ew_put (ew_hp (ew_u s 130 2 i (ei (n - 1))) m) 148 i (ei (n - 1)).toNatClampNeg ew_0)
  rw [ei_nat (by omega)]
  exact ek_t rfl g
theorem xm_fast130 {i n : Nat} {es : Nat → ew_V} (hL : LR 130 i n es s m) (h0 : 0 < n) (he : ∀ j, j < n → ∃ b, es j = ew_o 0 b) (g : ∀ f : Nat → ew_V, (∀ j, j + 1 < n → f j = es (j + 1)) → K (.inl none) (ew_hp (ew_u (ew_u s 130 0 i (s 130 0 i + 1)) 130 2 i (ei (n - 1))) (ew_put (ew_cpy m 148 i 0 (n - 1) f) 148 i (n - 1) ew_0))) : ew_Call (d + 1) 209 [ew_o 130 i, ew_o 148 i, ew_i 0] (ew_hp s m) K := by
  have h1 := hL.2.1
  have hn := hL.2.2.1
  obtain ⟨a1, a2, a3⟩ := hL.ne h0
  have hm1 : s 130 2 i - 1 = ei (n - 1) := by rw [h1]; exact ei_sub (b := 1) h0
  refine ew_call (ew_go (fun pc => Nat.beq pc 10) 40 ⟨trivial, ?_⟩)
  show ew_W (ew_Call d) 209 K (10, [some (ew_o 130 i), some (ew_o 148 i), some (ew_i 0), none], [], ew_put (ew_hp s m) 130 i 0 (ew_i (s 130 0 i + 1)))
  refine eq_1 rfl (ew_go (fun pc => Nat.beq pc 16) 40 (eq_s (w := ew_i (ei (n - 1))) (by show ew_i (s 130 2 i - 1) = _; rw [hm1]) ?_))
  show ew_W (ew_Call d) 209 K (16, [some (ew_o 130 i), some (ew_o 148 i), some (ew_i 0), none], [ew_i (ei (n - 1))], ew_hp (ew_u s 130 0 i (s 130 0 i + 1)) m)
  refine ew_go (fun pc => Nat.beq pc 34) 40 ⟨fun c => ?_, fun c => ⟨⟨by decide, by decide, ?_, ?_, ?_, fun j hj => ?_⟩, ?_⟩⟩
  · have c : ei (n - 1) ≤ ei 0 := c
    rw [ei_le (by omega) (by decide)] at c
    have := g (fun _ => ew_0) (fun j hj => by omega)
    have e : ew_cpy m 148 i 0 (n - 1) (fun _ => ew_0) = m := by
      refine Prod.ext ?_ rfl
      funext k' i' p'
      show (bif Nat.beq k' 148 then (bif Nat.beq i' i then (bif Nat.ble 0 p' && Nat.blt p' (0 + (n - 1)) then ew_0 else m.1 k' i' p') else m.1 k' i' p') else m.1 k' i' p') = m.1 k' i' p'
      rw [show Nat.blt p' (0 + (n - 1)) = false from by rw [show 0 + (n - 1) = 0 by omega]; rfl, Bool.and_false, cond_false]
      cases Nat.beq k' 148 <;> cases Nat.beq i' i <;> rfl
    rw [e] at this
    exact xl_remove130 (b := 0) h0 hn this
  · show ¬ ei (n - 1) - 0 < 0
    rw [Int32.sub_zero]
    exact ei_nn (by omega)
  · show (0 + 1 : Int32).toNatClampNeg + (ei (n - 1) - 0).toNatClampNeg ≤ 10
    rw [Int32.sub_zero, ei_nat (by omega)]
    show 1 + (n - 1) ≤ 10
    omega
  · show (0 : Int32).toNatClampNeg + (ei (n - 1) - 0).toNatClampNeg ≤ 10
    rw [Int32.sub_zero, ei_nat (by omega)]
    show 0 + (n - 1) ≤ 10
    omega
  · have hj : j < (ei (n - 1) - 0).toNatClampNeg := hj
    rw [Int32.sub_zero, ei_nat (by omega)] at hj
    obtain ⟨b, hb⟩ := he (1 + j) (by omega)
    show ew_fit 2 (m.1 148 i (1 + j))
    rw [a3 (1 + j) (by omega), hb]; rfl
  · show ew_W (ew_Call d) 209 K (34, [some (ew_o 130 i), some (ew_o 148 i), some (ew_i 0), some (ew_i (ei (n - 1)))], [], ew_cpy (ew_hp (ew_u s 130 0 i (s 130 0 i + 1)) m) 148 i 0 (ei (n - 1) - 0).toNatClampNeg (fun j => m.1 148 i (1 + j)))
    rw [Int32.sub_zero, ei_nat (by omega), ew_hp_cpt (fun _ => rfl)]
    exact xl_remove130 (b := 0) h0 hn (g _ (fun j hj => by rw [a3 (1 + j) (by omega), Nat.add_comm]))
theorem xm_remove130 {i n : Nat} {es : Nat → ew_V} (hL : LR 130 i n es s m) (G : GI m) (h0 : 0 < n) (he : ∀ j, j < n → ∃ b, es j = ew_o 0 b) (g : ∀ s' m' b, LR 130 i (n - 1) (fun j => es (j + 1)) s' m' → Ex (Pl 130 i) 0 s m s' m' → GI m' → K (.inl (some (ew_o 0 b))) (ew_hp s' m')) : ew_Call (d + 3) 208 [ew_o 130 i, ew_i 0] (ew_hp s m) K := by
  have h1 := hL.2.1
  have hn := hL.2.2.1
  obtain ⟨a1, a2, a3⟩ := hL.ne h0
  obtain ⟨b, hb⟩ := he 0 h0
  have hv' : m.1 148 i (0 : Int32).toNatClampNeg = ew_o 0 b := (a3 0 h0).trans hb
  refine ew_call (ew_go (fun pc => Nat.beq pc 9) 40 (xm_chk _ _ (by decide) ?_ ?_))
  · show ei 0 < s 130 2 i
    rw [h1, ei_lt (by omega) (by omega)]; exact h0
  show ew_W (ew_Call (d + 2)) 208 K (9, [some (ew_o 130 i), some (ew_i 0), none, none], [], ew_hp s m)
  refine ew_go (fun pc => Nat.beq pc 13) 40 (eq_s a1 ?_)
  show ew_W (ew_Call (d + 2)) 208 K (13, [some (ew_o 130 i), some (ew_i 0), none, none], [ew_o 148 i], ew_hp s m)
  refine ew_go (fun pc => Nat.beq pc 17) 40 ⟨ei_ix (j := 0) (n := 10) (by decide) (by decide), eq_s hv' ?_⟩
  show ew_W (ew_Call (d + 2)) 208 K (17, [some (ew_o 130 i), some (ew_i 0), some (ew_o 148 i), none], [ew_o 0 b], ew_hp s m)
  refine ew_go (fun _ => false) 40 (xm_fast130 hL h0 he (fun f hf => ⟨trivial, ?_⟩))
  obtain ⟨l1, l2⟩ := hL.rem rfl h0 (s 130 0 i + 1) hf
  exact g _ _ b l1 l2 G
theorem xm_size162 {i n : Nat} {es : Nat → ew_V} (hL : LR 162 i n es s m) (g : K (.inl (some (ew_i (ei n)))) (ew_hp s m)) : ew_Call (d + 1) 201 [ew_o 162 i] (ew_hp s m) K := by
  rw [← hL.2.1] at g
  exact ew_call (ew_go (fun _ => false) 20 ⟨trivial, g⟩)
theorem xm_get162 {i n j : Nat} {es : Nat → ew_V} (hL : LR 162 i n es s m) (hj : j < n) {x : Int32} (hx : x = ei j) {a b : Nat} (hv : es j = ew_o a b) (g : K (.inl (some (ew_o a b))) (ew_hp s m)) : ew_Call (d + 3) 205 [ew_o 162 i, ew_i x] (ew_hp s m) K := by
  subst hx
  have hn := hL.2.2.1
  have h1 := hL.2.1
  obtain ⟨a1, a2, a3⟩ := hL.ne (by omega)
  have hv' : m.1 180 i (ei j).toNatClampNeg = ew_o a b := by rw [ei_nat (by omega), a3 j hj, hv]
  refine ew_call (ew_go (fun _ => false) 40 (xm_chk _ _ (ei_nn (by omega)) ?_ ?_))
  · show ei j < s 162 2 i
    rw [h1, ei_lt (by omega) (by omega)]; exact hj
  · refine ew_call (ew_go (fun pc => Nat.beq pc 4) 20 (eq_s a1 ?_))
    exact ew_go (fun pc => Nat.beq pc 6) 20 ⟨ei_ix (n := 10) (by omega) (by decide), eq_s hv' (ew_go (fun _ => false) 20 ⟨trivial, trivial, g⟩)⟩
theorem xm_grow1162 {i n : Nat} (a1 : m.1 162 i 1 = ew_o 212 0) (hx : m.2.2.1 180 i = false) {y : Int32} (hy : y = ei n) (hn : n ≤ 10) (g : K (.inl (some (ew_o 180 i))) (ew_hp s (ew_put (ew_mk m 180 i 10 (fun _ => ew_0)) 162 i 1 (ew_o 180 i)))) : ew_Call (d + 1) 199 [ew_o 162 i, ew_i y] (ew_hp s m) K := by
  subst hy
  refine ew_call (ew_go (fun pc => Nat.beq pc 4) 20 (eq_s a1 ?_))
  refine ew_go (fun pc => Nat.beq pc 14) 40 ⟨fun c => absurd c (show ¬ (0 : Int32) < ei 0 by decide), fun c => eq_s a1 ?_⟩
  refine ew_go (fun pc => Nat.beq pc 55) 40 ⟨⟨?_, hx⟩, eq_m (fun _ => rfl) ?_⟩
  · show ew_max 10 (ei n) = 10
    unfold ew_max
    rw [if_neg]
    show ¬ ei 10 < ei n
    rw [ei_lt (by decide) (by omega)]; omega
  · exact ew_go (fun _ => false) 40 ⟨rfl, trivial, ek_t rfl g⟩
theorem xm_grow0162 {i : Nat} (a1 : m.1 162 i 1 = ew_o 212 0) (hx : m.2.2.1 180 i = false) (h0 : s 162 2 i = ei 0) (g : K (.inl (some (ew_o 180 i))) (ew_hp s (ew_put (ew_mk m 180 i 10 (fun _ => ew_0)) 162 i 1 (ew_o 180 i)))) : ew_Call (d + 2) 200 [ew_o 162 i] (ew_hp s m) K :=
  ew_call (ew_go (fun _ => false) 40 (xm_grow1162 (n := 1) a1 hx (by show s 162 2 i + 1 = ei 1; rw [h0]; rfl) (by decide) ⟨trivial, g⟩))

theorem xm_addc162 {i n x : Nat} {y : Int32} (hy : y = ei n) (hn : n < 10) (g : K (.inl none) (ew_hp (ew_u s 162 2 i (ei (n + 1))) (ew_put m 180 i n (ew_o 561 x)))) : ew_Call (d + 3) 206 [ew_o 162 i, ew_o 561 x, ew_o 180 i, ew_i y] (ew_hp s m) K := by
  subst hy
  refine ew_call (ew_go (fun pc => Nat.beq pc 15) 40 ⟨fun c => ⟨⟨ei_ix (n := 10) hn (by decide), rfl⟩, ?_⟩, fun c => absurd (show ¬ ei n = ei 10 from fun z => ?_) c⟩)
  · show ew_W (ew_Call (d + 2)) 206 K (15, [some (ew_o 162 i), some (ew_o 561 x), some (ew_o 180 i), some (ew_i (ei n))], [], ew_put (ew_hp s m) 180 i (ei n).toNatClampNeg (ew_o 561 x))
    rw [ei_nat (by omega)]
    refine eq_t rfl (ew_go (fun _ => false) 40 ⟨trivial, trivial, ?_⟩)
    show K (.inl none) (ew_put (ew_hp s (ew_put m 180 i n (ew_o 561 x))) 162 i 2 (ew_i (ei n + 1)))
    rw [ei_1]
    exact ek_p rfl g
  · have := (ei_inj (by omega) (by decide)).mp z
    omega
theorem xm_adde162 {i x : Nat} {y : Int32} (hy : y = ei 0) (a1 : m.1 162 i 1 = ew_o 212 0) (hx : m.2.2.1 180 i = false) (h0 : s 162 2 i = ei 0) (g : K (.inl none) (ew_hp (ew_u s 162 2 i (ei 1)) (ew_put (ew_put (ew_mk m 180 i 10 (fun _ => ew_0)) 162 i 1 (ew_o 180 i)) 180 i 0 (ew_o 561 x)))) : ew_Call (d + 3) 206 [ew_o 162 i, ew_o 561 x, ew_o 212 0, ew_i y] (ew_hp s m) K := by
  subst hy
  refine ew_call (ew_go (fun pc => Nat.beq pc 15) 40 ⟨fun c => absurd (show ei 0 = ei 0 from rfl) c, fun c => xm_grow0162 a1 hx h0 ⟨⟨ei_ix (j := 0) (n := 10) (by decide) (by decide), rfl⟩, ?_⟩⟩)
  show ew_W (ew_Call (d + 2)) 206 K (15, [some (ew_o 162 i), some (ew_o 561 x), some (ew_o 180 i), some (ew_i (ei 0))], [], ew_put (ew_hp s (ew_put (ew_mk m 180 i 10 (fun _ => ew_0)) 162 i 1 (ew_o 180 i))) 180 i 0 (ew_o 561 x))
  exact eq_t rfl (ew_go (fun _ => false) 40 ⟨trivial, trivial, ek_p rfl g⟩)
theorem xm_add162 {i n : Nat} {es : Nat → ew_V} (hL : LR 162 i n es s m) (G : GI m) (hn : n < 10) (x : Nat) (g : ∀ s' m', LR 162 i (n + 1) (fun j => if j = n then ew_o 561 x else es j) s' m' → Ex (Pl 162 i) 1 s m s' m' → GI m' → K (.inl (some (ew_i 1))) (ew_hp s' m')) : ew_Call (d + 4) 207 [ew_o 162 i, ew_o 561 x] (ew_hp s m) K := by
  have h1 := hL.2.1
  refine ew_call (ew_go (fun pc => Nat.beq pc 10) 40 ⟨trivial, ?_⟩)
  show ew_W (ew_Call (d + 3)) 207 K (10, [some (ew_o 162 i), some (ew_o 561 x)], [], ew_put (ew_hp s m) 162 i 0 (ew_i (s 162 0 i + 1)))
  refine eq_1 rfl ?_
  rcases hL.2.2.2 with ⟨a1, a2, -⟩ | ⟨a1, a2, rfl⟩
  · obtain ⟨l1, l2⟩ := hL.adc rfl hn a1 a2 (s 162 0 i + 1) (ew_o 561 x)
    have k := g _ _ l1 (l2.le (Nat.zero_le _)) G
    exact ew_go (fun _ => false) 40 (ec_a3 a1 (xm_addc162 h1 hn ⟨Or.inr rfl, k⟩))
  · obtain ⟨l1, l2⟩ := hL.ad0 rfl a2 (s 162 0 i + 1) (ew_o 561 x)
    have k := g _ _ l1 l2 (G.arr (k := 162) (z := fun _ => ew_0) rfl hL.1)
    exact ew_go (fun _ => false) 40 (ec_a3 a1 (xm_adde162 h1 a1 a2 h1 ⟨Or.inr rfl, k⟩))
end
