/-! The model's iterators; whole lists added; lists made. -/
/-- iterator t of list i stands ahead of place j -/
def IT (k i t j : Nat) (s : ew_S) (m : ew_H) : Prop := s 1 0 t = ei j ∧ s 1 2 t = s k 0 i ∧ m.1 1 t 3 = ew_o k i
theorem IT.ex {k i t j : Nat} {s s' : ew_S} {m m' : ew_H} {P : Nat → Nat → Nat → Prop} {c : Nat} (h : IT k i t j s m) (hx : m.2.2.1 k i = true) (hx2 : m.2.2.1 1 t = true) (e : Ex P c s m s' m') (n1 : ∀ p, ¬ P 1 p t) (n2 : ¬ P k 0 i) : IT k i t j s' m' := by
  obtain ⟨h1, h2, h3⟩ := h
  exact ⟨(e.2.2.1 _ _ _ hx2 (n1 0)).1.trans h1, by rw [(e.2.2.1 _ _ _ hx2 (n1 2)).1, (e.2.2.1 _ _ _ hx n2).1]; exact h2, (e.2.2.1 _ _ _ hx2 (n1 3)).2.trans h3⟩
section
variable {C : Nat → List ew_V → ew_H → (ew_R → ew_H → Prop) → Prop} {K : ew_R → ew_H → Prop} {y pc : Nat} {ls : List (Option ew_V)} {st as : List ew_V} {s : ew_S} {m h : ew_H} {k i p N d z a n : Nat} {v w : ew_V} {r : ew_R} {f : Nat → ew_V}
theorem eq_x (hs : ∀ p, ew_sh k p = none ∨ (ew_sh k p = some none ∧ f p = ew_i 0)) (g : ew_W C y K (pc, ls, st, ew_hp (ef_z s k i) (ew_mk m k i N f))) : ew_W C y K (pc, ls, st, ew_mk (ew_hp s m) k i N f) := by rw [ew_hp_mkx hs]; exact g
theorem ek_m (hs : ∀ p, ew_sh k p = none) (g : K r (ew_hp s (ew_mk m k i N f))) : K r (ew_mk (ew_hp s m) k i N f) := by rw [ew_hp_mkt hs]; exact g
theorem eq_c (hs : ∀ p, ew_sh k p = none) (g : ew_W C y K (pc, ls, st, ew_hp s (ew_cpy m k i a n f))) : ew_W C y K (pc, ls, st, ew_cpy (ew_hp s m) k i a n f) := by rw [ew_hp_cpt hs]; exact g
end
theorem ew_sh_1 (p : Nat) : ew_sh 1 p = none ∨ (ew_sh 1 p = some none ∧ et_dv 1 p = ew_i 0) := by
  show (bif Nat.beq p 3 then none else some none) = none ∨ ((bif Nat.beq p 3 then none else some none) = some none ∧ et_dv 1 p = ew_i 0)
  by_cases h : p = 3
  · subst h; exact Or.inl rfl
  · right
    rw [ew_bne h]
    refine ⟨rfl, ?_⟩
    rcases p with _ | _ | _ | _ | p
    · rfl
    · rfl
    · rfl
    · exact absurd rfl h
    · rfl
section
variable {d : Nat} {s : ew_S} {m h : ew_H} {K : ew_R → ew_H → Prop}
theorem xm_itn (G : GI m) {i k : Nat} (x : Int32) (v : ew_V) : Ex P0 1 s m (ew_u (ew_u (ef_z s 1 (m.2.2.2.1 1)) 1 1 (m.2.2.2.1 1) (-1)) 1 2 (m.2.2.2.1 1) x) (ew_put (ew_mk m 1 (m.2.2.2.1 1) 4 (et_dv 1)) 1 (m.2.2.2.1 1) 3 v) ∧ GI (ew_put (ew_mk m 1 (m.2.2.2.1 1) 4 (et_dv 1)) 1 (m.2.2.2.1 1) 3 v) := by
  have hn := G.new (k := 1) rfl
  exact ⟨(((((Ex.rf _ _ _).mk _ rfl (by decide) hn (fun k' h' e => by omega)).zs rfl hn).u _ rfl (Or.inr hn)).u _ rfl (Or.inr hn)).put _ rfl (Or.inr hn), G.mk1 (z := et_dv 1) rfl⟩

theorem xm_itInit2 {i t : Nat} (g : K (.inl none) (ew_hp (ew_u (ew_u s 1 1 t (-1)) 1 2 t (s 2 0 i)) (ew_put m 1 t 3 (ew_o 2 i)))) : ew_Call (d + 1) 194 [ew_o 1 t, ew_o 2 i] (ew_hp s m) K := by
  refine ew_call (ew_go (fun pc => Nat.beq pc 5) 40 ⟨rfl, ?_⟩)
  show ew_W (ew_Call d) 194 K (5, [some (ew_o 1 t), some (ew_o 2 i)], [], ew_put (ew_hp s m) 1 t 3 (ew_o 2 i))
  refine eq_t rfl (ew_go (fun pc => Nat.beq pc 14) 40 ⟨trivial, ?_⟩)
  show ew_W (ew_Call d) 194 K (14, [some (ew_o 1 t), some (ew_o 2 i)], [], ew_put (ew_hp s (ew_put m 1 t 3 (ew_o 2 i))) 1 t 1 (ew_i (-1)))
  refine eq_1 rfl (ew_go (fun pc => Nat.beq pc 19) 40 (eq_s (ep_self m 1 t 3 (ew_o 2 i)) ?_))
  show ew_W (ew_Call d) 194 K (19, [some (ew_o 1 t), some (ew_o 2 i)], [ew_o 2 i, ew_o 1 t], ew_hp (ew_u s 1 1 t (-1)) (ew_put m 1 t 3 (ew_o 2 i)))
  exact ew_go (fun _ => false) 40 ⟨trivial, trivial, ek_p rfl g⟩
theorem xm_iter2 {i : Nat} (G : GI m) (hx : m.2.2.1 2 i = true) (g : ∀ s' m' t, IT 2 i t 0 s' m' → Ex P0 1 s m s' m' → GI m' → m.2.2.1 1 t = false → m'.2.2.1 1 t = true → K (.inl (some (ew_o 1 t))) (ew_hp s' m')) : ew_Call (d + 2) 212 [ew_o 2 i] (ew_hp s m) K := by
  refine ew_call (ew_go (fun pc => Nat.beq pc 3) 40 ?_)
  show ew_W (ew_Call (d + 1)) 212 K (3, [some (ew_o 2 i)], [ew_o 1 (m.2.2.2.1 1)], ew_mk (ew_hp s m) 1 (m.2.2.2.1 1) 4 (et_dv 1))
  refine eq_x ew_sh_1 (ew_go (fun _ => false) 40 (xm_itInit2 ⟨trivial, ?_⟩))
  obtain ⟨e1, e2⟩ := xm_itn (i := i) (k := 2) (s := s) G (ef_z s 1 (m.2.2.2.1 1) 2 0 i) (ew_o 2 i)
  refine g _ _ _ ⟨?_, ?_, ep_self _ _ _ _ _⟩ e1 e2 (G.new rfl) (em_xs m 1 (m.2.2.2.1 1) 4 (et_dv 1))
  · rw [ew_u_ne _ _ (by omega), ew_u_ne _ _ (by omega), ef_z_self]; rfl
  · rw [ew_u_self, ew_u_ne _ _ (by omega), ew_u_ne _ _ (by omega)]
theorem xm_hasNext2 {i t j n : Nat} {es : Nat → ew_V} (hL : LR 2 i n es s m) (hI : IT 2 i t j s m) (hj : j ≤ n) (g1 : j = n → K (.inl (some (ew_i 0))) (ew_hp s m)) (g2 : j < n → K (.inl (some (ew_i 1))) (ew_hp s m)) : ew_Call (d + 1) 195 [ew_o 1 t] (ew_hp s m) K := by
  have hn := hL.2.2.1
  refine ew_call (ew_go (fun pc => Nat.beq pc 8) 40 (eq_s hI.2.2 ?_))
  show ew_W (ew_Call d) 195 K (8, [some (ew_o 1 t)], [ew_o 2 i, ew_i (s 1 0 t)], ew_hp s m)
  refine ew_go (fun _ => false) 40 ⟨fun c => ⟨Or.inl rfl, g1 ?_⟩, fun c => ⟨Or.inr rfl, g2 ?_⟩⟩
  · have c : s 1 0 t = s 2 2 i := c
    rw [hI.1, hL.2.1] at c
    exact (ei_inj (by omega) (by omega)).mp c
  · have c : ¬ s 1 0 t = s 2 2 i := c
    rw [hI.1, hL.2.1] at c
    have : ¬ j = n := fun z => c (by rw [z])
    omega
theorem xm_next2 {i t j n : Nat} {es : Nat → ew_V} (hL : LR 2 i n es s m) (hI : IT 2 i t j s m) (hj : j < n) {a b : Nat} (hv : es j = ew_o a b) (g : K (.inl (some (ew_o a b))) (ew_hp (ew_u (ew_u s 1 0 t (ei (j + 1))) 1 1 t (ei j)) m)) : ew_Call (d + 2) 196 [ew_o 1 t] (ew_hp s m) K := by
  have hn := hL.2.2.1
  obtain ⟨a1, a2, a3⟩ := hL.ne (by omega)
  have hv' : m.1 20 i (ei j).toNatClampNeg = ew_o a b := by rw [ei_nat (by omega), a3 j hj, hv]
  have chk : ∀ K' : ew_R → ew_H → Prop, K' (.inl none) (ew_hp s m) → ew_Call (d + 1) 197 [ew_o 1 t] (ew_hp s m) K' := fun K' g => by
    refine ew_call (ew_go (fun pc => Nat.beq pc 4) 40 (eq_s hI.2.2 ?_))
    show ew_W (ew_Call d) 197 K' (4, [some (ew_o 1 t)], [ew_o 2 i], ew_hp s m)
    exact ew_go (fun _ => false) 40 ⟨fun c => ⟨trivial, g⟩, fun c => absurd hI.2.1.symm c⟩
  refine ew_call (ew_go (fun pc => Nat.beq pc 4) 40 (chk _ ?_))
  show ew_W (ew_Call (d + 1)) 196 K (4, [some (ew_o 1 t), none, none], [], ew_hp s m)
  refine ew_go (fun pc => Nat.beq pc 8) 40 (eq_s (w := ew_i (ei j)) (by show ew_i (s 1 0 t) = _; rw [hI.1]) ?_)
  show ew_W (ew_Call (d + 1)) 196 K (8, [some (ew_o 1 t), none, none], [ew_i (ei j)], ew_hp s m)
  refine ew_go (fun pc => Nat.beq pc 14) 40 (eq_s hI.2.2 ?_)
  show ew_W (ew_Call (d + 1)) 196 K (14, [some (ew_o 1 t), some (ew_i (ei j)), none], [ew_o 2 i, ew_i (ei j)], ew_hp s m)
  have lt : ei j < s 2 2 i := by rw [hL.2.1, ei_lt (by omega) (by omega)]; exact hj
  refine ew_go (fun pc => Nat.beq pc 32) 40 ⟨fun c => eq_s hI.2.2 ?_, fun c => absurd lt c⟩
  show ew_W (ew_Call (d + 1)) 196 K (32, [some (ew_o 1 t), some (ew_i (ei j)), none], [ew_o 2 i], ew_hp s m)
  refine ew_go (fun pc => Nat.beq pc 35) 40 (eq_s a1 ?_)
  show ew_W (ew_Call (d + 1)) 196 K (35, [some (ew_o 1 t), some (ew_i (ei j)), none], [ew_o 20 i], ew_hp s m)
  have lt2 : ei j < ei 10 := (ei_lt (by omega) (by decide)).mpr (by omega)
  refine ew_go (fun pc => Nat.beq pc 57) 40 ⟨fun c => ⟨trivial, ?_⟩, fun c => absurd lt2 c⟩
  show ew_W (ew_Call (d + 1)) 196 K (57, [some (ew_o 1 t), some (ew_i (ei j)), some (ew_o 20 i)], [], ew_put (ew_hp s m) 1 t 0 (ew_i (ei j + 1)))
  rw [ei_1]
  refine eq_1 rfl (ew_go (fun pc => Nat.beq pc 64) 40 ⟨trivial, ?_⟩)
  show ew_W (ew_Call (d + 1)) 196 K (64, [some (ew_o 1 t), some (ew_i (ei j)), some (ew_o 20 i)], [ew_i (ei j), ew_o 20 i], ew_put (ew_hp (ew_u s 1 0 t (ei (j + 1))) m) 1 t 1 (ew_i (ei j)))
  refine eq_1 rfl (ew_go (fun pc => Nat.beq pc 65) 40 ⟨ei_ix (n := 10) (by omega) (by decide), eq_s hv' ?_⟩)
  show ew_W (ew_Call (d + 1)) 196 K (65, [some (ew_o 1 t), some (ew_i (ei j)), some (ew_o 20 i)], [ew_o a b], ew_hp (ew_u (ew_u s 1 0 t (ei (j + 1))) 1 1 t (ei j)) m)
  exact ew_go (fun _ => false) 20 ⟨trivial, g⟩
theorem xm_itInit34 {i t : Nat} (g : K (.inl none) (ew_hp (ew_u (ew_u s 1 1 t (-1)) 1 2 t (s 34 0 i)) (ew_put m 1 t 3 (ew_o 34 i)))) : ew_Call (d + 1) 194 [ew_o 1 t, ew_o 34 i] (ew_hp s m) K := by
  refine ew_call (ew_go (fun pc => Nat.beq pc 5) 40 ⟨rfl, ?_⟩)
  show ew_W (ew_Call d) 194 K (5, [some (ew_o 1 t), some (ew_o 34 i)], [], ew_put (ew_hp s m) 1 t 3 (ew_o 34 i))
  refine eq_t rfl (ew_go (fun pc => Nat.beq pc 14) 40 ⟨trivial, ?_⟩)
  show ew_W (ew_Call d) 194 K (14, [some (ew_o 1 t), some (ew_o 34 i)], [], ew_put (ew_hp s (ew_put m 1 t 3 (ew_o 34 i))) 1 t 1 (ew_i (-1)))
  refine eq_1 rfl (ew_go (fun pc => Nat.beq pc 19) 40 (eq_s (ep_self m 1 t 3 (ew_o 34 i)) ?_))
  show ew_W (ew_Call d) 194 K (19, [some (ew_o 1 t), some (ew_o 34 i)], [ew_o 34 i, ew_o 1 t], ew_hp (ew_u s 1 1 t (-1)) (ew_put m 1 t 3 (ew_o 34 i)))
  exact ew_go (fun _ => false) 40 ⟨trivial, trivial, ek_p rfl g⟩
theorem xm_iter34 {i : Nat} (G : GI m) (hx : m.2.2.1 34 i = true) (g : ∀ s' m' t, IT 34 i t 0 s' m' → Ex P0 1 s m s' m' → GI m' → m.2.2.1 1 t = false → m'.2.2.1 1 t = true → K (.inl (some (ew_o 1 t))) (ew_hp s' m')) : ew_Call (d + 2) 212 [ew_o 34 i] (ew_hp s m) K := by
  refine ew_call (ew_go (fun pc => Nat.beq pc 3) 40 ?_)
  show ew_W (ew_Call (d + 1)) 212 K (3, [some (ew_o 34 i)], [ew_o 1 (m.2.2.2.1 1)], ew_mk (ew_hp s m) 1 (m.2.2.2.1 1) 4 (et_dv 1))
  refine eq_x ew_sh_1 (ew_go (fun _ => false) 40 (xm_itInit34 ⟨trivial, ?_⟩))
  obtain ⟨e1, e2⟩ := xm_itn (i := i) (k := 34) (s := s) G (ef_z s 1 (m.2.2.2.1 1) 34 0 i) (ew_o 34 i)
  refine g _ _ _ ⟨?_, ?_, ep_self _ _ _ _ _⟩ e1 e2 (G.new rfl) (em_xs m 1 (m.2.2.2.1 1) 4 (et_dv 1))
  · rw [ew_u_ne _ _ (by omega), ew_u_ne _ _ (by omega), ef_z_self]; rfl
  · rw [ew_u_self, ew_u_ne _ _ (by omega), ew_u_ne _ _ (by omega)]
theorem xm_hasNext34 {i t j n : Nat} {es : Nat → ew_V} (hL : LR 34 i n es s m) (hI : IT 34 i t j s m) (hj : j ≤ n) (g1 : j = n → K (.inl (some (ew_i 0))) (ew_hp s m)) (g2 : j < n → K (.inl (some (ew_i 1))) (ew_hp s m)) : ew_Call (d + 1) 195 [ew_o 1 t] (ew_hp s m) K := by
  have hn := hL.2.2.1
  refine ew_call (ew_go (fun pc => Nat.beq pc 8) 40 (eq_s hI.2.2 ?_))
  show ew_W (ew_Call d) 195 K (8, [some (ew_o 1 t)], [ew_o 34 i, ew_i (s 1 0 t)], ew_hp s m)
  refine ew_go (fun _ => false) 40 ⟨fun c => ⟨Or.inl rfl, g1 ?_⟩, fun c => ⟨Or.inr rfl, g2 ?_⟩⟩
  · have c : s 1 0 t = s 34 2 i := c
    rw [hI.1, hL.2.1] at c
    exact (ei_inj (by omega) (by omega)).mp c
  · have c : ¬ s 1 0 t = s 34 2 i := c
    rw [hI.1, hL.2.1] at c
    have : ¬ j = n := fun z => c (by rw [z])
    omega
theorem xm_next34 {i t j n : Nat} {es : Nat → ew_V} (hL : LR 34 i n es s m) (hI : IT 34 i t j s m) (hj : j < n) {a b : Nat} (hv : es j = ew_o a b) (g : K (.inl (some (ew_o a b))) (ew_hp (ew_u (ew_u s 1 0 t (ei (j + 1))) 1 1 t (ei j)) m)) : ew_Call (d + 2) 196 [ew_o 1 t] (ew_hp s m) K := by
  have hn := hL.2.2.1
  obtain ⟨a1, a2, a3⟩ := hL.ne (by omega)
  have hv' : m.1 52 i (ei j).toNatClampNeg = ew_o a b := by rw [ei_nat (by omega), a3 j hj, hv]
  have chk : ∀ K' : ew_R → ew_H → Prop, K' (.inl none) (ew_hp s m) → ew_Call (d + 1) 197 [ew_o 1 t] (ew_hp s m) K' := fun K' g => by
    refine ew_call (ew_go (fun pc => Nat.beq pc 4) 40 (eq_s hI.2.2 ?_))
    show ew_W (ew_Call d) 197 K' (4, [some (ew_o 1 t)], [ew_o 34 i], ew_hp s m)
    exact ew_go (fun _ => false) 40 ⟨fun c => ⟨trivial, g⟩, fun c => absurd hI.2.1.symm c⟩
  refine ew_call (ew_go (fun pc => Nat.beq pc 4) 40 (chk _ ?_))
  show ew_W (ew_Call (d + 1)) 196 K (4, [some (ew_o 1 t), none, none], [], ew_hp s m)
  refine ew_go (fun pc => Nat.beq pc 8) 40 (eq_s (w := ew_i (ei j)) (by show ew_i (s 1 0 t) = _; rw [hI.1]) ?_)
  show ew_W (ew_Call (d + 1)) 196 K (8, [some (ew_o 1 t), none, none], [ew_i (ei j)], ew_hp s m)
  refine ew_go (fun pc => Nat.beq pc 14) 40 (eq_s hI.2.2 ?_)
  show ew_W (ew_Call (d + 1)) 196 K (14, [some (ew_o 1 t), some (ew_i (ei j)), none], [ew_o 34 i, ew_i (ei j)], ew_hp s m)
  have lt : ei j < s 34 2 i := by rw [hL.2.1, ei_lt (by omega) (by omega)]; exact hj
  refine ew_go (fun pc => Nat.beq pc 32) 40 ⟨fun c => eq_s hI.2.2 ?_, fun c => absurd lt c⟩
  show ew_W (ew_Call (d + 1)) 196 K (32, [some (ew_o 1 t), some (ew_i (ei j)), none], [ew_o 34 i], ew_hp s m)
  refine ew_go (fun pc => Nat.beq pc 35) 40 (eq_s a1 ?_)
  show ew_W (ew_Call (d + 1)) 196 K (35, [some (ew_o 1 t), some (ew_i (ei j)), none], [ew_o 52 i], ew_hp s m)
  have lt2 : ei j < ei 10 := (ei_lt (by omega) (by decide)).mpr (by omega)
  refine ew_go (fun pc => Nat.beq pc 57) 40 ⟨fun c => ⟨trivial, ?_⟩, fun c => absurd lt2 c⟩
  show ew_W (ew_Call (d + 1)) 196 K (57, [some (ew_o 1 t), some (ew_i (ei j)), some (ew_o 52 i)], [], ew_put (ew_hp s m) 1 t 0 (ew_i (ei j + 1)))
  rw [ei_1]
  refine eq_1 rfl (ew_go (fun pc => Nat.beq pc 64) 40 ⟨trivial, ?_⟩)
  show ew_W (ew_Call (d + 1)) 196 K (64, [some (ew_o 1 t), some (ew_i (ei j)), some (ew_o 52 i)], [ew_i (ei j), ew_o 52 i], ew_put (ew_hp (ew_u s 1 0 t (ei (j + 1))) m) 1 t 1 (ew_i (ei j)))
  refine eq_1 rfl (ew_go (fun pc => Nat.beq pc 65) 40 ⟨ei_ix (n := 10) (by omega) (by decide), eq_s hv' ?_⟩)
  show ew_W (ew_Call (d + 1)) 196 K (65, [some (ew_o 1 t), some (ew_i (ei j)), some (ew_o 52 i)], [ew_o a b], ew_hp (ew_u (ew_u s 1 0 t (ei (j + 1))) 1 1 t (ei j)) m)
  exact ew_go (fun _ => false) 20 ⟨trivial, g⟩
theorem xm_itInit66 {i t : Nat} (g : K (.inl none) (ew_hp (ew_u (ew_u s 1 1 t (-1)) 1 2 t (s 66 0 i)) (ew_put m 1 t 3 (ew_o 66 i)))) : ew_Call (d + 1) 194 [ew_o 1 t, ew_o 66 i] (ew_hp s m) K := by
  refine ew_call (ew_go (fun pc => Nat.beq pc 5) 40 ⟨rfl, ?_⟩)
  show ew_W (ew_Call d) 194 K (5, [some (ew_o 1 t), some (ew_o 66 i)], [], ew_put (ew_hp s m) 1 t 3 (ew_o 66 i))
  refine eq_t rfl (ew_go (fun pc => Nat.beq pc 14) 40 ⟨trivial, ?_⟩)
  show ew_W (ew_Call d) 194 K (14, [some (ew_o 1 t), some (ew_o 66 i)], [], ew_put (ew_hp s (ew_put m 1 t 3 (ew_o 66 i))) 1 t 1 (ew_i (-1)))
  refine eq_1 rfl (ew_go (fun pc => Nat.beq pc 19) 40 (eq_s (ep_self m 1 t 3 (ew_o 66 i)) ?_))
  show ew_W (ew_Call d) 194 K (19, [some (ew_o 1 t), some (ew_o 66 i)], [ew_o 66 i, ew_o 1 t], ew_hp (ew_u s 1 1 t (-1)) (ew_put m 1 t 3 (ew_o 66 i)))
  exact ew_go (fun _ => false) 40 ⟨trivial, trivial, ek_p rfl g⟩
theorem xm_iter66 {i : Nat} (G : GI m) (hx : m.2.2.1 66 i = true) (g : ∀ s' m' t, IT 66 i t 0 s' m' → Ex P0 1 s m s' m' → GI m' → m.2.2.1 1 t = false → m'.2.2.1 1 t = true → K (.inl (some (ew_o 1 t))) (ew_hp s' m')) : ew_Call (d + 2) 212 [ew_o 66 i] (ew_hp s m) K := by
  refine ew_call (ew_go (fun pc => Nat.beq pc 3) 40 ?_)
  show ew_W (ew_Call (d + 1)) 212 K (3, [some (ew_o 66 i)], [ew_o 1 (m.2.2.2.1 1)], ew_mk (ew_hp s m) 1 (m.2.2.2.1 1) 4 (et_dv 1))
  refine eq_x ew_sh_1 (ew_go (fun _ => false) 40 (xm_itInit66 ⟨trivial, ?_⟩))
  obtain ⟨e1, e2⟩ := xm_itn (i := i) (k := 66) (s := s) G (ef_z s 1 (m.2.2.2.1 1) 66 0 i) (ew_o 66 i)
  refine g _ _ _ ⟨?_, ?_, ep_self _ _ _ _ _⟩ e1 e2 (G.new rfl) (em_xs m 1 (m.2.2.2.1 1) 4 (et_dv 1))
  · rw [ew_u_ne _ _ (by omega), ew_u_ne _ _ (by omega), ef_z_self]; rfl
  · rw [ew_u_self, ew_u_ne _ _ (by omega), ew_u_ne _ _ (by omega)]
theorem xm_hasNext66 {i t j n : Nat} {es : Nat → ew_V} (hL : LR 66 i n es s m) (hI : IT 66 i t j s m) (hj : j ≤ n) (g1 : j = n → K (.inl (some (ew_i 0))) (ew_hp s m)) (g2 : j < n → K (.inl (some (ew_i 1))) (ew_hp s m)) : ew_Call (d + 1) 195 [ew_o 1 t] (ew_hp s m) K := by
  have hn := hL.2.2.1
  refine ew_call (ew_go (fun pc => Nat.beq pc 8) 40 (eq_s hI.2.2 ?_))
  show ew_W (ew_Call d) 195 K (8, [some (ew_o 1 t)], [ew_o 66 i, ew_i (s 1 0 t)], ew_hp s m)
  refine ew_go (fun _ => false) 40 ⟨fun c => ⟨Or.inl rfl, g1 ?_⟩, fun c => ⟨Or.inr rfl, g2 ?_⟩⟩
  · have c : s 1 0 t = s 66 2 i := c
    rw [hI.1, hL.2.1] at c
    exact (ei_inj (by omega) (by omega)).mp c
  · have c : ¬ s 1 0 t = s 66 2 i := c
    rw [hI.1, hL.2.1] at c
    have : ¬ j = n := fun z => c (by rw [z])
    omega
theorem xm_next66 {i t j n : Nat} {es : Nat → ew_V} (hL : LR 66 i n es s m) (hI : IT 66 i t j s m) (hj : j < n) {a b : Nat} (hv : es j = ew_o a b) (g : K (.inl (some (ew_o a b))) (ew_hp (ew_u (ew_u s 1 0 t (ei (j + 1))) 1 1 t (ei j)) m)) : ew_Call (d + 2) 196 [ew_o 1 t] (ew_hp s m) K := by
  have hn := hL.2.2.1
  obtain ⟨a1, a2, a3⟩ := hL.ne (by omega)
  have hv' : m.1 84 i (ei j).toNatClampNeg = ew_o a b := by rw [ei_nat (by omega), a3 j hj, hv]
  have chk : ∀ K' : ew_R → ew_H → Prop, K' (.inl none) (ew_hp s m) → ew_Call (d + 1) 197 [ew_o 1 t] (ew_hp s m) K' := fun K' g => by
    refine ew_call (ew_go (fun pc => Nat.beq pc 4) 40 (eq_s hI.2.2 ?_))
    show ew_W (ew_Call d) 197 K' (4, [some (ew_o 1 t)], [ew_o 66 i], ew_hp s m)
    exact ew_go (fun _ => false) 40 ⟨fun c => ⟨trivial, g⟩, fun c => absurd hI.2.1.symm c⟩
  refine ew_call (ew_go (fun pc => Nat.beq pc 4) 40 (chk _ ?_))
  show ew_W (ew_Call (d + 1)) 196 K (4, [some (ew_o 1 t), none, none], [], ew_hp s m)
  refine ew_go (fun pc => Nat.beq pc 8) 40 (eq_s (w := ew_i (ei j)) (by show ew_i (s 1 0 t) = _; rw [hI.1]) ?_)
  show ew_W (ew_Call (d + 1)) 196 K (8, [some (ew_o 1 t), none, none], [ew_i (ei j)], ew_hp s m)
  refine ew_go (fun pc => Nat.beq pc 14) 40 (eq_s hI.2.2 ?_)
  show ew_W (ew_Call (d + 1)) 196 K (14, [some (ew_o 1 t), some (ew_i (ei j)), none], [ew_o 66 i, ew_i (ei j)], ew_hp s m)
  have lt : ei j < s 66 2 i := by rw [hL.2.1, ei_lt (by omega) (by omega)]; exact hj
  refine ew_go (fun pc => Nat.beq pc 32) 40 ⟨fun c => eq_s hI.2.2 ?_, fun c => absurd lt c⟩
  show ew_W (ew_Call (d + 1)) 196 K (32, [some (ew_o 1 t), some (ew_i (ei j)), none], [ew_o 66 i], ew_hp s m)
  refine ew_go (fun pc => Nat.beq pc 35) 40 (eq_s a1 ?_)
  show ew_W (ew_Call (d + 1)) 196 K (35, [some (ew_o 1 t), some (ew_i (ei j)), none], [ew_o 84 i], ew_hp s m)
  have lt2 : ei j < ei 10 := (ei_lt (by omega) (by decide)).mpr (by omega)
  refine ew_go (fun pc => Nat.beq pc 57) 40 ⟨fun c => ⟨trivial, ?_⟩, fun c => absurd lt2 c⟩
  show ew_W (ew_Call (d + 1)) 196 K (57, [some (ew_o 1 t), some (ew_i (ei j)), some (ew_o 84 i)], [], ew_put (ew_hp s m) 1 t 0 (ew_i (ei j + 1)))
  rw [ei_1]
  refine eq_1 rfl (ew_go (fun pc => Nat.beq pc 64) 40 ⟨trivial, ?_⟩)
  show ew_W (ew_Call (d + 1)) 196 K (64, [some (ew_o 1 t), some (ew_i (ei j)), some (ew_o 84 i)], [ew_i (ei j), ew_o 84 i], ew_put (ew_hp (ew_u s 1 0 t (ei (j + 1))) m) 1 t 1 (ew_i (ei j)))
  refine eq_1 rfl (ew_go (fun pc => Nat.beq pc 65) 40 ⟨ei_ix (n := 10) (by omega) (by decide), eq_s hv' ?_⟩)
  show ew_W (ew_Call (d + 1)) 196 K (65, [some (ew_o 1 t), some (ew_i (ei j)), some (ew_o 84 i)], [ew_o a b], ew_hp (ew_u (ew_u s 1 0 t (ei (j + 1))) 1 1 t (ei j)) m)
  exact ew_go (fun _ => false) 20 ⟨trivial, g⟩
theorem xm_linit2 {i : Nat} (g : K (.inl none) (ew_put (ew_put h 2 i 0 (ew_i 0)) 2 i 1 (ew_o 212 0))) : ew_Call (d + 3) 198 [ew_o 2 i] h K :=
  ew_call (ew_go (fun _ => false) 40 (ew_call (ew_go (fun _ => false) 40 (ew_call (ew_go (fun _ => false) 40 ⟨trivial, trivial, trivial, rfl, trivial, g⟩)))))
theorem xm_linit34 {i : Nat} (g : K (.inl none) (ew_put (ew_put h 34 i 0 (ew_i 0)) 34 i 1 (ew_o 212 0))) : ew_Call (d + 3) 198 [ew_o 34 i] h K :=
  ew_call (ew_go (fun _ => false) 40 (ew_call (ew_go (fun _ => false) 40 (ew_call (ew_go (fun _ => false) 40 ⟨trivial, trivial, trivial, rfl, trivial, g⟩)))))
theorem xm_linit66 {i : Nat} (g : K (.inl none) (ew_put (ew_put h 66 i 0 (ew_i 0)) 66 i 1 (ew_o 212 0))) : ew_Call (d + 3) 198 [ew_o 66 i] h K :=
  ew_call (ew_go (fun _ => false) 40 (ew_call (ew_go (fun _ => false) 40 (ew_call (ew_go (fun _ => false) 40 ⟨trivial, trivial, trivial, rfl, trivial, g⟩)))))
theorem xm_linit98 {i : Nat} (g : K (.inl none) (ew_put (ew_put h 98 i 0 (ew_i 0)) 98 i 1 (ew_o 212 0))) : ew_Call (d + 3) 198 [ew_o 98 i] h K :=
  ew_call (ew_go (fun _ => false) 40 (ew_call (ew_go (fun _ => false) 40 (ew_call (ew_go (fun _ => false) 40 ⟨trivial, trivial, trivial, rfl, trivial, g⟩)))))
theorem xm_linit130 {i : Nat} (g : K (.inl none) (ew_put (ew_put h 130 i 0 (ew_i 0)) 130 i 1 (ew_o 212 0))) : ew_Call (d + 3) 198 [ew_o 130 i] h K :=
  ew_call (ew_go (fun _ => false) 40 (ew_call (ew_go (fun _ => false) 40 (ew_call (ew_go (fun _ => false) 40 ⟨trivial, trivial, trivial, rfl, trivial, g⟩)))))
theorem xm_linit162 {i : Nat} (g : K (.inl none) (ew_put (ew_put h 162 i 0 (ew_i 0)) 162 i 1 (ew_o 212 0))) : ew_Call (d + 3) 198 [ew_o 162 i] h K :=
  ew_call (ew_go (fun _ => false) 40 (ew_call (ew_go (fun _ => false) 40 (ew_call (ew_go (fun _ => false) 40 ⟨trivial, trivial, trivial, rfl, trivial, g⟩)))))
end
