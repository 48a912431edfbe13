/-! Is there a port, a breaker: the model. -/
section
variable {d : Nat} {K : ew_R → ew_H → Prop} {nb ns np T : Nat} {β σ : Nat → Nat} {ρ : Nat → Nat → Nat} {z : ew_Z3} {a s : ew_S} {m : ew_H}
theorem xl_mport {x : Int32} {t : Nat} (k1 : ∀ s', RR 0 0 nb ns np T β σ ρ z a s' m → Ex P1 0 s m s' m → sp_pA x a = true → K (.inl (some (ew_i 1))) (ew_hp s' m)) (k0 : ∀ s', RR 0 0 nb ns np T β σ ρ z a s' m → Ex P1 0 s m s' m → sp_pA x a = false → K (.inl (some (ew_i 0))) (ew_hp s' m)) : ∀ (r j : Nat) (u : Option ew_V) (s1 : ew_S), j + r = np → (∀ p, p < j → ¬ a 6 4 p = x) → RR 0 0 nb ns np T β σ ρ z a s1 m → IT 66 0 t j s1 m → Ex P1 0 s m s1 m →
    ew_W (ew_Call (d + 2)) 148 K (11, [some (ew_o 16 0), some (ew_i x), some (ew_o 1 t), u], [], ew_hp s1 m) := by
  intro r
  induction r with
  | zero =>
    intro j u s1 hj hb h hI E
    obtain rfl : j = np := by omega
    have h5 := h.2.1.1
    have e : sp_pA x a = false := by
      unfold sp_pA
      rw [h.2.1.2.1.2.2, ei_nat (by omega)]
      exact ef_any_f (fun p hp => decide_eq_false (hb p hp))
    exact ew_go (fun pc => Nat.beq pc 11) 40 (xm_hasNext66 h.1.2.2.2.1 hI (Nat.le_refl _) (fun _ => ⟨fun _ => ⟨Or.inl rfl, k0 s1 h E e⟩, fun c => absurd rfl c⟩) (fun z => absurd z (Nat.lt_irrefl _)))
  | succ r ih =>
    intro j u s1 hj hb h hI E
    have h5 := h.2.1.1
    have hj2 : j < np := by omega
    have e1 := Ex.it (s := s1) (m := m) (t := t) (ei (j + 1)) (ei j)
    have h2 := h.ex1 e1 h.2.2.1
    have hI2 := hI.step (by decide)
    have f : s1 13 0 j = a 6 4 j := (h.1.2.2.2.2.2.2.1 j hj2).2.1
    have nx : (¬ a 6 4 j = x) → ∀ u', ew_W (ew_Call (d + 2)) 148 K (11, [some (ew_o 16 0), some (ew_i x), some (ew_o 1 t), u'], [], ew_hp (ew_u (ew_u s1 1 0 t (ei (j + 1))) 1 1 t (ei j)) m) := fun hn u' => ih (j + 1) u' _ (by omega) (fun p hp w => by
      by_cases q : p = j
      · exact hn (q ▸ w)
      · exact hb p (by omega) w) h2 hI2 (E.tr e1)
    by_cases c1 : a 6 4 j = x
    · have e : sp_pA x a = true := by
        unfold sp_pA
        rw [h.2.1.2.1.2.2, ei_nat (by omega)]
        exact ef_any_t ⟨j, hj2, decide_eq_true c1⟩
      exact ew_go (fun pc => Nat.beq pc 11) 60 (xm_hasNext66 h.1.2.2.2.1 hI (by omega) (fun z => absurd z (by omega)) (fun _ => ⟨fun c => absurd c (show ¬ (1 : Int32) = 0 by decide), fun _ => xm_next66 h.1.2.2.2.1 hI hj2 rfl ⟨fun z => absurd (f.trans c1) z, fun _ => ⟨Or.inr rfl, k1 _ h2 (E.tr e1) e⟩⟩⟩))
    · exact ew_go (fun pc => Nat.beq pc 11) 60 (xm_hasNext66 h.1.2.2.2.1 hI (by omega) (fun z => absurd z (by omega)) (fun _ => ⟨fun c => absurd c (show ¬ (1 : Int32) = 0 by decide), fun _ => xm_next66 h.1.2.2.2.1 hI hj2 rfl ⟨fun _ => nx c1 _, fun z => absurd (fun w => c1 (f.symm.trans w)) z⟩⟩))
theorem xm_mport (h : RR 0 0 nb ns np T β σ ρ z a s m) {x y : Int32} (hx : y = x) (k1 : sp_pA x a = true → ∀ s' m', RR 0 0 nb ns np T β σ ρ z a s' m' → Ex P1 1 s m s' m' → K (.inl (some (ew_i 1))) (ew_hp s' m')) (k0 : sp_pA x a = false → ∀ s' m', RR 0 0 nb ns np T β σ ρ z a s' m' → Ex P1 1 s m s' m' → K (.inl (some (ew_i 0))) (ew_hp s' m')) : ew_Call (d + 3) 148 [ew_o 16 0, ew_i y] (ew_hp s m) K := by
  subst hx
  exact ew_call (ew_go (fun pc => Nat.beq pc 11) 40 (xm_iter66 h.2.2.1 h.1.2.2.2.1.1 (fun s' m' t i1 i2 i3 i4 i5 => xl_mport (d := d) (s := s') (fun s2 R E e => k1 e s2 m' R ((i2.p1.tr E).le (by decide))) (fun s2 R E e => k0 e s2 m' R ((i2.p1.tr E).le (by decide))) np 0 none s' (by omega) (fun p hp => absurd hp (Nat.not_lt_zero _)) (h.ex1 i2.p1 i3) i1 (Ex.rf _ _ _))))
theorem xl_mbrk {x : Int32} {t : Nat} (k1 : ∀ s', RR 0 0 nb ns np T β σ ρ z a s' m → Ex P1 0 s m s' m → sp_bA x a = true → K (.inl (some (ew_i 1))) (ew_hp s' m)) (k0 : ∀ s', RR 0 0 nb ns np T β σ ρ z a s' m → Ex P1 0 s m s' m → sp_bA x a = false → K (.inl (some (ew_i 0))) (ew_hp s' m)) : ∀ (r j : Nat) (u : Option ew_V) (s1 : ew_S), j + r = nb → (∀ p, p < j → ¬ a 3 1 p = x) → RR 0 0 nb ns np T β σ ρ z a s1 m → IT 2 0 t j s1 m → Ex P1 0 s m s1 m →
    ew_W (ew_Call (d + 2)) 150 K (11, [some (ew_o 16 0), some (ew_i x), some (ew_o 1 t), u], [], ew_hp s1 m) := by
  intro r
  induction r with
  | zero =>
    intro j u s1 hj hb h hI E
    obtain rfl : j = nb := by omega
    have h5 := h.2.1.1
    have e : sp_bA x a = false := by
      unfold sp_bA
      rw [h.2.1.2.1.1, ei_nat (by omega)]
      exact ef_any_f (fun p hp => decide_eq_false (hb p hp))
    exact ew_go (fun pc => Nat.beq pc 11) 40 (xm_hasNext2 h.1.2.1 hI (Nat.le_refl _) (fun _ => ⟨fun _ => ⟨Or.inl rfl, k0 s1 h E e⟩, fun c => absurd rfl c⟩) (fun z => absurd z (Nat.lt_irrefl _)))
  | succ r ih =>
    intro j u s1 hj hb h hI E
    have h5 := h.2.1.1
    have hj2 : j < nb := by omega
    have e1 := Ex.it (s := s1) (m := m) (t := t) (ei (j + 1)) (ei j)
    have h2 := h.ex1 e1 h.2.2.1
    have hI2 := hI.step (by decide)
    have f : s1 12 0 (β j) = a 3 1 j := (h.1.2.2.2.2.1 j hj2).2.1
    have nx : (¬ a 3 1 j = x) → ∀ u', ew_W (ew_Call (d + 2)) 150 K (11, [some (ew_o 16 0), some (ew_i x), some (ew_o 1 t), u'], [], ew_hp (ew_u (ew_u s1 1 0 t (ei (j + 1))) 1 1 t (ei j)) m) := fun hn u' => ih (j + 1) u' _ (by omega) (fun p hp w => by
      by_cases q : p = j
      · exact hn (q ▸ w)
      · exact hb p (by omega) w) h2 hI2 (E.tr e1)
    by_cases c1 : a 3 1 j = x
    · have e : sp_bA x a = true := by
        unfold sp_bA
        rw [h.2.1.2.1.1, ei_nat (by omega)]
        exact ef_any_t ⟨j, hj2, decide_eq_true c1⟩
      exact ew_go (fun pc => Nat.beq pc 11) 60 (xm_hasNext2 h.1.2.1 hI (by omega) (fun z => absurd z (by omega)) (fun _ => ⟨fun c => absurd c (show ¬ (1 : Int32) = 0 by decide), fun _ => xm_next2 h.1.2.1 hI hj2 rfl ⟨fun z => absurd (f.trans c1) z, fun _ => ⟨Or.inr rfl, k1 _ h2 (E.tr e1) e⟩⟩⟩))
    · exact ew_go (fun pc => Nat.beq pc 11) 60 (xm_hasNext2 h.1.2.1 hI (by omega) (fun z => absurd z (by omega)) (fun _ => ⟨fun c => absurd c (show ¬ (1 : Int32) = 0 by decide), fun _ => xm_next2 h.1.2.1 hI hj2 rfl ⟨fun _ => nx c1 _, fun z => absurd (fun w => c1 (f.symm.trans w)) z⟩⟩))
theorem xm_mbrk (h : RR 0 0 nb ns np T β σ ρ z a s m) {x y : Int32} (hx : y = x) (k1 : sp_bA x a = true → ∀ s' m', RR 0 0 nb ns np T β σ ρ z a s' m' → Ex P1 1 s m s' m' → K (.inl (some (ew_i 1))) (ew_hp s' m')) (k0 : sp_bA x a = false → ∀ s' m', RR 0 0 nb ns np T β σ ρ z a s' m' → Ex P1 1 s m s' m' → K (.inl (some (ew_i 0))) (ew_hp s' m')) : ew_Call (d + 3) 150 [ew_o 16 0, ew_i y] (ew_hp s m) K := by
  subst hx
  exact ew_call (ew_go (fun pc => Nat.beq pc 11) 40 (xm_iter2 h.2.2.1 h.1.2.1.1 (fun s' m' t i1 i2 i3 i4 i5 => xl_mbrk (d := d) (s := s') (fun s2 R E e => k1 e s2 m' R ((i2.p1.tr E).le (by decide))) (fun s2 R E e => k0 e s2 m' R ((i2.p1.tr E).le (by decide))) nb 0 none s' (by omega) (fun p hp => absurd hp (Nat.not_lt_zero _)) (h.ex1 i2.p1 i3) i1 (Ex.rf _ _ _))))
end
