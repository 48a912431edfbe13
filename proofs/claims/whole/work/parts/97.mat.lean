/-! Arrived ships: the model. -/
section
variable {d : Nat} {K : ew_R → ew_H → Prop} {nb ns np T : Nat} {β σ : Nat → Nat} {ρ : Nat → Nat → Nat} {z : ew_Z3} {a s : ew_S} {m : ew_H}
theorem xl_marr {t : Nat} {m0 : ew_H} (hnew : m0.2.2.1 1 t = false) (k : ∀ s', RR 0 0 nb ns np T β σ ρ z a s' m → Ex P0 1 s m0 s' m → K (.inl (some (ew_i (ef_sum (fun j => if a 10 7 j = 3 then 1 else 0) ns)))) (ew_hp s' m)) : ∀ (r j : Nat) (v : Int32) (u : Option ew_V) (s1 : ew_S), v = ef_sum (fun j => if a 10 7 j = 3 then 1 else 0) j → j + r = ns → RR 0 0 nb ns np T β σ ρ z a s1 m → IT 34 0 t j s1 m → Ex P0 1 s m0 s1 m →
    ew_W (ew_Call (d + 2)) 130 K (10, [some (ew_o 14 0), some (ew_i v), some (ew_o 1 t), u], [], ew_hp s1 m) := by
  intro r
  induction r with
  | zero =>
    intro j v u s1 hv hj h hI E
    subst hv
    obtain rfl : j = ns := by omega
    exact ew_go (fun pc => Nat.beq pc 10) 40 (xm_hasNext34 h.1.2.2.1 hI (Nat.le_refl _) (fun _ => ⟨fun _ => ⟨trivial, k s1 h E⟩, fun c => absurd rfl c⟩) (fun z => absurd z (Nat.lt_irrefl _)))
  | succ r ih =>
    intro j v u s1 hv hj h hI E
    subst hv
    have hj2 : j < ns := by omega
    have e1 := Ex.it (s := s1) (m := m) (t := t) (ei (j + 1)) (ei j)
    have h2 := h.ex1 e1 h.2.2.1
    have hI2 := hI.step (by decide)
    have hs : rs j (σ j) z a s1 m := h.1.2.2.2.2.2.1 j hj2
    have f4 : s1 15 4 (σ j) = a 10 7 j := hs.2.1.2.2.2.2.1
    have nx : ∀ y u', (if a 10 7 j = 3 then (1 : Int32) else 0) = y → ew_W (ew_Call (d + 2)) 130 K (10, [some (ew_o 14 0), some (ew_i (ef_sum (fun j => if a 10 7 j = 3 then 1 else 0) j + y)), some (ew_o 1 t), u'], [], ew_hp (ew_u (ew_u s1 1 0 t (ei (j + 1))) 1 1 t (ei j)) m) := fun y u' hy => ih (j + 1) _ u' _ (ef_sum_1 hy) (by omega) h2 hI2 (E.it2 hnew _ _)
    by_cases c1 : a 10 7 j = 3
    · exact ew_go (fun pc => Nat.beq pc 10) 60 (xm_hasNext34 h.1.2.2.1 hI (by omega) (fun z => absurd z (by omega)) (fun _ => ⟨fun c => absurd c (show ¬ (1 : Int32) = 0 by decide), fun _ => xm_next34 h.1.2.2.1 hI hj2 rfl ⟨fun z => absurd (f4.trans c1) z, fun _ => nx 1 _ (if_pos c1)⟩⟩))
    · exact ew_go (fun pc => Nat.beq pc 10) 60 (xm_hasNext34 h.1.2.2.1 hI (by omega) (fun z => absurd z (by omega)) (fun _ => ⟨fun c => absurd c (show ¬ (1 : Int32) = 0 by decide), fun _ => xm_next34 h.1.2.2.1 hI hj2 rfl ⟨fun _ => nx 0 _ (if_neg c1), fun z => absurd (fun w => c1 (f4.symm.trans w)) z⟩⟩))
theorem xm_arrived (h : RR 0 0 nb ns np T β σ ρ z a s m) (k : ∀ s' m', RR 0 0 nb ns np T β σ ρ z a s' m' → Ex P0 1 s m s' m' → K (.inl (some (ew_i (ef_sum (fun j => if a 10 7 j = 3 then 1 else 0) ns)))) (ew_hp s' m')) : ew_Call (d + 3) 130 [ew_o 14 0] (ew_hp s m) K :=
  ew_call (ew_go (fun pc => Nat.beq pc 10) 40 (xm_iter34 h.2.2.1 h.1.2.2.1.1 (fun s' m' t i1 i2 i3 i4 i5 => xl_marr (d := d) i4 (fun s2 R E => k s2 m' R E) ns 0 _ none s' rfl (by omega) (h.ex1 i2.p1 i3) i1 i2)))
end
