/-! How many: the model's loops. -/
section
variable {d : Nat} {K : ew_R → ew_H → Prop} {nb ns np T : Nat} {β σ : Nat → Nat} {ρ : Nat → Nat → Nat} {z : ew_Z3} {a s : ew_S} {m : ew_H}
theorem xl_mm1 (h : RR 0 0 nb ns np T β σ ρ z a s m) {w : Int32} {u5 u6 u7 u8 : Option ew_V} (k : ew_W (ew_Call (d + 3)) 174 K (54, [some (ew_o 16 0), some (ew_i w), some (ew_i (sp_ice a)), some (ew_i (ef_sum (fun c => if a 4 2 c ≤ 0 then 0 else 1) 15)), some (ew_i (ei 15)), u5, u6, u7, u8], [], ew_hp s m)) : ∀ (r j : Nat) (y v1 v2 : Int32), y = ei j → j + r = 15 → v1 = ef_sum (fun c => a 4 0 c) j → v2 = ef_sum (fun c => if a 4 2 c ≤ 0 then 0 else 1) j →
    ew_W (ew_Call (d + 3)) 174 K (7, [some (ew_o 16 0), some (ew_i w), some (ew_i v1), some (ew_i v2), some (ew_i y), u5, u6, u7, u8], [], ew_hp s m) := by
  intro r
  induction r with
  | zero =>
    intro j y v1 v2 hy hj h1 h2
    subst hy; subst h1; subst h2
    obtain rfl : j = 15 := by omega
    have e : ei 15 ≤ ei 15 := Int32.le_refl _
    exact ew_go (fun pc => Nat.beq pc 7 || Nat.beq pc 54) 40 ⟨fun _ => k, fun z => absurd e z⟩
  | succ r ih =>
    intro j y v1 v2 hy hj h1 h2
    subst hy; subst h1; subst h2
    have hj2 : j < 15 := by omega
    have e : ¬ ei 15 ≤ ei j := by rw [ei_le (by decide) (by omega)]; omega
    obtain ⟨e0, -, e2, -⟩ := h.1.1.2.2.2 j hj2
    have e0 : s 273 (ei j).toNatClampNeg 0 = a 4 0 j := by rw [ei_nat (by omega)]; exact e0
    have e2 : s 337 (ei j).toNatClampNeg 0 = a 4 2 j := by rw [ei_nat (by omega)]; exact e2
    have ix := ei_ix (j := j) (n := 15) hj2 (by decide)
    by_cases c : a 4 2 j ≤ 0
    · refine ew_go (fun pc => Nat.beq pc 7) 60 ⟨fun z => absurd z e, fun _ => ⟨ix, ix, fun _ => ih (j + 1) _ _ _ (ei_1 _) (by omega) (ef_sum_1 e0.symm) (ef_sum_1 (f := fun c => if a 4 2 c ≤ 0 then 0 else 1) (if_pos c)), fun q => absurd (show s 337 (ei j).toNatClampNeg 0 ≤ 0 by rw [e2]; exact c) q⟩⟩
    · refine ew_go (fun pc => Nat.beq pc 7) 60 ⟨fun z => absurd z e, fun _ => ⟨ix, ix, fun q => absurd (show a 4 2 j ≤ 0 by rw [← e2]; exact q) c, fun _ => ih (j + 1) _ _ _ (ei_1 _) (by omega) (ef_sum_1 e0.symm) (ef_sum_1 (f := fun c => if a 4 2 c ≤ 0 then 0 else 1) (if_neg c))⟩⟩
theorem xl_mm2 {w v1 v2 : Int32} {t : Nat} (k : ∀ s' u, RR 0 0 nb ns np T β σ ρ (fun _ _ _ => 0) a s' m → Ex P1 0 s m s' m → ew_W (ew_Call (d + 3)) 174 K (130, [some (ew_o 16 0), some (ew_i w), some (ew_i v1), some (ew_i v2), some (ew_i (ef_sum (fun j => ef_sum (fun p => a 177 p j) 5) ns)), some (ew_i (ef_sum (fun j => a 10 10 j) ns)), some (ew_i (ef_sum (fun j => a 10 9 j) ns)), some (ew_o 1 t), u], [], ew_hp s' m)) : ∀ (r j : Nat) (x1 x2 x3 : Int32) (u : Option ew_V) (s1 : ew_S), j + r = ns → x1 = ef_sum (fun j => ef_sum (fun p => a 177 p j) 5) j → x2 = ef_sum (fun j => a 10 10 j) j → x3 = ef_sum (fun j => a 10 9 j) j → RR 0 0 nb ns np T β σ ρ (fun _ _ _ => 0) a s1 m → IT 34 0 t j s1 m → Ex P1 0 s m s1 m →
    ew_W (ew_Call (d + 3)) 174 K (75, [some (ew_o 16 0), some (ew_i w), some (ew_i v1), some (ew_i v2), some (ew_i x1), some (ew_i x2), some (ew_i x3), some (ew_o 1 t), u], [], ew_hp s1 m) := by
  intro r
  induction r with
  | zero =>
    intro j x1 x2 x3 u s1 hj h1 h2 h3 h hI E
    subst h1; subst h2; subst h3
    obtain rfl : j = ns := by omega
    exact ew_go (fun pc => Nat.beq pc 75 || Nat.beq pc 130) 40 (xm_hasNext34 h.1.2.2.1 hI (Nat.le_refl _) (fun _ => ⟨fun _ => k s1 u h E, fun c => absurd rfl c⟩) (fun z => absurd z (Nat.lt_irrefl _)))
  | succ r ih =>
    intro j x1 x2 x3 u s1 hj h1 h2 h3 h hI E
    subst h1; subst h2; subst h3
    have hj2 : j < ns := by omega
    have e1 := Ex.it (s := s1) (m := m) (t := t) (ei (j + 1)) (ei j)
    have h2 := h.ex1 e1 h.2.2.1
    have hI2 := hI.step (by decide)
    have hs : rs j (σ j) (fun _ _ _ => 0) a s1 m := h.1.2.2.2.2.2.1 j hj2
    have f6 : s1 15 6 (σ j) = a 10 9 j := (Int32.add_zero _).symm.trans hs.2.2.1.1
    have f7 : s1 15 7 (σ j) = a 10 10 j := (Int32.add_zero _).symm.trans hs.2.2.1.2
    have fw : ∀ w, w < 5 → (ew_u (ew_u s1 1 0 t (ei (j + 1))) 1 1 t (ei j)) 369 w (σ j) = a 177 w j := fun w hw => (Int32.add_zero _).symm.trans (hs.2.2.2.1 w hw)
    exact ew_go (fun pc => Nat.beq pc 75) 60 (xm_hasNext34 h.1.2.2.1 hI (by omega) (fun z => absurd z (by omega)) (fun _ => ⟨fun c => absurd c (show ¬ (1 : Int32) = 0 by decide), fun _ => xm_next34 h.1.2.2.1 hI hj2 rfl (xm_allWaits (a := a) (J := j) fw (ih (j + 1) _ _ _ _ _ (by omega) (ef_sum_1 (f := fun j => ef_sum (fun p => a 177 p j) 5) rfl) (ef_sum_1 f7.symm) (ef_sum_1 f6.symm) h2 hI2 (E.tr e1)))⟩))
end
