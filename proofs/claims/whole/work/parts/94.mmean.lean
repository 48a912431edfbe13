/-! The mean of the ice: the model. -/
section
variable {d : Nat} {K : ew_R → ew_H → Prop} {nb ns np T : Nat} {β σ : Nat → Nat} {ρ : Nat → Nat → Nat} {z : ew_Z3} {a s : ew_S} {m : ew_H}
theorem xl_mmean (h : RR 0 0 nb ns np T β σ ρ z a s m) (hv : ∀ a b : Int32, ¬ b = 0 → vf_n64 (FP.ddiv (FP.i2d a) (FP.i2d b))) (k : K (.inl (some (.inl (.double (sp_mean a))))) (ew_hp s m)) : ∀ (r j : Nat) (y v w : Int32), y = ei j → j + r = 15 → v = ef_sum (fun c => if a 4 3 c = 0 then 1 else 0) j → w = ef_sum (fun c => a 4 0 c) j →
    ew_W (ew_Call d) 176 K (11, [some (ew_o 16 0), some (ew_i v), some (ew_i w), some (ew_i y)], [], ew_hp s m) := by
  intro r
  induction r with
  | zero =>
    intro j y v w hy hj hv1 hw
    subst hy; subst hv1; subst hw
    obtain rfl : j = 15 := by omega
    have e : ei 15 ≤ ei 15 := Int32.le_refl _
    by_cases c : sp_open a = 0
    · rw [show sp_mean a = FP.i2d 0 from if_pos c] at k
      exact ew_go (fun pc => Nat.beq pc 11) 40 ⟨fun _ => ⟨fun z => absurd c z, fun _ => ⟨trivial, k⟩⟩, fun z => absurd e z⟩
    · rw [show sp_mean a = FP.ddiv (FP.i2d (sp_ice a)) (FP.i2d (sp_open a)) from if_neg c] at k
      exact ew_go (fun pc => Nat.beq pc 11) 40 ⟨fun _ => ⟨fun _ => ⟨hv _ _ c, trivial, k⟩, fun z => absurd c z⟩, fun z => absurd e z⟩
  | succ r ih =>
    intro j y v w hy hj hv1 hw
    subst hy; subst hv1; subst hw
    have hj2 : j < 15 := by omega
    have e : ¬ ei 15 ≤ ei j := by rw [ei_le (by decide) (by omega)]; omega
    obtain ⟨e0, -, -, e3⟩ := h.1.1.2.2.2 j hj2
    have e0 : s 273 (ei j).toNatClampNeg 0 = a 4 0 j := by rw [ei_nat (by omega)]; exact e0
    have e3 : s 50 (ei j).toNatClampNeg 0 = a 4 3 j := by rw [ei_nat (by omega)]; exact e3
    have il : a 4 3 j = 0 ∨ (a 4 3 j = 1 ∧ a 4 0 j = 0 ∧ a 4 1 j = 0 ∧ a 4 2 j = 0) := (h.2.1.2.2.1 j hj2).2.1
    have ix := ei_ix (j := j) (n := 15) hj2 (by decide)
    by_cases c : a 4 3 j = 0
    · refine ew_go (fun pc => Nat.beq pc 11) 40 ⟨fun z => absurd z e, fun _ => ⟨ix, fun z => absurd (e3.trans c) z, fun _ => ⟨ix, ih (j + 1) _ _ _ (ei_1 _) (by omega) (ef_sum_1 (if_pos c)) ?_⟩⟩⟩
      exact ef_sum_1 e0.symm
    · have c0 : a 4 0 j = 0 := il.elim (fun w => absurd w c) (fun w => w.2.1)
      refine ew_go (fun pc => Nat.beq pc 11) 40 ⟨fun z => absurd z e, fun _ => ⟨ix, fun _ => ih (j + 1) _ _ _ (ei_1 _) (by omega) ?_ ?_, fun z => absurd (fun q => c (e3.symm.trans q)) z⟩⟩
      · rw [← ef_sum_1 (f := fun c => if a 4 3 c = 0 then 1 else 0) (j := j) (x := 0) (if_neg c), Int32.add_zero]
      · rw [← ef_sum_1 (f := fun c => a 4 0 c) (j := j) (x := 0) c0, Int32.add_zero]
theorem xw_meanIce (h : RR 0 0 nb ns np T β σ ρ z a s m) (hv : ∀ a b : Int32, ¬ b = 0 → vf_n64 (FP.ddiv (FP.i2d a) (FP.i2d b))) (k : ∀ s', RR 0 0 nb ns np T β σ ρ z a s' m → Ex P6 0 s m s' m → s' 16 0 0 = 0 → K (.inl (some (.inl (.double (sp_mean a))))) (ew_hp s' m)) : ew_Call (d + 1) 176 [ew_o 16 0] (ew_hp s m) K := by
  refine ew_call (ew_go (fun pc => Nat.beq pc 11) 40 ⟨trivial, ?_⟩)
  show ew_W (ew_Call d) 176 K (11, [some (ew_o 16 0), some (ew_i 0), some (ew_i 0), some (ew_i 0)], [], ew_put (ew_hp s m) 16 0 0 (ew_i 0))
  exact eq_1 rfl (xl_mmean (s := ew_tw s 0) (h.tw 0) hv (k _ (h.tw 0) (Ex.tw s m 0) (ew_u_self _ _ _ _ _)) 15 0 0 0 0 rfl rfl rfl rfl)
end
