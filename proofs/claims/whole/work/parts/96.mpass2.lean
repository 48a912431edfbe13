/-! Hours that pass: the model's answer. -/
theorem ew_wind {w : Int32} (h : -1 ≤ w ∧ w ≤ 3) : w = -1 ∨ w = 0 ∨ w = 1 ∨ w = 2 ∨ w = 3 := by
  have h1 := Int32.le_iff_toInt_le.mp h.1
  have h2 := Int32.le_iff_toInt_le.mp h.2
  have e1 : (-1 : Int32).toInt = -1 := by decide
  have e2 : (3 : Int32).toInt = 3 := by decide
  rw [e1] at h1
  rw [e2] at h2
  have h3 : w.toInt = -1 ∨ w.toInt = 0 ∨ w.toInt = 1 ∨ w.toInt = 2 ∨ w.toInt = 3 := by omega
  rcases h3 with h | h | h | h | h
  · exact Or.inl (Int32.toInt.inj (h.trans (by decide)))
  · exact Or.inr (Or.inl (Int32.toInt.inj (h.trans (by decide))))
  · exact Or.inr (Or.inr (Or.inl (Int32.toInt.inj (h.trans (by decide)))))
  · exact Or.inr (Or.inr (Or.inr (Or.inl (Int32.toInt.inj (h.trans (by decide))))))
  · exact Or.inr (Or.inr (Or.inr (Or.inr (Int32.toInt.inj (h.trans (by decide))))))
section
variable {d : Nat} {K : ew_R → ew_H → Prop} {nb ns np T : Nat} {β σ : Nat → Nat} {ρ : Nat → Nat → Nat} {z : ew_Z3} {a s : ew_S} {m : ew_H}
theorem Qh.n16 {nb ns p o : Nat} : ¬ Qh 0 nb ns β σ 16 p o := by
  intro w
  rcases w with w | ⟨b, -, -, w⟩ | ⟨j, -, w⟩
  · have := w.2; omega
  · omega
  · have := w.2; omega
theorem xw_pass (h : RR 0 0 nb ns np T β σ ρ z a s m) (h16 : m.2.2.1 16 0 = true) (hT : T ≤ 90000000) (x w n : Int32) (k1 : ∀ s' m' g, g ≤ 24 → n = ei g → op_args n x w → RR 0 0 nb ns np (T + 135 * g) β σ ρ z (sp_hs 0 x w a g).2 s' m' → Ex (fun k p o => k = 16 ∨ Qh 0 nb ns β σ k p o) (3 * g) s m s' m' → s' 16 0 0 = 0 → K (.inl (some (ew_i (sp_hs 0 x w a g).1))) (ew_hp s' m')) (k2 : ¬ op_args n x w → K (.inl (some (ew_i 0))) (ew_hp (ew_tw s 1) m)) : ew_Call (d + 8) 165 [ew_o 16 0, ew_i x, ew_i w, ew_i n] (ew_hp s m) K := by
  by_cases c : op_args n x w
  · have c2 := c
    obtain ⟨hn, hx, hw⟩ := c2
    have hn' : ei 1 ≤ n ∧ n ≤ ei 24 := hn
    obtain ⟨g, -, hg, e⟩ := ei_rng (a := 1) (b := 24) (by decide) hn' (by decide)
    have w5 := ew_wind hw
    have fin : ew_W (ew_Call (d + 7)) 165 K (22, [some (ew_o 16 0), some (ew_i x), some (ew_i w), some (ew_i (ei g)), some (ew_i 0), some (ew_i 0)], [], ew_hp (ew_tw s 0) m) :=
      xl_mpass (d := d) (T := T) (s := ew_tw s 0) hx w5 hg hT (fun s' m' R E => k1 s' m' g hg e c R ((((Ex.rf (fun k p o => k = 16 ∨ Qh 0 nb ns β σ k p o) s m).u (k := 16) (p := 0) (i := 0) 0 rfl (Or.inl (Or.inl rfl))).tr (E.mono (fun _ _ _ _ q => Or.inr q) (Nat.le_refl _))).le (by omega)) ((E.2.2.1 16 0 0 h16 Qh.n16).1.trans (ew_u_self _ _ _ _ _))) g 0 0 0 _ _ rfl (by omega) rfl (h.tw 0) (Ex.rf _ _ _)
    subst e
    exact ew_call (ew_go (fun pc => Nat.beq pc 22) 60 (xm_noWeather (fun q => absurd c q) (fun _ => xm_start0 rfl ⟨fun _ => fin, fun q => absurd rfl q⟩)))
  · exact ew_call (ew_go (fun pc => Nat.beq pc 22) 60 (xm_noWeather (fun _ => xm_start1 (show ¬ (1 : Int32) = 0 by decide) (show ¬ (1 : Int32) ≤ 0 by decide) ⟨fun q => absurd q (show ¬ (1 : Int32) = 0 by decide), fun _ => ⟨trivial, k2 c⟩⟩) (fun q => absurd q c)))
end
