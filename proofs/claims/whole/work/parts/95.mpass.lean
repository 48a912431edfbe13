/-! Hours that pass: the model. -/
section
variable {d : Nat} {K : ew_R → ew_H → Prop} {nb ns np T i : Nat} {β σ : Nat → Nat} {ρ : Nat → Nat → Nat} {z : ew_Z3} {a s : ew_S} {m : ew_H}
theorem Ex.qh {c c' : Nat} {s1 s2 : ew_S} {m1 m2 : ew_H} {P : Nat → Nat → Nat → Prop} (e : Ex P c s m s1 m1) (f : Ex P c' s1 m1 s2 m2) {c2 : Nat} (h : c + c' ≤ c2) : Ex P c2 s m s2 m2 := (e.tr f).le h
theorem xl_mpass {x w : Int32} (hx : 0 ≤ x ∧ x ≤ 9) (hw : w = -1 ∨ w = 0 ∨ w = 1 ∨ w = 2 ∨ w = 3) {n : Nat} (hn : n ≤ 24) (hT : T ≤ 90000000) (k : ∀ s' m', RR 0 0 nb ns np (T + 135 * n) β σ ρ z (sp_hs 0 x w a n).2 s' m' → Ex (Qh 0 nb ns β σ) (3 * n) s m s' m' → K (.inl (some (ew_i (sp_hs 0 x w a n).1))) (ew_hp s' m')) : ∀ (r g : Nat) (y v : Int32) (s1 : ew_S) (m1 : ew_H), y = ei g → g + r = n → v = (sp_hs 0 x w a g).1 → RR 0 0 nb ns np (T + 135 * g) β σ ρ z (sp_hs 0 x w a g).2 s1 m1 → Ex (Qh 0 nb ns β σ) (3 * g) s m s1 m1 →
    ew_W (ew_Call (d + 7)) 165 K (22, [some (ew_o 16 0), some (ew_i x), some (ew_i w), some (ew_i (ei n)), some (ew_i v), some (ew_i y)], [], ew_hp s1 m1) := by
  intro r
  induction r with
  | zero =>
    intro g y v s1 m1 hy hg hv R E
    subst hy; subst hv
    obtain rfl : g = n := by omega
    have e : ei g ≤ ei g := Int32.le_refl _
    exact ew_go (fun pc => Nat.beq pc 22) 40 ⟨fun _ => ⟨trivial, k s1 m1 R E⟩, fun z => absurd e z⟩
  | succ r ih =>
    intro g y v s1 m1 hy hg hv R E
    subst hy; subst hv
    have e : ¬ ei n ≤ ei g := by rw [ei_le (by omega) (by omega)]; omega
    exact ew_go (fun pc => Nat.beq pc 22) 40 ⟨fun z => absurd z e, fun _ => xm_hour R (by omega) hx hw (fun s' m' R' E' => ih (g + 1) _ _ s' m' (ei_1 _) (by omega) rfl R' (E.qh E' (by omega)))⟩
end
