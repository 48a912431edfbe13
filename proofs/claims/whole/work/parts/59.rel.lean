/-! The model's sea i beside the class's sea q, as it stands in a. -/
abbrev ew_Z3 : Type := Nat → Nat → Nat → Int32
/-- constants: small numbers as objects, what classes bear -/
def CC (s : ew_S) : Prop := (∀ c, c < 128 → s 0 0 (c + 128) = ei c) ∧ ∀ r, r < 5 → s 49 r 0 = ef_bears (ei r)
def rc (q i : Nat) (z : ew_Z3) (a s : ew_S) (m : ew_H) : Prop :=
  (m.2.2.1 14 i = true ∧ m.2.2.1 273 i = true ∧ m.2.2.1 305 i = true ∧ m.2.2.1 337 i = true ∧ m.2.2.1 50 i = true) ∧ s 14 0 i = a 9 5 q ∧ s 14 1 i + z 14 1 i = a 9 6 q ∧
  ∀ c, c < 15 → s 273 c i = a 4 0 (c + 15 * q) ∧ s 305 c i = a 4 1 (c + 15 * q) ∧ s 337 c i = a 4 2 (c + 15 * q) ∧ s 50 c i = a 4 3 (c + 15 * q)
def rb (B o : Nat) (z : ew_Z3) (a s : ew_S) (m : ew_H) : Prop :=
  m.2.2.1 12 o = true ∧ s 12 0 o = a 3 1 B ∧ s 12 1 o = a 3 2 B ∧ s 12 2 o + z 12 2 o = a 3 3 B ∧ LR 98 o (a 8 1 B).toNatClampNeg (fun r => ew_o 0 ((a 145 r B).toNatClampNeg + 128)) s m
def rs (J o : Nat) (z : ew_Z3) (a s : ew_S) (m : ew_H) : Prop :=
  (m.2.2.1 15 o = true ∧ m.2.2.1 369 o = true) ∧ (s 15 0 o = a 10 2 J ∧ s 15 1 o = a 10 3 J ∧ s 15 2 o = a 10 5 J ∧ s 15 3 o = a 10 6 J ∧ s 15 4 o = a 10 7 J ∧ s 15 5 o = a 10 8 J ∧ s 15 8 o = a 10 11 J) ∧
  (s 15 6 o + z 15 6 o = a 10 9 J ∧ s 15 7 o + z 15 7 o = a 10 10 J) ∧ (∀ w, w < 5 → s 369 w o + z 369 w o = a 177 w J) ∧ LR 130 o (a 40 1 J).toNatClampNeg (fun r => ew_o 0 ((a 593 r J).toNatClampNeg + 128)) s m
def rp (p : Nat) (ρ : Nat → Nat → Nat) (a s : ew_S) (m : ew_H) : Prop :=
  (m.2.2.1 13 p = true ∧ m.2.2.1 82 p = true) ∧ s 13 0 p = a 6 4 p ∧ (∀ j, j < 5 → s 82 j p = a 18 j p) ∧ LR 162 p (a 6 3 p).toNatClampNeg (fun r => ew_o 561 (ρ p r)) s m ∧
  ∀ r, r < (a 6 3 p).toNatClampNeg → m.2.2.1 561 (ρ p r) = true ∧ s 561 0 (ρ p r) = a 113 r p ∧ s 561 1 (ρ p r) = a 81 r p
def RM (q i nb ns np : Nat) (β σ : Nat → Nat) (ρ : Nat → Nat → Nat) (z : ew_Z3) (a s : ew_S) (m : ew_H) : Prop :=
  rc q i z a s m ∧ LR 2 i nb (fun b => ew_o 12 (β b)) s m ∧ LR 34 i ns (fun j => ew_o 15 (σ j)) s m ∧ LR 66 i np (fun p => ew_o 13 p) s m ∧
  (∀ b, b < nb → rb (b + 2 * q) (β b) z a s m) ∧ (∀ j, j < ns → rs (j + 5 * q) (σ j) z a s m) ∧ (∀ p, p < np → rp p ρ a s m) ∧
  (∀ b b', b < nb → b' < nb → β b = β b' → b = b') ∧ ∀ j j', j < ns → j' < ns → σ j = σ j' → j = j'
/-- what a ship's, a breaker's going writes -/
def Qs (o : Nat) : Nat → Nat → Nat → Prop := fun k _ i => i = o ∧ (k = 15 ∨ k = 369 ∨ k = 130 ∨ k = 148)
def Qb (o i c : Nat) : Nat → Nat → Nat → Prop := fun k p j => (j = o ∧ (k = 12 ∨ k = 98 ∨ k = 116)) ∨ (k = 337 ∧ p = c ∧ j = i)
def Qc (i : Nat) : Nat → Nat → Nat → Prop := fun k _ j => j = i ∧ (k = 14 ∨ k = 273 ∨ k = 305 ∨ k = 337)
theorem CC.ex {P : Nat → Nat → Nat → Prop} {c : Nat} {s s' : ew_S} {m m' : ew_H} (h : CC s) (e : Ex P c s m s' m') : CC s' := by
  unfold CC
  rw [(e.1 0 rfl).1, (e.1 49 rfl).1]; exact h
section
variable {P : Nat → Nat → Nat → Prop} {c q i nb ns np : Nat} {β σ : Nat → Nat} {ρ : Nat → Nat → Nat} {z : ew_Z3} {a a' s s' : ew_S} {m m' : ew_H}
theorem rc.ex (h : rc q i z a s m) (e : Ex P c s m s' m') (n : ∀ k p, (k = 14 ∨ k = 273 ∨ k = 305 ∨ k = 337 ∨ k = 50) → ¬ P k p i) : rc q i z a s' m' := by
  obtain ⟨⟨h1, h2, h3, h4, h5⟩, h6, h7, h8⟩ := h
  refine ⟨⟨e.2.1 _ _ h1, e.2.1 _ _ h2, e.2.1 _ _ h3, e.2.1 _ _ h4, e.2.1 _ _ h5⟩, ?_, ?_, fun c hc => ?_⟩
  · rw [(e.2.2.1 14 0 i h1 (n _ _ (Or.inl rfl))).1]; exact h6
  · rw [(e.2.2.1 14 1 i h1 (n _ _ (Or.inl rfl))).1]; exact h7
  · rw [(e.2.2.1 273 c i h2 (n _ _ (Or.inr (Or.inl rfl)))).1, (e.2.2.1 305 c i h3 (n _ _ (Or.inr (Or.inr (Or.inl rfl))))).1, (e.2.2.1 337 c i h4 (n _ _ (Or.inr (Or.inr (Or.inr (Or.inl rfl)))))).1, (e.2.2.1 50 c i h5 (n _ _ (Or.inr (Or.inr (Or.inr (Or.inr rfl)))))).1]
    exact h8 c hc
theorem rb.ex {B o : Nat} (h : rb B o z a s m) (e : Ex P c s m s' m') (n : ∀ k p, (k = 12 ∨ k = 98 ∨ k = 116) → ¬ P k p o) : rb B o z a s' m' := by
  obtain ⟨h1, h2, h3, h4, h5⟩ := h
  refine ⟨e.2.1 _ _ h1, ?_, ?_, ?_, h5.ex rfl e (fun p => n _ p (Or.inr (Or.inl rfl))) (fun p => n _ p (Or.inr (Or.inr rfl)))⟩
  · rw [(e.2.2.1 12 0 o h1 (n _ _ (Or.inl rfl))).1]; exact h2
  · rw [(e.2.2.1 12 1 o h1 (n _ _ (Or.inl rfl))).1]; exact h3
  · rw [(e.2.2.1 12 2 o h1 (n _ _ (Or.inl rfl))).1]; exact h4
theorem rs.ex {J o : Nat} (h : rs J o z a s m) (e : Ex P c s m s' m') (n : ∀ k p, (k = 15 ∨ k = 369 ∨ k = 130 ∨ k = 148) → ¬ P k p o) : rs J o z a s' m' := by
  obtain ⟨⟨h1, h1'⟩, h2, h3, h4, h5⟩ := h
  have f : ∀ p, s' 15 p o = s 15 p o := fun p => (e.2.2.1 15 p o h1 (n _ _ (Or.inl rfl))).1
  refine ⟨⟨e.2.1 _ _ h1, e.2.1 _ _ h1'⟩, ?_, ?_, fun w hw => ?_, h5.ex rfl e (fun p => n _ p (Or.inr (Or.inr (Or.inl rfl)))) (fun p => n _ p (Or.inr (Or.inr (Or.inr rfl))))⟩
  · rw [f, f, f, f, f, f, f]; exact h2
  · rw [f, f]; exact h3
  · rw [(e.2.2.1 369 w o h1' (n _ _ (Or.inr (Or.inl rfl)))).1]; exact h4 w hw
theorem rp.ex {p : Nat} (h : rp p ρ a s m) (e : Ex P c s m s' m') (n : ∀ k r j, (k = 13 ∨ k = 82 ∨ k = 162 ∨ k = 180 ∨ k = 561) → ¬ P k r j) : rp p ρ a s' m' := by
  obtain ⟨⟨h1, h1'⟩, h2, h3, h4, h5⟩ := h
  refine ⟨⟨e.2.1 _ _ h1, e.2.1 _ _ h1'⟩, ?_, fun j hj => ?_, h4.ex rfl e (fun r => n _ r _ (Or.inr (Or.inr (Or.inl rfl)))) (fun r => n _ r _ (Or.inr (Or.inr (Or.inr (Or.inl rfl))))), fun r hr => ?_⟩
  · rw [(e.2.2.1 13 0 p h1 (n _ _ _ (Or.inl rfl))).1]; exact h2
  · rw [(e.2.2.1 82 j p h1' (n _ _ _ (Or.inr (Or.inl rfl)))).1]; exact h3 j hj
  · obtain ⟨k1, k2, k3⟩ := h5 r hr
    refine ⟨e.2.1 _ _ k1, ?_, ?_⟩
    · rw [(e.2.2.1 561 0 _ k1 (n _ _ _ (Or.inr (Or.inr (Or.inr (Or.inr rfl)))))).1]; exact k2
    · rw [(e.2.2.1 561 1 _ k1 (n _ _ _ (Or.inr (Or.inr (Or.inr (Or.inr rfl)))))).1]; exact k3
/-- as far as the class's objects agree -/
theorem rc.cg (h : rc q i z a s m) (e5 : a' 9 5 q = a 9 5 q) (e6 : a' 9 6 q = a 9 6 q) (e : ∀ p i, p < 4 → a' 4 p i = a 4 p i) : rc q i z a' s m := by
  obtain ⟨h1, h6, h7, h8⟩ := h
  refine ⟨h1, ?_, ?_, fun c hc => ?_⟩
  · rw [e5]; exact h6
  · rw [e6]; exact h7
  · rw [e _ _ (by decide), e _ _ (by decide), e _ _ (by decide), e _ _ (by decide)]; exact h8 c hc
theorem rb.cg {B o : Nat} (h : rb B o z a s m) (e : ∀ p, a' 3 p B = a 3 p B) (e1 : a' 8 1 B = a 8 1 B) (e2 : ∀ p, a' 145 p B = a 145 p B) : rb B o z a' s m := by
  obtain ⟨h1, h2, h3, h4, h5⟩ := h
  refine ⟨h1, ?_, ?_, ?_, ?_⟩
  · rw [e]; exact h2
  · rw [e]; exact h3
  · rw [e]; exact h4
  · rw [e1]; exact h5.cg (fun r _ => by rw [e2])
theorem rs.cg {J o : Nat} (h : rs J o z a s m) (e : ∀ p, a' 10 p J = a 10 p J) (e1 : a' 40 1 J = a 40 1 J) (e2 : ∀ p, a' 593 p J = a 593 p J) (e3 : ∀ p, a' 177 p J = a 177 p J) : rs J o z a' s m := by
  obtain ⟨h1, h2, h3, h4, h5⟩ := h
  refine ⟨h1, ?_, ?_, fun w hw => ?_, ?_⟩
  · rw [e, e, e, e, e, e, e]; exact h2
  · rw [e, e]; exact h3
  · rw [e3]; exact h4 w hw
  · rw [e1]; exact h5.cg (fun r _ => by rw [e2])
theorem rp.cg {p : Nat} (h : rp p ρ a s m) (e : ∀ r, a' 6 r p = a 6 r p) (e1 : ∀ r, a' 18 r p = a 18 r p) (e2 : ∀ r, a' 113 r p = a 113 r p) (e3 : ∀ r, a' 81 r p = a 81 r p) : rp p ρ a' s m := by
  obtain ⟨h1, h2, h3, h4, h5⟩ := h
  refine ⟨h1, ?_, fun j hj => ?_, ?_, fun r hr => ?_⟩
  · rw [e]; exact h2
  · rw [e1]; exact h3 j hj
  · rw [e]; exact h4
  · rw [e] at hr
    rw [e2, e3]; exact h5 r hr
theorem RM.ex (h : RM q i nb ns np β σ ρ z a s m) (e : Ex P0 c s m s' m') : RM q i nb ns np β σ ρ z a s' m' := by
  obtain ⟨h1, h2, h3, h4, h5, h6, h7, h8⟩ := h
  exact ⟨h1.ex e (fun _ _ _ n => n), h2.ex rfl e (fun _ n => n) (fun _ n => n), h3.ex rfl e (fun _ n => n) (fun _ n => n), h4.ex rfl e (fun _ n => n) (fun _ n => n), fun b hb => (h5 b hb).ex e (fun _ _ _ n => n), fun j hj => (h6 j hj).ex e (fun _ _ _ n => n), fun p hp => (h7 p hp).ex e (fun _ _ _ _ n => n), h8⟩
theorem RM.ship (h : RM q i nb ns np β σ ρ z a s m) {j : Nat} (hj : j < ns) (F : Fr (Ps (j + 5 * q)) a a') (e : Ex (Qs (σ j)) c s m s' m') (k : rs (j + 5 * q) (σ j) z a' s' m') : RM q i nb ns np β σ ρ z a' s' m' := by
  obtain ⟨h1, h2, h3, h4, h5, h6, h7, h8, h9⟩ := h
  have nq : ∀ {k p o : Nat}, k ≠ 15 → k ≠ 369 → k ≠ 130 → k ≠ 148 → ¬ Qs (σ j) k p o := fun n1 n2 n3 n4 w => by have := w.2; omega
  have nf : ∀ {k p o : Nat}, k ≠ 10 → k ≠ 40 → k ≠ 593 → k ≠ 177 → a' k p o = a k p o := fun n1 n2 n3 n4 => F _ _ _ (fun w => by have := w.2; omega)
  refine ⟨(h1.ex e (fun k p hk => nq (by omega) (by omega) (by omega) (by omega))).cg (nf (by decide) (by decide) (by decide) (by decide)) (nf (by decide) (by decide) (by decide) (by decide)) (fun p i _ => nf (by decide) (by decide) (by decide) (by decide)), h2.ex rfl e (fun p => nq (by decide) (by decide) (by decide) (by decide)) (fun p => nq (by decide) (by decide) (by decide) (by decide)), h3.ex rfl e (fun p => nq (by decide) (by decide) (by decide) (by decide)) (fun p => nq (by decide) (by decide) (by decide) (by decide)), h4.ex rfl e (fun p => nq (by decide) (by decide) (by decide) (by decide)) (fun p => nq (by decide) (by decide) (by decide) (by decide)), fun b hb => ?_, fun j' hj' => ?_, fun p hp => ?_, h8, h9⟩
  · exact ((h5 b hb).ex e (fun k p hk => nq (by omega) (by omega) (by omega) (by omega))).cg (fun p => nf (by decide) (by decide) (by decide) (by decide)) (nf (by decide) (by decide) (by decide) (by decide)) (fun p => nf (by decide) (by decide) (by decide) (by decide))
  · by_cases e1 : j' = j
    · rw [e1]; exact k
    · have n2 : ∀ k p, ¬ Qs (σ j) k p (σ j') := fun k p w => e1 (h9 j' j hj' hj w.1)
      have n3 : ∀ {k p}, a' k p (j' + 5 * q) = a k p (j' + 5 * q) := F _ _ _ (fun w => by have := w.1; omega)
      exact ((h6 j' hj').ex e (fun k p _ => n2 k p)).cg (fun p => n3) n3 (fun p => n3) (fun p => n3)
  · exact ((h7 p hp).ex e (fun k r j hk => nq (by omega) (by omega) (by omega) (by omega))).cg (fun p => nf (by decide) (by decide) (by decide) (by decide)) (fun p => nf (by decide) (by decide) (by decide) (by decide)) (fun p => nf (by decide) (by decide) (by decide) (by decide)) (fun p => nf (by decide) (by decide) (by decide) (by decide))
theorem RM.brk (h : RM q i nb ns np β σ ρ z a s m) {b d : Nat} (hb : b < nb) (F : Fr (Pb (b + 2 * q) (d + 15 * q)) a a') (e : Ex (Qb (β b) i d) c s m s' m') (k : rb (b + 2 * q) (β b) z a' s' m') (k2 : s' 337 d i = a' 4 2 (d + 15 * q)) : RM q i nb ns np β σ ρ z a' s' m' := by
  obtain ⟨h1, h2, h3, h4, h5, h6, h7, h8, h9⟩ := h
  have nq : ∀ {k p o : Nat}, k ≠ 12 → k ≠ 98 → k ≠ 116 → k ≠ 337 → ¬ Qb (β b) i d k p o := fun n1 n2 n3 n4 w => by
    rcases w with w | w
    · have := w.2; omega
    · have := w.1; omega
  have nf : ∀ {k p o : Nat}, k ≠ 3 → k ≠ 8 → k ≠ 145 → k ≠ 4 → a' k p o = a k p o := fun n1 n2 n3 n4 => F _ _ _ (fun w => by
    rcases w with w | w
    · have := w.2; omega
    · have := w.1; omega)
  have nf4 : ∀ {p o : Nat}, p ≠ 2 ∨ o ≠ d + 15 * q → a' 4 p o = a 4 p o := fun n => F _ _ _ (fun w => by
    rcases w with w | w
    · have := w.2; omega
    · have := w.2; omega)
  refine ⟨?_, h2.ex rfl e (fun p => nq (by decide) (by decide) (by decide) (by decide)) (fun p => nq (by decide) (by decide) (by decide) (by decide)), h3.ex rfl e (fun p => nq (by decide) (by decide) (by decide) (by decide)) (fun p => nq (by decide) (by decide) (by decide) (by decide)), h4.ex rfl e (fun p => nq (by decide) (by decide) (by decide) (by decide)) (fun p => nq (by decide) (by decide) (by decide) (by decide)), fun b' hb' => ?_, fun j hj => ?_, fun p hp => ?_, h8, h9⟩
  · obtain ⟨⟨g1, g2, g3, g4, g5⟩, g6, g7, g8⟩ := h1
    refine ⟨⟨e.2.1 _ _ g1, e.2.1 _ _ g2, e.2.1 _ _ g3, e.2.1 _ _ g4, e.2.1 _ _ g5⟩, ?_, ?_, fun c hc => ?_⟩
    · rw [(e.2.2.1 14 0 i g1 (nq (by decide) (by decide) (by decide) (by decide))).1, nf (by decide) (by decide) (by decide) (by decide)]; exact g6
    · rw [(e.2.2.1 14 1 i g1 (nq (by decide) (by decide) (by decide) (by decide))).1, nf (by decide) (by decide) (by decide) (by decide)]; exact g7
    · obtain ⟨y1, y2, y3, y4⟩ := g8 c hc
      rw [(e.2.2.1 273 c i g2 (nq (by decide) (by decide) (by decide) (by decide))).1, (e.2.2.1 305 c i g3 (nq (by decide) (by decide) (by decide) (by decide))).1, (e.2.2.1 50 c i g5 (nq (by decide) (by decide) (by decide) (by decide))).1, nf4 (p := 0) (Or.inl (by decide)), nf4 (p := 1) (Or.inl (by decide)), nf4 (p := 3) (Or.inl (by decide))]
      refine ⟨y1, y2, ?_, y4⟩
      by_cases hd : c = d
      · rw [hd]; exact k2
      · rw [(e.2.2.1 337 c i g4 (fun w => by
          rcases w with w | w
          · have := w.2; omega
          · have := w.2; omega)).1, nf4 (Or.inr (by omega))]
        exact y3
  · by_cases e1 : b' = b
    · rw [e1]; exact k
    · have n2 : ∀ k p, (k = 12 ∨ k = 98 ∨ k = 116) → ¬ Qb (β b) i d k p (β b') := fun k p hk w => by
        rcases w with w | w
        · exact e1 (h8 b' b hb' hb w.1)
        · have := w.1; omega
      have n3 : ∀ {k p}, k ≠ 4 → a' k p (b' + 2 * q) = a k p (b' + 2 * q) := fun hk => F _ _ _ (fun w => by
        rcases w with w | w
        · have := w.1; omega
        · have := w.1; omega)
      exact ((h5 b' hb').ex e n2).cg (fun p => n3 (by decide)) (n3 (by decide)) (fun p => n3 (by decide))
  · exact ((h6 j hj).ex e (fun k p hk => nq (by omega) (by omega) (by omega) (by omega))).cg (fun p => nf (by decide) (by decide) (by decide) (by decide)) (nf (by decide) (by decide) (by decide) (by decide)) (fun p => nf (by decide) (by decide) (by decide) (by decide)) (fun p => nf (by decide) (by decide) (by decide) (by decide))
  · exact ((h7 p hp).ex e (fun k r j hk => nq (by omega) (by omega) (by omega) (by omega))).cg (fun p => nf (by decide) (by decide) (by decide) (by decide)) (fun p => nf (by decide) (by decide) (by decide) (by decide)) (fun p => nf (by decide) (by decide) (by decide) (by decide)) (fun p => nf (by decide) (by decide) (by decide) (by decide))
theorem RM.cells (h : RM q i nb ns np β σ ρ z a s m) (F : Fr (fun k p _ => k = 4 ∨ (k = 9 ∧ (p = 5 ∨ p = 6))) a a') (e : Ex (Qc i) c s m s' m') (k : rc q i z a' s' m') : RM q i nb ns np β σ ρ z a' s' m' := by
  obtain ⟨h1, h2, h3, h4, h5, h6, h7, h8⟩ := h
  have nq : ∀ {k p o : Nat}, k ≠ 14 → k ≠ 273 → k ≠ 305 → k ≠ 337 → ¬ Qc i k p o := fun n1 n2 n3 n4 w => by have := w.2; omega
  have nf : ∀ {k p o : Nat}, k ≠ 4 → k ≠ 9 → a' k p o = a k p o := fun n1 n2 => F _ _ _ (fun w => by omega)
  exact ⟨k, h2.ex rfl e (fun p => nq (by decide) (by decide) (by decide) (by decide)) (fun p => nq (by decide) (by decide) (by decide) (by decide)), h3.ex rfl e (fun p => nq (by decide) (by decide) (by decide) (by decide)) (fun p => nq (by decide) (by decide) (by decide) (by decide)), h4.ex rfl e (fun p => nq (by decide) (by decide) (by decide) (by decide)) (fun p => nq (by decide) (by decide) (by decide) (by decide)),
    fun b hb => ((h5 b hb).ex e (fun k p hk => nq (by omega) (by omega) (by omega) (by omega))).cg (fun p => nf (by decide) (by decide)) (nf (by decide) (by decide)) (fun p => nf (by decide) (by decide)),
    fun j hj => ((h6 j hj).ex e (fun k p hk => nq (by omega) (by omega) (by omega) (by omega))).cg (fun p => nf (by decide) (by decide)) (nf (by decide) (by decide)) (fun p => nf (by decide) (by decide)) (fun p => nf (by decide) (by decide)),
    fun p hp => ((h7 p hp).ex e (fun k r j hk => nq (by omega) (by omega) (by omega) (by omega))).cg (fun p => nf (by decide) (by decide)) (fun p => nf (by decide) (by decide)) (fun p => nf (by decide) (by decide)) (fun p => nf (by decide) (by decide)), h8⟩
end
