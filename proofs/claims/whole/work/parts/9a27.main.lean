/-! Between two calls of the law: what a call of the class leaves of the relation, and what the model's call gives for the next. -/
/-- kinds of the class's objects -/
def ef_C (k : Nat) : Bool := Nat.beq k 3 || Nat.beq k 4 || Nat.beq k 6 || Nat.beq k 7 || Nat.beq k 8 || Nat.beq k 9 || Nat.beq k 10 || Nat.beq k 18 || Nat.beq k 40 || Nat.beq k 81 || Nat.beq k 113 || Nat.beq k 145 || Nat.beq k 177 || Nat.beq k 209 || Nat.beq k 241 || Nat.beq k 593
def Pcl : Nat → Nat → Nat → Prop := fun k _ _ => ef_C k = true
def EC (a a' : ew_S) : Prop := ∀ k, ef_K k = true → a' k = a k
section
variable {q i nb ns np T c : Nat} {β σ : Nat → Nat} {ρ : Nat → Nat → Nat} {z : ew_Z3} {a a' s s1 s' : ew_S} {m m1 m' : ew_H}
theorem Fr.k (F : Fr Pcl s s1) {k : Nat} (hk : ef_C k = false) : s1 k = s k := funext fun p => funext fun i => F k p i (fun w => by
  unfold Pcl at w
  rw [hk] at w
  exact Bool.noConfusion w)
theorem EC.g (e : EC a a') {k p i : Nat} (hk : ef_K k = true) : a' k p i = a k p i := by rw [e k hk]
theorem RM.cs (h : RM q i nb ns np β σ ρ z a s m) (F : Fr Pcl s s1) : RM q i nb ns np β σ ρ z a s1 m := by
  unfold RM rc rb rs rp LR at h ⊢
  simp only [F.k (k := 14) rfl, F.k (k := 273) rfl, F.k (k := 305) rfl, F.k (k := 337) rfl, F.k (k := 50) rfl, F.k (k := 2) rfl, F.k (k := 34) rfl, F.k (k := 66) rfl, F.k (k := 12) rfl, F.k (k := 98) rfl, F.k (k := 15) rfl, F.k (k := 369) rfl, F.k (k := 130) rfl, F.k (k := 13) rfl, F.k (k := 82) rfl, F.k (k := 162) rfl, F.k (k := 561) rfl]
  exact h
theorem RM.ms (h : RM q i nb ns np β σ ρ z a s m) (h1 : ∀ k, ¬ k = 19 → m1.1 k = m.1 k) (h2 : m1.2.2.1 = m.2.2.1) : RM q i nb ns np β σ ρ z a s m1 := by
  unfold RM rc rb rs rp LR at h ⊢
  simp only [h2, h1 2 (by decide), h1 34 (by decide), h1 66 (by decide), h1 98 (by decide), h1 130 (by decide), h1 162 (by decide), h1 (2 + 18) (by decide), h1 (34 + 18) (by decide), h1 (66 + 18) (by decide), h1 (98 + 18) (by decide), h1 (130 + 18) (by decide), h1 (162 + 18) (by decide)]
  exact h
theorem RM.ca (h : RM q i nb ns np β σ ρ z a s m) (e : EC a a') : RM q i nb ns np β σ ρ z a' s m := by
  unfold RM rc rb rs rp LR at h ⊢
  simp only [e 9 rfl, e 4 rfl, e 3 rfl, e 8 rfl, e 145 rfl, e 10 rfl, e 40 rfl, e 593 rfl, e 177 rfl, e 6 rfl, e 18 rfl, e 113 rfl, e 81 rfl]
  exact h
theorem Iv.ca (h : Iv q nb ns np T a) (e : EC a a') : Iv q nb ns np T a' := by
  obtain ⟨x, b, hc, hb, hs, hp, n, ht1, ht2⟩ := h
  exact ⟨x, ⟨(e.g rfl).trans b.1, (e.g rfl).trans b.2.1, (e.g rfl).trans b.2.2⟩, fun c z => (hc c z).to (fun p => e.g rfl), fun c z => (hb c z).to (fun p => e.g rfl) (fun p => e.g rfl) (fun p => e.g rfl), fun c z => (hs c z).to (fun p => e.g rfl) (fun p => e.g rfl) (fun p => e.g rfl), fun c z => (hp c z).to (fun p => e.g rfl) (fun p => e.g rfl), n, ht1, fun c z => (e.g rfl).trans (ht2 c z)⟩
theorem Un.ca (h : Un nb ns np a) (e : EC a a') : Un nb ns np a' := by
  have n : ∀ {k : Nat}, ef_K k = true → ¬ ef_K k = false := fun h w => by rw [h] at w; exact Bool.noConfusion w
  refine h.fr (P := fun k _ _ => ef_K k = false) (fun k p i w => ?_) (fun _ _ _ k p hk => ?_) (fun _ _ _ k p hk => ?_) (fun _ _ _ k p hk => ?_)
  · cases hk : ef_K k with
    | true => exact e.g hk
    | false => exact absurd hk w
  · rcases hk with rfl | rfl <;> exact n rfl
  · rcases hk with rfl | rfl | rfl <;> exact n rfl
  · rcases hk with rfl | rfl <;> exact n rfl
theorem Lb.ca (h : Lb nb ns a) (e : EC a a') : Lb nb ns a' := h.le (fun _ _ => Or.inl ⟨e.g rfl, e.g rfl⟩)
theorem RR.cs (h : RR q i nb ns np T β σ ρ z a s m) (F : Fr Pcl s s1) : RR q i nb ns np T β σ ρ z a s1 m := by
  refine ⟨h.1.cs F, h.2.1, h.2.2.1, ?_⟩
  have := h.2.2.2
  unfold CC at this ⊢
  rw [F.k (k := 0) rfl, F.k (k := 49) rfl]
  exact this
theorem RR.ms (h : RR q i nb ns np T β σ ρ z a s m) (h1 : ∀ k, ¬ k = 19 → m1.1 k = m.1 k) (h2 : m1.2.2.1 = m.2.2.1) (h3 : m1.2.2.2.1 = m.2.2.2.1) : RR q i nb ns np T β σ ρ z a s m1 := by
  refine ⟨h.1.ms h1 h2, h.2.1, ?_, h.2.2.2⟩
  have := h.2.2.1
  unfold GI at this ⊢
  rw [h2, h3]
  exact this
theorem RR.ca (h : RR q i nb ns np T β σ ρ z a s m) (e : EC a a') : RR q i nb ns np T β σ ρ z a' s m := ⟨h.1.ca e, h.2.1.ca e, h.2.2⟩
theorem em_put19 (v : ew_V) : (∀ k, ¬ k = 19 → (ew_put m 19 0 0 v).1 k = m.1 k) ∧ (ew_put m 19 0 0 v).1 19 0 0 = ew_mg true v (m.1 19 0 0) := by
  refine ⟨fun k hk => ?_, rfl⟩
  funext i' s'
  show (bif Nat.beq k 19 then ew_mg (Nat.beq s' 0 && Nat.beq i' 0) v (m.1 k i' s') else m.1 k i' s') = m.1 k i' s'
  rw [ew_bne hk, cond_false]
/-- the main relation, after n calls -/
def MI (nb ns np n : Nat) (β σ : Nat → Nat) (ρ : Nat → Nat → Nat) (s : ew_S) (m : ew_H) : Prop := R0 nb ns np (3540 * n) β σ ρ s s m ∧ (m.2.2.1 16 0 = true ∧ m.2.2.2.1 13 = np) ∧ (Un nb ns np s ∧ Lb nb ns s) ∧ ∃ t, t ≤ 24 * n ∧ s 9 5 0 = ei t
/-- the script's length, and the room -/
def WI (L c0 d0 n : Nat) (m : ew_H) : Prop := m.2.1 17 0 = L ∧ m.2.2.2.2.1 ≤ c0 + 890 * n ∧ m.2.2.2.2.2 ≤ d0 + 13300 * n
theorem MI.next {n nb' ns' np' T' : Nat} {β' σ' : Nat → Nat} {ρ' : Nat → Nat → Nat} {P : Nat → Nat → Nat → Prop} (h16 : m1.2.2.1 16 0 = true) (e1 : s1 = a) (R : R0 nb' ns' np' T' β' σ' ρ' a s' m') (hT : T' ≤ 3540 * (n + 1)) (E : Ex P c s1 m1 s' m') (h13 : m'.2.2.2.1 13 = np') (u : Un nb' ns' np' a) (l : Lb nb' ns' a) {t : Nat} (h1 : t ≤ 24 * (n + 1)) (h2 : a 9 5 0 = ei t) : MI nb' ns' np' (n + 1) β' σ' ρ' s' m' := by
  subst e1
  have e : EC s1 s' := fun k hk => (E.1 k hk).1
  exact ⟨(R.leT hT).ca e, ⟨E.2.1 _ _ h16, h13⟩, ⟨u.ca e, l.ca e⟩, t, h1, (e.g rfl).trans h2⟩
theorem WI.next {L c0 d0 n : Nat} {P : Nat → Nat → Nat → Prop} (h : WI L c0 d0 n m) (h1 : m1.2.1 17 0 = m.2.1 17 0) (h2 : m1.2.2.2.2.1 ≤ m.2.2.2.2.1 + 1) (h3 : m1.2.2.2.2.2 ≤ m.2.2.2.2.2 + 6) (E : Ex P c s1 m1 s' m') (hc : c ≤ 880) (e : m'.2.1 17 = m1.2.1 17) : WI L c0 d0 (n + 1) m' := by
  obtain ⟨k1, k2, k3⟩ := h
  obtain ⟨e1, e2⟩ := E.2.2.2.2
  refine ⟨by rw [e, h1, k1], by omega, by omega⟩
end
