/-! The law's loop: what its parts share. -/
/-- the state at the loop's head after n calls -/
def LA (L c0 d0 nb ns np n : Nat) (β σ : Nat → Nat) (ρ : Nat → Nat → Nat) (s : ew_S) (m : ew_H) : Prop := MI nb ns np n β σ ρ s m ∧ WI L c0 d0 n m ∧ n < 512 ∧ 5 * n + 5 ≤ L ∧ L ≤ 2560
/-- what the law's own methods do to what varies -/
def MD (m m1 : ew_H) : Prop := (∀ k, ¬ k = 19 → m1.1 k = m.1 k) ∧ m1.2.1 = m.2.1 ∧ m1.2.2.1 = m.2.2.1 ∧ m1.2.2.2.1 = m.2.2.2.1 ∧ m1.2.2.2.2.1 ≤ m.2.2.2.2.1 + 1 ∧ m1.2.2.2.2.2 ≤ m.2.2.2.2.2 + 6
theorem MD.put (m : ew_H) (v : ew_V) : MD m (ew_put m 19 0 0 v) := ⟨(em_put19 v).1, rfl, rfl, rfl, Nat.le_succ _, Nat.le_add_right _ _⟩
theorem MD.pay (m : ew_H) : MD m (ew_pay m 1 6) := ⟨fun _ _ => rfl, rfl, rfl, rfl, Nat.le_refl _, Nat.le_refl _⟩
theorem MD.rf (m : ew_H) : MD m m := ⟨fun _ _ => rfl, rfl, rfl, rfl, Nat.le_succ _, Nat.le_add_right _ _⟩
theorem ei_ne0 {r : Nat} (h : ¬ r = 0) (h' : r < 100) : ¬ ei r = 0 := fun z => h ((ei_inj (a := r) (b := 0) (by omega) (by decide)).mp z)
section
variable {d : Nat} {s s1 : ew_S} {m m1 : ew_H} {K : ew_R → ew_H → Prop} {L c0 d0 nb ns np n T : Nat} {β σ : Nat → Nat} {ρ : Nat → Nat → Nat} {f : Nat → Nat} {o : ew_O}
theorem KV.md (h0 : f 0 = 0) (hf : f o.1 < 100) (k : ∀ m1 c, MD m m1 → c = ei (f o.1) → (c = 0 → m1.1 19 0 0 = ew_j o.2.1.toInt64) → K (.inl (some (ew_i c))) (ew_hp o.2.2 m1)) : KV K m f o :=
  ⟨fun e => k _ 0 (MD.put m _) (by rw [e, h0]; rfl) (fun _ => rfl), fun r hr _ e => k _ _ (MD.pay m) (by rw [e]) (fun z => absurd z (ei_ne0 hr (by rw [← e]; exact hf)))⟩
theorem KVb.md (h0 : f 0 = 0) (hf : f o.1 < 100) (k : ∀ m1 c, MD m m1 → c = ei (f o.1) → (c = 0 → m1.1 19 0 0 = ew_j (if o.2.1 = 0 then 0 else 1)) → K (.inl (some (ew_i c))) (ew_hp o.2.2 m1)) : KVb K m f o :=
  ⟨fun e => k _ 0 (MD.put m _) (by rw [e, h0]; rfl) (fun _ => rfl), fun r hr _ e => k _ _ (MD.pay m) (by rw [e]) (fun z => absurd z (ei_ne0 hr (by rw [← e]; exact hf)))⟩
theorem WI.ix (W : WI L c0 d0 n m) (hi : 5 * n + 5 ≤ L) (hL : L ≤ 2560) (j : Nat) (hj : j < 5) (h1 : m1.2.1 = m.2.1) : ew_ix (ei (5 * n) + ei j) (m1.2.1 17 0) := by
  rw [h1, W.1, ei_add]
  exact ei_ix (by omega) (by omega)
theorem xm_thrown (k : K (.inl (some (ew_i (s 16 0 0)))) (ew_hp s m)) : ew_Call (d + 1) 140 [ew_o 16 0] (ew_hp s m) K := ew_call (ew_go (fun _ => false) 40 ⟨trivial, k⟩)
/-- the loop goes on -/
def LK (d : Nat) (K : ew_R → ew_H → Prop) (L c0 d0 n : Nat) : Prop := ∀ (nb ns np : Nat) (β σ : Nat → Nat) (ρ : Nat → Nat → Nat) (s : ew_S) (m : ew_H) (u5 u6 u7 u8 : Option ew_V), MI nb ns np (n + 1) β σ ρ s m → WI L c0 d0 (n + 1) m → ew_W (ew_Call (d + 9)) 242 K (23, [some (ew_o 17 0), some (ew_o 11 0), some (ew_o 16 0), some (ew_o 19 0), some (ew_i (ei (5 * (n + 1)))), u5, u6, u7, u8], [], ew_hp s m)
theorem lw_next {u5 u6 u7 u8 : Option ew_V} (k : LK d K L c0 d0 n) (M : MI nb ns np (n + 1) β σ ρ s m) (W : WI L c0 d0 (n + 1) m) : ew_W (ew_Call (d + 9)) 242 K (1778, [some (ew_o 17 0), some (ew_o 11 0), some (ew_o 16 0), some (ew_o 19 0), some (ew_i (ei (5 * n))), u5, u6, u7, u8], [], ew_hp s m) := by
  have g := k nb ns np β σ ρ s m u5 u6 u7 u8 M W
  rw [show ei (5 * (n + 1)) = ei (5 * n) + 5 from (ei_add (5 * n) 5).symm] at g
  exact ew_go (fun pc => Nat.beq pc 23) 40 g
end
