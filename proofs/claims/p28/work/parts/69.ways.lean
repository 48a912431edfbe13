/-! The class's ways. -/
def sp_ce (q J c : Nat) (a : ew_S) : Prop := a 4 3 (c + 15 * q) = 0 ∧ ef_hind 1 (sp_w q c a) (a 10 5 J) (a 10 4 J) = -1
def sp_hc (q J c : Nat) (a : ew_S) : Prop := a 4 3 (c + 15 * q) = 0 ∧ ef_hind 1 (a 4 0 (c + 15 * q) / 4 + 5 * a 4 1 (c + 15 * q)) (a 10 5 J) (a 10 4 J) = -1
def sp_pw (q J : Nat) (a : ew_S) (c : Nat) : Nat := if a 4 3 (c + 15 * q) = 0 ∧ ef_hind 1 (sp_w q c a) (a 10 5 J) (a 10 4 J) = -1 then 1 else 2
def sp_pb (q J : Nat) (a : ew_S) (c : Nat) : Nat := if a 4 3 (c + 15 * q) = 0 ∧ ef_hind 1 (sp_w q c a) (a 10 5 J) (a 10 4 J) = -1 then 0 else if a 4 3 (c + 15 * q) = 0 ∧ ef_hind 1 (a 4 0 (c + 15 * q) / 4 + 5 * a 4 1 (c + 15 * q)) (a 10 5 J) (a 10 4 J) = -1 then 1 else 2
theorem sp_pw1 {q J c : Nat} {a : ew_S} (h : sp_ce q J c a) : sp_pw q J a c = 1 := if_pos h
theorem sp_pw2 {q J c : Nat} {a : ew_S} (h : ¬ sp_ce q J c a) : sp_pw q J a c = 2 := if_neg h
theorem sp_pb0 {q J c : Nat} {a : ew_S} (h : sp_ce q J c a) : sp_pb q J a c = 0 := if_pos h
theorem sp_pb1 {q J c : Nat} {a : ew_S} (h : ¬ sp_ce q J c a) (h2 : sp_hc q J c a) : sp_pb q J a c = 1 := (if_neg h).trans (if_pos h2)
theorem sp_pb2 {q J c : Nat} {a : ew_S} (h : ¬ sp_ce q J c a) (h2 : ¬ sp_hc q J c a) : sp_pb q J a c = 2 := (if_neg h).trans (if_neg h2)
theorem sp_pw_le (q J : Nat) (a : ew_S) (c : Nat) : sp_pw q J a c ≤ 2 := by unfold sp_pw; split <;> omega
theorem sp_pb_le (q J : Nat) (a : ew_S) (c : Nat) : sp_pb q J a c ≤ 2 := by
  unfold sp_pb
  split
  · omega
  · split <;> omega
def sp_way (J to : Nat) (a : ew_S) : Int32 := d_res (sp_pw 0 J a) (a 10 2 J).toNatClampNeg to
def sp_tb (J : Nat) (a : ew_S) : Int32 := d_res (sp_pb 0 J a) (a 10 2 J).toNatClampNeg (a 6 4 (a 10 6 J).toNatClampNeg).toNatClampNeg
abbrev Pch : Nat → Nat → Nat → Prop := fun k _ o => (k = 209 ∨ k = 241) ∧ o = 0
section
variable {d : Nat} {s : ew_S} {m : ew_H} {K : ew_R → ew_H → Prop} {nb ns np T : Nat}
theorem xc_canEnter (J c : Nat) (k1 : sp_ce 0 J c s → K (.inl (some (ew_i 1))) (ew_hp s m)) (k0 : ¬ sp_ce 0 J c s → K (.inl (some (ew_i 0))) (ew_hp s m)) : ew_Call (d + 2) 101 [ew_o 10 J, ew_o 4 c] (ew_hp s m) K := by
  refine ew_call (ew_go (fun _ => false) 60 ⟨fun z => ⟨Or.inl rfl, k0 (fun w => z w.1)⟩, fun z => xc_worth c (xc_hindrance J _ 1 ⟨fun e => ⟨Or.inl rfl, k0 (fun w => e w.2)⟩, fun e => ⟨Or.inr rfl, k1 ⟨Classical.not_not.mp z, Classical.not_not.mp e⟩⟩⟩)⟩)
theorem xc_breakingPrice (J c : Nat) (k : K (.inl (some (ew_i (d_z (sp_pb 0 J s c))))) (ew_hp s m)) : ew_Call (d + 3) 100 [ew_o 10 J, ew_o 4 c] (ew_hp s m) K := by
  refine ew_call (ew_go (fun pc => Nat.beq pc 35) 60 (xc_canEnter J c (fun h => ⟨fun z => absurd z (show ¬ (1 : Int32) = 0 by decide), fun _ => ⟨trivial, ?_⟩⟩) (fun h => ⟨fun _ => ?_, fun z => absurd rfl z⟩)))
  · rw [sp_pb0 h] at k; exact k
  · have t0 : ¬ sp_hc 0 J c s → ew_W (ew_Call (d + 2)) 100 K (35, [some (ew_o 10 J), some (ew_o 4 c), none], [ew_i 0], ew_hp s m) := fun h2 => by
      rw [sp_pb2 h h2] at k
      exact ew_go (fun _ => false) 60 ⟨fun _ => ⟨trivial, k⟩, fun z => absurd rfl z⟩
    refine ⟨fun z => t0 (fun w => z w.1), fun z => xc_worthInChannel c (xc_hindrance J _ 1 ⟨fun e => t0 (fun w => e w.2), fun e => ?_⟩)⟩
    rw [sp_pb1 h ⟨Classical.not_not.mp z, Classical.not_not.mp e⟩] at k
    show ew_W (ew_Call (d + 2)) 100 K (35, [some (ew_o 10 J), some (ew_o 4 c), none], [ew_i 1], ew_hp s m)
    exact ew_go (fun _ => false) 60 ⟨fun z => absurd z (show ¬ (1 : Int32) = 0 by decide), fun _ => ⟨trivial, k⟩⟩
theorem xc_portCellOf (h : Iv 0 nb ns np T s) {j p : Nat} (hp : p < np) (e : s 10 6 j = ei p) (k : K (.inl (some (ew_i (s 6 4 p)))) (ew_hp s m)) : ew_Call (d + 2) 98 [ew_o 11 0, ew_o 10 j] (ew_hp s m) K := by
  have := h.1
  exact ew_call (ew_go (fun _ => false) 60 (xc_portAtE p np h.2.1.2.2 (by omega) hp e ⟨trivial, k⟩))
theorem sp_ce_cg {q J c : Nat} {a a' : ew_S} (e : ∀ p i, a' 4 p i = a 4 p i) (e1 : ∀ p i, a' 10 p i = a 10 p i) : sp_ce q J c a' ↔ sp_ce q J c a := by
  unfold sp_ce sp_w
  rw [e, e, e, e, e1, e1]
theorem sp_pb_cg {q J : Nat} {a a' : ew_S} (e : ∀ p i, a' 4 p i = a 4 p i) (e1 : ∀ p i, a' 10 p i = a 10 p i) : sp_pb q J a' = sp_pb q J a := by
  have e4 : a' 4 = a 4 := funext fun p => funext fun i => e p i
  have e10 : a' 10 = a 10 := funext fun p => funext fun i => e1 p i
  funext c
  unfold sp_pb sp_w
  rw [e4, e10]
theorem sp_pw_cg {q J : Nat} {a a' : ew_S} (e : ∀ p i, a' 4 p i = a 4 p i) (e1 : ∀ p i, a' 10 p i = a 10 p i) : sp_pw q J a' = sp_pw q J a := by
  have e4 : a' 4 = a 4 := funext fun p => funext fun i => e p i
  have e10 : a' 10 = a 10 := funext fun p => funext fun i => e1 p i
  funext c
  unfold sp_pw sp_w
  rw [e4, e10]
theorem Iv.cg {q : Nat} {s' : ew_S} (h : Iv q nb ns np T s) (F : Fr Pch s s') : Iv q nb ns np T s' := by
  have f : ∀ {k p i : Nat}, k ≠ 209 → k ≠ 241 → s' k p i = s k p i := fun a b => F _ _ _ (fun w => by have := w.1; omega)
  obtain ⟨a, b, hc, hb, hs, hp, ht⟩ := h
  refine ⟨a, ⟨?_, ?_, ?_⟩, fun c z => (hc c z).to (fun p => f (by decide) (by decide)), fun c z => (hb c z).to (fun p => f (by decide) (by decide)) (fun p => f (by decide) (by decide)) (fun p => f (by decide) (by decide)), fun c z => (hs c z).to (fun p => f (by decide) (by decide)) (fun p => f (by decide) (by decide)) (fun p => f (by decide) (by decide)), fun c z => (hp c z).to (fun p => f (by decide) (by decide)) (fun p => f (by decide) (by decide)), ht.to (fun i => f (by decide) (by decide))⟩
  · rw [f (by decide) (by decide)]; exact b.1
  · rw [f (by decide) (by decide)]; exact b.2.1
  · rw [f (by decide) (by decide)]; exact b.2.2
theorem xl_need (h : Iv 0 nb ns np T s) {j f p t : Nat} (ht : t < 15) (hf : f < 15) (hp : p < np) (e1 : s 10 2 j = ei f) (e2 : s 10 6 j = ei p) (e3 : s 6 4 p = ei t) (k : ∀ s', Fr Pch s s' → K (.inl (some (ew_i (d_res (sp_pb 0 j s) f t)))) (ew_hp s' m)) : ∀ (r x : Nat) (y : Int32) (s1 : ew_S), y = ei x → x + r = 15 → Fr Pch s s1 → (∀ c, c < x → s1 209 c 0 = d_z (sp_pb 0 j s c)) →
    ew_W (ew_Call (d + 4)) 99 K (2, [some (ew_o 11 0), some (ew_o 10 j), some (ew_i y)], [], ew_hp s1 m) := by
  have g : ∀ {s1 : ew_S} {k p i : Nat}, Fr Pch s s1 → k ≠ 209 → k ≠ 241 → s1 k p i = s k p i := fun F a b => F _ _ _ (fun w => by have := w.1; omega)
  intro r
  induction r with
  | zero =>
    intro x y s1 hy hj F hc
    subst hy
    obtain rfl : x = 15 := by omega
    have lt : ei 15 ≤ ei 15 := Int32.le_refl _
    refine ew_go (fun pc => Nat.beq pc 2 || Nat.beq pc 42 || Nat.beq pc 47) 60 ⟨fun _ => ?_, fun z => absurd lt z⟩
    show ew_W (ew_Call (d + 4)) 99 K (42, [some (ew_o 11 0), some (ew_o 10 j), some (ew_i (ei 15))], [ew_i (s1 10 2 j), ew_o 5 0], ew_hp s1 m)
    refine eq_s (w := ew_i (ei f)) (by rw [g F (by decide) (by decide), e1]) (ew_go (fun pc => Nat.beq pc 47) 60 (xc_portCellOf (h.cg F) hp ((g F (by decide) (by decide)).trans e2) ?_))
    show ew_W (ew_Call (d + 4)) 99 K (47, [some (ew_o 11 0), some (ew_o 10 j), some (ew_i (ei 15))], [ew_i (s1 6 4 p), ew_i (ei f), ew_o 5 0], ew_hp s1 m)
    refine eq_s (w := ew_i (ei t)) (by rw [g F (by decide) (by decide), e3]) (ew_go (fun _ => false) 60 (xc_cheapest (pr := sp_pb 0 j s) hf ht (fun c h15 => ⟨hc c h15, sp_pb_le _ _ _ _⟩) (fun s' F' => ⟨trivial, k s' (F.tr (F'.mono (fun _ _ _ w => ⟨Or.inr w.1, w.2⟩)))⟩)))
  | succ r ih =>
    intro x y s1 hy hj F hc
    subst hy
    have clt : ¬ ei 15 ≤ ei x := by rw [ei_le (by decide) (by omega)]; omega
    refine ew_go (fun pc => Nat.beq pc 2) 60 ⟨fun z => absurd z clt, fun _ => xc_cellAt 0 x (by omega) (xc_breakingPrice j _ (xc_setPrice x (by omega) _ (ih (x + 1) _ _ (ei_1 _) (by omega) (F.u _ ⟨Or.inl rfl, rfl⟩) (fun c hcx => ?_))))⟩
    by_cases e : c = x
    · subst e
      rw [ew_u_self, sp_pb_cg (fun p i => g F (by decide) (by decide)) (fun p i => g F (by decide) (by decide))]; rfl
    · rw [ew_u_ne _ _ (by omega)]; exact hc c (by omega)
theorem xc_channelsNeeded (h : Iv 0 nb ns np T s) {j : Nat} (hj : j < ns) (k : ∀ s', Fr Pch s s' → K (.inl (some (ew_i (sp_tb j s)))) (ew_hp s' m)) : ew_Call (d + 5) 99 [ew_o 11 0, ew_o 10 j] (ew_hp s m) K := by
  obtain ⟨⟨f, hf, e1⟩, -, ⟨p, hp, e2⟩, -⟩ := h.2.2.2.2.1 j hj
  obtain ⟨⟨t, ht, e3⟩, -⟩ := h.2.2.2.2.2.1 p hp
  have e1 : s 10 2 j = ei f := e1
  have e2 : s 10 6 j = ei p := e2
  have e3 : s 6 4 p = ei t := e3
  have hnp := h.1
  unfold sp_tb at k
  rw [e1, e2, ei_nat (by omega), ei_nat (by omega), e3, ei_nat (by omega)] at k
  exact ew_call (ew_go (fun pc => Nat.beq pc 2) 40 (xl_need (d := d) h ht hf hp e1 e2 e3 k 15 0 0 s rfl rfl (Fr.rf _ _) (fun c hc => absurd hc (Nat.not_lt_zero _))))
theorem xl_way (h : Iv 0 nb ns np T s) {j f t : Nat} (ht : t < 15) (hf : f < 15) (e1 : s 10 2 j = ei f) (k : ∀ s', Fr Pch s s' → K (.inl (some (ew_i (d_res (sp_pw 0 j s) f t)))) (ew_hp s' m)) {v : Int32} : ∀ (r x : Nat) (y : Int32) (s1 : ew_S), y = ei x → x + r = 15 → Fr Pch s s1 → (∀ c, c < x → s1 209 c 0 = d_z (sp_pw 0 j s c)) →
    ew_W (ew_Call (d + 4)) 93 K (21, [some (ew_o 11 0), some (ew_i v), some (ew_i (ei t)), some (ew_o 10 j), some (ew_i y)], [], ew_hp s1 m) := by
  have g : ∀ {s1 : ew_S} {k p i : Nat}, Fr Pch s s1 → k ≠ 209 → k ≠ 241 → s1 k p i = s k p i := fun F a b => F _ _ _ (fun w => by have := w.1; omega)
  intro r
  induction r with
  | zero =>
    intro x y s1 hy hj F hc
    subst hy
    obtain rfl : x = 15 := by omega
    have lt : ei 15 ≤ ei 15 := Int32.le_refl _
    refine ew_go (fun pc => Nat.beq pc 21 || Nat.beq pc 72) 60 ⟨fun _ => ?_, fun z => absurd lt z⟩
    show ew_W (ew_Call (d + 4)) 93 K (72, [some (ew_o 11 0), some (ew_i v), some (ew_i (ei t)), some (ew_o 10 j), some (ew_i (ei 15))], [ew_i (s1 10 2 j), ew_o 5 0], ew_hp s1 m)
    exact eq_s (w := ew_i (ei f)) (by rw [g F (by decide) (by decide), e1]) (ew_go (fun _ => false) 60 (xc_cheapest (pr := sp_pw 0 j s) hf ht (fun c h15 => ⟨hc c h15, sp_pw_le _ _ _ _⟩) (fun s' F' => ⟨trivial, k s' (F.tr (F'.mono (fun _ _ _ w => ⟨Or.inr w.1, w.2⟩)))⟩)))
  | succ r ih =>
    intro x y s1 hy hj F hc
    subst hy
    have clt : ¬ ei 15 ≤ ei x := by rw [ei_le (by decide) (by omega)]; omega
    have c1 := sp_ce_cg (q := 0) (J := j) (c := x) (a := s) (a' := s1) (fun p i => g F (by decide) (by decide)) (fun p i => g F (by decide) (by decide))
    have fin : ∀ v : Int32, v = d_z (sp_pw 0 j s x) → ∀ c, c < x + 1 → ew_u s1 209 x 0 v 209 c 0 = d_z (sp_pw 0 j s c) := fun v hv c hcx => by
      by_cases e : c = x
      · subst e
        rw [ew_u_self, hv]
      · rw [ew_u_ne _ _ (by omega)]; exact hc c (by omega)
    refine ew_go (fun pc => Nat.beq pc 21) 60 ⟨fun z => absurd z clt, fun _ => xc_cellAt 0 x (by omega) (xc_canEnter j _ (fun w => ⟨fun z => absurd z (show ¬ (1 : Int32) = 0 by decide), fun _ => xc_setPrice x (by omega) _ (ih (x + 1) _ _ (ei_1 _) (by omega) (F.u _ ⟨Or.inl rfl, rfl⟩) (fin _ ?_))⟩) (fun w => ⟨fun _ => xc_setPrice x (by omega) _ (ih (x + 1) _ _ (ei_1 _) (by omega) (F.u _ ⟨Or.inl rfl, rfl⟩) (fin _ ?_)), fun z => absurd rfl z⟩))⟩
    · rw [sp_pw1 (c1.mp w)]; rfl
    · rw [sp_pw2 (fun y => w (c1.mpr y))]; rfl
end
