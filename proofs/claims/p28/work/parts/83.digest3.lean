/-! The digest of the class, whole. -/
section
variable {d : Nat} {s : ew_S} {m : ew_H} {K : ew_R → ew_H → Prop} {nb ns np T : Nat}
theorem xl_d3 (h : Iv 0 nb ns np T s) (v0 : Int64) (k : ∀ s' u, Fr Pct s s' → ew_W (ew_Call (d + 6)) 97 K (141, [some (ew_o 11 0), some (ew_j (sp_d3 s ns v0 nb)), none, some (ew_i (ei 0)), u], [], ew_hp s' m)) : ∀ (r b : Nat) (y : Int32) (v : Int64) (u : Option ew_V) (s1 : ew_S), y = ei b → b + r = nb → v = sp_d3 s ns v0 b → Fr Pct s s1 →
    ew_W (ew_Call (d + 6)) 97 K (78, [some (ew_o 11 0), some (ew_j v), none, some (ew_i y), u], [], ew_hp s1 m) := by
  have h5 := h.1
  intro r
  induction r with
  | zero =>
    intro b y v u s1 hy hb hv F
    subst hy; subst hv
    obtain rfl : b = nb := by omega
    have e : s1 9 3 0 ≤ ei b := by rw [pt9 F, h.2.1.1]; exact Int32.le_refl _
    exact ew_go (fun pc => Nat.beq pc 78 || Nat.beq pc 141) 40 ⟨fun _ => k s1 u F, fun z => absurd e z⟩
  | succ r ih =>
    intro b y v u s1 hy hb hv F
    subst hy; subst hv
    have e : ¬ s1 9 3 0 ≤ ei b := by rw [pt9 F, h.2.1.1, ei_le (by omega) (by omega)]; omega
    exact ew_go (fun pc => Nat.beq pc 78 || Nat.beq pc 92) 40 ⟨fun z => absurd z e, fun _ => xl_db h F (by omega) rfl _ (fun s' z' hz F' => ih (b + 1) _ _ _ _ hz (by omega) rfl F') 6 0 _ _ rfl rfl rfl⟩
theorem xl_d4 (h : Iv 0 nb ns np T s) (hT : T ≤ 90000000) (v0 : Int64) (k : ∀ s' u A, Fr Pct s s' → (∀ j, j < ns → sp_A nb ns s A j) → ew_W (ew_Call (d + 6)) 97 K (246, [some (ew_o 11 0), some (ew_j (sp_d4 A s v0 ns)), none, some (ew_i (ei 0)), u], [], ew_hp s' m)) : ∀ (r j : Nat) (y : Int32) (v : Int64) (u : Option ew_V) (s1 : ew_S) (A : Nat → Int32), y = ei j → j + r = ns → (∀ i, i < j → sp_A nb ns s A i) → v = sp_d4 A s v0 j → Fr Pct s s1 →
    ew_W (ew_Call (d + 6)) 97 K (141, [some (ew_o 11 0), some (ew_j v), none, some (ew_i y), u], [], ew_hp s1 m) := by
  have h5 := h.1
  intro r
  induction r with
  | zero =>
    intro j y v u s1 A hy hj hA hv F
    subst hy; subst hv
    obtain rfl : j = ns := by omega
    have e : s1 9 4 0 ≤ ei j := by rw [pt9 F, h.2.1.2.1]; exact Int32.le_refl _
    exact ew_go (fun pc => Nat.beq pc 141 || Nat.beq pc 246) 40 ⟨fun _ => k s1 u A F hA, fun z => absurd e z⟩
  | succ r ih =>
    intro j y v u s1 A hy hj hA hv F
    subst hy; subst hv
    have e : ¬ s1 9 4 0 ≤ ei j := by rw [pt9 F, h.2.1.2.1, ei_le (by omega) (by omega)]; omega
    refine ew_go (fun pc => Nat.beq pc 141 || Nat.beq pc 155) 40 ⟨fun z => absurd z e, fun _ => xl_ds h hT F (by omega) rfl _ (fun s' z' v hz F' q => ih (j + 1) _ _ _ _ (fun i => if i = j then v else A i) hz (by omega) (fun i hi => ?_) ?_ F') 15 0 _ _ rfl rfl rfl⟩
    · show (s 10 7 i = 3 → (if i = j then v else A i) = 0) ∧ (¬ s 10 7 i = 3 → ∃ s1 a, Fr Pct s s1 ∧ cp_d nb ns s1 a ∧ (if i = j then v else A i) = sp_ai i 1 (-1) a 6 0)
      by_cases w : i = j
      · subst w
        rw [if_pos rfl]
        exact q
      · rw [if_neg w]
        exact hA i (by omega)
    · have e1 : sp_d4 (fun i => if i = j then v else A i) s v0 j = sp_d4 A s v0 j := sp_d4_cg j (fun i hi => if_neg (by omega))
      show _ = ((sp_df (fun w => sp_sv j (ei w) s) (sp_d4 (fun i => if i = j then v else A i) s v0 j) 15 * 31 + (sp_way j (s 6 4 (s 10 6 j).toNatClampNeg).toNatClampNeg s).toInt64) * 31 + (sp_tb j s).toInt64) * 31 + (if j = j then v else A j).toInt64
      rw [e1, if_pos rfl]
theorem xl_d5 {s1 : ew_S} (h : Iv 0 nb ns np T s) (h0 : 0 ≤ s 9 5 0) (F : Fr Pct s s1) (v0 : Int64) (k : K (.inl (some (ew_j (sp_d5 s v0 np)))) (ew_hp s1 m)) : ∀ (r p : Nat) (y : Int32) (v : Int64) (u : Option ew_V), y = ei p → p + r = np → v = sp_d5 s v0 p →
    ew_W (ew_Call (d + 6)) 97 K (246, [some (ew_o 11 0), some (ew_j v), none, some (ew_i y), u], [], ew_hp s1 m) := by
  have h5 := h.1
  intro r
  induction r with
  | zero =>
    intro p y v u hy hp hv
    subst hy; subst hv
    obtain rfl : p = np := by omega
    have e : s1 7 1 0 ≤ ei p := by rw [pt7 F, h.2.1.2.2]; exact Int32.le_refl _
    exact ew_go (fun pc => Nat.beq pc 246) 40 ⟨fun _ => ⟨trivial, k⟩, fun z => absurd e z⟩
  | succ r ih =>
    intro p y v u hy hp hv
    subst hy; subst hv
    have e : ¬ s1 7 1 0 ≤ ei p := by rw [pt7 F, h.2.1.2.2, ei_le (by omega) (by omega)]; omega
    exact ew_go (fun pc => Nat.beq pc 246) 60 ⟨fun z => absurd z e, fun _ => xq_if h F (by omega) rfl (pt9 F) h0 (xq_if h F (by omega) rfl (y := 100) rfl (by decide) (ih (p + 1) _ _ _ (ei_1 _) (by omega) rfl))⟩
theorem xp_digest (h : Iv 0 nb ns np T s) (hT : T ≤ 90000000) (h0 : 0 ≤ s 9 5 0) (k : ∀ s' A, Fr Pct s s' → (∀ j, j < ns → sp_A nb ns s A j) → K (.inl (some (ew_j (sp_dig A nb ns np s)))) (ew_hp s' m)) : ew_Call (d + 7) 97 [ew_o 11 0] (ew_hp s m) K :=
  ew_call (ew_go (fun pc => Nat.beq pc 6) 40 (xl_dg1 (d := d) h (xl_dg3 h _ (xl_d3 h _ (fun s' u F => xl_d4 h hT _ (fun s2 u2 A F2 hA => xl_d5 h h0 F2 _ (k s2 A F2 hA) np 0 _ _ _ rfl (by omega) rfl) ns 0 _ _ _ s' (fun _ => 0) rfl (by omega) (fun i hi => absurd hi (Nat.not_lt_zero _)) rfl F) nb 0 _ _ _ s rfl (by omega) rfl (Fr.rf _ _)) 15 0 _ _ none rfl rfl (fun z => by omega) rfl) 11 0 _ _ rfl rfl rfl))
end
