/-! The class's trial: a copy of the sea. -/
theorem ef_us_F (k i i0 : Nat) : ∀ (l : List Nat) (s : ew_S), Fr (fun k' p' o => k' = k ∧ p' ∈ l ∧ o = i) s (ef_us k i i0 l s)
  | [], s => Fr.rf _ s
  | p :: l, s => ((Fr.rf _ s).u (s k p i0) ⟨rfl, List.mem_cons_self, rfl⟩).tr ((ef_us_F k i i0 l _).mono (fun k' p' o h => ⟨h.1, List.mem_cons_of_mem _ h.2.1, h.2.2⟩))
theorem ef_us_at {k i i0 : Nat} (hi : i ≠ i0) : ∀ (l : List Nat) (s : ew_S) (p : Nat), p ∈ l → ef_us k i i0 l s k p i = s k p i0
  | [], _, _, h => absurd h List.not_mem_nil
  | q :: l, s, p, h => by
    show ef_us k i i0 l (ew_u s k q i (s k q i0)) k p i = s k p i0
    by_cases hl : p ∈ l
    · rw [ef_us_at hi l _ p hl]
      exact ew_u_ne _ _ (by omega)
    · rw [ef_us_F k i i0 l _ k p i (fun w => hl w.2.1)]
      rcases List.mem_cons.mp h with e | e
      · subst e; exact ew_u_self _ _ _ _ _
      · exact absurd e hl
theorem ef_cp_F (s : ew_S) (k i i0 j : Nat) : Fr (fun k' p' o => k' = k ∧ o = i) s (ef_cp s k i i0 j) := fun k' p' o h => by
  unfold ef_cp
  cases hk : Nat.beq k' k with
  | false => rfl
  | true =>
    cases hi : Nat.beq o i with
    | false => rfl
    | true => exact absurd ⟨ew_beq hk, ew_beq hi⟩ h
theorem ef_cp_at (s : ew_S) {k i i0 j p : Nat} (h : p < j) : ef_cp s k i i0 j k p i = s k p i0 := by
  unfold ef_cp
  rw [ew_beqr, ew_beqr, show Nat.blt p j = true from Nat.ble_eq_true_of_le h]
  rfl
def Ptr : Nat → Nat → Nat → Prop := fun k _ o => (k = 4 ∧ 15 ≤ o ∧ o < 30) ∨ (k = 9 ∧ o = 1) ∨ ((k = 3 ∨ k = 8 ∨ k = 145) ∧ 2 ≤ o ∧ o < 4) ∨ ((k = 10 ∨ k = 40 ∨ k = 593 ∨ k = 177) ∧ 5 ≤ o ∧ o < 10)
def cp_c (c : Nat) (s s' : ew_S) : Prop := ∀ p, p < 5 → s' 4 p (c + 15) = s 4 p c
def cp_b (b : Nat) (s s' : ew_S) : Prop := (∀ p, 0 < p → p < 5 → s' 3 p (b + 2) = s 3 p b) ∧ s' 8 1 (b + 2) = s 8 1 b ∧ ∀ r, r < 8 → s' 145 r (b + 2) = s 145 r b
def cp_s (j : Nat) (s s' : ew_S) : Prop := (∀ p, 1 < p → p < 12 → s' 10 p (j + 5) = s 10 p j) ∧ s' 40 1 (j + 5) = s 40 1 j ∧ (∀ r, r < 8 → s' 593 r (j + 5) = s 593 r j) ∧ ∀ w, w < 5 → s' 177 w (j + 5) = s 177 w j
/-- s' holds in its trial what s has -/
def cp_d (nb ns : Nat) (s s' : ew_S) : Prop := (∀ p, 2 < p → p < 7 → s' 9 p 1 = s 9 p 0) ∧ (∀ c, c < 15 → cp_c c s s') ∧ (∀ b, b < nb → cp_b b s s') ∧ (∀ j, j < ns → cp_s j s s') ∧ Fr Ptr s s'
section
variable {d : Nat} {s : ew_S} {m : ew_H} {K : ew_R → ew_H → Prop} {nb ns np T : Nat}
theorem tr0 {s1 : ew_S} (F : Fr Ptr s s1) : (∀ p c, c < 15 → s1 4 p c = s 4 p c) ∧ (∀ p, s1 9 p 0 = s 9 p 0) ∧ (∀ k p b, b < 2 → k ≠ 4 → k ≠ 9 → k ≠ 10 → k ≠ 40 → k ≠ 593 → k ≠ 177 → s1 k p b = s k p b) ∧ (∀ k p j, j < 5 → k ≠ 4 → k ≠ 9 → k ≠ 3 → k ≠ 8 → k ≠ 145 → s1 k p j = s k p j) :=
  ⟨fun p c hc => F _ _ _ (fun w => by unfold Ptr at w; omega), fun p => F _ _ _ (fun w => by unfold Ptr at w; omega), fun k p b hb h1 h2 h3 h4 h5 h6 => F _ _ _ (fun w => by unfold Ptr at w; omega), fun k p j hj h1 h2 h3 h4 h5 => F _ _ _ (fun w => by unfold Ptr at w; omega)⟩
theorem xl_cpc (hl : ∀ c, c < 15 → s 4 3 c = 0 ∨ s 4 3 c = 1) (k : ∀ s1, (∀ p, 2 < p → p < 7 → s1 9 p 1 = s 9 p 0) → (∀ c, c < 15 → cp_c c s s1) → Fr Ptr s s1 → ew_W (ew_Call (d + 2)) 59 K (63, [some (ew_o 9 1), some (ew_o 9 0), some (ew_i (ei 15))], [], ew_hp s1 m)) : ∀ (r j : Nat) (y : Int32) (s1 : ew_S), y = ei j → j + r = 15 → (∀ p, 2 < p → p < 7 → s1 9 p 1 = s 9 p 0) → (∀ c, c < j → cp_c c s s1) → Fr Ptr s s1 →
    ew_W (ew_Call (d + 2)) 59 K (34, [some (ew_o 9 1), some (ew_o 9 0), some (ew_i y)], [], ew_hp s1 m) := by
  intro r
  induction r with
  | zero =>
    intro j y s1 hy hj hc h F
    subst hy
    obtain rfl : j = 15 := by omega
    exact ew_go (fun pc => Nat.beq pc 34 || Nat.beq pc 63) 40 ⟨fun _ => k s1 hc h F, fun z => absurd (show ei 15 ≤ ei 15 by decide) z⟩
  | succ r ih =>
    intro j y s1 hy hj hc h F
    subst hy
    have hj15 : j < 15 := by omega
    have clt : ¬ ei 15 ≤ ei j := by rw [ei_le (by decide) (by omega)]; omega
    obtain ⟨t1, t2, t3, t4⟩ := tr0 F
    have hn : (ei j).toNatClampNeg = j := ei_nat (by omega)
    have hb : s1 4 3 j = 0 ∨ s1 4 3 j = 1 := by rw [t1 3 j hj15]; exact hl j hj15
    have FF := ef_us_F 4 (j + 15) j [0, 1, 2, 3, 4] s1
    have at5 : ∀ {i : Nat} {K' : ew_R → ew_H → Prop}, i = j + 15 → K' (.inl none) (ew_hp (ef_us 4 (j + 15) j [0, 1, 2, 3, 4] s1) m) → ew_Call (d + 2) 12 [ew_o 4 i, ew_o 4 j] (ew_hp s1 m) K' := fun e g => by
      subst e; exact xc_copyCell _ _ hb g
    refine ew_go (fun pc => Nat.beq pc 34 || Nat.beq pc 63) 60 ⟨fun z => absurd z clt, fun _ => ⟨ei_ix (n := 15) hj15 (by decide), xc_cellAt 0 j hj15 (at5 (by show ew_wi 15 (ei j).toNatClampNeg + 15 * 1 = _; rw [hn, ew_wi_lt (by omega)]) (ih (j + 1) _ _ (ei_1 _) (by omega) (fun p h1 h2 => ?_) (fun c hc' p hp => ?_) (F.tr (FF.mono (fun k' p' o w => Or.inl ⟨w.1, by have := w.2.2; omega, by have := w.2.2; omega⟩)))))⟩⟩
    · rw [FF 9 p 1 (fun w => absurd w.1 (by decide))]; exact hc p h1 h2
    · by_cases e : c = j
      · subst e
        rw [ef_us_at (by omega) _ _ p (by
          have : p = 0 ∨ p = 1 ∨ p = 2 ∨ p = 3 ∨ p = 4 := by omega
          rcases this with rfl | rfl | rfl | rfl | rfl <;> decide), t1 p c hj15]
      · rw [FF 4 p _ (fun w => by have := w.2.2; omega)]; exact h c (by omega) p hp
theorem xl_cpb (h : Iv 0 nb ns np T s) (k : ∀ s1, (∀ p, 2 < p → p < 7 → s1 9 p 1 = s 9 p 0) → (∀ c, c < 15 → cp_c c s s1) → (∀ b, b < nb → cp_b b s s1) → Fr Ptr s s1 → ew_W (ew_Call (d + 2)) 59 K (92, [some (ew_o 9 1), some (ew_o 9 0), some (ew_i (ei nb))], [], ew_hp s1 m)) : ∀ (r j : Nat) (y : Int32) (s1 : ew_S), y = ei j → j + r = nb → (∀ p, 2 < p → p < 7 → s1 9 p 1 = s 9 p 0) → (∀ c, c < 15 → cp_c c s s1) → (∀ b, b < j → cp_b b s s1) → Fr Ptr s s1 →
    ew_W (ew_Call (d + 2)) 59 K (65, [some (ew_o 9 1), some (ew_o 9 0), some (ew_i y)], [], ew_hp s1 m) := by
  have hb := h.1
  intro r
  induction r with
  | zero =>
    intro j y s1 hy hj hc hcc hbb F
    subst hy
    obtain rfl : j = nb := by omega
    have e : s1 9 3 1 ≤ ei j := by rw [hc 3 (by decide) (by decide), h.2.1.1]; exact Int32.le_refl _
    exact ew_go (fun pc => Nat.beq pc 65 || Nat.beq pc 92) 40 ⟨fun _ => k s1 hc hcc hbb F, fun z => absurd e z⟩
  | succ r ih =>
    intro j y s1 hy hj hc hcc hbb F
    subst hy
    have hj2 : j < nb := by omega
    obtain ⟨t1, t2, t3, t4⟩ := tr0 F
    have c1 : s1 9 3 1 = ei nb := (hc 3 (by decide) (by decide)).trans h.2.1.1
    have c0 : s1 9 3 0 = ei nb := (t2 3).trans h.2.1.1
    have clt : ¬ s1 9 3 1 ≤ ei j := by rw [c1, ei_le (by omega) (by omega)]; omega
    have FF : Fr (fun k' p' o => (k' = 3 ∨ k' = 8 ∨ k' = 145) ∧ o = j + 2) s1 (ef_us 3 (j + 2) j [1, 2, 3, 4] (ew_u (ef_cp s1 145 (j + 2) j 8) 8 1 (j + 2) (s1 8 1 j))) :=
      (((ef_cp_F s1 145 (j + 2) j 8).mono (fun k' p' o w => ⟨Or.inr (Or.inr w.1), w.2⟩)).u _ ⟨Or.inr (Or.inl rfl), rfl⟩).tr ((ef_us_F 3 (j + 2) j [1, 2, 3, 4] _).mono (fun k' p' o w => ⟨Or.inl w.1, w.2.2⟩))
    refine ew_go (fun pc => Nat.beq pc 65 || Nat.beq pc 92) 60 ⟨fun z => absurd z clt, fun _ => xc_breakerAt 1 j nb c1 (by omega) hj2 (xc_breakerAt 0 j nb c0 (by omega) hj2 (xc_copyBreaker (j + 2) j (ih (j + 1) _ _ (ei_1 _) (by omega) (fun p h1 h2 => ?_) (fun c hc' p hp => ?_) (fun b hb' => ?_) (F.tr (FF.mono (fun k' p' o w => Or.inr (Or.inr (Or.inl ⟨w.1, by have := w.2; omega, by have := w.2; omega⟩))))))))⟩
    · rw [FF 9 p 1 (fun w => by have := w.1; omega)]; exact hc p h1 h2
    · rw [FF 4 p _ (fun w => by have := w.1; omega)]; exact hcc c hc' p hp
    · by_cases e : b = j
      · subst e
        refine ⟨fun p h1 h2 => ?_, ?_, fun r hr => ?_⟩
        · rw [ef_us_at (by omega) _ _ p (by
            have : p = 1 ∨ p = 2 ∨ p = 3 ∨ p = 4 := by omega
            rcases this with rfl | rfl | rfl | rfl <;> decide)]
          rw [ew_u_ne _ _ (by omega), ef_cp_F s1 145 (b + 2) b 8 3 p b (fun w => absurd w.1 (by decide)), t3 3 p b (by omega) (by decide) (by decide) (by decide) (by decide) (by decide) (by decide)]
        · rw [ef_us_F 3 (b + 2) b [1, 2, 3, 4] _ 8 1 (b + 2) (fun w => absurd w.1 (by decide)), ew_u_self, t3 8 1 b (by omega) (by decide) (by decide) (by decide) (by decide) (by decide) (by decide)]
        · rw [ef_us_F 3 (b + 2) b [1, 2, 3, 4] _ 145 r (b + 2) (fun w => absurd w.1 (by decide)), ew_u_ne _ _ (by omega), ef_cp_at _ hr, t3 145 r b (by omega) (by decide) (by decide) (by decide) (by decide) (by decide) (by decide)]
      · obtain ⟨g1, g2, g3⟩ := hbb b (by omega)
        refine ⟨fun p h1 h2 => ?_, ?_, fun r hr => ?_⟩
        · rw [FF 3 p _ (fun w => by have := w.2; omega)]; exact g1 p h1 h2
        · rw [FF 8 1 _ (fun w => by have := w.2; omega)]; exact g2
        · rw [FF 145 r _ (fun w => by have := w.2; omega)]; exact g3 r hr
theorem xl_cps (h : Iv 0 nb ns np T s) (k : ∀ s1, cp_d nb ns s s1 → K (.inl none) (ew_hp s1 m)) : ∀ (r j : Nat) (y : Int32) (s1 : ew_S), y = ei j → j + r = ns → (∀ p, 2 < p → p < 7 → s1 9 p 1 = s 9 p 0) → (∀ c, c < 15 → cp_c c s s1) → (∀ b, b < nb → cp_b b s s1) → (∀ b, b < j → cp_s b s s1) → Fr Ptr s s1 →
    ew_W (ew_Call (d + 2)) 59 K (94, [some (ew_o 9 1), some (ew_o 9 0), some (ew_i y)], [], ew_hp s1 m) := by
  have hb := h.1
  intro r
  induction r with
  | zero =>
    intro j y s1 hy hj hc hcc hbb hss F
    subst hy
    obtain rfl : j = ns := by omega
    have e : s1 9 4 1 ≤ ei j := by rw [hc 4 (by decide) (by decide), h.2.1.2.1]; exact Int32.le_refl _
    exact ew_go (fun pc => Nat.beq pc 94) 40 ⟨fun _ => ⟨trivial, k s1 ⟨hc, hcc, hbb, hss, F⟩⟩, fun z => absurd e z⟩
  | succ r ih =>
    intro j y s1 hy hj hc hcc hbb hss F
    subst hy
    have hj2 : j < ns := by omega
    obtain ⟨t1, t2, t3, t4⟩ := tr0 F
    have c1 : s1 9 4 1 = ei ns := (hc 4 (by decide) (by decide)).trans h.2.1.2.1
    have c0 : s1 9 4 0 = ei ns := (t2 4).trans h.2.1.2.1
    have clt : ¬ s1 9 4 1 ≤ ei j := by rw [c1, ei_le (by omega) (by omega)]; omega
    have F1 : Fr (fun k' p' o => (k' = 10 ∨ k' = 40 ∨ k' = 593 ∨ k' = 177) ∧ o = j + 5) s1 (ef_cp (ew_u (ef_cp s1 593 (j + 5) j 8) 40 1 (j + 5) (s1 40 1 j)) 177 (j + 5) j 5) :=
      (((ef_cp_F s1 593 (j + 5) j 8).mono (fun k' p' o w => ⟨Or.inr (Or.inr (Or.inl w.1)), w.2⟩)).u _ ⟨Or.inr (Or.inl rfl), rfl⟩).tr ((ef_cp_F _ 177 (j + 5) j 5).mono (fun k' p' o w => ⟨Or.inr (Or.inr (Or.inr w.1)), w.2⟩))
    have FF := F1.tr ((ef_us_F 10 (j + 5) j [2, 3, 4, 5, 6, 7, 8, 9, 10, 11] (ef_cp (ew_u (ef_cp s1 593 (j + 5) j 8) 40 1 (j + 5) (s1 40 1 j)) 177 (j + 5) j 5)).mono (P' := fun k' p' o => (k' = 10 ∨ k' = 40 ∨ k' = 593 ∨ k' = 177) ∧ o = j + 5) (fun k' p' o w => ⟨Or.inl w.1, w.2.2⟩))
    have t4' : ∀ {k p : Nat}, k ≠ 4 → k ≠ 9 → k ≠ 3 → k ≠ 8 → k ≠ 145 → s1 k p j = s k p j := fun a b c e f => t4 _ _ j (by omega) a b c e f
    refine ew_go (fun pc => Nat.beq pc 94) 60 ⟨fun z => absurd z clt, fun _ => xc_shipAt 1 j ns c1 (by omega) hj2 (xc_shipAt 0 j ns c0 (by omega) hj2 (xc_copyShip (j + 5) j (ih (j + 1) _ _ (ei_1 _) (by omega) (fun p h1 h2 => ?_) (fun c hc' p hp => ?_) (fun b hb' => ?_) (fun b hb' => ?_) (F.tr (FF.mono (fun k' p' o w => Or.inr (Or.inr (Or.inr ⟨w.1, by have := w.2; omega, by have := w.2; omega⟩))))))))⟩
    · rw [FF 9 p 1 (fun w => by have := w.1; omega)]; exact hc p h1 h2
    · rw [FF 4 p _ (fun w => by have := w.1; omega)]; exact hcc c hc' p hp
    · obtain ⟨g1, g2, g3⟩ := hbb b hb'
      refine ⟨fun p h1 h2 => ?_, ?_, fun r hr => ?_⟩
      · rw [FF 3 p _ (fun w => by have := w.1; omega)]; exact g1 p h1 h2
      · rw [FF 8 1 _ (fun w => by have := w.1; omega)]; exact g2
      · rw [FF 145 r _ (fun w => by have := w.1; omega)]; exact g3 r hr
    · by_cases e : b = j
      · subst e
        have us : ∀ {k p : Nat}, k ≠ 10 → ef_us 10 (b + 5) b [2, 3, 4, 5, 6, 7, 8, 9, 10, 11] (ef_cp (ew_u (ef_cp s1 593 (b + 5) b 8) 40 1 (b + 5) (s1 40 1 b)) 177 (b + 5) b 5) k p (b + 5) = ef_cp (ew_u (ef_cp s1 593 (b + 5) b 8) 40 1 (b + 5) (s1 40 1 b)) 177 (b + 5) b 5 k p (b + 5) := fun n => ef_us_F 10 (b + 5) b _ _ _ _ _ (fun w => n w.1)
        refine ⟨fun p h1 h2 => ?_, ?_, fun r hr => ?_, fun r hr => ?_⟩
        · rw [ef_us_at (by omega) _ _ p (by
            have : p = 2 ∨ p = 3 ∨ p = 4 ∨ p = 5 ∨ p = 6 ∨ p = 7 ∨ p = 8 ∨ p = 9 ∨ p = 10 ∨ p = 11 := by omega
            rcases this with rfl | rfl | rfl | rfl | rfl | rfl | rfl | rfl | rfl | rfl <;> decide)]
          rw [F1 10 p b (fun w => by have := w.2; omega), t4' (by decide) (by decide) (by decide) (by decide) (by decide)]
        · rw [us (by decide), ef_cp_F _ 177 (b + 5) b 5 40 1 (b + 5) (fun w => absurd w.1 (by decide)), ew_u_self, t4' (by decide) (by decide) (by decide) (by decide) (by decide)]
        · rw [us (by decide), ef_cp_F _ 177 (b + 5) b 5 593 r (b + 5) (fun w => absurd w.1 (by decide)), ew_u_ne _ _ (by omega), ef_cp_at _ hr, t4' (by decide) (by decide) (by decide) (by decide) (by decide)]
        · rw [us (by decide), ef_cp_at _ hr, ew_u_ne _ _ (by omega), ef_cp_F _ 593 (b + 5) b 8 177 r b (fun w => absurd w.1 (by decide)), t4' (by decide) (by decide) (by decide) (by decide) (by decide)]
      · obtain ⟨g1, g2, g3, g4⟩ := hss b (by omega)
        refine ⟨fun p h1 h2 => ?_, ?_, fun r hr => ?_, fun r hr => ?_⟩
        · rw [FF 10 p _ (fun w => by have := w.2; omega)]; exact g1 p h1 h2
        · rw [FF 40 1 _ (fun w => by have := w.2; omega)]; exact g2
        · rw [FF 593 r _ (fun w => by have := w.2; omega)]; exact g3 r hr
        · rw [FF 177 r _ (fun w => by have := w.2; omega)]; exact g4 r hr
theorem xc_copySea (h : Iv 0 nb ns np T s) (k : ∀ s1, cp_d nb ns s s1 → K (.inl none) (ew_hp s1 m)) : ew_Call (d + 3) 59 [ew_o 9 1, ew_o 9 0] (ew_hp s m) K := by
  have hl : ∀ c, c < 15 → s 4 3 c = 0 ∨ s 4 3 c = 1 := fun c hc => (h.2.2.1 c hc).2.1.imp id (fun w => w.1)
  have F0 : Fr Ptr s (ew_u (ew_u (ew_u (ew_u s 9 5 1 (s 9 5 0)) 9 6 1 (s 9 6 0)) 9 3 1 (s 9 3 0)) 9 4 1 (s 9 4 0)) := ((((Fr.rf _ _).u _ (Or.inr (Or.inl ⟨rfl, rfl⟩))).u _ (Or.inr (Or.inl ⟨rfl, rfl⟩))).u _ (Or.inr (Or.inl ⟨rfl, rfl⟩))).u _ (Or.inr (Or.inl ⟨rfl, rfl⟩))
  refine ew_call (ew_go (fun pc => Nat.beq pc 34) 60 ⟨trivial, trivial, trivial, trivial, ?_⟩)
  show ew_W (ew_Call (d + 2)) 59 K (34, [some (ew_o 9 1), some (ew_o 9 0), some (ew_i 0)], [], ew_put (ew_put (ew_put (ew_put (ew_hp s m) 9 1 5 (ew_i (s 9 5 0))) 9 1 6 (ew_i (s 9 6 0))) 9 1 3 (ew_i (s 9 3 0))) 9 1 4 (ew_i (s 9 4 0)))
  rw [ew_hp_put rfl, ew_hp_put rfl, ew_hp_put rfl, ew_hp_put rfl]
  refine xl_cpc (d := d) hl (fun s1 g1 g2 g3 => ?_) 15 0 0 _ rfl rfl (fun p h1 h2 => ?_) (fun c hc => absurd hc (Nat.not_lt_zero _)) F0
  · exact ew_go (fun pc => Nat.beq pc 65) 40 (xl_cpb (d := d) h (fun s2 g1 g2 g3 g4 => ew_go (fun pc => Nat.beq pc 94) 40 (xl_cps (d := d) h k ns 0 0 s2 rfl (by omega) g1 g2 g3 (fun b hb => absurd hb (Nat.not_lt_zero _)) g4)) nb 0 0 s1 rfl (by omega) g1 g2 (fun b hb => absurd hb (Nat.not_lt_zero _)) g3)
  · have : p = 3 ∨ p = 4 ∨ p = 5 ∨ p = 6 := by omega
    rcases this with rfl | rfl | rfl | rfl <;> rfl
end
