/-! What would be: the class. -/
def vo_way (j x : Int32) (s : ew_S) : ew_A2 := bif iN j (s 9 4 0) && iN x 15 then (0, sp_way j.toNatClampNeg x.toNatClampNeg s) else (1, 0)
def vo_toBreak (j : Int32) (s : ew_S) : ew_A2 := bif iN j (s 9 4 0) then (0, sp_tb j.toNatClampNeg s) else (1, 0)
def sp_rem (b j : Nat) (s : ew_S) : Int32 := ef_far (s 3 1 b) (s 10 2 j) - ef_sum (fun p => s 177 p j) 5 / 6
def sp_hn (b : Nat) (s : ew_S) : Nat → Int32 × Int32
  | 0 => (-1, 0)
  | j + 1 => if s 10 7 j = 0 ∧ ((sp_hn b s j).1 = -1 ∨ sp_rem b j s < (sp_hn b s j).2) ∧ 1 ≤ sp_tb j s then (ei j, sp_rem b j s) else sp_hn b s j
def vo_help (b : Int32) (s : ew_S) : ew_A2 := bif iN b (s 9 3 0) then (0, (sp_hn b.toNatClampNeg s (s 9 4 0).toNatClampNeg).1) else (1, 0)
theorem sp_tb_cg {J : Nat} {a a' : ew_S} (F : Fr Pch a a') : sp_tb J a' = sp_tb J a := by
  have f : ∀ {k p i : Nat}, k ≠ 209 → k ≠ 241 → a' k p i = a k p i := fun h1 h2 => F _ _ _ (fun w => by have := w.1; omega)
  unfold sp_tb
  rw [sp_pb_cg (fun p i => f (by decide) (by decide)) (fun p i => f (by decide) (by decide)), f (k := 10) (by decide) (by decide), f (k := 10) (by decide) (by decide), f (k := 6) (by decide) (by decide)]
section
variable {d : Nat} {s : ew_S} {m : ew_H} {K : ew_R → ew_H → Prop} {nb ns np T : Nat}
theorem xp_way (h : Iv 0 nb ns np T s) (j x : Int32) (k : ∀ s', Fr Pch s s' → KQ K m s' (vo_way j x s)) : ew_Call (d + 5) 93 [ew_o 11 0, ew_i j, ew_i x] (ew_hp s m) K := by
  unfold vo_way at k
  have hb := h.1
  have hns := h.2.1.2.1
  rw [hns] at k
  rcases ei_dec j ns (by omega) with ⟨c, hc, rfl⟩ | ⟨h1, -⟩
  · rw [iN_t hc (by omega), Bool.true_and, ei_nat (by omega)] at k
    rcases ei_dec x 15 (by decide) with ⟨c2, hc2, rfl⟩ | ⟨h2, -⟩
    · rw [show (15 : Int32) = ei 15 from rfl, iN_t hc2 (by decide), cond_true, ei_nat (by omega)] at k
      obtain ⟨⟨f, hf, e1⟩, -⟩ := h.2.2.2.2.1 c hc
      have e1 : s 10 2 c = ei f := e1
      unfold sp_way at k
      rw [e1, ei_nat (by omega)] at k
      exact ew_call (ew_go (fun pc => Nat.beq pc 21) 60 (xc_shipAt 0 c ns hns (by omega) hc (xc_cellAt 0 c2 hc2 (xl_way (d := d) h hc2 hf e1 k 15 0 0 s rfl rfl (Fr.rf _ _) (fun c hc => absurd hc (Nat.not_lt_zero _))))))
    · rw [show (15 : Int32) = ei 15 from rfl, iN_f h2, cond_false] at k
      exact ew_call (ew_go (fun pc => Nat.beq pc 21) 60 (xc_shipAt 0 c ns hns (by omega) hc (xc_cellX 0 h2 ⟨rfl, k s (Fr.rf _ _)⟩)))
  · rw [iN_f h1, Bool.false_and, cond_false] at k
    exact ew_call (ew_go (fun pc => Nat.beq pc 21) 60 (xc_shpX 0 hns (by omega) h1 ⟨rfl, k s (Fr.rf _ _)⟩))
theorem xp_toBreak (h : Iv 0 nb ns np T s) (j : Int32) (k : ∀ s', Fr Pch s s' → KQ K m s' (vo_toBreak j s)) : ew_Call (d + 6) 94 [ew_o 11 0, ew_i j] (ew_hp s m) K := by
  unfold vo_toBreak at k
  have hb := h.1
  have hns := h.2.1.2.1
  rw [hns] at k
  rcases ei_dec j ns (by omega) with ⟨c, hc, rfl⟩ | ⟨h1, -⟩
  · rw [iN_t hc (by omega), cond_true, ei_nat (by omega)] at k
    exact ew_call (ew_go (fun _ => false) 60 (xc_shipAt 0 c ns hns (by omega) hc (xc_channelsNeeded h hc (fun s' F => ⟨trivial, k s' F⟩))))
  · rw [iN_f h1, cond_false] at k
    exact ew_call (ew_go (fun _ => false) 60 (xc_shpX 0 hns (by omega) h1 ⟨rfl, k s (Fr.rf _ _)⟩))
theorem xl_help (h : Iv 0 nb ns np T s) {b : Nat} {x : Int32} (k : ∀ s', Fr Pch s s' → K (.inl (some (ew_i (sp_hn b s ns).1))) (ew_hp s' m)) : ∀ (r j : Nat) (y v w : Int32) (v6 v7 : Option ew_V) (s1 : ew_S), y = ei j → j + r = ns → v = (sp_hn b s j).1 → w = (sp_hn b s j).2 → Fr Pch s s1 →
    ew_W (ew_Call (d + 5)) 95 K (17, [some (ew_o 11 0), some (ew_i x), some (ew_o 3 b), some (ew_i v), some (ew_i w), some (ew_i y), v6, v7], [], ew_hp s1 m) := by
  have hb := h.1
  intro r
  induction r with
  | zero =>
    intro j y v w v6 v7 s1 hy hj hv hw F
    subst hy; subst hv; subst hw
    obtain rfl : j = ns := by omega
    have f : ∀ {k p i : Nat}, k ≠ 209 → k ≠ 241 → s1 k p i = s k p i := fun h1 h2 => F _ _ _ (fun w => by have := w.1; omega)
    have e : s1 9 4 0 ≤ ei j := by rw [f (by decide) (by decide), h.2.1.2.1]; exact Int32.le_refl _
    exact ew_go (fun pc => Nat.beq pc 17) 40 ⟨fun _ => ⟨trivial, k s1 F⟩, fun z => absurd e z⟩
  | succ r ih =>
    intro j y v w v6 v7 s1 hy hj hv hw F
    subst hy; subst hv; subst hw
    have hj2 : j < ns := by omega
    have f : ∀ {k p i : Nat}, k ≠ 209 → k ≠ 241 → s1 k p i = s k p i := fun h1 h2 => F _ _ _ (fun w => by have := w.1; omega)
    have hns : s1 9 4 0 = ei ns := (f (by decide) (by decide)).trans h.2.1.2.1
    have clt : ¬ s1 9 4 0 ≤ ei j := by rw [hns, ei_le (by omega) (by omega)]; omega
    have f7 : s1 10 7 j = s 10 7 j := f (by decide) (by decide)
    have frem : ef_far (s1 3 1 b) (s1 10 2 j) - ef_sum (fun p => s1 177 p j) 5 / 6 = sp_rem b j s := by
      unfold sp_rem
      rw [f (k := 3) (by decide) (by decide), f (k := 10) (by decide) (by decide), ef_sum_cg (fun p => s1 177 p j) (fun p => s 177 p j) 5 (fun c _ => f (by decide) (by decide))]
    have hstep : sp_hn b s (j + 1) = if s 10 7 j = 0 ∧ ((sp_hn b s j).1 = -1 ∨ sp_rem b j s < (sp_hn b s j).2) ∧ 1 ≤ sp_tb j s then (ei j, sp_rem b j s) else sp_hn b s j := rfl
    have skip : ∀ (v6 v7 : Option ew_V) (s2 : ew_S), Fr Pch s s2 → ¬ (s 10 7 j = 0 ∧ ((sp_hn b s j).1 = -1 ∨ sp_rem b j s < (sp_hn b s j).2) ∧ 1 ≤ sp_tb j s) → ew_W (ew_Call (d + 5)) 95 K (100, [some (ew_o 11 0), some (ew_i x), some (ew_o 3 b), some (ew_i (sp_hn b s j).1), some (ew_i (sp_hn b s j).2), some (ew_i (ei j)), v6, v7], [], ew_hp s2 m) := fun v6 v7 s2 F2 n => by
      rw [if_neg n] at hstep
      exact ew_go (fun pc => Nat.beq pc 17) 40 (ih (j + 1) _ _ _ v6 v7 s2 (ei_1 _) (by omega) (by rw [hstep]) (by rw [hstep]) F2)
    have need : s 10 7 j = 0 → ((sp_hn b s j).1 = -1 ∨ sp_rem b j s < (sp_hn b s j).2) → ew_W (ew_Call (d + 5)) 95 K (83, [some (ew_o 11 0), some (ew_i x), some (ew_o 3 b), some (ew_i (sp_hn b s j).1), some (ew_i (sp_hn b s j).2), some (ew_i (ei j)), some (ew_o 10 j), some (ew_i (sp_rem b j s))], [], ew_hp s1 m) := by
      intro g1 g2
      refine ew_go (fun pc => Nat.beq pc 100 || Nat.beq pc 17) 60 (xc_channelsNeeded (h.cg F) hj2 (fun s2 F2 => ⟨fun z => skip _ _ s2 (F.tr F2) (fun w => ?_), fun z => ?_⟩))
      · have z : sp_tb j s1 < 1 := z
        rw [sp_tb_cg F] at z
        exact Int32.not_le.mpr z w.2.2
      · have z : ¬ sp_tb j s1 < 1 := z
        rw [sp_tb_cg F] at z
        rw [if_pos ⟨g1, g2, Int32.not_lt.mp z⟩] at hstep
        exact ew_go (fun pc => Nat.beq pc 17) 40 (ih (j + 1) _ _ _ _ _ s2 (ei_1 _) (by omega) (by rw [hstep]) (by rw [hstep]) (F.tr F2))
    have mid : ew_W (ew_Call (d + 5)) 95 K (63, [some (ew_o 11 0), some (ew_i x), some (ew_o 3 b), some (ew_i (sp_hn b s j).1), some (ew_i (sp_hn b s j).2), some (ew_i (ei j)), some (ew_o 10 j), some (ew_i (sp_rem b j s))], [], ew_hp s1 m) := by
      refine ew_go (fun pc => Nat.beq pc 100 || Nat.beq pc 83) 60 ⟨fun z => skip _ _ s1 F (fun w => ?_), fun z => ⟨fun z2 => need ?_ (Or.inl z2), fun z2 => ⟨fun z3 => skip _ _ s1 F (fun w => ?_), fun z3 => need ?_ (Or.inr (Int32.not_le.mp z3))⟩⟩⟩
      · have z : ¬ s1 10 7 j = 0 := z
        rw [f7] at z; exact z w.1
      · have z : s1 10 7 j = 0 := Classical.not_not.mp z
        rw [f7] at z; exact z
      · have z2 : ¬ (sp_hn b s j).1 = -1 := z2
        have z3 : (sp_hn b s j).2 ≤ sp_rem b j s := z3
        rcases w.2.1 with q | q
        · exact z2 q
        · exact Int32.not_lt.mpr z3 q
      · have z : s1 10 7 j = 0 := Classical.not_not.mp z
        rw [f7] at z; exact z
    refine ew_go (fun pc => Nat.beq pc 17 || Nat.beq pc 61) 60 ⟨fun z => absurd z clt, fun _ => xc_shipAt 0 j ns hns (by omega) hj2 (xc_distance _ _ (xc_allWaits j ⟨by decide, eq_s (w := ew_i (sp_rem b j s)) ?_ ?_⟩))⟩
    · show ew_i (ef_far (s1 3 1 b) (s1 10 2 j) - ef_sum (fun p => s1 177 p j) 5 / 6) = _
      rw [frem]
    · show ew_W (ew_Call (d + 5)) 95 K (61, [some (ew_o 11 0), some (ew_i x), some (ew_o 3 b), some (ew_i (sp_hn b s j).1), some (ew_i (sp_hn b s j).2), some (ew_i (ei j)), some (ew_o 10 j), v7], [ew_i (sp_rem b j s)], ew_hp s1 m)
      exact ew_go (fun pc => Nat.beq pc 63) 60 mid
theorem xp_helpNext (h : Iv 0 nb ns np T s) (b : Int32) (k : ∀ s', Fr Pch s s' → KQ K m s' (vo_help b s)) : ew_Call (d + 6) 95 [ew_o 11 0, ew_i b] (ew_hp s m) K := by
  unfold vo_help at k
  have hb := h.1
  have hnb := h.2.1.1
  rw [hnb, h.2.1.2.1] at k
  rcases ei_dec b nb (by omega) with ⟨c, hc, rfl⟩ | ⟨h1, -⟩
  · rw [iN_t hc (by omega), cond_true, ei_nat (by omega), ei_nat (by omega)] at k
    exact ew_call (ew_go (fun pc => Nat.beq pc 17) 60 (xc_breakerAt 0 c nb hnb (by omega) hc (xl_help (d := d) h k ns 0 0 _ _ none none s rfl (by omega) rfl rfl (Fr.rf _ _))))
  · rw [iN_f h1, cond_false] at k
    exact ew_call (ew_go (fun pc => Nat.beq pc 17) 60 (xc_brkX 0 hnb (by omega) h1 ⟨rfl, k s (Fr.rf _ _)⟩))
end
