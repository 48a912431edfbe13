/-! The law's isPassed: how the ships were. -/
/-- array r holds how ship i was -/
def PV (s sk : ew_S) (r i : Nat) : Prop := sk 721 0 r = s 10 2 i ∧ sk 721 1 r = s 10 7 i ∧ sk 721 2 r = ef_sum (fun p => s 177 p i) 5 ∧ sk 721 3 r = s 10 10 i ∧ sk 721 4 r = s 177 3 i ∧ sk 721 5 r = s 10 9 i
def AW (W i1 i2 i3 : Nat) (s : ew_S) (m : ew_H) (sk : ew_S) (mk : ew_H) (k : Nat) : Prop :=
  Fr (fun κ _ o => κ = 721 ∧ m.2.2.2.1 721 ≤ o) s sk ∧ (∀ i, i < k → PV s sk (m.2.2.2.1 721 + i) i ∧ mk.1 244 W i = ew_o 721 (m.2.2.2.1 721 + i) ∧ mk.2.1 721 (m.2.2.2.1 721 + i) = 6) ∧ mk.2.2.2.1 721 = m.2.2.2.1 721 + k ∧
  (mk.2.1 244 W = m.2.1 244 W ∧ mk.2.1 625 i1 = m.2.1 625 i1 ∧ mk.2.1 657 i2 = m.2.1 657 i2 ∧ mk.2.1 689 i3 = m.2.1 689 i3) ∧ mk.2.1 17 0 = m.2.1 17 0 ∧ mk.2.2.2.2.1 = m.2.2.2.2.1 + k ∧ mk.2.2.2.2.2 = m.2.2.2.2.2 + 6 * k
section
variable {d : Nat} {s sk : ew_S} {m mk : ew_H} {K : ew_R → ew_H → Prop} {np T W i1 i2 i3 j : Nat} {x w : Int32}
theorem AW.zero : AW W i1 i2 i3 s m s m 0 := ⟨Fr.rf _ _, fun i hi => absurd hi (Nat.not_lt_zero _), rfl, ⟨rfl, rfl, rfl, rfl⟩, rfl, rfl, rfl⟩
theorem AW.pz (a : AW W i1 i2 i3 s m sk mk j) : Fr Pz s sk := a.1.mono (fun κ p o h => Or.inr (Or.inr (Or.inr (Or.inr h.1))))
theorem AW.next (a : AW W i1 i2 i3 s m sk mk j) (hj : j < 5) : AW W i1 i2 i3 s m (ar6 (mk.2.2.2.1 721) (sk 10 2 j) (sk 10 7 j) (ef_sum (fun p => sk 177 p j) 5) (sk 10 10 j) (sk 177 3 j) (sk 10 9 j) sk) (ew_put (ew_mk mk 721 (mk.2.2.2.1 721) 6 (fun _ => ew_i 0)) 244 W j (ew_o 721 (mk.2.2.2.1 721))) (j + 1) := by
  have F := a.pz
  obtain ⟨F1, a2, a3, ⟨b1, b2, b3, b4⟩, c1, c2, c3⟩ := a
  have G := ar6_F (mk.2.2.2.1 721) (sk 10 2 j) (sk 10 7 j) (ef_sum (fun p => sk 177 p j) 5) (sk 10 10 j) (sk 177 3 j) (sk 10 9 j) sk
  obtain ⟨g0, g1, g2, g3, g4, g5⟩ := ar6_at (mk.2.2.2.1 721) (sk 10 2 j) (sk 10 7 j) (ef_sum (fun p => sk 177 p j) 5) (sk 10 10 j) (sk 177 3 j) (sk 10 9 j) sk
  rw [a3] at G g0 g1 g2 g3 g4 g5 ⊢
  refine ⟨F1.tr (G.mono (fun κ p o h => ⟨h.1, by rw [h.2]; omega⟩)), fun i hi => ?_, ?_, ⟨?_, ?_, ?_, ?_⟩, ?_, ?_, ?_⟩
  · by_cases e : i = j
    · subst e
      refine ⟨⟨g0.trans (pz10 F hj), g1.trans (pz10 F hj), g2.trans (ef_sum_cg _ _ 5 (fun p _ => pz177 F hj)), g3.trans (pz10 F hj), g4.trans (pz177 F hj), g5.trans (pz10 F hj)⟩, ep_self _ _ _ _ _, em_ln mk _ _ _ (fun _ => ew_i 0)⟩
    · obtain ⟨⟨p0, p1, p2, p3, p4, p5⟩, q1, q2⟩ := a2 i (by omega)
      have g : ∀ p, ar6 (m.2.2.2.1 721 + j) (sk 10 2 j) (sk 10 7 j) (ef_sum (fun p => sk 177 p j) 5) (sk 10 10 j) (sk 177 3 j) (sk 10 9 j) sk 721 p (m.2.2.2.1 721 + i) = sk 721 p (m.2.2.2.1 721 + i) := fun p => G 721 p _ (fun z => by have := z.2; omega)
      refine ⟨⟨(g 0).trans p0, (g 1).trans p1, (g 2).trans p2, (g 3).trans p3, (g 4).trans p4, (g 5).trans p5⟩, ?_, ?_⟩
      · rw [ep_ne _ _ (fun z => e z.2.2), em_ne _ _ _ _ (by omega)]; exact q1
      · exact (em_ll mk 6 (fun _ => ew_i 0) (fun z => by have := z.2; omega)).trans q2
  · show (ew_mk mk 721 (m.2.2.2.1 721 + j) 6 (fun _ => ew_i 0)).2.2.2.1 721 = _
    rw [em_cs, a3]
    omega
  · exact (em_ll mk 6 (fun _ => ew_i 0) (by omega)).trans b1
  · exact (em_ll mk 6 (fun _ => ew_i 0) (by omega)).trans b2
  · exact (em_ll mk 6 (fun _ => ew_i 0) (by omega)).trans b3
  · exact (em_ll mk 6 (fun _ => ew_i 0) (by omega)).trans b4
  · exact (em_ll mk 6 (fun _ => ew_i 0) (by omega)).trans c1
  · show mk.2.2.2.2.1 + 1 = _
    omega
  · show mk.2.2.2.2.2 + 6 = _
    omega
theorem xl_st0 {r : Nat} (I : Iv 0 2 5 np T sk) (hj : j < 5) (hx : ew_ix (ei 0) (mk.2.1 721 r)) (k : ew_W (ew_Call (d + 6)) 224 K (100, [some (ew_o 11 0), some (ew_i x), some (ew_i w), some (ew_o 244 W), some (ew_o 625 i1), some (ew_o 657 i2), some (ew_o 689 i3), some (ew_i (ei j)), none, none, none, none, none, none, none], [ew_o 721 r, ew_i (ei j), ew_o 244 W], ew_hp (ew_u sk 721 0 r (sk 10 2 j)) mk)) :
    ew_W (ew_Call (d + 6)) 224 K (90, [some (ew_o 11 0), some (ew_i x), some (ew_i w), some (ew_o 244 W), some (ew_o 625 i1), some (ew_o 657 i2), some (ew_o 689 i3), some (ew_i (ei j)), none, none, none, none, none, none, none], [ew_o 721 r, ew_i (ei j), ew_o 244 W], ew_hp sk mk) :=
  ew_go (fun pc => Nat.beq pc 100) 20 (xq_sv I (Fr.rf _ _) hj (w := 0) (by decide) rfl rfl ⟨⟨hx, trivial⟩, eq_1 (p := 0) rfl k⟩)
theorem xl_st1 {r : Nat} (I : Iv 0 2 5 np T sk) (hj : j < 5) (hx : ew_ix (ei 1) (mk.2.1 721 r)) (k : ew_W (ew_Call (d + 6)) 224 K (110, [some (ew_o 11 0), some (ew_i x), some (ew_i w), some (ew_o 244 W), some (ew_o 625 i1), some (ew_o 657 i2), some (ew_o 689 i3), some (ew_i (ei j)), none, none, none, none, none, none, none], [ew_o 721 r, ew_i (ei j), ew_o 244 W], ew_hp (ew_u sk 721 1 r (sk 10 7 j)) mk)) :
    ew_W (ew_Call (d + 6)) 224 K (100, [some (ew_o 11 0), some (ew_i x), some (ew_i w), some (ew_o 244 W), some (ew_o 625 i1), some (ew_o 657 i2), some (ew_o 689 i3), some (ew_i (ei j)), none, none, none, none, none, none, none], [ew_o 721 r, ew_i (ei j), ew_o 244 W], ew_hp sk mk) :=
  ew_go (fun pc => Nat.beq pc 110) 20 (xq_sv I (Fr.rf _ _) hj (w := 4) (by decide) rfl rfl ⟨⟨hx, trivial⟩, eq_1 (p := 1) rfl k⟩)
theorem xl_st2 {r : Nat} (I : Iv 0 2 5 np T sk) (hj : j < 5) (hx : ew_ix (ei 2) (mk.2.1 721 r)) (k : ew_W (ew_Call (d + 6)) 224 K (119, [some (ew_o 11 0), some (ew_i x), some (ew_i w), some (ew_o 244 W), some (ew_o 625 i1), some (ew_o 657 i2), some (ew_o 689 i3), some (ew_i (ei j)), none, none, none, none, none, none, none], [ew_o 721 r, ew_i (ei j), ew_o 244 W], ew_hp (ew_u sk 721 2 r (ef_sum (fun p => sk 177 p j) 5)) mk)) :
    ew_W (ew_Call (d + 6)) 224 K (110, [some (ew_o 11 0), some (ew_i x), some (ew_i w), some (ew_o 244 W), some (ew_o 625 i1), some (ew_o 657 i2), some (ew_o 689 i3), some (ew_i (ei j)), none, none, none, none, none, none, none], [ew_o 721 r, ew_i (ei j), ew_o 244 W], ew_hp sk mk) :=
  ew_go (fun pc => Nat.beq pc 119) 20 (xv_waits I hj rfl ⟨⟨hx, trivial⟩, eq_1 (p := 2) rfl k⟩)
theorem xl_st3 {r : Nat} (I : Iv 0 2 5 np T sk) (hj : j < 5) (hx : ew_ix (ei 3) (mk.2.1 721 r)) (k : ew_W (ew_Call (d + 6)) 224 K (130, [some (ew_o 11 0), some (ew_i x), some (ew_i w), some (ew_o 244 W), some (ew_o 625 i1), some (ew_o 657 i2), some (ew_o 689 i3), some (ew_i (ei j)), none, none, none, none, none, none, none], [ew_o 721 r, ew_i (ei j), ew_o 244 W], ew_hp (ew_u sk 721 3 r (sk 10 10 j)) mk)) :
    ew_W (ew_Call (d + 6)) 224 K (119, [some (ew_o 11 0), some (ew_i x), some (ew_i w), some (ew_o 244 W), some (ew_o 625 i1), some (ew_o 657 i2), some (ew_o 689 i3), some (ew_i (ei j)), none, none, none, none, none, none, none], [ew_o 721 r, ew_i (ei j), ew_o 244 W], ew_hp sk mk) :=
  ew_go (fun pc => Nat.beq pc 130) 20 (xq_sv I (Fr.rf _ _) hj (w := 8) (by decide) rfl rfl ⟨⟨hx, trivial⟩, eq_1 (p := 3) rfl k⟩)
theorem xl_st4 {r : Nat} (I : Iv 0 2 5 np T sk) (hj : j < 5) (hx : ew_ix (ei 4) (mk.2.1 721 r)) (k : ew_W (ew_Call (d + 6)) 224 K (141, [some (ew_o 11 0), some (ew_i x), some (ew_i w), some (ew_o 244 W), some (ew_o 625 i1), some (ew_o 657 i2), some (ew_o 689 i3), some (ew_i (ei j)), none, none, none, none, none, none, none], [ew_o 721 r, ew_i (ei j), ew_o 244 W], ew_hp (ew_u sk 721 4 r (sk 177 3 j)) mk)) :
    ew_W (ew_Call (d + 6)) 224 K (130, [some (ew_o 11 0), some (ew_i x), some (ew_i w), some (ew_o 244 W), some (ew_o 625 i1), some (ew_o 657 i2), some (ew_o 689 i3), some (ew_i (ei j)), none, none, none, none, none, none, none], [ew_o 721 r, ew_i (ei j), ew_o 244 W], ew_hp sk mk) :=
  ew_go (fun pc => Nat.beq pc 141) 20 (xq_sv I (Fr.rf _ _) hj (w := 13) (by decide) rfl rfl ⟨⟨hx, trivial⟩, eq_1 (p := 4) rfl k⟩)
theorem xl_st5 {r : Nat} (I : Iv 0 2 5 np T sk) (hj : j < 5) (hx : ew_ix (ei 5) (mk.2.1 721 r)) (k : ew_W (ew_Call (d + 6)) 224 K (152, [some (ew_o 11 0), some (ew_i x), some (ew_i w), some (ew_o 244 W), some (ew_o 625 i1), some (ew_o 657 i2), some (ew_o 689 i3), some (ew_i (ei j)), none, none, none, none, none, none, none], [ew_o 721 r, ew_i (ei j), ew_o 244 W], ew_hp (ew_u sk 721 5 r (sk 10 9 j)) mk)) :
    ew_W (ew_Call (d + 6)) 224 K (141, [some (ew_o 11 0), some (ew_i x), some (ew_i w), some (ew_o 244 W), some (ew_o 625 i1), some (ew_o 657 i2), some (ew_o 689 i3), some (ew_i (ei j)), none, none, none, none, none, none, none], [ew_o 721 r, ew_i (ei j), ew_o 244 W], ew_hp sk mk) :=
  ew_go (fun pc => Nat.beq pc 152) 20 (xq_sv I (Fr.rf _ _) hj (w := 7) (by decide) rfl rfl ⟨⟨hx, trivial⟩, eq_1 (p := 5) rfl k⟩)
theorem xl_we1 (I : Iv 0 2 5 np T s) (hW : m.2.1 244 W = 5) (hj : j < 5) (a : AW W i1 i2 i3 s m sk mk j)
    (k : ∀ s' m', AW W i1 i2 i3 s m s' m' (j + 1) → ew_W (ew_Call (d + 6)) 224 K (77, [some (ew_o 11 0), some (ew_i x), some (ew_i w), some (ew_o 244 W), some (ew_o 625 i1), some (ew_o 657 i2), some (ew_o 689 i3), some (ew_i (ei j + 1)), none, none, none, none, none, none, none], [], ew_hp s' m')) :
    ew_W (ew_Call (d + 6)) 224 K (77, [some (ew_o 11 0), some (ew_i x), some (ew_i w), some (ew_o 244 W), some (ew_o 625 i1), some (ew_o 657 i2), some (ew_o 689 i3), some (ew_i (ei j)), none, none, none, none, none, none, none], [], ew_hp sk mk) := by
  have k := k _ _ (a.next hj)
  have I := I.pz a.pz
  have h5 : ¬ (5 : Int32) ≤ ei j := fun z => by
    have := (ei_le (a := 5) (by decide) (by omega)).mp z
    omega
  have hl : (ew_mk mk 721 (mk.2.2.2.1 721) 6 (fun _ => ew_i 0)).2.1 721 (mk.2.2.2.1 721) = 6 := em_ln _ _ _ _ _
  have hx : ∀ p, p < 6 → ew_ix (ei p) ((ew_mk mk 721 (mk.2.2.2.1 721) 6 (fun _ => ew_i 0)).2.1 721 (mk.2.2.2.1 721)) := fun p hp => ei_ix (by rw [hl]; omega) (by rw [hl]; omega)
  have hy : ew_ix (ei j) ((ew_mk mk 721 (mk.2.2.2.1 721) 6 (fun _ => ew_i 0)).2.1 244 W) := by
    have : (ew_mk mk 721 (mk.2.2.2.1 721) 6 (fun _ => ew_i 0)).2.1 244 W = 5 := (em_ll mk 6 (fun _ => ew_i 0) (by omega)).trans (a.2.2.2.1.1.trans hW)
    exact ei_ix (by rw [this]; omega) (by rw [this]; omega)
  have P : ∀ p, Pz 721 p (mk.2.2.2.1 721) := fun p => Or.inr (by unfold Pla; omega)
  have F0 : Fr Pz sk (ef_z sk 721 (mk.2.2.2.1 721)) := (Fr.rf _ _).z P
  have F1 := F0.u (sk 10 2 j) (P 0)
  have F2 := F1.u (sk 10 7 j) (P 1)
  have F3 := F2.u (ef_sum (fun p => sk 177 p j) 5) (P 2)
  have F4 := F3.u (sk 10 10 j) (P 3)
  have F5 := F4.u (sk 177 3 j) (P 4)
  refine ew_go (fun pc => Nat.beq pc 88) 20 ⟨fun z => absurd z h5, fun _ => eq_na (k := 721) (ew_Call_mono _) rfl rfl rfl ⟨by decide, by decide, by decide⟩ ?_⟩
  refine eq_n (fun _ => rfl) (xl_st0 (I.pz F0) hj (hx 0 (by decide)) (xl_st1 (I.pz F1) hj (hx 1 (by decide)) (xl_st2 (I.pz F2) hj (hx 2 (by decide)) (xl_st3 (I.pz F3) hj (hx 3 (by decide)) (xl_st4 (I.pz F4) hj (hx 4 (by decide)) (xl_st5 (I.pz F5) hj (hx 5 (by decide)) ?_))))))
  refine ew_go (fun pc => Nat.beq pc 153) 20 ⟨⟨hy, rfl⟩, ?_⟩
  refine eq_t rfl ?_
  rw [ei_nat (show j < 2147483648 by omega)]
  exact ew_go (fun pc => Nat.beq pc 77) 5 k
theorem xl_we (I : Iv 0 2 5 np T s) (hW : m.2.1 244 W = 5)
    (k : ∀ s' m', AW W i1 i2 i3 s m s' m' 5 → ew_W (ew_Call (d + 6)) 224 K (159, [some (ew_o 11 0), some (ew_i x), some (ew_i w), some (ew_o 244 W), some (ew_o 625 i1), some (ew_o 657 i2), some (ew_o 689 i3), some (ew_i (ei 5)), none, none, none, none, none, none, none], [], ew_hp s' m')) : ∀ (r j : Nat) (y : Int32) (sk : ew_S) (mk : ew_H), y = ei j → j + r = 5 → AW W i1 i2 i3 s m sk mk j →
    ew_W (ew_Call (d + 6)) 224 K (77, [some (ew_o 11 0), some (ew_i x), some (ew_i w), some (ew_o 244 W), some (ew_o 625 i1), some (ew_o 657 i2), some (ew_o 689 i3), some (ew_i y), none, none, none, none, none, none, none], [], ew_hp sk mk) := by
  intro r
  induction r with
  | zero =>
    intro j y sk mk hy hj a
    obtain rfl : j = 5 := by omega
    subst hy
    exact ew_go (fun pc => Nat.beq pc 159) 20 ⟨fun _ => k sk mk a, fun z => absurd (show (5 : Int32) ≤ ei 5 by decide) z⟩
  | succ r ih =>
    intro j y sk mk hy hjr a
    subst hy
    exact xl_we1 I hW (by omega) a (fun s' m' a' => ih (j + 1) _ s' m' (ei_1 j) (by omega) a')
end
