/-! The class's hour. -/
section
variable {d : Nat} {s : ew_S} {m : ew_H} {K : ew_R → ew_H → Prop} {q nb ns np T : Nat}
theorem xc_moveShip (h : Iv q nb ns np T s) {j : Nat} (hj : j < ns) (k : K (.inl (some (ew_i (sp_ms q j s).1))) (ew_hp (sp_ms q j s).2 m)) : ew_Call (d + 4) 45 [ew_o 9 q, ew_i (ei j), ew_o 7 0] (ew_hp s m) K := by
  have hns := h.1
  unfold sp_ms at k
  -- behind the ship's going
  have tail : ∀ (r : Int32) (s1 : ew_S), Iv q nb ns np T s1 → (r = -1 ∨ ∃ c, c < 5 ∧ r = ei c) → K (.inl (some (ew_i (sp_ar q (j + 5 * q) j r s1).1))) (ew_hp (sp_ar q (j + 5 * q) j r s1).2 m) →
      ew_W (ew_Call (d + 3)) 45 K (36, [some (ew_o 9 q), some (ew_i (ei j)), some (ew_o 7 0), some (ew_o 10 (j + 5 * q)), none, none], [ew_i r], ew_hp s1 m) := by
    intro r s1 I hr k
    obtain ⟨⟨t, ht, e⟩, -, ⟨p, hp, e2⟩, -⟩ := I.2.2.2.2.1 j hj
    have e : s1 10 2 (j + 5 * q) = ei t := e
    have e2 : s1 10 6 (j + 5 * q) = ei p := e2
    obtain ⟨⟨t2, ht2, e3⟩, ⟨n, hn, e4⟩, -⟩ := I.2.2.2.2.2.1 p hp
    have e3 : s1 6 4 p = ei t2 := e3
    have e4 : s1 6 3 p = ei n := e4
    unfold sp_ar at k
    rw [e2, ei_nat (by omega), e4, ei_nat (by omega)] at k
    unfold sp_ap at k
    have wt : ∀ (r : Int32), (∃ c, c < 5 ∧ r = ei c) → K (.inl (some (ew_i 0))) (ew_hp (sp_wt q (j + 5 * q) r s1) m) →
        ew_W (ew_Call (d + 3)) 45 K (96, [some (ew_o 9 q), some (ew_i (ei j)), some (ew_o 7 0), some (ew_o 10 (j + 5 * q)), some (ew_i r), some (ew_o 6 p)], [], ew_hp s1 m) := by
      rintro r ⟨c, hc, rfl⟩ k
      unfold sp_wt at k
      rw [ei_nat (by omega), e, ei_nat (by omega)] at k
      refine ew_go (fun _ => false) 60 (xc_countWait _ c hc ?_)
      refine xc_cellAtE q t ht e ⟨fun z => ?_, fun z => ?_⟩
      · have z : s1 4 1 (t + 15 * q) < 6 := z
        rw [if_pos z] at k
        exact ⟨trivial, Or.inl rfl, ek_p rfl k⟩
      · have z : ¬ s1 4 1 (t + 15 * q) < 6 := z
        rw [if_neg z] at k
        exact ⟨trivial, Or.inl rfl, ek_p rfl k⟩
    refine ew_go (fun pc => Nat.beq pc 96) 60 ?_
    refine xc_portAtE p np I.2.1.2.2 (by omega) hp e2 ⟨fun z => ⟨fun z2 => ?_, fun z2 => ?_⟩, fun z => ?_⟩
    · have z : ¬ s1 10 2 (j + 5 * q) = s1 6 4 p := z
      have z2 : r = -1 := z2
      rw [if_neg z, if_pos z2] at k
      exact ⟨Or.inl rfl, k⟩
    · have z : ¬ s1 10 2 (j + 5 * q) = s1 6 4 p := z
      have z2 : ¬ r = -1 := z2
      rw [if_neg z, if_neg z2] at k
      exact wt r (hr.resolve_left z2) k
    · have z : ¬ ¬ s1 10 2 (j + 5 * q) = s1 6 4 p := z
      rw [if_pos (Classical.not_not.mp z)] at k
      refine xc_letsIn p n j (by omega) _ _ e4 hn ⟨fun z2 => ⟨fun z3 => absurd z3 (show ¬ (3 : Int32) = -1 by decide), fun z3 => wt 3 ⟨3, by decide, rfl⟩ ?_⟩, fun z2 => ?_⟩
      · have z2 : (if ef_least (fun r => s1 113 r p) (fun r => s1 81 r p) (s1 9 5 q) n ≤ s1 10 3 (j + 5 * q) ∨ s1 18 j p ≠ 0 then (1 : Int32) else 0) = 0 := z2
        have z4 : ¬ (ef_least (fun r => s1 113 r p) (fun r => s1 81 r p) (s1 9 5 q) n ≤ s1 10 3 (j + 5 * q) ∨ s1 18 j p ≠ 0) := fun y => by
          rw [if_pos y] at z2; exact absurd z2 (by decide)
        rw [if_neg z4] at k
        exact k
      · have z2 : ¬ (if ef_least (fun r => s1 113 r p) (fun r => s1 81 r p) (s1 9 5 q) n ≤ s1 10 3 (j + 5 * q) ∨ s1 18 j p ≠ 0 then (1 : Int32) else 0) = 0 := z2
        have z4 : ef_least (fun r => s1 113 r p) (fun r => s1 81 r p) (s1 9 5 q) n ≤ s1 10 3 (j + 5 * q) ∨ s1 18 j p ≠ 0 := Classical.byContradiction fun y => z2 (if_neg y)
        rw [if_pos z4] at k
        exact xc_arrive _ _ ⟨Or.inr rfl, k⟩
  refine ew_call (ew_go (fun pc => Nat.beq pc 36) 60 (xc_shipAt q j ns h.2.1.2.1 (by omega) hj ⟨fun c => ⟨fun c1 => ?_, fun c1 => ?_⟩, fun c => ?_⟩))
  · have c : ¬ s 10 7 (j + 5 * q) = 3 := c
    have c1 : ¬ s 10 7 (j + 5 * q) = 0 := c1
    have g := iv_go h hj c
    rw [if_neg c] at k
    unfold sp_go at g k
    rw [if_neg c1] at g k
    rcases (h.2.2.2.2.1 j hj).2.2.2.2 with z | z | ⟨-, b, hb, z⟩
    · exact absurd z.1 c1
    · exact absurd z.1 c
    · have z : s 10 8 (j + 5 * q) = ei b := z
      rw [z, ei_nat (by omega)] at g k
      exact xc_goBound h hj hb z (tail _ _ (h.ship g.1 g.2.1) g.2.2 k)
  · have c : ¬ s 10 7 (j + 5 * q) = 3 := c
    have c1 : ¬ ¬ s 10 7 (j + 5 * q) = 0 := c1
    have g := iv_go h hj c
    rw [if_neg c] at k
    unfold sp_go at g k
    rw [if_pos (Classical.not_not.mp c1)] at g k
    exact xc_goFree _ (h.2.2.2.2.1 j hj) (tail _ _ (h.ship g.1 g.2.1) g.2.2 k)
  · have c : ¬ ¬ s 10 7 (j + 5 * q) = 3 := c
    rw [if_pos (Classical.not_not.mp c)] at k
    exact ⟨Or.inl rfl, k⟩
end
