/-! The class's hour. -/
section
variable {d : Nat} {s : ew_S} {m : ew_H} {K : ew_R → ew_H → Prop} {q nb ns np T : Nat}
theorem xc_moveBreaker (B : Nat) (hb : iv_b (ea s B)) (k : K (.inl none) (ew_hp (sp_mb q B s) m)) : ew_Call (d + 3) 44 [ew_o 9 q, ew_o 3 B] (ew_hp s m) K := by
  obtain ⟨a1, n, n8, hn, a2⟩ := hb
  have hn : s 8 1 B = ei n := hn
  unfold sp_mb at k
  refine ew_call (ew_go (fun _ => false) 60 ⟨trivial, fun c => ?_, fun c => ?_⟩)
  · show ew_Call (d + 2) 32 [ew_o 8 B] (ew_put (ew_hp s m) 3 B 4 (ew_i (-1))) _
    have c : ¬ s 8 1 B = 0 := c
    rw [if_neg c] at k
    obtain ⟨t, ht, e⟩ := a2 0 (by
      rcases Nat.eq_zero_or_pos n with z | z
      · rw [z] at hn; exact absurd hn c
      · exact z)
    have e : s 145 0 B = ei t := e
    rw [e, ei_nat (by omega)] at k
    have hn0 : ¬ n = 0 := fun z => by rw [z] at hn; exact c hn
    rw [ew_hp_put rfl]
    refine xc_first8E B n hn n8 hn0 e ?_
    refine xc_cellAt q t ht (xc_distance _ _ ⟨fun c1 => ?_, fun c1 => ⟨fun c2 => ?_, fun c2 => ?_⟩⟩)
    · have c1 : ¬ ef_far (s 3 1 B) (ei t) = 1 := c1
      rw [if_neg (fun z => c1 z.1)] at k
      exact xc_drop8 B ⟨trivial, k⟩
    · have c1 : ¬ ¬ ef_far (s 3 1 B) (ei t) = 1 := c1
      rw [Classical.not_not] at c1
      have c2 : s 4 3 (t + 15 * q) = 0 := c2
      rw [if_pos ⟨c1, c2⟩] at k
      refine ⟨by decide, xc_worthUnbroken _ ⟨fun c3 => ?_, fun c3 => ⟨fun c4 => ?_, fun c4 => ?_⟩⟩⟩
      · have c3 : (150 : Int32) < s 4 0 (t + 15 * q) + 5 * s 4 1 (t + 15 * q) := c3
        rw [if_neg (fun z => Int32.not_le.mpr c3 z.1)] at k
        exact ⟨trivial, trivial, ek_p rfl k⟩
      · have c4 : 3 + s 4 0 (t + 15 * q) / 30 ≤ s 3 2 B := c4
        have c3 : ¬ (150 : Int32) < s 4 0 (t + 15 * q) + 5 * s 4 1 (t + 15 * q) := c3
        rw [if_pos ⟨Int32.not_lt.mp c3, c4⟩] at k
        refine xc_enter B n _ _ hn n8 ⟨trivial, trivial, ek_p rfl ?_⟩
        unfold sp_en at k
        have e9 : (ew_u s 3 4 B (-1) 8 1 B).toNatClampNeg = n := by
          show (s 8 1 B).toNatClampNeg = n
          rw [hn, ei_nat (by omega)]
        rw [e9] at k
        exact k
      · have c4 : ¬ 3 + s 4 0 (t + 15 * q) / 30 ≤ s 3 2 B := c4
        rw [if_neg (fun z => c4 z.2)] at k
        exact ⟨trivial, trivial, ek_p rfl k⟩
    · have c2 : ¬ s 4 3 (t + 15 * q) = 0 := c2
      rw [if_neg (fun z => c2 z.2)] at k
      exact xc_drop8 B ⟨trivial, k⟩
  · have c : ¬ ¬ s 8 1 B = 0 := c
    rw [if_pos (Classical.not_not.mp c)] at k
    exact ⟨trivial, ek_p rfl k⟩
end
