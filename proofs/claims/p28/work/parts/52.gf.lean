/-! The class's hour. -/
section
variable {d : Nat} {s : ew_S} {m : ew_H} {K : ew_R → ew_H → Prop} {q nb ns np T : Nat}
theorem xc_goFree (J : Nat) (hj : iv_s nb np (ea s J)) (k : K (.inl (some (ew_i (sp_gf q J s).1))) (ew_hp (sp_gf q J s).2 m)) : ew_Call (d + 2) 46 [ew_o 9 q, ew_o 10 J] (ew_hp s m) K := by
  obtain ⟨a1, ⟨n, n8, hn, a2⟩, -⟩ := hj
  have hn : s 40 1 J = ei n := hn
  unfold sp_gf at k
  refine ew_call (ew_go (fun _ => false) 60 ⟨fun c => ?_, fun c => ?_⟩)
  · have c : ¬ s 40 1 J = 0 := c
    rw [if_neg c] at k
    have hn0 : ¬ n = 0 := fun z => by rw [z] at hn; exact c hn
    obtain ⟨t, ht, e⟩ := a2 0 (by omega)
    have e : s 593 0 J = ei t := e
    rw [e, ei_nat (by omega)] at k
    refine xc_first40E J n hn n8 hn0 e ?_
    refine xc_cellAt q t ht (xc_distance _ _ ⟨fun c1 => ?_, fun c1 => ⟨fun c2 => ?_, fun c2 => ?_⟩⟩)
    · have c1 : ¬ ef_far (s 10 2 J) (ei t) = 1 := c1
      rw [if_neg (fun z => c1 z.1)] at k
      exact xc_drop40 J ⟨trivial, k⟩
    · have c1 : ¬ ¬ ef_far (s 10 2 J) (ei t) = 1 := c1
      have c2 : s 4 3 (t + 15 * q) = 0 := c2
      rw [if_pos ⟨Classical.not_not.mp c1, c2⟩] at k
      refine xc_worth _ (xc_hindrance J _ 1 ⟨fun c3 => ?_, fun c3 => ?_⟩)
      · have c3 : ¬ ef_hind 1 (sp_w q t s) (s 10 5 J) (s 10 4 J) = -1 := c3
        rw [if_neg c3] at k
        exact ⟨trivial, k⟩
      · have c3 : ¬ ¬ ef_hind 1 (sp_w q t s) (s 10 5 J) (s 10 4 J) = -1 := c3
        rw [Classical.not_not] at c3
        rw [if_pos c3] at k
        refine ⟨trivial, ec_1 rfl (xc_takeFirst40 J n hn n8 ⟨trivial, ?_⟩)⟩
        rw [hn, ei_nat (by omega), ← c3] at k
        exact k
    · have c2 : ¬ s 4 3 (t + 15 * q) = 0 := c2
      rw [if_neg (fun z => c2 z.2)] at k
      exact xc_drop40 J ⟨trivial, k⟩
  · have c : ¬ ¬ s 40 1 J = 0 := c
    rw [if_pos (Classical.not_not.mp c)] at k
    exact ⟨trivial, k⟩
end
