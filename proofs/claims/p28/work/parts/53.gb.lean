/-! The class's hour. -/
section
variable {d : Nat} {s : ew_S} {m : ew_H} {K : ew_R → ew_H → Prop} {q nb ns np T : Nat}
theorem xc_goBound (h : Iv q nb ns np T s) {j b : Nat} (hj : j < ns) (hb : b < nb) (he : s 10 8 (j + 5 * q) = ei b) (k : K (.inl (some (ew_i (sp_gb q (j + 5 * q) (b + 2 * q) s).1))) (ew_hp (sp_gb q (j + 5 * q) (b + 2 * q) s).2 m)) : ew_Call (d + 3) 47 [ew_o 9 q, ew_o 10 (j + 5 * q)] (ew_hp s m) K := by
  obtain ⟨⟨t, ht, e⟩, -⟩ := h.2.2.2.1 b hb
  have e : s 3 1 (b + 2 * q) = ei t := e
  have hfr := iv_fr h hj
  unfold sp_gb at k
  rw [e, ei_nat (by omega)] at k
  have hnb := h.1
  refine ew_call (ew_go (fun _ => false) 60 ?_)
  refine xc_breakerAtE q b nb h.2.1.1 (by omega) hb he ⟨fun c => ?_, fun c => ?_⟩
  · have c : ¬ s 3 4 (b + 2 * q) = s 10 2 (j + 5 * q) := c
    rw [if_neg c] at k
    refine ⟨fun c1 => ?_, fun c1 => ⟨fun c2 => ?_, fun c2 => ?_⟩⟩
    · have c1 : ¬ s 3 4 (b + 2 * q) = -1 := c1
      rw [if_neg (fun z => c1 z.1)] at k
      exact xc_setFree _ (xc_goFree _ hfr ⟨trivial, k⟩)
    · have c2 : ¬ s 3 1 (b + 2 * q) = s 10 2 (j + 5 * q) := c2
      rw [e] at c2
      rw [if_neg (fun z => c2 z.2)] at k
      exact xc_setFree _ (xc_goFree _ hfr ⟨trivial, k⟩)
    · have c1 : ¬ ¬ s 3 4 (b + 2 * q) = -1 := c1
      have c2 : ¬ ¬ s 3 1 (b + 2 * q) = s 10 2 (j + 5 * q) := c2
      rw [e] at c2
      rw [if_pos ⟨Classical.not_not.mp c1, Classical.not_not.mp c2⟩] at k
      exact ⟨trivial, k⟩
  · have c : ¬ ¬ s 3 4 (b + 2 * q) = s 10 2 (j + 5 * q) := c
    rw [if_pos (Classical.not_not.mp c)] at k
    refine xc_cellAtE q t ht e (xc_worth _ ?_)
    refine xc_follow _ _ _ (fun c1 => ⟨trivial, ?_⟩) (fun c1 => ⟨trivial, ?_⟩)
    · have c1 : ¬ ef_hind (if s 10 7 (j + 5 * q) = 2 then 0 else 1) (sp_w q t s) (s 10 5 (j + 5 * q)) (s 10 4 (j + 5 * q)) = -1 := c1
      rw [if_neg c1] at k; exact k
    · have c1 : ef_hind (if s 10 7 (j + 5 * q) = 2 then 0 else 1) (sp_w q t s) (s 10 5 (j + 5 * q)) (s 10 4 (j + 5 * q)) = -1 := c1
      rw [if_pos c1, ← e] at k; exact k
end
