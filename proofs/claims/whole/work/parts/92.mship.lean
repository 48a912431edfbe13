/-! Of a ship: the model. -/
section
variable {d : Nat} {K : ew_R → ew_H → Prop} {nb ns np T : Nat} {β σ : Nat → Nat} {ρ : Nat → Nat → Nat} {a s : ew_S} {m : ew_H}
theorem xl_sh10 {j n l g : Nat} {S : ew_S} (hn : n < 10) (k : K (.inl (some (ew_i (S 497 n g)))) (ew_hp S (ew_mk m 497 g 10 (fun _ => ew_i 0)))) : ew_W (ew_Call (d + 3)) 171 K (112, [some (ew_o 16 0), some (ew_i (ei j)), some (ew_i (ei n)), some (ew_o 15 (σ j)), none], [ew_o 497 g], ew_hp S (ew_mk m 497 g 10 (fun _ => ew_i 0))) := by
  refine ew_go (fun _ => false) 20 ⟨ei_ix (n := 10) hn (by decide), trivial, ?_⟩
  rw [← ei_nat (n := n) (by omega)] at k
  exact k
theorem xl_sh8 {j n l g : Nat} {S : ew_S} (k : ew_W (ew_Call (d + 3)) 171 K (112, [some (ew_o 16 0), some (ew_i (ei j)), some (ew_i (ei n)), some (ew_o 15 (σ j)), none], [ew_o 497 g], ew_hp (ew_u (ew_u S 497 8 g (S 15 7 (σ j))) 497 9 g (S 15 8 (σ j))) (ew_mk m 497 g 10 (fun _ => ew_i 0)))) : ew_W (ew_Call (d + 3)) 171 K (96, [some (ew_o 16 0), some (ew_i (ei j)), some (ew_i (ei n)), some (ew_o 15 (σ j)), none], [ew_o 497 g], ew_hp S (ew_mk m 497 g 10 (fun _ => ew_i 0))) := by
  refine ew_go (fun pc => Nat.beq pc 112) 40 ⟨⟨ei_ix (j := 8) (n := 10) (by decide) (by decide), trivial⟩, ⟨ei_ix (j := 9) (n := 10) (by decide) (by decide), trivial⟩, ?_⟩
  show ew_W (ew_Call (d + 3)) 171 K (112, [some (ew_o 16 0), some (ew_i (ei j)), some (ew_i (ei n)), some (ew_o 15 (σ j)), none], [ew_o 497 g], ew_put (ew_put (ew_hp S (ew_mk m 497 g 10 (fun _ => ew_i 0))) 497 g 8 (ew_i (S 15 7 (σ j)))) 497 g 9 (ew_i (S 15 8 (σ j))))
  exact eq_2 rfl rfl k
theorem xl_sh6 {j n l g : Nat} {S : ew_S} {es : Nat → ew_V} (hL : LR 130 (σ j) l es S (ew_mk m 497 g 10 (fun _ => ew_i 0))) (k : ew_W (ew_Call (d + 3)) 171 K (96, [some (ew_o 16 0), some (ew_i (ei j)), some (ew_i (ei n)), some (ew_o 15 (σ j)), none], [ew_o 497 g], ew_hp (ew_u (ew_u S 497 6 g (ei l)) 497 7 g (S 15 6 (σ j))) (ew_mk m 497 g 10 (fun _ => ew_i 0)))) : ew_W (ew_Call (d + 3)) 171 K (77, [some (ew_o 16 0), some (ew_i (ei j)), some (ew_i (ei n)), some (ew_o 15 (σ j)), none], [ew_o 497 g], ew_hp S (ew_mk m 497 g 10 (fun _ => ew_i 0))) := by
  refine ew_go (fun pc => Nat.beq pc 96) 40 (xm_size130 hL ⟨⟨ei_ix (j := 6) (n := 10) (by decide) (by decide), trivial⟩, ⟨ei_ix (j := 7) (n := 10) (by decide) (by decide), trivial⟩, ?_⟩)
  show ew_W (ew_Call (d + 3)) 171 K (96, [some (ew_o 16 0), some (ew_i (ei j)), some (ew_i (ei n)), some (ew_o 15 (σ j)), none], [ew_o 497 g], ew_put (ew_put (ew_hp S (ew_mk m 497 g 10 (fun _ => ew_i 0))) 497 g 6 (ew_i (ei l))) 497 g 7 (ew_i (S 15 6 (σ j))))
  exact eq_2 rfl rfl k
theorem xl_sh4 {j n l g : Nat} {S : ew_S} (k : ew_W (ew_Call (d + 3)) 171 K (77, [some (ew_o 16 0), some (ew_i (ei j)), some (ew_i (ei n)), some (ew_o 15 (σ j)), none], [ew_o 497 g], ew_hp (ew_u (ew_u S 497 4 g (S 15 4 (σ j))) 497 5 g (S 15 5 (σ j))) (ew_mk m 497 g 10 (fun _ => ew_i 0)))) : ew_W (ew_Call (d + 3)) 171 K (63, [some (ew_o 16 0), some (ew_i (ei j)), some (ew_i (ei n)), some (ew_o 15 (σ j)), none], [ew_o 497 g], ew_hp S (ew_mk m 497 g 10 (fun _ => ew_i 0))) := by
  refine ew_go (fun pc => Nat.beq pc 77) 40 ⟨⟨ei_ix (j := 4) (n := 10) (by decide) (by decide), trivial⟩, ⟨ei_ix (j := 5) (n := 10) (by decide) (by decide), trivial⟩, ?_⟩
  show ew_W (ew_Call (d + 3)) 171 K (77, [some (ew_o 16 0), some (ew_i (ei j)), some (ew_i (ei n)), some (ew_o 15 (σ j)), none], [ew_o 497 g], ew_put (ew_put (ew_hp S (ew_mk m 497 g 10 (fun _ => ew_i 0))) 497 g 4 (ew_i (S 15 4 (σ j)))) 497 g 5 (ew_i (S 15 5 (σ j))))
  exact eq_2 rfl rfl k
theorem xl_sh2 {j n l g : Nat} {S : ew_S} (k : ew_W (ew_Call (d + 3)) 171 K (63, [some (ew_o 16 0), some (ew_i (ei j)), some (ew_i (ei n)), some (ew_o 15 (σ j)), none], [ew_o 497 g], ew_hp (ew_u (ew_u S 497 2 g (S 15 2 (σ j))) 497 3 g (S 15 3 (σ j))) (ew_mk m 497 g 10 (fun _ => ew_i 0)))) : ew_W (ew_Call (d + 3)) 171 K (49, [some (ew_o 16 0), some (ew_i (ei j)), some (ew_i (ei n)), some (ew_o 15 (σ j)), none], [ew_o 497 g], ew_hp S (ew_mk m 497 g 10 (fun _ => ew_i 0))) := by
  refine ew_go (fun pc => Nat.beq pc 63) 40 ⟨⟨ei_ix (j := 2) (n := 10) (by decide) (by decide), trivial⟩, ⟨ei_ix (j := 3) (n := 10) (by decide) (by decide), trivial⟩, ?_⟩
  show ew_W (ew_Call (d + 3)) 171 K (63, [some (ew_o 16 0), some (ew_i (ei j)), some (ew_i (ei n)), some (ew_o 15 (σ j)), none], [ew_o 497 g], ew_put (ew_put (ew_hp S (ew_mk m 497 g 10 (fun _ => ew_i 0))) 497 g 2 (ew_i (S 15 2 (σ j)))) 497 g 3 (ew_i (S 15 3 (σ j))))
  exact eq_2 rfl rfl k
theorem xl_sh0 {j n l g : Nat} {S : ew_S} (k : ew_W (ew_Call (d + 3)) 171 K (49, [some (ew_o 16 0), some (ew_i (ei j)), some (ew_i (ei n)), some (ew_o 15 (σ j)), none], [ew_o 497 g], ew_hp (ew_u (ew_u S 497 0 g (S 15 0 (σ j))) 497 1 g (S 15 1 (σ j))) (ew_mk m 497 g 10 (fun _ => ew_i 0)))) : ew_W (ew_Call (d + 3)) 171 K (35, [some (ew_o 16 0), some (ew_i (ei j)), some (ew_i (ei n)), some (ew_o 15 (σ j)), none], [ew_o 497 g], ew_hp S (ew_mk m 497 g 10 (fun _ => ew_i 0))) := by
  refine ew_go (fun pc => Nat.beq pc 49) 40 ⟨⟨ei_ix (j := 0) (n := 10) (by decide) (by decide), trivial⟩, ⟨ei_ix (j := 1) (n := 10) (by decide) (by decide), trivial⟩, ?_⟩
  show ew_W (ew_Call (d + 3)) 171 K (49, [some (ew_o 16 0), some (ew_i (ei j)), some (ew_i (ei n)), some (ew_o 15 (σ j)), none], [ew_o 497 g], ew_put (ew_put (ew_hp S (ew_mk m 497 g 10 (fun _ => ew_i 0))) 497 g 0 (ew_i (S 15 0 (σ j)))) 497 g 1 (ew_i (S 15 1 (σ j))))
  exact eq_2 rfl rfl k
end
