/-! How many: what is read of the array. -/
section
variable {d : Nat} {K : ew_R → ew_H → Prop} {t g : Nat} {v1 v2 x1 x2 x3 : Int32} {u : Option ew_V} {S : ew_S} {m : ew_H}
theorem xl_mn11 {n : Nat} (hn : n < 11) (k : K (.inl (some (ew_i (S 529 n g)))) (ew_hp S m)) : ew_W (ew_Call (d + 3)) 174 K (231, [some (ew_o 16 0), some (ew_i (ei n)), some (ew_i v1), some (ew_i v2), some (ew_i x1), some (ew_i x2), some (ew_i x3), some (ew_o 1 t), u], [ew_o 529 g], ew_hp S m) := by
  refine ew_go (fun _ => false) 20 ⟨ei_ix (n := 11) hn (by decide), trivial, ?_⟩
  rw [← ei_nat (n := n) (by omega)] at k
  exact k
end
