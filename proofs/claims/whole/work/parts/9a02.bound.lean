/-! A greater bound will do. -/
section
variable {q i nb ns np T T' : Nat} {β σ : Nat → Nat} {ρ : Nat → Nat → Nat} {z : ew_Z3} {a s : ew_S} {m : ew_H}
theorem Iv.leT (h : Iv q nb ns np T s) (hT : T ≤ T') : Iv q nb ns np T' s := by
  obtain ⟨a, b, c, d, e, f, n, t1, t2⟩ := h
  exact ⟨a, b, c, d, e, f, n, Nat.le_trans t1 hT, t2⟩
theorem RR.leT (h : RR q i nb ns np T β σ ρ z a s m) (hT : T ≤ T') : RR q i nb ns np T' β σ ρ z a s m := ⟨h.1, h.2.1.leT hT, h.2.2⟩
end
