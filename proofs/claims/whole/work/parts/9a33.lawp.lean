/-! What the class's asked calls leave: its chart and its trial may have changed. -/
section
variable {i nb ns np T : Nat} {β σ : Nat → Nat} {ρ : Nat → Nat → Nat} {z : ew_Z3} {a a' s : ew_S} {m : ew_H}
theorem RM.pt (h : RM 0 i nb ns np β σ ρ z a s m) (h2 : nb ≤ 2) (h5 : ns ≤ 5) (F : Fr Pct a a') : RM 0 i nb ns np β σ ρ z a' s m := by
  obtain ⟨g1, g2, g3, g4, g5, g6, g7, g8⟩ := h
  refine ⟨?_, g2, g3, g4, fun b hb => (g5 b hb).cg (fun p => pt3 F (by omega)) (pt8 F (by omega)) (fun p => pt145 F (by omega)), fun j hj => (g6 j hj).cg (fun p => pt10 F (by omega)) (pt40 F (by omega)) (fun p => pt593 F (by omega)) (fun p => pt177 F (by omega)), fun p hp => (g7 p hp).cg (fun r => pt6 F) (fun r => pt18 F) (fun r => pt113 F) (fun r => pt81 F), g8⟩
  obtain ⟨f1, f2, f3, f4⟩ := g1
  refine ⟨f1, f2.trans (pt9 F).symm, f3.trans (pt9 F).symm, fun c hc => ?_⟩
  rw [pt4 F (show c + 15 * 0 < 15 by omega), pt4 F (show c + 15 * 0 < 15 by omega), pt4 F (show c + 15 * 0 < 15 by omega), pt4 F (show c + 15 * 0 < 15 by omega)]
  exact f4 c hc
theorem RR.pt (h : RR 0 i nb ns np T β σ ρ z a s m) (F : Fr Pct a a') : RR 0 i nb ns np T β σ ρ z a' s m :=
  ⟨h.1.pt h.2.1.1.1 h.2.1.1.2.1 F, h.2.1.pt F, h.2.2⟩
theorem Pct.cl {k p o : Nat} (h : Pct k p o) : ef_C k = true := by
  unfold Pct Pch Ptr at h
  rcases h with ⟨rfl | rfl, -⟩ | ⟨rfl, -⟩ | ⟨rfl, -⟩ | ⟨rfl | rfl | rfl, -⟩ | ⟨rfl | rfl | rfl | rfl, -⟩ <;> rfl
theorem ul_pt (u : Un nb ns np a) (l : Lb nb ns a) (h5 : ns ≤ 5) (F : Fr Pct a a') : UL nb ns np a a' :=
  ⟨F.mono (fun _ _ _ h => Pct.cl h), u.fr F (fun b _ hb k p hk => Pct.no (by omega) (by omega) (by omega)) (fun j _ hj k p hk => Pct.no (by omega) (by omega) (by omega)) (fun p _ hp k r hk => Pct.no (by omega) (by omega) (by omega)), l.le (fun j hj => Or.inl ⟨pt10 F (by omega), pt10 F (by omega)⟩), pt9 F⟩
theorem Pch.ct {s s' : ew_S} (F : Fr Pch s s') : Fr Pct s s' := F.mono (fun _ _ _ h => Or.inl h)
theorem Ptr.ct {s s' : ew_S} (F : Fr Ptr s s') : Fr Pct s s' := F.mono (fun _ _ _ h => Or.inr h)
end
