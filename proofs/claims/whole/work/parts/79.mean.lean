/-! The mean of the ice: the class. -/
def sp_mean (s : ew_S) : UInt64 := if sp_open s = 0 then FP.i2d 0 else FP.ddiv (FP.i2d (sp_ice s)) (FP.i2d (sp_open s))
theorem xp_meanIce {d : Nat} {s : ew_S} {m : ew_H} {K : ew_R → ew_H → Prop} (hv : ∀ a b : Int32, ¬ b = 0 → vf_n64 (FP.ddiv (FP.i2d a) (FP.i2d b))) (k : K (.inl (some (.inl (.double (sp_mean s))))) (ew_hp s m)) : ew_Call (d + 2) 92 [ew_o 11 0] (ew_hp s m) K := by
  by_cases e : sp_open s = 0
  · rw [show sp_mean s = FP.i2d 0 from if_pos e] at k
    exact ew_call (ew_go (fun _ => false) 60 (xc_countOpen 0 ⟨fun z => absurd e z, fun _ => ⟨trivial, k⟩⟩))
  · rw [show sp_mean s = FP.ddiv (FP.i2d (sp_ice s)) (FP.i2d (sp_open s)) from if_neg e] at k
    exact ew_call (ew_go (fun _ => false) 60 (xc_countOpen 0 ⟨fun _ => xc_allIce 0 ⟨hv _ _ e, trivial, k⟩, fun z => absurd e z⟩))
