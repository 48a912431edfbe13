/-! The law's loop: the ends of its parts. -/
section
variable {d : Nat} {s s1 : ew_S} {m m1 : ew_H} {K : ew_R → ew_H → Prop} {L c0 d0 nb ns np n T : Nat} {β σ : Nat → Nat} {ρ : Nat → Nat → Nat} {u5 u6 u7 u8 : Option ew_V} {c v : Int32} 
theorem ef_tc_lt {n : Nat} (h : n ≤ 3) : ef_tc n < 100 := by
  unfold ef_tc
  cases Nat.beq n 3
  · rw [cond_false]; omega
  · rw [cond_true]; omega
theorem ef_ps_lt {n : Nat} (h : n ≤ 3) : ef_ps n < 100 := by
  unfold ef_ps
  cases Nat.beq n 2
  · rw [cond_false]; omega
  · rw [cond_true]; omega
theorem lt_ice (h5 : s 16 0 0 = c) (hv : c = 0 → m.1 19 0 0 = ew_j v.toInt64) (k : ew_W (ew_Call (d + 9)) 242 K (1778, [some (ew_o 17 0), some (ew_o 11 0), some (ew_o 16 0), some (ew_o 19 0), some (ew_i (ei (5 * n))), some (ew_i c), some (ew_i v), u7, u8], [], ew_hp s m)) : ew_W (ew_Call (d + 9)) 242 K (187, [some (ew_o 17 0), some (ew_o 11 0), some (ew_o 16 0), some (ew_o 19 0), some (ew_i (ei (5 * n))), some (ew_i c), u6, u7, u8], [ew_i v], ew_hp s m) := by
  have f : c = 0 → ew_W (ew_Call (d + 9)) 242 K (208, [some (ew_o 17 0), some (ew_o 11 0), some (ew_o 16 0), some (ew_o 19 0), some (ew_i (ei (5 * n))), some (ew_i c), some (ew_i v), u7, u8], [m.1 19 0 0], ew_hp s m) := fun e => by
    rw [hv e]
    exact ew_go (fun pc => Nat.beq pc 1778) 40 ⟨fun _ => ⟨fun _ => k, fun z => absurd rfl z⟩, fun z => absurd rfl z⟩
  exact ew_go (fun pc => Nat.beq pc 208 || Nat.beq pc 1778) 40 (xm_thrown ⟨fun _ => ⟨fun _ => k, fun e => ⟨ix_0, f (Classical.not_not.mp e)⟩⟩, fun z => absurd h5 z⟩)
theorem lt_land (h5 : s 16 0 0 = c) (hv : c = 0 → m.1 19 0 0 = ew_j v.toInt64) (k : ew_W (ew_Call (d + 9)) 242 K (1778, [some (ew_o 17 0), some (ew_o 11 0), some (ew_o 16 0), some (ew_o 19 0), some (ew_i (ei (5 * n))), some (ew_i c), some (ew_i v), u7, u8], [], ew_hp s m)) : ew_W (ew_Call (d + 9)) 242 K (243, [some (ew_o 17 0), some (ew_o 11 0), some (ew_o 16 0), some (ew_o 19 0), some (ew_i (ei (5 * n))), some (ew_i c), u6, u7, u8], [ew_i v], ew_hp s m) := by
  have f : c = 0 → ew_W (ew_Call (d + 9)) 242 K (264, [some (ew_o 17 0), some (ew_o 11 0), some (ew_o 16 0), some (ew_o 19 0), some (ew_i (ei (5 * n))), some (ew_i c), some (ew_i v), u7, u8], [m.1 19 0 0], ew_hp s m) := fun e => by
    rw [hv e]
    exact ew_go (fun pc => Nat.beq pc 1778) 40 ⟨fun _ => ⟨fun _ => k, fun z => absurd rfl z⟩, fun z => absurd rfl z⟩
  exact ew_go (fun pc => Nat.beq pc 264 || Nat.beq pc 1778) 40 (xm_thrown ⟨fun _ => ⟨fun _ => k, fun e => ⟨ix_0, f (Classical.not_not.mp e)⟩⟩, fun z => absurd h5 z⟩)
theorem lt_port (h5 : s 16 0 0 = c) (hv : c = 0 → m.1 19 0 0 = ew_j v.toInt64) (k : ew_W (ew_Call (d + 9)) 242 K (1778, [some (ew_o 17 0), some (ew_o 11 0), some (ew_o 16 0), some (ew_o 19 0), some (ew_i (ei (5 * n))), some (ew_i c), some (ew_i v), u7, u8], [], ew_hp s m)) : ew_W (ew_Call (d + 9)) 242 K (299, [some (ew_o 17 0), some (ew_o 11 0), some (ew_o 16 0), some (ew_o 19 0), some (ew_i (ei (5 * n))), some (ew_i c), u6, u7, u8], [ew_i v], ew_hp s m) := by
  have f : c = 0 → ew_W (ew_Call (d + 9)) 242 K (320, [some (ew_o 17 0), some (ew_o 11 0), some (ew_o 16 0), some (ew_o 19 0), some (ew_i (ei (5 * n))), some (ew_i c), some (ew_i v), u7, u8], [m.1 19 0 0], ew_hp s m) := fun e => by
    rw [hv e]
    exact ew_go (fun pc => Nat.beq pc 1778) 40 ⟨fun _ => ⟨fun _ => k, fun z => absurd rfl z⟩, fun z => absurd rfl z⟩
  exact ew_go (fun pc => Nat.beq pc 320 || Nat.beq pc 1778) 40 (xm_thrown ⟨fun _ => ⟨fun _ => k, fun e => ⟨ix_0, f (Classical.not_not.mp e)⟩⟩, fun z => absurd h5 z⟩)
theorem lt_rule (h5 : s 16 0 0 = c) (hv : c = 0 → m.1 19 0 0 = ew_j v.toInt64) (k : ew_W (ew_Call (d + 9)) 242 K (1778, [some (ew_o 17 0), some (ew_o 11 0), some (ew_o 16 0), some (ew_o 19 0), some (ew_i (ei (5 * n))), some (ew_i c), some (ew_i v), u7, u8], [], ew_hp s m)) : ew_W (ew_Call (d + 9)) 242 K (379, [some (ew_o 17 0), some (ew_o 11 0), some (ew_o 16 0), some (ew_o 19 0), some (ew_i (ei (5 * n))), some (ew_i c), u6, u7, u8], [ew_i v], ew_hp s m) := by
  have f : c = 0 → ew_W (ew_Call (d + 9)) 242 K (400, [some (ew_o 17 0), some (ew_o 11 0), some (ew_o 16 0), some (ew_o 19 0), some (ew_i (ei (5 * n))), some (ew_i c), some (ew_i v), u7, u8], [m.1 19 0 0], ew_hp s m) := fun e => by
    rw [hv e]
    exact ew_go (fun pc => Nat.beq pc 1778) 40 ⟨fun _ => ⟨fun _ => k, fun z => absurd rfl z⟩, fun z => absurd rfl z⟩
  exact ew_go (fun pc => Nat.beq pc 400 || Nat.beq pc 1778) 40 (xm_thrown ⟨fun _ => ⟨fun _ => k, fun e => ⟨ix_0, f (Classical.not_not.mp e)⟩⟩, fun z => absurd h5 z⟩)
theorem lt_exempt (h5 : s 16 0 0 = c) (hv : c = 0 → m.1 19 0 0 = ew_j (if v = 0 then 0 else 1)) (k : ew_W (ew_Call (d + 9)) 242 K (1778, [some (ew_o 17 0), some (ew_o 11 0), some (ew_o 16 0), some (ew_o 19 0), some (ew_i (ei (5 * n))), some (ew_i c), some (ew_i v), u7, u8], [], ew_hp s m)) : ew_W (ew_Call (d + 9)) 242 K (447, [some (ew_o 17 0), some (ew_o 11 0), some (ew_o 16 0), some (ew_o 19 0), some (ew_i (ei (5 * n))), some (ew_i c), u6, u7, u8], [ew_i v], ew_hp s m) := by
  have f : c = 0 → ew_W (ew_Call (d + 9)) 242 K (468, [some (ew_o 17 0), some (ew_o 11 0), some (ew_o 16 0), some (ew_o 19 0), some (ew_i (ei (5 * n))), some (ew_i c), some (ew_i v), u7, u8], [m.1 19 0 0], ew_hp s m) := fun e => by
    rw [hv e]
    by_cases w : v = 0
    · rw [if_pos w]
      exact ew_go (fun pc => Nat.beq pc 1778) 40 ⟨fun _ => ⟨fun _ => ⟨fun _ => k, fun z => absurd rfl z⟩, fun z => absurd rfl z⟩, fun z => absurd w z⟩
    · rw [if_neg w]
      exact ew_go (fun pc => Nat.beq pc 1778) 40 ⟨fun z => absurd z w, fun _ => ⟨fun _ => ⟨fun _ => k, fun z => absurd rfl z⟩, fun z => absurd rfl z⟩⟩
  exact ew_go (fun pc => Nat.beq pc 468 || Nat.beq pc 1778) 40 (xm_thrown ⟨fun _ => ⟨fun _ => k, fun e => ⟨ix_0, f (Classical.not_not.mp e)⟩⟩, fun z => absurd h5 z⟩)
theorem lt_breaker (h5 : s 16 0 0 = c) (hv : c = 0 → m.1 19 0 0 = ew_j v.toInt64) (k : ew_W (ew_Call (d + 9)) 242 K (1778, [some (ew_o 17 0), some (ew_o 11 0), some (ew_o 16 0), some (ew_o 19 0), some (ew_i (ei (5 * n))), some (ew_i c), some (ew_i v), u7, u8], [], ew_hp s m)) : ew_W (ew_Call (d + 9)) 242 K (522, [some (ew_o 17 0), some (ew_o 11 0), some (ew_o 16 0), some (ew_o 19 0), some (ew_i (ei (5 * n))), some (ew_i c), u6, u7, u8], [ew_i v], ew_hp s m) := by
  have f : c = 0 → ew_W (ew_Call (d + 9)) 242 K (543, [some (ew_o 17 0), some (ew_o 11 0), some (ew_o 16 0), some (ew_o 19 0), some (ew_i (ei (5 * n))), some (ew_i c), some (ew_i v), u7, u8], [m.1 19 0 0], ew_hp s m) := fun e => by
    rw [hv e]
    exact ew_go (fun pc => Nat.beq pc 1778) 40 ⟨fun _ => ⟨fun _ => k, fun z => absurd rfl z⟩, fun z => absurd rfl z⟩
  exact ew_go (fun pc => Nat.beq pc 543 || Nat.beq pc 1778) 40 (xm_thrown ⟨fun _ => ⟨fun _ => k, fun e => ⟨ix_0, f (Classical.not_not.mp e)⟩⟩, fun z => absurd h5 z⟩)
theorem lt_ship (h5 : s 16 0 0 = c) (hv : c = 0 → m.1 19 0 0 = ew_j v.toInt64) (k : ew_W (ew_Call (d + 9)) 242 K (1778, [some (ew_o 17 0), some (ew_o 11 0), some (ew_o 16 0), some (ew_o 19 0), some (ew_i (ei (5 * n))), some (ew_i c), some (ew_i v), u7, u8], [], ew_hp s m)) : ew_W (ew_Call (d + 9)) 242 K (614, [some (ew_o 17 0), some (ew_o 11 0), some (ew_o 16 0), some (ew_o 19 0), some (ew_i (ei (5 * n))), some (ew_i c), u6, u7, u8], [ew_i v], ew_hp s m) := by
  have f : c = 0 → ew_W (ew_Call (d + 9)) 242 K (635, [some (ew_o 17 0), some (ew_o 11 0), some (ew_o 16 0), some (ew_o 19 0), some (ew_i (ei (5 * n))), some (ew_i c), some (ew_i v), u7, u8], [m.1 19 0 0], ew_hp s m) := fun e => by
    rw [hv e]
    exact ew_go (fun pc => Nat.beq pc 1778) 40 ⟨fun _ => ⟨fun _ => k, fun z => absurd rfl z⟩, fun z => absurd rfl z⟩
  exact ew_go (fun pc => Nat.beq pc 635 || Nat.beq pc 1778) 40 (xm_thrown ⟨fun _ => ⟨fun _ => k, fun e => ⟨ix_0, f (Classical.not_not.mp e)⟩⟩, fun z => absurd h5 z⟩)
theorem lt_steer (h5 : s 16 0 0 = c) (hv : c = 0 → m.1 19 0 0 = ew_j v.toInt64) (k : ew_W (ew_Call (d + 9)) 242 K (1778, [some (ew_o 17 0), some (ew_o 11 0), some (ew_o 16 0), some (ew_o 19 0), some (ew_i (ei (5 * n))), some (ew_i c), some (ew_i v), u7, u8], [], ew_hp s m)) : ew_W (ew_Call (d + 9)) 242 K (682, [some (ew_o 17 0), some (ew_o 11 0), some (ew_o 16 0), some (ew_o 19 0), some (ew_i (ei (5 * n))), some (ew_i c), u6, u7, u8], [ew_i v], ew_hp s m) := by
  have f : c = 0 → ew_W (ew_Call (d + 9)) 242 K (703, [some (ew_o 17 0), some (ew_o 11 0), some (ew_o 16 0), some (ew_o 19 0), some (ew_i (ei (5 * n))), some (ew_i c), some (ew_i v), u7, u8], [m.1 19 0 0], ew_hp s m) := fun e => by
    rw [hv e]
    exact ew_go (fun pc => Nat.beq pc 1778) 40 ⟨fun _ => ⟨fun _ => k, fun z => absurd rfl z⟩, fun z => absurd rfl z⟩
  exact ew_go (fun pc => Nat.beq pc 703 || Nat.beq pc 1778) 40 (xm_thrown ⟨fun _ => ⟨fun _ => k, fun e => ⟨ix_0, f (Classical.not_not.mp e)⟩⟩, fun z => absurd h5 z⟩)
theorem lt_sail (h5 : s 16 0 0 = c) (hv : c = 0 → m.1 19 0 0 = ew_j v.toInt64) (k : ew_W (ew_Call (d + 9)) 242 K (1778, [some (ew_o 17 0), some (ew_o 11 0), some (ew_o 16 0), some (ew_o 19 0), some (ew_i (ei (5 * n))), some (ew_i c), some (ew_i v), u7, u8], [], ew_hp s m)) : ew_W (ew_Call (d + 9)) 242 K (750, [some (ew_o 17 0), some (ew_o 11 0), some (ew_o 16 0), some (ew_o 19 0), some (ew_i (ei (5 * n))), some (ew_i c), u6, u7, u8], [ew_i v], ew_hp s m) := by
  have f : c = 0 → ew_W (ew_Call (d + 9)) 242 K (771, [some (ew_o 17 0), some (ew_o 11 0), some (ew_o 16 0), some (ew_o 19 0), some (ew_i (ei (5 * n))), some (ew_i c), some (ew_i v), u7, u8], [m.1 19 0 0], ew_hp s m) := fun e => by
    rw [hv e]
    exact ew_go (fun pc => Nat.beq pc 1778) 40 ⟨fun _ => ⟨fun _ => k, fun z => absurd rfl z⟩, fun z => absurd rfl z⟩
  exact ew_go (fun pc => Nat.beq pc 771 || Nat.beq pc 1778) 40 (xm_thrown ⟨fun _ => ⟨fun _ => k, fun e => ⟨ix_0, f (Classical.not_not.mp e)⟩⟩, fun z => absurd h5 z⟩)
theorem lt_halt (h5 : s 16 0 0 = c) (hv : c = 0 → m.1 19 0 0 = ew_j v.toInt64) (k : ew_W (ew_Call (d + 9)) 242 K (1778, [some (ew_o 17 0), some (ew_o 11 0), some (ew_o 16 0), some (ew_o 19 0), some (ew_i (ei (5 * n))), some (ew_i c), some (ew_i v), u7, u8], [], ew_hp s m)) : ew_W (ew_Call (d + 9)) 242 K (806, [some (ew_o 17 0), some (ew_o 11 0), some (ew_o 16 0), some (ew_o 19 0), some (ew_i (ei (5 * n))), some (ew_i c), u6, u7, u8], [ew_i v], ew_hp s m) := by
  have f : c = 0 → ew_W (ew_Call (d + 9)) 242 K (827, [some (ew_o 17 0), some (ew_o 11 0), some (ew_o 16 0), some (ew_o 19 0), some (ew_i (ei (5 * n))), some (ew_i c), some (ew_i v), u7, u8], [m.1 19 0 0], ew_hp s m) := fun e => by
    rw [hv e]
    exact ew_go (fun pc => Nat.beq pc 1778) 40 ⟨fun _ => ⟨fun _ => k, fun z => absurd rfl z⟩, fun z => absurd rfl z⟩
  exact ew_go (fun pc => Nat.beq pc 827 || Nat.beq pc 1778) 40 (xm_thrown ⟨fun _ => ⟨fun _ => k, fun e => ⟨ix_0, f (Classical.not_not.mp e)⟩⟩, fun z => absurd h5 z⟩)
theorem lt_lead (h5 : s 16 0 0 = c) (hv : c = 0 → m.1 19 0 0 = ew_j v.toInt64) (k : ew_W (ew_Call (d + 9)) 242 K (1778, [some (ew_o 17 0), some (ew_o 11 0), some (ew_o 16 0), some (ew_o 19 0), some (ew_i (ei (5 * n))), some (ew_i c), some (ew_i v), u7, u8], [], ew_hp s m)) : ew_W (ew_Call (d + 9)) 242 K (874, [some (ew_o 17 0), some (ew_o 11 0), some (ew_o 16 0), some (ew_o 19 0), some (ew_i (ei (5 * n))), some (ew_i c), u6, u7, u8], [ew_i v], ew_hp s m) := by
  have f : c = 0 → ew_W (ew_Call (d + 9)) 242 K (895, [some (ew_o 17 0), some (ew_o 11 0), some (ew_o 16 0), some (ew_o 19 0), some (ew_i (ei (5 * n))), some (ew_i c), some (ew_i v), u7, u8], [m.1 19 0 0], ew_hp s m) := fun e => by
    rw [hv e]
    exact ew_go (fun pc => Nat.beq pc 1778) 40 ⟨fun _ => ⟨fun _ => k, fun z => absurd rfl z⟩, fun z => absurd rfl z⟩
  exact ew_go (fun pc => Nat.beq pc 895 || Nat.beq pc 1778) 40 (xm_thrown ⟨fun _ => ⟨fun _ => k, fun e => ⟨ix_0, f (Classical.not_not.mp e)⟩⟩, fun z => absurd h5 z⟩)
theorem lt_tow (h5 : s 16 0 0 = c) (hv : c = 0 → m.1 19 0 0 = ew_j v.toInt64) (k : ew_W (ew_Call (d + 9)) 242 K (1778, [some (ew_o 17 0), some (ew_o 11 0), some (ew_o 16 0), some (ew_o 19 0), some (ew_i (ei (5 * n))), some (ew_i c), some (ew_i v), u7, u8], [], ew_hp s m)) : ew_W (ew_Call (d + 9)) 242 K (942, [some (ew_o 17 0), some (ew_o 11 0), some (ew_o 16 0), some (ew_o 19 0), some (ew_i (ei (5 * n))), some (ew_i c), u6, u7, u8], [ew_i v], ew_hp s m) := by
  have f : c = 0 → ew_W (ew_Call (d + 9)) 242 K (963, [some (ew_o 17 0), some (ew_o 11 0), some (ew_o 16 0), some (ew_o 19 0), some (ew_i (ei (5 * n))), some (ew_i c), some (ew_i v), u7, u8], [m.1 19 0 0], ew_hp s m) := fun e => by
    rw [hv e]
    exact ew_go (fun pc => Nat.beq pc 1778) 40 ⟨fun _ => ⟨fun _ => k, fun z => absurd rfl z⟩, fun z => absurd rfl z⟩
  exact ew_go (fun pc => Nat.beq pc 963 || Nat.beq pc 1778) 40 (xm_thrown ⟨fun _ => ⟨fun _ => k, fun e => ⟨ix_0, f (Classical.not_not.mp e)⟩⟩, fun z => absurd h5 z⟩)
theorem lt_fuel (h5 : s 16 0 0 = c) (hv : c = 0 → m.1 19 0 0 = ew_j v.toInt64) (k : ew_W (ew_Call (d + 9)) 242 K (1778, [some (ew_o 17 0), some (ew_o 11 0), some (ew_o 16 0), some (ew_o 19 0), some (ew_i (ei (5 * n))), some (ew_i c), some (ew_i v), u7, u8], [], ew_hp s m)) : ew_W (ew_Call (d + 9)) 242 K (1010, [some (ew_o 17 0), some (ew_o 11 0), some (ew_o 16 0), some (ew_o 19 0), some (ew_i (ei (5 * n))), some (ew_i c), u6, u7, u8], [ew_i v], ew_hp s m) := by
  have f : c = 0 → ew_W (ew_Call (d + 9)) 242 K (1031, [some (ew_o 17 0), some (ew_o 11 0), some (ew_o 16 0), some (ew_o 19 0), some (ew_i (ei (5 * n))), some (ew_i c), some (ew_i v), u7, u8], [m.1 19 0 0], ew_hp s m) := fun e => by
    rw [hv e]
    exact ew_go (fun pc => Nat.beq pc 1778) 40 ⟨fun _ => ⟨fun _ => k, fun z => absurd rfl z⟩, fun z => absurd rfl z⟩
  exact ew_go (fun pc => Nat.beq pc 1031 || Nat.beq pc 1778) 40 (xm_thrown ⟨fun _ => ⟨fun _ => k, fun e => ⟨ix_0, f (Classical.not_not.mp e)⟩⟩, fun z => absurd h5 z⟩)
theorem lt_pass (h5 : s 16 0 0 = c) (hv : c = 0 → m.1 19 0 0 = ew_j v.toInt64) (k : ew_W (ew_Call (d + 9)) 242 K (1778, [some (ew_o 17 0), some (ew_o 11 0), some (ew_o 16 0), some (ew_o 19 0), some (ew_i (ei (5 * n))), some (ew_i c), some (ew_i v), u7, u8], [], ew_hp s m)) : ew_W (ew_Call (d + 9)) 242 K (1090, [some (ew_o 17 0), some (ew_o 11 0), some (ew_o 16 0), some (ew_o 19 0), some (ew_i (ei (5 * n))), some (ew_i c), u6, u7, u8], [ew_i v], ew_hp s m) := by
  have f : c = 0 → ew_W (ew_Call (d + 9)) 242 K (1111, [some (ew_o 17 0), some (ew_o 11 0), some (ew_o 16 0), some (ew_o 19 0), some (ew_i (ei (5 * n))), some (ew_i c), some (ew_i v), u7, u8], [m.1 19 0 0], ew_hp s m) := fun e => by
    rw [hv e]
    exact ew_go (fun pc => Nat.beq pc 1778) 40 ⟨fun _ => ⟨fun _ => k, fun z => absurd rfl z⟩, fun z => absurd rfl z⟩
  exact ew_go (fun pc => Nat.beq pc 1111 || Nat.beq pc 1778) 40 (xm_thrown ⟨fun _ => ⟨fun _ => k, fun e => ⟨ix_0, f (Classical.not_not.mp e)⟩⟩, fun z => absurd h5 z⟩)
theorem lt_ofCell (h5 : s 16 0 0 = c) (hv : c = 0 → m.1 19 0 0 = ew_j v.toInt64) (k : ew_W (ew_Call (d + 9)) 242 K (1778, [some (ew_o 17 0), some (ew_o 11 0), some (ew_o 16 0), some (ew_o 19 0), some (ew_i (ei (5 * n))), some (ew_i c), some (ew_i v), u7, u8], [], ew_hp s m)) : ew_W (ew_Call (d + 9)) 242 K (1158, [some (ew_o 17 0), some (ew_o 11 0), some (ew_o 16 0), some (ew_o 19 0), some (ew_i (ei (5 * n))), some (ew_i c), u6, u7, u8], [ew_i v], ew_hp s m) := by
  have f : c = 0 → ew_W (ew_Call (d + 9)) 242 K (1179, [some (ew_o 17 0), some (ew_o 11 0), some (ew_o 16 0), some (ew_o 19 0), some (ew_i (ei (5 * n))), some (ew_i c), some (ew_i v), u7, u8], [m.1 19 0 0], ew_hp s m) := fun e => by
    rw [hv e]
    exact ew_go (fun pc => Nat.beq pc 1778) 40 ⟨fun _ => ⟨fun _ => k, fun z => absurd rfl z⟩, fun z => absurd rfl z⟩
  exact ew_go (fun pc => Nat.beq pc 1179 || Nat.beq pc 1778) 40 (xm_thrown ⟨fun _ => ⟨fun _ => k, fun e => ⟨ix_0, f (Classical.not_not.mp e)⟩⟩, fun z => absurd h5 z⟩)
theorem lt_ofBreaker (h5 : s 16 0 0 = c) (hv : c = 0 → m.1 19 0 0 = ew_j v.toInt64) (k : ew_W (ew_Call (d + 9)) 242 K (1778, [some (ew_o 17 0), some (ew_o 11 0), some (ew_o 16 0), some (ew_o 19 0), some (ew_i (ei (5 * n))), some (ew_i c), some (ew_i v), u7, u8], [], ew_hp s m)) : ew_W (ew_Call (d + 9)) 242 K (1226, [some (ew_o 17 0), some (ew_o 11 0), some (ew_o 16 0), some (ew_o 19 0), some (ew_i (ei (5 * n))), some (ew_i c), u6, u7, u8], [ew_i v], ew_hp s m) := by
  have f : c = 0 → ew_W (ew_Call (d + 9)) 242 K (1247, [some (ew_o 17 0), some (ew_o 11 0), some (ew_o 16 0), some (ew_o 19 0), some (ew_i (ei (5 * n))), some (ew_i c), some (ew_i v), u7, u8], [m.1 19 0 0], ew_hp s m) := fun e => by
    rw [hv e]
    exact ew_go (fun pc => Nat.beq pc 1778) 40 ⟨fun _ => ⟨fun _ => k, fun z => absurd rfl z⟩, fun z => absurd rfl z⟩
  exact ew_go (fun pc => Nat.beq pc 1247 || Nat.beq pc 1778) 40 (xm_thrown ⟨fun _ => ⟨fun _ => k, fun e => ⟨ix_0, f (Classical.not_not.mp e)⟩⟩, fun z => absurd h5 z⟩)
theorem lt_ofShip (h5 : s 16 0 0 = c) (hv : c = 0 → m.1 19 0 0 = ew_j v.toInt64) (k : ew_W (ew_Call (d + 9)) 242 K (1778, [some (ew_o 17 0), some (ew_o 11 0), some (ew_o 16 0), some (ew_o 19 0), some (ew_i (ei (5 * n))), some (ew_i c), some (ew_i v), u7, u8], [], ew_hp s m)) : ew_W (ew_Call (d + 9)) 242 K (1294, [some (ew_o 17 0), some (ew_o 11 0), some (ew_o 16 0), some (ew_o 19 0), some (ew_i (ei (5 * n))), some (ew_i c), u6, u7, u8], [ew_i v], ew_hp s m) := by
  have f : c = 0 → ew_W (ew_Call (d + 9)) 242 K (1315, [some (ew_o 17 0), some (ew_o 11 0), some (ew_o 16 0), some (ew_o 19 0), some (ew_i (ei (5 * n))), some (ew_i c), some (ew_i v), u7, u8], [m.1 19 0 0], ew_hp s m) := fun e => by
    rw [hv e]
    exact ew_go (fun pc => Nat.beq pc 1778) 40 ⟨fun _ => ⟨fun _ => k, fun z => absurd rfl z⟩, fun z => absurd rfl z⟩
  exact ew_go (fun pc => Nat.beq pc 1315 || Nat.beq pc 1778) 40 (xm_thrown ⟨fun _ => ⟨fun _ => k, fun e => ⟨ix_0, f (Classical.not_not.mp e)⟩⟩, fun z => absurd h5 z⟩)
theorem lt_inForce (h5 : s 16 0 0 = c) (hv : c = 0 → m.1 19 0 0 = ew_j v.toInt64) (k : ew_W (ew_Call (d + 9)) 242 K (1778, [some (ew_o 17 0), some (ew_o 11 0), some (ew_o 16 0), some (ew_o 19 0), some (ew_i (ei (5 * n))), some (ew_i c), some (ew_i v), u7, u8], [], ew_hp s m)) : ew_W (ew_Call (d + 9)) 242 K (1362, [some (ew_o 17 0), some (ew_o 11 0), some (ew_o 16 0), some (ew_o 19 0), some (ew_i (ei (5 * n))), some (ew_i c), u6, u7, u8], [ew_i v], ew_hp s m) := by
  have f : c = 0 → ew_W (ew_Call (d + 9)) 242 K (1383, [some (ew_o 17 0), some (ew_o 11 0), some (ew_o 16 0), some (ew_o 19 0), some (ew_i (ei (5 * n))), some (ew_i c), some (ew_i v), u7, u8], [m.1 19 0 0], ew_hp s m) := fun e => by
    rw [hv e]
    exact ew_go (fun pc => Nat.beq pc 1778) 40 ⟨fun _ => ⟨fun _ => k, fun z => absurd rfl z⟩, fun z => absurd rfl z⟩
  exact ew_go (fun pc => Nat.beq pc 1383 || Nat.beq pc 1778) 40 (xm_thrown ⟨fun _ => ⟨fun _ => k, fun e => ⟨ix_0, f (Classical.not_not.mp e)⟩⟩, fun z => absurd h5 z⟩)
theorem lt_many (h5 : s 16 0 0 = c) (hv : c = 0 → m.1 19 0 0 = ew_j v.toInt64) (k : ew_W (ew_Call (d + 9)) 242 K (1778, [some (ew_o 17 0), some (ew_o 11 0), some (ew_o 16 0), some (ew_o 19 0), some (ew_i (ei (5 * n))), some (ew_i c), some (ew_i v), u7, u8], [], ew_hp s m)) : ew_W (ew_Call (d + 9)) 242 K (1418, [some (ew_o 17 0), some (ew_o 11 0), some (ew_o 16 0), some (ew_o 19 0), some (ew_i (ei (5 * n))), some (ew_i c), u6, u7, u8], [ew_i v], ew_hp s m) := by
  have f : c = 0 → ew_W (ew_Call (d + 9)) 242 K (1439, [some (ew_o 17 0), some (ew_o 11 0), some (ew_o 16 0), some (ew_o 19 0), some (ew_i (ei (5 * n))), some (ew_i c), some (ew_i v), u7, u8], [m.1 19 0 0], ew_hp s m) := fun e => by
    rw [hv e]
    exact ew_go (fun pc => Nat.beq pc 1778) 40 ⟨fun _ => ⟨fun _ => k, fun z => absurd rfl z⟩, fun z => absurd rfl z⟩
  exact ew_go (fun pc => Nat.beq pc 1439 || Nat.beq pc 1778) 40 (xm_thrown ⟨fun _ => ⟨fun _ => k, fun e => ⟨ix_0, f (Classical.not_not.mp e)⟩⟩, fun z => absurd h5 z⟩)
theorem lt_way (h5 : s 16 0 0 = c) (hv : c = 0 → m.1 19 0 0 = ew_j v.toInt64) (k : ew_W (ew_Call (d + 9)) 242 K (1778, [some (ew_o 17 0), some (ew_o 11 0), some (ew_o 16 0), some (ew_o 19 0), some (ew_i (ei (5 * n))), some (ew_i c), some (ew_i v), u7, u8], [], ew_hp s m)) : ew_W (ew_Call (d + 9)) 242 K (1527, [some (ew_o 17 0), some (ew_o 11 0), some (ew_o 16 0), some (ew_o 19 0), some (ew_i (ei (5 * n))), some (ew_i c), u6, u7, u8], [ew_i v], ew_hp s m) := by
  have f : c = 0 → ew_W (ew_Call (d + 9)) 242 K (1548, [some (ew_o 17 0), some (ew_o 11 0), some (ew_o 16 0), some (ew_o 19 0), some (ew_i (ei (5 * n))), some (ew_i c), some (ew_i v), u7, u8], [m.1 19 0 0], ew_hp s m) := fun e => by
    rw [hv e]
    exact ew_go (fun pc => Nat.beq pc 1778) 40 ⟨fun _ => ⟨fun _ => k, fun z => absurd rfl z⟩, fun z => absurd rfl z⟩
  exact ew_go (fun pc => Nat.beq pc 1548 || Nat.beq pc 1778) 40 (xm_thrown ⟨fun _ => ⟨fun _ => k, fun e => ⟨ix_0, f (Classical.not_not.mp e)⟩⟩, fun z => absurd h5 z⟩)
theorem lt_toBreak (h5 : s 16 0 0 = c) (hv : c = 0 → m.1 19 0 0 = ew_j v.toInt64) (k : ew_W (ew_Call (d + 9)) 242 K (1778, [some (ew_o 17 0), some (ew_o 11 0), some (ew_o 16 0), some (ew_o 19 0), some (ew_i (ei (5 * n))), some (ew_i c), some (ew_i v), u7, u8], [], ew_hp s m)) : ew_W (ew_Call (d + 9)) 242 K (1583, [some (ew_o 17 0), some (ew_o 11 0), some (ew_o 16 0), some (ew_o 19 0), some (ew_i (ei (5 * n))), some (ew_i c), u6, u7, u8], [ew_i v], ew_hp s m) := by
  have f : c = 0 → ew_W (ew_Call (d + 9)) 242 K (1604, [some (ew_o 17 0), some (ew_o 11 0), some (ew_o 16 0), some (ew_o 19 0), some (ew_i (ei (5 * n))), some (ew_i c), some (ew_i v), u7, u8], [m.1 19 0 0], ew_hp s m) := fun e => by
    rw [hv e]
    exact ew_go (fun pc => Nat.beq pc 1778) 40 ⟨fun _ => ⟨fun _ => k, fun z => absurd rfl z⟩, fun z => absurd rfl z⟩
  exact ew_go (fun pc => Nat.beq pc 1604 || Nat.beq pc 1778) 40 (xm_thrown ⟨fun _ => ⟨fun _ => k, fun e => ⟨ix_0, f (Classical.not_not.mp e)⟩⟩, fun z => absurd h5 z⟩)
theorem lt_helpNext (h5 : s 16 0 0 = c) (hv : c = 0 → m.1 19 0 0 = ew_j v.toInt64) (k : ew_W (ew_Call (d + 9)) 242 K (1778, [some (ew_o 17 0), some (ew_o 11 0), some (ew_o 16 0), some (ew_o 19 0), some (ew_i (ei (5 * n))), some (ew_i c), some (ew_i v), u7, u8], [], ew_hp s m)) : ew_W (ew_Call (d + 9)) 242 K (1639, [some (ew_o 17 0), some (ew_o 11 0), some (ew_o 16 0), some (ew_o 19 0), some (ew_i (ei (5 * n))), some (ew_i c), u6, u7, u8], [ew_i v], ew_hp s m) := by
  have f : c = 0 → ew_W (ew_Call (d + 9)) 242 K (1660, [some (ew_o 17 0), some (ew_o 11 0), some (ew_o 16 0), some (ew_o 19 0), some (ew_i (ei (5 * n))), some (ew_i c), some (ew_i v), u7, u8], [m.1 19 0 0], ew_hp s m) := fun e => by
    rw [hv e]
    exact ew_go (fun pc => Nat.beq pc 1778) 40 ⟨fun _ => ⟨fun _ => k, fun z => absurd rfl z⟩, fun z => absurd rfl z⟩
  exact ew_go (fun pc => Nat.beq pc 1660 || Nat.beq pc 1778) 40 (xm_thrown ⟨fun _ => ⟨fun _ => k, fun e => ⟨ix_0, f (Classical.not_not.mp e)⟩⟩, fun z => absurd h5 z⟩)
theorem lt_arriveIn (h5 : s 16 0 0 = c) (hv : c = 0 → m.1 19 0 0 = ew_j v.toInt64) (k : ew_W (ew_Call (d + 9)) 242 K (1778, [some (ew_o 17 0), some (ew_o 11 0), some (ew_o 16 0), some (ew_o 19 0), some (ew_i (ei (5 * n))), some (ew_i c), some (ew_i v), u7, u8], [], ew_hp s m)) : ew_W (ew_Call (d + 9)) 242 K (1731, [some (ew_o 17 0), some (ew_o 11 0), some (ew_o 16 0), some (ew_o 19 0), some (ew_i (ei (5 * n))), some (ew_i c), u6, u7, u8], [ew_i v], ew_hp s m) := by
  have f : c = 0 → ew_W (ew_Call (d + 9)) 242 K (1752, [some (ew_o 17 0), some (ew_o 11 0), some (ew_o 16 0), some (ew_o 19 0), some (ew_i (ei (5 * n))), some (ew_i c), some (ew_i v), u7, u8], [m.1 19 0 0], ew_hp s m) := fun e => by
    rw [hv e]
    exact ew_go (fun pc => Nat.beq pc 1778) 40 ⟨fun _ => ⟨fun _ => k, fun z => absurd rfl z⟩, fun z => absurd rfl z⟩
  exact ew_go (fun pc => Nat.beq pc 1752 || Nat.beq pc 1778) 40 (xm_thrown ⟨fun _ => ⟨fun _ => k, fun e => ⟨ix_0, f (Classical.not_not.mp e)⟩⟩, fun z => absurd h5 z⟩)
end
