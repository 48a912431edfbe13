/-! The law's isPassed: the ships behind the hour. -/
section
variable {d : Nat} {s s' : ew_S} {m : ew_H} {K : ew_R → ew_H → Prop} {np T W R i1 i2 i3 j : Nat} {x w A now mny g mo nw du c0 st w0 d0 w30 m0 : Int32} {u7 u10 u11 u12 u13 u14 : Option ew_V}
/-- the row of before of ship j -/
def RW (W R j : Nat) (m : ew_H) : Prop := m.1 244 W (ei j).toNatClampNeg = ew_o 721 R ∧ m.2.1 244 W = 5 ∧ m.2.1 721 R = 6
theorem RW.ix (r : RW W R j m) (hj : j < 5) : ew_ix (ei j) (m.2.1 244 W) := ei_ix (by rw [r.2.1]; exact hj) (by rw [r.2.1]; decide)
theorem RW.iy (r : RW W R j m) {p : Nat} (hp : p < 6) : ew_ix (ei p) (m.2.1 721 R) := ei_ix (by rw [r.2.2]; exact hp) (by rw [r.2.2]; decide)
theorem RW.at (r : RW W R j m) (s : ew_S) : (ew_hp s m).1 244 W (ei j).toNatClampNeg = ew_o 721 R := r.1
theorem xl_sh1 (I : Iv 0 2 5 np T s') (hj : j < 5) (r : RW W R j m) {g : Int32} (hg : (g = 1 ∧ ¬ s' 10 2 j = s' 721 0 R) ∨ (g = 0 ∧ s' 10 2 j = s' 721 0 R))
    (k : ew_W (ew_Call (d + 6)) 224 K (391, [some (ew_o 11 0), some (ew_i x), some (ew_i w), some (ew_o 244 W), some (ew_o 625 i1), some (ew_o 657 i2), some (ew_o 689 i3), some (ew_i A), some (ew_i now), some (ew_i mny), some (ew_i (ei j)), some (ew_i g), u12, u13, u14], [], ew_hp s' m)) : ew_W (ew_Call (d + 6)) 224 K (362, [some (ew_o 11 0), some (ew_i x), some (ew_i w), some (ew_o 244 W), some (ew_o 625 i1), some (ew_o 657 i2), some (ew_o 689 i3), some (ew_i A), some (ew_i now), some (ew_i mny), some (ew_i (ei j)), u11, u12, u13, u14], [], ew_hp s' m) := by
  have h5 : ¬ (5 : Int32) ≤ ei j := fun z => by
    have := (ei_le (a := 5) (by decide) (by omega)).mp z
    omega
  refine ew_go (fun pc => Nat.beq pc 379) 60 ⟨fun z => absurd z h5, fun _ => xq_sv I (Fr.rf _ _) hj (w := 0) (by decide) rfl rfl ⟨r.ix hj, ?_⟩⟩
  refine eq_s (w := ew_o 721 R) (r.at _) ?_
  rcases hg with ⟨rfl, e⟩ | ⟨rfl, e⟩
  · exact ew_go (fun pc => Nat.beq pc 391) 60 ⟨r.iy (p := 0) (by decide), ⟨fun z => absurd z e, fun _ => k⟩⟩
  · exact ew_go (fun pc => Nat.beq pc 391) 60 ⟨r.iy (p := 0) (by decide), ⟨fun _ => k, fun z => absurd e z⟩⟩
theorem xl_sh2 (I : Iv 0 2 5 np T s') (hj : j < 5) (r : RW W R j m) {mo : Int32} (hm : ef_sum (fun p => s' 177 p j) 5 - s' 721 2 R = mo)
    (k : ew_W (ew_Call (d + 6)) 224 K (406, [some (ew_o 11 0), some (ew_i x), some (ew_i w), some (ew_o 244 W), some (ew_o 625 i1), some (ew_o 657 i2), some (ew_o 689 i3), some (ew_i A), some (ew_i now), some (ew_i mny), some (ew_i (ei j)), some (ew_i g), some (ew_i mo), u13, u14], [], ew_hp s' m)) : ew_W (ew_Call (d + 6)) 224 K (391, [some (ew_o 11 0), some (ew_i x), some (ew_i w), some (ew_o 244 W), some (ew_o 625 i1), some (ew_o 657 i2), some (ew_o 689 i3), some (ew_i A), some (ew_i now), some (ew_i mny), some (ew_i (ei j)), some (ew_i g), u12, u13, u14], [], ew_hp s' m) := by
  subst hm
  refine ew_go (fun pc => Nat.beq pc 401) 60 (xv_waits I hj rfl ⟨r.ix hj, ?_⟩)
  refine eq_s (w := ew_o 721 R) (r.at _) ?_
  exact ew_go (fun pc => Nat.beq pc 406) 60 ⟨r.iy (p := 2) (by decide), k⟩
theorem xl_sh3 (I : Iv 0 2 5 np T s') (hj : j < 5) (r : RW W R j m) {nw : Int32} (hn : (nw = 1 ∧ s' 10 7 j = 3 ∧ ¬ 3 ≤ s' 721 1 R) ∨ (nw = 0 ∧ (¬ s' 10 7 j = 3 ∨ 3 ≤ s' 721 1 R)))
    (k : ew_W (ew_Call (d + 6)) 224 K (434, [some (ew_o 11 0), some (ew_i x), some (ew_i w), some (ew_o 244 W), some (ew_o 625 i1), some (ew_o 657 i2), some (ew_o 689 i3), some (ew_i A), some (ew_i now), some (ew_i mny), some (ew_i (ei j)), some (ew_i g), some (ew_i mo), some (ew_i nw), u14], [], ew_hp s' m)) : ew_W (ew_Call (d + 6)) 224 K (406, [some (ew_o 11 0), some (ew_i x), some (ew_i w), some (ew_o 244 W), some (ew_o 625 i1), some (ew_o 657 i2), some (ew_o 689 i3), some (ew_i A), some (ew_i now), some (ew_i mny), some (ew_i (ei j)), some (ew_i g), some (ew_i mo), u13, u14], [], ew_hp s' m) := by
  rcases hn with ⟨rfl, e1, e2⟩ | ⟨rfl, e⟩
  · refine ew_go (fun pc => Nat.beq pc 421) 60 (xq_sv I (Fr.rf _ _) hj (w := 4) (by decide) rfl rfl ⟨fun z => absurd e1 z, fun _ => ⟨r.ix hj, ?_⟩⟩)
    refine eq_s (w := ew_o 721 R) (r.at _) ?_
    exact ew_go (fun pc => Nat.beq pc 434) 60 ⟨r.iy (p := 1) (by decide), ⟨fun z => absurd z e2, fun _ => k⟩⟩
  · by_cases e1 : s' 10 7 j = 3
    · have e2 : 3 ≤ s' 721 1 R := e.resolve_left (fun z => z e1)
      refine ew_go (fun pc => Nat.beq pc 421) 60 (xq_sv I (Fr.rf _ _) hj (w := 4) (by decide) rfl rfl ⟨fun z => absurd e1 z, fun _ => ⟨r.ix hj, ?_⟩⟩)
      refine eq_s (w := ew_o 721 R) (r.at _) ?_
      exact ew_go (fun pc => Nat.beq pc 434) 60 ⟨r.iy (p := 1) (by decide), ⟨fun _ => k, fun z => absurd e2 z⟩⟩
    · exact ew_go (fun pc => Nat.beq pc 434) 60 (xq_sv I (Fr.rf _ _) hj (w := 4) (by decide) rfl rfl ⟨fun _ => k, fun z => absurd e1 (fun q => z q)⟩)
theorem xl_sh4 (hj : j < 5) (r : RW W R j m) (h : s' 721 1 R = 3 → g = 0 ∧ mo = 0) (k : ew_W (ew_Call (d + 6)) 224 K (456, [some (ew_o 11 0), some (ew_i x), some (ew_i w), some (ew_o 244 W), some (ew_o 625 i1), some (ew_o 657 i2), some (ew_o 689 i3), some (ew_i A), some (ew_i now), some (ew_i mny), some (ew_i (ei j)), some (ew_i g), some (ew_i mo), some (ew_i nw), u14], [], ew_hp s' m)) : ew_W (ew_Call (d + 6)) 224 K (434, [some (ew_o 11 0), some (ew_i x), some (ew_i w), some (ew_o 244 W), some (ew_o 625 i1), some (ew_o 657 i2), some (ew_o 689 i3), some (ew_i A), some (ew_i now), some (ew_i mny), some (ew_i (ei j)), some (ew_i g), some (ew_i mo), some (ew_i nw), u14], [], ew_hp s' m) := by
  refine ew_go (fun pc => Nat.beq pc 438) 60 ⟨r.ix hj, ?_⟩
  refine eq_s (w := ew_o 721 R) (r.at _) ?_
  have h1 : ¬ ¬ s' 721 1 R = 3 → ¬ ¬ g = 0 := fun z q => q (h (Classical.not_not.mp z)).1
  have h2 : ¬ ¬ s' 721 1 R = 3 → mo = 0 := fun z => (h (Classical.not_not.mp z)).2
  exact ew_go (fun pc => Nat.beq pc 456) 60 ⟨r.iy (p := 1) (by decide), ⟨fun _ => k, fun z => ⟨fun q => absurd q (h1 z), fun _ => ⟨fun _ => k, fun q => absurd (h2 z) q⟩⟩⟩⟩
theorem xl_sh5 (I : Iv 0 2 5 np T s') (hj : j < 5) (r : RW W R j m) (h : ¬ g = 0 → ef_far (s' 10 2 j) (s' 721 0 R) = 1) (k : ew_W (ew_Call (d + 6)) 224 K (482, [some (ew_o 11 0), some (ew_i x), some (ew_i w), some (ew_o 244 W), some (ew_o 625 i1), some (ew_o 657 i2), some (ew_o 689 i3), some (ew_i A), some (ew_i now), some (ew_i mny), some (ew_i (ei j)), some (ew_i g), some (ew_i mo), some (ew_i nw), u14], [], ew_hp s' m)) : ew_W (ew_Call (d + 6)) 224 K (456, [some (ew_o 11 0), some (ew_i x), some (ew_i w), some (ew_o 244 W), some (ew_o 625 i1), some (ew_o 657 i2), some (ew_o 689 i3), some (ew_i A), some (ew_i now), some (ew_i mny), some (ew_i (ei j)), some (ew_i g), some (ew_i mo), some (ew_i nw), u14], [], ew_hp s' m) := by
  by_cases h0 : g = 0
  · exact ew_go (fun pc => Nat.beq pc 482) 60 ⟨fun _ => k, fun z => absurd h0 z⟩
  have n1 : ¬ (1 : Int32) = 0 := by decide
  refine ew_go (fun pc => Nat.beq pc 472) 60 ⟨fun z => absurd z h0, fun _ => xq_sv I (Fr.rf _ _) hj (w := 0) (by decide) rfl rfl ⟨r.ix hj, ?_⟩⟩
  refine eq_s (w := ew_o 721 R) (r.at _) ?_
  exact ew_go (fun pc => Nat.beq pc 482) 60 ⟨r.iy (p := 0) (by decide), xv_besideT (h h0) ⟨fun _ => k, fun z => absurd n1 z⟩⟩
theorem xl_sh6 (I : Iv 0 2 5 np T s') (hj : j < 5) (r : RW W R j m) (h : ¬ 3 ≤ s' 721 1 R → nw = 0 → (mo = 1 ∧ (g = 0 ∨ s' 177 3 j = s' 721 4 R + 1)) ∨ (mo = 0 ∧ ¬ g = 0)) (k : ew_W (ew_Call (d + 6)) 224 K (546, [some (ew_o 11 0), some (ew_i x), some (ew_i w), some (ew_o 244 W), some (ew_o 625 i1), some (ew_o 657 i2), some (ew_o 689 i3), some (ew_i A), some (ew_i now), some (ew_i mny), some (ew_i (ei j)), some (ew_i g), some (ew_i mo), some (ew_i nw), u14], [], ew_hp s' m)) : ew_W (ew_Call (d + 6)) 224 K (482, [some (ew_o 11 0), some (ew_i x), some (ew_i w), some (ew_o 244 W), some (ew_o 625 i1), some (ew_o 657 i2), some (ew_o 689 i3), some (ew_i A), some (ew_i now), some (ew_i mny), some (ew_i (ei j)), some (ew_i g), some (ew_i mo), some (ew_i nw), u14], [], ew_hp s' m) := by
  refine ew_go (fun pc => Nat.beq pc 486) 60 ⟨r.ix hj, ?_⟩
  refine eq_s (w := ew_o 721 R) (r.at _) ?_
  by_cases h3 : 3 ≤ s' 721 1 R
  · exact ew_go (fun pc => Nat.beq pc 546) 60 ⟨r.iy (p := 1) (by decide), ⟨fun _ => k, fun z => absurd h3 z⟩⟩
  by_cases hn : nw = 0
  · have hn' : ¬ ¬ nw = 0 := fun z => z hn
    rcases h h3 hn with ⟨rfl, hg⟩ | ⟨rfl, hg⟩
    · have e11 : (1 : Int32) = 1 := rfl
      have n11 : ¬ ¬ (1 : Int32) = 1 := fun z => z rfl
      have l11 : (1 : Int32) ≤ 1 := by decide
      by_cases hg0 : g = 0
      · exact ew_go (fun pc => Nat.beq pc 546) 60 ⟨r.iy (p := 1) (by decide), ⟨fun z => absurd z h3, fun _ => ⟨fun z => absurd z hn', fun _ => ⟨fun _ => ⟨fun z => absurd z n11, fun _ => ⟨fun _ => ⟨fun _ => k, fun z => absurd l11 z⟩, fun z => absurd hg0 z⟩⟩, fun z => absurd e11 z⟩⟩⟩⟩
      · have h4 : ¬ ¬ s' 177 3 j = s' 721 4 R + 1 := fun z => z (hg.resolve_left hg0)
        refine ew_go (fun pc => Nat.beq pc 531) 60 ⟨r.iy (p := 1) (by decide), ⟨fun z => absurd z h3, fun _ => ⟨fun z => absurd z hn', fun _ => ⟨fun _ => ⟨fun z => absurd z n11, fun _ => ⟨fun z => absurd z hg0, fun _ => xq_sv I (Fr.rf _ _) hj (w := 13) (by decide) rfl rfl ⟨r.ix hj, ?_⟩⟩⟩, fun z => absurd e11 z⟩⟩⟩⟩
        refine eq_s (w := ew_o 721 R) (r.at _) ?_
        exact ew_go (fun pc => Nat.beq pc 546) 60 ⟨r.iy (p := 4) (by decide), ⟨fun z => absurd z h4, fun _ => ⟨fun _ => k, fun z => absurd l11 z⟩⟩⟩
    · have n01 : ¬ (0 : Int32) = 1 := by decide
      have l01 : (0 : Int32) ≤ 1 := by decide
      exact ew_go (fun pc => Nat.beq pc 546) 60 ⟨r.iy (p := 1) (by decide), ⟨fun z => absurd z h3, fun _ => ⟨fun z => absurd z hn', fun _ => ⟨fun z => absurd z n01, fun _ => ⟨fun z => absurd z hg, fun _ => ⟨fun _ => ⟨fun _ => k, fun z => absurd l01 z⟩, fun z => absurd n01 z⟩⟩⟩⟩⟩⟩
  · exact ew_go (fun pc => Nat.beq pc 546) 60 ⟨r.iy (p := 1) (by decide), ⟨fun z => absurd z h3, fun _ => ⟨fun _ => k, fun z => absurd hn (fun q => z q)⟩⟩⟩
theorem xl_sh7 (I : Iv 0 2 5 np T s') (hj : j < 5) (h : ¬ nw = 0 → mo = 0 ∧ s' 10 11 j = now + 1 ∧ s' 10 8 j = -1 ∧ s' 40 1 j = 0) (k : ew_W (ew_Call (d + 6)) 224 K (595, [some (ew_o 11 0), some (ew_i x), some (ew_i w), some (ew_o 244 W), some (ew_o 625 i1), some (ew_o 657 i2), some (ew_o 689 i3), some (ew_i A), some (ew_i now), some (ew_i mny), some (ew_i (ei j)), some (ew_i g), some (ew_i mo), some (ew_i nw), u14], [], ew_hp s' m)) : ew_W (ew_Call (d + 6)) 224 K (546, [some (ew_o 11 0), some (ew_i x), some (ew_i w), some (ew_o 244 W), some (ew_o 625 i1), some (ew_o 657 i2), some (ew_o 689 i3), some (ew_i A), some (ew_i now), some (ew_i mny), some (ew_i (ei j)), some (ew_i g), some (ew_i mo), some (ew_i nw), u14], [], ew_hp s' m) := by
  by_cases hn : nw = 0
  · exact ew_go (fun pc => Nat.beq pc 595) 60 ⟨fun _ => k, fun z => absurd hn z⟩
  obtain ⟨h1, h2, h3, h4⟩ := h hn
  have h1' : ¬ ¬ mo = 0 := fun z => z h1
  have h2' : ¬ ¬ s' 10 11 j = now + 1 := fun z => z h2
  have h3' : ¬ ¬ s' 10 8 j = -1 := fun z => z h3
  exact ew_go (fun pc => Nat.beq pc 595) 60 ⟨fun z => absurd z hn, fun _ => ⟨fun z => absurd z h1', fun _ => xq_sv I (Fr.rf _ _) hj (w := 9) (by decide) rfl rfl ⟨fun z => absurd z h2', fun _ => xq_sv I (Fr.rf _ _) hj (w := 5) (by decide) rfl rfl ⟨fun z => absurd z h3', fun _ => xq_sv I (Fr.rf _ _) hj (w := 6) (by decide) rfl rfl ⟨fun _ => k, fun z => absurd h4 z⟩⟩⟩⟩⟩
theorem xl_sh8 (I : Iv 0 2 5 np T s') (hj : j < 5) (r : RW W R j m) {du : Int32} (hd : s' 10 10 j - s' 721 3 R = du) (h : ¬ du = 0 → ¬ g = 0 ∧ ((s' 721 1 R = 1 ∧ du = 4) ∨ (¬ s' 721 1 R = 1 ∧ ¬ s' 721 1 R = 0 ∧ du = 9))) (k : ew_W (ew_Call (d + 6)) 224 K (652, [some (ew_o 11 0), some (ew_i x), some (ew_i w), some (ew_o 244 W), some (ew_o 625 i1), some (ew_o 657 i2), some (ew_o 689 i3), some (ew_i A), some (ew_i now), some (ew_i mny), some (ew_i (ei j)), some (ew_i g), some (ew_i mo), some (ew_i nw), some (ew_i du)], [], ew_hp s' m)) : ew_W (ew_Call (d + 6)) 224 K (595, [some (ew_o 11 0), some (ew_i x), some (ew_i w), some (ew_o 244 W), some (ew_o 625 i1), some (ew_o 657 i2), some (ew_o 689 i3), some (ew_i A), some (ew_i now), some (ew_i mny), some (ew_i (ei j)), some (ew_i g), some (ew_i mo), some (ew_i nw), u14], [], ew_hp s' m) := by
  subst hd
  refine ew_go (fun pc => Nat.beq pc 607) 60 (xq_sv I (Fr.rf _ _) hj (w := 8) (by decide) rfl rfl ⟨r.ix hj, ?_⟩)
  refine eq_s (w := ew_o 721 R) (r.at _) ?_
  by_cases h0 : s' 10 10 j - s' 721 3 R = 0
  · exact ew_go (fun pc => Nat.beq pc 652) 60 ⟨r.iy (p := 3) (by decide), ⟨fun _ => k, fun z => absurd h0 z⟩⟩
  obtain ⟨hg, hs⟩ := h h0
  refine ew_go (fun pc => Nat.beq pc 628) 60 ⟨r.iy (p := 3) (by decide), ⟨fun z => absurd z h0, fun _ => ⟨fun z => absurd z hg, fun _ => ⟨r.ix hj, ?_⟩⟩⟩⟩
  refine eq_s (w := ew_o 721 R) (r.at _) ?_
  rcases hs with ⟨e1, e4⟩ | ⟨e1, e0, e9⟩
  · have e4' : ¬ ¬ s' 10 10 j - s' 721 3 R = 4 := fun z => z e4
    refine ew_go (fun pc => Nat.beq pc 647) 60 ⟨r.iy (p := 1) (by decide), ⟨fun z => absurd e1 z, fun _ => ⟨fun z => absurd z e4', fun _ => ⟨r.ix hj, ?_⟩⟩⟩⟩
    refine eq_s (w := ew_o 721 R) (r.at _) ?_
    have e0 : ¬ s' 721 1 R = 0 := by rw [e1]; decide
    exact ew_go (fun pc => Nat.beq pc 652) 60 ⟨r.iy (p := 1) (by decide), ⟨fun z => absurd z e0, fun _ => k⟩⟩
  · have e9' : ¬ ¬ s' 10 10 j - s' 721 3 R = 9 := fun z => z e9
    refine ew_go (fun pc => Nat.beq pc 647) 60 ⟨r.iy (p := 1) (by decide), ⟨fun _ => ⟨fun z => absurd z e9', fun _ => ⟨r.ix hj, ?_⟩⟩, fun z => absurd e1 (fun q => z q)⟩⟩
    refine eq_s (w := ew_o 721 R) (r.at _) ?_
    exact ew_go (fun pc => Nat.beq pc 652) 60 ⟨r.iy (p := 1) (by decide), ⟨fun z => absurd z e0, fun _ => k⟩⟩
theorem xl_sh9 (I : Iv 0 2 5 np T s') (hj : j < 5) (r : RW W R j m) (h1 : ¬ mo < s' 10 9 j - s' 721 5 R) (h2 : s' 721 5 R ≤ s' 10 9 j) (k : ew_W (ew_Call (d + 6)) 224 K (362, [some (ew_o 11 0), some (ew_i x), some (ew_i w), some (ew_o 244 W), some (ew_o 625 i1), some (ew_o 657 i2), some (ew_o 689 i3), some (ew_i A), some (ew_i now), some (ew_i mny), some (ew_i (ei j + 1)), some (ew_i g), some (ew_i mo), some (ew_i nw), some (ew_i du)], [], ew_hp s' m)) : ew_W (ew_Call (d + 6)) 224 K (652, [some (ew_o 11 0), some (ew_i x), some (ew_i w), some (ew_o 244 W), some (ew_o 625 i1), some (ew_o 657 i2), some (ew_o 689 i3), some (ew_i A), some (ew_i now), some (ew_i mny), some (ew_i (ei j)), some (ew_i g), some (ew_i mo), some (ew_i nw), some (ew_i du)], [], ew_hp s' m) := by
  refine ew_go (fun pc => Nat.beq pc 664) 60 (xq_sv I (Fr.rf _ _) hj (w := 7) (by decide) rfl rfl ⟨r.ix hj, ?_⟩)
  refine eq_s (w := ew_o 721 R) (r.at _) ?_
  refine ew_go (fun pc => Nat.beq pc 684) 60 ⟨r.iy (p := 5) (by decide), ⟨fun z => absurd z h1, fun _ => xq_sv I (Fr.rf _ _) hj (w := 7) (by decide) rfl rfl ⟨r.ix hj, ?_⟩⟩⟩
  refine eq_s (w := ew_o 721 R) (r.at _) ?_
  exact ew_go (fun pc => Nat.beq pc 362) 60 ⟨r.iy (p := 5) (by decide), ⟨fun _ => k, fun z => absurd h2 z⟩⟩
end
