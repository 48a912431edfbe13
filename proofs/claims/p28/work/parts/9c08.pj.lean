/-! The law's isPassed: what an hour does to a ship passes. -/
section
variable {d : Nat} {s s' : ew_S} {m : ew_H} {K : ew_R → ew_H → Prop} {nb np T W R i1 i2 i3 j : Nat} {x w A now mny a : Int32} {u11 u12 u13 u14 : Option ew_V}
/-- all segments, one behind the other -/
theorem xl_sh (I : Iv 0 2 5 np T s') (hj : j < 5) (r : RW W R j m) {g mo nw du : Int32} (h1 : (g = 1 ∧ ¬ s' 10 2 j = s' 721 0 R) ∨ (g = 0 ∧ s' 10 2 j = s' 721 0 R)) (h2 : ef_sum (fun p => s' 177 p j) 5 - s' 721 2 R = mo) (h3 : (nw = 1 ∧ s' 10 7 j = 3 ∧ ¬ 3 ≤ s' 721 1 R) ∨ (nw = 0 ∧ (¬ s' 10 7 j = 3 ∨ 3 ≤ s' 721 1 R)))
    (h4 : s' 721 1 R = 3 → g = 0 ∧ mo = 0) (h5 : ¬ g = 0 → ef_far (s' 10 2 j) (s' 721 0 R) = 1) (h6 : ¬ 3 ≤ s' 721 1 R → nw = 0 → (mo = 1 ∧ (g = 0 ∨ s' 177 3 j = s' 721 4 R + 1)) ∨ (mo = 0 ∧ ¬ g = 0)) (h7 : ¬ nw = 0 → mo = 0 ∧ s' 10 11 j = now + 1 ∧ s' 10 8 j = -1 ∧ s' 40 1 j = 0)
    (h8 : s' 10 10 j - s' 721 3 R = du) (h8' : ¬ du = 0 → ¬ g = 0 ∧ ((s' 721 1 R = 1 ∧ du = 4) ∨ (¬ s' 721 1 R = 1 ∧ ¬ s' 721 1 R = 0 ∧ du = 9))) (h9 : ¬ mo < s' 10 9 j - s' 721 5 R) (h9' : s' 721 5 R ≤ s' 10 9 j)
    (k : ew_W (ew_Call (d + 6)) 224 K (362, [some (ew_o 11 0), some (ew_i x), some (ew_i w), some (ew_o 244 W), some (ew_o 625 i1), some (ew_o 657 i2), some (ew_o 689 i3), some (ew_i A), some (ew_i now), some (ew_i mny), some (ew_i (ei j + 1)), some (ew_i g), some (ew_i mo), some (ew_i nw), some (ew_i du)], [], ew_hp s' m)) :
    ew_W (ew_Call (d + 6)) 224 K (362, [some (ew_o 11 0), some (ew_i x), some (ew_i w), some (ew_o 244 W), some (ew_o 625 i1), some (ew_o 657 i2), some (ew_o 689 i3), some (ew_i A), some (ew_i now), some (ew_i mny), some (ew_i (ei j)), u11, u12, u13, u14], [], ew_hp s' m) :=
  xl_sh1 I hj r h1 (xl_sh2 I hj r h2 (xl_sh3 I hj r h3 (xl_sh4 hj r h4 (xl_sh5 I hj r h5 (xl_sh6 I hj r h6 (xl_sh7 I hj h7 (xl_sh8 I hj r h8 h8' (xl_sh9 I hj r h9 h9' k))))))))
theorem ei_st (I : iv_s nb np (ea s j)) : (¬ s 10 7 j = 3 → ¬ 3 ≤ s 10 7 j) := fun n3 => by
  obtain ⟨-, -, -, -, k⟩ := I
  rcases k with ⟨k, -⟩ | ⟨k, -⟩ | ⟨k | k, -⟩
  · rw [show s 10 7 j = 0 from k]; decide
  · exact absurd k n3
  · rw [show s 10 7 j = 1 from k]; decide
  · rw [show s 10 7 j = 2 from k]; decide
theorem xl_j1 (I : Iv 0 2 5 np T s') (hj : j < 5) (r : RW W R j m) (v : PV s s' R j) (hs : iv_s nb np (ea s j)) (hd : ∃ n, n ≤ 1000000000 ∧ s 10 9 j = ei n) (o : hj_out s s' a j) (hn : s' 9 5 0 = now + 1)
    (k : ∀ g mo nw du, ew_W (ew_Call (d + 6)) 224 K (362, [some (ew_o 11 0), some (ew_i x), some (ew_i w), some (ew_o 244 W), some (ew_o 625 i1), some (ew_o 657 i2), some (ew_o 689 i3), some (ew_i A), some (ew_i now), some (ew_i mny), some (ew_i (ei j + 1)), some (ew_i g), some (ew_i mo), some (ew_i nw), some (ew_i du)], [], ew_hp s' m)) :
    ew_W (ew_Call (d + 6)) 224 K (362, [some (ew_o 11 0), some (ew_i x), some (ew_i w), some (ew_o 244 W), some (ew_o 625 i1), some (ew_o 657 i2), some (ew_o 689 i3), some (ew_i A), some (ew_i now), some (ew_i mny), some (ew_i (ei j)), u11, u12, u13, u14], [], ew_hp s' m) := by
  obtain ⟨v0, v1, v2, v3, v4, v5⟩ := v
  obtain ⟨-, o⟩ := o
  have n10 : ¬ (1 : Int32) = 0 := by decide
  have z0 : ∀ z : Int32, z - z = 0 := fun z => Int32.sub_self z
  rcases o with ⟨a1, -, a3, a4, a5, a6, -, a8⟩ | ⟨a1, g, mv, en⟩
  · refine xl_sh (g := 0) (mo := 0) (nw := 0) (du := 0) I hj r (Or.inr ⟨rfl, by rw [v0]; exact a4⟩) ?_ (Or.inr ⟨rfl, Or.inr (by rw [v1, a1]; decide)⟩) (fun _ => ⟨rfl, rfl⟩) (fun z => absurd rfl z) (fun z => absurd (show 3 ≤ s' 721 1 R by rw [v1, a1]; decide) z) (fun z => absurd rfl z) (by rw [v3, a5]; exact z0 _) (fun z => absurd rfl z) (by rw [v5, a6, z0]; decide) (by rw [v5, a6]; exact Int32.le_refl _) (k 0 0 0 0)
    rw [v2, ef_sum_cg (fun p => s' 177 p j) (fun p => s 177 p j) 5 (fun p _ => a8 p), z0]
  · have st3 := ei_st hs a1
    have n3 : ¬ s' 721 1 R = 3 := by rw [v1]; exact a1
    have st3' : ¬ 3 ≤ s' 721 1 R := by rw [v1]; exact st3
    -- whether it went
    have hg : ∃ G du : Int32, ((G = 1 ∧ ¬ s' 10 2 j = s' 721 0 R) ∨ (G = 0 ∧ s' 10 2 j = s' 721 0 R)) ∧ (¬ G = 0 → ef_far (s' 10 2 j) (s' 721 0 R) = 1) ∧ (g = true → ¬ G = 0) ∧ (g = false → G = 0) ∧ s' 10 10 j - s' 721 3 R = du ∧ (¬ du = 0 → ¬ G = 0 ∧ ((s' 721 1 R = 1 ∧ du = 4) ∨ (¬ s' 721 1 R = 1 ∧ ¬ s' 721 1 R = 0 ∧ du = 9))) := by
      rw [v0, v1, v3]
      rcases mv with ⟨rfl, e1, e2⟩ | ⟨rfl, ⟨c, y, hc, hy, e1, e2, e3⟩, e4⟩
      · exact ⟨0, 0, Or.inr ⟨rfl, e1⟩, fun z => absurd rfl z, fun z => (by cases z), fun _ => rfl, by rw [e2]; exact z0 _, fun z => absurd rfl z⟩
      · obtain ⟨f1, f2⟩ := ef_far_0 c hc y hy e3
        have pl : ∀ p q : Int32, p + q - p = q := fun p q => by rw [Int32.add_comm, Int32.add_sub_cancel]
        rcases e4 with e4 | ⟨e5, e4⟩ | ⟨e5, e4⟩
        · exact ⟨1, 0, Or.inl ⟨rfl, by rw [e1, e2]; exact f1⟩, fun _ => by rw [e1, e2]; exact f2, fun _ => n10, fun z => (by cases z), by rw [e4]; exact z0 _, fun z => absurd rfl z⟩
        · exact ⟨1, 4, Or.inl ⟨rfl, by rw [e1, e2]; exact f1⟩, fun _ => by rw [e1, e2]; exact f2, fun _ => n10, fun z => (by cases z), by rw [e4]; exact pl _ _, fun _ => ⟨n10, Or.inl ⟨e5, rfl⟩⟩⟩
        · exact ⟨1, 9, Or.inl ⟨rfl, by rw [e1, e2]; exact f1⟩, fun _ => by rw [e1, e2]; exact f2, fun _ => n10, fun z => (by cases z), by rw [e4]; exact pl _ _, fun _ => ⟨n10, Or.inr ⟨by rw [e5]; decide, by rw [e5]; decide, rfl⟩⟩⟩
    obtain ⟨G, du, g1, g2, g3, g4, g5, g6⟩ := hg
    have same : (∀ p, s' 177 p j = s 177 p j) → ef_sum (fun p => s' 177 p j) 5 - s' 721 2 R = 0 := fun e => by
      rw [v2, ef_sum_cg (fun p => s' 177 p j) (fun p => s 177 p j) 5 (fun p _ => e p), z0]
    rcases en with ⟨-, b2, b3, b4, b5, b6, b7, -⟩ | ⟨-, b2, b3, b4⟩
    · exact xl_sh (g := G) (mo := 0) (nw := 1) (du := du) I hj r g1 (same b6) (Or.inl ⟨rfl, b2, st3'⟩) (fun z => absurd z n3) g2 (fun _ z => absurd z n10) (fun _ => ⟨rfl, b5.trans hn, b3, b4⟩) g5 g6 (by rw [v5, b7, z0]; decide) (by rw [v5, b7]; exact Int32.le_refl _) (k G 0 1 du)
    · rcases b4 with ⟨c1, c2, c3⟩ | ⟨q, q1, q2, q3, q4, q5⟩
      · exact xl_sh (g := G) (mo := 0) (nw := 0) (du := du) I hj r g1 (same c2) (Or.inr ⟨rfl, Or.inl b2⟩) (fun z => absurd z n3) g2 (fun _ _ => Or.inr ⟨rfl, g3 c1⟩) (fun z => absurd rfl z) g5 g6 (by rw [v5, c3, z0]; decide) (by rw [v5, c3]; exact Int32.le_refl _) (k G 0 0 du)
      · have hm : ef_sum (fun p => s' 177 p j) 5 - s' 721 2 R = 1 := by
          have e : ef_sum (fun p => s' 177 p j) 5 = ef_sum (fun p => s 177 p j) 5 + 1 := by
            have := ef_sum_up (fun p => s 177 p j) q 1 5
            rw [if_pos q1] at this
            rw [← this]
            refine ef_sum_cg _ _ 5 (fun p _ => ?_)
            show s' 177 p j = if p = q then s 177 p j + 1 else s 177 p j
            by_cases e : p = q
            · subst e; rw [if_pos rfl]; exact q3
            · rw [if_neg e]; exact q4 p e
          rw [e, v2, Int32.add_comm, Int32.add_sub_cancel]
        obtain ⟨n, hn1, en1⟩ := hd
        have d1 : ¬ (1 : Int32) < s' 10 9 j - s' 721 5 R := by
          rw [v5]
          rcases q5 with q5 | q5
          · rw [q5, z0]; decide
          · rw [q5, Int32.add_comm, Int32.add_sub_cancel]; decide
        have d2 : s' 721 5 R ≤ s' 10 9 j := by
          rw [v5]
          rcases q5 with q5 | q5
          · rw [q5]; exact Int32.le_refl _
          · rw [q5, en1, ei_1]; exact (ei_le (by omega) (by omega)).mpr (by omega)
        refine xl_sh (g := G) (mo := 1) (nw := 0) (du := du) I hj r g1 hm (Or.inr ⟨rfl, Or.inl b2⟩) (fun z => absurd z n3) g2 (fun _ _ => Or.inl ⟨rfl, ?_⟩) (fun z => absurd rfl z) g5 g6 d1 d2 (k G 1 0 du)
        cases g with
        | false => exact Or.inl (g4 rfl)
        | true =>
          have := q2 rfl
          subst this
          exact Or.inr (by rw [v4]; exact q3)
end
