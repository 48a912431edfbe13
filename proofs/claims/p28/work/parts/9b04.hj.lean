/-! What an hour does to a ship. -/
/-- ship j went: from where to where, its dues -/
def hj_gone (s s' : ew_S) (j : Nat) : Prop := (∃ c x, c < 15 ∧ x < 15 ∧ s 10 2 j = ei c ∧ s' 10 2 j = ei x ∧ ef_far (ei c) (ei x) = 1) ∧ (s' 10 10 j = s 10 10 j ∨ (s 10 7 j = 1 ∧ s' 10 10 j = s 10 10 j + 4) ∨ (s 10 7 j = 2 ∧ s' 10 10 j = s 10 10 j + 9))
/-- what going leaves as it was -/
def hj_kept (s s' : ew_S) (j : Nat) : Prop := (∀ w, s' 177 w j = s 177 w j) ∧ s' 10 9 j = s 10 9 j ∧ s' 10 11 j = s 10 11 j ∧ s' 10 6 j = s 10 6 j
def hj_go (s s' : ew_S) (r : Int32) (j : Nat) : Prop := hj_kept s s' j ∧ ¬ s' 10 7 j = 3 ∧ ((r = -1 ∧ hj_gone s s' j) ∨ ((∃ k, k < 5 ∧ r = ei k) ∧ s' 10 2 j = s 10 2 j ∧ s' 10 10 j = s 10 10 j))
/-- a breaker that went in this hour went from beside -/
def hj_left (s : ew_S) (b : Nat) : Prop := s 3 4 b = -1 ∨ ∃ c x, c < 15 ∧ x < 15 ∧ s 3 4 b = ei c ∧ s 3 1 b = ei x ∧ ef_far (ei c) (ei x) = 1
theorem ef_hind_k (b w p r : Int32) (h : ¬ ef_hind b w p r = -1) : ∃ k, k < 5 ∧ ef_hind b w p r = ei k := (ef_hind_r b w p r).resolve_left h
section
variable {nb ns np T : Nat} {s : ew_S}
theorem hj_gf {j : Nat} (hs : iv_s nb np (ea s j)) (n3 : ¬ s 10 7 j = 3) : hj_kept s (sp_gf 0 j s).2 j ∧ (sp_gf 0 j s).2 10 7 j = s 10 7 j ∧ (sp_gf 0 j s).2 10 10 j = s 10 10 j ∧ (((sp_gf 0 j s).1 = -1 ∧ ∃ c x, c < 15 ∧ x < 15 ∧ s 10 2 j = ei c ∧ (sp_gf 0 j s).2 10 2 j = ei x ∧ ef_far (ei c) (ei x) = 1) ∨ ((∃ k, k < 5 ∧ (sp_gf 0 j s).1 = ei k) ∧ (sp_gf 0 j s).2 10 2 j = s 10 2 j)) := by
  obtain ⟨⟨c, hc, ec⟩, hr, -⟩ := id hs
  have ec : s 10 2 j = ei c := ec
  unfold sp_gf
  by_cases c0 : s 40 1 j = 0
  · rw [if_pos c0]
    exact ⟨⟨fun _ => rfl, rfl, rfl, rfl⟩, rfl, rfl, Or.inr ⟨⟨0, by decide, rfl⟩, rfl⟩⟩
  obtain ⟨x, hx, ex⟩ := hr.first c0
  have ex : s 593 0 j = ei x := ex
  rw [if_neg c0, ex, ei_nat (by omega)]
  split
  · rename_i h1
    split
    · refine ⟨⟨fun _ => rfl, rfl, rfl, rfl⟩, rfl, rfl, Or.inl ⟨rfl, c, x, hc, hx, ec, ?_, by rw [← ec]; exact h1.1⟩⟩
      show ew_u s 10 2 j (ei x) 10 2 j = ei x
      exact ew_u_self s 10 2 j _
    · rename_i h2
      exact ⟨⟨fun _ => rfl, rfl, rfl, rfl⟩, rfl, rfl, Or.inr ⟨ef_hind_k _ _ _ _ h2, rfl⟩⟩
  · exact ⟨⟨fun _ => rfl, rfl, rfl, rfl⟩, rfl, rfl, Or.inr ⟨⟨0, by decide, rfl⟩, rfl⟩⟩
theorem hj_fr (j : Nat) (s : ew_S) : hj_kept s (sp_fr j s) j ∧ ¬ sp_fr j s 10 7 j = 3 ∧ sp_fr j s 10 2 j = s 10 2 j ∧ sp_fr j s 10 10 j = s 10 10 j := ⟨⟨fun _ => rfl, rfl, rfl, rfl⟩, by rw [sp_fr_7]; decide, rfl, rfl⟩
theorem hj_gb {j b : Nat} (hs : iv_s nb np (ea s j)) (hb : ∃ c, c < 15 ∧ s 3 1 b = ei c) (hl : hj_left s b) (n3 : ¬ s 10 7 j = 3) (h12 : s 10 7 j = 1 ∨ s 10 7 j = 2) : hj_go s (sp_gb 0 j b s).2 (sp_gb 0 j b s).1 j := by
  obtain ⟨⟨c, hc, ec⟩, -⟩ := id hs
  have ec : s 10 2 j = ei c := ec
  unfold sp_gb
  by_cases c1 : s 3 4 b = s 10 2 j
  · rw [if_pos c1]
    have hf : ∃ x, x < 15 ∧ s 3 1 b = ei x ∧ ef_far (ei c) (ei x) = 1 := by
      rcases hl with hl | ⟨c', x, hc', hx, e1, e2, e3⟩
      · rw [c1, ec] at hl
        exact absurd hl (ei_m1 c hc)
      · rw [c1, ec] at e1
        rw [(ei_inj (by omega) (by omega)).mp e1]
        exact ⟨x, hx, e2, e3⟩
    obtain ⟨x, hx, ex, e3⟩ := hf
    by_cases c2 : ef_hind (if s 10 7 j = 2 then 0 else 1) (sp_w 0 (s 3 1 b).toNatClampNeg s) (s 10 5 j) (s 10 4 j) = -1
    · rw [if_pos c2]
      refine ⟨⟨fun _ => rfl, rfl, rfl, rfl⟩, n3, Or.inl ⟨rfl, ⟨c, x, hc, hx, ec, ?_, e3⟩, Or.inr ?_⟩⟩
      · show ew_u s 10 2 j (s 3 1 b) 10 2 j = ei x
        rw [ew_u_self]; exact ex
      · have e : ∀ y : Int32, ew_u (ew_u (ew_u s 10 2 j (s 3 1 b)) 40 1 j 0) 10 10 j (s 10 10 j + y) 10 10 j = s 10 10 j + y := fun y => ew_u_self _ 10 10 j _
        rcases h12 with h | h
        · exact Or.inl ⟨h, by dsimp only; rw [e, if_neg (by rw [h]; decide)]⟩
        · exact Or.inr ⟨h, by dsimp only; rw [e, if_pos h]⟩
    · rw [if_neg c2]
      obtain ⟨k1, k2, k3, k4⟩ := hj_fr j s
      exact ⟨k1, k2, Or.inr ⟨ef_hind_k _ _ _ _ c2, k3, k4⟩⟩
  · rw [if_neg c1]
    split
    · exact ⟨⟨fun _ => rfl, rfl, rfl, rfl⟩, n3, Or.inr ⟨⟨4, by decide, rfl⟩, rfl, rfl⟩⟩
    · obtain ⟨k1, k2, k3, k4⟩ := hj_fr j s
      obtain ⟨l1, l2, l3, l4⟩ := hj_gf (nb := nb) (np := np) (s := sp_fr j s) (j := j) (hs := ⟨⟨c, hc, ec⟩, hs.2.1, hs.2.2.1, hs.2.2.2.1, Or.inl ⟨sp_fr_7 j s, sp_fr_8 j s⟩⟩) k2
      refine ⟨⟨fun w => (l1.1 w).trans (k1.1 w), l1.2.1.trans k1.2.1, l1.2.2.1.trans k1.2.2.1, l1.2.2.2.trans k1.2.2.2⟩, by rw [l2]; exact k2, ?_⟩
      rcases l4 with ⟨m1, c', x, m2, m3, m4, m5, m6⟩ | ⟨m1, m2⟩
      · exact Or.inl ⟨m1, ⟨c', x, m2, m3, m4, m5, m6⟩, Or.inl l3⟩
      · exact Or.inr ⟨m1, m2, l3⟩
theorem hj_goes (I : Iv 0 nb ns np T s) {j : Nat} (hj : j < ns) (hl : ∀ b, b < nb → hj_left s b) (n3 : ¬ s 10 7 j = 3) : hj_go s (sp_go 0 j s).2 (sp_go 0 j s).1 j := by
  have hs : iv_s nb np (ea s j) := I.2.2.2.2.1 j hj
  unfold sp_go
  by_cases c0 : s 10 7 j = 0
  · rw [if_pos c0]
    obtain ⟨l1, l2, l3, l4⟩ := hj_gf hs n3
    refine ⟨l1, by rw [l2]; exact n3, ?_⟩
    rcases l4 with ⟨m1, m2⟩ | ⟨m1, m2⟩
    · exact Or.inl ⟨m1, m2, Or.inl l3⟩
    · exact Or.inr ⟨m1, m2, l3⟩
  · rw [if_neg c0]
    obtain ⟨-, -, -, -, k⟩ := id hs
    rcases k with ⟨k, -⟩ | ⟨k, -⟩ | ⟨h12, b, hb, eb⟩
    · exact absurd k c0
    · exact absurd k n3
    · have eb : s 10 8 j = ei b := eb
      have h2 := I.1.1
      rw [eb, ei_nat (by omega)]
      exact hj_gb hs (I.2.2.2.1 b hb).1 (hl b hb) n3 h12
/-- ship j's hour: whether it went; it arrived, or waits by one reason, or neither; a: how many arrived -/
def hj_mv (s s' : ew_S) (j : Nat) (g : Bool) : Prop := (g = false ∧ s' 10 2 j = s 10 2 j ∧ s' 10 10 j = s 10 10 j) ∨ (g = true ∧ hj_gone s s' j)
def hj_end (s s' : ew_S) (a : Int32) (j : Nat) (g : Bool) : Prop :=
  (a = 1 ∧ s' 10 7 j = 3 ∧ s' 10 8 j = -1 ∧ s' 40 1 j = 0 ∧ s' 10 11 j = s' 9 5 0 ∧ (∀ w, s' 177 w j = s 177 w j) ∧ s' 10 9 j = s 10 9 j ∧ s' 10 2 j = s' 6 4 (s' 10 6 j).toNatClampNeg) ∨
  (a = 0 ∧ ¬ s' 10 7 j = 3 ∧ s' 10 11 j = s 10 11 j ∧
    ((g = true ∧ (∀ w, s' 177 w j = s 177 w j) ∧ s' 10 9 j = s 10 9 j) ∨
     ∃ r, r < 5 ∧ (g = true → r = 3) ∧ s' 177 r j = s 177 r j + 1 ∧ (∀ w, ¬ w = r → s' 177 w j = s 177 w j) ∧ (s' 10 9 j = s 10 9 j ∨ s' 10 9 j = s 10 9 j + 1)))
def hj_out (s s' : ew_S) (a : Int32) (j : Nat) : Prop := s' 10 6 j = s 10 6 j ∧
  ((s 10 7 j = 3 ∧ a = 0 ∧ s' 10 7 j = 3 ∧ s' 10 2 j = s 10 2 j ∧ s' 10 10 j = s 10 10 j ∧ s' 10 9 j = s 10 9 j ∧ s' 10 11 j = s 10 11 j ∧ ∀ w, s' 177 w j = s 177 w j) ∨
   (¬ s 10 7 j = 3 ∧ ∃ g, hj_mv s s' j g ∧ hj_end s s' a j g))
theorem hj_wt {j r : Nat} (hr : r < 5) (s : ew_S) : (∀ p, ¬ p = 9 → sp_wt 0 j (ei r) s 10 p j = s 10 p j) ∧ sp_wt 0 j (ei r) s 177 r j = s 177 r j + 1 ∧ (∀ w, ¬ w = r → sp_wt 0 j (ei r) s 177 w j = s 177 w j) ∧ (sp_wt 0 j (ei r) s 10 9 j = s 10 9 j ∨ sp_wt 0 j (ei r) s 10 9 j = s 10 9 j + 1) := by
  unfold sp_wt
  rw [ei_nat (show r < 2147483648 by omega)]
  refine ⟨fun p hp => (ew_u_ne _ _ (by omega)).trans (ew_u_ne _ _ (by omega)), ?_, fun w hw => ?_, ?_⟩
  · show ew_u s 177 r j (s 177 r j + 1) 177 r j = _
    exact ew_u_self s 177 r j _
  · show ew_u s 177 r j (s 177 r j + 1) 177 w j = _
    exact ew_u_ne _ _ (by omega)
  · rw [ew_u_self]
    split
    · exact Or.inl (Int32.add_zero _)
    · exact Or.inr rfl
theorem hj_ms (I : Iv 0 nb ns np T s) {j : Nat} (hj : j < ns) (hl : ∀ b, b < nb → hj_left s b) : hj_out s (sp_ms 0 j s).2 (sp_ms 0 j s).1 j := by
  show hj_out s (if s 10 7 j = 3 then (0, s) else sp_ar 0 j j (sp_go 0 j s).1 (sp_go 0 j s).2).2 (if s 10 7 j = 3 then (0, s) else sp_ar 0 j j (sp_go 0 j s).1 (sp_go 0 j s).2).1 j
  by_cases c3 : s 10 7 j = 3
  · rw [if_pos c3]
    exact ⟨rfl, Or.inl ⟨c3, rfl, c3, rfl, rfl, rfl, rfl, fun _ => rfl⟩⟩
  rw [if_neg c3]
  have go := hj_goes I hj hl c3
  obtain ⟨F, -, -⟩ := iv_go I hj c3
  have F : Fr (Ps j) s (sp_go 0 j s).2 := F
  have go : hj_go s (sp_go 0 j s).2 (sp_go 0 j s).1 j := go
  show hj_out s (sp_ar 0 j j (sp_go 0 j s).1 (sp_go 0 j s).2).2 (sp_ar 0 j j (sp_go 0 j s).1 (sp_go 0 j s).2).1 j
  revert go F
  generalize (sp_go 0 j s).2 = s1
  generalize (sp_go 0 j s).1 = r1
  intro F go
  obtain ⟨⟨g1, g2, g3, g4⟩, g5, g6⟩ := go
  have hg : ∃ g, hj_mv s s1 j g ∧ (g = false → ∃ k, k < 5 ∧ r1 = ei k) ∧ (g = true → r1 = -1) := by
    rcases g6 with ⟨e1, e2⟩ | ⟨e1, e2, e3⟩
    · exact ⟨true, Or.inr ⟨rfl, e2⟩, fun z => (by cases z), fun _ => e1⟩
    · exact ⟨false, Or.inl ⟨rfl, e2, e3⟩, fun _ => e1, fun z => (by cases z)⟩
  obtain ⟨g, hmv, hf, ht⟩ := hg
  have mv : ∀ s2 : ew_S, s2 10 2 j = s1 10 2 j → s2 10 10 j = s1 10 10 j → hj_mv s s2 j g := fun s2 e1 e2 => by
    unfold hj_mv hj_gone at hmv ⊢
    rw [e1, e2]
    exact hmv
  have wt : ∀ r, r < 5 → (g = true → r = 3) → hj_out s (sp_wt 0 j (ei r) s1) 0 j := fun r hr h3 => by
    obtain ⟨w1, w2, w3, w4⟩ := hj_wt (j := j) hr s1
    refine ⟨(w1 6 (by decide)).trans g4, Or.inr ⟨c3, g, mv _ (w1 2 (by decide)) (w1 10 (by decide)), Or.inr ⟨rfl, by rw [w1 7 (by decide)]; exact g5, (w1 11 (by decide)).trans g3, Or.inr ⟨r, hr, h3, by rw [w2, g1], fun w hw => (w3 w hw).trans (g1 w), ?_⟩⟩⟩⟩
    rw [g2] at w4
    exact w4
  unfold sp_ar sp_ap
  by_cases c1 : s1 10 2 j = s1 6 4 (s1 10 6 j).toNatClampNeg
  · rw [if_pos c1]
    split
    · refine ⟨g4, Or.inr ⟨c3, g, mv _ rfl rfl, Or.inl ⟨rfl, ?_, ?_, ?_, ?_, g1, g2, c1⟩⟩⟩
      · show ew_u s1 10 7 j 3 10 7 j = 3
        exact ew_u_self s1 10 7 j 3
      · show ew_u (ew_u s1 10 7 j 3) 10 8 j (-1) 10 8 j = -1
        exact ew_u_self _ 10 8 j _
      · show ew_u _ 40 1 j 0 40 1 j = 0
        exact ew_u_self _ 40 1 j 0
      · exact ew_u_self _ 10 11 j _
    · exact wt 3 (by decide) (fun _ => rfl)
  · rw [if_neg c1]
    split
    · rename_i h1
      refine ⟨g4, Or.inr ⟨c3, g, hmv, Or.inr ⟨rfl, g5, g3, Or.inl ⟨?_, g1, g2⟩⟩⟩⟩
      cases g with
      | true => rfl
      | false =>
        obtain ⟨k, hk, e⟩ := hf rfl
        rw [h1] at e
        exact absurd e.symm (ei_m1 k (by omega))
    · rename_i h1
      cases g with
      | true => exact absurd (ht rfl) h1
      | false =>
        obtain ⟨k, hk, e⟩ := hf rfl
        rw [e]
        exact wt k hk (fun z => by cases z)
end
