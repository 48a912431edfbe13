/-! The law's isPassed. -/
/-- the script is as long as it was, so many objects and places more -/
def MF (c n : Nat) (m m' : ew_H) : Prop := m'.2.1 17 0 = m.2.1 17 0 ∧ m'.2.2.2.2.1 = m.2.2.2.2.1 + c ∧ m'.2.2.2.2.2 = m.2.2.2.2.2 + n
section
variable {d : Nat} {s s' : ew_S} {m : ew_H} {K : ew_R → ew_H → Prop} {np T t ρ W i1 i2 i3 r0 : Nat} {told x w A now mny : Int32}
theorem xl_js {B : Nat → Int32} (I : Iv 0 2 5 np T s') (r : ∀ j, j < 5 → RW W (r0 + j) j m) (v : ∀ j, j < 5 → PV s s' (r0 + j) j) (hs : ∀ j, j < 5 → iv_s 2 np (ea s j)) (hd : ∀ j, j < 5 → ∃ n, n ≤ 1000000000 ∧ s 10 9 j = ei n) (o : ∀ j, j < 5 → hj_out s s' (B j) j) (hn : s' 9 5 0 = now + 1) (k : K (.inl (some (ew_i 1))) (ew_hp s' m)) : ∀ (q j : Nat) (y : Int32) (u11 u12 u13 u14 : Option ew_V), y = ei j → j + q = 5 →
    ew_W (ew_Call (d + 6)) 224 K (362, [some (ew_o 11 0), some (ew_i x), some (ew_i w), some (ew_o 244 W), some (ew_o 625 i1), some (ew_o 657 i2), some (ew_o 689 i3), some (ew_i A), some (ew_i now), some (ew_i mny), some (ew_i y), u11, u12, u13, u14], [], ew_hp s' m) := by
  intro q
  induction q with
  | zero =>
    intro j y u11 u12 u13 u14 hy hj
    obtain rfl : j = 5 := by omega
    subst hy
    exact ew_go (fun _ => false) 20 ⟨fun _ => ⟨Or.inr rfl, k⟩, fun z => absurd (show (5 : Int32) ≤ ei 5 by decide) z⟩
  | succ q ih =>
    intro j y u11 u12 u13 u14 hy hjq
    subst hy
    have hj : j < 5 := by omega
    exact xl_j1 I hj (r j hj) (v j hj) (hs j hj) (hd j hj) (o j hj) hn (fun g mo nw du => ih (j + 1) _ _ _ _ _ (ei_1 j) (by omega))
/-- the arrays of breakers, behind their making -/
theorem ar_BV (i1 i2 i3 : Nat) (s : ew_S) {b : Nat} (hb : b < 2) : BV i1 i2 i3 s (ar2 689 i3 (s 3 2 0) (s 3 2 1) (ar2 657 i2 (s 3 3 0) (s 3 3 1) (ar2 625 i1 (s 3 1 0) (s 3 1 1) s))) b := by
  have hb : b = 0 ∨ b = 1 := by omega
  rcases hb with rfl | rfl
  · exact ⟨ar2_0 625 i1 _ _ s, ar2_0 657 i2 _ _ _, ar2_0 689 i3 _ _ _⟩
  · exact ⟨ar2_1 625 i1 _ _ s, ar2_1 657 i2 _ _ _, ar2_1 689 i3 _ _ _⟩
theorem ar_F (i1 i2 i3 : Nat) (s : ew_S) : Fr Pla s (ar2 689 i3 (s 3 2 0) (s 3 2 1) (ar2 657 i2 (s 3 3 0) (s 3 3 1) (ar2 625 i1 (s 3 1 0) (s 3 1 1) s))) :=
  (((ar2_F 625 i1 _ _ s).mono (fun k p i h => Or.inl h.1)).tr ((ar2_F 657 i2 _ _ _).mono (fun k p i h => Or.inr (Or.inl h.1)))).tr ((ar2_F 689 i3 _ _ _).mono (fun k p i h => Or.inr (Or.inr (Or.inl h.1))))
/-- an hour leaves the law's arrays -/
theorem hour_la (I : Iv 0 2 5 np T s) (hT : T ≤ 90000000) (hx : 0 ≤ x ∧ x ≤ 9) {κ : Nat} (hκ : 600 ≤ κ) (p i : Nat) : (sp_h 0 x w s).2 κ p i = s κ p i := by
  refine (iv_h I (by omega) x w hx).1 κ p i (fun z => ?_)
  rcases z with z | z
  · unfold Pk at z; omega
  · unfold Pm at z; omega
/-- what stands at pc 159: all that the hour has to be held against -/
theorem xl_p159 (h : LI 2 5 np T t ρ told s) (hT : T ≤ 90000000) (ht : t ≤ 1000000) (hx : 0 ≤ x ∧ x ≤ 9) (hw : -1 ≤ w ∧ w ≤ 3) (l1 : m.2.1 625 i1 = 2) (l2 : m.2.1 657 i2 = 2) (l3 : m.2.1 689 i3 = 2) (bv : ∀ b, b < 2 → BV i1 i2 i3 s s b) (r : ∀ j, j < 5 → RW W (r0 + j) j m) (v : ∀ j, j < 5 → PV s s (r0 + j) j)
    (k : K (.inl (some (ew_i 1))) (ew_hp (sp_h 0 x w s).2 m)) :
    ew_W (ew_Call (d + 6)) 224 K (159, [some (ew_o 11 0), some (ew_i x), some (ew_i w), some (ew_o 244 W), some (ew_o 625 i1), some (ew_o 657 i2), some (ew_o 689 i3), some (ew_i (ei 5)), none, none, none, none, none, none, none], [], ew_hp s m) := by
  have I := h.iv
  have h' := h.hour hT ht x w hx
  obtain ⟨hb, ⟨B, -, hj⟩, -⟩ := hour_all I hT x w hx h.2.1.1
  have e : ∀ κ, 600 ≤ κ → ∀ p i, (sp_h 0 x w s).2 κ p i = s κ p i := fun κ hκ p i => hour_la I hT hx hκ p i
  refine xl_pb h hT ht hx hw (fun A mny => xl_b2 h'.iv l1 l2 l3 (s := s) (fun b hb => ?_) hb (fun g => xl_js (s := s) (r0 := r0) h'.iv r (fun j hj => ?_) (fun j hj => I.2.2.2.2.1 j hj) (fun j hj => ?_) hj ?_ k 5 0 0 _ _ _ _ rfl rfl))
  · obtain ⟨b1, b2, b3⟩ := bv b hb
    exact ⟨(e 625 (by decide) _ _).trans b1, (e 657 (by decide) _ _).trans b2, (e 689 (by decide) _ _).trans b3⟩
  · obtain ⟨v0, v1, v2, v3, v4, v5⟩ := v j hj
    exact ⟨(e 721 (by decide) _ _).trans v0, (e 721 (by decide) _ _).trans v1, (e 721 (by decide) _ _).trans v2, (e 721 (by decide) _ _).trans v3, (e 721 (by decide) _ _).trans v4, (e 721 (by decide) _ _).trans v5⟩
  · obtain ⟨n, hn, en⟩ := h.2.2.2.2.2 j hj
    exact ⟨n, by omega, en⟩
  · rw [h'.2.2.1, h.2.2.1, ei_1]
theorem xv_passed (h : LI 2 5 np T t ρ told s) (hT : T ≤ 90000000) (ht : t ≤ 1000000) (hx : 0 ≤ x ∧ x ≤ 9) (hw : -1 ≤ w ∧ w ≤ 3)
    (k : ∀ s' m', Sm 0 0 (sp_h 0 x w s).2 s' → LI 2 5 np (T + 135) (t + 1) ρ told s' → MF 9 41 m m' → K (.inl (some (ew_i 1))) (ew_hp s' m')) : ew_Call (d + 7) 224 [ew_o 11 0, ew_i x, ew_i w] (ew_hp s m) K := by
  have I := h.iv
  refine ew_call (xl_pa0 (xl_pa625 I (xl_pa657 (I.pz ((ar2_F 625 _ _ _ s).mono (fun k p i z => Or.inr (Or.inl z.1)))) (xl_pa689 (I.pz (((ar2_F 625 _ _ _ s).mono (fun k p i z => Or.inr (Or.inl z.1))).tr ((ar2_F 657 _ _ _ _).mono (fun k p i z => Or.inr (Or.inr (Or.inl z.1)))))) ?_))))
  show ew_W (ew_Call (d + 6)) 224 K (74, [some (ew_o 11 0), some (ew_i x), some (ew_i w), some (ew_o 244 (m.2.2.2.1 244)), some (ew_o 625 (m.2.2.2.1 625)), some (ew_o 657 (m.2.2.2.1 657)), some (ew_o 689 (m.2.2.2.1 689)), none, none, none, none, none, none, none, none], [], ew_hp (ar2 689 (m.2.2.2.1 689) (s 3 2 0) (s 3 2 1) (ar2 657 (m.2.2.2.1 657) (s 3 3 0) (s 3 3 1) (ar2 625 (m.2.2.2.1 625) (s 3 1 0) (s 3 1 1) s))) (ew_mk (ew_mk (ew_mk (ew_mk m 244 (m.2.2.2.1 244) 5 (fun _ => ew_0)) 625 (m.2.2.2.1 625) 2 (fun _ => ew_i 0)) 657 (m.2.2.2.1 657) 2 (fun _ => ew_i 0)) 689 (m.2.2.2.1 689) 2 (fun _ => ew_i 0)))
  have F1 := ar_F (m.2.2.2.1 625) (m.2.2.2.1 657) (m.2.2.2.1 689) s
  have bv : ∀ b, b < 2 → BV (m.2.2.2.1 625) (m.2.2.2.1 657) (m.2.2.2.1 689) s _ b := fun b hb => ar_BV (m.2.2.2.1 625) (m.2.2.2.1 657) (m.2.2.2.1 689) s hb
  have l0 : (ew_mk (ew_mk (ew_mk (ew_mk m 244 (m.2.2.2.1 244) 5 (fun _ => ew_0)) 625 (m.2.2.2.1 625) 2 (fun _ => ew_i 0)) 657 (m.2.2.2.1 657) 2 (fun _ => ew_i 0)) 689 (m.2.2.2.1 689) 2 (fun _ => ew_i 0)).2.1 244 (m.2.2.2.1 244) = 5 := by
    rw [em_ll _ _ _ (by omega), em_ll _ _ _ (by omega), em_ll _ _ _ (by omega), em_ln]
  have l1 : (ew_mk (ew_mk (ew_mk (ew_mk m 244 (m.2.2.2.1 244) 5 (fun _ => ew_0)) 625 (m.2.2.2.1 625) 2 (fun _ => ew_i 0)) 657 (m.2.2.2.1 657) 2 (fun _ => ew_i 0)) 689 (m.2.2.2.1 689) 2 (fun _ => ew_i 0)).2.1 625 (m.2.2.2.1 625) = 2 := by
    rw [em_ll _ _ _ (by omega), em_ll _ _ _ (by omega), em_ln]
  have l2 : (ew_mk (ew_mk (ew_mk (ew_mk m 244 (m.2.2.2.1 244) 5 (fun _ => ew_0)) 625 (m.2.2.2.1 625) 2 (fun _ => ew_i 0)) 657 (m.2.2.2.1 657) 2 (fun _ => ew_i 0)) 689 (m.2.2.2.1 689) 2 (fun _ => ew_i 0)).2.1 657 (m.2.2.2.1 657) = 2 := by
    rw [em_ll _ _ _ (by omega), em_ln]
  have l3 : (ew_mk (ew_mk (ew_mk (ew_mk m 244 (m.2.2.2.1 244) 5 (fun _ => ew_0)) 625 (m.2.2.2.1 625) 2 (fun _ => ew_i 0)) 657 (m.2.2.2.1 657) 2 (fun _ => ew_i 0)) 689 (m.2.2.2.1 689) 2 (fun _ => ew_i 0)).2.1 689 (m.2.2.2.1 689) = 2 := em_ln _ _ _ _ _
  have l17 : (ew_mk (ew_mk (ew_mk (ew_mk m 244 (m.2.2.2.1 244) 5 (fun _ => ew_0)) 625 (m.2.2.2.1 625) 2 (fun _ => ew_i 0)) 657 (m.2.2.2.1 657) 2 (fun _ => ew_i 0)) 689 (m.2.2.2.1 689) 2 (fun _ => ew_i 0)).2.1 17 0 = m.2.1 17 0 := by
    rw [em_ll _ _ _ (by omega), em_ll _ _ _ (by omega), em_ll _ _ _ (by omega), em_ll _ _ _ (by omega)]
  have lc : (ew_mk (ew_mk (ew_mk (ew_mk m 244 (m.2.2.2.1 244) 5 (fun _ => ew_0)) 625 (m.2.2.2.1 625) 2 (fun _ => ew_i 0)) 657 (m.2.2.2.1 657) 2 (fun _ => ew_i 0)) 689 (m.2.2.2.1 689) 2 (fun _ => ew_i 0)).2.2.2.2.1 = m.2.2.2.2.1 + 4 := rfl
  have ln : (ew_mk (ew_mk (ew_mk (ew_mk m 244 (m.2.2.2.1 244) 5 (fun _ => ew_0)) 625 (m.2.2.2.1 625) 2 (fun _ => ew_i 0)) 657 (m.2.2.2.1 657) 2 (fun _ => ew_i 0)) 689 (m.2.2.2.1 689) 2 (fun _ => ew_i 0)).2.2.2.2.2 = m.2.2.2.2.2 + 11 := rfl
  revert F1 bv l0 l1 l2 l3 l17 lc ln
  generalize ar2 689 (m.2.2.2.1 689) (s 3 2 0) (s 3 2 1) (ar2 657 (m.2.2.2.1 657) (s 3 3 0) (s 3 3 1) (ar2 625 (m.2.2.2.1 625) (s 3 1 0) (s 3 1 1) s)) = s3
  generalize ew_mk (ew_mk (ew_mk (ew_mk m 244 (m.2.2.2.1 244) 5 (fun _ => ew_0)) 625 (m.2.2.2.1 625) 2 (fun _ => ew_i 0)) 657 (m.2.2.2.1 657) 2 (fun _ => ew_i 0)) 689 (m.2.2.2.1 689) 2 (fun _ => ew_i 0) = m3
  generalize m.2.2.2.1 244 = W0
  generalize m.2.2.2.1 625 = j1
  generalize m.2.2.2.1 657 = j2
  generalize m.2.2.2.1 689 = j3
  intro F1 bv l0 l1 l2 l3 l17 lc ln
  have F1 := F1.la
  refine ew_go (fun pc => Nat.beq pc 77) 10 (xl_we (I.pz F1) l0 (fun s4 m4 a => ?_) 5 0 0 s3 m3 rfl rfl AW.zero)
  have F2 := F1.tr a.pz
  obtain ⟨F4, a2, -, ⟨b0, b1, b2, b3⟩, c1, c2, c3⟩ := id a
  have h4 := h.pz F2
  refine xl_p159 (r0 := m3.2.2.2.1 721) h4 hT ht hx hw (b1.trans l1) (b2.trans l2) (b3.trans l3) (fun b hb => ?_) (fun j hj => ?_) (fun j hj => ?_) (k _ m4 ?_ (h4.hour hT ht x w hx) ⟨c1.trans l17, by omega, by omega⟩)
  · obtain ⟨v1, v2, v3⟩ := bv b hb
    have g : ∀ κ, κ ≠ 721 → ∀ p i, s4 κ p i = s3 κ p i := fun κ hκ p i => F4 κ p i (fun z => hκ z.1)
    exact ⟨(g 625 (by decide) _ _).trans (v1.trans (pz3 F2 hb).symm), (g 657 (by decide) _ _).trans (v2.trans (pz3 F2 hb).symm), (g 689 (by decide) _ _).trans (v3.trans (pz3 F2 hb).symm)⟩
  · obtain ⟨-, q1, q2⟩ := a2 j hj
    exact ⟨by rw [ei_nat (by omega)]; exact q1, b0.trans l0, q2⟩
  · obtain ⟨⟨p0, p1, p2, p3, p4, p5⟩, -⟩ := a2 j hj
    have G := a.pz
    exact ⟨p0.trans (pz10 G hj).symm, p1.trans (pz10 G hj).symm, p2.trans (ef_sum_cg _ _ 5 (fun p _ => (pz177 G hj).symm)), p3.trans (pz10 G hj).symm, p4.trans (pz177 G hj).symm, p5.trans (pz10 G hj).symm⟩
  · exact (sm_h (Sm.pz F2) I (by omega) x w hx).2
end
