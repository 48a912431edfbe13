/-! What would be: hours on the trial. -/
def sp_ai (j : Nat) (x w : Int32) (a : ew_S) : Nat → Nat → Int32
  | 0, _ => -1
  | r + 1, g => if (sp_hs 1 x w a (g + 1)).2 10 7 (j + 5) = 3 then ei (g + 1) else sp_ai j x w a r (g + 1)
def op_args (n x w : Int32) : Prop := (1 ≤ n ∧ n ≤ 24) ∧ ((0 ≤ x ∧ x ≤ 9) ∧ (-1 ≤ w ∧ w ≤ 3))
def vo_arr (j n x w v : Int32) (s : ew_S) : ew_A2 := bif iN j (s 9 4 0) then (if (1 ≤ n ∧ n ≤ 24) ∧ ((0 ≤ x ∧ x ≤ 9) ∧ (-1 ≤ w ∧ w ≤ 3)) then (if s 10 7 j.toNatClampNeg = 3 then (0, 0) else (0, v)) else (2, 0)) else (1, 0)
section
variable {d : Nat} {s : ew_S} {m : ew_H} {K : ew_R → ew_H → Prop} {nb ns np T : Nat}
theorem cp_Iv {s' : ew_S} (h : Iv 0 nb ns np T s) (c : cp_d nb ns s s') : Iv 1 nb ns np T s' := by
  obtain ⟨c9, cc, cb, cs, F⟩ := c
  obtain ⟨a, b, hc, hb, hs, hp, n, ht1, ht2⟩ := h
  refine ⟨a, ⟨(c9 3 (by decide) (by decide)).trans b.1, (c9 4 (by decide) (by decide)).trans b.2.1, (F 7 1 0 (fun w => by unfold Ptr at w; omega)).trans b.2.2⟩, fun c z => ?_, fun c z => ?_, fun c z => ?_, fun c z => (hp c z).to (fun p => F 6 p c (fun w => by unfold Ptr at w; omega)) (fun p => F 18 p c (fun w => by unfold Ptr at w; omega)), n, ht1, fun c z => (cc c z 0 (by decide)).trans (ht2 c z)⟩
  · obtain ⟨k1, k2, k3⟩ := hc c z
    have e := cc c z
    refine ⟨?_, ?_, ?_⟩
    · show 0 ≤ s' 4 2 (c + 15)
      rw [e 2 (by decide)]; exact k1
    · show s' 4 3 (c + 15) = 0 ∨ (s' 4 3 (c + 15) = 1 ∧ s' 4 0 (c + 15) = 0 ∧ s' 4 1 (c + 15) = 0 ∧ s' 4 2 (c + 15) = 0)
      rw [e 3 (by decide), e 0 (by decide), e 1 (by decide), e 2 (by decide)]; exact k2
    · show s' 4 4 (c + 15) = 0
      rw [e 4 (by decide)]; exact k3
  · obtain ⟨⟨t, ht, k1⟩, r, hr, k2, k3⟩ := hb c z
    obtain ⟨e1, e2, e3⟩ := cb c z
    exact ⟨⟨t, ht, (e1 1 (by decide) (by decide)).trans k1⟩, r, hr, e2.trans k2, fun x hx => by
      obtain ⟨y, hy, k4⟩ := k3 x hx
      exact ⟨y, hy, (e3 x (by omega)).trans k4⟩⟩
  · obtain ⟨⟨t, ht, k1⟩, ⟨r, hr, k2, k3⟩, ⟨p, hp', k5⟩, ⟨u, hu, k6, k7⟩, k8⟩ := hs c z
    obtain ⟨e1, e2, e3, -⟩ := cs c z
    refine ⟨⟨t, ht, (e1 2 (by decide) (by decide)).trans k1⟩, ⟨r, hr, e2.trans k2, fun x hx => by
      obtain ⟨y, hy, k4⟩ := k3 x hx
      exact ⟨y, hy, (e3 x (by omega)).trans k4⟩⟩, ⟨p, hp', (e1 6 (by decide) (by decide)).trans k5⟩, ⟨u, hu, (e1 3 (by decide) (by decide)).trans k6, (e1 4 (by decide) (by decide)).trans k7⟩, ?_⟩
    show (s' 10 7 (c + 5) = 0 ∧ s' 10 8 (c + 5) = -1) ∨ (s' 10 7 (c + 5) = 3 ∧ s' 10 8 (c + 5) = -1) ∨ ((s' 10 7 (c + 5) = 1 ∨ s' 10 7 (c + 5) = 2) ∧ ∃ b, b < nb ∧ s' 10 8 (c + 5) = ei b)
    rw [e1 7 (by decide) (by decide), e1 8 (by decide) (by decide)]; exact k8
theorem fr_hs {x w : Int32} (h : Iv 1 nb ns np T s) (hx : 0 ≤ x ∧ x ≤ 9) : ∀ n, T + 135 * n ≤ 100000000 → Fr Ptr s (sp_hs 1 x w s n).2
  | 0, _ => Fr.rf _ _
  | n + 1, hT => (fr_hs h hx n (by omega)).tr ((iv_h (iv_hs h x w hx n (by omega)) (by omega) x w hx).1.mono (fun k p o z => by
      unfold Pk Pm at z
      unfold Ptr
      omega))
theorem xl_arr (h : Iv 1 nb ns np T s) {x w y1 : Int32} (hx : 0 ≤ x ∧ x ≤ 9) {n j i : Nat} (hj : j < ns) (hn : n ≤ 24) (hT : T ≤ 90000000) (k : ∀ s', Fr Ptr s s' → K (.inl (some (ew_i (sp_ai j x w s n 0)))) (ew_hp s' m)) : ∀ (r g : Nat) (y : Int32), y = ei (g + 1) → g + r = n → sp_ai j x w s n 0 = sp_ai j x w s r g →
    ew_W (ew_Call (d + 5)) 96 K (72, [some (ew_o 11 0), some (ew_i y1), some (ew_i (ei n)), some (ew_i x), some (ew_i w), some (ew_o 10 i), some (ew_o 10 (j + 5)), some (ew_i y)], [], ew_hp (sp_hs 1 x w s g).2 m) := by
  intro r
  induction r with
  | zero =>
    intro g y hy hg he
    subst hy
    obtain rfl : g = n := by omega
    have e : ei g < ei (g + 1) := (ei_lt (by omega) (by omega)).mpr (by omega)
    have k := k _ (fr_hs (w := w) h hx g (by omega))
    rw [he] at k
    exact ew_go (fun pc => Nat.beq pc 72) 40 ⟨fun _ => ⟨trivial, k⟩, fun z => absurd e z⟩
  | succ r ih =>
    intro g y hy hg he
    subst hy
    have e : ¬ ei n < ei (g + 1) := by rw [ei_lt (by omega) (by omega)]; omega
    have hstep : sp_ai j x w s (r + 1) g = if (sp_hs 1 x w s (g + 1)).2 10 7 (j + 5) = 3 then ei (g + 1) else sp_ai j x w s r (g + 1) := rfl
    by_cases hA : (sp_hs 1 x w s (g + 1)).2 10 7 (j + 5) = 3
    · rw [hstep, if_pos hA] at he
      have k := k _ (fr_hs (w := w) h hx (g + 1) (by omega))
      rw [he] at k
      exact ew_go (fun pc => Nat.beq pc 72) 60 ⟨fun z => absurd z e, fun _ => xc_passHour (iv_hs h x w hx g (by omega)) (by omega) x w hx ⟨fun z => absurd hA z, fun _ => ⟨trivial, k⟩⟩⟩
    · rw [hstep, if_neg hA] at he
      exact ew_go (fun pc => Nat.beq pc 72) 60 ⟨fun z => absurd z e, fun _ => xc_passHour (iv_hs h x w hx g (by omega)) (by omega) x w hx ⟨fun _ => ih (g + 1) _ (ei_1 _) (by omega) he, fun z => absurd hA z⟩⟩
theorem xp_arriveIn (h : Iv 0 nb ns np T s) (hT : T ≤ 90000000) (j n x w : Int32) (k : ∀ s' v, Fr Ptr s s' → ((∃ c, c < ns ∧ j = ei c) → op_args n x w → ¬ s 10 7 j.toNatClampNeg = 3 → ∃ a, cp_d nb ns s a ∧ v = sp_ai j.toNatClampNeg x w a n.toNatClampNeg 0) → KQ K m s' (vo_arr j n x w v s)) : ew_Call (d + 6) 96 [ew_o 11 0, ew_i j, ew_i n, ew_i x, ew_i w] (ew_hp s m) K := by
  have hb := h.1
  have hns := h.2.1.2.1
  rcases ei_dec j ns (by omega) with ⟨c, hc, rfl⟩ | ⟨h1, h2⟩
  · have e1 : ∀ v, vo_arr (ei c) n x w v s = if (1 ≤ n ∧ n ≤ 24) ∧ ((0 ≤ x ∧ x ≤ 9) ∧ (-1 ≤ w ∧ w ≤ 3)) then (if s 10 7 c = 3 then (0, 0) else (0, v)) else (2, 0) := fun v => by
      unfold vo_arr
      rw [hns, iN_t hc (by omega), cond_true, ei_nat (by omega)]
    have sh : ∀ {K' : ew_R → ew_H → Prop}, K' (.inl (some (ew_o 10 c))) (ew_hp s m) → ew_Call (d + 5) 39 [ew_o 9 0, ew_i (ei c)] (ew_hp s m) K' := fun g => xc_shipAt 0 c ns hns (by omega) hc g
    by_cases w1 : 1 ≤ n ∧ n ≤ 24
    · by_cases w2 : (0 ≤ x ∧ x ≤ 9) ∧ (-1 ≤ w ∧ w ≤ 3)
      · by_cases w3 : s 10 7 c = 3
        · have k := k s 0 (Fr.rf _ _) (fun _ _ z => absurd (by rw [ei_nat (by omega)]; exact w3) z)
          rw [e1, if_pos ⟨w1, w2⟩, if_pos w3] at k
          exact ew_call (ew_go (fun pc => Nat.beq pc 72) 80 (sh (xc_withT w1 ⟨fun z => absurd z (show ¬ (1 : Int32) = 0 by decide), fun _ => xc_wtrT w2 ⟨fun z => absurd z (show ¬ (1 : Int32) = 0 by decide), fun _ => xc_dA1 ⟨fun z => absurd w3 z, fun _ => ⟨trivial, k⟩⟩⟩⟩)))
        · obtain ⟨v, hv1, hv, rfl⟩ := ei_rng (a := 1) (b := 24) (by decide) w1 (by decide)
          have fin : ∀ s1, cp_d nb ns s s1 → ew_W (ew_Call (d + 5)) 96 K (72, [some (ew_o 11 0), some (ew_i (ei c)), some (ew_i (ei v)), some (ew_i x), some (ew_i w), some (ew_o 10 c), some (ew_o 10 (c + 5)), some (ew_i 1)], [], ew_hp s1 m) := fun s1 hcp => by
            refine xl_arr (d := d) (cp_Iv h hcp) w2.1 hc hv hT (fun s' F => ?_) v 0 1 rfl (by omega) rfl
            have k := k s' (sp_ai c x w s1 v 0) (hcp.2.2.2.2.tr F) (fun _ _ _ => ⟨s1, hcp, by rw [ei_nat (by omega), ei_nat (by omega)]⟩)
            rw [e1, if_pos ⟨w1, w2⟩, if_neg w3] at k
            exact k
          exact ew_call (ew_go (fun pc => Nat.beq pc 72) 80 (sh (xc_withT w1 ⟨fun z => absurd z (show ¬ (1 : Int32) = 0 by decide), fun _ => xc_wtrT w2 ⟨fun z => absurd z (show ¬ (1 : Int32) = 0 by decide), fun _ => xc_dA1 ⟨fun _ => xc_copySea h (fun s1 hcp => xc_shipAt 1 c ns ((hcp.1 4 (by decide) (by decide)).trans hns) (by omega) hc (fin s1 hcp)), fun z => absurd w3 z⟩⟩⟩)))
      · have k := k s 0 (Fr.rf _ _) (fun _ z _ => absurd z.2 w2)
        rw [e1, if_neg (fun z => w2 z.2)] at k
        exact ew_call (ew_go (fun pc => Nat.beq pc 72) 80 (sh (xc_withT w1 ⟨fun z => absurd z (show ¬ (1 : Int32) = 0 by decide), fun _ => xc_wtrF w2 ⟨fun _ => xc_dA0 ⟨rfl, k⟩, fun z => absurd rfl z⟩⟩)))
    · have k := k s 0 (Fr.rf _ _) (fun _ z _ => absurd z.1 w1)
      rw [e1, if_neg (fun z => w1 z.1)] at k
      exact ew_call (ew_go (fun pc => Nat.beq pc 72) 80 (sh (xc_withF w1 ⟨fun _ => xc_dA0 ⟨rfl, k⟩, fun z => absurd rfl z⟩)))
  · have k := k s 0 (Fr.rf _ _) (fun ⟨c, hc, e⟩ => absurd e (h2 c hc))
    unfold vo_arr at k
    rw [hns, iN_f h1, cond_false] at k
    exact ew_call (ew_go (fun pc => Nat.beq pc 72) 60 (xc_shpX 0 hns (by omega) h1 ⟨rfl, k⟩))
end
