/-! What is done: the class. -/
section
variable {d : Nat} {s : ew_S} {m : ew_H} {K : ew_R → ew_H → Prop} {nb ns np T : Nat}
theorem xc_takeT {b j : Nat} (h : ¬ s 10 7 j = 3 ∧ s 10 2 j = s 3 1 b) (k : K (.inl (some (ew_i 1))) (ew_hp s m)) : ew_Call (d + 1) 102 [ew_o 3 b, ew_o 10 j] (ew_hp s m) K := xc_canTake b j (by rw [if_pos h]; exact k)
theorem xc_takeF {b j : Nat} (h : ¬ (¬ s 10 7 j = 3 ∧ s 10 2 j = s 3 1 b)) (k : K (.inl (some (ew_i 0))) (ew_hp s m)) : ew_Call (d + 1) 102 [ew_o 3 b, ew_o 10 j] (ew_hp s m) K := xc_canTake b j (by rw [if_neg h]; exact k)
theorem xc_boundT {j : Nat} {w b : Int32} (h : s 10 7 j = w ∧ s 10 8 j = b) (k : K (.inl (some (ew_i 1))) (ew_hp s m)) : ew_Call (d + 1) 63 [ew_o 10 j, ew_i w, ew_i b] (ew_hp s m) K := xc_isBound j w b (by rw [if_pos h]; exact k)
theorem xc_boundF {j : Nat} {w b : Int32} (h : ¬ (s 10 7 j = w ∧ s 10 8 j = b)) (k : K (.inl (some (ew_i 0))) (ew_hp s m)) : ew_Call (d + 1) 63 [ew_o 10 j, ew_i w, ew_i b] (ew_hp s m) K := xc_isBound j w b (by rw [if_neg h]; exact k)
theorem xc_led {x : Int32} (hn : s 9 4 0 = ei ns) (h5 : ns ≤ 5) (k : K (.inl (some (ew_i (sp_led 1 x s)))) (ew_hp s m)) : ew_Call (d + 2) 50 [ew_o 9 0, ew_i x] (ew_hp s m) K := by
  unfold sp_led at k
  rw [hn, ei_nat (by omega)] at k
  exact xc_countLed 0 ns x hn h5 k
theorem xc_tug {x : Int32} (hn : s 9 4 0 = ei ns) (h5 : ns ≤ 5) (k : K (.inl (some (ew_i (sp_tug x s)))) (ew_hp s m)) : ew_Call (d + 2) 51 [ew_o 9 0, ew_i x] (ew_hp s m) K := by
  unfold sp_tug at k
  rw [hn, ei_nat (by omega)] at k
  exact xc_towedBy 0 ns x hn h5 k
theorem xp_lead (h : Iv 0 nb ns np T s) (b j : Int32) (k : KO K m (op_lead b j s)) : ew_Call (d + 3) 83 [ew_o 11 0, ew_i b, ew_i j] (ew_hp s m) K := by
  unfold op_lead at k
  have hb := h.1
  have hnb := h.2.1.1
  have hns := h.2.1.2.1
  rw [hnb, hns] at k
  rcases ei_dec b nb (by omega) with ⟨c, hc, rfl⟩ | ⟨h1, -⟩
  · rw [iN_t hc (by omega), Bool.true_and, ei_nat (by omega)] at k
    have bk : ∀ {K' : ew_R → ew_H → Prop}, K' (.inl (some (ew_o 3 c))) (ew_hp s m) → ew_Call (d + 2) 38 [ew_o 9 0, ew_i (ei c)] (ew_hp s m) K' := fun g => xc_breakerAt 0 c nb hnb (by omega) hc g
    rcases ei_dec j ns (by omega) with ⟨c2, hc2, rfl⟩ | ⟨h2, -⟩
    · rw [iN_t hc2 (by omega), cond_true, ei_nat (by omega)] at k
      have sh : ∀ {K' : ew_R → ew_H → Prop}, K' (.inl (some (ew_o 10 c2))) (ew_hp s m) → ew_Call (d + 2) 39 [ew_o 9 0, ew_i (ei c2)] (ew_hp s m) K' := fun g => xc_shipAt 0 c2 ns hns (by omega) hc2 g
      by_cases w1 : ¬ s 10 7 c2 = 3 ∧ s 10 2 c2 = s 3 1 c
      · by_cases w2 : s 10 7 c2 = 1 ∧ s 10 8 c2 = ei c
        · rw [if_neg (fun z => z.2.1 w2)] at k
          exact ew_call (ew_go (fun _ => false) 80 (bk (sh (xc_takeT w1 (xc_dS1 (xc_boundT w2 ⟨fun _ => xc_dS0 ⟨rfl, k⟩, fun z => absurd (show ¬ (1 : Int32) = 0 by decide) z⟩))))))
        · by_cases w3 : sp_led 1 (ei c) s < 2
          · rw [if_pos ⟨w1, w2, w3⟩] at k
            have hns' : sp_bd 1 (ei c) c2 s 9 4 0 = ei ns := hns
            exact ew_call (ew_go (fun _ => false) 80 (bk (sh (xc_takeT w1 (xc_dS1 (xc_boundF w2 ⟨fun z => absurd rfl z, fun _ => xc_led hns (by omega) ⟨fun z => absurd w3 (Int32.not_lt.mpr z), fun _ => xc_dS1 (xc_bind c2 1 (ei c) (xc_led (s := sp_bd 1 (ei c) c2 s) hns' (by omega) ⟨trivial, k⟩))⟩⟩))))))
          · rw [if_neg (fun z => w3 z.2.2)] at k
            exact ew_call (ew_go (fun _ => false) 80 (bk (sh (xc_takeT w1 (xc_dS1 (xc_boundF w2 ⟨fun z => absurd rfl z, fun _ => xc_led hns (by omega) ⟨fun _ => xc_dS0 ⟨rfl, k⟩, fun z => absurd (Int32.not_lt.mp w3) z⟩⟩))))))
      · rw [if_neg (fun z => w1 z.1)] at k
        exact ew_call (ew_go (fun _ => false) 80 (bk (sh (xc_takeF w1 (xc_dS0 ⟨rfl, k⟩)))))
    · rw [iN_f h2, cond_false] at k
      exact ew_call (ew_go (fun _ => false) 60 (bk (xc_shpX 0 hns (by omega) h2 ⟨rfl, k⟩)))
  · rw [iN_f h1, Bool.false_and, cond_false] at k
    exact ew_call (ew_go (fun _ => false) 60 (xc_brkX 0 hnb (by omega) h1 ⟨rfl, k⟩))
theorem xp_tow (h : Iv 0 nb ns np T s) (b j : Int32) (k : KO K m (op_tow b j s)) : ew_Call (d + 3) 84 [ew_o 11 0, ew_i b, ew_i j] (ew_hp s m) K := by
  unfold op_tow at k
  have hb := h.1
  have hnb := h.2.1.1
  have hns := h.2.1.2.1
  rw [hnb, hns] at k
  rcases ei_dec b nb (by omega) with ⟨c, hc, rfl⟩ | ⟨h1, -⟩
  · rw [iN_t hc (by omega), Bool.true_and, ei_nat (by omega)] at k
    have bk : ∀ {K' : ew_R → ew_H → Prop}, K' (.inl (some (ew_o 3 c))) (ew_hp s m) → ew_Call (d + 2) 38 [ew_o 9 0, ew_i (ei c)] (ew_hp s m) K' := fun g => xc_breakerAt 0 c nb hnb (by omega) hc g
    rcases ei_dec j ns (by omega) with ⟨c2, hc2, rfl⟩ | ⟨h2, -⟩
    · rw [iN_t hc2 (by omega), cond_true, ei_nat (by omega)] at k
      have sh : ∀ {K' : ew_R → ew_H → Prop}, K' (.inl (some (ew_o 10 c2))) (ew_hp s m) → ew_Call (d + 2) 39 [ew_o 9 0, ew_i (ei c2)] (ew_hp s m) K' := fun g => xc_shipAt 0 c2 ns hns (by omega) hc2 g
      by_cases w1 : ¬ s 10 7 c2 = 3 ∧ s 10 2 c2 = s 3 1 c
      · by_cases w2 : 1 ≤ s 10 3 c2
        · by_cases w3 : sp_tug (ei c) s = -1
          · rw [if_pos ⟨w1, w2, w3⟩] at k
            exact ew_call (ew_go (fun _ => false) 80 (bk (sh (xc_takeT w1 ⟨fun z => absurd z (show ¬ (1 : Int32) = 0 by decide), fun _ => ⟨fun z => absurd w2 (Int32.not_le.mpr z), fun _ => xc_dS1 (xc_tug hns (by omega) ⟨fun z => absurd w3 z, fun _ => xc_dS1 (xc_bind c2 2 (ei c) ⟨trivial, k⟩)⟩)⟩⟩))))
          · rw [if_neg (fun z => w3 z.2.2)] at k
            exact ew_call (ew_go (fun _ => false) 80 (bk (sh (xc_takeT w1 ⟨fun z => absurd z (show ¬ (1 : Int32) = 0 by decide), fun _ => ⟨fun z => absurd w2 (Int32.not_le.mpr z), fun _ => xc_dS1 (xc_tug hns (by omega) ⟨fun _ => xc_dS0 ⟨rfl, k⟩, fun z => absurd w3 z⟩)⟩⟩))))
        · rw [if_neg (fun z => w2 z.2.1)] at k
          exact ew_call (ew_go (fun _ => false) 80 (bk (sh (xc_takeT w1 ⟨fun z => absurd z (show ¬ (1 : Int32) = 0 by decide), fun _ => ⟨fun _ => xc_dS0 ⟨rfl, k⟩, fun z => absurd (Int32.not_le.mp w2) z⟩⟩))))
      · rw [if_neg (fun z => w1 z.1)] at k
        exact ew_call (ew_go (fun _ => false) 80 (bk (sh (xc_takeF w1 ⟨fun _ => xc_dS0 ⟨rfl, k⟩, fun z => absurd rfl z⟩))))
    · rw [iN_f h2, cond_false] at k
      exact ew_call (ew_go (fun _ => false) 60 (bk (xc_shpX 0 hns (by omega) h2 ⟨rfl, k⟩)))
  · rw [iN_f h1, Bool.false_and, cond_false] at k
    exact ew_call (ew_go (fun _ => false) 60 (xc_brkX 0 hnb (by omega) h1 ⟨rfl, k⟩))
theorem iv_hs {q : Nat} (h : Iv q nb ns np T s) (x w : Int32) (hx : 0 ≤ x ∧ x ≤ 9) : ∀ n, T + 135 * n ≤ 100000000 → Iv q nb ns np (T + 135 * n) (sp_hs q x w s n).2
  | 0, _ => h
  | n + 1, hT => by
    have := (iv_h (iv_hs h x w hx n (by omega)) (by omega) x w hx).2
    rw [show T + 135 * (n + 1) = T + 135 * n + 135 by omega]
    exact this
theorem xc_wtrT {x w : Int32} (h : (0 ≤ x ∧ x ≤ 9) ∧ (-1 ≤ w ∧ w ≤ 3)) (k : K (.inl (some (ew_i 1))) (ew_hp s m)) : ew_Call (d + 2) 103 [ew_i x, ew_i w] (ew_hp s m) K := xc_isWeather x w (by rw [if_pos h]; exact k)
theorem xc_wtrF {x w : Int32} (h : ¬ ((0 ≤ x ∧ x ≤ 9) ∧ (-1 ≤ w ∧ w ≤ 3))) (k : K (.inl (some (ew_i 0))) (ew_hp s m)) : ew_Call (d + 2) 103 [ew_i x, ew_i w] (ew_hp s m) K := xc_isWeather x w (by rw [if_neg h]; exact k)
theorem xl_pass (h : Iv 0 nb ns np T s) {x w : Int32} (hx : 0 ≤ x ∧ x ≤ 9) {n : Nat} (hn : n ≤ 24) (hT : T ≤ 90000000) (k : K (.inl (some (ew_i (sp_hs 0 x w s n).1))) (ew_hp (sp_hs 0 x w s n).2 m)) : ∀ (r j : Nat) (y v : Int32), y = ei j → j + r = n → v = (sp_hs 0 x w s j).1 →
    ew_W (ew_Call (d + 5)) 86 K (32, [some (ew_o 11 0), some (ew_i x), some (ew_i w), some (ew_i (ei n)), some (ew_i v), some (ew_i y)], [], ew_hp (sp_hs 0 x w s j).2 m) := by
  intro r
  induction r with
  | zero =>
    intro j y v hy hj hv
    subst hy; subst hv
    obtain rfl : j = n := by omega
    exact ew_go (fun pc => Nat.beq pc 32) 40 ⟨fun _ => ⟨trivial, k⟩, fun z => absurd (Int32.le_refl _) z⟩
  | succ r ih =>
    intro j y v hy hj hv
    subst hy; subst hv
    have clt : ¬ ei n ≤ ei j := by rw [ei_le (by omega) (by omega)]; omega
    exact ew_go (fun pc => Nat.beq pc 32) 40 ⟨fun z => absurd z clt, fun _ => xc_passHour (iv_hs h x w hx j (by omega)) (by omega) x w hx (ih (j + 1) _ _ (ei_1 _) (by omega) rfl)⟩
theorem xp_pass (h : Iv 0 nb ns np T s) (hT : T ≤ 90000000) (x w n : Int32) (k : KO K m (op_pass x w n s)) : ew_Call (d + 6) 86 [ew_o 11 0, ew_i x, ew_i w, ew_i n] (ew_hp s m) K := by
  unfold op_pass at k
  by_cases w1 : (0 ≤ x ∧ x ≤ 9) ∧ (-1 ≤ w ∧ w ≤ 3)
  · by_cases w2 : 1 ≤ n ∧ n ≤ 24
    · rw [if_pos ⟨w1, w2⟩] at k
      obtain ⟨v, hv1, hv, rfl⟩ := ei_rng (a := 1) (b := 24) (by decide) w2 (by decide)
      rw [ei_nat (by omega)] at k
      exact ew_call (ew_go (fun pc => Nat.beq pc 32) 60 (xc_wtrT w1 ⟨fun z => absurd z (show ¬ (1 : Int32) = 0 by decide), fun _ => xc_withT w2 ⟨fun z => absurd z (show ¬ (1 : Int32) = 0 by decide), fun _ => xc_dA1 (xl_pass (d := d) h w1.1 hv hT k v 0 0 0 rfl (by omega) rfl)⟩⟩))
    · rw [if_neg (fun z => w2 z.2)] at k
      exact ew_call (ew_go (fun pc => Nat.beq pc 32) 60 (xc_wtrT w1 ⟨fun z => absurd z (show ¬ (1 : Int32) = 0 by decide), fun _ => xc_withF w2 ⟨fun _ => xc_dA0 ⟨rfl, k⟩, fun z => absurd rfl z⟩⟩))
  · rw [if_neg (fun z => w1 z.1)] at k
    exact ew_call (ew_go (fun pc => Nat.beq pc 32) 60 (xc_wtrF w1 ⟨fun _ => xc_dA0 ⟨rfl, k⟩, fun z => absurd rfl z⟩))
end
