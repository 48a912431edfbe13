/-! A list's things put into an empty one. -/
section
variable {d g' : Nat} {s : ew_S} {m : ew_H} {K : ew_R → ew_H → Prop}
theorem xm_toArray98 {i n kb ib : Nat} (a1 : m.1 98 i 1 = ew_o kb ib) (h2 : s 98 2 i = ei n) (hn : n ≤ 10) (hc : ew_ct kb = 20) (hl : n ≤ ew_len (ew_hp s m) kb ib) (hl2 : ew_len (ew_hp s m) kb ib ≤ 1000) (hsh : ∀ p, ew_sh kb p = none) (hf : ∀ r, r < n → ew_fit 2 (m.1 kb ib r))
    (k : ∀ z : Nat → ew_V, (∀ r, r < n → z r = m.1 kb ib r) → K (.inl (some (ew_o 244 (m.2.2.2.1 244)))) (ew_hp s (ew_mk m 244 (m.2.2.2.1 244) n z))) : ew_Call (d + 1) 203 [ew_o 98 i] (ew_hp s m) K := by
  refine Or.inr ?_
  have e1 : (ew_hp s m).1 98 i 1 = ew_o kb ib := a1
  have e2 : (ew_hp s m).1 98 i 2 = ew_i (ei n) := congrArg ew_i h2
  have hnn : (ei n).toNatClampNeg = n := ei_nat (by omega)
  unfold ew_In
  rw [show Nat.beq 203 185 = false from rfl, cond_false, show Nat.beq 203 203 = true from rfl, cond_true]
  dsimp only
  rw [e1, e2]
  dsimp only
  rw [hnn]
  refine ⟨⟨rfl, hc, ei_nn (by omega), hl, hl2, fun j hj => (by show ew_fit 2 (ew_hq s m.1 kb ib j); unfold ew_hq; rw [hsh]; exact hf j hj)⟩, ek_m (fun _ => rfl) (k _ (fun r hr => ?_))⟩
  show (bif Nat.blt r n then (ew_hp s m).1 kb ib r else ew_0) = m.1 kb ib r
  rw [show Nat.blt r n = true from Nat.ble_eq_true_of_le hr, cond_true]
  show ew_hq s m.1 kb ib r = m.1 kb ib r
  unfold ew_hq
  rw [hsh]
theorem xl_addAll98 {i g n : Nat} {es : Nat → ew_V} (h0 : 0 < n) (hn : n ≤ 10) (e0 : s 98 2 i = 0) (hl : ew_len (ew_hp s m) 244 g = n) (hx : m.2.2.1 116 i = false) (a1 : m.1 98 i 1 = ew_o 212 0) (hz : ∀ r, r < n → m.1 244 g r = es r) (he : ∀ r, r < n → ∃ b, es r = ew_o 0 b)
    (k : ∀ f : Nat → ew_V, (∀ r, r < n → f r = es r) → K (.inl (some (ew_i 1))) (ew_hp (ew_u s 98 2 i (ei n)) (ew_cpy (ew_put (ew_mk m 116 i 10 (fun _ => ew_0)) 98 i 1 (ew_o 116 i)) 116 i 0 n f))) : ew_W (ew_Call (d + 1)) 211 K (26, [some (ew_o 98 i), some (ew_o 98 g'), some (ew_o 244 g), some (ew_i (ei n)), none, none], [], ew_hp s m) := by
  have hnn : (ei n).toNatClampNeg = n := ei_nat (by omega)
  have hpos : ¬ ei n ≤ 0 - 0 := by
    show ¬ ei n ≤ ei 0
    rw [ei_le (by omega) (by decide)]; omega
  have mid : ew_W (ew_Call (d + 1)) 211 K (56, [some (ew_o 98 i), some (ew_o 98 g'), some (ew_o 244 g), some (ew_i (ei n)), some (ew_o 116 i), some (ew_i 0)], [], ew_hp s (ew_put (ew_mk m 116 i 10 (fun _ => ew_0)) 98 i 1 (ew_o 116 i))) := by
    refine ew_go (fun pc => Nat.beq pc 66) 40 ⟨⟨by decide, by decide, ei_nn (by omega), ?_, ?_, fun j hj => ?_⟩, ?_⟩
    · show 0 + (ei n).toNatClampNeg ≤ ew_len (ew_hp s (ew_put (ew_mk m 116 i 10 (fun _ => ew_0)) 98 i 1 (ew_o 116 i))) 244 g
      rw [hnn, show ew_len (ew_hp s (ew_put (ew_mk m 116 i 10 (fun _ => ew_0)) 98 i 1 (ew_o 116 i))) 244 g = ew_len (ew_hp s m) 244 g from rfl, hl]; omega
    · show 0 + (ei n).toNatClampNeg ≤ 10
      rw [hnn]; omega
    · have hj : j < (ei n).toNatClampNeg := hj
      rw [hnn] at hj
      obtain ⟨b, hb⟩ := he j hj
      show ew_fit 2 ((ew_put (ew_mk m 116 i 10 (fun _ => ew_0)) 98 i 1 (ew_o 116 i)).1 244 g (0 + j))
      rw [ep_ne _ _ (by omega), em_ne _ _ _ _ (by omega), Nat.zero_add, hz j hj, hb]; rfl
    · show ew_W (ew_Call (d + 1)) 211 K (66, [some (ew_o 98 i), some (ew_o 98 g'), some (ew_o 244 g), some (ew_i (ei n)), some (ew_o 116 i), some (ew_i 0)], [], ew_cpy (ew_hp s (ew_put (ew_mk m 116 i 10 (fun _ => ew_0)) 98 i 1 (ew_o 116 i))) 116 i 0 (ei n).toNatClampNeg (fun j => (ew_put (ew_mk m 116 i 10 (fun _ => ew_0)) 98 i 1 (ew_o 116 i)).1 244 g (0 + j)))
      rw [hnn, ew_hp_cpt (fun _ => rfl)]
      have k := k (fun j => (ew_put (ew_mk m 116 i 10 (fun _ => ew_0)) 98 i 1 (ew_o 116 i)).1 244 g (0 + j)) (fun r hr => by rw [ep_ne _ _ (by omega), em_ne _ _ _ _ (by omega), Nat.zero_add, hz r hr])
      refine ew_go (fun _ => false) 40 ⟨trivial, Or.inr rfl, ?_⟩
      show K (.inl (some (ew_i 1))) (ew_put (ew_hp s (ew_cpy (ew_put (ew_mk m 116 i 10 (fun _ => ew_0)) 98 i 1 (ew_o 116 i)) 116 i 0 n _)) 98 i 2 (ew_i (0 + ei n)))
      rw [Int32.zero_add]
      exact ek_p rfl k
  refine ew_go (fun pc => Nat.beq pc 31) 40 (eq_s a1 ?_)
  refine ew_go (fun pc => Nat.beq pc 39) 40 (eq_s (w := ew_i 0) (congrArg ew_i e0) ?_)
  exact ew_go (fun pc => Nat.beq pc 56) 40 ⟨fun z => absurd z hpos, fun _ => xm_grow198 a1 hx (Int32.zero_add (ei n)) hn mid⟩
theorem xm_addAll98 {i j n : Nat} {es : Nat → ew_V} (hL : LR 98 j n es s m) (G : GI m) (hij : i ≠ j) (f0 : m.2.2.1 98 i = true) (e0 : s 98 2 i = 0) (a1 : m.1 98 i 1 = ew_o 212 0) (hx : m.2.2.1 116 i = false) (he : ∀ r, r < n → ∃ b, es r = ew_o 0 b)
    (g : ∀ s' m' v, LR 98 i n es s' m' → Ex (Pl 98 i) 2 s m s' m' → GI m' → K (.inl (some (ew_i v))) (ew_hp s' m')) : ew_Call (d + 2) 211 [ew_o 98 i, ew_o 98 j] (ew_hp s m) K := by
  obtain ⟨l1, l2, l3, l4⟩ := hL
  have hnn : (ei n).toNatClampNeg = n := ei_nat (by omega)
  have n244 := G.new (k := 244) rfl
  have G1 : ∀ z, GI (ew_mk m 244 (m.2.2.2.1 244) n z) := fun z => G.mk1 (k := 244) rfl
  have fin : ∀ z : Nat → ew_V, (∀ r, r < n → z r = es r) → ew_W (ew_Call (d + 1)) 211 K (6, [some (ew_o 98 i), some (ew_o 98 j), none, none, none, none], [ew_o 244 (m.2.2.2.1 244)], ew_hp s (ew_mk m 244 (m.2.2.2.1 244) n z)) := fun z hz => by
    have E1 : Ex (Pl 98 i) 1 s m s (ew_mk m 244 (m.2.2.2.1 244) n z) := (Ex.rf _ _ _).mk (k := 244) _ rfl (by omega) n244 (fun k' h' e => by have := ef_L_or h'; omega)
    have E2 : Ex (Pl 98 i) 1 s m (ew_u s 98 0 i (s 98 0 i + 1)) (ew_mk m 244 (m.2.2.2.1 244) n z) := E1.u _ rfl (Or.inl ⟨rfl, Or.inl rfl⟩)
    have e0' : ew_u s 98 0 i (s 98 0 i + 1) 98 2 i = 0 := (ew_u_ne _ _ (by omega)).trans e0
    have hlen : ew_len (ew_hp (ew_u s 98 0 i (s 98 0 i + 1)) (ew_mk m 244 (m.2.2.2.1 244) n z)) 244 (m.2.2.2.1 244) = n := by
      show ew_sl 244 ((ew_mk m 244 (m.2.2.2.1 244) n z).2.1 244 (m.2.2.2.1 244)) = n
      rw [ew_mk_nself]; rfl
    refine ew_go (fun pc => Nat.beq pc 17) 40 ⟨trivial, ?_⟩
    show ew_W (ew_Call (d + 1)) 211 K (17, [some (ew_o 98 i), some (ew_o 98 j), some (ew_o 244 (m.2.2.2.1 244)), none, none, none], [], ew_put (ew_hp s (ew_mk m 244 (m.2.2.2.1 244) n z)) 98 i 0 (ew_i (s 98 0 i + 1)))
    refine eq_1 rfl (ew_go (fun pc => Nat.beq pc 19) 40 (eq_s (w := ew_i (ei n)) (congrArg (fun x => ew_i (Int32.ofNat x)) hlen) ?_))
    by_cases hn0 : n = 0
    · have k := g (ew_u s 98 0 i (s 98 0 i + 1)) (ew_mk m 244 (m.2.2.2.1 244) n z) 0 ⟨em_xo _ _ _ f0, by rw [e0', hn0]; rfl, l3, Or.inr ⟨(em_ne _ _ _ _ (by omega)).trans a1, (em_xn _ _ _ (by omega)).trans hx, hn0⟩⟩ (E2.le (by decide)) (G1 z)
      have z0 : ei n = 0 := by rw [hn0]; rfl
      exact ew_go (fun _ => false) 40 ⟨fun c => absurd z0 c, fun _ => ⟨Or.inl rfl, k⟩⟩
    · have npos : 0 < n := by omega
      have z0 : ¬ ei n = 0 := fun c => hn0 ((ei_inj (b := 0) (by omega) (by decide)).mp c)
      refine ew_go (fun pc => Nat.beq pc 26) 40 ⟨fun _ => ?_, fun c => absurd z0 c⟩
      refine xl_addAll98 (s := ew_u s 98 0 i (s 98 0 i + 1)) (m := ew_mk m 244 (m.2.2.2.1 244) n z) npos l3 e0' hlen ((em_xn _ _ _ (by omega)).trans hx) ((em_ne _ _ _ _ (by omega)).trans a1) (fun r hr => (em_self _ _ _ _ _ _).trans (hz r hr)) he (fun f hf => ?_)
      refine g _ _ 1 ⟨?_, ew_u_self _ _ _ _ _, l3, Or.inl ⟨?_, ?_, fun r hr => ?_⟩⟩ ?_ ?_
      · exact em_xo _ _ (fun _ => ew_0) (em_xo _ _ z f0)
      · rw [ecp_ne _ _ _ (by omega), ep_self]
      · exact em_xs _ _ _ _ (fun _ => ew_0)
      · have := ecp_in (ew_put (ew_mk (ew_mk m 244 (m.2.2.2.1 244) n z) 116 i 10 (fun _ => ew_0)) 98 i 1 (ew_o 116 i)) (k := 116) (i := i) (a := 0) (n := n) f hr
        rw [Nat.zero_add] at this
        exact this.trans (hf r hr)
      · exact (((E2.mk (k := 116) (i := i) (N := 10) (fun _ => ew_0) rfl (by decide) hx (fun k' h' e => Or.inl ⟨rfl, Or.inl (by omega)⟩)).put _ rfl (Or.inl ⟨rfl, Or.inl rfl⟩)).cpy f rfl (Or.inl (fun p => ⟨rfl, Or.inr rfl⟩))).u _ rfl (Or.inl ⟨rfl, Or.inl rfl⟩)
      · exact (G1 z).arr (k := 98) (z := fun _ => ew_0) rfl (em_xo _ _ _ f0)
  have fin' : ∀ kb ib, m.1 98 j 1 = ew_o kb ib → ew_ct kb = 20 → n ≤ ew_len (ew_hp s m) kb ib → ew_len (ew_hp s m) kb ib ≤ 1000 → (∀ p, ew_sh kb p = none) → (∀ r, r < n → m.1 kb ib r = es r) → ew_Call (d + 2) 211 [ew_o 98 i, ew_o 98 j] (ew_hp s m) K := fun kb ib q1 q2 q3 q4 q5 q6 =>
    ew_call (ew_go (fun pc => Nat.beq pc 6) 40 (xm_toArray98 q1 l2 l3 q2 q3 q4 q5 (fun r hr => by obtain ⟨b, hb⟩ := he r hr; rw [q6 r hr, hb]; rfl) (fun z hz => fin z (fun r hr => (hz r hr).trans (q6 r hr)))))
  rcases l4 with ⟨b1, b2, b3⟩ | ⟨b1, b2, b3⟩
  · exact fin' 116 j b1 rfl (show n ≤ 10 from l3) (show 10 ≤ 1000 by decide) (fun _ => rfl) b3
  · exact fin' 212 0 b1 rfl (by rw [b3]; exact Nat.zero_le _) (show 0 ≤ 1000 by decide) (fun _ => rfl) (fun r hr => by omega)
theorem xm_toArray130 {i n kb ib : Nat} (a1 : m.1 130 i 1 = ew_o kb ib) (h2 : s 130 2 i = ei n) (hn : n ≤ 10) (hc : ew_ct kb = 20) (hl : n ≤ ew_len (ew_hp s m) kb ib) (hl2 : ew_len (ew_hp s m) kb ib ≤ 1000) (hsh : ∀ p, ew_sh kb p = none) (hf : ∀ r, r < n → ew_fit 2 (m.1 kb ib r))
    (k : ∀ z : Nat → ew_V, (∀ r, r < n → z r = m.1 kb ib r) → K (.inl (some (ew_o 244 (m.2.2.2.1 244)))) (ew_hp s (ew_mk m 244 (m.2.2.2.1 244) n z))) : ew_Call (d + 1) 203 [ew_o 130 i] (ew_hp s m) K := by
  refine Or.inr ?_
  have e1 : (ew_hp s m).1 130 i 1 = ew_o kb ib := a1
  have e2 : (ew_hp s m).1 130 i 2 = ew_i (ei n) := congrArg ew_i h2
  have hnn : (ei n).toNatClampNeg = n := ei_nat (by omega)
  unfold ew_In
  rw [show Nat.beq 203 185 = false from rfl, cond_false, show Nat.beq 203 203 = true from rfl, cond_true]
  dsimp only
  rw [e1, e2]
  dsimp only
  rw [hnn]
  refine ⟨⟨rfl, hc, ei_nn (by omega), hl, hl2, fun j hj => (by show ew_fit 2 (ew_hq s m.1 kb ib j); unfold ew_hq; rw [hsh]; exact hf j hj)⟩, ek_m (fun _ => rfl) (k _ (fun r hr => ?_))⟩
  show (bif Nat.blt r n then (ew_hp s m).1 kb ib r else ew_0) = m.1 kb ib r
  rw [show Nat.blt r n = true from Nat.ble_eq_true_of_le hr, cond_true]
  show ew_hq s m.1 kb ib r = m.1 kb ib r
  unfold ew_hq
  rw [hsh]
theorem xl_addAll130 {i g n : Nat} {es : Nat → ew_V} (h0 : 0 < n) (hn : n ≤ 10) (e0 : s 130 2 i = 0) (hl : ew_len (ew_hp s m) 244 g = n) (hx : m.2.2.1 148 i = false) (a1 : m.1 130 i 1 = ew_o 212 0) (hz : ∀ r, r < n → m.1 244 g r = es r) (he : ∀ r, r < n → ∃ b, es r = ew_o 0 b)
    (k : ∀ f : Nat → ew_V, (∀ r, r < n → f r = es r) → K (.inl (some (ew_i 1))) (ew_hp (ew_u s 130 2 i (ei n)) (ew_cpy (ew_put (ew_mk m 148 i 10 (fun _ => ew_0)) 130 i 1 (ew_o 148 i)) 148 i 0 n f))) : ew_W (ew_Call (d + 1)) 211 K (26, [some (ew_o 130 i), some (ew_o 130 g'), some (ew_o 244 g), some (ew_i (ei n)), none, none], [], ew_hp s m) := by
  have hnn : (ei n).toNatClampNeg = n := ei_nat (by omega)
  have hpos : ¬ ei n ≤ 0 - 0 := by
    show ¬ ei n ≤ ei 0
    rw [ei_le (by omega) (by decide)]; omega
  have mid : ew_W (ew_Call (d + 1)) 211 K (56, [some (ew_o 130 i), some (ew_o 130 g'), some (ew_o 244 g), some (ew_i (ei n)), some (ew_o 148 i), some (ew_i 0)], [], ew_hp s (ew_put (ew_mk m 148 i 10 (fun _ => ew_0)) 130 i 1 (ew_o 148 i))) := by
    refine ew_go (fun pc => Nat.beq pc 66) 40 ⟨⟨by decide, by decide, ei_nn (by omega), ?_, ?_, fun j hj => ?_⟩, ?_⟩
    · show 0 + (ei n).toNatClampNeg ≤ ew_len (ew_hp s (ew_put (ew_mk m 148 i 10 (fun _ => ew_0)) 130 i 1 (ew_o 148 i))) 244 g
      rw [hnn, show ew_len (ew_hp s (ew_put (ew_mk m 148 i 10 (fun _ => ew_0)) 130 i 1 (ew_o 148 i))) 244 g = ew_len (ew_hp s m) 244 g from rfl, hl]; omega
    · show 0 + (ei n).toNatClampNeg ≤ 10
      rw [hnn]; omega
    · have hj : j < (ei n).toNatClampNeg := hj
      rw [hnn] at hj
      obtain ⟨b, hb⟩ := he j hj
      show ew_fit 2 ((ew_put (ew_mk m 148 i 10 (fun _ => ew_0)) 130 i 1 (ew_o 148 i)).1 244 g (0 + j))
      rw [ep_ne _ _ (by omega), em_ne _ _ _ _ (by omega), Nat.zero_add, hz j hj, hb]; rfl
    · show ew_W (ew_Call (d + 1)) 211 K (66, [some (ew_o 130 i), some (ew_o 130 g'), some (ew_o 244 g), some (ew_i (ei n)), some (ew_o 148 i), some (ew_i 0)], [], ew_cpy (ew_hp s (ew_put (ew_mk m 148 i 10 (fun _ => ew_0)) 130 i 1 (ew_o 148 i))) 148 i 0 (ei n).toNatClampNeg (fun j => (ew_put (ew_mk m 148 i 10 (fun _ => ew_0)) 130 i 1 (ew_o 148 i)).1 244 g (0 + j)))
      rw [hnn, ew_hp_cpt (fun _ => rfl)]
      have k := k (fun j => (ew_put (ew_mk m 148 i 10 (fun _ => ew_0)) 130 i 1 (ew_o 148 i)).1 244 g (0 + j)) (fun r hr => by rw [ep_ne _ _ (by omega), em_ne _ _ _ _ (by omega), Nat.zero_add, hz r hr])
      refine ew_go (fun _ => false) 40 ⟨trivial, Or.inr rfl, ?_⟩
      show K (.inl (some (ew_i 1))) (ew_put (ew_hp s (ew_cpy (ew_put (ew_mk m 148 i 10 (fun _ => ew_0)) 130 i 1 (ew_o 148 i)) 148 i 0 n _)) 130 i 2 (ew_i (0 + ei n)))
      rw [Int32.zero_add]
      exact ek_p rfl k
  refine ew_go (fun pc => Nat.beq pc 31) 40 (eq_s a1 ?_)
  refine ew_go (fun pc => Nat.beq pc 39) 40 (eq_s (w := ew_i 0) (congrArg ew_i e0) ?_)
  exact ew_go (fun pc => Nat.beq pc 56) 40 ⟨fun z => absurd z hpos, fun _ => xm_grow1130 a1 hx (Int32.zero_add (ei n)) hn mid⟩
theorem xm_addAll130 {i j n : Nat} {es : Nat → ew_V} (hL : LR 130 j n es s m) (G : GI m) (hij : i ≠ j) (f0 : m.2.2.1 130 i = true) (e0 : s 130 2 i = 0) (a1 : m.1 130 i 1 = ew_o 212 0) (hx : m.2.2.1 148 i = false) (he : ∀ r, r < n → ∃ b, es r = ew_o 0 b)
    (g : ∀ s' m' v, LR 130 i n es s' m' → Ex (Pl 130 i) 2 s m s' m' → GI m' → K (.inl (some (ew_i v))) (ew_hp s' m')) : ew_Call (d + 2) 211 [ew_o 130 i, ew_o 130 j] (ew_hp s m) K := by
  obtain ⟨l1, l2, l3, l4⟩ := hL
  have hnn : (ei n).toNatClampNeg = n := ei_nat (by omega)
  have n244 := G.new (k := 244) rfl
  have G1 : ∀ z, GI (ew_mk m 244 (m.2.2.2.1 244) n z) := fun z => G.mk1 (k := 244) rfl
  have fin : ∀ z : Nat → ew_V, (∀ r, r < n → z r = es r) → ew_W (ew_Call (d + 1)) 211 K (6, [some (ew_o 130 i), some (ew_o 130 j), none, none, none, none], [ew_o 244 (m.2.2.2.1 244)], ew_hp s (ew_mk m 244 (m.2.2.2.1 244) n z)) := fun z hz => by
    have E1 : Ex (Pl 130 i) 1 s m s (ew_mk m 244 (m.2.2.2.1 244) n z) := (Ex.rf _ _ _).mk (k := 244) _ rfl (by omega) n244 (fun k' h' e => by have := ef_L_or h'; omega)
    have E2 : Ex (Pl 130 i) 1 s m (ew_u s 130 0 i (s 130 0 i + 1)) (ew_mk m 244 (m.2.2.2.1 244) n z) := E1.u _ rfl (Or.inl ⟨rfl, Or.inl rfl⟩)
    have e0' : ew_u s 130 0 i (s 130 0 i + 1) 130 2 i = 0 := (ew_u_ne _ _ (by omega)).trans e0
    have hlen : ew_len (ew_hp (ew_u s 130 0 i (s 130 0 i + 1)) (ew_mk m 244 (m.2.2.2.1 244) n z)) 244 (m.2.2.2.1 244) = n := by
      show ew_sl 244 ((ew_mk m 244 (m.2.2.2.1 244) n z).2.1 244 (m.2.2.2.1 244)) = n
      rw [ew_mk_nself]; rfl
    refine ew_go (fun pc => Nat.beq pc 17) 40 ⟨trivial, ?_⟩
    show ew_W (ew_Call (d + 1)) 211 K (17, [some (ew_o 130 i), some (ew_o 130 j), some (ew_o 244 (m.2.2.2.1 244)), none, none, none], [], ew_put (ew_hp s (ew_mk m 244 (m.2.2.2.1 244) n z)) 130 i 0 (ew_i (s 130 0 i + 1)))
    refine eq_1 rfl (ew_go (fun pc => Nat.beq pc 19) 40 (eq_s (w := ew_i (ei n)) (congrArg (fun x => ew_i (Int32.ofNat x)) hlen) ?_))
    by_cases hn0 : n = 0
    · have k := g (ew_u s 130 0 i (s 130 0 i + 1)) (ew_mk m 244 (m.2.2.2.1 244) n z) 0 ⟨em_xo _ _ _ f0, by rw [e0', hn0]; rfl, l3, Or.inr ⟨(em_ne _ _ _ _ (by omega)).trans a1, (em_xn _ _ _ (by omega)).trans hx, hn0⟩⟩ (E2.le (by decide)) (G1 z)
      have z0 : ei n = 0 := by rw [hn0]; rfl
      exact ew_go (fun _ => false) 40 ⟨fun c => absurd z0 c, fun _ => ⟨Or.inl rfl, k⟩⟩
    · have npos : 0 < n := by omega
      have z0 : ¬ ei n = 0 := fun c => hn0 ((ei_inj (b := 0) (by omega) (by decide)).mp c)
      refine ew_go (fun pc => Nat.beq pc 26) 40 ⟨fun _ => ?_, fun c => absurd z0 c⟩
      refine xl_addAll130 (s := ew_u s 130 0 i (s 130 0 i + 1)) (m := ew_mk m 244 (m.2.2.2.1 244) n z) npos l3 e0' hlen ((em_xn _ _ _ (by omega)).trans hx) ((em_ne _ _ _ _ (by omega)).trans a1) (fun r hr => (em_self _ _ _ _ _ _).trans (hz r hr)) he (fun f hf => ?_)
      refine g _ _ 1 ⟨?_, ew_u_self _ _ _ _ _, l3, Or.inl ⟨?_, ?_, fun r hr => ?_⟩⟩ ?_ ?_
      · exact em_xo _ _ (fun _ => ew_0) (em_xo _ _ z f0)
      · rw [ecp_ne _ _ _ (by omega), ep_self]
      · exact em_xs _ _ _ _ (fun _ => ew_0)
      · have := ecp_in (ew_put (ew_mk (ew_mk m 244 (m.2.2.2.1 244) n z) 148 i 10 (fun _ => ew_0)) 130 i 1 (ew_o 148 i)) (k := 148) (i := i) (a := 0) (n := n) f hr
        rw [Nat.zero_add] at this
        exact this.trans (hf r hr)
      · exact (((E2.mk (k := 148) (i := i) (N := 10) (fun _ => ew_0) rfl (by decide) hx (fun k' h' e => Or.inl ⟨rfl, Or.inl (by omega)⟩)).put _ rfl (Or.inl ⟨rfl, Or.inl rfl⟩)).cpy f rfl (Or.inl (fun p => ⟨rfl, Or.inr rfl⟩))).u _ rfl (Or.inl ⟨rfl, Or.inl rfl⟩)
      · exact (G1 z).arr (k := 130) (z := fun _ => ew_0) rfl (em_xo _ _ _ f0)
  have fin' : ∀ kb ib, m.1 130 j 1 = ew_o kb ib → ew_ct kb = 20 → n ≤ ew_len (ew_hp s m) kb ib → ew_len (ew_hp s m) kb ib ≤ 1000 → (∀ p, ew_sh kb p = none) → (∀ r, r < n → m.1 kb ib r = es r) → ew_Call (d + 2) 211 [ew_o 130 i, ew_o 130 j] (ew_hp s m) K := fun kb ib q1 q2 q3 q4 q5 q6 =>
    ew_call (ew_go (fun pc => Nat.beq pc 6) 40 (xm_toArray130 q1 l2 l3 q2 q3 q4 q5 (fun r hr => by obtain ⟨b, hb⟩ := he r hr; rw [q6 r hr, hb]; rfl) (fun z hz => fin z (fun r hr => (hz r hr).trans (q6 r hr)))))
  rcases l4 with ⟨b1, b2, b3⟩ | ⟨b1, b2, b3⟩
  · exact fin' 148 j b1 rfl (show n ≤ 10 from l3) (show 10 ≤ 1000 by decide) (fun _ => rfl) b3
  · exact fin' 212 0 b1 rfl (by rw [b3]; exact Nat.zero_le _) (show 0 ≤ 1000 by decide) (fun _ => rfl) (fun r hr => by omega)
theorem xm_toArray66 {i n kb ib : Nat} (a1 : m.1 66 i 1 = ew_o kb ib) (h2 : s 66 2 i = ei n) (hn : n ≤ 10) (hc : ew_ct kb = 20) (hl : n ≤ ew_len (ew_hp s m) kb ib) (hl2 : ew_len (ew_hp s m) kb ib ≤ 1000) (hsh : ∀ p, ew_sh kb p = none) (hf : ∀ r, r < n → ew_fit 2 (m.1 kb ib r))
    (k : ∀ z : Nat → ew_V, (∀ r, r < n → z r = m.1 kb ib r) → K (.inl (some (ew_o 244 (m.2.2.2.1 244)))) (ew_hp s (ew_mk m 244 (m.2.2.2.1 244) n z))) : ew_Call (d + 1) 203 [ew_o 66 i] (ew_hp s m) K := by
  refine Or.inr ?_
  have e1 : (ew_hp s m).1 66 i 1 = ew_o kb ib := a1
  have e2 : (ew_hp s m).1 66 i 2 = ew_i (ei n) := congrArg ew_i h2
  have hnn : (ei n).toNatClampNeg = n := ei_nat (by omega)
  unfold ew_In
  rw [show Nat.beq 203 185 = false from rfl, cond_false, show Nat.beq 203 203 = true from rfl, cond_true]
  dsimp only
  rw [e1, e2]
  dsimp only
  rw [hnn]
  refine ⟨⟨rfl, hc, ei_nn (by omega), hl, hl2, fun j hj => (by show ew_fit 2 (ew_hq s m.1 kb ib j); unfold ew_hq; rw [hsh]; exact hf j hj)⟩, ek_m (fun _ => rfl) (k _ (fun r hr => ?_))⟩
  show (bif Nat.blt r n then (ew_hp s m).1 kb ib r else ew_0) = m.1 kb ib r
  rw [show Nat.blt r n = true from Nat.ble_eq_true_of_le hr, cond_true]
  show ew_hq s m.1 kb ib r = m.1 kb ib r
  unfold ew_hq
  rw [hsh]
theorem xl_addAll66 {i g n : Nat} {es : Nat → ew_V} (h0 : 0 < n) (hn : n ≤ 10) (e0 : s 66 2 i = 0) (hl : ew_len (ew_hp s m) 244 g = n) (hx : m.2.2.1 84 i = false) (a1 : m.1 66 i 1 = ew_o 212 0) (hz : ∀ r, r < n → m.1 244 g r = es r) (he : ∀ r, r < n → ∃ b, es r = ew_o 13 b)
    (k : ∀ f : Nat → ew_V, (∀ r, r < n → f r = es r) → K (.inl (some (ew_i 1))) (ew_hp (ew_u s 66 2 i (ei n)) (ew_cpy (ew_put (ew_mk m 84 i 10 (fun _ => ew_0)) 66 i 1 (ew_o 84 i)) 84 i 0 n f))) : ew_W (ew_Call (d + 1)) 211 K (26, [some (ew_o 66 i), some (ew_o 66 g'), some (ew_o 244 g), some (ew_i (ei n)), none, none], [], ew_hp s m) := by
  have hnn : (ei n).toNatClampNeg = n := ei_nat (by omega)
  have hpos : ¬ ei n ≤ 0 - 0 := by
    show ¬ ei n ≤ ei 0
    rw [ei_le (by omega) (by decide)]; omega
  have mid : ew_W (ew_Call (d + 1)) 211 K (56, [some (ew_o 66 i), some (ew_o 66 g'), some (ew_o 244 g), some (ew_i (ei n)), some (ew_o 84 i), some (ew_i 0)], [], ew_hp s (ew_put (ew_mk m 84 i 10 (fun _ => ew_0)) 66 i 1 (ew_o 84 i))) := by
    refine ew_go (fun pc => Nat.beq pc 66) 40 ⟨⟨by decide, by decide, ei_nn (by omega), ?_, ?_, fun j hj => ?_⟩, ?_⟩
    · show 0 + (ei n).toNatClampNeg ≤ ew_len (ew_hp s (ew_put (ew_mk m 84 i 10 (fun _ => ew_0)) 66 i 1 (ew_o 84 i))) 244 g
      rw [hnn, show ew_len (ew_hp s (ew_put (ew_mk m 84 i 10 (fun _ => ew_0)) 66 i 1 (ew_o 84 i))) 244 g = ew_len (ew_hp s m) 244 g from rfl, hl]; omega
    · show 0 + (ei n).toNatClampNeg ≤ 10
      rw [hnn]; omega
    · have hj : j < (ei n).toNatClampNeg := hj
      rw [hnn] at hj
      obtain ⟨b, hb⟩ := he j hj
      show ew_fit 2 ((ew_put (ew_mk m 84 i 10 (fun _ => ew_0)) 66 i 1 (ew_o 84 i)).1 244 g (0 + j))
      rw [ep_ne _ _ (by omega), em_ne _ _ _ _ (by omega), Nat.zero_add, hz j hj, hb]; rfl
    · show ew_W (ew_Call (d + 1)) 211 K (66, [some (ew_o 66 i), some (ew_o 66 g'), some (ew_o 244 g), some (ew_i (ei n)), some (ew_o 84 i), some (ew_i 0)], [], ew_cpy (ew_hp s (ew_put (ew_mk m 84 i 10 (fun _ => ew_0)) 66 i 1 (ew_o 84 i))) 84 i 0 (ei n).toNatClampNeg (fun j => (ew_put (ew_mk m 84 i 10 (fun _ => ew_0)) 66 i 1 (ew_o 84 i)).1 244 g (0 + j)))
      rw [hnn, ew_hp_cpt (fun _ => rfl)]
      have k := k (fun j => (ew_put (ew_mk m 84 i 10 (fun _ => ew_0)) 66 i 1 (ew_o 84 i)).1 244 g (0 + j)) (fun r hr => by rw [ep_ne _ _ (by omega), em_ne _ _ _ _ (by omega), Nat.zero_add, hz r hr])
      refine ew_go (fun _ => false) 40 ⟨trivial, Or.inr rfl, ?_⟩
      show K (.inl (some (ew_i 1))) (ew_put (ew_hp s (ew_cpy (ew_put (ew_mk m 84 i 10 (fun _ => ew_0)) 66 i 1 (ew_o 84 i)) 84 i 0 n _)) 66 i 2 (ew_i (0 + ei n)))
      rw [Int32.zero_add]
      exact ek_p rfl k
  refine ew_go (fun pc => Nat.beq pc 31) 40 (eq_s a1 ?_)
  refine ew_go (fun pc => Nat.beq pc 39) 40 (eq_s (w := ew_i 0) (congrArg ew_i e0) ?_)
  exact ew_go (fun pc => Nat.beq pc 56) 40 ⟨fun z => absurd z hpos, fun _ => xm_grow166 a1 hx (Int32.zero_add (ei n)) hn mid⟩
theorem xm_addAll66 {i j n : Nat} {es : Nat → ew_V} (hL : LR 66 j n es s m) (G : GI m) (hij : i ≠ j) (f0 : m.2.2.1 66 i = true) (e0 : s 66 2 i = 0) (a1 : m.1 66 i 1 = ew_o 212 0) (hx : m.2.2.1 84 i = false) (he : ∀ r, r < n → ∃ b, es r = ew_o 13 b)
    (g : ∀ s' m' v, LR 66 i n es s' m' → Ex (Pl 66 i) 2 s m s' m' → GI m' → K (.inl (some (ew_i v))) (ew_hp s' m')) : ew_Call (d + 2) 211 [ew_o 66 i, ew_o 66 j] (ew_hp s m) K := by
  obtain ⟨l1, l2, l3, l4⟩ := hL
  have hnn : (ei n).toNatClampNeg = n := ei_nat (by omega)
  have n244 := G.new (k := 244) rfl
  have G1 : ∀ z, GI (ew_mk m 244 (m.2.2.2.1 244) n z) := fun z => G.mk1 (k := 244) rfl
  have fin : ∀ z : Nat → ew_V, (∀ r, r < n → z r = es r) → ew_W (ew_Call (d + 1)) 211 K (6, [some (ew_o 66 i), some (ew_o 66 j), none, none, none, none], [ew_o 244 (m.2.2.2.1 244)], ew_hp s (ew_mk m 244 (m.2.2.2.1 244) n z)) := fun z hz => by
    have E1 : Ex (Pl 66 i) 1 s m s (ew_mk m 244 (m.2.2.2.1 244) n z) := (Ex.rf _ _ _).mk (k := 244) _ rfl (by omega) n244 (fun k' h' e => by have := ef_L_or h'; omega)
    have E2 : Ex (Pl 66 i) 1 s m (ew_u s 66 0 i (s 66 0 i + 1)) (ew_mk m 244 (m.2.2.2.1 244) n z) := E1.u _ rfl (Or.inl ⟨rfl, Or.inl rfl⟩)
    have e0' : ew_u s 66 0 i (s 66 0 i + 1) 66 2 i = 0 := (ew_u_ne _ _ (by omega)).trans e0
    have hlen : ew_len (ew_hp (ew_u s 66 0 i (s 66 0 i + 1)) (ew_mk m 244 (m.2.2.2.1 244) n z)) 244 (m.2.2.2.1 244) = n := by
      show ew_sl 244 ((ew_mk m 244 (m.2.2.2.1 244) n z).2.1 244 (m.2.2.2.1 244)) = n
      rw [ew_mk_nself]; rfl
    refine ew_go (fun pc => Nat.beq pc 17) 40 ⟨trivial, ?_⟩
    show ew_W (ew_Call (d + 1)) 211 K (17, [some (ew_o 66 i), some (ew_o 66 j), some (ew_o 244 (m.2.2.2.1 244)), none, none, none], [], ew_put (ew_hp s (ew_mk m 244 (m.2.2.2.1 244) n z)) 66 i 0 (ew_i (s 66 0 i + 1)))
    refine eq_1 rfl (ew_go (fun pc => Nat.beq pc 19) 40 (eq_s (w := ew_i (ei n)) (congrArg (fun x => ew_i (Int32.ofNat x)) hlen) ?_))
    by_cases hn0 : n = 0
    · have k := g (ew_u s 66 0 i (s 66 0 i + 1)) (ew_mk m 244 (m.2.2.2.1 244) n z) 0 ⟨em_xo _ _ _ f0, by rw [e0', hn0]; rfl, l3, Or.inr ⟨(em_ne _ _ _ _ (by omega)).trans a1, (em_xn _ _ _ (by omega)).trans hx, hn0⟩⟩ (E2.le (by decide)) (G1 z)
      have z0 : ei n = 0 := by rw [hn0]; rfl
      exact ew_go (fun _ => false) 40 ⟨fun c => absurd z0 c, fun _ => ⟨Or.inl rfl, k⟩⟩
    · have npos : 0 < n := by omega
      have z0 : ¬ ei n = 0 := fun c => hn0 ((ei_inj (b := 0) (by omega) (by decide)).mp c)
      refine ew_go (fun pc => Nat.beq pc 26) 40 ⟨fun _ => ?_, fun c => absurd z0 c⟩
      refine xl_addAll66 (s := ew_u s 66 0 i (s 66 0 i + 1)) (m := ew_mk m 244 (m.2.2.2.1 244) n z) npos l3 e0' hlen ((em_xn _ _ _ (by omega)).trans hx) ((em_ne _ _ _ _ (by omega)).trans a1) (fun r hr => (em_self _ _ _ _ _ _).trans (hz r hr)) he (fun f hf => ?_)
      refine g _ _ 1 ⟨?_, ew_u_self _ _ _ _ _, l3, Or.inl ⟨?_, ?_, fun r hr => ?_⟩⟩ ?_ ?_
      · exact em_xo _ _ (fun _ => ew_0) (em_xo _ _ z f0)
      · rw [ecp_ne _ _ _ (by omega), ep_self]
      · exact em_xs _ _ _ _ (fun _ => ew_0)
      · have := ecp_in (ew_put (ew_mk (ew_mk m 244 (m.2.2.2.1 244) n z) 84 i 10 (fun _ => ew_0)) 66 i 1 (ew_o 84 i)) (k := 84) (i := i) (a := 0) (n := n) f hr
        rw [Nat.zero_add] at this
        exact this.trans (hf r hr)
      · exact (((E2.mk (k := 84) (i := i) (N := 10) (fun _ => ew_0) rfl (by decide) hx (fun k' h' e => Or.inl ⟨rfl, Or.inl (by omega)⟩)).put _ rfl (Or.inl ⟨rfl, Or.inl rfl⟩)).cpy f rfl (Or.inl (fun p => ⟨rfl, Or.inr rfl⟩))).u _ rfl (Or.inl ⟨rfl, Or.inl rfl⟩)
      · exact (G1 z).arr (k := 66) (z := fun _ => ew_0) rfl (em_xo _ _ _ f0)
  have fin' : ∀ kb ib, m.1 66 j 1 = ew_o kb ib → ew_ct kb = 20 → n ≤ ew_len (ew_hp s m) kb ib → ew_len (ew_hp s m) kb ib ≤ 1000 → (∀ p, ew_sh kb p = none) → (∀ r, r < n → m.1 kb ib r = es r) → ew_Call (d + 2) 211 [ew_o 66 i, ew_o 66 j] (ew_hp s m) K := fun kb ib q1 q2 q3 q4 q5 q6 =>
    ew_call (ew_go (fun pc => Nat.beq pc 6) 40 (xm_toArray66 q1 l2 l3 q2 q3 q4 q5 (fun r hr => by obtain ⟨b, hb⟩ := he r hr; rw [q6 r hr, hb]; rfl) (fun z hz => fin z (fun r hr => (hz r hr).trans (q6 r hr)))))
  rcases l4 with ⟨b1, b2, b3⟩ | ⟨b1, b2, b3⟩
  · exact fin' 84 j b1 rfl (show n ≤ 10 from l3) (show 10 ≤ 1000 by decide) (fun _ => rfl) b3
  · exact fin' 212 0 b1 rfl (by rw [b3]; exact Nat.zero_le _) (show 0 ≤ 1000 by decide) (fun _ => rfl) (fun r hr => by omega)
end
