/-! The law's beginning: the sea that it makes. -/
/-- no land, nothing froze, before any hour -/
def SI (nb ns np T : Nat) (told : Int32) (s : ew_S) : Prop := LI nb ns np T 0 0 told s ∧ (∀ c, c < 15 → s 4 3 c = 0) ∧ s 9 6 0 = 0
section
variable {d : Nat} {s : ew_S} {m : ew_H} {K : ew_R → ew_H → Prop} {T nb ns np : Nat} {told : Int32}
theorem lw_s1 (hL : m.2.1 17 0 ≤ 100000) (k : ∀ T told s, T ≤ 4500 → SI 0 0 0 T told s → ew_W (ew_Call (d + 8)) 242 K (42, [some (ew_o 17 0), some (ew_o 11 0), some (ew_i (ei 15)), none, none, none, none, none, none, none, none, none, none, none], [], ew_hp s m)) : ∀ (r c : Nat) (y : Int32) (T : Nat) (told : Int32) (s : ew_S), y = ei c → c + r = 15 → T ≤ 300 * c → SI 0 0 0 T told s → (∀ i, c ≤ i → i < 15 → s 4 0 i = 0) →
    ew_W (ew_Call (d + 8)) 242 K (10, [some (ew_o 17 0), some (ew_o 11 0), some (ew_i y), none, none, none, none, none, none, none, none, none, none, none], [], ew_hp s m) := by
  intro r
  induction r with
  | zero =>
    intro c y T told s hy hc hT h hz
    obtain rfl : c = 15 := by omega
    subst hy
    exact ew_go (fun pc => Nat.beq pc 42) 20 ⟨fun _ => k T told s hT h, fun z => absurd (show (15 : Int32) ≤ ei 15 by decide) z⟩
  | succ r ih =>
    intro c y T told s hy hcr hT h hz
    subst hy
    have hc : c < 15 := by omega
    have h15 : ¬ (15 : Int32) ≤ ei c := fun z => by
      have := (ei_le (a := 15) (by decide) (by omega)).mp z
      omega
    obtain ⟨L, nl, f0⟩ := h
    have z0 := hz c (Nat.le_refl _) hc
    refine ew_go (fun pc => Nat.beq pc 10) 60 ⟨fun z => absurd z h15, fun _ => xv_cell hL (c := c) (by omega) rfl (fun v => xv_below v 80 (by decide) (by decide) rfl (fun x hx => xr_ice hc (show x ≤ 300 by omega) (nl c hc) rfl rfl ⟨fun _ => ?_, fun z => absurd z0 z⟩))⟩
    refine ih (c + 1) _ (T + 300) _ _ (ei_1 c) (by omega) (by omega) ⟨L.ice hc (by omega) (nl c hc), fun i hi => nl i hi, f0⟩ (fun i h1 h2 => ?_)
    rw [ew_u_ne _ _ (by omega)]
    exact hz i (by omega) h2
theorem lw_s2 (hL : m.2.1 17 0 ≤ 100000) (h : SI 0 0 0 T told s) {l2 : Option ew_V} (k : ∀ s', SI 0 0 2 T told s' → ew_W (ew_Call (d + 8)) 242 K (82, [some (ew_o 17 0), some (ew_o 11 0), l2, none, none, none, none, none, none, none, none, none, none, none], [], ew_hp s' m)) : ew_W (ew_Call (d + 8)) 242 K (42, [some (ew_o 17 0), some (ew_o 11 0), l2, none, none, none, none, none, none, none, none, none, none, none], [], ew_hp s m) := by
  obtain ⟨L, nl, f0⟩ := h
  refine ew_go (fun pc => Nat.beq pc 59) 60 (xv_cell hL (c := 0) (by decide) rfl (fun v => xv_below v 7 (by decide) (by decide) rfl (fun a ha => xr_port L.iv (c := a) (by omega) (nl a (by omega)) (fun p hp => absurd hp (Nat.not_lt_zero _)) (by decide) rfl ⟨fun z => absurd (show ei 0 = 0 from rfl) z, fun _ => ?_⟩)))
  have L1 := L.port (by decide) (c := a) (by omega)
  have nl1 : ∀ c, c < 15 → ew_u (ew_u s 7 1 0 (s 7 1 0 + 1)) 6 4 0 (ei a) 4 3 c = 0 := nl
  have e64 : ew_u (ew_u s 7 1 0 (s 7 1 0 + 1)) 6 4 0 (ei a) 6 4 0 = ei a := ew_u_self _ _ _ _ _
  have f1 : ew_u (ew_u s 7 1 0 (s 7 1 0 + 1)) 6 4 0 (ei a) 9 6 0 = 0 := f0
  revert L1 nl1 e64 f1
  show _ → _ → _ → _ → ew_W (ew_Call (d + 8)) 242 K (59, [some (ew_o 17 0), some (ew_o 11 0), l2, none, none, none, none, none, none, none, none, none, none, none], [], ew_hp (ew_u (ew_u s 7 1 0 (s 7 1 0 + 1)) 6 4 0 (ei a)) m)
  generalize ew_u (ew_u s 7 1 0 (s 7 1 0 + 1)) 6 4 0 (ei a) = s1
  intro L1 nl1 e64 f1
  refine ew_go (fun pc => Nat.beq pc 82) 60 (xv_cell hL (c := 1) (by decide) rfl (fun v => xv_below v 8 (by decide) (by decide) rfl (fun b hb => xr_port L1.iv (c := 7 + b) (by omega) (nl1 (7 + b) (by omega)) (fun p hp => ?_) (by decide) (ei_add 7 b) ⟨fun _ => ?_, fun z => absurd (show ei 1 = 1 from rfl) z⟩)))
  · obtain rfl : p = 0 := by omega
    rw [e64]
    intro z
    have := (ei_inj (by omega) (by omega)).mp z
    omega
  · exact k _ ⟨L1.port (by decide) (c := 7 + b) (by omega), nl1, f1⟩
theorem lw_s3 (hL : m.2.1 17 0 ≤ 100000) (k : ∀ s', SI 2 0 2 T told s' → ew_W (ew_Call (d + 8)) 242 K (132, [some (ew_o 17 0), some (ew_o 11 0), some (ew_i (ei 2)), none, none, none, none, none, none, none, none, none, none, none], [], ew_hp s' m)) : ∀ (r b : Nat) (y : Int32) (s : ew_S), y = ei b → b + r = 2 → SI b 0 2 T told s →
    ew_W (ew_Call (d + 8)) 242 K (84, [some (ew_o 17 0), some (ew_o 11 0), some (ew_i y), none, none, none, none, none, none, none, none, none, none, none], [], ew_hp s m) := by
  intro r
  induction r with
  | zero =>
    intro b y s hy hb h
    obtain rfl : b = 2 := by omega
    subst hy
    exact ew_go (fun pc => Nat.beq pc 132) 20 ⟨fun _ => k s h, fun z => absurd (show (2 : Int32) ≤ ei 2 by decide) z⟩
  | succ r ih =>
    intro b y s hy hbr h
    subst hy
    have hb : b < 2 := by omega
    have h2 : ¬ (2 : Int32) ≤ ei b := fun z => by
      have := (ei_le (a := 2) (by decide) (by omega)).mp z
      omega
    obtain ⟨L, nl, f0⟩ := h
    refine ew_go (fun pc => Nat.beq pc 84) 80 ⟨fun z => absurd z h2, fun _ => xv_cell hL (c := b + 2) (by omega) (ei_add b 2) (fun v => xv_below v 15 (by decide) (by decide) rfl (fun x hx => xv_cell hL (c := b) (by omega) rfl (fun v2 => xv_below v2 200 (by decide) (by decide) rfl (fun f hf => xr_breaker L.iv (c := x) hx (nl x hx) (v := 150 + f) (by omega) hb rfl (ei_add 150 f) ⟨fun _ => ?_, fun z => absurd rfl z⟩))))⟩
    exact ih (b + 1) _ _ (ei_1 b) (by omega) ⟨L.brk hb hx _, nl, f0⟩
theorem lw_s4b (h : SI 2 ns 2 T told s) (h5 : ns < 5) {c : Nat} (hc : c < 15) {v : Int32} (k : ∀ s', SI 2 (ns + 1) 2 T told s' → ew_W (ew_Call (d + 8)) 242 K (134, [some (ew_o 17 0), some (ew_o 11 0), some (ew_i (ei ns + 1)), some (ew_i v), none, none, none, none, none, none, none, none, none, none], [], ew_hp s' m)) : ew_W (ew_Call (d + 8)) 242 K (170, [some (ew_o 17 0), some (ew_o 11 0), some (ew_i (ei ns)), some (ew_i v), none, none, none, none, none, none, none, none, none, none], [ew_i (ei c), ew_o 11 0], ew_hp s m) := by
  obtain ⟨L, nl, f0⟩ := h
  refine ew_go (fun pc => Nat.beq pc 134) 80 (xv_below _ 5 (by decide) (by decide) rfl (fun r hr => xv_below _ 9 (by decide) (by decide) rfl (fun p hp => xv_below _ 2 (by decide) (by decide) rfl (fun o ho => xr_ship L.iv (c := c) hc (nl c hc) (show r ≤ 4 by omega) (v := 1 + p) (by omega) ho h5 rfl rfl (ei_add 1 p) rfl ⟨fun _ => ?_, fun z => absurd rfl z⟩))))
  exact k _ ⟨L.shp h5 hc (by omega) ho _, nl, f0⟩
theorem lw_s4 (hL : m.2.1 17 0 ≤ 100000) (k : ∀ s' u3, SI 2 5 2 T told s' → ew_W (ew_Call (d + 8)) 242 K (210, [some (ew_o 17 0), some (ew_o 11 0), some (ew_i (ei 5)), u3, none, none, none, none, none, none, none, none, none, none], [], ew_hp s' m)) : ∀ (r j : Nat) (y : Int32) (u3 : Option ew_V) (s : ew_S), y = ei j → j + r = 5 → SI 2 j 2 T told s →
    ew_W (ew_Call (d + 8)) 242 K (134, [some (ew_o 17 0), some (ew_o 11 0), some (ew_i y), u3, none, none, none, none, none, none, none, none, none, none], [], ew_hp s m) := by
  intro r
  induction r with
  | zero =>
    intro j y u3 s hy hj h
    obtain rfl : j = 5 := by omega
    subst hy
    exact ew_go (fun pc => Nat.beq pc 210) 20 ⟨fun _ => k s u3 h, fun z => absurd (show (5 : Int32) ≤ ei 5 by decide) z⟩
  | succ r ih =>
    intro j y u3 s hy hjr h
    subst hy
    have hj : j < 5 := by omega
    have h5 : ¬ (5 : Int32) ≤ ei j := fun z => by
      have := (ei_le (a := 5) (by decide) (by omega)).mp z
      omega
    have go : ∀ {v : Int32} {s' : ew_S}, SI 2 (j + 1) 2 T told s' → ew_W (ew_Call (d + 8)) 242 K (134, [some (ew_o 17 0), some (ew_o 11 0), some (ew_i (ei j + 1)), some (ew_i v), none, none, none, none, none, none, none, none, none, none], [], ew_hp s' m) := fun {v s'} h' => ih (j + 1) _ _ s' (ei_1 j) (by omega) h'
    by_cases h3 : j < 3
    · have n3 : ¬ (3 : Int32) ≤ ei j := fun z => by
        have := (ei_le (a := 3) (by decide) (by omega)).mp z
        omega
      have e2 : ei j - ei j / 2 * 2 = ei (j % 2) := ei_modn (n := 2) (by omega) (by decide) (by decide)
      have hb : j % 2 < 2 := Nat.mod_lt _ (by decide)
      obtain ⟨⟨c, hc, ec⟩, -⟩ := h.1.iv.2.2.2.1 (j % 2) hb
      have ec : s 3 1 (j % 2) = ei c := ec
      exact ew_go (fun pc => Nat.beq pc 170) 60 ⟨fun z => absurd z h5, fun _ => xv_cell hL (c := j + 5) (by omega) (ei_add j 5) (fun v => ⟨fun z => absurd z n3, fun _ => ⟨by decide, xq_bv h.1.iv (Fr.rf _ _) hb (w := 0) (by decide) e2 rfl (eq_s (w := ew_i (ei c)) (congrArg ew_i ec) (lw_s4b h hj hc (fun s' h' => go h')))⟩⟩)⟩
    · have n3 : (3 : Int32) ≤ ei j := (ei_le (a := 3) (by decide) (by omega)).mpr (by omega)
      exact ew_go (fun pc => Nat.beq pc 170) 60 ⟨fun z => absurd z h5, fun _ => xv_cell hL (c := j + 5) (by omega) (ei_add j 5) (fun v => ⟨fun _ => xv_below v 15 (by decide) (by decide) rfl (fun c hc => lw_s4b h hj hc (fun s' h' => go h')), fun z => absurd n3 z⟩)⟩
theorem lw_body (hL : m.2.1 17 0 ≤ 100000) (h : SI 0 0 0 0 told s) (hz : ∀ i, i < 15 → s 4 0 i = 0) (k : ∀ s' m', m'.2.2.2.2.1 ≤ m.2.2.2.2.1 + 2160 → m'.2.2.2.2.2 ≤ m.2.2.2.2.2 + 9840 → K (.inl (some (ew_i 1))) (ew_hp s' m')) :
    ew_W (ew_Call (d + 8)) 242 K (8, [some (ew_o 17 0), some (ew_o 11 0), none, none, none, none, none, none, none, none, none, none, none, none], [], ew_hp s m) := by
  refine ew_go (fun pc => Nat.beq pc 10) 20 (lw_s1 hL (fun T told1 s1 hT h1 => ?_) 15 0 0 0 told s rfl rfl (by omega) h (fun i _ hi => hz i hi))
  refine lw_s2 hL h1 (fun s2 h2 => ?_)
  refine ew_go (fun pc => Nat.beq pc 84) 20 (lw_s3 hL (fun s3 h3 => ?_) 2 0 0 s2 rfl rfl h2)
  refine ew_go (fun pc => Nat.beq pc 134) 20 (lw_s4 hL (fun s4 u3 h4 => ?_) 5 0 0 none s3 rfl rfl h3)
  obtain ⟨L, nl, f0⟩ := h4
  have e : sp_mv (ei 1) s4 = told1 := by
    show sp_ice s4 = told1
    rw [L.2.2.2.1, f0, Int32.add_zero]
  refine ew_go (fun pc => Nat.beq pc 215) 20 (xq_many L.iv (w := 1) (by decide) rfl ?_)
  refine eq_s (w := ew_i told1) (congrArg ew_i e) ?_
  refine ew_go (fun pc => Nat.beq pc 221) 20 (lw_ml (T0 := 4500) (c0 := m.2.2.2.2.1) (n0 := m.2.2.2.2.2) (by decide) (fun T' t' ρ' told' s' m' v5 v6 v7 v8 v9 v10 v11 v12 v13 h' b1 b2 b3 b4 => ?_) 48 0 0 T 0 0 told1 s4 m none none none none none none none none none rfl rfl L (by omega) (by decide) (by decide) hL (Nat.le_refl _) (Nat.le_refl _))
  refine lw_end h'.iv (by omega) ?_ (fun s2 => k s2 m' (by omega) (by omega))
  rw [h'.2.2.1]
  exact (ei_le (a := 0) (by decide) (by omega)).mpr (by omega)
end
