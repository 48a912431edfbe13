/-! The class's chart. -/
theorem ew_min_ei {a b : Nat} (ha : a < 2147483648) (hb : b < 2147483648) : ew_min (ei a) (ei b) = ei (Nat.min a b) := by
  unfold ew_min
  by_cases h : b < a
  · rw [if_pos ((ei_lt hb ha).mpr h), show Nat.min a b = b from Nat.min_eq_right (by omega)]
  · rw [if_neg (fun z => h ((ei_lt hb ha).mp z)), show Nat.min a b = a from Nat.min_eq_left (by omega)]
theorem d_stop {pr C : Nat → Nat} {fr k : Nat} (hk : k ≤ 15) (h : d_I pr fr k C) (h0 : ∀ c, c < 15 → ¬ pr c = 2 → C c ≤ d_m C c + pr c) : d_I pr fr 15 C := by
  have key : ∀ m c, c < 15 → C c ≤ d_D pr fr (k + m) c := by
    intro m
    induction m with
    | zero => exact fun c hc => (h c hc).2
    | succ m ih =>
      intro c hc
      show C c ≤ (if pr c = 2 then d_D pr fr (k + m) c else Nat.min (d_D pr fr (k + m) c) (d_m (d_D pr fr (k + m)) c + pr c))
      by_cases hp : pr c = 2
      · rw [if_pos hp]; exact ih c hc
      · rw [if_neg hp]
        refine Nat.le_min.mpr ⟨ih c hc, Nat.le_trans (h0 c hc hp) (Nat.add_le_add_right ?_ _)⟩
        rcases d_m_or (d_D pr fr (k + m)) hc with e | ⟨w, t, hw, ht, e, e2⟩
        · rw [e]; exact d_m_1000 C c
        · rw [e2]; exact Nat.le_trans (d_m_le hw ht e) (ih t ht)
  intro c hc
  refine ⟨(h c hc).1, ?_⟩
  have := key (15 - k) c hc
  rw [show k + (15 - k) = 15 by omega] at this
  exact this
def d_z (p : Nat) : Int32 := if p = 2 then -1 else ei p
/-- the chart holds prices pr and costs C -/
def d_R (pr C : Nat → Nat) (s : ew_S) : Prop := ∀ c, c < 15 → s 241 c 0 = ei (C c) ∧ C c ≤ 1000 ∧ s 209 c 0 = d_z (pr c) ∧ pr c ≤ 2
def d_res (pr : Nat → Nat) (fr to : Nat) : Int32 := if d_D pr fr 15 to < 1000 then ei (d_D pr fr 15 to) else -1
def d_mj (f : Nat → Nat) (c : Nat) : Nat → Nat
  | 0 => 1000
  | j + 1 => Nat.min (d_mj f c j) (d_n f c j)
theorem d_mj_1000 (f : Nat → Nat) (c : Nat) : ∀ j, d_mj f c j ≤ 1000
  | 0 => Nat.le_refl _
  | j + 1 => Nat.le_trans (Nat.min_le_left _ _) (d_mj_1000 f c j)
section
variable {d : Nat} {s : ew_S} {m : ew_H} {K : ew_R → ew_H → Prop} {pr C : Nat → Nat} {fr k0 : Nat}
theorem xc_setPrice (c : Nat) (hc : c < 15) (x : Int32) (k : K (.inl none) (ew_hp (ew_u s 209 c 0 x) m)) : ew_Call (d + 1) 14 [ew_o 5 0, ew_i (ei c), ew_i x] (ew_hp s m) K := by
  refine ew_call (ew_go (fun _ => false) 40 ⟨fun z => absurd z (ei_nn (by omega)), fun z => ⟨fun e => absurd (show ei c < ei 15 from (ei_lt (by omega) (by decide)).mpr hc) (fun w => Int32.not_le.mpr w e), fun e => ⟨⟨ei_ix (n := 15) hc (by decide), trivial⟩, trivial, ?_⟩⟩⟩)
  show K (.inl none) (ew_put (ew_hp s m) 209 0 (ei c).toNatClampNeg (ew_i x))
  rw [ei_nat (by omega)]
  exact ek_p rfl k
theorem xc_costAt (h : d_R pr C s) {c w : Nat} {x : Int32} (hc : c < 15) (hx : x = ef_nb c (ei w)) (k : K (.inl (some (ew_i (ei (d_n C c w))))) (ew_hp s m)) : ew_Call (d + 1) 18 [ew_o 5 0, ew_i x] (ew_hp s m) K := by
  subst hx
  unfold d_n at k
  rcases ef_nb_r hc (ei w) with e | ⟨t, ht, e, -⟩
  · rw [if_pos e] at k
    rw [e]
    exact ew_call (ew_go (fun _ => false) 40 ⟨fun _ => ⟨trivial, k⟩, fun z => absurd (show (-1 : Int32) < 0 by decide) z⟩)
  · rw [e, if_neg (ei_m1 t ht), ei_nat (by omega)] at k
    rw [e]
    have lt : ei t < ei 15 := (ei_lt (by omega) (by decide)).mpr ht
    refine ew_call (ew_go (fun _ => false) 40 ⟨fun z => absurd z (ei_nn (by omega)), fun z => ⟨fun e => absurd lt (Int32.not_lt.mpr e), fun _ => ⟨ei_ix (n := 15) ht (by decide), trivial, ?_⟩⟩⟩)
    show K (.inl (some (ew_i (s 241 (ei t).toNatClampNeg 0)))) (ew_hp s m)
    rw [ei_nat (by omega), (h t ht).1]; exact k
theorem xc_costTo (h : d_R pr C s) {t : Nat} (ht : t < 15) (k : K (.inl (some (ew_i (ei (C t))))) (ew_hp s m)) : ew_Call (d + 1) 18 [ew_o 5 0, ew_i (ei t)] (ew_hp s m) K := by
  have lt : ei t < ei 15 := (ei_lt (by omega) (by decide)).mpr ht
  refine ew_call (ew_go (fun _ => false) 40 ⟨fun z => absurd z (ei_nn (by omega)), fun z => ⟨fun e => absurd lt (Int32.not_lt.mpr e), fun _ => ⟨ei_ix (n := 15) ht (by decide), trivial, ?_⟩⟩⟩)
  show K (.inl (some (ew_i (s 241 (ei t).toNatClampNeg 0)))) (ew_hp s m)
  rw [ei_nat (by omega), (h t ht).1]; exact k
theorem xl_cheapN (h : d_R pr C s) {c : Nat} (hc : c < 15) (k : K (.inl (some (ew_i (ei (d_m C c))))) (ew_hp s m)) : ∀ (r j : Nat) (y v : Int32), y = ei j → v = ei (d_mj C c j) → j + r = 4 →
    ew_W (ew_Call (d + 1)) 17 K (6, [some (ew_o 5 0), some (ew_i (ei c)), some (ew_i v), some (ew_i y)], [], ew_hp s m) := by
  intro r
  induction r with
  | zero =>
    intro j y v hy hv hj
    subst hy; subst hv
    obtain rfl : j = 4 := by omega
    exact ew_go (fun pc => Nat.beq pc 6) 40 ⟨fun _ => ⟨trivial, k⟩, fun z => absurd (show (3 : Int32) < ei 4 by decide) z⟩
  | succ r ih =>
    intro j y v hy hv hj
    subst hy; subst hv
    have nlt : ¬ ei 3 < ei j := by rw [ei_lt (by decide) (by omega)]; omega
    refine ew_go (fun pc => Nat.beq pc 6) 60 ⟨fun z => absurd z nlt, fun _ => xc_neighbour c hc _ (xc_costAt h (w := j) hc rfl (ih (j + 1) _ _ (ei_1 _) ?_ (by omega)))⟩
    have h1 := d_mj_1000 C c j
    have h2 : d_n C c j ≤ 1000 := by
      rcases d_n_or C (w := j) hc with e | ⟨t, ht, -, e⟩
      · omega
      · rw [e]; exact (h t ht).2.1
    exact ew_min_ei (by omega) (by omega)
theorem xc_cheapN (h : d_R pr C s) {c : Nat} (hc : c < 15) (k : K (.inl (some (ew_i (ei (d_m C c))))) (ew_hp s m)) : ew_Call (d + 2) 17 [ew_o 5 0, ew_i (ei c)] (ew_hp s m) K :=
  ew_call (ew_go (fun pc => Nat.beq pc 6) 40 (xl_cheapN (d := d) h hc k 4 0 0 1000 rfl rfl rfl))
abbrev Pt : Nat → Nat → Nat → Prop := fun k _ o => k = 241 ∧ o = 0
theorem xl_relax (hk : k0 < 15) (k : ∀ (s' : ew_S) (C' : Nat → Nat) (v : Int32), d_R pr C' s' → d_I pr fr (k0 + 1) C' → (v = 0 ∨ v = 1) → (v = 0 → ∀ c, c < 15 → ¬ pr c = 2 → C' c ≤ d_m C' c + pr c) → Fr Pt s s' → K (.inl (some (ew_i v))) (ew_hp s' m)) :
    ∀ (r j : Nat) (y v : Int32) (w : Option ew_V) (s1 : ew_S) (C : Nat → Nat), y = ei j → j + r = 15 → d_R pr C s1 → d_I pr fr k0 C → (∀ c, c < j → C c ≤ d_D pr fr (k0 + 1) c) → (v = 0 ∨ v = 1) → (v = 0 → ∀ c, c < j → ¬ pr c = 2 → C c ≤ d_m C c + pr c) → Fr Pt s s1 →
    ew_W (ew_Call (d + 2)) 16 K (4, [some (ew_o 5 0), some (ew_i v), some (ew_i y), w], [], ew_hp s1 m) := by
  intro r
  induction r with
  | zero =>
    intro j y v w s1 C hy hj h hI hU hv h0 F
    subst hy
    obtain rfl : j = 15 := by omega
    have lt : ei 15 ≤ ei 15 := Int32.le_refl _
    exact ew_go (fun pc => Nat.beq pc 4) 40 ⟨fun _ => ⟨hv, k s1 C v h (fun c hc => ⟨(hI c hc).1, hU c hc⟩) hv h0 F⟩, fun z => absurd lt z⟩
  | succ r ih =>
    intro j y v w s1 C hy hj h hI hU hv h0 F
    subst hy
    have hj15 : j < 15 := by omega
    have hn : (ei j).toNatClampNeg = j := ei_nat (by omega)
    have ixj : ew_ix (ei j) 15 := ei_ix hj15 (by decide)
    have clt : ¬ ei 15 ≤ ei j := by rw [ei_le (by decide) (by omega)]; omega
    obtain ⟨h1, h2, h3, h4⟩ := h j hj15
    by_cases hp : pr j = 2
    · have hz : s1 209 j 0 = -1 := by rw [h3, d_z, if_pos hp]
      have nx := ih (j + 1) (ei j + 1) v w s1 C (ei_1 _) (by omega) h hI (fun c hc => by
        by_cases e : c = j
        · subst e
          rw [show d_D pr fr (k0 + 1) c = d_D pr fr k0 c from if_pos hp]
          exact (hI c hj15).2
        · exact hU c (by omega)) hv (fun hv0 c hc hpc => by
        by_cases e : c = j
        · subst e; exact absurd hp hpc
        · exact h0 hv0 c (by omega) hpc) F
      refine ew_go (fun pc => Nat.beq pc 4) 60 ⟨fun z => absurd z clt, fun _ => ⟨fun z => absurd z clt, fun _ => ⟨ixj, fun e => nx, fun e => absurd (show s1 209 (ei j).toNatClampNeg 0 = -1 from ?_) e⟩⟩⟩
      rw [hn]; exact hz
    · have hp2 : pr j < 2 := by omega
      have hz : s1 209 j 0 = ei (pr j) := by rw [h3, d_z, if_neg hp]
      obtain ⟨p1, p2⟩ := d_pull hj15 hI hp
      have hm := d_m_1000 C j
      have cont : ew_W (ew_Call (d + 2)) 16 K (45, [some (ew_o 5 0), some (ew_i v), some (ew_i (ei j)), some (ew_i (ei (d_m C j + pr j)))], [], ew_hp s1 m) := by
        refine ew_go (fun pc => Nat.beq pc 4 || Nat.beq pc 62) 60 ⟨ixj, fun e => ?_, fun e => ⟨⟨ixj, trivial⟩, ?_⟩⟩
        · have e : s1 241 (ei j).toNatClampNeg 0 ≤ ei (d_m C j + pr j) := e
          rw [hn, h1, ei_le (by omega) (by omega)] at e
          have em : Nat.min (C j) (d_m C j + pr j) = C j := Nat.min_eq_left e
          rw [em] at p2
          exact ih (j + 1) (ei j + 1) v _ s1 C (ei_1 _) (by omega) h hI (fun c hc => by
            by_cases e : c = j
            · subst e; exact p2
            · exact hU c (by omega)) hv (fun hv0 c hc hpc => by
            by_cases e2 : c = j
            · subst e2; exact e
            · exact h0 hv0 c (by omega) hpc) F
        · have e : ¬ s1 241 (ei j).toNatClampNeg 0 ≤ ei (d_m C j + pr j) := e
          rw [hn, h1, ei_le (by omega) (by omega)] at e
          have em : Nat.min (C j) (d_m C j + pr j) = d_m C j + pr j := Nat.min_eq_right (by omega)
          rw [em] at p1 p2
          show ew_W (ew_Call (d + 2)) 16 K (62, [some (ew_o 5 0), some (ew_i v), some (ew_i (ei j)), some (ew_i (ei (d_m C j + pr j)))], [], ew_put (ew_hp s1 m) 241 0 (ei j).toNatClampNeg (ew_i (ei (d_m C j + pr j))))
          rw [hn]
          refine eq_1 rfl (ew_go (fun pc => Nat.beq pc 4) 60 (ih (j + 1) (ei j + 1) 1 _ _ (fun c => if c = j then d_m C j + pr j else C c) (ei_1 _) (by omega) (fun c hc => ?_) (fun c hc => ?_) (fun c hc => ?_) (Or.inr rfl) (fun z => absurd z (by decide)) (F.u _ ⟨rfl, rfl⟩)))
          · obtain ⟨g1, g2, g3, g4⟩ := h c hc
            by_cases e2 : c = j
            · subst e2
              try dsimp only
              rw [if_pos rfl, ew_u_self]
              exact ⟨rfl, by omega, g3, g4⟩
            · try dsimp only
              rw [if_neg e2, ew_u_ne _ _ (by omega)]
              exact ⟨g1, g2, g3, g4⟩
          · by_cases e2 : c = j
            · subst e2
              try dsimp only
              rw [if_pos rfl]
              exact ⟨p1, by have := (hI c hc).2; omega⟩
            · try dsimp only
              rw [if_neg e2]; exact hI c hc
          · by_cases e2 : c = j
            · subst e2
              try dsimp only
              rw [if_pos rfl]; exact p2
            · try dsimp only
              rw [if_neg e2]; exact hU c (by omega)
      have hpa : s1 209 (ei j).toNatClampNeg 0 = ei (pr j) := by rw [hn]; exact hz
      refine ew_go (fun pc => Nat.beq pc 4 || Nat.beq pc 44) 60 ⟨fun z => absurd z clt, fun _ => ⟨fun z => absurd z clt, fun _ => ⟨ixj, fun e => absurd e (show ¬ s1 209 (ei j).toNatClampNeg 0 = -1 from ?_), fun e => xc_cheapN h hj15 ⟨ixj, eq_s (w := ew_i (ei (d_m C j + pr j))) ?_ ?_⟩⟩⟩⟩
      · rw [hpa]; exact ei_m1 _ (by omega)
      · show ew_i (ei (d_m C j) + s1 209 (ei j).toNatClampNeg 0) = _
        rw [hpa, ei_add]
      · show ew_W (ew_Call (d + 2)) 16 K (44, [some (ew_o 5 0), some (ew_i v), some (ew_i (ei j)), w], [ew_i (ei (d_m C j + pr j))], ew_hp s1 m)
        exact ew_go (fun pc => Nat.beq pc 45) 60 cont
theorem xc_relax (hk : k0 < 15) (h : d_R pr C s) (hI : d_I pr fr k0 C) (k : ∀ (s' : ew_S) (C' : Nat → Nat) (v : Int32), d_R pr C' s' → d_I pr fr (k0 + 1) C' → (v = 0 ∨ v = 1) → (v = 0 → ∀ c, c < 15 → ¬ pr c = 2 → C' c ≤ d_m C' c + pr c) → Fr Pt s s' → K (.inl (some (ew_i v))) (ew_hp s' m)) : ew_Call (d + 3) 16 [ew_o 5 0] (ew_hp s m) K :=
  ew_call (ew_go (fun pc => Nat.beq pc 4) 40 (xl_relax (d := d) hk k 15 0 0 0 none s C rfl rfl h hI (fun c hc => absurd hc (Nat.not_lt_zero _)) (Or.inl rfl) (fun _ c hc => absurd hc (Nat.not_lt_zero _)) (Fr.rf _ _)))
theorem xl_cheap2 {to : Nat} {f : Int32} (ht : to < 15) (k : ∀ s', Fr Pt s s' → K (.inl (some (ew_i (d_res pr fr to)))) (ew_hp s' m)) : ∀ (r j : Nat) (y v : Int32) (s1 : ew_S) (C : Nat → Nat), y = ei j → j + r = 15 → d_R pr C s1 → ((v = 1 ∧ d_I pr fr j C) ∨ (v = 0 ∧ d_I pr fr 15 C)) → Fr Pt s s1 →
    ew_W (ew_Call (d + 3)) 15 K (40, [some (ew_o 5 0), some (ew_i f), some (ew_i (ei to)), some (ew_i v), some (ew_i y)], [], ew_hp s1 m) := by
  have fin : ∀ (v y : Int32) (s1 : ew_S) (C : Nat → Nat), d_R pr C s1 → d_I pr fr 15 C → Fr Pt s s1 → ew_W (ew_Call (d + 3)) 15 K (62, [some (ew_o 5 0), some (ew_i f), some (ew_i (ei to)), some (ew_i v), some (ew_i y)], [], ew_hp s1 m) := by
    intro v y s1 C h hI F
    have k := k s1 F
    have e := d_end hI ht
    have h1 := (h to ht).2.1
    unfold d_res at k
    rw [← e] at k
    refine ew_go (fun _ => false) 60 (xc_costTo h ht ⟨fun z => ?_, fun z => ?_⟩)
    · have z : ei 1000 ≤ ei (C to) := z
      rw [ei_le (by decide) (by omega)] at z
      rw [if_neg (by omega)] at k
      exact ⟨trivial, k⟩
    · have z : ¬ ei 1000 ≤ ei (C to) := z
      rw [ei_le (by decide) (by omega)] at z
      rw [if_pos (by omega)] at k
      exact ⟨trivial, k⟩
  intro r
  induction r with
  | zero =>
    intro j y v s1 C hy hj h hI F
    subst hy
    obtain rfl : j = 15 := by omega
    have hI : d_I pr fr 15 C := by
      rcases hI with z | z
      · exact z.2
      · exact z.2
    exact ew_go (fun pc => Nat.beq pc 40 || Nat.beq pc 62) 40 ⟨fun _ => fin v _ s1 C h hI F, fun z => absurd (show ei 15 ≤ ei 15 by decide) z⟩
  | succ r ih =>
    intro j y v s1 C hy hj h hI F
    subst hy
    have hj15 : j < 15 := by omega
    have clt : ¬ ei 15 ≤ ei j := by rw [ei_le (by decide) (by omega)]; omega
    rcases hI with ⟨rfl, hI⟩ | ⟨rfl, hI⟩
    · refine ew_go (fun pc => Nat.beq pc 40 || Nat.beq pc 62) 60 ⟨fun z => absurd z clt, fun _ => ⟨fun z => absurd z (show ¬ (1 : Int32) = 0 by decide), fun _ => xc_relax hj15 h hI (fun s' C' v' r1 r2 r3 r4 r5 => ih (j + 1) _ v' s' C' (ei_1 _) (by omega) r1 ?_ (F.tr r5))⟩⟩
      rcases r3 with rfl | rfl
      · exact Or.inr ⟨rfl, d_stop (by omega) r2 (r4 rfl)⟩
      · exact Or.inl ⟨rfl, r2⟩
    · exact ew_go (fun pc => Nat.beq pc 40 || Nat.beq pc 62) 60 ⟨fun z => absurd z clt, fun _ => ⟨fun _ => fin 0 _ s1 C h hI F, fun z => absurd rfl z⟩⟩
theorem xl_cheap1 {to f : Nat} (hf : f < 15) (ht : to < 15) (hpr : ∀ c, c < 15 → s 209 c 0 = d_z (pr c) ∧ pr c ≤ 2) (k : ∀ s', Fr Pt s s' → K (.inl (some (ew_i (d_res pr f to)))) (ew_hp s' m)) : ∀ (r j : Nat) (y : Int32) (s1 : ew_S), y = ei j → j + r = 15 → Fr Pt s s1 → (∀ c, c < j → s1 241 c 0 = ei (d_D pr f 0 c)) →
    ew_W (ew_Call (d + 3)) 15 K (2, [some (ew_o 5 0), some (ew_i (ei f)), some (ew_i (ei to)), some (ew_i y), none], [], ew_hp s1 m) := by
  intro r
  induction r with
  | zero =>
    intro j y s1 hy hj F h
    subst hy
    obtain rfl : j = 15 := by omega
    have hR : d_R pr (d_D pr f 0) s1 := fun c hc => ⟨h c hc, d_D_1000 0 c, (F 209 c 0 (show ¬ (209 = 241 ∧ 0 = 0) by omega)).trans (hpr c hc).1, (hpr c hc).2⟩
    have lt : ei 15 ≤ ei 15 := Int32.le_refl _
    exact ew_go (fun pc => Nat.beq pc 2 || Nat.beq pc 40) 40 ⟨fun _ => xl_cheap2 (d := d) (s := s) ht k 15 0 0 1 s1 _ rfl rfl hR (Or.inl ⟨rfl, fun c hc => ⟨d_D_mono (Nat.zero_le _) c, Nat.le_refl _⟩⟩) F, fun z => absurd lt z⟩
  | succ r ih =>
    intro j y s1 hy hj F h
    subst hy
    have hj15 : j < 15 := by omega
    have hn : (ei j).toNatClampNeg = j := ei_nat (by omega)
    have ixj : ew_ix (ei j) 15 := ei_ix hj15 (by decide)
    have clt : ¬ ei 15 ≤ ei j := by rw [ei_le (by decide) (by omega)]; omega
    have tail : ∀ x : Int32, x = ei (d_D pr f 0 j) → ew_W (ew_Call (d + 3)) 15 K (28, [some (ew_o 5 0), some (ew_i (ei f)), some (ew_i (ei to)), some (ew_i (ei j)), none], [ew_i x, ew_i (ei j), ew_o 241 0], ew_hp s1 m) := by
      intro x hx
      subst hx
      refine ew_go (fun pc => Nat.beq pc 29) 40 ⟨⟨ixj, trivial⟩, ?_⟩
      show ew_W (ew_Call (d + 3)) 15 K (29, [some (ew_o 5 0), some (ew_i (ei f)), some (ew_i (ei to)), some (ew_i (ei j)), none], [], ew_put (ew_hp s1 m) 241 0 (ei j).toNatClampNeg (ew_i (ei (d_D pr f 0 j))))
      rw [hn]
      refine eq_1 rfl (ew_go (fun pc => Nat.beq pc 2) 40 (ih (j + 1) _ _ (ei_1 _) (by omega) (F.u _ ⟨rfl, rfl⟩) (fun c hc => ?_)))
      by_cases e : c = j
      · subst e; exact ew_u_self _ _ _ _ _
      · rw [ew_u_ne _ _ (by omega)]; exact h c (by omega)
    refine ew_go (fun pc => Nat.beq pc 2 || Nat.beq pc 28) 60 ⟨fun z => absurd z clt, fun _ => ⟨fun e => tail _ ?_, fun e => tail _ ?_⟩⟩
    · have e : ¬ ei j = ei f := e
      rw [ei_inj (by omega) (by omega)] at e
      show _ = ei (if j = f then 0 else 1000)
      rw [if_neg e]; rfl
    · have e : ¬ ¬ ei j = ei f := e
      rw [ei_inj (by omega) (by omega), Classical.not_not] at e
      show _ = ei (if j = f then 0 else 1000)
      rw [if_pos e]; rfl
theorem xc_cheapest {to f : Nat} (hf : f < 15) (ht : to < 15) (hpr : ∀ c, c < 15 → s 209 c 0 = d_z (pr c) ∧ pr c ≤ 2) (k : ∀ s', Fr Pt s s' → K (.inl (some (ew_i (d_res pr f to)))) (ew_hp s' m)) : ew_Call (d + 4) 15 [ew_o 5 0, ew_i (ei f), ew_i (ei to)] (ew_hp s m) K :=
  ew_call (ew_go (fun pc => Nat.beq pc 2) 40 (xl_cheap1 (d := d) hf ht hpr k 15 0 0 s rfl rfl (Fr.rf _ _) (fun c hc => absurd hc (Nat.not_lt_zero _))))
end
