/-! The model's shortest ways: the loops. -/
section
variable {d : Nat} {K : ew_R → ew_H → Prop} {q i nb ns np T : Nat} {β σ : Nat → Nat} {ρ : Nat → Nat → Nat} {z : ew_Z3} {a s : ew_S} {m : ew_H}
theorem rc.fe {s1 : ew_S} {g : Nat} (h : rc q i z a s m) (F : Fr (Pe g) s s1) : rc q i z a s1 m := by
  have f : ∀ {k p o : Nat}, k ≠ 465 → s1 k p o = s k p o := fun n => F _ _ _ (fun w => n w.1)
  obtain ⟨g1, g2, g3, g4⟩ := h
  refine ⟨g1, (f (by decide)).trans g2, ?_, fun c hc => ?_⟩
  · rw [f (by decide)]; exact g3
  · rw [f (by decide), f (by decide), f (by decide), f (by decide)]; exact g4 c hc
theorem CC.fe {s1 : ew_S} {g : Nat} (h : CC s) (F : Fr (Pe g) s s1) : CC s1 := by
  have f : ∀ {k p o : Nat}, k ≠ 465 → s1 k p o = s k p o := fun n => F _ _ _ (fun w => n w.1)
  refine ⟨fun c hc => (f (by decide)).trans (h.1 c hc), fun r hr => (f (by decide)).trans (h.2 r hr)⟩
theorem rw3.fe {s1 : ew_S} {g J o : Nat} (h : rw3 J o a s) (F : Fr (Pe g) s s1) : rw3 J o a s1 := by
  have f : ∀ {k p o : Nat}, k ≠ 465 → s1 k p o = s k p o := fun n => F _ _ _ (fun w => n w.1)
  obtain ⟨h1, r, hr, h2, h3⟩ := h
  exact ⟨(f (by decide)).trans h1, r, hr, (f (by decide)).trans h2, h3⟩
/-- which prices are asked for -/
def d_by (q J : Nat) (a : ew_S) (b : Int32) (pr : Nat → Nat) : Prop := (b = 0 ∧ pr = sp_pw q J a) ∨ (b = 1 ∧ pr = sp_pb q J a)
theorem d_by_le {J : Nat} {b : Int32} {pr : Nat → Nat} (h : d_by q J a b pr) (c : Nat) : pr c ≤ 2 := by
  rcases h with ⟨-, rfl⟩ | ⟨-, rfl⟩
  · exact sp_pw_le _ _ _ _
  · exact sp_pb_le _ _ _ _
theorem xl_lcost (hR : rc q i z a s m) (hC : CC s) {J o t : Nat} (h3 : rw3 J o a s) (ht : t < 15) (hc : iv_c (ea a (t + 15 * q))) {b : Int32} {pr : Nat → Nat} (hb : d_by q J a b pr) {l2 l4 l5 l6 l7 l9 : Option ew_V}
    (k : ew_W (ew_Call (d + 4)) 127 K (126, [some (ew_o 14 i), some (ew_o 15 o), l2, some (ew_i b), l4, l5, l6, l7, some (ew_i (ei t)), l9], [ew_i (d_z (pr t))], ew_hp s m)) : ew_W (ew_Call (d + 4)) 127 K (97, [some (ew_o 14 i), some (ew_o 15 o), l2, some (ew_i b), l4, l5, l6, l7, some (ew_i (ei t)), l9], [], ew_hp s m) := by
  rcases hb with ⟨rfl, rfl⟩ | ⟨rfl, rfl⟩
  · refine ew_go (fun pc => Nat.beq pc 126) 60 ⟨fun _ => xm_canEnter hR hC h3 ht hc (fun w => ⟨fun e => absurd e (show ¬ (1 : Int32) = 0 by decide), fun _ => ?_⟩) (fun w => ⟨fun _ => ?_, fun e => absurd rfl e⟩), fun e => absurd rfl e⟩
    · rw [sp_pw1 w] at k; exact k
    · rw [sp_pw2 w] at k; exact k
  · exact ew_go (fun pc => Nat.beq pc 126) 60 ⟨fun e => absurd e (show ¬ (1 : Int32) = 0 by decide), fun _ => xm_costs hR hC h3 ht hc k⟩
theorem d_z_n1 {p : Nat} (h : p ≤ 2) : d_z p = -1 ↔ p = 2 := by
  unfold d_z
  by_cases e : p = 2
  · rw [if_pos e]; exact ⟨fun _ => e, fun _ => rfl⟩
  · rw [if_neg e]; exact ⟨fun x => absurd x (ei_m1 p (by omega)), fun x => absurd x e⟩
/-- one step to a neighbour -/
theorem xl_lpush {J o g N k0 fr x y t : Nat} {l2 l3 l5 : Option ew_V} {pr B : Nat → Nat} {s1 : ew_S} (hle : ∀ c, pr c ≤ 2) (hx : x < 15) (hy : y < 4) (ht : t < 15) (hN : N < 990) (e : ef_nb x (ei y) = ei t) (hxB : ¬ B x = 1000) (hB : d_B g N B s1) (hI : d_I pr fr k0 B) (hP : d_P pr fr k0 x y B) (F : Fr (Pe g) s s1)
    (k : ∀ s2 B2, d_B g (N + 1) B2 s2 → d_I pr fr k0 B2 → d_P pr fr k0 x (y + 1) B2 → Fr (Pe g) s s2 → ew_W (ew_Call (d + 4)) 127 K (172, [some (ew_o 14 i), some (ew_o 15 o), l2, l3, some (ew_o 465 g), l5, some (ew_i (ei x)), some (ew_i (ei y)), some (ew_i (ei t)), some (ew_i (d_z (pr t)))], [], ew_hp s2 m)) :
    ew_W (ew_Call (d + 4)) 127 K (128, [some (ew_o 14 i), some (ew_o 15 o), l2, l3, some (ew_o 465 g), l5, some (ew_i (ei x)), some (ew_i (ei y)), some (ew_i (ei t)), some (ew_i (d_z (pr t)))], [], ew_hp s1 m) := by
  have htn : (ei t).toNatClampNeg = t := ei_nat (by omega)
  have hxn : (ei x).toNatClampNeg = x := ei_nat (by omega)
  have ixt : ew_ix (ei t) 15 := ei_ix ht (by decide)
  have ixx : ew_ix (ei x) 15 := ei_ix hx (by decide)
  have vx : s1 465 x g = ei (B x) := by rw [(hB x hx).1, if_neg hxB]
  have bx : B x ≤ N := (hB x hx).2.resolve_right hxB
  have hskip : (∀ t', t' < 15 → ¬ pr t' = 2 → ef_nb x (ei y) = ei t' → B t' ≤ d_D pr fr k0 x + pr t') → ew_W (ew_Call (d + 4)) 127 K (172, [some (ew_o 14 i), some (ew_o 15 o), l2, l3, some (ew_o 465 g), l5, some (ew_i (ei x)), some (ew_i (ei y)), some (ew_i (ei t)), some (ew_i (d_z (pr t)))], [], ew_hp s1 m) := fun hs =>
    k s1 B (fun c hc => ⟨(hB c hc).1, (hB c hc).2.imp (fun h => by omega) id⟩) hI (d_skip hP hs) F
  have hsame : ∀ t', t' < 15 → ef_nb x (ei y) = ei t' → t' = t := fun t' ht' e' => (ei_inj (by omega) (by omega)).mp (e'.symm.trans e)
  by_cases hp : pr t = 2
  · exact ew_go (fun pc => Nat.beq pc 172) 60 ⟨fun _ => hskip (fun t' ht' hp' e' => absurd (hsame t' ht' e' ▸ hp) hp'), fun c => absurd ((d_z_n1 (hle t)).mpr hp) c⟩
  have hz : ¬ d_z (pr t) = -1 := fun w => hp ((d_z_n1 (hle t)).mp w)
  have hzp : d_z (pr t) = ei (pr t) := if_neg hp
  have hpt := hle t
  have push : B x + pr t ≤ B t → ew_W (ew_Call (d + 4)) 127 K (159, [some (ew_o 14 i), some (ew_o 15 o), l2, l3, some (ew_o 465 g), l5, some (ew_i (ei x)), some (ew_i (ei y)), some (ew_i (ei t)), some (ew_i (d_z (pr t)))], [], ew_hp s1 m) := by
    intro hlt
    obtain ⟨p1, p2⟩ := d_push hI hP hx hy ht hp e hlt
    refine ew_go (fun pc => Nat.beq pc 172) 60 ⟨ixx, ⟨ixt, trivial⟩, ?_⟩
    show ew_W (ew_Call (d + 4)) 127 K (172, [some (ew_o 14 i), some (ew_o 15 o), l2, l3, some (ew_o 465 g), l5, some (ew_i (ei x)), some (ew_i (ei y)), some (ew_i (ei t)), some (ew_i (d_z (pr t)))], [], ew_put (ew_hp s1 m) 465 g (ei t).toNatClampNeg (ew_i (s1 465 (ei x).toNatClampNeg g + d_z (pr t))))
    rw [htn, hxn, vx]
    refine eq_1 rfl (k _ _ (fun c hc => ?_) p1 p2 (F.u _ ⟨rfl, rfl⟩))
    by_cases ec : c = t
    · subst ec
      rw [ew_u_self, if_pos rfl, hzp, ei_add, if_neg (by omega)]
      exact ⟨rfl, Or.inl (by omega)⟩
    · rw [ew_u_ne _ _ (by omega), if_neg ec]
      exact ⟨(hB c hc).1, (hB c hc).2.imp (fun h => by omega) id⟩
  have vt := (hB t ht).1
  refine ew_go (fun pc => Nat.beq pc 172 || Nat.beq pc 159) 60 ⟨fun c => absurd c hz, fun _ => ⟨ixt, fun c => push ?_, fun c => ⟨ixx, ixt, fun c2 => hskip ?_, fun c2 => push ?_⟩⟩⟩
  · have c : s1 465 (ei t).toNatClampNeg g = -1 := c
    rw [htn, vt] at c
    have : B t = 1000 := by
      by_cases h : B t = 1000
      · exact h
      · rw [if_neg h] at c
        have := (hB t ht).2.resolve_right h
        have h1 : ei (B t) = -1 → False := fun w => by
          have w2 : ¬ ei (B t) < 0 := ei_nn (by omega)
          rw [w] at w2
          exact w2 (by decide)
        exact absurd c h1
    omega
  · have c : ¬ s1 465 (ei t).toNatClampNeg g = -1 := c
    have c2 : s1 465 (ei t).toNatClampNeg g ≤ s1 465 (ei x).toNatClampNeg g + d_z (pr t) := c2
    rw [htn, vt] at c
    have h1 : ¬ B t = 1000 := fun w => c (if_pos w)
    have bt := (hB t ht).2.resolve_right h1
    rw [htn, hxn, vx, vt, if_neg h1, hzp, ei_add, ei_le (by omega) (by omega)] at c2
    intro t' ht' hp' e'
    rw [hsame t' ht' e']
    have := (hI x hx).2
    omega
  · have c : ¬ s1 465 (ei t).toNatClampNeg g = -1 := c
    have c2 : ¬ s1 465 (ei t).toNatClampNeg g ≤ s1 465 (ei x).toNatClampNeg g + d_z (pr t) := c2
    rw [htn, vt] at c
    have h1 : ¬ B t = 1000 := fun w => c (if_pos w)
    have bt := (hB t ht).2.resolve_right h1
    rw [htn, hxn, vx, vt, if_neg h1, hzp, ei_add, ei_le (by omega) (by omega)] at c2
    omega
theorem xl_l3 {J o g N k0 fr x : Nat} {l2 l5 : Option ew_V} {b : Int32} {pr : Nat → Nat} (hR : rc q i z a s m) (hC : CC s) (h3 : rw3 J o a s) (hcs : ∀ t, t < 15 → iv_c (ea a (t + 15 * q))) (hb : d_by q J a b pr) (hx : x < 15) (hN : N < 980)
    (k : ∀ s2 B2 y v8 v9, d_B g (N + 4) B2 s2 → d_I pr fr k0 B2 → d_P pr fr k0 (x + 1) 0 B2 → Fr (Pe g) s s2 → ew_W (ew_Call (d + 4)) 127 K (178, [some (ew_o 14 i), some (ew_o 15 o), l2, some (ew_i b), some (ew_o 465 g), l5, some (ew_i (ei x)), some (ew_i y), v8, v9], [], ew_hp s2 m)) :
    ∀ (r y : Nat) (w : Int32) (v8 v9 : Option ew_V) (s1 : ew_S) (B : Nat → Nat), w = ei y → y + r = 4 → d_B g (N + y) B s1 → d_I pr fr k0 B → d_P pr fr k0 x y B → Fr (Pe g) s s1 →
    ew_W (ew_Call (d + 4)) 127 K (64, [some (ew_o 14 i), some (ew_o 15 o), l2, some (ew_i b), some (ew_o 465 g), l5, some (ew_i (ei x)), some (ew_i w), v8, v9], [], ew_hp s1 m) := by
  have hxn : (ei x).toNatClampNeg = x := ei_nat (by omega)
  have ixx : ew_ix (ei x) 15 := ei_ix hx (by decide)
  intro r
  induction r with
  | zero =>
    intro y w v8 v9 s1 B hw hy hB hI hP F
    subst hw
    obtain rfl : y = 4 := by omega
    have lt : ei 4 ≤ ei 4 := Int32.le_refl _
    exact ew_go (fun pc => Nat.beq pc 64 || Nat.beq pc 178) 40 ⟨fun _ => k s1 B _ v8 v9 hB hI (fun c t w hc ht hw hpc en hor => hP c t w hc ht hw hpc en (by omega)) F, fun e => absurd lt e⟩
  | succ r ih =>
    intro y w v8 v9 s1 B hw hy hB hI hP F
    subst hw
    have hy4 : y < 4 := by omega
    have clt : ¬ ei 4 ≤ ei y := by rw [ei_le (by decide) (by omega)]; omega
    have vx := (hB x hx).1
    have vx' : s1 465 (ei x).toNatClampNeg g = if B x = 1000 then -1 else ei (B x) := by rw [hxn]; exact vx
    by_cases hx1 : B x = 1000
    · have e1 : s1 465 (ei x).toNatClampNeg g = -1 := by rw [vx', if_pos hx1]
      exact ew_go (fun pc => Nat.beq pc 64 || Nat.beq pc 178) 60 ⟨fun e => absurd e clt, fun _ => ⟨ixx, fun _ => k s1 B _ v8 v9 (fun c hc => ⟨(hB c hc).1, (hB c hc).2.imp (fun h => by omega) id⟩) hI (fun c t w hc ht hw hpc en hor => by
        by_cases ht2 : t < x
        · exact hP c t w hc ht hw hpc en (Or.inl ht2)
        · obtain rfl : t = x := by omega
          have h1 := (hI t hx).2
          have h2 := (hI c hc).2
          have h4 := d_D_1000 (pr := pr) (fr := fr) k0 c
          omega) F, fun e => absurd e1 e⟩⟩
    have bx := (hB x hx).2.resolve_right hx1
    have e1 : ¬ s1 465 (ei x).toNatClampNeg g = -1 := by
      rw [vx', if_neg hx1]
      intro w
      have w2 : ¬ ei (B x) < 0 := ei_nn (by omega)
      rw [w] at w2
      exact w2 (by decide)
    have nx : ∀ s2 B2 v8 v9, d_B g (N + (y + 1)) B2 s2 → d_I pr fr k0 B2 → d_P pr fr k0 x (y + 1) B2 → Fr (Pe g) s s2 → ew_W (ew_Call (d + 4)) 127 K (172, [some (ew_o 14 i), some (ew_o 15 o), l2, some (ew_i b), some (ew_o 465 g), l5, some (ew_i (ei x)), some (ew_i (ei y)), v8, v9], [], ew_hp s2 m) := fun s2 B2 v8 v9 r1 r2 r3 r4 =>
      ew_go (fun pc => Nat.beq pc 64) 40 (ih (y + 1) (ei y + 1) v8 v9 s2 B2 (ei_1 _) (by omega) r1 r2 r3 r4)
    have hy3 : ei y = 0 ∨ ei y = 1 ∨ ei y = 2 ∨ ei y = 3 := by
      have : y = 0 ∨ y = 1 ∨ y = 2 ∨ y = 3 := by omega
      rcases this with rfl | rfl | rfl | rfl
      · exact Or.inl rfl
      · exact Or.inr (Or.inl rfl)
      · exact Or.inr (Or.inr (Or.inl rfl))
      · exact Or.inr (Or.inr (Or.inr rfl))
    rcases ef_nb_r hx (ei y) with en | ⟨t, ht, en, -⟩
    · exact ew_go (fun pc => Nat.beq pc 64 || Nat.beq pc 178 || Nat.beq pc 172) 60 ⟨fun e => absurd e clt, fun _ => ⟨ixx, fun e => absurd e e1, fun _ => xm_besideE x hx hy3 en ⟨fun e => absurd rfl e, fun _ => nx s1 B _ v9 (fun c hc => ⟨(hB c hc).1, (hB c hc).2.imp (fun h => by omega) id⟩) hI (d_skip hP (fun t' ht' _ e' => absurd (e'.symm.trans en) (ei_m1 t' ht'))) F⟩⟩⟩
    · have cont : ew_W (ew_Call (d + 4)) 127 K (97, [some (ew_o 14 i), some (ew_o 15 o), l2, some (ew_i b), some (ew_o 465 g), l5, some (ew_i (ei x)), some (ew_i (ei y)), some (ew_i (ei t)), v9], [], ew_hp s1 m) :=
        xl_lcost (hR.fe F) (hC.fe F) (h3.fe F) ht (hcs t ht) hb (ew_go (fun pc => Nat.beq pc 128) 40 (xl_lpush (J := J) (d_by_le hb) hx hy4 ht (by omega) en hx1 hB hI hP F (fun s2 B2 r1 r2 r3 r4 => nx s2 B2 _ _ (by rw [← Nat.add_assoc]; exact r1) r2 r3 r4)))
      exact ew_go (fun pc => Nat.beq pc 64 || Nat.beq pc 178 || Nat.beq pc 97) 60 ⟨fun e => absurd e clt, fun _ => ⟨ixx, fun e => absurd e e1, fun _ => xm_besideE x hx hy3 en ⟨fun _ => cont, fun e => absurd (ei_m1 t ht) e⟩⟩⟩
theorem xl_l2 {J o g N k0 fr : Nat} {l2 : Option ew_V} {rd b : Int32} {pr : Nat → Nat} (hR : rc q i z a s m) (hC : CC s) (h3 : rw3 J o a s) (hcs : ∀ t, t < 15 → iv_c (ea a (t + 15 * q))) (hb : d_by q J a b pr) (hN : N < 900)
    (k : ∀ s2 B2 x v7 v8 v9, d_B g (N + 60) B2 s2 → d_I pr fr (k0 + 1) B2 → Fr (Pe g) s s2 → ew_W (ew_Call (d + 4)) 127 K (184, [some (ew_o 14 i), some (ew_o 15 o), l2, some (ew_i b), some (ew_o 465 g), some (ew_i rd), some (ew_i x), v7, v8, v9], [], ew_hp s2 m)) :
    ∀ (r x : Nat) (w : Int32) (v7 v8 v9 : Option ew_V) (s1 : ew_S) (B : Nat → Nat), w = ei x → x + r = 15 → d_B g (N + 4 * x) B s1 → d_I pr fr k0 B → d_P pr fr k0 x 0 B → Fr (Pe g) s s1 →
    ew_W (ew_Call (d + 4)) 127 K (54, [some (ew_o 14 i), some (ew_o 15 o), l2, some (ew_i b), some (ew_o 465 g), some (ew_i rd), some (ew_i w), v7, v8, v9], [], ew_hp s1 m) := by
  intro r
  induction r with
  | zero =>
    intro x w v7 v8 v9 s1 B hw hx hB hI hP F
    subst hw
    obtain rfl : x = 15 := by omega
    have lt : ei 15 ≤ ei 15 := Int32.le_refl _
    exact ew_go (fun pc => Nat.beq pc 54 || Nat.beq pc 184) 40 ⟨fun _ => k s1 B _ v7 v8 v9 hB (d_round hI hP) F, fun e => absurd lt e⟩
  | succ r ih =>
    intro x w v7 v8 v9 s1 B hw hx hB hI hP F
    subst hw
    have clt : ¬ ei 15 ≤ ei x := by rw [ei_le (by decide) (by omega)]; omega
    have nx : ∀ s2 B2 y v8 v9, d_B g (N + 4 * x + 4) B2 s2 → d_I pr fr k0 B2 → d_P pr fr k0 (x + 1) 0 B2 → Fr (Pe g) s s2 → ew_W (ew_Call (d + 4)) 127 K (178, [some (ew_o 14 i), some (ew_o 15 o), l2, some (ew_i b), some (ew_o 465 g), some (ew_i rd), some (ew_i (ei x)), some (ew_i y), v8, v9], [], ew_hp s2 m) := fun s2 B2 y u8 u9 r1 r2 r3 r4 =>
      ew_go (fun pc => Nat.beq pc 54) 40 (ih (x + 1) (ei x + 1) _ u8 u9 s2 B2 (ei_1 _) (by omega) (by rw [show N + 4 * (x + 1) = N + 4 * x + 4 by omega]; exact r1) r2 r3 r4)
    exact ew_go (fun pc => Nat.beq pc 54 || Nat.beq pc 64) 40 ⟨fun e => absurd e clt, fun _ => xl_l3 (d := d) (N := N + 4 * x) hR hC h3 hcs hb (by omega) (by omega) nx 4 0 0 v8 v9 s1 B rfl rfl hB hI hP F⟩
theorem xl_l1 {J o g to fr : Nat} {b : Int32} {pr : Nat → Nat} (ht : to < 15) (hR : rc q i z a s m) (hC : CC s) (h3 : rw3 J o a s) (hcs : ∀ t, t < 15 → iv_c (ea a (t + 15 * q))) (hb : d_by q J a b pr)
    (k : ∀ s2, Fr (Pe g) s s2 → K (.inl (some (ew_i (d_res pr fr to)))) (ew_hp s2 m)) :
    ∀ (r x : Nat) (w : Int32) (v6 v7 v8 v9 : Option ew_V) (s1 : ew_S) (B : Nat → Nat), w = ei x → x + r = 15 → d_B g (60 * x) B s1 → d_I pr fr x B → Fr (Pe g) s s1 →
    ew_W (ew_Call (d + 4)) 127 K (44, [some (ew_o 14 i), some (ew_o 15 o), some (ew_i (ei to)), some (ew_i b), some (ew_o 465 g), some (ew_i w), v6, v7, v8, v9], [], ew_hp s1 m) := by
  intro r
  induction r with
  | zero =>
    intro x w v6 v7 v8 v9 s1 B hw hx hB hI F
    subst hw
    obtain rfl : x = 15 := by omega
    have lt : ei 15 ≤ ei 15 := Int32.le_refl _
    refine ew_go (fun pc => Nat.beq pc 44) 40 ⟨fun _ => ⟨ei_ix (n := 15) ht (by decide), trivial, ?_⟩, fun e => absurd lt e⟩
    show K (.inl (some (ew_i (s1 465 (ei to).toNatClampNeg g)))) (ew_hp s1 m)
    have e := d_end hI ht
    rw [ei_nat (by omega), (hB to ht).1]
    have k := k s1 F
    unfold d_res at k
    rw [← e] at k
    have := (hB to ht).2
    by_cases h : B to = 1000
    · rw [if_neg (by omega)] at k
      rw [if_pos h]; exact k
    · rw [if_pos (by omega)] at k
      rw [if_neg h]; exact k
  | succ r ih =>
    intro x w v6 v7 v8 v9 s1 B hw hx hB hI F
    subst hw
    have clt : ¬ ei 15 ≤ ei x := by rw [ei_le (by decide) (by omega)]; omega
    have nx : ∀ s2 B2 y v7 v8 v9, d_B g (60 * x + 60) B2 s2 → d_I pr fr (x + 1) B2 → Fr (Pe g) s s2 → ew_W (ew_Call (d + 4)) 127 K (184, [some (ew_o 14 i), some (ew_o 15 o), some (ew_i (ei to)), some (ew_i b), some (ew_o 465 g), some (ew_i (ei x)), some (ew_i y), v7, v8, v9], [], ew_hp s2 m) := fun s2 B2 y u7 u8 u9 r1 r2 r3 =>
      ew_go (fun pc => Nat.beq pc 44) 40 (ih (x + 1) (ei x + 1) _ u7 u8 u9 s2 B2 (ei_1 _) (by omega) (by rw [show 60 * (x + 1) = 60 * x + 60 by omega]; exact r1) r2 r3)
    exact ew_go (fun pc => Nat.beq pc 44 || Nat.beq pc 54) 40 ⟨fun e => absurd e clt, fun _ => xl_l2 (d := d) (N := 60 * x) hR hC h3 hcs hb (by omega) nx 15 0 0 v7 v8 v9 s1 B rfl rfl hB hI (fun c t w hc ht hw hpc en hor => by omega) F⟩
theorem xl_l0 {J o g to fr : Nat} {b : Int32} {pr : Nat → Nat} (hfr : fr < 15) (ht : to < 15) (hR : rc q i z a s m) (hC : CC s) (h3 : rw3 J o a s) (h0 : s 15 0 o = ei fr) (hcs : ∀ t, t < 15 → iv_c (ea a (t + 15 * q))) (hb : d_by q J a b pr)
    (k : ∀ s2, Fr (Pe g) s s2 → K (.inl (some (ew_i (d_res pr fr to)))) (ew_hp s2 m)) :
    ∀ (r x : Nat) (w : Int32) (s1 : ew_S), w = ei x → x + r = 15 → (∀ c, c < x → s1 465 c g = if d_D pr fr 0 c = 1000 then -1 else ei (d_D pr fr 0 c)) → Fr (Pe g) s s1 →
    ew_W (ew_Call (d + 4)) 127 K (9, [some (ew_o 14 i), some (ew_o 15 o), some (ew_i (ei to)), some (ew_i b), some (ew_o 465 g), some (ew_i w), none, none, none, none], [], ew_hp s1 m) := by
  have d0 : ∀ c, d_D pr fr 0 c = if c = fr then 0 else 1000 := fun c => rfl
  intro r
  induction r with
  | zero =>
    intro x w s1 hw hx hB F
    subst hw
    obtain rfl : x = 15 := by omega
    have lt : ei 15 ≤ ei 15 := Int32.le_refl _
    refine ew_go (fun pc => Nat.beq pc 9 || Nat.beq pc 44) 40 ⟨fun _ => xl_l1 (d := d) (g := g) ht hR hC h3 hcs hb k 15 0 0 none none none none s1 (d_D pr fr 0) rfl rfl (fun c hc => ⟨hB c hc, ?_⟩) (fun c hc => ⟨d_D_mono (Nat.zero_le _) c, Nat.le_refl _⟩) F, fun e => absurd lt e⟩
    rw [d0]
    split
    · exact Or.inl (Nat.zero_le _)
    · exact Or.inr rfl
  | succ r ih =>
    intro x w s1 hw hx hB F
    subst hw
    have hx15 : x < 15 := by omega
    have hxn : (ei x).toNatClampNeg = x := ei_nat (by omega)
    have ixx : ew_ix (ei x) 15 := ei_ix hx15 (by decide)
    have clt : ¬ ei 15 ≤ ei x := by rw [ei_le (by decide) (by omega)]; omega
    have h0' : s1 15 0 o = ei fr := (F 15 0 o (fun w => absurd w.1 (by decide))).trans h0
    have tail : ∀ v : Int32, v = (if d_D pr fr 0 x = 1000 then -1 else ei (d_D pr fr 0 x)) → ew_W (ew_Call (d + 4)) 127 K (34, [some (ew_o 14 i), some (ew_o 15 o), some (ew_i (ei to)), some (ew_i b), some (ew_o 465 g), some (ew_i (ei x)), none, none, none, none], [ew_i v, ew_i (ei x), ew_o 465 g], ew_hp s1 m) := by
      intro v hv
      refine ew_go (fun pc => Nat.beq pc 35) 40 ⟨⟨ixx, trivial⟩, ?_⟩
      show ew_W (ew_Call (d + 4)) 127 K (35, [some (ew_o 14 i), some (ew_o 15 o), some (ew_i (ei to)), some (ew_i b), some (ew_o 465 g), some (ew_i (ei x)), none, none, none, none], [], ew_put (ew_hp s1 m) 465 g (ei x).toNatClampNeg (ew_i v))
      rw [hxn]
      refine eq_1 rfl (ew_go (fun pc => Nat.beq pc 9) 40 (ih (x + 1) _ _ (ei_1 _) (by omega) (fun c hc => ?_) (F.u _ ⟨rfl, rfl⟩)))
      by_cases ec : c = x
      · subst ec; rw [ew_u_self, hv]
      · rw [ew_u_ne _ _ (by omega)]; exact hB c (by omega)
    refine ew_go (fun pc => Nat.beq pc 9 || Nat.beq pc 34) 60 ⟨fun e => absurd e clt, fun _ => ⟨fun e => tail _ ?_, fun e => tail _ ?_⟩⟩
    · have e : ¬ ei x = s1 15 0 o := e
      rw [h0', ei_inj (by omega) (by omega)] at e
      rw [d0, if_neg e]; rfl
    · have e : ei x = s1 15 0 o := Classical.not_not.mp e
      rw [h0', ei_inj (by omega) (by omega)] at e
      rw [d0, if_pos e]; rfl
theorem xm_least (G : GI m) {J o to fr : Nat} {b x : Int32} {pr : Nat → Nat} (hfr : fr < 15) (ht : to < 15) (hx : x = ei to) (hR : rc q i z a s m) (hC : CC s) (h3 : rw3 J o a s) (h0 : s 15 0 o = ei fr) (hcs : ∀ t, t < 15 → iv_c (ea a (t + 15 * q))) (hb : d_by q J a b pr)
    (k : ∀ s' m', Ex P0 1 s m s' m' → GI m' → K (.inl (some (ew_i (d_res pr fr to)))) (ew_hp s' m')) : ew_Call (d + 5) 127 [ew_o 14 i, ew_o 15 o, ew_i x, ew_i b] (ew_hp s m) K := by
  subst hx
  have n1 := G.new (k := 465) rfl
  have G1 : GI (ew_mk m 465 (m.2.2.2.1 465) (15 : Int32).toNatClampNeg (fun _ => ew_i 0)) := G.mk1 rfl
  have E0 : Ex P0 1 s m (ef_z s 465 (m.2.2.2.1 465)) (ew_mk m 465 (m.2.2.2.1 465) (15 : Int32).toNatClampNeg (fun _ => ew_i 0)) := ((Ex.rf _ _ _).mk _ rfl (by decide) n1 (fun k' h' e => by have := ef_L_or h'; omega)).zs rfl n1
  refine ew_call (ew_go (fun pc => Nat.beq pc 2) 40 (eq_na (k := 465) (ew_Call_mono _) rfl rfl rfl ⟨by decide, by decide, by decide⟩ ?_))
  show ew_W (ew_Call (d + 4)) 127 K (4, [some (ew_o 14 i), some (ew_o 15 o), some (ew_i (ei to)), some (ew_i b), none, none, none, none, none, none], [ew_o 465 (m.2.2.2.1 465)], ew_mk (ew_hp s m) 465 (m.2.2.2.1 465) (15 : Int32).toNatClampNeg (fun _ => ew_i 0))
  have hR' : rc q i z a (ef_z s 465 (m.2.2.2.1 465)) (ew_mk m 465 (m.2.2.2.1 465) (15 : Int32).toNatClampNeg (fun _ => ew_i 0)) := hR
  have fin : ∀ s2, Fr (Pe (m.2.2.2.1 465)) (ef_z s 465 (m.2.2.2.1 465)) s2 → K (.inl (some (ew_i (d_res pr fr to)))) (ew_hp s2 (ew_mk m 465 (m.2.2.2.1 465) (15 : Int32).toNatClampNeg (fun _ => ew_i 0))) := fun s2 F2 => k s2 _ (E0.fr F2 (fun k p o hp => by
    obtain ⟨rfl, rfl⟩ := hp
    exact ⟨rfl, Or.inr n1⟩)) G1
  exact eq_n (fun _ => rfl) (ew_go (fun pc => Nat.beq pc 9) 40 (xl_l0 (d := d) (g := m.2.2.2.1 465) hfr ht hR' hC h3 h0 hcs hb fin 15 0 0 _ rfl rfl (fun c hc => absurd hc (Nat.not_lt_zero _)) (Fr.rf _ _)))
end
