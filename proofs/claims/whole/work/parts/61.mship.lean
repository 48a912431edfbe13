/-! The model's ships in an hour. -/
section
variable {d : Nat} {K : ew_R → ew_H → Prop} {q i nb ns np T : Nat} {β σ : Nat → Nat} {ρ : Nat → Nat → Nat} {z : ew_Z3} {a s : ew_S} {m : ew_H}
theorem RR.ship (h : RR q i nb ns np T β σ ρ z a s m) {j c : Nat} (hj : j < ns) {a' s' : ew_S} {m' : ew_H} (F : Fr (Ps (j + 5 * q)) a a') (I : iv_s nb np (ea a' (j + 5 * q))) (e : Ex (Qs (σ j)) c s m s' m') (k : rs (j + 5 * q) (σ j) z a' s' m') (G : GI m') : RR q i nb ns np T β σ ρ z a' s' m' :=
  ⟨h.1.ship hj F e k, h.2.1.ship F I, G, h.2.2.2.ex e⟩
/-- a route's elements -/
theorem ew_o0 {x y : Nat} (h : x = y) : ew_o 0 x = ew_o 0 y := by rw [h]
theorem xm_alone (h : RR q i nb ns np T β σ ρ z a s m) {j : Nat} (hj : j < ns) (h0 : a 10 7 (j + 5 * q) = 0) (h8 : a 10 8 (j + 5 * q) = -1) (k : ∀ s' m', RR q i nb ns np T β σ ρ z (sp_gf q (j + 5 * q) a).2 s' m' → Ex (Qs (σ j)) 0 s m s' m' → K (.inl (some (ew_i (sp_gf q (j + 5 * q) a).1))) (ew_hp s' m')) : ew_Call (d + 4) 123 [ew_o 14 i, ew_o 15 (σ j)] (ew_hp s m) K := by
  obtain ⟨R, I, G, C⟩ := h
  have hs := R.2.2.2.2.2.1 j hj
  obtain ⟨v1, ⟨n, hn, hn2, hrt⟩, v3, ⟨r, hr, hr2, hr3⟩, v5⟩ := I.2.2.2.2.1 j hj
  have ig := iv_gf I hj h0 h8
  have hcell := I.2.2.1
  have hn2 : a 40 1 (j + 5 * q) = ei n := hn2
  have hr2 : a 10 3 (j + 5 * q) = ei r := hr2
  have hr3 : a 10 4 (j + 5 * q) = ef_bears (ei r) := hr3
  have hR : RR q i nb ns np T β σ ρ z a s m := ⟨R, I, G, C⟩
  have mk : ∀ {a' s' : ew_S} {m' : ew_H} {c : Nat} {x : Int32}, sp_gf q (j + 5 * q) a = (x, a') → Ex (Qs (σ j)) 0 s m s' m' → rs (j + 5 * q) (σ j) z a' s' m' → GI m' → K (.inl (some (ew_i x))) (ew_hp s' m') := by
    intro a' s' m' c x e1 e2 e3 e4
    rw [e1] at k ig
    exact k s' m' (hR.ship hj ig.1 ig.2.1 e2 e3 e4) e2
  have hL : LR 130 (σ j) n (fun r => ew_o 0 ((a 593 r (j + 5 * q)).toNatClampNeg + 128)) s m := by
    have := hs.2.2.2.2
    rw [hn2, ei_nat (by omega)] at this
    exact this
  refine ew_call (ew_go (fun _ => false) 60 (xm_isEmpty130 hL (fun n0 => ⟨fun c => absurd c (show ¬ (1 : Int32) = 0 by decide), fun _ => ⟨trivial, ?_⟩⟩) (fun n0 => ⟨fun _ => ?_, fun c => absurd rfl c⟩)))
  · subst n0
    exact mk (c := 0) (if_pos hn2) (Ex.rf _ _ _) hs G
  obtain ⟨t, ht, e⟩ := hrt 0 n0
  have e : a 593 0 (j + 5 * q) = ei t := e
  have hne : ¬ a 40 1 (j + 5 * q) = 0 := fun w => by
    rw [hn2] at w
    have := (ei_inj (b := 0) (by omega) (by decide)).mp w
    omega
  have he0 : ew_o 0 ((a 593 0 (j + 5 * q)).toNatClampNeg + 128) = ew_o 0 (t + 128) := ew_o0 (by rw [e, ei_nat (by omega)])
  have hall : ∀ r, r < n → ∃ b, (fun r => ew_o 0 ((a 593 r (j + 5 * q)).toNatClampNeg + 128)) r = ew_o 0 b := fun r _ => ⟨_, rfl⟩
  have ht' : (a 593 0 (j + 5 * q)).toNatClampNeg = t := by rw [e, ei_nat (by omega)]
  refine xm_get130 hL n0 (x := 0) rfl he0 (xm_intValueE _ (C.1 t (by omega)) (xm_isBeside R.1 ht _ (fun hb => ⟨fun _ => ?_, fun c => absurd (show ¬ (1 : Int32) = 0 by decide) c⟩) (fun hb => ⟨fun c => absurd rfl c, fun _ => ?_⟩)))
  · have hb : ef_far (a 10 2 (j + 5 * q)) (ei t) = 1 ∧ a 4 3 (t + 15 * q) = 0 := by rw [← hs.2.1.1]; exact hb
    refine xm_why (e := 1) R.1 C ht (hcell t ht) hr (hs.2.1.2.1.trans hr2) (hs.2.1.2.2.1) hr3 rfl ⟨fun _ => by decide, fun _ => rfl⟩ ⟨fun c => ?_, fun c => ?_⟩
    · have c : ef_hind 1 (sp_w q t a) (a 10 5 (j + 5 * q)) (a 10 4 (j + 5 * q)) = -1 := c
      have eg : sp_gf q (j + 5 * q) a = (-1, ew_u (ef_sh (ew_u a 10 2 (j + 5 * q) (ei t)) 593 (j + 5 * q) n) 40 1 (j + 5 * q) (ei (n - 1))) := by
        unfold sp_gf
        rw [if_neg hne, ht', e, hn2, ei_nat (by omega), if_pos hb, if_pos c]
      refine ⟨trivial, ?_⟩
      refine ec_1 rfl (xm_remove130 hL G n0 hall (fun s' m' b l1 l2 l3 => ⟨trivial, mk (c := 0) eg ?_ ?_ l3⟩))
      · exact ((Ex.rf _ _ _).u _ rfl (Or.inl ⟨rfl, Or.inl rfl⟩)).tr (l2.mono (fun k p i _ w => ⟨w.1, by have := w.2; omega⟩) (Nat.le_refl _))
      · refine (hs.cell (ei t)).route l2 (fun p w => by have := w.2; omega) (fun p w => by have := w.2; omega) (fun p => ?_) (fun p => ?_) ?_
        · exact (ew_u_ne _ _ (by omega)).trans (ef_sh_ne _ (by omega))
        · exact (ew_u_ne _ _ (by omega)).trans (ef_sh_ne _ (by omega))
        · rw [ew_u_self, ei_nat (by omega)]
          refine l1.cg (fun r hr => ?_)
          show ew_o 0 ((ew_u (ef_sh (ew_u a 10 2 (j + 5 * q) (ei t)) 593 (j + 5 * q) n) 40 1 (j + 5 * q) (ei (n - 1)) 593 r (j + 5 * q)).toNatClampNeg + 128) = ew_o 0 ((a 593 (r + 1) (j + 5 * q)).toNatClampNeg + 128)
          rw [ew_u_ne _ _ (by omega), ef_sh_at _ (by omega)]; rfl
    · have c : ¬ ef_hind 1 (sp_w q t a) (a 10 5 (j + 5 * q)) (a 10 4 (j + 5 * q)) = -1 := c
      have eg : sp_gf q (j + 5 * q) a = (ef_hind 1 (sp_w q t a) (a 10 5 (j + 5 * q)) (a 10 4 (j + 5 * q)), a) := by
        unfold sp_gf
        rw [if_neg hne, ht', e, if_pos hb, if_neg c]
      have := mk (c := 0) eg (Ex.rf _ _ _) hs G
      exact ⟨trivial, this⟩
  · have hb : ¬ (ef_far (a 10 2 (j + 5 * q)) (ei t) = 1 ∧ a 4 3 (t + 15 * q) = 0) := by rw [← hs.2.1.1]; exact hb
    have eg : sp_gf q (j + 5 * q) a = (0, ew_u a 40 1 (j + 5 * q) 0) := by
      unfold sp_gf
      rw [if_neg hne, ht', e, if_neg hb]
    refine xm_clear130 hL G (fun s' m' es' l1 l2 l3 => ⟨trivial, mk (c := 0) eg (l2.mono (fun k p i _ w => ⟨w.1, by have := w.2; omega⟩) (Nat.le_refl _)) ?_ l3⟩)
    refine hs.route l2 (fun p w => by have := w.2; omega) (fun p w => by have := w.2; omega) (fun p => ew_u_ne _ _ (by omega)) (fun p => ew_u_ne _ _ (by omega)) ?_
    rw [ew_u_self]
    exact l1.cg (fun r hr => absurd hr (Nat.not_lt_zero _))
/-- a breaker as it went in this hour -/
def rg (B o : Nat) (a s : ew_S) : Prop := (s 12 4 o = 1 ∧ a 3 4 B = s 12 3 o ∧ ∃ c, c < 15 ∧ a 3 4 B = ei c) ∨ (s 12 4 o = 0 ∧ a 3 4 B = -1)
theorem xm_escorted (h : RR q i nb ns np T β σ ρ z a s m) {j b : Nat} (hj : j < ns) (hb : b < nb) (he : a 10 8 (j + 5 * q) = ei b) (h12 : a 10 7 (j + 5 * q) = 1 ∨ a 10 7 (j + 5 * q) = 2) (hg : rg (b + 2 * q) (β b) a s) (k : ∀ s' m', RR q i nb ns np T β σ ρ z (sp_gb q (j + 5 * q) (b + 2 * q) a).2 s' m' → Ex (Qs (σ j)) 0 s m s' m' → K (.inl (some (ew_i (sp_gb q (j + 5 * q) (b + 2 * q) a).1))) (ew_hp s' m')) : ew_Call (d + 5) 124 [ew_o 14 i, ew_o 15 (σ j)] (ew_hp s m) K := by
  have hR := h
  obtain ⟨R, I, G, C⟩ := h
  have hs := R.2.2.2.2.2.1 j hj
  have hB := R.2.2.2.2.1 b hb
  obtain ⟨⟨t0, ht0, e0⟩, ⟨n, hn, hn2, hrt⟩, v3, ⟨r, hr, hr2, hr3⟩, v5⟩ := I.2.2.2.2.1 j hj
  obtain ⟨⟨t, ht, e⟩, -⟩ := I.2.2.2.1 b hb
  have ig := iv_gb I hj hb
  have hcell := I.2.2.1
  have hfr := iv_fr I hj
  have e0 : a 10 2 (j + 5 * q) = ei t0 := e0
  have e : a 3 1 (b + 2 * q) = ei t := e
  have hn2 : a 40 1 (j + 5 * q) = ei n := hn2
  have hr2 : a 10 3 (j + 5 * q) = ei r := hr2
  have hr3 : a 10 4 (j + 5 * q) = ef_bears (ei r) := hr3
  have hnb := I.1
  have mk : ∀ {a' s' : ew_S} {m' : ew_H} {x : Int32}, sp_gb q (j + 5 * q) (b + 2 * q) a = (x, a') → Ex (Qs (σ j)) 0 s m s' m' → rs (j + 5 * q) (σ j) z a' s' m' → GI m' → K (.inl (some (ew_i x))) (ew_hp s' m') := by
    intro a' s' m' x e1 e2 e3 e4
    rw [e1] at k ig
    exact k s' m' (hR.ship hj ig.1 ig.2.1 e2 e3 e4) e2
  have hL : LR 130 (σ j) n (fun r => ew_o 0 ((a 593 r (j + 5 * q)).toNatClampNeg + 128)) s m := by
    have := hs.2.2.2.2
    rw [hn2, ei_nat (by omega)] at this
    exact this
  -- free, and alone
  have tail : ¬ a 3 4 (b + 2 * q) = a 10 2 (j + 5 * q) → ¬ (a 3 4 (b + 2 * q) = -1 ∧ a 3 1 (b + 2 * q) = a 10 2 (j + 5 * q)) → ew_W (ew_Call (d + 4)) 124 K (127, [some (ew_o 14 i), some (ew_o 15 (σ j)), some (ew_o 12 (β b)), none], [], ew_hp s m) := by
    intro n1 n2
    have eg : sp_gb q (j + 5 * q) (b + 2 * q) a = sp_gf q (j + 5 * q) (sp_fr (j + 5 * q) a) := by
      unfold sp_gb
      rw [if_neg n1, if_neg n2]
    rw [eg] at k
    have E : Ex (Qs (σ j)) 0 s m (ew_u (ew_u s 15 4 (σ j) 0) 15 5 (σ j) (-1)) m := ((Ex.rf _ _ _).u _ rfl (Or.inl ⟨rfl, Or.inl rfl⟩)).u _ rfl (Or.inl ⟨rfl, Or.inl rfl⟩)
    have R' := hR.ship hj (sp_fr_F _ a) hfr E ((hs.state 0).brk (-1)) G
    exact ew_go (fun _ => false) 60 (xm_free _ (xm_alone R' hj (sp_fr_7 _ _) (sp_fr_8 _ _) (fun s' m' x1 x2 => ⟨trivial, k s' m' x1 (E.tr x2)⟩)))
  have nogo : a 3 4 (b + 2 * q) = -1 → ew_W (ew_Call (d + 4)) 124 K (107, [some (ew_o 14 i), some (ew_o 15 (σ j)), some (ew_o 12 (β b)), none], [], ew_hp s m) := by
    intro hm1
    have hz : s 12 4 (β b) = 0 := by
      rcases hg with ⟨-, -, c, hc, g3⟩ | g
      · exact absurd (g3.symm.trans hm1) (ei_m1 c hc)
      · exact g.1
    have hne : ¬ a 3 4 (b + 2 * q) = a 10 2 (j + 5 * q) := fun w => ei_m1 t0 ht0 (by rw [← e0, ← w]; exact hm1)
    refine ew_go (fun pc => Nat.beq pc 127) 60 ⟨fun c => absurd hz c, fun _ => ⟨fun c => tail hne (fun w => c ?_), fun c => ⟨trivial, ?_⟩⟩⟩
    · show s 12 0 (β b) = s 15 0 (σ j)
      rw [hB.2.1, hs.2.1.1]; exact w.2
    · have c : s 12 0 (β b) = s 15 0 (σ j) := Classical.not_not.mp c
      rw [hB.2.1, hs.2.1.1] at c
      refine mk ?_ (Ex.rf _ _ _) hs G
      unfold sp_gb
      rw [if_neg hne, if_pos ⟨hm1, c⟩]
  have gone : ¬ a 3 4 (b + 2 * q) = -1 → ¬ a 3 4 (b + 2 * q) = a 10 2 (j + 5 * q) → ew_W (ew_Call (d + 4)) 124 K (107, [some (ew_o 14 i), some (ew_o 15 (σ j)), some (ew_o 12 (β b)), none], [], ew_hp s m) := by
    intro hm1 hne
    have hz : ¬ s 12 4 (β b) = 0 := by
      rcases hg with g | g
      · rw [g.1]; decide
      · exact absurd g.2 hm1
    exact ew_go (fun pc => Nat.beq pc 127) 60 ⟨fun _ => tail hne (fun w => hm1 w.1), fun c => absurd hz c⟩
  have lead : ∀ (x y : Int32), (x = 0 ↔ ¬ y = 0) → y = (if a 10 7 (j + 5 * q) = 2 then 0 else 1) → a 3 4 (b + 2 * q) = a 10 2 (j + 5 * q) → ew_W (ew_Call (d + 4)) 124 K (52, [some (ew_o 14 i), some (ew_o 15 (σ j)), some (ew_o 12 (β b)), none], [ew_i x, ew_i (s 12 0 (β b)), ew_o 15 (σ j), ew_o 14 i], ew_hp s m) := by
    intro x y hxy hy hg1
    refine ew_go (fun _ => false) 60 (xm_why (e := y) R.1 C ht (hcell t ht) hr (hs.2.1.2.1.trans hr2) (hs.2.1.2.2.1) hr3 (hB.2.1.trans e) hxy ⟨fun c => ?_, fun c => ?_⟩)
    · have c : ef_hind y (sp_w q t a) (a 10 5 (j + 5 * q)) (a 10 4 (j + 5 * q)) = -1 := c
      refine ⟨trivial, ec_1 rfl ?_⟩
      have hL' : LR 130 (σ j) n (fun r => ew_o 0 ((a 593 r (j + 5 * q)).toNatClampNeg + 128)) (ew_u s 15 0 (σ j) (s 12 0 (β b))) m := hL
      refine xm_clear130 hL' G (fun s' m' es' l1 l2 l3 => ?_)
      have E1 : Ex (Qs (σ j)) 0 s m s' m' := ((Ex.rf _ _ _).u _ rfl (Or.inl ⟨rfl, Or.inl rfl⟩)).tr (l2.mono (fun k p i _ w => ⟨w.1, by have := w.2; omega⟩) (Nat.le_refl _))
      have r1 : rs (j + 5 * q) (σ j) z (ew_u (ew_u a 10 2 (j + 5 * q) (ei t)) 40 1 (j + 5 * q) 0) s' m' := by
        have hc := hs.cell (s 12 0 (β b))
        rw [show a = a from rfl] at hc
        have hc : rs (j + 5 * q) (σ j) z (ew_u a 10 2 (j + 5 * q) (ei t)) (ew_u s 15 0 (σ j) (s 12 0 (β b))) m := by
          have e9 : s 12 0 (β b) = ei t := hB.2.1.trans e
          rw [e9]; exact hs.cell (ei t)
        refine hc.route l2 (fun p w => by have := w.2; omega) (fun p w => by have := w.2; omega) (fun p => ew_u_ne _ _ (by omega)) (fun p => ew_u_ne _ _ (by omega)) ?_
        rw [ew_u_self]
        exact l1.cg (fun r hr => absurd hr (Nat.not_lt_zero _))
      have st : s' 15 4 (σ j) = a 10 7 (j + 5 * q) := r1.2.1.2.2.2.2.1
      have E2 : ∀ v, Ex (Qs (σ j)) 0 s m (ew_u s' 15 7 (σ j) (s' 15 7 (σ j) + v)) m' := fun v => E1.u _ rfl (Or.inl ⟨rfl, Or.inl rfl⟩)
      have eg : sp_gb q (j + 5 * q) (b + 2 * q) a = (-1, ew_u (ew_u (ew_u a 10 2 (j + 5 * q) (ei t)) 40 1 (j + 5 * q) 0) 10 10 (j + 5 * q) (a 10 10 (j + 5 * q) + if a 10 7 (j + 5 * q) = 2 then 9 else 4)) := by
        unfold sp_gb
        rw [if_pos hg1, e, ei_nat (by omega), ← hy, if_pos c]
      refine ⟨fun c2 => ?_, fun c2 => ?_⟩
      · have c2 : ¬ s' 15 4 (σ j) = 1 := c2
        rw [st] at c2
        have h2 := h12.resolve_left c2
        rw [if_pos h2] at eg
        exact ⟨trivial, trivial, ek_p rfl (mk eg (E2 9) (r1.dues 9) l3)⟩
      · have c2 : s' 15 4 (σ j) = 1 := Classical.not_not.mp c2
        rw [st] at c2
        rw [if_neg (show ¬ a 10 7 (j + 5 * q) = 2 by rw [c2]; decide)] at eg
        exact ⟨trivial, trivial, ek_p rfl (mk eg (E2 4) (r1.dues 4) l3)⟩
    · have c : ¬ ef_hind y (sp_w q t a) (a 10 5 (j + 5 * q)) (a 10 4 (j + 5 * q)) = -1 := c
      have eg : sp_gb q (j + 5 * q) (b + 2 * q) a = (ef_hind y (sp_w q t a) (a 10 5 (j + 5 * q)) (a 10 4 (j + 5 * q)), sp_fr (j + 5 * q) a) := by
        unfold sp_gb
        rw [if_pos hg1, e, ei_nat (by omega), ← hy, if_neg c]
      have := mk eg (((Ex.rf _ _ _).u _ rfl (Or.inl ⟨rfl, Or.inl rfl⟩)).u _ rfl (Or.inl ⟨rfl, Or.inl rfl⟩)) ((hs.state 0).brk (-1)) G
      exact xm_free _ ⟨trivial, this⟩
  refine ew_call (ew_go (fun pc => Nat.beq pc 107 || Nat.beq pc 52) 60 ?_)
  refine xm_get2 R.2.1 hb (hs.2.1.2.2.2.2.2.1.trans he) rfl ⟨fun c => ?_, fun c => ⟨fun c2 => ?_, fun c2 => ⟨fun c3 => ?_, fun c3 => ?_⟩⟩⟩
  · have c : s 12 4 (β b) = 0 := c
    refine nogo ?_
    rcases hg with g | g
    · rw [g.1] at c; exact absurd c (by decide)
    · exact g.2
  · have c : ¬ s 12 4 (β b) = 0 := c
    have c2 : ¬ s 12 3 (β b) = s 15 0 (σ j) := c2
    rcases hg with g | g
    · rw [← g.2.1, hs.2.1.1] at c2
      obtain ⟨x, hx, g3⟩ := g.2.2
      exact gone (fun w => ei_m1 x hx (g3.symm.trans w)) c2
    · exact absurd g.1 c
  · have c : ¬ s 12 4 (β b) = 0 := c
    have c2 : s 12 3 (β b) = s 15 0 (σ j) := Classical.not_not.mp c2
    have c3 : ¬ s 15 4 (σ j) = 2 := c3
    rw [hs.2.1.2.2.2.2.1] at c3
    rcases hg with g | g
    · rw [← g.2.1, hs.2.1.1] at c2
      exact lead 0 1 ⟨fun _ => by decide, fun _ => rfl⟩ (by rw [if_neg c3]) c2
    · exact absurd g.1 c
  · have c : ¬ s 12 4 (β b) = 0 := c
    have c2 : s 12 3 (β b) = s 15 0 (σ j) := Classical.not_not.mp c2
    have c3 : s 15 4 (σ j) = 2 := Classical.not_not.mp c3
    rw [hs.2.1.2.2.2.2.1] at c3
    rcases hg with g | g
    · rw [← g.2.1, hs.2.1.1] at c2
      exact lead 1 0 ⟨fun w => absurd w (by decide), fun w => absurd rfl w⟩ (by rw [if_pos c3]) c2
    · exact absurd g.1 c
end
