/-! A new rule: the model. -/
section
variable {d : Nat} {K : ew_R → ew_H → Prop} {cc nb ns np T : Nat} {β σ : Nat → Nat} {ρ : Nat → Nat → Nat} {a s s2 : ew_S} {m m2 : ew_H}
abbrev ef_rho (ρ : Nat → Nat → Nat) (p n g : Nat) : Nat → Nat → Nat := fun p' r => if p' = p ∧ r = n then g else ρ p' r
theorem RR.rule (h : RR 0 0 nb ns np T β σ ρ (fun _ _ _ => 0) a s m) {p n g : Nat} (hp : p < np) (en : a 6 3 p = ei n) (hn : n < 10) {x y : Int32} (f561 : m.2.2.1 561 g = true) (fy : s 561 0 g = y) (fx : s 561 1 g = x) (L : LR 162 p (n + 1) (fun j => if j = n then ew_o 561 g else ew_o 561 (ρ p j)) s2 m2) (e : Ex (Pl 162 p) cc s m s2 m2) (G : GI m2) :
    RR 0 0 nb ns np T β σ (ef_rho ρ p n g) (fun _ _ _ => 0) (ew_u (ew_u (ew_u a 81 n p x) 113 n p y) 6 3 p (ei (n + 1))) s2 m2 := by
  have F : Fr (fun k r i => i = p ∧ ((k = 81 ∧ r = n) ∨ (k = 113 ∧ r = n) ∨ (k = 6 ∧ r = 3))) a (ew_u (ew_u (ew_u a 81 n p x) 113 n p y) 6 3 p (ei (n + 1))) := (((Fr.rf _ _).u _ ⟨rfl, Or.inl ⟨rfl, rfl⟩⟩).u _ ⟨rfl, Or.inr (Or.inl ⟨rfl, rfl⟩)⟩).u _ ⟨rfl, Or.inr (Or.inr ⟨rfl, rfl⟩)⟩
  refine ⟨h.1.prt (F.mono (fun k r i w => by unfold Ppo; omega)) (e.mono (fun k r i _ w => by have := w.2; unfold Qpo; omega) (Nat.le_refl _)) (fun p' hp' => ?_), iv_rule h.2.1 hp hn x y, G, h.2.2.2.ex e⟩
  have hq := h.1.2.2.2.2.2.2.1 p' hp'
  by_cases q : p' = p
  · rw [q] at hq ⊢
    obtain ⟨⟨g1, g1'⟩, g2, g3, g4, g5⟩ := hq
    refine ⟨⟨e.2.1 _ _ g1, e.2.1 _ _ g1'⟩, ?_, fun j hj => ?_, ?_, fun r hr => ?_⟩
    · rw [(e.2.2.1 13 0 p g1 (fun w => by have := w.2; omega)).1, F 6 4 p (fun w => by omega)]; exact g2
    · rw [(e.2.2.1 82 j p g1' (fun w => by have := w.2; omega)).1, F 18 j p (fun w => by omega)]; exact g3 j hj
    · rw [ew_u_self, ei_nat (by omega)]
      refine L.cg (fun j hj => ?_)
      show ew_o 561 (if p = p ∧ j = n then g else ρ p j) = if j = n then ew_o 561 g else ew_o 561 (ρ p j)
      by_cases q2 : j = n
      · rw [if_pos ⟨rfl, q2⟩, if_pos q2]
      · rw [if_neg (fun w => q2 w.2), if_neg q2]
    · rw [ew_u_self, ei_nat (by omega)] at hr
      show m2.2.2.1 561 (if p = p ∧ r = n then g else ρ p r) = true ∧ s2 561 0 (if p = p ∧ r = n then g else ρ p r) = _ ∧ s2 561 1 (if p = p ∧ r = n then g else ρ p r) = _
      by_cases q2 : r = n
      · rw [if_pos ⟨rfl, q2⟩, q2, (e.2.2.1 561 0 g f561 (fun w => by have := w.2; omega)).1, (e.2.2.1 561 1 g f561 (fun w => by have := w.2; omega)).1, fy, fx]
        refine ⟨e.2.1 _ _ f561, ?_, ?_⟩
        · rw [ew_u_ne _ _ (by omega), ew_u_self]
        · rw [ew_u_ne _ _ (by omega), ew_u_ne _ _ (by omega), ew_u_self]
      · have hr2 : r < n := by omega
        obtain ⟨k1, k2, k3⟩ := g5 r (by rw [en, ei_nat (by omega)]; exact hr2)
        rw [if_neg (fun w => q2 w.2), (e.2.2.1 561 0 _ k1 (fun w => by have := w.2; omega)).1, (e.2.2.1 561 1 _ k1 (fun w => by have := w.2; omega)).1, F 113 r p (fun w => by omega), F 81 r p (fun w => by omega)]
        exact ⟨e.2.1 _ _ k1, k2, k3⟩
  · have r1 := (hq.ex2 e (fun k r hk w => by have := w.1; omega) (fun r j w => by have := w.2; omega)).cg (a' := ew_u (ew_u (ew_u a 81 n p x) 113 n p y) 6 3 p (ei (n + 1))) (fun r => F _ _ _ (fun w => q w.1)) (fun r => F _ _ _ (fun w => q w.1)) (fun r => F _ _ _ (fun w => q w.1)) (fun r => F _ _ _ (fun w => q w.1))
    have er : ∀ r, ef_rho ρ p n g p' r = ρ p' r := fun r => if_neg (fun w => q w.1)
    obtain ⟨g1, g2, g3, g4, g5⟩ := r1
    exact ⟨g1, g2, g3, g4.cg (fun j hj => by rw [er]), fun r hr => by rw [er]; exact g5 r hr⟩
theorem xw_rule (h : RR 0 0 nb ns np T β σ ρ (fun _ _ _ => 0) a s m) (h16 : m.2.2.1 16 0 = true) (p x y : Int32) (k : KT nb ns np T 2 s m K (fun n => n) (op_rule p x y a)) : ew_Call (d + 6) 154 [ew_o 16 0, ew_i p, ew_i x, ew_i y] (ew_hp s m) K := by
  unfold op_rule at k
  have h5 := h.2.1.1
  have h2 := h.tw 0
  have hLp := h.1.2.2.2.1
  have hLp2 := h2.1.2.2.2.1
  rw [h.2.1.2.1.2.2] at k
  rcases ei_dec p np (by omega) with ⟨c, hc, rfl⟩ | ⟨h1, -⟩
  · have hN : iN (ei c) (ei np) = true := iN_t hc (by omega)
    rw [hN, cond_true, ei_nat (by omega)] at k
    have hp2 := h2.1.2.2.2.2.2.2.1 c hc
    obtain ⟨n, hn, en⟩ := (h.2.1.2.2.2.2.2.1 c hc).2.1
    have en : a 6 3 c = ei n := en
    have hL2 := hp2.2.2.2.1
    rw [en, ei_nat (by omega)] at hL2
    rw [en, ei_nat (by omega)] at k
    have ref : KT nb ns np T 2 s m K (fun n => n) (2, 0, a) → ew_W (ew_Call (d + 5)) 154 K (40, [some (ew_o 16 0), some (ew_i (ei c)), some (ew_i x), some (ew_i y)], [ew_i 1, ew_o 16 0], ew_hp (ew_tw s 0) m) := fun k => ew_go (fun _ => false) 40 (xm_ref1 (ew_u_self _ _ _ _ _) (show ¬ (1 : Int32) = 0 by decide) (show ¬ (2 : Int32) ≤ 0 by decide) ⟨fun _ => ⟨trivial, k.no2 h⟩, fun z => absurd (show ¬ (1 : Int32) = 0 by decide) z⟩)
    by_cases hx : 0 ≤ x ∧ x ≤ 4
    · by_cases hy : 24 ≤ y ∧ y ≤ 200
      · rw [if_pos ⟨hx, hy⟩] at k
        have pre : ew_W (ew_Call (d + 5)) 154 K (40, [some (ew_o 16 0), some (ew_i (ei c)), some (ew_i x), some (ew_i y)], [ew_i 0, ew_o 16 0], ew_hp (ew_tw s 0) m) → ew_Call (d + 6) 154 [ew_o 16 0, ew_i (ei c), ew_i x, ew_i y] (ew_hp s m) K := fun g =>
          ew_call (ew_go (fun pc => Nat.beq pc 40) 80 (xm_noPort hLp (by omega) (fun z => absurd (z.symm.trans hN) (by decide)) (fun _ => xm_start0 rfl ⟨fun z => absurd rfl z, fun _ => xm_isInT hx ⟨fun z => absurd z (show ¬ (1 : Int32) = 0 by decide), fun _ => xm_isInT hy ⟨fun _ => g, fun z => absurd (show ¬ (1 : Int32) = 0 by decide) z⟩⟩⟩)))
        refine pre ?_
        by_cases w : ei n < 10
        · have h10 : n < 10 := (ei_lt (b := 10) (by omega) (by decide)).mp w
          have ne : ¬ ei n = 10 := fun z => by rw [z] at w; exact absurd w (by decide)
          rw [if_pos w, ei_1] at k
          have nx := h.2.2.1.new (k := 561) rfl
          obtain ⟨g, hg⟩ : ∃ g, g = m.2.2.2.1 561 := ⟨_, rfl⟩
          rw [← hg] at nx
          have fnow : ew_tw s 0 14 0 0 = a 9 5 0 := h2.1.1.2.1
          have E1 : Ex P0 1 (ew_tw s 0) m (ew_u (ew_u (ef_z (ew_tw s 0) 561 g) 561 0 g (a 9 5 0 + y)) 561 1 g x) (ew_mk m 561 g 2 (fun _ => ew_i 0)) := ((((Ex.rf P0 (ew_tw s 0) m).mk (k := 561) (i := g) (N := 2) (fun _ => ew_i 0) rfl (by decide) nx (fun k' h' e => by have := ef_L_or h'; omega)).zs rfl nx).u _ rfl (Or.inr nx)).u _ rfl (Or.inr nx)
          have G1 : GI (ew_mk m 561 g 2 (fun _ => ew_i 0)) := by rw [hg]; exact h.2.2.1.mk1 (k := 561) rfl
          have R1 := h2.ex1 E1.p1 G1
          have hL3 := (R1.1.2.2.2.2.2.2.1 c hc).2.2.2.1
          rw [en, ei_nat (by omega)] at hL3
          have fin : ∀ (s2 : ew_S) (m2 : ew_H), LR 162 c (n + 1) (fun j => if j = n then ew_o 561 g else ew_o 561 (ρ c j)) s2 m2 → Ex (Pl 162 c) 1 (ew_u (ew_u (ef_z (ew_tw s 0) 561 g) 561 0 g (a 9 5 0 + y)) 561 1 g x) (ew_mk m 561 g 2 (fun _ => ew_i 0)) s2 m2 → GI m2 → ew_W (ew_Call (d + 5)) 154 K (126, [some (ew_o 16 0), some (ew_i (ei c)), some (ew_i x), some (ew_i y)], [ew_i 1], ew_hp s2 m2) := fun s2 m2 L E G => by
            have R2 := R1.rule hc en h10 (x := x) (y := a 9 5 0 + y) (em_xs _ _ _ _ _) (by rw [ew_u_ne _ _ (by omega), ew_u_self]) (ew_u_self _ _ _ _ _) L E G
            have f16 : s2 16 0 0 = 0 := (E.2.2.1 16 0 0 (E1.2.1 _ _ h16) (fun w => by have := w.2; omega)).1.trans ((E1.2.2.1 16 0 0 h16 (fun w => w)).1.trans (ew_u_self _ _ _ _ _))
            have k := k _ _ _ _ _ R2 ((((Ex.tw s m 0).pt (Nat.le_refl 0)).tr (E1.pt (Nat.le_refl 1))).tr (E.pt (Nat.le_refl 1))) f16
            have f14 : s2 14 0 0 = a 9 5 0 := R2.1.1.2.1
            have k : K (.inl (some (ew_i (s2 14 0 0 + y)))) (ew_hp s2 m2) := by rw [f14]; exact k
            exact ew_go (fun _ => false) 40 ⟨trivial, k⟩
          have mid : ew_W (ew_Call (d + 5)) 154 K (105, [some (ew_o 16 0), some (ew_i (ei c)), some (ew_i x), some (ew_i y)], [ew_i 2, ew_o 162 c], ew_hp (ew_tw s 0) m) := by
            refine eq_na (k := 561) (ew_Call_mono _) rfl rfl rfl ⟨by decide, by decide, by decide⟩ ?_
            show ew_W (ew_Call (d + 5)) 154 K (107, [some (ew_o 16 0), some (ew_i (ei c)), some (ew_i x), some (ew_i y)], [ew_o 561 (m.2.2.2.1 561), ew_o 162 c], ew_mk (ew_hp (ew_tw s 0) m) 561 (m.2.2.2.1 561) 2 (fun _ => ew_i 0))
            rw [← hg]
            refine eq_n (fun _ => rfl) (ew_go (fun pc => Nat.beq pc 123) 40 ⟨⟨ei_ix (j := 0) (n := 2) (by decide) (by decide), trivial⟩, ⟨ei_ix (j := 1) (n := 2) (by decide) (by decide), trivial⟩, ?_⟩)
            show ew_W (ew_Call (d + 5)) 154 K (123, [some (ew_o 16 0), some (ew_i (ei c)), some (ew_i x), some (ew_i y)], [ew_o 561 g, ew_o 162 c], ew_put (ew_put (ew_hp (ef_z (ew_tw s 0) 561 g) (ew_mk m 561 g 2 (fun _ => ew_i 0))) 561 g 0 (ew_i (ew_tw s 0 14 0 0 + y))) 561 g 1 (ew_i x))
            rw [fnow]
            exact eq_2 rfl rfl (ew_go (fun pc => Nat.beq pc 126) 40 (xm_add162 hL3 G1 (by omega) g fin))
          exact ew_go (fun pc => Nat.beq pc 105) 60 (xm_ref0 (ew_u_self _ _ _ _ _) rfl ⟨fun z => absurd rfl z, fun _ => xm_get66 hLp2 hc rfl rfl (xm_size162 hL2 ⟨fun _ => xm_ref0 (ew_u_self _ _ _ _ _) rfl ⟨fun _ => xm_get66 hLp2 hc rfl rfl mid, fun z => absurd rfl z⟩, fun z => absurd (Classical.not_not.mp z) ne⟩)⟩)
        · have e2 : ei n = 10 := by
            have : ¬ n < 10 := fun q => w ((ei_lt (b := 10) (by omega) (by decide)).mpr q)
            rw [show n = 10 by omega]; rfl
          rw [if_neg w] at k
          exact ew_go (fun _ => false) 60 (xm_ref0 (ew_u_self _ _ _ _ _) rfl ⟨fun z => absurd rfl z, fun _ => xm_get66 hLp2 hc rfl rfl (xm_size162 hL2 ⟨fun z => absurd e2 z, fun _ => xm_ref1 (ew_u_self _ _ _ _ _) (show ¬ (1 : Int32) = 0 by decide) (show ¬ (3 : Int32) ≤ 0 by decide) ⟨fun z => absurd z (show ¬ (1 : Int32) = 0 by decide), fun _ => ⟨trivial, k.no2 h⟩⟩⟩)⟩)
      · rw [if_neg (fun z => hy z.2)] at k
        have k := ref k
        exact ew_call (ew_go (fun pc => Nat.beq pc 40) 80 (xm_noPort hLp (by omega) (fun z => absurd (z.symm.trans hN) (by decide)) (fun _ => xm_start0 rfl ⟨fun z => absurd rfl z, fun _ => xm_isInT hx ⟨fun z => absurd z (show ¬ (1 : Int32) = 0 by decide), fun _ => xm_isInF hy ⟨fun z => absurd rfl z, fun _ => k⟩⟩⟩)))
    · rw [if_neg (fun z => hx z.1)] at k
      have k := ref k
      exact ew_call (ew_go (fun pc => Nat.beq pc 40) 80 (xm_noPort hLp (by omega) (fun z => absurd (z.symm.trans hN) (by decide)) (fun _ => xm_start0 rfl ⟨fun z => absurd rfl z, fun _ => xm_isInF hx ⟨fun _ => k, fun z => absurd rfl z⟩⟩)))
  · have hN : iN p (ei np) = false := iN_f h1
    rw [hN, cond_false] at k
    exact ew_call (ew_go (fun _ => false) 80 (xm_noPort hLp (by omega) (fun _ => xm_start1 (show ¬ (1 : Int32) = 0 by decide) (show ¬ (1 : Int32) ≤ 0 by decide) ⟨fun _ => ⟨trivial, k.no h⟩, fun z => absurd (show ¬ (1 : Int32) = 0 by decide) z⟩) (fun z => absurd (hN.symm.trans z) (by decide))))
end
