/-! The model's hour. -/
/-- making an array of ints -/
theorem eq_na {C : Nat → List ew_V → ew_H → (ew_R → ew_H → Prop) → Prop} (hC : ew_M C) {K : ew_R → ew_H → Prop} {y pc nx tg k : Nat} {cv n : Int32} {ls : List (Option ew_V)} {st : List ew_V} {h : ew_H} (hp : ew_pg y pc = some (.newarray .int, nx, tg, cv)) (hk : ew_kn y (et_si y pc) ls = k) (hk2 : (Nat.beq (ew_ct k) 17 && ew_ctr k) = true)
    (hn : ¬ n < 0 ∧ n.toNatClampNeg ≤ 1000000 ∧ ew_sl k n.toNatClampNeg = n.toNatClampNeg) (g : ew_W C y K (nx, ls, ew_o k (h.2.2.2.1 k) :: st, ew_mk h k (h.2.2.2.1 k) n.toNatClampNeg (fun _ => ew_i 0))) : ew_W C y K (pc, ls, ew_i n :: st, h) := by
  refine ew_W.fold hC ?_
  unfold ew_G
  dsimp only
  rw [hp]
  dsimp only
  have e : ew_st y (et_cls y) (.newarray .int) pc nx tg cv ls (ew_i n :: st) h = ewN (¬ n < 0 ∧ n.toNatClampNeg ≤ 1000000 ∧ ew_sl k n.toNatClampNeg = n.toNatClampNeg) (nx, ls, ew_o k (h.2.2.2.1 k) :: st, ew_mk h k (h.2.2.2.1 k) n.toNatClampNeg (fun _ => ew_i 0)) := by
    simp only [ew_st]
    rw [hk, hk2]
    rfl
  rw [e]
  exact ⟨hn, g⟩
theorem Ex.fr {P P2 : Nat → Nat → Nat → Prop} {c : Nat} {s s1 s2 : ew_S} {m m1 : ew_H} (a : Ex P c s m s1 m1) (F : Fr P2 s1 s2) (h : ∀ k p i, P2 k p i → ef_K k = false ∧ (P k p i ∨ m.2.2.1 k i = false)) : Ex P c s m s2 m1 := by
  refine ⟨fun k hk => ⟨?_, (a.1 k hk).2⟩, a.2.1, fun k p i z n => ⟨?_, (a.2.2.1 k p i z n).2⟩, a.2.2.2⟩
  · rw [← (a.1 k hk).1]
    funext p i
    refine F k p i (fun w => ?_)
    rw [(h k p i w).1] at hk; cases hk
  · rw [← (a.2.2.1 k p i z n).1]
    refine F k p i (fun w => ?_)
    rcases (h k p i w).2 with y | y
    · exact n y
    · rw [z] at y; cases y
section
variable {d : Nat} {K : ew_R → ew_H → Prop} {q i nb ns np T : Nat} {β σ : Nat → Nat} {ρ : Nat → Nat → Nat} {z : ew_Z3} {a s : ew_S} {m : ew_H}
theorem xm_drift (hR : rc q i z a s m) (G : GI m) {w : Int32} (hw : w = -1 ∨ w = 0 ∨ w = 1 ∨ w = 2 ∨ w = 3) (hlz : ∀ c, c < 15 → a 4 3 (c + 15 * q) ≠ 0 → a 4 0 (c + 15 * q) = 0) (hz : ∀ c, c < 15 → a 4 4 (c + 15 * q) = 0)
    (k : ∀ s' m', rc q i z (sp_s q (sp_g q w a 15) 15) s' m' → Ex (Qc i) 2 s m s' m' → GI m' → K (.inl none) (ew_hp s' m')) : ew_Call (d + 3) 118 [ew_o 14 i, ew_i w] (ew_hp s m) K := by
  have n1 := G.new (k := 401) rfl
  have n2 := G.new (k := 433) rfl
  have G1 : GI (ew_mk m 401 (m.2.2.2.1 401) (15 : Int32).toNatClampNeg (fun _ => ew_i 0)) := G.mk1 rfl
  have G2 : GI (ew_mk (ew_mk m 401 (m.2.2.2.1 401) (15 : Int32).toNatClampNeg (fun _ => ew_i 0)) 433 (m.2.2.2.1 433) (15 : Int32).toNatClampNeg (fun _ => ew_i 0)) := G1.mk1 (k := 433) rfl
  have E0 : Ex (Qc i) 2 s m (ef_z (ef_z s 401 (m.2.2.2.1 401)) 433 (m.2.2.2.1 433)) (ew_mk (ew_mk m 401 (m.2.2.2.1 401) (15 : Int32).toNatClampNeg (fun _ => ew_i 0)) 433 (m.2.2.2.1 433) (15 : Int32).toNatClampNeg (fun _ => ew_i 0)) :=
    ((((Ex.rf _ _ _).mk _ rfl (by decide) n1 (fun k' h' e => by have := ef_L_or h'; omega)).zs rfl n1).mk _ rfl (by decide) n2 (fun k' h' e => by have := ef_L_or h'; omega)).zs rfl n2
  have hR0 : rc q i z a (ef_z (ef_z s 401 (m.2.2.2.1 401)) 433 (m.2.2.2.1 433)) (ew_mk (ew_mk m 401 (m.2.2.2.1 401) (15 : Int32).toNatClampNeg (fun _ => ew_i 0)) 433 (m.2.2.2.1 433) (15 : Int32).toNatClampNeg (fun _ => ew_i 0)) := hR
  have hv0 : rv q (m.2.2.2.1 401) (m.2.2.2.1 433) 0 w a (ef_z (ef_z s 401 (m.2.2.2.1 401)) 433 (m.2.2.2.1 433)) := fun c hc => by
    refine ⟨?_, ?_⟩
    · rw [ef_z_ne _ _ (by omega), ef_z_self, if_neg (by omega)]
    · rw [ef_z_self]
      unfold cf_t
      split
      · rfl
      · rw [if_neg (by omega)]
  refine ew_call (ew_go (fun pc => Nat.beq pc 2) 40 (eq_na (k := 401) (ew_Call_mono _) rfl rfl rfl ⟨by decide, by decide, by decide⟩ ?_))
  show ew_W (ew_Call (d + 2)) 118 K (4, [some (ew_o 14 i), some (ew_i w), none, none, none, none], [ew_o 401 (m.2.2.2.1 401)], ew_mk (ew_hp s m) 401 (m.2.2.2.1 401) (15 : Int32).toNatClampNeg (fun _ => ew_i 0))
  refine eq_n (fun _ => rfl) (ew_go (fun pc => Nat.beq pc 7) 40 (eq_na (k := 433) (ew_Call_mono _) rfl rfl rfl ⟨by decide, by decide, by decide⟩ ?_))
  show ew_W (ew_Call (d + 2)) 118 K (9, [some (ew_o 14 i), some (ew_i w), some (ew_o 401 (m.2.2.2.1 401)), none, none, none], [ew_o 433 (m.2.2.2.1 433)], ew_mk (ew_hp (ef_z s 401 (m.2.2.2.1 401)) (ew_mk m 401 (m.2.2.2.1 401) (15 : Int32).toNatClampNeg (fun _ => ew_i 0))) 433 (m.2.2.2.1 433) (15 : Int32).toNatClampNeg (fun _ => ew_i 0))
  refine eq_n (fun _ => rfl) (ew_go (fun pc => Nat.beq pc 13) 40 (xl_md1 (d := d) (i := i) hR0 hw hlz (fun s1 y v F1 h1 => ?_) 15 0 0 none _ rfl rfl (Fr.rf _ _) hv0))
  have E1 := E0.fr F1 (fun k p o hp => by
    rcases hp with ⟨rfl, rfl⟩ | ⟨rfl, rfl⟩
    · exact ⟨rfl, Or.inr n1⟩
    · exact ⟨rfl, Or.inr n2⟩)
  have hR1 : rc q i z a s1 (ew_mk (ew_mk m 401 (m.2.2.2.1 401) (15 : Int32).toNatClampNeg (fun _ => ew_i 0)) 433 (m.2.2.2.1 433) (15 : Int32).toNatClampNeg (fun _ => ew_i 0)) := by
    have f : ∀ {k p : Nat}, k ≠ 401 → k ≠ 433 → s1 k p i = ef_z (ef_z s 401 (m.2.2.2.1 401)) 433 (m.2.2.2.1 433) k p i := fun h1 h2 => F1 _ _ _ (fun w => by
      rcases w with w | w
      · exact h1 w.1
      · exact h2 w.1)
    obtain ⟨g1, g2, g3, g4⟩ := hR0
    refine ⟨g1, (f (by decide) (by decide)).trans g2, ?_, fun c hc => ?_⟩
    · rw [f (by decide) (by decide)]; exact g3
    · rw [f (by decide) (by decide), f (by decide) (by decide), f (by decide) (by decide), f (by decide) (by decide)]; exact g4 c hc
  refine ew_go (fun pc => Nat.beq pc 93) 40 (xl_md2 (d := d) (i := i) hR1 h1 (fun s2 F2 h2 => ?_) 15 0 0 s1 rfl rfl (Fr.rf _ _) (fun c hc => ⟨?_, fun z => absurd z (Nat.not_lt_zero _)⟩))
  · obtain ⟨sF, sG⟩ := sp_sg_ok q w a hz
    have E2 := E1.fr F2 (fun k p o hp => by
      obtain ⟨hk, rfl⟩ := hp
      rcases hk with rfl | rfl
      · exact ⟨rfl, Or.inl ⟨rfl, Or.inr (Or.inl rfl)⟩⟩
      · exact ⟨rfl, Or.inl ⟨rfl, Or.inr (Or.inr (Or.inl rfl))⟩⟩)
    refine k _ _ ?_ E2 G2
    obtain ⟨g1, g2, g3, g4⟩ := hR1
    have f : ∀ {k p : Nat}, k ≠ 273 → k ≠ 305 → s2 k p i = s1 k p i := fun h1 h2 => F2 _ _ _ (fun w => by have := w.1; omega)
    refine ⟨g1, ?_, ?_, fun c hc => ?_⟩
    · rw [f (by decide) (by decide), g2, sF 9 5 q (fun w => by have := w.1; omega)]
    · rw [f (by decide) (by decide), g3, sF 9 6 q (fun w => by have := w.1; omega)]
    · obtain ⟨y1, y2⟩ := h2 c hc
      obtain ⟨x1, x2⟩ := sG c hc
      obtain ⟨u1, u2, u3, u4⟩ := g4 c hc
      rw [y1, y2, x1, x2, f (by decide) (by decide), f (by decide) (by decide), u3, u4, sF 4 2 _ (fun w => by have := w.2.1; omega), sF 4 3 _ (fun w => by have := w.2.1; omega)]
      exact ⟨rfl, rfl, rfl, rfl⟩
  · rw [if_neg (by omega)]; exact (hR1.2.2.2 c hc).1
/-- freezing -/
theorem xl_freeze {x : Int32} (hx : 0 ≤ x ∧ x ≤ 9) (hR : rc q i z a s m) (ha : ∀ c, c < 15 → (∃ n, n < 1000000000 ∧ a 4 0 (c + 15 * q) = ei n) ∧ (a 4 3 (c + 15 * q) ≠ 0 → a 4 2 (c + 15 * q) = 0))
    (k : ∀ s', rc q i z (sp_f q x a 15) s' m → Ex (Qc i) 0 s m s' m → K (.inl none) (ew_hp s' m)) : ∀ (r j : Nat) (y : Int32) (v : Option ew_V) (s1 : ew_S), y = ei j → j + r = 15 → rc q i z (sp_f q x a j) s1 m → Ex (Qc i) 0 s m s1 m →
    ew_W (ew_Call d) 119 K (2, [some (ew_o 14 i), some (ew_i x), some (ew_i y), v], [], ew_hp s1 m) := by
  intro r
  induction r with
  | zero =>
    intro j y v s1 hy hj h E
    subst hy
    obtain rfl : j = 15 := by omega
    exact ew_go (fun pc => Nat.beq pc 2) 40 ⟨fun c => ⟨trivial, k s1 h E⟩, fun c => absurd (show ei 15 ≤ ei 15 by decide) c⟩
  | succ r ih =>
    intro j y v s1 hy hj h E
    subst hy
    have hj15 : j < 15 := by omega
    have hn : (ei j).toNatClampNeg = j := ei_nat (by omega)
    have ixj : ew_ix (ei j) 15 := ei_ix hj15 (by decide)
    have clt : ¬ ei 15 ≤ ei j := by rw [ei_le (by decide) (by omega)]; omega
    obtain ⟨F1, S1, C1⟩ := sp_f_ok (q := q) (s := a) x j (by omega)
    obtain ⟨F2, S2, C2⟩ := sp_f_ok (q := q) (s := a) x (j + 1) (by omega)
    obtain ⟨⟨n, hnn, hice⟩, hch⟩ := ha j hj15
    obtain ⟨g1, g2, g3, g4⟩ := h
    have nP : ∀ {p o : Nat}, p ≠ 0 → p ≠ 2 → ¬ ((4 = 4 ∧ (p = 0 ∨ p = 2) ∧ 15 * q ≤ o ∧ o < 15 + 15 * q) ∨ (4 = 9 ∧ p = 6 ∧ o = q)) := fun h1 h2 w => by omega
    obtain ⟨u1, u2, u3, u4⟩ := g4 j hj15
    rw [(C1 j hj15).1, if_neg (by omega)] at u1
    rw [(C1 j hj15).2, if_neg (by omega)] at u3
    rw [F1 4 1 _ (nP (by decide) (by decide))] at u2
    rw [F1 4 3 _ (nP (by decide) (by decide))] at u4
    have e5 : ¬ ((9 = 4 ∧ (5 = 0 ∨ 5 = 2) ∧ 15 * q ≤ q ∧ q < 15 + 15 * q) ∨ (9 = 9 ∧ 5 = 6 ∧ q = q)) := by omega
    -- the next relation, cell by cell
    have nxt : ∀ s2 : ew_S, s2 14 0 i = s1 14 0 i → s2 14 1 i = s1 14 1 i + sp_fa x (j + 15 * q) a → (∀ c, c ≠ j → s2 273 c i = s1 273 c i ∧ s2 337 c i = s1 337 c i) → (∀ c, s2 305 c i = s1 305 c i ∧ s2 50 c i = s1 50 c i) →
        s2 273 j i = a 4 0 (j + 15 * q) + sp_fa x (j + 15 * q) a → s2 337 j i = ew_max 0 (a 4 2 (j + 15 * q) - if a 4 1 (j + 15 * q) < 3 then 1 else 3) → rc q i z (sp_f q x a (j + 1)) s2 m := by
      intro s2 t1 t2 t3 t4 t5 t6
      refine ⟨g1, ?_, ?_, fun c hc => ?_⟩
      · rw [t1, g2, F1 9 5 q e5, F2 9 5 q e5]
      · rw [t2, S2, ei_az, g3, S1]
        show a 9 6 q + ef_sum (fun c => sp_fa x (c + 15 * q) a) j + sp_fa x (j + 15 * q) a = a 9 6 q + (ef_sum (fun c => sp_fa x (c + 15 * q) a) j + sp_fa x (j + 15 * q) a)
        rw [Int32.add_assoc]
      · obtain ⟨w1, w2, w3, w4⟩ := g4 c hc
        rw [(t4 c).1, (t4 c).2, w2, w4, F1 4 1 _ (nP (by decide) (by decide)), F1 4 3 _ (nP (by decide) (by decide)), F2 4 1 _ (nP (by decide) (by decide)), F2 4 3 _ (nP (by decide) (by decide)), (C2 c hc).1, (C2 c hc).2]
        by_cases e : c = j
        · subst e
          rw [t5, t6, if_pos (show c < c + 1 by omega), if_pos (show c < c + 1 by omega)]
          exact ⟨rfl, rfl, rfl, rfl⟩
        · rw [(t3 c e).1, (t3 c e).2, w1, w3, (C1 c hc).1, (C1 c hc).2]
          exact ⟨ei_if ⟨fun z => by omega, fun z => by omega⟩ _ _, rfl, ei_if ⟨fun z => by omega, fun z => by omega⟩ _ _, rfl⟩
    by_cases hl : a 4 3 (j + 15 * q) = 0
    · have hfa : sp_fa x (j + 15 * q) a = ew_max 0 (ew_min x (300 - a 4 0 (j + 15 * q))) := by
        unfold sp_fa
        rw [hice, ef_more hnn hx]
        by_cases w : ei n < 300
        · rw [if_pos ⟨hl, w⟩, if_pos w]
        · rw [if_neg (fun y => w y.2), if_neg w]
      have nx := ih (j + 1) (ei j + 1) (some (ew_i (sp_fa x (j + 15 * q) a))) (ew_u (ew_u (ew_u s1 273 j i (a 4 0 (j + 15 * q) + sp_fa x (j + 15 * q) a)) 14 1 i (s1 14 1 i + sp_fa x (j + 15 * q) a)) 337 j i (ew_max 0 (a 4 2 (j + 15 * q) - if a 4 1 (j + 15 * q) < 3 then 1 else 3))) (ei_1 _) (by omega)
        (nxt _ rfl (ew_u_self _ 14 1 i _) (fun c hc => ⟨(ew_u_ne _ _ (by omega)).trans ((ew_u_ne _ _ (by omega)).trans (ew_u_ne _ _ (by omega))), (ew_u_ne _ _ (by omega)).trans ((ew_u_ne _ _ (by omega)).trans (ew_u_ne _ _ (by omega)))⟩) (fun c => ⟨rfl, rfl⟩) (ew_u_self s1 273 j i _) (ew_u_self _ 337 j i _))
        (((E.u _ rfl (Or.inl ⟨rfl, Or.inr (Or.inl rfl)⟩)).u _ rfl (Or.inl ⟨rfl, Or.inl rfl⟩)).u _ rfl (Or.inl ⟨rfl, Or.inr (Or.inr (Or.inr rfl))⟩))
      have tail : ∀ b : Int32, b = (if a 4 1 (j + 15 * q) < 3 then 1 else 3) → ew_W (ew_Call d) 119 K (83, [some (ew_o 14 i), some (ew_i x), some (ew_i (ei j)), some (ew_i (sp_fa x (j + 15 * q) a))], [ew_i b, ew_i (a 4 2 (j + 15 * q)), ew_i 0, ew_i (ei j), ew_o 337 i], ew_hp (ew_u (ew_u s1 273 j i (a 4 0 (j + 15 * q) + sp_fa x (j + 15 * q) a)) 14 1 i (s1 14 1 i + sp_fa x (j + 15 * q) a)) m) := by
        intro b hb
        subst hb
        refine ew_go (fun pc => Nat.beq pc 88) 60 ⟨⟨ixj, trivial⟩, ?_⟩
        show ew_W (ew_Call d) 119 K (88, [some (ew_o 14 i), some (ew_i x), some (ew_i (ei j)), some (ew_i (sp_fa x (j + 15 * q) a))], [], ew_put (ew_hp (ew_u (ew_u s1 273 j i (a 4 0 (j + 15 * q) + sp_fa x (j + 15 * q) a)) 14 1 i (s1 14 1 i + sp_fa x (j + 15 * q) a)) m) 337 i (ei j).toNatClampNeg (ew_i (ew_max 0 (a 4 2 (j + 15 * q) - if a 4 1 (j + 15 * q) < 3 then 1 else 3))))
        rw [hn]
        exact eq_1 rfl (ew_go (fun pc => Nat.beq pc 2) 60 nx)
      refine ew_go (fun pc => Nat.beq pc 35) 60 ⟨fun c => absurd c clt, fun c => ⟨ixj, fun e => absurd (show s1 50 (ei j).toNatClampNeg i = 0 from ?_) e, fun e => ⟨ixj, eq_s (w := ew_i (sp_fa x (j + 15 * q) a)) ?_ ?_⟩⟩⟩
      · rw [hn, u4]; exact hl
      · show ew_i (ew_max 0 (ew_min x (300 - s1 273 (ei j).toNatClampNeg i))) = _
        rw [hn, u1, hfa]
      · show ew_W (ew_Call d) 119 K (35, [some (ew_o 14 i), some (ew_i x), some (ew_i (ei j)), v], [ew_i (sp_fa x (j + 15 * q) a)], ew_hp s1 m)
        refine ew_go (fun pc => Nat.beq pc 46) 60 ⟨ixj, ⟨ixj, trivial⟩, ?_⟩
        show ew_W (ew_Call d) 119 K (46, [some (ew_o 14 i), some (ew_i x), some (ew_i (ei j)), some (ew_i (sp_fa x (j + 15 * q) a))], [], ew_put (ew_hp s1 m) 273 i (ei j).toNatClampNeg (ew_i (s1 273 (ei j).toNatClampNeg i + sp_fa x (j + 15 * q) a)))
        rw [hn, u1]
        refine eq_1 rfl (ew_go (fun pc => Nat.beq pc 56) 60 ⟨trivial, ?_⟩)
        show ew_W (ew_Call d) 119 K (56, [some (ew_o 14 i), some (ew_i x), some (ew_i (ei j)), some (ew_i (sp_fa x (j + 15 * q) a))], [], ew_put (ew_hp (ew_u s1 273 j i (a 4 0 (j + 15 * q) + sp_fa x (j + 15 * q) a)) m) 14 i 1 (ew_i (s1 14 1 i + sp_fa x (j + 15 * q) a)))
        refine eq_1 rfl (ew_go (fun pc => Nat.beq pc 68) 60 ⟨ixj, eq_s (w := ew_i (a 4 2 (j + 15 * q))) ?_ ?_⟩)
        · show ew_i (s1 337 (ei j).toNatClampNeg i) = _
          rw [hn, u3]
        · show ew_W (ew_Call d) 119 K (68, [some (ew_o 14 i), some (ew_i x), some (ew_i (ei j)), some (ew_i (sp_fa x (j + 15 * q) a))], [ew_i (a 4 2 (j + 15 * q)), ew_i 0, ew_i (ei j), ew_o 337 i], ew_hp (ew_u (ew_u s1 273 j i (a 4 0 (j + 15 * q) + sp_fa x (j + 15 * q) a)) 14 1 i (s1 14 1 i + sp_fa x (j + 15 * q) a)) m)
          refine ew_go (fun pc => Nat.beq pc 83) 60 ⟨ixj, fun c3 => tail 1 ?_, fun c3 => tail 3 ?_⟩
          · have c3 : s1 305 (ei j).toNatClampNeg i < 3 := c3
            rw [hn, u2] at c3
            rw [if_pos c3]
          · have c3 : ¬ s1 305 (ei j).toNatClampNeg i < 3 := c3
            rw [hn, u2] at c3
            rw [if_neg c3]
    · have hfa : sp_fa x (j + 15 * q) a = 0 := if_neg (fun w => hl w.1)
      have nx := ih (j + 1) (ei j + 1) v s1 (ei_1 _) (by omega) (nxt s1 rfl (by rw [hfa, Int32.add_zero]) (fun c hc => ⟨rfl, rfl⟩) (fun c => ⟨rfl, rfl⟩) (by rw [u1, hfa, Int32.add_zero]) (by
        rw [u3, hch hl]
        split <;> rfl)) E
      refine ew_go (fun pc => Nat.beq pc 2) 60 ⟨fun c => absurd c clt, fun c => ⟨ixj, fun e => nx, fun e => absurd (show ¬ s1 50 (ei j).toNatClampNeg i = 0 from ?_) e⟩⟩
      rw [hn, u4]; exact hl

theorem xm_freeze {x : Int32} (hx : 0 ≤ x ∧ x ≤ 9) (hR : rc q i z a s m) (ha : ∀ c, c < 15 → (∃ n, n < 1000000000 ∧ a 4 0 (c + 15 * q) = ei n) ∧ (a 4 3 (c + 15 * q) ≠ 0 → a 4 2 (c + 15 * q) = 0))
    (k : ∀ s', rc q i z (sp_f q x a 15) s' m → Ex (Qc i) 0 s m s' m → K (.inl none) (ew_hp s' m)) : ew_Call (d + 1) 119 [ew_o 14 i, ew_i x] (ew_hp s m) K :=
  ew_call (ew_go (fun pc => Nat.beq pc 2) 40 (xl_freeze (d := d) hx hR ha k 15 0 0 none s rfl rfl hR (Ex.rf _ _ _)))
/-- what an hour of the model writes -/
def Qh (i nb ns : Nat) (β σ : Nat → Nat) : Nat → Nat → Nat → Prop := fun k p o => Qc i k p o ∨ (∃ b, b < nb ∧ o = β b ∧ (k = 12 ∨ k = 98 ∨ k = 116)) ∨ ∃ j, j < ns ∧ Qs (σ j) k p o
theorem Qh.ob {nb ns b c : Nat} (hb : b < nb) {k p o : Nat} (h : Qb (β b) i c k p o) : Qh i nb ns β σ k p o := by
  rcases h with h | h
  · exact Or.inr (Or.inl ⟨b, hb, h⟩)
  · exact Or.inl ⟨h.2.2, Or.inr (Or.inr (Or.inr h.1))⟩
theorem Qh.os {nb ns j : Nat} (hj : j < ns) {k p o : Nat} (h : Qs (σ j) k p o) : Qh i nb ns β σ k p o := Or.inr (Or.inr ⟨j, hj, h⟩)
/-- iterators and other arrays of an hour may change -/
def P1 : Nat → Nat → Nat → Prop := fun k _ _ => k = 1 ∨ k = 401 ∨ k = 433 ∨ k = 465 ∨ k = 497 ∨ k = 529
theorem RM.ex1 {c : Nat} {s' : ew_S} {m' : ew_H} (h : RM q i nb ns np β σ ρ z a s m) (e : Ex P1 c s m s' m') : RM q i nb ns np β σ ρ z a s' m' := by
  obtain ⟨h1, h2, h3, h4, h5, h6, h7, h8⟩ := h
  have n : ∀ {k p o : Nat}, k ≠ 1 → k ≠ 401 → k ≠ 433 → k ≠ 465 → k ≠ 497 → k ≠ 529 → ¬ P1 k p o := fun a b c d e f w => by
    rcases w with w | w | w | w | w | w
    · exact a w
    · exact b w
    · exact c w
    · exact d w
    · exact e w
    · exact f w
  exact ⟨h1.ex e (fun k p hk => n (by omega) (by omega) (by omega) (by omega) (by omega) (by omega)), h2.ex rfl e (fun _ => n (by decide) (by decide) (by decide) (by decide) (by decide) (by decide)) (fun _ => n (by decide) (by decide) (by decide) (by decide) (by decide) (by decide)), h3.ex rfl e (fun _ => n (by decide) (by decide) (by decide) (by decide) (by decide) (by decide)) (fun _ => n (by decide) (by decide) (by decide) (by decide) (by decide) (by decide)), h4.ex rfl e (fun _ => n (by decide) (by decide) (by decide) (by decide) (by decide) (by decide)) (fun _ => n (by decide) (by decide) (by decide) (by decide) (by decide) (by decide)),
    fun b hb => (h5 b hb).ex e (fun k p hk => n (by omega) (by omega) (by omega) (by omega) (by omega) (by omega)), fun j hj => (h6 j hj).ex e (fun k p hk => n (by omega) (by omega) (by omega) (by omega) (by omega) (by omega)), fun p hp => (h7 p hp).ex e (fun k r j hk => n (by omega) (by omega) (by omega) (by omega) (by omega) (by omega)), h8⟩
theorem Ex.p1 {c : Nat} {s' : ew_S} {m' : ew_H} (e : Ex P0 c s m s' m') : Ex P1 c s m s' m' := e.mono (fun _ _ _ _ w => w.elim) (Nat.le_refl _)
theorem RR.ex1 {c : Nat} {s' : ew_S} {m' : ew_H} (h : RR q i nb ns np T β σ ρ z a s m) (e : Ex P1 c s m s' m') (G : GI m') : RR q i nb ns np T β σ ρ z a s' m' := ⟨h.1.ex1 e, h.2.1, G, h.2.2.2.ex e⟩
end
