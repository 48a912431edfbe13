/-! The model's breakers in an hour. -/
section
variable {d : Nat} {K : ew_R → ew_H → Prop} {q i nb ns np T : Nat} {β σ : Nat → Nat} {ρ : Nat → Nat → Nat} {z : ew_Z3} {a s : ew_S} {m : ew_H}
theorem rg.ex {B o c : Nat} {P : Nat → Nat → Nat → Prop} {a' s' : ew_S} {m' : ew_H} (h : rg B o a s) (hx : m.2.2.1 12 o = true) (e : Ex P c s m s' m') (n : ∀ p, ¬ P 12 p o) (e2 : a' 3 4 B = a 3 4 B) : rg B o a' s' := by
  unfold rg
  rw [(e.2.2.1 12 4 o hx (n 4)).1, (e.2.2.1 12 3 o hx (n 3)).1, e2]; exact h
theorem rb.cell {B o : Nat} (h : rb B o z a s m) (x : Int32) : rb B o z (ew_u a 3 1 B x) (ew_u s 12 0 o x) m := ⟨h.1, by rw [ew_u_self, ew_u_self], h.2.2⟩
theorem rb.fuel {B o : Nat} (h : rb B o z a s m) (x : Int32) : rb B o z (ew_u a 3 2 B x) (ew_u s 12 1 o x) m := ⟨h.1, h.2.1, by rw [ew_u_self, ew_u_self], h.2.2.2⟩
theorem rb.stuck {B o : Nat} (h : rb B o z a s m) (x : Int32) : rb B o z (ew_u a 3 3 B (a 3 3 B + x)) (ew_u s 12 2 o (s 12 2 o + x)) m := ⟨h.1, h.2.1, h.2.2.1, by rw [ew_u_self, ew_u_self, ei_az, h.2.2.2.1], h.2.2.2.2⟩
theorem rb.route {B o c : Nat} {P : Nat → Nat → Nat → Prop} {a' s' : ew_S} {m' : ew_H} (h : rb B o z a s m) (e : Ex P c s m s' m') (n1 : ∀ p, ¬ P 12 p o) (e1 : ∀ p, p < 4 → a' 3 p B = a 3 p B) (hL : LR 98 o (a' 8 1 B).toNatClampNeg (fun r => ew_o 0 ((a' 145 r B).toNatClampNeg + 128)) s' m') : rb B o z a' s' m' := by
  obtain ⟨h1, h2, h3, h4, -⟩ := h
  have f : ∀ p, s' 12 p o = s 12 p o := fun p => (e.2.2.1 12 p o h1 (n1 p)).1
  refine ⟨e.2.1 _ _ h1, ?_, ?_, ?_, hL⟩
  · rw [f, e1 1 (by decide)]; exact h2
  · rw [f, e1 2 (by decide)]; exact h3
  · rw [f, e1 3 (by decide)]; exact h4
theorem RR.brk (h : RR q i nb ns np T β σ ρ z a s m) {b d c : Nat} (hb : b < nb) {a' s' : ew_S} {m' : ew_H} (F : Fr (Pb (b + 2 * q) (d + 15 * q)) a a') (I : iv_b (ea a' (b + 2 * q))) (I2 : d < 15 → iv_c (ea a' (d + 15 * q))) (e : Ex (Qb (β b) i d) c s m s' m') (k : rb (b + 2 * q) (β b) z a' s' m') (k2 : s' 337 d i = a' 4 2 (d + 15 * q)) (G : GI m') : RR q i nb ns np T β σ ρ z a' s' m' :=
  ⟨h.1.brk hb F e k k2, h.2.1.brk F I I2, G, h.2.2.2.ex e⟩
theorem xl_goes_on (h : RR q i nb ns np T β σ ρ z a s m) {b n t : Nat} {x : Int32} (hb : b < nb) (hn : n ≤ 8) (hn2 : a 8 1 (b + 2 * q) = ei n) (n0 : 0 < n) (ht : t < 15) (hl0 : a 4 3 (t + 15 * q) = 0) (ib : iv_b (ea (ew_u (sp_en (b + 2 * q) (ei t) (3 + a 4 0 (t + 15 * q) / 30) (ew_u a 3 4 (b + 2 * q) (-1))) 4 2 (t + 15 * q) 12) (b + 2 * q)))
    (k : ∀ s' m' c, RR q i nb ns np T β σ ρ z (ew_u (sp_en (b + 2 * q) (ei t) (3 + a 4 0 (t + 15 * q) / 30) (ew_u a 3 4 (b + 2 * q) (-1))) 4 2 (t + 15 * q) 12) s' m' → Ex (Qb (β b) i c) 0 s m s' m' → rg (b + 2 * q) (β b) (ew_u (sp_en (b + 2 * q) (ei t) (3 + a 4 0 (t + 15 * q) / 30) (ew_u a 3 4 (b + 2 * q) (-1))) 4 2 (t + 15 * q) 12) s' → c < 15 → K (.inl none) (ew_hp s' m')) (hx : x = 3 + a 4 0 (t + 15 * q) / 30) :
    ew_W (ew_Call (d + 3)) 120 K (111, [some (ew_o 14 i), some (ew_o 12 (β b)), some (ew_i (ei t)), some (ew_i x)], [], ew_hp (ew_u (ew_u s 12 4 (β b) 0) 12 3 (β b) (s 12 0 (β b))) m) := by
  subst hx
  have hR := h
  obtain ⟨R, I, G, C⟩ := h
  have hB := R.2.2.2.2.1 b hb
  obtain ⟨⟨t0, ht0, e0⟩, -⟩ := I.2.2.2.1 b hb
  have hcell := I.2.2.1
  have e0 : a 3 1 (b + 2 * q) = ei t0 := e0
  have hL : LR 98 (β b) n (fun r => ew_o 0 ((a 145 r (b + 2 * q)).toNatClampNeg + 128)) s m := by
    have := hB.2.2.2.2
    rw [hn2, ei_nat (by omega)] at this
    exact this
  have hall : ∀ r, r < n → ∃ b', (fun r => ew_o 0 ((a 145 r (b + 2 * q)).toNatClampNeg + 128)) r = ew_o 0 b' := fun r _ => ⟨_, rfl⟩
  have ix : ew_ix (ei t) 15 := ei_ix ht (by decide)
  have htn : (ei t).toNatClampNeg = t := ei_nat (by omega)
  have E0 : ∀ c, Ex (Qb (β b) i c) 0 s m (ew_u (ew_u s 12 4 (β b) 0) 12 3 (β b) (s 12 0 (β b))) m := fun c => ((Ex.rf _ _ _).u _ rfl (Or.inl (Or.inl ⟨rfl, Or.inl rfl⟩))).u _ rfl (Or.inl (Or.inl ⟨rfl, Or.inl rfl⟩))
  have hB0 : rb (b + 2 * q) (β b) z (ew_u a 3 4 (b + 2 * q) (-1)) (ew_u (ew_u s 12 4 (β b) 0) 12 3 (β b) (s 12 0 (β b))) m := hB
  have P : ∀ {D k p : Nat}, (k = 3 ∨ k = 8 ∨ k = 145) → Pb (b + 2 * q) D k p (b + 2 * q) := fun z => Or.inl ⟨rfl, z⟩
  -- the state behind fuel, cell and going
  have r1 : rb (b + 2 * q) (β b) z (ew_u (ew_u (ew_u (ew_u a 3 4 (b + 2 * q) (-1)) 3 2 (b + 2 * q) (a 3 2 (b + 2 * q) - (3 + a 4 0 (t + 15 * q) / 30))) 3 4 (b + 2 * q) (a 3 1 (b + 2 * q))) 3 1 (b + 2 * q) (ei t)) (ew_u (ew_u (ew_u (ew_u (ew_u s 12 4 (β b) 0) 12 3 (β b) (s 12 0 (β b))) 12 1 (β b) (a 3 2 (b + 2 * q) - (3 + a 4 0 (t + 15 * q) / 30))) 12 0 (β b) (ei t)) 12 4 (β b) 1) m :=
    (hB0.fuel (a 3 2 (b + 2 * q) - (3 + a 4 0 (t + 15 * q) / 30))).cell (ei t)
  have E1 : Ex (Qb (β b) i t) 0 s m (ew_u (ew_u (ew_u (ew_u (ew_u s 12 4 (β b) 0) 12 3 (β b) (s 12 0 (β b))) 12 1 (β b) (a 3 2 (b + 2 * q) - (3 + a 4 0 (t + 15 * q) / 30))) 12 0 (β b) (ei t)) 12 4 (β b) 1) m :=
    (((E0 t).u _ rfl (Or.inl (Or.inl ⟨rfl, Or.inl rfl⟩))).u _ rfl (Or.inl (Or.inl ⟨rfl, Or.inl rfl⟩))).u _ rfl (Or.inl (Or.inl ⟨rfl, Or.inl rfl⟩))
  have hL1 : LR 98 (β b) n (fun r => ew_o 0 ((a 145 r (b + 2 * q)).toNatClampNeg + 128)) (ew_u (ew_u (ew_u (ew_u (ew_u s 12 4 (β b) 0) 12 3 (β b) (s 12 0 (β b))) 12 1 (β b) (a 3 2 (b + 2 * q) - (3 + a 4 0 (t + 15 * q) / 30))) 12 0 (β b) (ei t)) 12 4 (β b) 1) m := hL
  have fin : ∀ s' m', LR 98 (β b) (n - 1) (fun j => ew_o 0 ((a 145 (j + 1) (b + 2 * q)).toNatClampNeg + 128)) s' m' → Ex (Pl 98 (β b)) 0 (ew_u (ew_u (ew_u (ew_u (ew_u s 12 4 (β b) 0) 12 3 (β b) (s 12 0 (β b))) 12 1 (β b) (a 3 2 (b + 2 * q) - (3 + a 4 0 (t + 15 * q) / 30))) 12 0 (β b) (ei t)) 12 4 (β b) 1) m s' m' → GI m' → K (.inl none) (ew_put (ew_hp s' m') 337 i (ei t).toNatClampNeg (ew_i 12)) := by
    intro s' m' l1 l2 l3
    rw [htn]
    have E2 := (E1.tr (l2.mono (P' := Qb (β b) i t) (fun k p i _ w => Or.inl ⟨w.1, by have := w.2; omega⟩) (Nat.le_refl _))).u (k := 337) (p := t) (i := i) 12 rfl (Or.inl (Or.inr ⟨rfl, rfl, rfl⟩))
    have F : Fr (Pb (b + 2 * q) (t + 15 * q)) a (ew_u (sp_en (b + 2 * q) (ei t) (3 + a 4 0 (t + 15 * q) / 30) (ew_u a 3 4 (b + 2 * q) (-1))) 4 2 (t + 15 * q) 12) :=
      ((((((((Fr.rf _ _).u _ (P (Or.inl rfl))).u _ (P (Or.inl rfl))).u _ (P (Or.inl rfl))).u _ (P (Or.inl rfl))).sh _ (fun p => P (Or.inr (Or.inr rfl)))).u _ (P (Or.inr (Or.inl rfl))))).u _ (Or.inr ⟨rfl, rfl, rfl⟩)
    have hen : sp_en (b + 2 * q) (ei t) (3 + a 4 0 (t + 15 * q) / 30) (ew_u a 3 4 (b + 2 * q) (-1)) = ew_u (ef_sh (ew_u (ew_u (ew_u (ew_u a 3 4 (b + 2 * q) (-1)) 3 2 (b + 2 * q) (a 3 2 (b + 2 * q) - (3 + a 4 0 (t + 15 * q) / 30))) 3 4 (b + 2 * q) (a 3 1 (b + 2 * q))) 3 1 (b + 2 * q) (ei t)) 145 (b + 2 * q) n) 8 1 (b + 2 * q) (ei (n - 1)) := by
      unfold sp_en
      rw [show (ew_u a 3 4 (b + 2 * q) (-1) 8 1 (b + 2 * q)).toNatClampNeg = n from by show (a 8 1 (b + 2 * q)).toNatClampNeg = n; rw [hn2, ei_nat (by omega)]]
      rfl
    have r2 : rb (b + 2 * q) (β b) z (ew_u (sp_en (b + 2 * q) (ei t) (3 + a 4 0 (t + 15 * q) / 30) (ew_u a 3 4 (b + 2 * q) (-1))) 4 2 (t + 15 * q) 12) s' m' := by
      rw [hen]
      refine r1.route l2 (fun p w => by have := w.2; omega) (fun p _ => ?_) ?_
      · exact (ew_u_ne _ _ (by omega)).trans ((ew_u_ne _ _ (by omega)).trans (ef_sh_ne _ (by omega)))
      · rw [ew_u_ne _ _ (by omega), ew_u_self, ei_nat (by omega)]
        refine l1.cg (fun r hr => ew_o0 ?_)
        rw [ew_u_ne _ _ (by omega), ew_u_ne _ _ (by omega), ef_sh_at _ (by omega)]; rfl
    have hIb : iv_b (ea (ew_u (sp_en (b + 2 * q) (ei t) (3 + a 4 0 (t + 15 * q) / 30) (ew_u a 3 4 (b + 2 * q) (-1))) 4 2 (t + 15 * q) 12) (b + 2 * q)) := ib
    have hIc : iv_c (ea (ew_u (sp_en (b + 2 * q) (ei t) (3 + a 4 0 (t + 15 * q) / 30) (ew_u a 3 4 (b + 2 * q) (-1))) 4 2 (t + 15 * q) 12) (t + 15 * q)) := by
      obtain ⟨y1, y2, y3⟩ := hcell t ht
      refine ⟨?_, Or.inl hl0, y3⟩
      show 0 ≤ ew_u _ 4 2 (t + 15 * q) 12 4 2 (t + 15 * q)
      rw [ew_u_self]; decide
    have hx : m.2.2.1 12 (β b) = true := hB.1
    refine ek_p rfl (k _ _ t (hR.brk hb F hIb (fun _ => hIc) E2 r2 (by rw [ew_u_self, ew_u_self]) l3) E2 (Or.inl ⟨?_, ?_, t0, ht0, ?_⟩) ht)
    · show s' 12 4 (β b) = 1
      rw [(l2.2.2.1 12 4 (β b) hx (fun w => by have := w.2; omega)).1, ew_u_self]
    · show ew_u _ 4 2 _ 12 3 4 (b + 2 * q) = s' 12 3 (β b)
      rw [(l2.2.2.1 12 3 (β b) hx (fun w => by have := w.2; omega)).1, hen, ew_u_ne _ _ (by omega), ew_u_ne _ _ (by omega), ef_sh_ne _ (by omega), ew_u_ne _ _ (by omega), ew_u_self, ew_u_ne _ _ (by omega), ew_u_ne _ _ (by omega), ew_u_ne _ _ (by omega), ew_u_self, hB.2.1]
    · rw [hen, ew_u_ne _ _ (by omega), ew_u_ne _ _ (by omega), ef_sh_ne _ (by omega), ew_u_ne _ _ (by omega), ew_u_self]; exact e0
  refine ew_go (fun pc => Nat.beq pc 131) 60 ⟨trivial, trivial, Or.inr rfl, ?_⟩
  show ew_W (ew_Call (d + 3)) 120 K (131, [some (ew_o 14 i), some (ew_o 12 (β b)), some (ew_i (ei t)), some (ew_i (3 + a 4 0 (t + 15 * q) / 30))], [], ew_put (ew_put (ew_put (ew_hp (ew_u (ew_u s 12 4 (β b) 0) 12 3 (β b) (s 12 0 (β b))) m) 12 (β b) 1 (ew_i (s 12 1 (β b) - (3 + a 4 0 (t + 15 * q) / 30)))) 12 (β b) 0 (ew_i (ei t))) 12 (β b) 4 (ew_i 1))
  rw [ew_hp_put rfl, ew_hp_put rfl, ew_hp_put rfl, hB.2.2.1]
  exact ew_go (fun _ => false) 60 (xm_remove98 hL1 G n0 hall (fun s' m' b' l1 l2 l3 => ⟨⟨ix, trivial⟩, trivial, fin s' m' l1 l2 l3⟩))
theorem xm_go (h : RR q i nb ns np T β σ ρ z a s m) {b : Nat} (hb : b < nb) (k : ∀ s' m' c, RR q i nb ns np T β σ ρ z (sp_mb q (b + 2 * q) a) s' m' → Ex (Qb (β b) i c) 0 s m s' m' → rg (b + 2 * q) (β b) (sp_mb q (b + 2 * q) a) s' → c < 15 → K (.inl none) (ew_hp s' m')) : ew_Call (d + 4) 120 [ew_o 14 i, ew_o 12 (β b)] (ew_hp s m) K := by
  have hR := h
  obtain ⟨R, I, G, C⟩ := h
  have hB := R.2.2.2.2.1 b hb
  obtain ⟨⟨t0, ht0, e0⟩, ⟨n, hn, hn2, hrt⟩⟩ := I.2.2.2.1 b hb
  have hcell := I.2.2.1
  have e0 : a 3 1 (b + 2 * q) = ei t0 := e0
  have hn2 : a 8 1 (b + 2 * q) = ei n := hn2
  obtain ⟨c0, hc0, iF, ib, ic⟩ := iv_mb I hb
  have hL : LR 98 (β b) n (fun r => ew_o 0 ((a 145 r (b + 2 * q)).toNatClampNeg + 128)) s m := by
    have := hB.2.2.2.2
    rw [hn2, ei_nat (by omega)] at this
    exact this
  have ez : ∀ c, c < 15 → s 337 c i = a 4 2 (c + 15 * q) := fun c hc => (R.1.2.2.2 c hc).2.2.1
  have hA : sp_mb q (b + 2 * q) a = sp_mb q (b + 2 * q) a := rfl
  -- the start of the hour
  have E0 : ∀ c, Ex (Qb (β b) i c) 0 s m (ew_u (ew_u s 12 4 (β b) 0) 12 3 (β b) (s 12 0 (β b))) m := fun c => ((Ex.rf _ _ _).u _ rfl (Or.inl (Or.inl ⟨rfl, Or.inl rfl⟩))).u _ rfl (Or.inl (Or.inl ⟨rfl, Or.inl rfl⟩))
  have hB0 : rb (b + 2 * q) (β b) z (ew_u a 3 4 (b + 2 * q) (-1)) (ew_u (ew_u s 12 4 (β b) 0) 12 3 (β b) (s 12 0 (β b))) m := hB
  have hL0 : LR 98 (β b) n (fun r => ew_o 0 ((a 145 r (b + 2 * q)).toNatClampNeg + 128)) (ew_u (ew_u s 12 4 (β b) 0) 12 3 (β b) (s 12 0 (β b))) m := hL
  have R0 : rc q i z a (ew_u (ew_u s 12 4 (β b) 0) 12 3 (β b) (s 12 0 (β b))) m := R.1
  have rg0 : ∀ (x : Int32) (a1 : ew_S), a1 3 4 (b + 2 * q) = -1 → rg (b + 2 * q) (β b) a1 (ew_u (ew_u s 12 4 (β b) 0) 12 3 (β b) (s 12 0 (β b))) := fun x a1 e => Or.inr ⟨ew_u_self _ 12 4 _ _, e⟩
  have P : ∀ {D k p : Nat}, (k = 3 ∨ k = 8 ∨ k = 145) → Pb (b + 2 * q) D k p (b + 2 * q) := fun z => Or.inl ⟨rfl, z⟩
  have ib0 : iv_b (ea (ew_u a 3 4 (b + 2 * q) (-1)) (b + 2 * q)) := ⟨⟨t0, ht0, e0⟩, n, hn, hn2, hrt⟩
  refine ew_call (ew_go (fun pc => Nat.beq pc 13) 60 ⟨Or.inl rfl, trivial, ?_⟩)
  show ew_W (ew_Call (d + 3)) 120 K (13, [some (ew_o 14 i), some (ew_o 12 (β b)), none, none], [], ew_put (ew_put (ew_hp s m) 12 (β b) 4 (ew_i 0)) 12 (β b) 3 (ew_i (s 12 0 (β b))))
  refine eq_2 rfl rfl ?_
  refine ew_go (fun pc => Nat.beq pc 111) 60 (xm_isEmpty98 hL0 (fun n0 => ⟨fun c => absurd c (show ¬ (1 : Int32) = 0 by decide), fun _ => ⟨trivial, ?_⟩⟩) (fun n0 => ⟨fun _ => ?_, fun c => absurd rfl c⟩))
  · subst n0
    have eg : sp_mb q (b + 2 * q) a = ew_u a 3 4 (b + 2 * q) (-1) := if_pos hn2
    rw [eg] at k
    exact k _ _ 0 (hR.brk hb ((Fr.rf _ _).u _ (P (Or.inl rfl))) ib0 (fun _ => hcell 0 (by decide)) (E0 0) hB0 (ez 0 (by decide)) G) (E0 0) (rg0 0 _ (ew_u_self _ _ _ _ _)) (by decide)
  obtain ⟨t, ht, e⟩ := hrt 0 n0
  have e : a 145 0 (b + 2 * q) = ei t := e
  have hne : ¬ a 8 1 (b + 2 * q) = 0 := fun w => by
    rw [hn2] at w
    have := (ei_inj (b := 0) (by omega) (by decide)).mp w
    omega
  have ht' : (a 145 0 (b + 2 * q)).toNatClampNeg = t := by rw [e, ei_nat (by omega)]
  have he0 : ew_o 0 ((a 145 0 (b + 2 * q)).toNatClampNeg + 128) = ew_o 0 (t + 128) := ew_o0 (by rw [ht'])
  have hall : ∀ r, r < n → ∃ b', (fun r => ew_o 0 ((a 145 r (b + 2 * q)).toNatClampNeg + 128)) r = ew_o 0 b' := fun r _ => ⟨_, rfl⟩
  have ix : ew_ix (ei t) 15 := ei_ix ht (by decide)
  have htn : (ei t).toNatClampNeg = t := ei_nat (by omega)
  have q0 : s 273 t i = a 4 0 (t + 15 * q) := (R.1.2.2.2 t ht).1
  have q1 : s 305 t i = a 4 1 (t + 15 * q) := (R.1.2.2.2 t ht).2.1
  refine xm_get98 hL0 n0 (x := 0) rfl he0 (xm_intValueE _ (C.1 t (by omega)) (xm_isBeside R0 ht _ (fun hb' => ⟨fun _ => ?_, fun c => absurd (show ¬ (1 : Int32) = 0 by decide) c⟩) (fun hb' => ⟨fun c => absurd rfl c, fun _ => ?_⟩)))
  · have hb' : ef_far (a 3 1 (b + 2 * q)) (ei t) = 1 ∧ a 4 3 (t + 15 * q) = 0 := by rw [← hB.2.1]; exact hb'
    have stuck : ¬ (a 4 0 (t + 15 * q) + 5 * a 4 1 (t + 15 * q) ≤ 150 ∧ 3 + a 4 0 (t + 15 * q) / 30 ≤ a 3 2 (b + 2 * q)) → K (.inl none) (ew_put (ew_hp (ew_u (ew_u s 12 4 (β b) 0) 12 3 (β b) (s 12 0 (β b))) m) 12 (β b) 2 (ew_i (s 12 2 (β b) + 1))) := by
      intro hst
      have eg : sp_mb q (b + 2 * q) a = ew_u (ew_u a 3 4 (b + 2 * q) (-1)) 3 3 (b + 2 * q) (a 3 3 (b + 2 * q) + 1) := by
        unfold sp_mb
        rw [if_neg hne, ht', e, if_pos hb', if_neg hst]
      rw [eg] at k
      have E1 := (E0 0).u (k := 12) (p := 2) (i := β b) (s 12 2 (β b) + 1) rfl (Or.inl (Or.inl ⟨rfl, Or.inl rfl⟩))
      exact ek_p rfl (k _ _ 0 (hR.brk hb (((Fr.rf _ _).u _ (P (Or.inl rfl))).u _ (P (Or.inl rfl))) ib0 (fun _ => hcell 0 (by decide)) E1 (hB0.stuck 1) (ez 0 (by decide)) G) E1 (Or.inr ⟨ew_u_self _ 12 4 _ _, ew_u_self _ 3 4 _ _⟩) (by decide))
    refine ⟨ix, by decide, ix, ix, fun c3 => ⟨trivial, trivial, ?_⟩, fun c3 => ⟨fun c4 => ?_, fun c4 => ⟨trivial, trivial, ?_⟩⟩⟩
    · have c3 : (150 : Int32) < s 273 (ei t).toNatClampNeg i + 5 * s 305 (ei t).toNatClampNeg i := c3
      rw [htn, q0, q1] at c3
      exact stuck (fun w => Int32.not_le.mpr c3 w.1)
    · have c3 : ¬ (150 : Int32) < s 273 (ei t).toNatClampNeg i + 5 * s 305 (ei t).toNatClampNeg i := c3
      rw [htn, q0, q1] at c3
      have c4 : 3 + s 273 (ei t).toNatClampNeg i / 30 ≤ s 12 1 (β b) := c4
      rw [htn, q0, hB.2.2.1] at c4
      have eg : sp_mb q (b + 2 * q) a = ew_u (sp_en (b + 2 * q) (ei t) (3 + a 4 0 (t + 15 * q) / 30) (ew_u a 3 4 (b + 2 * q) (-1))) 4 2 (t + 15 * q) 12 := by
        unfold sp_mb
        rw [if_neg hne, ht', e, if_pos hb', if_pos ⟨Int32.not_lt.mp c3, c4⟩]
      rw [eg] at k iF ib ic
      refine xl_goes_on (d := d) hR hb hn hn2 n0 ht hb'.2 ib k ?_
      show 3 + s 273 (ei t).toNatClampNeg i / 30 = _
      rw [htn, q0]
    · have c4 : ¬ 3 + s 273 (ei t).toNatClampNeg i / 30 ≤ s 12 1 (β b) := c4
      rw [htn, q0, hB.2.2.1] at c4
      exact stuck (fun w => c4 w.2)
  · have hb' : ¬ (ef_far (a 3 1 (b + 2 * q)) (ei t) = 1 ∧ a 4 3 (t + 15 * q) = 0) := by rw [← hB.2.1]; exact hb'
    have eg : sp_mb q (b + 2 * q) a = ew_u (ew_u a 3 4 (b + 2 * q) (-1)) 8 1 (b + 2 * q) 0 := by
      unfold sp_mb
      rw [if_neg hne, ht', e, if_neg hb']
    rw [eg] at k
    refine xm_clear98 hL0 G (fun s' m' es' l1 l2 l3 => ⟨trivial, ?_⟩)
    have E1 : Ex (Qb (β b) i 0) 0 s m s' m' := (E0 0).tr (l2.mono (fun k p i _ w => Or.inl ⟨w.1, by have := w.2; omega⟩) (Nat.le_refl _))
    refine k _ _ 0 (hR.brk hb (((Fr.rf _ _).u _ (P (Or.inl rfl))).u _ (P (Or.inr (Or.inl rfl)))) ⟨⟨t0, ht0, e0⟩, ⟨0, by decide, ew_u_self _ 8 1 _ _, fun r hr => absurd hr (Nat.not_lt_zero _)⟩⟩ (fun _ => hcell 0 (by decide)) E1 (hB0.route l2 (fun p w => by have := w.2; omega) (fun p _ => rfl) ?_) ?_ l3) E1 ?_ (by decide)
    · rw [ew_u_self]
      exact l1.cg (fun r hr => absurd hr (Nat.not_lt_zero _))
    · rw [(l2.2.2.1 337 0 i R.1.1.2.2.2.1 (fun w => by have := w.2; omega)).1]; exact ez 0 (by decide)
    · exact (rg0 0 _ (ew_u_self _ 3 4 _ _)).ex hB.1 l2 (fun p w => by have := w.2; omega) rfl
end
