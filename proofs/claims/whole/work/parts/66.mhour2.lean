/-! The model's hour: all of it. -/
section
variable {d : Nat} {K : ew_R → ew_H → Prop} {q i nb ns np T : Nat} {β σ : Nat → Nat} {ρ : Nat → Nat → Nat} {z : ew_Z3} {a s : ew_S} {m : ew_H}
theorem IT.step {k i t j : Nat} (h : IT k i t j s m) (hk : k ≠ 1) : IT k i t (j + 1) (ew_u (ew_u s 1 0 t (ei (j + 1))) 1 1 t (ei j)) m :=
  ⟨(ew_u_ne _ _ (by omega)).trans (ew_u_self _ _ _ _ _), ((ew_u_ne _ _ (by omega)).trans (ew_u_ne _ _ (by omega))).trans (h.2.1.trans ((ew_u_ne _ _ (by omega)).trans (ew_u_ne _ _ (by omega))).symm), h.2.2⟩
theorem Ex.it {t : Nat} (x y : Int32) : Ex P1 0 s m (ew_u (ew_u s 1 0 t x) 1 1 t y) m := ((Ex.rf _ _ _).u _ rfl (Or.inl (Or.inl rfl))).u _ rfl (Or.inl (Or.inl rfl))
theorem Ex.it2 {P : Nat → Nat → Nat → Prop} {c t : Nat} {s1 : ew_S} {m1 : ew_H} (e : Ex P c s m s1 m1) (h : m.2.2.1 1 t = false) (x y : Int32) : Ex P c s m (ew_u (ew_u s1 1 0 t x) 1 1 t y) m1 := (e.u _ rfl (Or.inr h)).u _ rfl (Or.inr h)
theorem xl_mh1 {x w : Int32} {c t : Nat} {a0 : ew_S} (hnew : m.2.2.1 1 t = false)
    (k : ∀ s1 m1 v, RR q i nb ns np T β σ ρ z (sp_b q a0 nb) s1 m1 → (∀ b, b < nb → rg (b + 2 * q) (β b) (sp_b q a0 nb) s1) → Ex (Qh i nb ns β σ) c s m s1 m1 → ew_W (ew_Call (d + 6)) 117 K (57, [some (ew_o 14 i), some (ew_i x), some (ew_i w), some (ew_o 1 t), v], [], ew_hp s1 m1)) :
    ∀ (r j : Nat) (v : Option ew_V) (s1 : ew_S) (m1 : ew_H), j + r = nb → RR q i nb ns np T β σ ρ z (sp_b q a0 j) s1 m1 → IT 2 i t j s1 m1 → m1.2.2.1 1 t = true → (∀ b, b < j → rg (b + 2 * q) (β b) (sp_b q a0 j) s1) → Ex (Qh i nb ns β σ) c s m s1 m1 →
    ew_W (ew_Call (d + 6)) 117 K (28, [some (ew_o 14 i), some (ew_i x), some (ew_i w), some (ew_o 1 t), v], [], ew_hp s1 m1) := by
  intro r
  induction r with
  | zero =>
    intro j v s1 m1 hj h hI hx hg E
    obtain rfl : j = nb := by omega
    exact ew_go (fun pc => Nat.beq pc 28 || Nat.beq pc 57) 40 (xm_hasNext2 h.1.2.1 hI (Nat.le_refl _) (fun _ => ⟨fun _ => k s1 m1 v h hg E, fun c => absurd rfl c⟩) (fun z => absurd z (Nat.lt_irrefl _)))
  | succ r ih =>
    intro j v s1 m1 hj h hI hx hg E
    have hj2 : j < nb := by omega
    have h2 := h.ex1 (Ex.it (s := s1) (m := m1) (t := t) (ei (j + 1)) (ei j)) h.2.2.1
    have hI2 := hI.step (by decide)
    have hg2 : ∀ b, b < j → rg (b + 2 * q) (β b) (sp_b q a0 j) (ew_u (ew_u s1 1 0 t (ei (j + 1))) 1 1 t (ei j)) := hg
    obtain ⟨c0, hc0, F0, -, -⟩ := iv_mb h.2.1 hj2
    have nx : ∀ s' m' c', RR q i nb ns np T β σ ρ z (sp_mb q (j + 2 * q) (sp_b q a0 j)) s' m' → Ex (Qb (β j) i c') 0 (ew_u (ew_u s1 1 0 t (ei (j + 1))) 1 1 t (ei j)) m1 s' m' → rg (j + 2 * q) (β j) (sp_mb q (j + 2 * q) (sp_b q a0 j)) s' → c' < 15 →
        ew_W (ew_Call (d + 6)) 117 K (28, [some (ew_o 14 i), some (ew_i x), some (ew_i w), some (ew_o 1 t), some (ew_o 12 (β j))], [], ew_hp s' m') := by
      intro s' m' c' r1 r2 r3 _
      refine ih (j + 1) _ s' m' (by omega) r1 (hI2.ex h.1.2.1.1 hx r2 (fun p w => ?_) (fun w => ?_)) (r2.2.1 _ _ hx) (fun b hb => ?_) (((E.it2 hnew _ _).tr (r2.mono (fun k p o _ w => Qh.ob hj2 w) (Nat.le_refl _))).le (by omega))
      · rcases w with w | w
        · have := w.2; omega
        · have := w.1; omega
      · rcases w with w | w
        · have := w.2; omega
        · have := w.1; omega
      · by_cases e : b = j
        · subst e; exact r3
        · refine (hg2 b (by omega)).ex (h.1.2.2.2.2.1 b (by omega)).1 r2 (fun p w => ?_) (F0 3 4 _ (fun w => ?_))
          · rcases w with w | w
            · exact e (h.1.2.2.2.2.2.2.2.1 b j (by omega) hj2 w.1)
            · have := w.1; omega
          · rcases w with w | w
            · have := w.1; omega
            · have := w.1; omega
    exact ew_go (fun pc => Nat.beq pc 28 || Nat.beq pc 57) 60 (xm_hasNext2 h.1.2.1 hI (by omega) (fun z => absurd z (by omega)) (fun _ => ⟨fun c => absurd c (show ¬ (1 : Int32) = 0 by decide), fun _ => xm_next2 h.1.2.1 hI hj2 rfl (xm_go h2 hj2 nx)⟩))
theorem xl_mh2 {x w : Int32} {c : Nat} {a0 : ew_S}
    (k : ∀ s1 m1, RR q i nb ns np T β σ ρ z (sp_m q a0 ns).2 s1 m1 → Ex (Qh i nb ns β σ) c s m s1 m1 → K (.inl (some (ew_i (sp_m q a0 ns).1))) (ew_hp s1 m1)) :
    ∀ (r j : Nat) (y v : Int32) (s1 : ew_S) (m1 : ew_H), y = ei j → v = (sp_m q a0 j).1 → j + r = ns → RR q i nb ns np T β σ ρ z (sp_m q a0 j).2 s1 m1 → (∀ b, b < nb → rg (b + 2 * q) (β b) (sp_m q a0 j).2 s1) → Ex (Qh i nb ns β σ) c s m s1 m1 →
    ew_W (ew_Call (d + 6)) 117 K (62, [some (ew_o 14 i), some (ew_i x), some (ew_i w), some (ew_i v), some (ew_i y)], [], ew_hp s1 m1) := by
  intro r
  induction r with
  | zero =>
    intro j y v s1 m1 hy hv hj h hg E
    subst hy; subst hv
    obtain rfl : j = ns := by omega
    exact ew_go (fun pc => Nat.beq pc 62) 40 (xm_size34 h.1.2.2.1 ⟨fun _ => ⟨trivial, k s1 m1 h E⟩, fun c => absurd (Int32.le_refl _) c⟩)
  | succ r ih =>
    intro j y v s1 m1 hy hv hj h hg E
    subst hy; subst hv
    have hj2 : j < ns := by omega
    have hns := h.2.1.1
    have clt : ¬ ei ns ≤ ei j := by rw [ei_le (by omega) (by omega)]; omega
    have F0 := (iv_ms h.2.1 hj2).1
    have nx : ∀ (s' : ew_S) (m' : ew_H) (v : Int32), RR q i nb ns np T β σ ρ z (sp_ms q j (sp_m q a0 j).2).2 s' m' → Ex (Qs (σ j)) 0 s1 m1 s' m' → v = (sp_m q a0 j).1 + (sp_ms q j (sp_m q a0 j).2).1 →
        ew_W (ew_Call (d + 6)) 117 K (62, [some (ew_o 14 i), some (ew_i x), some (ew_i w), some (ew_i v), some (ew_i (ei j + 1))], [], ew_hp s' m') := by
      intro s' m' v r1 r2 hv
      refine ih (j + 1) _ _ s' m' (ei_1 _) hv (by omega) r1 (fun b hb => ?_) ((E.tr (r2.mono (fun k p o _ w => Qh.os hj2 w) (Nat.le_refl _))).le (by omega))
      exact (hg b hb).ex (h.1.2.2.2.2.1 b hb).1 r2 (fun p w => by have := w.2; omega) (F0 3 4 _ (fun w => by have := w.2; omega))
    refine ew_go (fun pc => Nat.beq pc 62) 60 (xm_size34 h.1.2.2.1 ⟨fun c => absurd c clt, fun _ => xm_goes h hj2 hg (fun s' m' r1 r2 => ⟨fun e => nx s' m' _ r1 r2 ?_, fun e => nx s' m' _ r1 r2 ?_⟩)⟩)
    · have e : (sp_ms q j (sp_m q a0 j).2).1 = 0 := e
      rw [e]
    · have e : ¬ (sp_ms q j (sp_m q a0 j).2).1 = 0 := e
      rw [(ef_ms01 q j (sp_m q a0 j).2).resolve_left e]
theorem xm_hour (h : RR q i nb ns np T β σ ρ z a s m) (hT : T ≤ 100000000) {x w : Int32} (hx : 0 ≤ x ∧ x ≤ 9) (hw : w = -1 ∨ w = 0 ∨ w = 1 ∨ w = 2 ∨ w = 3) (k : ∀ s' m', RR q i nb ns np (T + 135) β σ ρ z (sp_h q x w a).2 s' m' → Ex (Qh i nb ns β σ) 3 s m s' m' → K (.inl (some (ew_i (sp_h q x w a).1))) (ew_hp s' m')) : ew_Call (d + 7) 117 [ew_o 14 i, ew_i x, ew_i w] (ew_hp s m) K := by
  obtain ⟨R, I, G, C⟩ := h
  have hnb := I.1
  obtain ⟨cF, cI, cA⟩ := iv_ck I hT x w hx
  have hlz : ∀ c, c < 15 → a 4 3 (c + 15 * q) ≠ 0 → a 4 0 (c + 15 * q) = 0 := fun c hc hl => ((I.2.2.1 c hc).2.1.resolve_left hl).2.1
  have hlc : ∀ c, c < 15 → a 4 3 (c + 15 * q) ≠ 0 → a 4 2 (c + 15 * q) = 0 := fun c hc hl => ((I.2.2.1 c hc).2.1.resolve_left hl).2.2.2
  have hz : ∀ c, c < 15 → a 4 4 (c + 15 * q) = 0 := fun c hc => (I.2.2.1 c hc).2.2
  have R1 : rc q i z (ew_u a 9 5 q (a 9 5 q + 1)) (ew_u s 14 0 i (s 14 0 i + 1)) m := ⟨R.1.1, by rw [ew_u_self, ew_u_self, R.1.2.1], R.1.2.2.1, R.1.2.2.2⟩
  have E1 : Ex (Qc i) 0 s m (ew_u s 14 0 i (s 14 0 i + 1)) m := (Ex.rf _ _ _).u _ rfl (Or.inl ⟨rfl, Or.inl rfl⟩)
  unfold sp_h sp_h1 at k
  rw [I.2.1.1, I.2.1.2.1, ei_nat (by omega), ei_nat (by omega)] at k
  obtain ⟨sF, -⟩ := sp_sg_ok q w (ew_u a 9 5 q (a 9 5 q + 1)) hz
  refine ew_call (ew_go (fun pc => Nat.beq pc 10) 60 ⟨trivial, ?_⟩)
  show ew_W (ew_Call (d + 6)) 117 K (10, [some (ew_o 14 i), some (ew_i x), some (ew_i w), none, none], [], ew_put (ew_hp s m) 14 i 0 (ew_i (s 14 0 i + 1)))
  refine eq_1 rfl (ew_go (fun pc => Nat.beq pc 15) 60 (xm_drift R1 G hw hlz hz (fun s2 m2 R2 E2 G2 => ?_)))
  show ew_W (ew_Call (d + 6)) 117 K (15, [some (ew_o 14 i), some (ew_i x), some (ew_i w), none, none], [], ew_hp s2 m2)
  refine ew_go (fun pc => Nat.beq pc 20) 60 (xm_freeze hx R2 (fun c hc => ⟨(cA c hc).2.1, fun hl => ?_⟩) (fun s3 R3 E3 => ?_))
  · rw [(cA c hc).1] at hl
    rw [sF 4 2 _ (fun w => by have := w.2.1; omega)]
    exact hlc c hc hl
  show ew_W (ew_Call (d + 6)) 117 K (20, [some (ew_o 14 i), some (ew_i x), some (ew_i w), none, none], [], ew_hp s3 m2)
  have E13 := (E1.tr E2).tr E3
  have C3 := C.ex E13
  have RR3 : RR q i nb ns np (T + 135) β σ ρ z (sp_f q x (sp_s q (sp_g q w (ew_u a 9 5 q (a 9 5 q + 1)) 15) 15) 15) s3 m2 := by
    have F0 : Fr (fun k p _ => k = 4 ∨ (k = 9 ∧ (p = 5 ∨ p = 6))) a (ew_u a 9 5 q (a 9 5 q + 1)) := (Fr.rf _ _).u _ (Or.inr ⟨rfl, Or.inl rfl⟩)
    obtain ⟨fF, -⟩ := sp_f_ok (q := q) (s := sp_s q (sp_g q w (ew_u a 9 5 q (a 9 5 q + 1)) 15) 15) x 15 (Nat.le_refl _)
    exact ⟨R.cells ((F0.tr (sF.mono (fun k p o w => Or.inl w.1))).tr (fF.mono (fun k p o w => by
      rcases w with w | w
      · exact Or.inl w.1
      · exact Or.inr ⟨w.1, Or.inr w.2.1⟩))) E13 R3, cI, G2, C3⟩
  refine ew_go (fun pc => Nat.beq pc 28) 60 (xm_iter2 G2 RR3.1.2.1.1 (fun s4 m4 t i1 i2 i3 i4 i5 => ?_))
  have E14 : Ex (Qh i nb ns β σ) 3 s m s4 m4 := (E13.mono (P' := Qh i nb ns β σ) (fun k p o _ w => Or.inl w) (Nat.le_refl _)).tr (i2.mono (fun _ _ _ _ w => w.elim) (Nat.le_refl _))
  have hnew : m.2.2.1 1 t = false := by
    cases e : m.2.2.1 1 t with
    | false => rfl
    | true => rw [E13.2.1 1 t e] at i4; cases i4
  refine xl_mh1 (d := d) (a0 := sp_f q x (sp_s q (sp_g q w (ew_u a 9 5 q (a 9 5 q + 1)) 15) 15) 15) hnew (fun s5 m5 v R5 g5 E5 => ?_) nb 0 none s4 m4 (by omega) (RR3.ex1 i2.p1 i3) i1 i5 (fun b hb => absurd hb (Nat.not_lt_zero _)) E14
  exact ew_go (fun pc => Nat.beq pc 62) 60 (xl_mh2 (d := d) (a0 := sp_b q (sp_f q x (sp_s q (sp_g q w (ew_u a 9 5 q (a 9 5 q + 1)) 15) 15) 15) nb) k ns 0 0 0 s5 m5 rfl rfl (by omega) R5 g5 E5)
end
