/-! The digest of the model. -/
section
variable {d : Nat} {K : ew_R → ew_H → Prop} {nb ns np T c0 : Nat} {β σ : Nat → Nat} {ρ : Nat → Nat → Nat} {a s : ew_S} {m h : ew_H}
theorem xm_add (x v : Int64) (k : K (.inl (some (ew_j (x * 31 + v)))) h) : ew_Call (d + 1) 183 [ew_j x, ew_j v] h K := ew_call (ew_go (fun _ => false) 20 ⟨trivial, k⟩)
abbrev R0 (nb ns np T : Nat) (β σ : Nat → Nat) (ρ : Nat → Nat → Nat) (a s : ew_S) (m : ew_H) : Prop := RR 0 0 nb ns np T β σ ρ (fun _ _ _ => 0) a s m
theorem xl_md1' {u : Option ew_V} (k : ∀ s' m' y, R0 nb ns np T β σ ρ a s' m' → Ex P1 33 s m s' m' → ew_W (ew_Call (d + 8)) 184 K (34, [some (ew_o 16 0), some (ew_j (sp_df (fun w => sp_mv (ei w) a) 4802 11)), none, some (ew_i y), u], [], ew_hp s' m')) : ∀ (r w : Nat) (y : Int32) (v : Int64) (s1 : ew_S) (m1 : ew_H), y = ei w → w + r = 11 → v = sp_df (fun w => sp_mv (ei w) a) 4802 w → R0 nb ns np T β σ ρ a s1 m1 → Ex P1 (3 * w) s m s1 m1 →
    ew_W (ew_Call (d + 8)) 184 K (11, [some (ew_o 16 0), some (ew_j v), none, some (ew_i y), u], [], ew_hp s1 m1) := by
  intro r
  induction r with
  | zero =>
    intro w y v s1 m1 hy hw hv R E
    subst hy; subst hv
    obtain rfl : w = 11 := by omega
    exact ew_go (fun pc => Nat.beq pc 11 || Nat.beq pc 34) 40 ⟨fun _ => k s1 m1 _ R E, fun z => absurd (show ei 11 ≤ ei 11 by decide) z⟩
  | succ r ih =>
    intro w y v s1 m1 hy hw hv R E
    subst hy; subst hv
    have e : ¬ ei 11 ≤ ei w := by rw [ei_le (by decide) (by omega)]; omega
    exact ew_go (fun pc => Nat.beq pc 11) 60 ⟨fun z => absurd z e, fun _ => xm_manyNow R (by omega) rfl (fun s' m' R' E' => xm_add _ _ (ih (w + 1) _ _ s' m' (ei_1 _) (by omega) rfl R' ((E.tr E').le (by omega))))⟩
theorem xl_md2' {c : Nat} (hc : c < 15) {v0 : Int64} (k : ∀ s' m' y, R0 nb ns np T β σ ρ a s' m' → Ex P1 (c0 + 6) s m s' m' → ew_W (ew_Call (d + 8)) 184 K (36, [some (ew_o 16 0), some (ew_j (sp_df (fun w => sp_cv c (ei c) (ei w) a) v0 6)), none, some (ew_i (ei (c + 1))), some (ew_i y)], [], ew_hp s' m')) : ∀ (r w : Nat) (y : Int32) (v : Int64) (s1 : ew_S) (m1 : ew_H), y = ei w → w + r = 6 → v = sp_df (fun w => sp_cv c (ei c) (ei w) a) v0 w → R0 nb ns np T β σ ρ a s1 m1 → Ex P1 (c0 + w) s m s1 m1 →
    ew_W (ew_Call (d + 8)) 184 K (45, [some (ew_o 16 0), some (ew_j v), none, some (ew_i (ei c)), some (ew_i y)], [], ew_hp s1 m1) := by
  intro r
  induction r with
  | zero =>
    intro w y v s1 m1 hy hw hv R E
    subst hy; subst hv
    obtain rfl : w = 6 := by omega
    have k := k s1 m1 (ei 6) R E
    rw [← ei_1] at k
    exact ew_go (fun pc => Nat.beq pc 36) 40 ⟨fun _ => k, fun z => absurd (show ei 6 ≤ ei 6 by decide) z⟩
  | succ r ih =>
    intro w y v s1 m1 hy hw hv R E
    subst hy; subst hv
    have e : ¬ ei 6 ≤ ei w := by rw [ei_le (by decide) (by omega)]; omega
    exact ew_go (fun pc => Nat.beq pc 45 || Nat.beq pc 36) 60 ⟨fun z => absurd z e, fun _ => xm_ofCellNow R hc rfl (fun s' m' R' E' => xm_add _ _ (ih (w + 1) _ _ s' m' (ei_1 _) (by omega) rfl R' ((E.tr E').le (by omega))))⟩
theorem xl_md3' {v0 : Int64} (k : ∀ s' m' y u, R0 nb ns np T β σ ρ a s' m' → Ex P1 (c0 + 90) s m s' m' → ew_W (ew_Call (d + 8)) 184 K (77, [some (ew_o 16 0), some (ew_j (sp_d2 a v0 15)), none, some (ew_i y), u], [], ew_hp s' m')) : ∀ (r c : Nat) (y : Int32) (v : Int64) (u : Option ew_V) (s1 : ew_S) (m1 : ew_H), y = ei c → c + r = 15 → v = sp_d2 a v0 c → R0 nb ns np T β σ ρ a s1 m1 → Ex P1 (c0 + 6 * c) s m s1 m1 →
    ew_W (ew_Call (d + 8)) 184 K (36, [some (ew_o 16 0), some (ew_j v), none, some (ew_i y), u], [], ew_hp s1 m1) := by
  intro r
  induction r with
  | zero =>
    intro w y v u s1 m1 hy hw hv R E
    subst hy; subst hv
    obtain rfl : w = 15 := by omega
    exact ew_go (fun pc => Nat.beq pc 36 || Nat.beq pc 77) 40 ⟨fun _ => k s1 m1 _ u R E, fun z => absurd (show ei 15 ≤ ei 15 by decide) z⟩
  | succ r ih =>
    intro w y v u s1 m1 hy hw hv R E
    subst hy; subst hv
    have e : ¬ ei 15 ≤ ei w := by rw [ei_le (by decide) (by omega)]; omega
    exact ew_go (fun pc => Nat.beq pc 45) 60 ⟨fun z => absurd z e, fun _ => xl_md2' (d := d) (c0 := c0 + 6 * w) (s := s) (m := m) (by omega) (fun s' m' y' R' E' => ih (w + 1) _ _ _ s' m' rfl (by omega) rfl R' (E'.le (by omega))) 6 0 0 _ s1 m1 rfl rfl rfl R (E.le (by omega))⟩
theorem xl_md4' {b : Nat} (hb : b < nb) {v0 : Int64} (k : ∀ s' m' y, R0 nb ns np T β σ ρ a s' m' → Ex P1 (c0 + 11) s m s' m' → ew_W (ew_Call (d + 8)) 184 K (79, [some (ew_o 16 0), some (ew_j (sp_df (fun w => sp_bv b (ei b) (ei w) a) v0 6 * 31 + (sp_hn b a ns).1.toInt64)), none, some (ew_i (ei (b + 1))), some (ew_i y)], [], ew_hp s' m')) : ∀ (r w : Nat) (y : Int32) (v : Int64) (s1 : ew_S) (m1 : ew_H), y = ei w → w + r = 6 → v = sp_df (fun w => sp_bv b (ei b) (ei w) a) v0 w → R0 nb ns np T β σ ρ a s1 m1 → Ex P1 (c0 + w) s m s1 m1 →
    ew_W (ew_Call (d + 8)) 184 K (96, [some (ew_o 16 0), some (ew_j v), none, some (ew_i (ei b)), some (ew_i y)], [], ew_hp s1 m1) := by
  intro r
  induction r with
  | zero =>
    intro w y v s1 m1 hy hw hv R E
    subst hy; subst hv
    obtain rfl : w = 6 := by omega
    have h5 := R.2.1.1
    rw [← ei_1] at k
    exact ew_go (fun pc => Nat.beq pc 79) 60 ⟨fun _ => xm_helpNow R hb rfl (fun s' m' R' E' => xm_add _ _ (k s' m' (ei 6) R' ((E.tr E'.p1).le (by omega)))), fun z => absurd (show ei 6 ≤ ei 6 by decide) z⟩
  | succ r ih =>
    intro w y v s1 m1 hy hw hv R E
    subst hy; subst hv
    have e : ¬ ei 6 ≤ ei w := by rw [ei_le (by decide) (by omega)]; omega
    exact ew_go (fun pc => Nat.beq pc 96 || Nat.beq pc 79) 60 ⟨fun z => absurd z e, fun _ => xm_ofBreakerNow R hb rfl (fun s' m' R' E' => xm_add _ _ (ih (w + 1) _ _ s' m' (ei_1 _) (by omega) rfl R' ((E.tr E').le (by omega))))⟩
theorem xl_md5' {v0 : Int64} (k : ∀ s' m' y u, R0 nb ns np T β σ ρ a s' m' → Ex P1 (c0 + 11 * nb) s m s' m' → ew_W (ew_Call (d + 8)) 184 K (139, [some (ew_o 16 0), some (ew_j (sp_d3 a ns v0 nb)), none, some (ew_i y), u], [], ew_hp s' m')) : ∀ (r b : Nat) (y : Int32) (v : Int64) (u : Option ew_V) (s1 : ew_S) (m1 : ew_H), y = ei b → b + r = nb → v = sp_d3 a ns v0 b → R0 nb ns np T β σ ρ a s1 m1 → Ex P1 (c0 + 11 * b) s m s1 m1 →
    ew_W (ew_Call (d + 8)) 184 K (79, [some (ew_o 16 0), some (ew_j v), none, some (ew_i y), u], [], ew_hp s1 m1) := by
  intro r
  induction r with
  | zero =>
    intro w y v u s1 m1 hy hw hv R E
    subst hy; subst hv
    obtain rfl : w = nb := by omega
    exact ew_go (fun pc => Nat.beq pc 79 || Nat.beq pc 139) 40 (xm_size2 R.1.2.1 ⟨fun _ => k s1 m1 _ u R E, fun z => absurd (Int32.le_refl _) z⟩)
  | succ r ih =>
    intro w y v u s1 m1 hy hw hv R E
    subst hy; subst hv
    have h5 := R.2.1.1
    have e : ¬ ei nb ≤ ei w := by rw [ei_le (by omega) (by omega)]; omega
    exact ew_go (fun pc => Nat.beq pc 96) 60 (xm_size2 R.1.2.1 ⟨fun z => absurd z e, fun _ => xl_md4' (d := d) (c0 := c0 + 11 * w) (s := s) (m := m) (by omega) (fun s' m' y' R' E' => ih (w + 1) _ _ _ s' m' rfl (by omega) rfl R' (E'.le (by omega))) 6 0 0 _ s1 m1 rfl rfl rfl R (E.le (by omega))⟩)
theorem xl_md6' (hT : T ≤ 90000000) {j : Nat} (hj : j < ns) {A : Nat → Int32} (hA : sp_A nb ns a A j) {v0 : Int64} (k : ∀ s' m' u, R0 nb ns np T β σ ρ a s' m' → Ex P1 (c0 + 145) s m s' m' → ew_W (ew_Call (d + 8)) 184 K (141, [some (ew_o 16 0), some (ew_j (((sp_df (fun w => sp_sv j (ei w) a) v0 15 * 31 + (sp_way j (a 6 4 (a 10 6 j).toNatClampNeg).toNatClampNeg a).toInt64) * 31 + (sp_tb j a).toInt64) * 31 + (A j).toInt64)), none, some (ew_i (ei (j + 1))), u], [], ew_hp s' m')) : ∀ (r w : Nat) (y : Int32) (v : Int64) (s1 : ew_S) (m1 : ew_H), y = ei w → w + r = 15 → v = sp_df (fun w => sp_sv j (ei w) a) v0 w → R0 nb ns np T β σ ρ a s1 m1 → Ex P1 (c0 + w) s m s1 m1 →
    ew_W (ew_Call (d + 8)) 184 K (158, [some (ew_o 16 0), some (ew_j v), none, some (ew_i (ei j)), some (ew_i y)], [], ew_hp s1 m1) := by
  intro r
  induction r with
  | zero =>
    intro w y v s1 m1 hy hw hv R E
    subst hy; subst hv
    obtain rfl : w = 15 := by omega
    have h5 := R.2.1.1
    obtain ⟨p, t, hp, ht, e6, e4, g3, g0⟩ := R.pc hj
    rw [← ei_1, e6, ei_nat (by omega), e4, ei_nat (by omega)] at k
    have fin3 : ∀ s2 m2, R0 nb ns np T β σ ρ a s2 m2 → Ex P1 (c0 + 17) s m s2 m2 → ew_W (ew_Call (d + 8)) 184 K (249, [some (ew_o 16 0), some (ew_j ((sp_df (fun w => sp_sv j (ei w) a) v0 15 * 31 + (sp_way j t a).toInt64) * 31 + (sp_tb j a).toInt64)), none, some (ew_i (ei j)), some (ew_o 15 (σ j))], [], ew_hp s2 m2) := fun s2 m2 R2 E2 =>
      ew_go (fun pc => Nat.beq pc 141) 60 (xm_arriveInNow R2 hT hj (n := 6) (by decide) (x := 1) (w := -1) (by decide) (by decide) rfl rfl hA.1 hA.2 (fun s' m' R' E' => xm_add _ _ (k s' m' _ R' ((E2.tr E'.p1).le (by omega)))))
    have fin2 : ∀ s2 m2, R0 nb ns np T β σ ρ a s2 m2 → Ex P1 (c0 + 15) s m s2 m2 → ew_W (ew_Call (d + 8)) 184 K (200, [some (ew_o 16 0), some (ew_j (sp_df (fun w => sp_sv j (ei w) a) v0 15)), none, some (ew_i (ei j)), some (ew_o 15 (σ j))], [], ew_hp s2 m2) := fun s2 m2 R2 E2 => by
      obtain ⟨p', t', hp', ht', e6', e4', g3', g0'⟩ := R2.pc hj
      have q1 : p' = p := (ei_inj (by omega) (by omega)).mp (e6'.symm.trans e6)
      subst q1
      have q2 : t' = t := (ei_inj (by omega) (by omega)).mp (e4'.symm.trans e4)
      subst q2
      refine ew_go (fun pc => Nat.beq pc 249) 60 (xm_get66 R2.1.2.2.2.1 hp' g3' rfl (xm_wayE R2 hj ht' g0' (fun s' m' R' E' => xm_add _ _ (xm_toBreak R' hj rfl (fun s3 m3 R3 E3 => xm_add _ _ (fin3 s3 m3 R3 (((E2.tr E'.p1).tr E3.p1).le (by omega))))))))
    exact ew_go (fun pc => Nat.beq pc 200) 60 ⟨fun _ => xm_get34 R.1.2.2.1 hj rfl rfl (fin2 s1 m1 R E), fun z => absurd (show ei 15 ≤ ei 15 by decide) z⟩
  | succ r ih =>
    intro w y v s1 m1 hy hw hv R E
    subst hy; subst hv
    have e : ¬ ei 15 ≤ ei w := by rw [ei_le (by decide) (by omega)]; omega
    have w1 : 0 ≤ ei w ∧ ei w ≤ 14 := ⟨(ei_le (a := 0) (by decide) (by omega)).mpr (Nat.zero_le _), (ei_le (b := 14) (by omega) (by decide)).mpr (by omega)⟩
    exact ew_go (fun pc => Nat.beq pc 158 || Nat.beq pc 141) 60 ⟨fun z => absurd z e, fun _ => xm_ofShipNow R hj rfl w1 (fun s' m' R' E' => xm_add _ _ (ih (w + 1) _ _ s' m' (ei_1 _) (by omega) rfl R' ((E.tr E').le (by omega))))⟩
theorem xl_md7' (hT : T ≤ 90000000) {A : Nat → Int32} (hA : ∀ j, j < ns → sp_A nb ns a A j) {v0 : Int64} (k : ∀ s' m' y u, R0 nb ns np T β σ ρ a s' m' → Ex P1 (c0 + 145 * ns) s m s' m' → ew_W (ew_Call (d + 8)) 184 K (270, [some (ew_o 16 0), some (ew_j (sp_d4 A a v0 ns)), none, some (ew_i y), u], [], ew_hp s' m')) : ∀ (r j : Nat) (y : Int32) (v : Int64) (u : Option ew_V) (s1 : ew_S) (m1 : ew_H), y = ei j → j + r = ns → v = sp_d4 A a v0 j → R0 nb ns np T β σ ρ a s1 m1 → Ex P1 (c0 + 145 * j) s m s1 m1 →
    ew_W (ew_Call (d + 8)) 184 K (141, [some (ew_o 16 0), some (ew_j v), none, some (ew_i y), u], [], ew_hp s1 m1) := by
  intro r
  induction r with
  | zero =>
    intro w y v u s1 m1 hy hw hv R E
    subst hy; subst hv
    obtain rfl : w = ns := by omega
    exact ew_go (fun pc => Nat.beq pc 141 || Nat.beq pc 270) 40 (xm_size34 R.1.2.2.1 ⟨fun _ => k s1 m1 _ u R E, fun z => absurd (Int32.le_refl _) z⟩)
  | succ r ih =>
    intro w y v u s1 m1 hy hw hv R E
    subst hy; subst hv
    have h5 := R.2.1.1
    have e : ¬ ei ns ≤ ei w := by rw [ei_le (by omega) (by omega)]; omega
    exact ew_go (fun pc => Nat.beq pc 158) 60 (xm_size34 R.1.2.2.1 ⟨fun z => absurd z e, fun _ => xl_md6' (d := d) (c0 := c0 + 145 * w) (s := s) (m := m) hT (by omega) (hA w (by omega)) (fun s' m' u' R' E' => ih (w + 1) _ _ _ s' m' rfl (by omega) rfl R' (E'.le (by omega))) 15 0 0 _ s1 m1 rfl rfl rfl R (E.le (by omega))⟩)
theorem xl_md8' {t : Nat} {v0 : Int64} (k : ∀ s' m', R0 nb ns np T β σ ρ a s' m' → Ex P1 c0 s m s' m' → K (.inl (some (ew_j (sp_d5 a v0 np)))) (ew_hp s' m')) : ∀ (r p : Nat) (v : Int64) (u : Option ew_V) (s1 : ew_S) (m1 : ew_H), p + r = np → v = sp_d5 a v0 p → R0 nb ns np T β σ ρ a s1 m1 → IT 66 0 t p s1 m1 → Ex P1 c0 s m s1 m1 →
    ew_W (ew_Call (d + 8)) 184 K (281, [some (ew_o 16 0), some (ew_j v), none, some (ew_o 1 t), u], [], ew_hp s1 m1) := by
  intro r
  induction r with
  | zero =>
    intro p v u s1 m1 hp hv R hI E
    subst hv
    obtain rfl : p = np := by omega
    exact ew_go (fun pc => Nat.beq pc 281) 40 (xm_hasNext66 R.1.2.2.2.1 hI (Nat.le_refl _) (fun _ => ⟨fun _ => ⟨trivial, k s1 m1 R E⟩, fun c => absurd rfl c⟩) (fun z => absurd z (Nat.lt_irrefl _)))
  | succ r ih =>
    intro p v u s1 m1 hp hv R hI E
    subst hv
    have hp2 : p < np := by omega
    have e1 := Ex.it (s := s1) (m := m1) (t := t) (ei (p + 1)) (ei p)
    have R2 := R.ex1 e1 R.2.2.1
    have hI2 := hI.step (by decide)
    obtain ⟨n, hn, en⟩ := (R.2.1.2.2.2.2.2.1 p hp2).2.1
    have en : a 6 3 p = ei n := en
    have hq := R2.1.2.2.2.2.2.2.1 p hp2
    have f14 : (ew_u (ew_u s1 1 0 t (ei (p + 1))) 1 1 t (ei p)) 14 0 0 = a 9 5 0 := R2.1.1.2.1
    have g : ew_W (ew_Call (d + 8)) 184 K (281, [some (ew_o 16 0), some (ew_j (sp_d5 a v0 (p + 1))), none, some (ew_o 1 t), some (ew_o 13 p)], [], ew_hp (ew_u (ew_u s1 1 0 t (ei (p + 1))) 1 1 t (ei p)) m1) := ih (p + 1) _ _ _ m1 (by omega) rfl R2 hI2 ((E.tr e1).le (Nat.le_refl _))
    rw [show sp_d5 a v0 (p + 1) = (sp_d5 a v0 p * 31 + (sp_if p (a 9 5 0) a).toInt64) * 31 + (sp_if p 100 a).toInt64 from rfl] at g
    unfold sp_if at g
    rw [en, ei_nat (by omega), ← f14] at g
    exact ew_go (fun pc => Nat.beq pc 281) 60 (xm_hasNext66 R.1.2.2.2.1 hI (by omega) (fun z => absurd z (by omega)) (fun _ => ⟨fun c => absurd c (show ¬ (1 : Int32) = 0 by decide), fun _ => xm_next66 R.1.2.2.2.1 hI hp2 rfl (xm_inForceP _ hn en hq (xm_add _ _ (xm_inForceP _ hn en hq (xm_add _ _ g))))⟩))
theorem xw_digest (h : R0 nb ns np T β σ ρ a s m) (hT : T ≤ 90000000) {A : Nat → Int32} (hA : ∀ j, j < ns → sp_A nb ns a A j) (k : ∀ s' m', R0 nb ns np T β σ ρ a s' m' → Ex P6 880 s m s' m' → K (.inl (some (ew_j (sp_dig A nb ns np a)))) (ew_hp s' m')) : ew_Call (d + 9) 184 [ew_o 16 0] (ew_hp s m) K := by
  have h5 := h.2.1.1
  have h2 := h.tw 0
  unfold sp_dig at k
  have k : ∀ s' m', R0 nb ns np T β σ ρ a s' m' → Ex P1 (33 + 90 + 11 * nb + 145 * ns + 1) (ew_tw s 0) m s' m' → K (.inl (some (ew_j (sp_d5 a (sp_d4 A a (sp_d3 a ns (sp_d2 a (sp_df (fun w => sp_mv (ei w) a) 4802 11) 15) nb) ns) np)))) (ew_hp s' m') := fun s' m' R E => k s' m' R (((Ex.tw s m 0).tr E.p6).le (by omega))
  have f5 : ∀ s1 m1 y u, R0 nb ns np T β σ ρ a s1 m1 → Ex P1 (33 + 90 + 11 * nb + 145 * ns) (ew_tw s 0) m s1 m1 → ew_W (ew_Call (d + 8)) 184 K (270, [some (ew_o 16 0), some (ew_j (sp_d4 A a (sp_d3 a ns (sp_d2 a (sp_df (fun w => sp_mv (ei w) a) 4802 11) 15) nb) ns)), none, some (ew_i y), u], [], ew_hp s1 m1) := fun s1 m1 y u R E =>
    ew_go (fun pc => Nat.beq pc 281) 40 (xm_iter66 R.2.2.1 R.1.2.2.2.1.1 (fun s2 m2 t i1 i2 i3 i4 i5 => xl_md8' (d := d) (c0 := 33 + 90 + 11 * nb + 145 * ns + 1) (s := ew_tw s 0) (m := m) k np 0 _ _ s2 m2 (by omega) rfl (R.ex1 i2.p1 i3) i1 ((E.tr i2.p1).le (by omega))))
  have f4 : ∀ s1 m1 y u, R0 nb ns np T β σ ρ a s1 m1 → Ex P1 (33 + 90 + 11 * nb) (ew_tw s 0) m s1 m1 → ew_W (ew_Call (d + 8)) 184 K (139, [some (ew_o 16 0), some (ew_j (sp_d3 a ns (sp_d2 a (sp_df (fun w => sp_mv (ei w) a) 4802 11) 15) nb)), none, some (ew_i y), u], [], ew_hp s1 m1) := fun s1 m1 y u R E =>
    ew_go (fun pc => Nat.beq pc 141) 20 (xl_md7' (d := d) (c0 := 33 + 90 + 11 * nb) (s := ew_tw s 0) (m := m) hT hA (fun s' m' y' u' R' E' => f5 s' m' y' u' R' E') ns 0 0 _ u s1 m1 rfl (by omega) rfl R (E.le (by omega)))
  have f3 : ∀ s1 m1 y u, R0 nb ns np T β σ ρ a s1 m1 → Ex P1 (33 + 90) (ew_tw s 0) m s1 m1 → ew_W (ew_Call (d + 8)) 184 K (77, [some (ew_o 16 0), some (ew_j (sp_d2 a (sp_df (fun w => sp_mv (ei w) a) 4802 11) 15)), none, some (ew_i y), u], [], ew_hp s1 m1) := fun s1 m1 y u R E =>
    ew_go (fun pc => Nat.beq pc 79) 20 (xl_md5' (d := d) (c0 := 33 + 90) (s := ew_tw s 0) (m := m) (fun s' m' y' u' R' E' => f4 s' m' y' u' R' E') nb 0 0 _ u s1 m1 rfl (by omega) rfl R (E.le (by omega)))
  have f2 : ∀ s1 m1 y, R0 nb ns np T β σ ρ a s1 m1 → Ex P1 33 (ew_tw s 0) m s1 m1 → ew_W (ew_Call (d + 8)) 184 K (34, [some (ew_o 16 0), some (ew_j (sp_df (fun w => sp_mv (ei w) a) 4802 11)), none, some (ew_i y), none], [], ew_hp s1 m1) := fun s1 m1 y R E =>
    ew_go (fun pc => Nat.beq pc 36) 20 (xl_md3' (d := d) (c0 := 33) (s := ew_tw s 0) (m := m) (fun s' m' y' u' R' E' => f3 s' m' y' u' R' E') 15 0 0 _ none s1 m1 rfl rfl rfl R (E.le (by omega)))
  refine ew_call (ew_go (fun pc => Nat.beq pc 5) 40 ⟨trivial, ?_⟩)
  show ew_W (ew_Call (d + 8)) 184 K (5, [some (ew_o 16 0), none, none, none, none], [], ew_put (ew_hp s m) 16 0 0 (ew_i 0))
  exact eq_1 rfl (ew_go (fun pc => Nat.beq pc 11) 20 (xl_md1' (d := d) (s := ew_tw s 0) (m := m) f2 11 0 0 4802 (ew_tw s 0) m rfl rfl rfl h2 (Ex.rf _ _ _)))
end
