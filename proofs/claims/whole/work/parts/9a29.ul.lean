/-! What the told calls leave of the class's own state: only its kinds are written; what is not in use stays fresh; who leads and tows; what o'clock it is. -/
def UL (nb ns np : Nat) (a o : ew_S) : Prop := Fr Pcl a o ∧ Un nb ns np o ∧ Lb nb ns o ∧ o 9 5 0 = a 9 5 0
section
variable {nb ns np T : Nat} {a : ew_S}
theorem UL.rf (u : Un nb ns np a) (l : Lb nb ns a) : UL nb ns np a a := ⟨Fr.rf _ _, u, l, rfl⟩
theorem ul_b {b : Bool} {o o' : ew_O} (h : b = true → UL nb ns np a o.2.2) (h' : UL nb ns np a o'.2.2) : UL nb ns np a (bif b then o else o').2.2 := by
  cases b
  · exact h'
  · exact h rfl
theorem ul_f {b : Bool} {o o' : ew_O} (h : UL nb ns np a o.2.2) (h' : b = false → UL nb ns np a o'.2.2) : UL nb ns np a (bif b then o else o').2.2 := by
  cases b
  · exact h' rfl
  · exact h
theorem ul_i {p : Prop} [Decidable p] {o o' : ew_O} (h : p → UL nb ns np a o.2.2) (h' : ¬ p → UL nb ns np a o'.2.2) : UL nb ns np a (if p then o else o').2.2 := by
  by_cases e : p
  · rw [if_pos e]; exact h e
  · rw [if_neg e]; exact h' e
theorem ul_fr {P : Nat → Nat → Nat → Prop} {o : ew_S} (u : Un nb ns np a) (l : Lb nb ns a) (F : Fr P a o) (hP : ∀ k p i, P k p i → ef_C k = true) (n1 : ∀ b, nb ≤ b → b < 2 → ∀ k p, (k = 3 ∨ k = 8) → ¬ P k p b) (n2 : ∀ j, ns ≤ j → j < 5 → ∀ k p, (k = 10 ∨ k = 40 ∨ k = 177) → ¬ P k p j) (n3 : ∀ p, np ≤ p → p < 3 → ∀ k r, (k = 6 ∨ k = 18) → ¬ P k r p) (n4 : ∀ j, j < ns → Fb a o j) (n9 : ¬ P 9 5 0) : UL nb ns np a o :=
  ⟨F.mono hP, u.fr F n1 n2 n3, l.le n4, F _ _ _ n9⟩
theorem iN_lt {x : Int32} {n : Nat} (hn : n < 100) (h : iN x (ei n) = true) : x.toNatClampNeg < n ∧ x = ei x.toNatClampNeg := by
  rcases ei_dec x n (by omega) with ⟨c, hc, rfl⟩ | ⟨h1, -⟩
  · rw [ei_nat (by omega)]; exact ⟨hc, rfl⟩
  · rw [iN_f h1] at h; exact Bool.noConfusion h
theorem ul_4 {o : ew_S} (u : Un nb ns np a) (l : Lb nb ns a) (F : Fr (fun k _ _ => k = 4) a o) : UL nb ns np a o :=
  ul_fr u l F (fun k p i e => by rw [e]; rfl) (fun _ _ _ k p hk w => by omega) (fun _ _ _ k p hk w => by omega) (fun _ _ _ k p hk w => by omega) (fun j _ => Fb.fr F (fun p w => by omega)) (fun w => by omega)
theorem ul_ice (u : Un nb ns np a) (l : Lb nb ns a) (x v : Int32) : UL nb ns np a (op_ice x v a).2.2 :=
  ul_b (fun _ => ul_i (fun _ => ul_i (fun _ => ul_4 u l ((Fr.rf _ a).u _ rfl)) (fun _ => UL.rf u l)) (fun _ => UL.rf u l)) (UL.rf u l)
theorem ul_land (u : Un nb ns np a) (l : Lb nb ns a) (x : Int32) : UL nb ns np a (op_land x a).2.2 :=
  ul_b (fun _ => ul_i (fun _ => ul_f (UL.rf u l) (fun _ => ul_4 u l (((((Fr.rf _ a).u _ rfl).u _ rfl).u _ rfl).u _ rfl))) (fun _ => UL.rf u l)) (UL.rf u l)
theorem ul_rule (h : Iv 0 nb ns np T a) (u : Un nb ns np a) (l : Lb nb ns a) (p x y : Int32) : UL nb ns np a (op_rule p x y a).2.2 := by
  have h5 := h.1
  refine ul_b (fun e => ul_i (fun _ => ul_i (fun _ => ?_) (fun _ => UL.rf u l)) (fun _ => UL.rf u l)) (UL.rf u l)
  rw [h.2.1.2.2] at e
  have hp := (iN_lt (by omega) e).1
  have F : Fr (fun k _ i => k = 81 ∨ k = 113 ∨ (k = 6 ∧ i = p.toNatClampNeg)) a (ew_u (ew_u (ew_u a 81 (a 6 3 p.toNatClampNeg).toNatClampNeg p.toNatClampNeg x) 113 (a 6 3 p.toNatClampNeg).toNatClampNeg p.toNatClampNeg (a 9 5 0 + y)) 6 3 p.toNatClampNeg (a 6 3 p.toNatClampNeg + 1)) := (((Fr.rf _ a).u _ (Or.inl rfl)).u _ (Or.inr (Or.inl rfl))).u _ (Or.inr (Or.inr ⟨rfl, rfl⟩))
  exact ul_fr u l F (fun k p i e => by rcases e with rfl | rfl | ⟨rfl, -⟩ <;> rfl) (fun _ _ _ k p hk w => by omega) (fun _ _ _ k p hk w => by omega) (fun _ _ _ k p hk w => by omega) (fun j _ => Fb.fr F (fun p w => by omega)) (fun w => by omega)
theorem ul_exempt (h : Iv 0 nb ns np T a) (u : Un nb ns np a) (l : Lb nb ns a) (p j : Int32) : UL nb ns np a (op_exempt p j a).2.2 := by
  have h5 := h.1
  refine ul_b (fun e => ?_) (UL.rf u l)
  rw [Bool.and_eq_true, h.2.1.2.2] at e
  have hp := (iN_lt (by omega) e.1).1
  have F : Fr (fun k _ i => k = 18 ∧ i = p.toNatClampNeg) a (ew_u a 18 j.toNatClampNeg p.toNatClampNeg 1) := (Fr.rf _ a).u _ ⟨rfl, rfl⟩
  exact ul_fr u l F (fun k p i e => by rcases e with ⟨rfl, -⟩; rfl) (fun _ _ _ k p hk w => by omega) (fun _ _ _ k p hk w => by omega) (fun _ _ _ k p hk w => by omega) (fun j _ => Fb.fr F (fun p w => by omega)) (fun w => by omega)
theorem ul_steer (h : Iv 0 nb ns np T a) (u : Un nb ns np a) (l : Lb nb ns a) (b x : Int32) : UL nb ns np a (op_steer b x a).2.2 := by
  have h5 := h.1
  refine ul_b (fun e => ul_i (fun _ => ?_) (fun _ => UL.rf u l)) (UL.rf u l)
  rw [Bool.and_eq_true, h.2.1.1] at e
  have hp := (iN_lt (by omega) e.1).1
  have F : Fr (fun k _ i => (k = 145 ∨ k = 8) ∧ i = b.toNatClampNeg) a (ew_u (ew_u a 145 (a 8 1 b.toNatClampNeg).toNatClampNeg b.toNatClampNeg x) 8 1 b.toNatClampNeg (a 8 1 b.toNatClampNeg + 1)) := ((Fr.rf _ a).u _ ⟨Or.inl rfl, rfl⟩).u _ ⟨Or.inr rfl, rfl⟩
  exact ul_fr u l F (fun k p i e => by rcases e with ⟨rfl | rfl, -⟩ <;> rfl) (fun _ _ _ k p hk w => by omega) (fun _ _ _ k p hk w => by omega) (fun _ _ _ k p hk w => by omega) (fun j _ => Fb.fr F (fun p w => by omega)) (fun w => by omega)
theorem ul_sail (h : Iv 0 nb ns np T a) (u : Un nb ns np a) (l : Lb nb ns a) (j x : Int32) : UL nb ns np a (op_sail j x a).2.2 := by
  have h5 := h.1
  refine ul_b (fun e => ul_i (fun _ => ?_) (fun _ => UL.rf u l)) (UL.rf u l)
  rw [Bool.and_eq_true, h.2.1.2.1] at e
  have hp := (iN_lt (by omega) e.1).1
  have F : Fr (fun k _ i => (k = 593 ∨ k = 40) ∧ i = j.toNatClampNeg) a (ew_u (ew_u a 593 (a 40 1 j.toNatClampNeg).toNatClampNeg j.toNatClampNeg x) 40 1 j.toNatClampNeg (a 40 1 j.toNatClampNeg + 1)) := ((Fr.rf _ a).u _ ⟨Or.inl rfl, rfl⟩).u _ ⟨Or.inr rfl, rfl⟩
  exact ul_fr u l F (fun k p i e => by rcases e with ⟨rfl | rfl, -⟩ <;> rfl) (fun _ _ _ k p hk w => by omega) (fun _ _ _ k p hk w => by omega) (fun _ _ _ k p hk w => by omega) (fun j _ => Fb.fr F (fun p w => by omega)) (fun w => by omega)
theorem ul_Ps {o : ew_S} (h5 : ns ≤ 5) (u : Un nb ns np a) (l : Lb nb ns o) {j : Nat} (hj : j < ns) (F : Fr (Ps (j + 5 * 0)) a o) : UL nb ns np a o := by
  refine ⟨F.mono (fun k p i e => ?_), u.fr F (fun _ _ _ k p hk w => ?_) (fun _ _ _ k p hk w => ?_) (fun _ _ _ k p hk w => ?_), l, F _ _ _ (fun w => ?_)⟩
  · unfold Ps at e
    rcases e with ⟨-, rfl | rfl | rfl | rfl⟩ <;> rfl
  all_goals (unfold Ps at w; omega)
theorem ul_halt (h : Iv 0 nb ns np T a) (u : Un nb ns np a) (l : Lb nb ns a) (j : Int32) : UL nb ns np a (op_halt j a).2.2 := by
  have h5 := h.1
  refine ul_b (fun e => ?_) (UL.rf u l)
  rw [h.2.1.2.1] at e
  have hp := (iN_lt (by omega) e).1
  obtain ⟨F, -, B⟩ := iv_halt h hp
  refine ul_Ps (by omega) u (l.le (fun i hi => ?_)) hp F
  by_cases e : i = j.toNatClampNeg
  · rw [e]; exact B
  · exact Fb.fr F (fun p w => by unfold Ps at w; omega)
theorem ul_lead (h : Iv 0 nb ns np T a) (u : Un nb ns np a) (l : Lb nb ns a) (b j : Int32) : UL nb ns np a (op_lead b j a).2.2 := by
  have h5 := h.1
  refine ul_b (fun e => ul_i (fun w => ?_) (fun _ => UL.rf u l)) (UL.rf u l)
  rw [Bool.and_eq_true, h.2.1.1, h.2.1.2.1] at e
  obtain ⟨hb, eb⟩ := iN_lt (by omega) e.1
  have hj := (iN_lt (by omega) e.2).1
  have w := w.2.2
  unfold sp_led at w
  rw [h.2.1.2.1, ei_nat (by omega), ef_cn_sum] at w
  show UL nb ns np a (sp_bd 1 b j.toNatClampNeg a)
  rw [eb] at w ⊢
  have := ef_cn_n (ef_bd a 1 (ei b.toNatClampNeg)) ns
  exact ul_Ps (by omega) u (lb_bd l (by omega) hj hb (Or.inl ⟨rfl, (ei_lt (b := 2) (by omega) (by decide)).mp w⟩)) hj (iv_bd h hj hb (Or.inl rfl)).1
theorem ul_tow (h : Iv 0 nb ns np T a) (u : Un nb ns np a) (l : Lb nb ns a) (b j : Int32) : UL nb ns np a (op_tow b j a).2.2 := by
  have h5 := h.1
  refine ul_b (fun e => ul_i (fun w => ?_) (fun _ => UL.rf u l)) (UL.rf u l)
  rw [Bool.and_eq_true, h.2.1.1, h.2.1.2.1] at e
  obtain ⟨hb, eb⟩ := iN_lt (by omega) e.1
  have hj := (iN_lt (by omega) e.2).1
  have w := w.2.2
  unfold sp_tug at w
  rw [h.2.1.2.1, ei_nat (by omega), ef_find_n ns 0 (by omega)] at w
  show UL nb ns np a (sp_bd 2 b j.toNatClampNeg a)
  rw [eb] at w ⊢
  have := ef_cn_0 (p := ef_bd a 2 (ei b.toNatClampNeg)) ns (fun i hi => w i (Nat.zero_le _) (by omega))
  exact ul_Ps (by omega) u (lb_bd l (by omega) hj hb (Or.inr ⟨rfl, by omega⟩)) hj (iv_bd h hj hb (Or.inr rfl)).1
theorem ul_fuel (h : Iv 0 nb ns np T a) (u : Un nb ns np a) (l : Lb nb ns a) (b v : Int32) : UL nb ns np a (op_fuel b v a).2.2 := by
  have h5 := h.1
  refine ul_b (fun e => ul_i (fun _ => ul_b (fun _ => ?_) (UL.rf u l)) (fun _ => UL.rf u l)) (UL.rf u l)
  rw [h.2.1.1] at e
  have hp := (iN_lt (by omega) e).1
  have F : Fr (fun k _ i => k = 3 ∧ i = b.toNatClampNeg) a (ew_u a 3 2 b.toNatClampNeg (ew_min 999 (a 3 2 b.toNatClampNeg + v))) := (Fr.rf _ a).u _ ⟨rfl, rfl⟩
  exact ul_fr u l F (fun k p i e => by rcases e with ⟨rfl, -⟩; rfl) (fun _ _ _ k p hk w => by omega) (fun _ _ _ k p hk w => by omega) (fun _ _ _ k p hk w => by omega) (fun j _ => Fb.fr F (fun p w => by omega)) (fun w => by omega)
theorem fc_hs (h : Iv 0 nb ns np T a) (x w : Int32) (hx : 0 ≤ x ∧ x ≤ 9) : ∀ n, T + 135 * n ≤ 100000000 → Fr Pcl a (sp_hs 0 x w a n).2
  | 0, _ => Fr.rf _ _
  | n + 1, hT => by
    refine (fc_hs h x w hx n (by omega)).tr ((iv_h (iv_hs h x w hx n (by omega)) (by omega) x w hx).1.mono (fun k p i e => ?_))
    unfold Pk Pm at e
    rcases e with (⟨rfl, -⟩ | ⟨rfl, -⟩ | ⟨-, -, rfl | rfl | rfl⟩) | ⟨-, -, rfl | rfl | rfl | rfl⟩ <;> rfl
theorem iN_15 {x : Int32} (h : iN x 15 = true) : x.toNatClampNeg < 15 ∧ x = ei x.toNatClampNeg := iN_lt (n := 15) (by decide) h
theorem ul_port0 (u : Un nb ns np a) (l : Lb nb ns a) (x : Int32) (e : ¬ (op_port x a).1 = 0) : UL nb ns np a (op_port x a).2.2 := by
  revert e
  unfold op_port
  cases iN x 15 with
  | false => intro _; exact UL.rf u l
  | true =>
    rw [cond_true]
    split
    · cases sp_pA x a with
      | false =>
        rw [cond_false]
        split
        · intro e; exact absurd rfl e
        · intro _; exact UL.rf u l
      | true => intro _; exact UL.rf u l
    · intro _; exact UL.rf u l
theorem ul_port1 (h : Iv 0 nb ns np T a) (u : Un nb ns np a) (l : Lb nb ns a) (x : Int32) (e : (op_port x a).1 = 0) : UL nb ns (np + 1) a (op_port x a).2.2 := by
  have h5 := h.1
  revert e
  unfold op_port
  cases iN x 15 with
  | false => intro e; exact absurd (show 1 = 0 from e) (by decide)
  | true =>
    rw [cond_true]
    split
    · cases sp_pA x a with
      | false =>
        rw [cond_false]
        split
        · intro _
          show UL nb ns (np + 1) a (ew_u (ew_u a 7 1 0 (a 7 1 0 + 1)) 6 4 (a 7 1 0).toNatClampNeg x)
          rw [show (a 7 1 0).toNatClampNeg = np by rw [h.2.1.2.2, ei_nat (by omega)]]
          have F : Fr (fun k _ _ => k = 7 ∨ k = 6) a (ew_u (ew_u a 7 1 0 (a 7 1 0 + 1)) 6 4 np x) := ((Fr.rf _ a).u _ (Or.inl rfl)).u _ (Or.inr rfl)
          exact ⟨F.mono (fun k p i e => by rcases e with rfl | rfl <;> rfl), un_port u _ _, l.le (fun j _ => Fb.fr F (fun p w => by omega)), F _ _ _ (fun w => by omega)⟩
        · intro e; exact absurd (show 3 = 0 from e) (by decide)
      | true => intro e; exact absurd (show 2 = 0 from e) (by decide)
    · intro e; exact absurd (show 2 = 0 from e) (by decide)
theorem ul_breaker0 (u : Un nb ns np a) (l : Lb nb ns a) (x v : Int32) (e : ¬ (op_breaker x v a).1 = 0) : UL nb ns np a (op_breaker x v a).2.2 := by
  revert e
  unfold op_breaker
  cases iN x 15 with
  | false => intro _; exact UL.rf u l
  | true =>
    rw [cond_true]
    split
    · split
      · intro e; exact absurd rfl e
      · intro _; exact UL.rf u l
    · intro _; exact UL.rf u l
theorem ul_breaker1 (h : Iv 0 nb ns np T a) (u : Un nb ns np a) (l : Lb nb ns a) (x v : Int32) (e : (op_breaker x v a).1 = 0) : UL (nb + 1) ns np a (op_breaker x v a).2.2 := by
  have h5 := h.1
  revert e
  unfold op_breaker
  cases iN x 15 with
  | false => intro e; exact absurd (show 1 = 0 from e) (by decide)
  | true =>
    rw [cond_true]
    split
    · split
      · intro _
        show UL (nb + 1) ns np a (ew_u (ew_u (ew_u a 9 3 0 (a 9 3 0 + 1)) 3 1 (a 9 3 0).toNatClampNeg x) 3 2 (a 9 3 0).toNatClampNeg v)
        rw [show (a 9 3 0).toNatClampNeg = nb by rw [h.2.1.1, ei_nat (by omega)]]
        have F : Fr (fun k p _ => (k = 9 ∧ p = 3) ∨ k = 3) a (ew_u (ew_u (ew_u a 9 3 0 (a 9 3 0 + 1)) 3 1 nb x) 3 2 nb v) := (((Fr.rf _ a).u _ (Or.inl ⟨rfl, rfl⟩)).u _ (Or.inr rfl)).u _ (Or.inr rfl)
        exact ⟨F.mono (fun k p i e => by rcases e with ⟨rfl, -⟩ | rfl <;> rfl), un_breaker u _ _ _, lb_breaker h l (fun j _ => Fb.fr F (fun p w => by omega)), F _ _ _ (fun w => by omega)⟩
      · intro e; exact absurd (show 3 = 0 from e) (by decide)
    · intro e; exact absurd (show 2 = 0 from e) (by decide)
theorem ul_ship0 (u : Un nb ns np a) (l : Lb nb ns a) (x r w p : Int32) (e : ¬ (op_ship x r w p a).1 = 0) : UL nb ns np a (op_ship x r w p a).2.2 := by
  revert e
  unfold op_ship
  cases iN x 15 && iN p (a 7 1 0) with
  | false => intro _; exact UL.rf u l
  | true =>
    rw [cond_true]
    split
    · split
      · intro e; exact absurd rfl e
      · intro _; exact UL.rf u l
    · intro _; exact UL.rf u l
theorem ul_ship1 (h : Iv 0 nb ns np T a) (u : Un nb ns np a) (l : Lb nb ns a) (x r w p : Int32) (e : (op_ship x r w p a).1 = 0) : UL nb (ns + 1) np a (op_ship x r w p a).2.2 := by
  have h5 := h.1
  revert e
  unfold op_ship
  cases hN : iN x 15 && iN p (a 7 1 0) with
  | false => intro e; exact absurd (show 1 = 0 from e) (by decide)
  | true =>
    rw [Bool.and_eq_true, h.2.1.2.2] at hN
    obtain ⟨hx, ex⟩ := iN_15 hN.1
    obtain ⟨hp, ep⟩ := iN_lt (by omega) hN.2
    rw [cond_true]
    split
    · rename_i hr
      split
      · rename_i h5'
        intro _
        rw [h.2.1.2.1] at h5'
        have h5' : ns < 5 := (ei_lt (b := 5) (by omega) (by decide)).mp h5'
        have er : r = ei r.toNatClampNeg := by
          rcases ei_dec r 5 (by decide) with ⟨c, hc, rfl⟩ | ⟨h1, -⟩
          · rw [ei_nat (by omega)]
          · rcases h1 with h1 | h1
            · exact absurd hr.2.1.1 (Int32.not_le.mpr h1)
            · exact absurd (Int32.le_trans h1 hr.2.1.2) (by decide)
        show UL nb (ns + 1) np a (ew_u (ew_u (ew_u (ew_u (ew_u (ew_u a 9 4 0 (a 9 4 0 + 1)) 10 2 (a 9 4 0).toNatClampNeg x) 10 3 (a 9 4 0).toNatClampNeg r) 10 4 (a 9 4 0).toNatClampNeg (ef_bears r)) 10 5 (a 9 4 0).toNatClampNeg w) 10 6 (a 9 4 0).toNatClampNeg p)
        rw [show (a 9 4 0).toNatClampNeg = ns by rw [h.2.1.2.1, ei_nat (by omega)], ex, ep, er]
        have F := sp_ns_F x.toNatClampNeg r.toNatClampNeg p.toNatClampNeg w (a 9 4 0 + 1) ns a
        exact ⟨F.mono (fun k p i e => by rcases e with ⟨rfl, -⟩ | ⟨rfl, -⟩ <;> rfl), un_ship u _ _ _ _ _, lb_ship l u h5' _ _ _ _ _, F _ _ _ (fun w => by omega)⟩
      · intro e; exact absurd (show 3 = 0 from e) (by decide)
    · intro e; exact absurd (show 2 = 0 from e) (by decide)
end
