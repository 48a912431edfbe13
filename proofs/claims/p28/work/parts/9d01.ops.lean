/-! The law's calls that tell, where they are not refused. -/
section
variable {d : Nat} {s : ew_S} {m : ew_H} {K : ew_R → ew_H → Prop} {nb ns np T t ρ b c j v n : Nat} {told x y z w : Int32}
theorem xr_ice (hc : c < 15) (hv : v ≤ 300) (hl : s 4 3 c = 0) (hx : x = ei c) (hy : y = ei v) (k : K (.inl (some (ew_i (s 4 0 c)))) (ew_hp (ew_u s 4 0 c (ei v)) m)) : ew_Call (d + 2) 73 [ew_o 11 0, ew_i x, ew_i y] (ew_hp s m) K := by
  subst hx; subst hy
  refine xp_ice _ _ ?_
  have e : op_ice (ei c) (ei v) s = (0, s 4 0 c, ew_u s 4 0 c (ei v)) := by
    unfold op_ice
    rw [show iN (ei c) 15 = true from iN_t hc (by decide), cond_true, if_pos ⟨(ei_le (a := 0) (by decide) (by omega)).mpr (by omega), (ei_le (b := 300) (by omega) (by decide)).mpr hv⟩, ei_nat (by omega), if_pos hl]
  rw [e]
  exact k
theorem pA_f (I : Iv 0 nb ns np T s) (h : ∀ p, p < np → ¬ s 6 4 p = x) : sp_pA x s = false := by
  have h3 := I.1.2.2
  unfold sp_pA
  rw [I.2.1.2.2, ei_nat (by omega)]
  exact ef_any_f (fun p hp => decide_eq_false (h p hp))
theorem xr_port (I : Iv 0 nb ns np T s) (hc : c < 15) (hl : s 4 3 c = 0) (hp : ∀ p, p < np → ¬ s 6 4 p = ei c) (h3 : np < 3) (hx : x = ei c) (k : K (.inl (some (ew_i (ei np)))) (ew_hp (ew_u (ew_u s 7 1 0 (s 7 1 0 + 1)) 6 4 np (ei c)) m)) : ew_Call (d + 3) 75 [ew_o 11 0, ew_i x] (ew_hp s m) K := by
  subst hx
  refine xp_port I _ ?_
  have en := I.2.1.2.2
  have e : op_port (ei c) s = (0, ei np, ew_u (ew_u s 7 1 0 (s 7 1 0 + 1)) 6 4 np (ei c)) := by
    unfold op_port
    rw [show iN (ei c) 15 = true from iN_t hc (by decide), cond_true, ei_nat (by omega), if_pos hl, pA_f I hp, cond_false, en, if_pos (show ei np < 3 from (ei_lt (b := 3) (by omega) (by decide)).mpr h3), ei_nat (by omega)]
  rw [e]
  exact k
theorem xr_breaker (I : Iv 0 nb ns np T s) (hc : c < 15) (hl : s 4 3 c = 0) (hv : v ≤ 999) (h2 : nb < 2) (hx : x = ei c) (hy : y = ei v) (k : K (.inl (some (ew_i (ei nb)))) (ew_hp (ew_u (ew_u (ew_u s 9 3 0 (s 9 3 0 + 1)) 3 1 nb (ei c)) 3 2 nb (ei v)) m)) : ew_Call (d + 3) 78 [ew_o 11 0, ew_i x, ew_i y] (ew_hp s m) K := by
  subst hx; subst hy
  refine xp_breaker I _ _ ?_
  have en := I.2.1.1
  have e : op_breaker (ei c) (ei v) s = (0, ei nb, ew_u (ew_u (ew_u s 9 3 0 (s 9 3 0 + 1)) 3 1 nb (ei c)) 3 2 nb (ei v)) := by
    unfold op_breaker
    rw [show iN (ei c) 15 = true from iN_t hc (by decide), cond_true, ei_nat (show c < 2147483648 by omega), if_pos ⟨hl, (ei_le (a := 0) (by decide) (by omega)).mpr (by omega), (ei_le (b := 999) (by omega) (by decide)).mpr hv⟩, en, if_pos (show ei nb < 2 from (ei_lt (b := 2) (by omega) (by decide)).mpr h2), ei_nat (by omega)]
  rw [e]
  exact k
theorem xr_ship {r p : Nat} (I : Iv 0 nb ns np T s) (hc : c < 15) (hl : s 4 3 c = 0) (hr : r ≤ 4) (hv : 1 ≤ v ∧ v ≤ 9) (hp : p < np) (h5 : ns < 5) (hx : x = ei c) (hy : y = ei r) (hz : z = ei v) (hw : w = ei p) (k : K (.inl (some (ew_i (ei ns)))) (ew_hp (sp_ns c r p (ei v) (ei (ns + 1)) ns s) m)) : ew_Call (d + 3) 79 [ew_o 11 0, ew_i x, ew_i y, ew_i z, ew_i w] (ew_hp s m) K := by
  subst hx; subst hy; subst hz; subst hw
  refine xp_ship I _ _ _ _ ?_
  have en := I.2.1.2.1
  have ep := I.2.1.2.2
  have h3 := I.1.2.2
  have e : op_ship (ei c) (ei r) (ei v) (ei p) s = (0, ei ns, sp_ns c r p (ei v) (ei (ns + 1)) ns s) := by
    unfold op_ship
    rw [show iN (ei c) 15 = true from iN_t hc (by decide), ep, iN_t hp (by omega), Bool.true_and, cond_true, ei_nat (show c < 2147483648 by omega), if_pos ⟨hl, ⟨(ei_le (a := 0) (by decide) (by omega)).mpr (by omega), (ei_le (b := 4) (by omega) (by decide)).mpr hr⟩, (ei_le (a := 1) (by decide) (by omega)).mpr hv.1, (ei_le (b := 9) (by omega) (by decide)).mpr hv.2⟩, en, if_pos (show ei ns < 5 from (ei_lt (b := 5) (by omega) (by decide)).mpr h5), ei_nat (show ns < 2147483648 by omega), ei_1]
  rw [e]
  exact k
theorem xr_steer (I : Iv 0 nb ns np T s) (hb : b < nb) (hc : c < 15) (en : s 8 1 b = ei n) (hn : n < 8) (hx : x = ei b) (hy : y = ei c) (k : K (.inl (some (ew_i (ei (n + 1))))) (ew_hp (ew_u (ew_u s 145 n b (ei c)) 8 1 b (ei (n + 1))) m)) : ew_Call (d + 2) 80 [ew_o 11 0, ew_i x, ew_i y] (ew_hp s m) K := by
  subst hx; subst hy
  refine xp_steer I _ _ ?_
  have h2 := I.1.1
  have e : op_steer (ei b) (ei c) s = (0, ei (n + 1), ew_u (ew_u s 145 n b (ei c)) 8 1 b (ei (n + 1))) := by
    unfold op_steer
    rw [I.2.1.1, iN_t hb (by omega), show iN (ei c) 15 = true from iN_t hc (by decide), Bool.true_and, cond_true, ei_nat (show b < 2147483648 by omega), en, if_pos (show ei n < 8 from (ei_lt (b := 8) (by omega) (by decide)).mpr hn), ei_nat (show n < 2147483648 by omega), ei_1]
  rw [e]
  exact k
theorem xr_sail (I : Iv 0 nb ns np T s) (hj : j < ns) (hc : c < 15) (n3 : ¬ s 10 7 j = 3) (en : s 40 1 j = ei n) (hn : n < 8) (hx : x = ei j) (hy : y = ei c) (k : K (.inl (some (ew_i (ei (n + 1))))) (ew_hp (ew_u (ew_u s 593 n j (ei c)) 40 1 j (ei (n + 1))) m)) : ew_Call (d + 2) 81 [ew_o 11 0, ew_i x, ew_i y] (ew_hp s m) K := by
  subst hx; subst hy
  refine xp_sail I _ _ ?_
  have h2 := I.1.2.1
  have e : op_sail (ei j) (ei c) s = (0, ei (n + 1), ew_u (ew_u s 593 n j (ei c)) 40 1 j (ei (n + 1))) := by
    unfold op_sail
    rw [I.2.1.2.1, iN_t hj (by omega), show iN (ei c) 15 = true from iN_t hc (by decide), Bool.true_and, cond_true, ei_nat (show j < 2147483648 by omega), en, if_pos ⟨n3, (ei_lt (b := 8) (by omega) (by decide)).mpr hn⟩, ei_nat (show n < 2147483648 by omega), ei_1]
  rw [e]
  exact k
theorem xr_lead (I : Iv 0 nb ns np T s) (hb : b < nb) (hj : j < ns) (n3 : ¬ s 10 7 j = 3) (ec : s 10 2 j = s 3 1 b) (n1 : ¬ (s 10 7 j = 1 ∧ s 10 8 j = ei b)) (h2 : sp_led 1 (ei b) s < 2) (hx : x = ei b) (hy : y = ei j) (k : K (.inl (some (ew_i (sp_led 1 (ei b) (sp_bd 1 (ei b) j s))))) (ew_hp (sp_bd 1 (ei b) j s) m)) : ew_Call (d + 3) 83 [ew_o 11 0, ew_i x, ew_i y] (ew_hp s m) K := by
  subst hx; subst hy
  refine xp_lead I _ _ ?_
  have h2' := I.1.1
  have h5 := I.1.2.1
  have e : op_lead (ei b) (ei j) s = (0, sp_led 1 (ei b) (sp_bd 1 (ei b) j s), sp_bd 1 (ei b) j s) := by
    unfold op_lead
    rw [I.2.1.1, I.2.1.2.1, iN_t hb (by omega), iN_t hj (by omega), Bool.true_and, cond_true, ei_nat (show j < 2147483648 by omega), ei_nat (show b < 2147483648 by omega), if_pos ⟨⟨n3, ec⟩, n1, h2⟩]
  rw [e]
  exact k
theorem xr_tow (I : Iv 0 nb ns np T s) (hb : b < nb) (hj : j < ns) (n3 : ¬ s 10 7 j = 3) (ec : s 10 2 j = s 3 1 b) (h1 : 1 ≤ s 10 3 j) (h2 : sp_tug (ei b) s = -1) (hx : x = ei b) (hy : y = ei j) (k : K (.inl (some (ew_i (s 10 4 j)))) (ew_hp (sp_bd 2 (ei b) j s) m)) : ew_Call (d + 3) 84 [ew_o 11 0, ew_i x, ew_i y] (ew_hp s m) K := by
  subst hx; subst hy
  refine xp_tow I _ _ ?_
  have h2' := I.1.1
  have h5 := I.1.2.1
  have e : op_tow (ei b) (ei j) s = (0, s 10 4 j, sp_bd 2 (ei b) j s) := by
    unfold op_tow
    rw [I.2.1.1, I.2.1.2.1, iN_t hb (by omega), iN_t hj (by omega), Bool.true_and, cond_true, ei_nat (show j < 2147483648 by omega), ei_nat (show b < 2147483648 by omega), if_pos ⟨⟨n3, ec⟩, h1, h2⟩]
  rw [e]
  exact k
theorem xr_rule {p a : Nat} (I : Iv 0 nb ns np T s) (hp : p < np) (ha : a ≤ 4) (en : s 6 3 p = ei n) (hn : n < 10) (hx : x = ei p) (hy : y = ei a) (hz : z = 24) (k : K (.inl (some (ew_i (s 9 5 0 + 24)))) (ew_hp (ew_u (ew_u (ew_u s 81 n p (ei a)) 113 n p (s 9 5 0 + 24)) 6 3 p (ei (n + 1))) m)) : ew_Call (d + 2) 76 [ew_o 11 0, ew_i x, ew_i y, ew_i z] (ew_hp s m) K := by
  subst hx; subst hy; subst hz
  refine xp_rule I _ _ _ ?_
  have h3 := I.1.2.2
  have e : op_rule (ei p) (ei a) 24 s = (0, s 9 5 0 + 24, ew_u (ew_u (ew_u s 81 n p (ei a)) 113 n p (s 9 5 0 + 24)) 6 3 p (ei (n + 1))) := by
    unfold op_rule
    rw [I.2.1.2.2, iN_t hp (by omega), cond_true, if_pos ⟨⟨(ei_le (a := 0) (by decide) (by omega)).mpr (by omega), (ei_le (b := 4) (by omega) (by decide)).mpr ha⟩, by decide⟩, ei_nat (show p < 2147483648 by omega), en, if_pos (show ei n < 10 from (ei_lt (b := 10) (by omega) (by decide)).mpr hn), ei_nat (show n < 2147483648 by omega), ei_1]
  rw [e]
  exact k
end
/-- the first that is found -/
theorem ef_find_at {p : Nat → Bool} {c : Nat} (hc : p c = true) : ∀ r j, (∀ i, j ≤ i → i < c → p i = false) → j ≤ c → c < j + r → ef_find p r j = ei c
  | 0, j, _, h1, h2 => by omega
  | r + 1, j, h, h1, h2 => by
    unfold ef_find
    by_cases e : j = c
    · subst e
      rw [hc]
      rfl
    · rw [h j (Nat.le_refl _) (by omega)]
      exact ef_find_at hc r (j + 1) (fun i q1 q2 => h i (by omega) q2) (by omega) (by omega)
section
variable {s : ew_S} {np T b j : Nat}
theorem tug_n (I : Iv 0 2 5 np T s) (h : sp_tug (ei b) s = -1) : ∀ i, i < 5 → ef_bd s 2 (ei b) i = false := by
  unfold sp_tug at h
  rw [show (s 9 4 0).toNatClampNeg = 5 by rw [I.2.1.2.1]; decide] at h
  exact fun i hi => (ef_find_n 5 0 (by decide)).mp h i (by omega) (by omega)
theorem tug_j (I : Iv 0 2 5 np T s) (hj : j < 5) (h : sp_tug (ei b) s = -1) : sp_tug (ei b) (sp_bd 2 (ei b) j s) = ei j := by
  have hn := tug_n I h
  unfold sp_tug
  rw [show (sp_bd 2 (ei b) j s 9 4 0).toNatClampNeg = 5 by show (s 9 4 0).toNatClampNeg = 5; rw [I.2.1.2.1]; decide]
  refine ef_find_at (c := j) ?_ 5 0 (fun i _ hi => ?_) (by omega) (by omega)
  · refine decide_eq_true ⟨?_, ?_⟩
    · exact (ew_u_ne _ _ (by omega)).trans (ew_u_self _ _ _ _ _)
    · exact ew_u_self _ _ _ _ _
  · have e7 : sp_bd 2 (ei b) j s 10 7 i = s 10 7 i := (ew_u_ne _ _ (by omega)).trans (ew_u_ne _ _ (by omega))
    have e8 : sp_bd 2 (ei b) j s 10 8 i = s 10 8 i := (ew_u_ne _ _ (by omega)).trans (ew_u_ne _ _ (by omega))
    rw [e7, e8]
    exact hn i (by omega)
end
