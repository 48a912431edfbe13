/-! Small numbers as ints. -/
abbrev ei (n : Nat) : Int32 := Int32.ofNat n
theorem ei_int {n : Nat} (h : n < 2147483648) : (ei n).toInt = n := by
  rw [show ei n = Int32.ofNat n from rfl, Int32.toInt_ofNat', Int.bmod_def]
  have e9 : ((Int32.size : Nat) : Int) = 4294967296 := rfl
  try rw [e9]
  split <;> omega
theorem ei_lt {a b : Nat} (ha : a < 2147483648) (hb : b < 2147483648) : ei a < ei b ↔ a < b := by
  rw [Int32.lt_iff_toInt_lt, ei_int ha, ei_int hb]; omega
theorem ei_le {a b : Nat} (ha : a < 2147483648) (hb : b < 2147483648) : ei a ≤ ei b ↔ a ≤ b := by
  rw [Int32.le_iff_toInt_le, ei_int ha, ei_int hb]; omega
theorem ei_inj {a b : Nat} (ha : a < 2147483648) (hb : b < 2147483648) : ei a = ei b ↔ a = b := by
  rw [← Int32.toInt_inj, ei_int ha, ei_int hb]; omega
theorem ei_nat {n : Nat} (h : n < 2147483648) : (ei n).toNatClampNeg = n := by
  show (ei n).toInt.toNat = n
  rw [ei_int h]; omega
theorem ei_add (a b : Nat) : ei a + ei b = ei (a + b) := (Int32.ofNat_add a b).symm
theorem ei_1 (a : Nat) : ei a + 1 = ei (a + 1) := ei_add a 1
theorem ei_nn {n : Nat} (h : n < 2147483648) : ¬ ei n < 0 := fun q => by
  have := (ei_lt h (b := 0) (by decide)).mp q
  omega
theorem ei_ix {j n : Nat} (h : j < n) (hn : n < 2147483648) : ew_ix (ei j) n := by
  intro q
  rcases q with q | q
  · exact ei_nn (by omega) q
  · rw [ei_nat (by omega)] at q; omega
theorem ei_sub {a b : Nat} (h : b ≤ a) : ei a - ei b = ei (a - b) := by
  have e := ei_add (a - b) b
  rw [show a - b + b = a by omega] at e
  rw [← e, Int32.add_sub_cancel]
theorem ei_of {x : Int32} (h : ¬ x < 0) : x = ei x.toNatClampNeg := by
  rw [← Int32.toInt_inj]
  have h0 : 0 ≤ x.toInt := by
    rw [Int32.lt_iff_toInt_lt] at h
    have e0 : (0 : Int32).toInt = 0 := rfl
    omega
  have h1 := Int32.toInt_lt x
  have e : x.toNatClampNeg = x.toInt.toNat := rfl
  rw [ei_int (by rw [e]; omega), e]
  omega
theorem ew_max0 {n : Nat} (h : n < 2147483648) : ew_max 0 (ei n - 1) = ei (n - 1) := by
  unfold ew_max
  cases n with
  | zero => decide
  | succ n =>
    rw [show ei (n + 1) - 1 = ei n from by rw [← ei_1]; exact Int32.add_sub_cancel ..]
    rw [show n + 1 - 1 = n from rfl]
    by_cases e : n = 0
    · subst e; rfl
    · exact if_pos ((ei_lt (a := 0) (by decide) (by omega)).mpr (by omega))
/-! Shifts of an array, copies. -/
def ef_sh (s : ew_S) (k i j : Nat) : ew_S := fun k' p' i' => bif Nat.beq k' k && (Nat.beq i' i && Nat.blt (p' + 1) j) then s k' (p' + 1) i' else s k' p' i'
theorem ef_sh_1 (s : ew_S) (k i : Nat) {j : Nat} (h : j ≤ 1) : ef_sh s k i j = s := by
  funext k' p' i'
  unfold ef_sh
  have : Nat.blt (p' + 1) j = false := by
    cases q : Nat.blt (p' + 1) j with
    | false => rfl
    | true => have := Nat.le_of_ble_eq_true q; omega
  rw [this, Bool.and_false, Bool.and_false]
  rfl
theorem ef_sh_s (s : ew_S) (k i j : Nat) : ew_u (ef_sh s k i (j + 1)) k j i (ef_sh s k i (j + 1) k (j + 1) i) = ef_sh s k i (j + 2) := by
  funext k' p' i'
  have e1 : Nat.blt (j + 1 + 1) (j + 1) = false := by
    cases q : Nat.blt (j + 1 + 1) (j + 1) with
    | false => rfl
    | true => have := Nat.le_of_ble_eq_true q; omega
  unfold ew_u
  cases hk : Nat.beq k' k with
  | false => unfold ef_sh; rw [hk]; rfl
  | true =>
    obtain rfl := ew_beq hk
    cases hi : Nat.beq i' i with
    | false => unfold ef_sh; rw [hk, hi]; simp only [Bool.false_and, Bool.and_false, cond_false]
    | true =>
      obtain rfl := ew_beq hi
      cases hp : Nat.beq p' j with
      | true =>
        obtain rfl := ew_beq hp
        unfold ef_sh
        rw [hk, hi, e1, show Nat.blt (p' + 1) (p' + 2) = true from Nat.ble_eq_true_of_le (Nat.le_refl _)]
        rfl
      | false =>
        unfold ef_sh
        rw [hk, hi]
        have e2 : Nat.blt (p' + 1) (j + 1) = Nat.blt (p' + 1) (j + 2) := by
          have hne : ¬ p' = j := fun q => by rw [q, ew_beqr] at hp; cases hp
          cases q : Nat.blt (p' + 1) (j + 1) with
          | true =>
            have := Nat.le_of_ble_eq_true q
            exact (Nat.ble_eq_true_of_le (by omega)).symm
          | false =>
            cases q2 : Nat.blt (p' + 1) (j + 2) with
            | false => rfl
            | true =>
              have h2 := Nat.le_of_ble_eq_true q2
              exact absurd (Nat.ble_eq_true_of_le (show p' + 1 + 1 ≤ j + 1 by omega)) (by rw [show Nat.ble (p' + 1 + 1) (j + 1) = false from q]; decide)
        rw [e2]
        rfl
/-- an array's first j places as another's -/
def ef_cp (s : ew_S) (k i i0 j : Nat) : ew_S := fun k' p' i' => bif Nat.beq k' k && (Nat.beq i' i && Nat.blt p' j) then s k' p' i0 else s k' p' i'
theorem ef_cp_0 (s : ew_S) (k i i0 : Nat) : ef_cp s k i i0 0 = s := by
  funext k' p' i'
  unfold ef_cp
  have : Nat.blt p' 0 = false := rfl
  rw [this, Bool.and_false, Bool.and_false]
  rfl
theorem ef_cp_s (s : ew_S) (k i i0 j : Nat) : ew_u (ef_cp s k i i0 j) k j i (ef_cp s k i i0 j k j i0) = ef_cp s k i i0 (j + 1) := by
  have ej : Nat.blt j j = false := by
    cases q : Nat.blt j j with
    | false => rfl
    | true => have := Nat.le_of_ble_eq_true q; omega
  have e0 : ef_cp s k i i0 j k j i0 = s k j i0 := by
    unfold ef_cp
    rw [ej, Bool.and_false, Bool.and_false]
    rfl
  rw [e0]
  funext k' p' i'
  unfold ew_u
  cases hk : Nat.beq k' k with
  | false => unfold ef_cp; rw [hk]; rfl
  | true =>
    obtain rfl := ew_beq hk
    cases hi : Nat.beq i' i with
    | false => unfold ef_cp; rw [hk, hi]; simp only [Bool.false_and, Bool.and_false, cond_false]
    | true =>
      obtain rfl := ew_beq hi
      cases hp : Nat.beq p' j with
      | true =>
        obtain rfl := ew_beq hp
        unfold ef_cp
        rw [hk, hi, show Nat.blt p' (p' + 1) = true from Nat.ble_eq_true_of_le (Nat.le_refl _)]
        rfl
      | false =>
        unfold ef_cp
        rw [hk, hi]
        have hne : ¬ p' = j := fun q => by rw [q, ew_beqr] at hp; cases hp
        have e2 : Nat.blt p' j = Nat.blt p' (j + 1) := by
          cases q : Nat.blt p' j with
          | true =>
            have := Nat.le_of_ble_eq_true q
            exact (Nat.ble_eq_true_of_le (by omega)).symm
          | false =>
            cases q2 : Nat.blt p' (j + 1) with
            | false => rfl
            | true =>
              have h2 := Nat.le_of_ble_eq_true q2
              exact absurd (Nat.ble_eq_true_of_le (show p' + 1 ≤ j by omega)) (by rw [show Nat.ble (p' + 1) j = false from q]; decide)
        rw [e2]
        rfl
theorem ew_u_self (s : ew_S) (k p i : Nat) (x : Int32) : ew_u s k p i x k p i = x := by
  unfold ew_u
  rw [ew_beqr, ew_beqr, ew_beqr]
  rfl
theorem ew_u_ne (s : ew_S) {k p i k' p' i' : Nat} (x : Int32) (h : ¬ (k' = k ∧ p' = p ∧ i' = i)) : ew_u s k p i x k' p' i' = s k' p' i' := by
  unfold ew_u
  cases hb : (Nat.beq k' k && (Nat.beq p' p && Nat.beq i' i)) with
  | false => rfl
  | true =>
    simp only [Bool.and_eq_true] at hb
    exact absurd ⟨ew_beq hb.1, ew_beq hb.2.1, ew_beq hb.2.2⟩ h
section
variable {s : ew_S} {m : ew_H} {K : ew_R → ew_H → Prop} {k i p k2 i2 p2 k3 i3 p3 z d y pc : Nat} {as st : List ew_V} {x x2 x3 : Int32} {ls : List (Option ew_V)} {C : Nat → List ew_V → ew_H → (ew_R → ew_H → Prop) → Prop}
theorem ec_1 (h : ew_sh k p = some none) (g : ew_Call d z as (ew_hp (ew_u s k p i x) m) K) : ew_Call d z as (ew_put (ew_hp s m) k i p (ew_i x)) K := by
  rw [ew_hp_put h]; exact g
theorem ec_2 (h : ew_sh k p = some none) (h2 : ew_sh k2 p2 = some none) (g : ew_Call d z as (ew_hp (ew_u (ew_u s k p i x) k2 p2 i2 x2) m) K) : ew_Call d z as (ew_put (ew_put (ew_hp s m) k i p (ew_i x)) k2 i2 p2 (ew_i x2)) K := by
  rw [ew_hp_put h, ew_hp_put h2]; exact g
theorem ec_3 (h : ew_sh k p = some none) (h2 : ew_sh k2 p2 = some none) (h3 : ew_sh k3 p3 = some none) (g : ew_Call d z as (ew_hp (ew_u (ew_u (ew_u s k p i x) k2 p2 i2 x2) k3 p3 i3 x3) m) K) : ew_Call d z as (ew_put (ew_put (ew_put (ew_hp s m) k i p (ew_i x)) k2 i2 p2 (ew_i x2)) k3 i3 p3 (ew_i x3)) K := by
  rw [ew_hp_put h, ew_hp_put h2, ew_hp_put h3]; exact g
theorem eq_1 (h : ew_sh k p = some none) (g : ew_W C y K (pc, ls, st, ew_hp (ew_u s k p i x) m)) : ew_W C y K (pc, ls, st, ew_put (ew_hp s m) k i p (ew_i x)) := by
  rw [ew_hp_put h]; exact g
theorem eq_2 (h : ew_sh k p = some none) (h2 : ew_sh k2 p2 = some none) (g : ew_W C y K (pc, ls, st, ew_hp (ew_u (ew_u s k p i x) k2 p2 i2 x2) m)) : ew_W C y K (pc, ls, st, ew_put (ew_put (ew_hp s m) k i p (ew_i x)) k2 i2 p2 (ew_i x2)) := by
  rw [ew_hp_put h, ew_hp_put h2]; exact g
end
