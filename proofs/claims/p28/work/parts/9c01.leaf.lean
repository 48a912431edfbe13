/-! The law's small methods. -/
theorem ei_divn {m n : Nat} (hm : m < 2147483648) (h0 : 0 < n) (hn : n < 2147483648) : ei m / ei n = ei (m / n) := by
  have hd : m / n ≤ m := Nat.div_le_self m n
  have hne : ei n ≠ -1 := fun e => by
    have : (ei n).toInt = -1 := by rw [e]; rfl
    rw [ei_int hn] at this
    omega
  rw [← Int32.toInt_inj, Int32.toInt_div_of_ne_right _ _ hne, ei_int hm, ei_int hn, ei_int (by omega), Int.tdiv_eq_ediv_of_nonneg (by omega)]
  exact (Int.natCast_ediv m n).symm
theorem ei_modn {m n : Nat} (hm : m < 2147483648) (h0 : 0 < n) (hn : n < 2147483648) : ei m - ei m / ei n * ei n = ei (m % n) := by
  have e1 : m / n * n ≤ m := Nat.div_mul_le_self m n
  have e2 : m - m / n * n = m % n := by
    have := Nat.div_add_mod m n
    rw [Nat.mul_comm] at this
    omega
  rw [ei_divn hm h0 hn, show ei (m / n) * ei n = ei (m / n * n) from (Int32.ofNat_mul _ _).symm, ei_sub e1, e2]
theorem ei_and (v : Int32) : ∃ m, m < 2147483648 ∧ v &&& 2147483647 = ei m := by
  have h : ¬ v &&& 2147483647 < 0 := fun h => by
    rw [Int32.lt_iff_toInt_lt] at h
    have h1 : (v &&& 2147483647).toBitVec.msb = true := by
      rw [BitVec.msb_eq_toInt]
      exact decide_eq_true h
    rw [Int32.toBitVec_and, BitVec.msb_and] at h1
    have h2 : (2147483647 : Int32).toBitVec.msb = false := by decide
    rw [h2, Bool.and_false] at h1
    cases h1
  refine ⟨_, ?_, ei_of h⟩
  have h1 := Int32.toInt_lt (v &&& 2147483647)
  show (v &&& 2147483647).toInt.toNat < _
  omega
section
variable {d : Nat} {s : ew_S} {m h : ew_H} {K : ew_R → ew_H → Prop} {nb ns np T : Nat}
theorem xv_below (v : Int32) (n : Nat) (h0 : 0 < n) (hn : n < 2147483648) {x : Int32} (hx : x = ei n) (k : ∀ r, r < n → K (.inl (some (ew_i (ei r)))) h) : ew_Call (d + 1) 219 [ew_i v, ew_i x] h K := by
  subst hx
  obtain ⟨a, ha, ea⟩ := ei_and v
  have hne : ¬ ei n = 0 := fun e => by
    have := (ei_inj (b := 0) hn (by decide)).mp e
    omega
  have key : K (.inl (some (ew_i ((v &&& 2147483647) - (v &&& 2147483647) / ei n * ei n)))) h := by
    rw [ea, ei_modn ha h0 hn]
    exact k _ (Nat.mod_lt _ h0)
  exact ew_call (ew_go (fun _ => false) 40 ⟨hne, trivial, key⟩)
theorem xv_cell (hL : m.2.1 17 0 ≤ 100000) {c : Nat} (hc : c < 100000) {x : Int32} (hx : x = ei c) (k : ∀ v, K (.inl (some (ew_i v))) (ew_hp s m)) : ew_Call (d + 1) 220 [ew_o 17 0, ew_i x] (ew_hp s m) K := by
  subst hx
  refine ew_call (ew_go (fun _ => false) 40 ⟨fun z => ⟨trivial, k _⟩, fun z => ⟨?_, trivial, k _⟩⟩)
  have z : ¬ ei (m.2.1 17 0) ≤ ei c := z
  rw [ei_le (by omega) (by omega)] at z
  exact ei_ix (n := m.2.1 17 0) (by omega) (by omega)
theorem xv_beside (a b : Int32) (k : K (.inl (some (ew_i (if ef_far a b = 1 then 1 else 0)))) h) : ew_Call (d + 1) 221 [ew_i a, ew_i b] h K := by
  refine ew_call (ew_go (fun _ => false) 60 ⟨by decide, by decide, by decide, by decide, fun z => ?_, fun z => ?_⟩)
  · have z : ¬ ef_far a b = 1 := z
    rw [if_neg z] at k
    exact ⟨Or.inl rfl, k⟩
  · have z : ¬ ¬ ef_far a b = 1 := z
    rw [if_pos (Classical.not_not.mp z)] at k
    exact ⟨Or.inr rfl, k⟩
end
theorem ef_next : ∀ r, r < 15 → ei r + 1 - (ei r + 1) / 15 * 15 = ei ((r + 1) % 15) := by decide +kernel
theorem ef_some : ∀ c, c < 15 → ∀ r, r < 15 → ∃ n, n < 15 ∧ ef_far (ei c) (ei ((r + n) % 15)) = 1 := by decide +kernel
section
variable {d : Nat} {s : ew_S} {m h : ew_H} {K : ew_R → ew_H → Prop} {nb ns np T : Nat}
theorem xl_next {c : Nat} (v : Int32) (k : ∀ r, r < 15 → K (.inl (some (ew_i (ei r)))) h) : ∀ (n r : Nat), r < 15 → ef_far (ei c) (ei ((r + n) % 15)) = 1 →
    ew_W (ew_Call (d + 1)) 222 K (7, [some (ew_i (ei c)), some (ew_i v), some (ew_i (ei r))], [], h) := by
  intro n
  induction n with
  | zero =>
    intro r hr e
    rw [Nat.add_zero, Nat.mod_eq_of_lt hr] at e
    refine ew_go (fun _ => false) 40 (xv_beside _ _ ?_)
    rw [if_pos e]
    exact ⟨fun _ => ⟨trivial, k r hr⟩, fun z => absurd (show ¬ (1 : Int32) = 0 by decide) z⟩
  | succ n ih =>
    intro r hr e
    by_cases e1 : ef_far (ei c) (ei r) = 1
    · refine ew_go (fun _ => false) 40 (xv_beside _ _ ?_)
      rw [if_pos e1]
      exact ⟨fun _ => ⟨trivial, k r hr⟩, fun z => absurd (show ¬ (1 : Int32) = 0 by decide) z⟩
    · have fin := ih ((r + 1) % 15) (Nat.mod_lt _ (by decide)) (by rw [Nat.mod_add_mod, Nat.add_right_comm, Nat.add_assoc]; exact e)
      refine ew_go (fun pc => Nat.beq pc 7) 40 (xv_beside _ _ ?_)
      rw [if_neg e1]
      refine ⟨fun z => absurd rfl z, fun _ => ⟨by decide, ?_⟩⟩
      show ew_W (ew_Call (d + 1)) 222 K (7, [some (ew_i (ei c)), some (ew_i v), some (ew_i (ei r + 1 - (ei r + 1) / 15 * 15))], [], h)
      rw [ef_next r hr]
      exact fin
theorem xv_next {c : Nat} (hc : c < 15) {x : Int32} (hx : x = ei c) (v : Int32) (k : ∀ r, r < 15 → K (.inl (some (ew_i (ei r)))) h) : ew_Call (d + 2) 222 [ew_i x, ew_i v] h K := by
  subst hx
  refine ew_call (ew_go (fun pc => Nat.beq pc 7) 40 (xv_below v 15 (by decide) (by decide) rfl (fun r hr => ?_)))
  obtain ⟨n, -, e⟩ := ef_some c hc r hr
  exact xl_next (d := d) v k n r hr e
theorem sv_w (j : Nat) (s : ew_S) {i : Nat} (hi : i < 5) : sp_sv j (ei (10 + i)) s = s 177 i j := by
  have : i = 0 ∨ i = 1 ∨ i = 2 ∨ i = 3 ∨ i = 4 := by omega
  rcases this with rfl | rfl | rfl | rfl | rfl <;> rfl
theorem xl_waits (I : Iv 0 nb ns np T s) {j : Nat} (hj : j < ns) (k : K (.inl (some (ew_i (ef_sum (fun p => s 177 p j) 5)))) (ew_hp s m)) : ∀ (r i : Nat) (y v : Int32), y = ei (10 + i) → i + r = 5 → v = ef_sum (fun p => s 177 p j) i →
    ew_W (ew_Call (d + 3)) 223 K (5, [some (ew_o 11 0), some (ew_i (ei j)), some (ew_i v), some (ew_i y)], [], ew_hp s m) := by
  intro r
  induction r with
  | zero =>
    intro i y v hy hi hv
    obtain rfl : i = 5 := by omega
    subst hy; subst hv
    exact ew_go (fun _ => false) 40 ⟨fun _ => ⟨trivial, k⟩, fun z => absurd (show (15 : Int32) ≤ ei (10 + 5) by decide) z⟩
  | succ r ih =>
    intro i y v hy hi hv
    have h15 : ¬ (15 : Int32) ≤ ei (10 + i) := fun z => by
      have := (ei_le (a := 15) (by decide) (by omega)).mp z
      omega
    have fin := ih (i + 1) (ei (10 + i) + 1) (v + s 177 i j) (by rw [ei_1]; rfl) (by omega) (by rw [hv]; rfl)
    subst hy
    refine ew_go (fun pc => Nat.beq pc 5) 40 ⟨fun z => absurd z h15, fun _ => xq_sv I (Fr.rf _ _) hj (w := 10 + i) (by omega) rfl rfl ?_⟩
    rw [sv_w j s (by omega)]
    exact fin
theorem xv_waits (I : Iv 0 nb ns np T s) {j : Nat} (hj : j < ns) {x : Int32} (hx : x = ei j) (k : K (.inl (some (ew_i (ef_sum (fun p => s 177 p j) 5)))) (ew_hp s m)) : ew_Call (d + 4) 223 [ew_o 11 0, ew_i x] (ew_hp s m) K := by
  subst hx
  exact ew_call (ew_go (fun pc => Nat.beq pc 5) 40 (xl_waits (d := d) I hj k 5 0 10 0 rfl rfl rfl))
end
