/-! The digest of the class: breakers, ships, ports. -/
def sp_d3 (s : ew_S) (ns : Nat) (d : Int64) : Nat → Int64
  | 0 => d
  | b + 1 => sp_df (fun w => sp_bv b (ei b) (ei w) s) (sp_d3 s ns d b) 6 * 31 + (sp_hn b s ns).1.toInt64
def sp_d4 (A : Nat → Int32) (s : ew_S) (d : Int64) : Nat → Int64
  | 0 => d
  | j + 1 => ((sp_df (fun w => sp_sv j (ei w) s) (sp_d4 A s d j) 15 * 31 + (sp_way j (s 6 4 (s 10 6 j).toNatClampNeg).toNatClampNeg s).toInt64) * 31 + (sp_tb j s).toInt64) * 31 + (A j).toInt64
def sp_d5 (s : ew_S) (d : Int64) : Nat → Int64
  | 0 => d
  | p + 1 => (sp_d5 s d p * 31 + (sp_if p (s 9 5 0) s).toInt64) * 31 + (sp_if p 100 s).toInt64
def sp_dig (A : Nat → Int32) (nb ns np : Nat) (s : ew_S) : Int64 := sp_d5 s (sp_d4 A s (sp_d3 s ns (sp_d2 s (sp_df (fun w => sp_mv (ei w) s) 4802 11) 15) nb) ns) np
/-- what the ships' hours in the trial may say -/
def sp_A (nb ns : Nat) (s : ew_S) (A : Nat → Int32) (j : Nat) : Prop := (s 10 7 j = 3 → A j = 0) ∧ (¬ s 10 7 j = 3 → ∃ s1 a, Fr Pct s s1 ∧ cp_d nb ns s1 a ∧ A j = sp_ai j 1 (-1) a 6 0)
theorem sp_d4_cg {A A' : Nat → Int32} {s : ew_S} {d : Int64} : ∀ n, (∀ j, j < n → A' j = A j) → sp_d4 A' s d n = sp_d4 A s d n
  | 0, _ => rfl
  | n + 1, h => by
    unfold sp_d4
    rw [sp_d4_cg n (fun j hj => h j (by omega)), h n (by omega)]
section
variable {d : Nat} {s s1 : ew_S} {m : ew_H} {K : ew_R → ew_H → Prop} {nb ns np T : Nat}
theorem xq_bv (h : Iv 0 nb ns np T s) (F : Fr Pct s s1) {b w : Nat} (hb : b < nb) (hw : w < 6) {z x : Int32} (hz : z = ei b) (hx : x = ei w) (k : K (.inl (some (ew_i (sp_bv b (ei b) (ei w) s)))) (ew_hp s1 m)) : ew_Call (d + 3) 88 [ew_o 11 0, ew_i z, ew_i x] (ew_hp s1 m) K := by
  subst hx; subst hz
  have h5 := h.1
  refine xp_ofBreaker (h.pt F) _ _ ?_
  unfold vo_ofBreaker
  rw [pt9 F, h.2.1.1, iN_t hb (by omega), cond_true, if_pos ⟨(ei_le (a := 0) (b := w) (by decide) (by omega)).mpr (Nat.zero_le _), (ei_le (b := 5) (by omega) (by decide)).mpr (by omega)⟩, ei_nat (by omega), sp_bv_pt h F hb]
  exact k
theorem xq_help (h : Iv 0 nb ns np T s) (F : Fr Pct s s1) {b : Nat} (hb : b < nb) {z : Int32} (hz : z = ei b) (k : ∀ s', Fr Pct s s' → K (.inl (some (ew_i (sp_hn b s ns).1))) (ew_hp s' m)) : ew_Call (d + 6) 95 [ew_o 11 0, ew_i z] (ew_hp s1 m) K := by
  subst hz
  have h5 := h.1
  refine xp_helpNext (h.pt F) _ (fun s' F' => ?_)
  unfold vo_help
  rw [pt9 F, h.2.1.1, iN_t hb (by omega), cond_true, ei_nat (by omega), pt9 F, h.2.1.2.1, ei_nat (by omega), sp_hn_pt h F hb ns (Nat.le_refl _)]
  exact k s' (F.tr (F'.mono (fun _ _ _ w => Or.inl w)))
theorem xq_sv (h : Iv 0 nb ns np T s) (F : Fr Pct s s1) {j w : Nat} (hj : j < ns) (hw : w < 15) {z x : Int32} (hz : z = ei j) (hx : x = ei w) (k : K (.inl (some (ew_i (sp_sv j (ei w) s)))) (ew_hp s1 m)) : ew_Call (d + 3) 89 [ew_o 11 0, ew_i z, ew_i x] (ew_hp s1 m) K := by
  subst hx; subst hz
  have h5 := h.1
  refine xp_ofShip (h.pt F) _ _ ?_
  unfold vo_ofShip
  rw [pt9 F, h.2.1.2.1, iN_t hj (by omega), cond_true, if_pos ⟨(ei_le (a := 0) (b := w) (by decide) (by omega)).mpr (Nat.zero_le _), (ei_le (b := 14) (by omega) (by decide)).mpr (by omega)⟩, ei_nat (by omega), sp_sv_pt h F hj]
  exact k
theorem xq_way (h : Iv 0 nb ns np T s) (F : Fr Pct s s1) {j t : Nat} (hj : j < ns) (ht : t < 15) {z x : Int32} (hz : z = ei j) (hx : x = ei t) (k : ∀ s', Fr Pct s s' → K (.inl (some (ew_i (sp_way j t s)))) (ew_hp s' m)) : ew_Call (d + 5) 93 [ew_o 11 0, ew_i z, ew_i x] (ew_hp s1 m) K := by
  subst hx; subst hz
  have h5 := h.1
  refine xp_way (h.pt F) _ _ (fun s' F' => ?_)
  unfold vo_way
  rw [pt9 F, h.2.1.2.1, iN_t hj (by omega), show iN (ei t) 15 = true from iN_t (n := 15) ht (by decide), Bool.and_true, cond_true, ei_nat (by omega), ei_nat (by omega), sp_way_pt F (by omega) ht]
  exact k s' (F.tr (F'.mono (fun _ _ _ w => Or.inl w)))
theorem xq_tb (h : Iv 0 nb ns np T s) (F : Fr Pct s s1) {j : Nat} (hj : j < ns) {z : Int32} (hz : z = ei j) (k : ∀ s', Fr Pct s s' → K (.inl (some (ew_i (sp_tb j s)))) (ew_hp s' m)) : ew_Call (d + 6) 94 [ew_o 11 0, ew_i z] (ew_hp s1 m) K := by
  subst hz
  have h5 := h.1
  refine xp_toBreak (h.pt F) _ (fun s' F' => ?_)
  unfold vo_toBreak
  rw [pt9 F, h.2.1.2.1, iN_t hj (by omega), cond_true, ei_nat (by omega), sp_tb_pt h F hj]
  exact k s' (F.tr (F'.mono (fun _ _ _ w => Or.inl w)))
theorem xq_arr (h : Iv 0 nb ns np T s) (hT : T ≤ 90000000) (F : Fr Pct s s1) {j : Nat} (hj : j < ns) {z n x w : Int32} (hz : z = ei j) (hn : n = 6) (hx : x = 1) (hw : w = -1) (k : ∀ s' v, Fr Pct s s' → ((s 10 7 j = 3 → v = 0) ∧ (¬ s 10 7 j = 3 → ∃ s1 a, Fr Pct s s1 ∧ cp_d nb ns s1 a ∧ v = sp_ai j 1 (-1) a 6 0)) → K (.inl (some (ew_i v))) (ew_hp s' m)) : ew_Call (d + 6) 96 [ew_o 11 0, ew_i z, ew_i n, ew_i x, ew_i w] (ew_hp s1 m) K := by
  subst hz; subst hn; subst hx; subst hw
  have h5 := h.1
  have ha : op_args 6 1 (-1) := ⟨⟨by decide, by decide⟩, ⟨by decide, by decide⟩, by decide, by decide⟩
  have ha2 : ((1 : Int32) ≤ 6 ∧ (6 : Int32) ≤ 24) ∧ ((0 : Int32) ≤ 1 ∧ (1 : Int32) ≤ 9) ∧ (-1 : Int32) ≤ -1 ∧ (-1 : Int32) ≤ 3 := ha
  refine xp_arriveIn (h.pt F) hT _ _ _ _ (fun s' v F' q => ?_)
  have F2 : Fr Pct s s' := F.tr (F'.mono (fun _ _ _ w => Or.inr w))
  unfold vo_arr
  rw [pt9 F, h.2.1.2.1, iN_t hj (by omega), cond_true, if_pos ha2, ei_nat (by omega), pt10 F (by omega)]
  by_cases e : s 10 7 j = 3
  · rw [if_pos e]
    exact k s' 0 F2 ⟨fun _ => rfl, fun z => absurd e z⟩
  · rw [if_neg e]
    refine k s' v F2 ⟨fun z => absurd z e, fun _ => ?_⟩
    obtain ⟨a, ca, e2⟩ := q ⟨j, hj, rfl⟩ ha (by rw [ei_nat (by omega), pt10 F (by omega)]; exact e)
    exact ⟨s1, a, F, ca, by rw [e2, ei_nat (by omega)]; rfl⟩
theorem xq_if (h : Iv 0 nb ns np T s) (F : Fr Pct s s1) {p : Nat} (hp : p < np) {z x y : Int32} (hz : z = ei p) (hx : x = y) (h0 : 0 ≤ y) (k : K (.inl (some (ew_i (sp_if p y s)))) (ew_hp s1 m)) : ew_Call (d + 2) 90 [ew_o 11 0, ew_i z, ew_i x] (ew_hp s1 m) K := by
  subst hx; subst hz
  have h5 := h.1
  refine xp_inForce (h.pt F) _ _ ?_
  unfold vo_inForce
  rw [pt7 F, h.2.1.2.2, iN_t hp (by omega), cond_true, if_pos h0, ei_nat (by omega), sp_if_pt F]
  exact k
theorem xl_db (h : Iv 0 nb ns np T s) (F : Fr Pct s s1) {b : Nat} (hb : b < nb) {z : Int32} (hz : z = ei b) (v0 : Int64) (k : ∀ s' z', z' = ei (b + 1) → Fr Pct s s' → ew_W (ew_Call (d + 6)) 97 K (78, [some (ew_o 11 0), some (ew_j (sp_df (fun w => sp_bv b (ei b) (ei w) s) v0 6 * 31 + (sp_hn b s ns).1.toInt64)), none, some (ew_i z'), some (ew_i (ei 6))], [], ew_hp s' m)) : ∀ (r w : Nat) (y : Int32) (v : Int64), y = ei w → w + r = 6 → v = sp_df (fun w => sp_bv b (ei b) (ei w) s) v0 w →
    ew_W (ew_Call (d + 6)) 97 K (92, [some (ew_o 11 0), some (ew_j v), none, some (ew_i z), some (ew_i y)], [], ew_hp s1 m) := by
  intro r
  induction r with
  | zero =>
    intro w y v hy hw hv
    subst hy; subst hv; subst hz
    obtain rfl : w = 6 := by omega
    have e : ei 6 ≤ ei 6 := Int32.le_refl _
    exact ew_go (fun pc => Nat.beq pc 92 || Nat.beq pc 78) 40 ⟨fun _ => xq_help h F hb rfl (fun s' F' => k s' _ (ei_1 _) F'), fun z => absurd e z⟩
  | succ r ih =>
    intro w y v hy hw hv
    subst hy; subst hv
    have e : ¬ ei 6 ≤ ei w := by rw [ei_le (by decide) (by omega)]; omega
    exact ew_go (fun pc => Nat.beq pc 92) 40 ⟨fun z => absurd z e, fun _ => xq_bv h F hb (by omega) hz rfl (ih (w + 1) _ _ (ei_1 _) (by omega) rfl)⟩
theorem xl_ds (h : Iv 0 nb ns np T s) (hT : T ≤ 90000000) (F : Fr Pct s s1) {j : Nat} (hj : j < ns) {z : Int32} (hz : z = ei j) (v0 : Int64) (k : ∀ s' z' v, z' = ei (j + 1) → Fr Pct s s' → ((s 10 7 j = 3 → v = 0) ∧ (¬ s 10 7 j = 3 → ∃ s1 a, Fr Pct s s1 ∧ cp_d nb ns s1 a ∧ v = sp_ai j 1 (-1) a 6 0)) → ew_W (ew_Call (d + 6)) 97 K (141, [some (ew_o 11 0), some (ew_j (((sp_df (fun w => sp_sv j (ei w) s) v0 15 * 31 + (sp_way j (s 6 4 (s 10 6 j).toNatClampNeg).toNatClampNeg s).toInt64) * 31 + (sp_tb j s).toInt64) * 31 + v.toInt64)), none, some (ew_i z'), some (ew_i (ei 15))], [], ew_hp s' m)) : ∀ (r w : Nat) (y : Int32) (v : Int64), y = ei w → w + r = 15 → v = sp_df (fun w => sp_sv j (ei w) s) v0 w →
    ew_W (ew_Call (d + 6)) 97 K (155, [some (ew_o 11 0), some (ew_j v), none, some (ew_i z), some (ew_i y)], [], ew_hp s1 m) := by
  have h5 := h.1
  obtain ⟨p, hp, e6⟩ := (h.2.2.2.2.1 j hj).2.2.1
  have e6 : s 10 6 j = ei p := e6
  obtain ⟨t, ht, e4⟩ := (h.2.2.2.2.2.1 p hp).1
  have e4 : s 6 4 p = ei t := e4
  rw [e6, ei_nat (by omega), e4, ei_nat (by omega)] at k
  have hns : s1 9 4 0 = ei ns := (pt9 F).trans h.2.1.2.1
  have e7 : s1 10 6 j = ei p := (pt10 F (by omega)).trans e6
  have e5 : s1 6 4 p = ei t := (pt6 F).trans e4
  intro r
  induction r with
  | zero =>
    intro w y v hy hw hv
    subst hy; subst hv; subst hz
    obtain rfl : w = 15 := by omega
    have e : ei 15 ≤ ei 15 := Int32.le_refl _
    exact ew_go (fun pc => Nat.beq pc 155 || Nat.beq pc 141) 80 ⟨fun _ => xc_shipAt 0 j ns hns (by omega) hj (xc_portCellOf (h.pt F) hp e7 (xq_way h F hj ht rfl e5 (fun s2 F2 => xq_tb h F2 hj rfl (fun s3 F3 => xq_arr h hT F3 hj rfl rfl rfl rfl (fun s4 v F4 q => k s4 _ v (ei_1 _) F4 q))))), fun z => absurd e z⟩
  | succ r ih =>
    intro w y v hy hw hv
    subst hy; subst hv
    have e : ¬ ei 15 ≤ ei w := by rw [ei_le (by decide) (by omega)]; omega
    exact ew_go (fun pc => Nat.beq pc 155) 40 ⟨fun z => absurd z e, fun _ => xq_sv h F hj (by omega) hz rfl (ih (w + 1) _ _ (ei_1 _) (by omega) rfl)⟩
end
