/-! The digest of the class: the sea and the cells. -/
def sp_df (f : Nat → Int32) (d : Int64) : Nat → Int64
  | 0 => d
  | n + 1 => sp_df f d n * 31 + (f n).toInt64
def sp_d2 (s : ew_S) (d : Int64) : Nat → Int64
  | 0 => d
  | c + 1 => sp_df (fun w => sp_cv c (ei c) (ei w) s) (sp_d2 s d c) 6
section
variable {d : Nat} {s : ew_S} {m : ew_H} {K : ew_R → ew_H → Prop} {nb ns np T : Nat}
theorem xq_many (h : Iv 0 nb ns np T s) {w : Nat} (hw : w < 11) {x : Int32} (hx : x = ei w) (k : K (.inl (some (ew_i (sp_mv (ei w) s)))) (ew_hp s m)) : ew_Call (d + 3) 91 [ew_o 11 0, ew_i x] (ew_hp s m) K := by
  subst hx
  refine xp_many h _ ?_
  unfold vo_many
  rw [if_pos ⟨(ei_le (a := 0) (b := w) (by decide) (by omega)).mpr (Nat.zero_le _), (ei_le (b := 10) (by omega) (by decide)).mpr (by omega)⟩]
  exact k
theorem xq_ofCell (h : Iv 0 nb ns np T s) {c w : Nat} (hc : c < 15) (hw : w < 6) {z x : Int32} (hz : z = ei c) (hx : x = ei w) (k : K (.inl (some (ew_i (sp_cv c (ei c) (ei w) s)))) (ew_hp s m)) : ew_Call (d + 3) 87 [ew_o 11 0, ew_i z, ew_i x] (ew_hp s m) K := by
  subst hx; subst hz
  refine xp_ofCell h _ _ ?_
  unfold vo_ofCell
  rw [show iN (ei c) 15 = true from iN_t (n := 15) hc (by decide), cond_true, if_pos ⟨(ei_le (a := 0) (b := w) (by decide) (by omega)).mpr (Nat.zero_le _), (ei_le (b := 5) (by omega) (by decide)).mpr (by omega)⟩, ei_nat (by omega)]
  exact k
theorem xl_dg1 (h : Iv 0 nb ns np T s) (k : ew_W (ew_Call (d + 6)) 97 K (33, [some (ew_o 11 0), some (ew_j (sp_df (fun w => sp_mv (ei w) s) 4802 11)), none, some (ew_i (ei 0)), none], [], ew_hp s m)) : ∀ (r w : Nat) (y : Int32) (v : Int64), y = ei w → w + r = 11 → v = sp_df (fun w => sp_mv (ei w) s) 4802 w →
    ew_W (ew_Call (d + 6)) 97 K (6, [some (ew_o 11 0), some (ew_j v), none, some (ew_i y), none], [], ew_hp s m) := by
  intro r
  induction r with
  | zero =>
    intro w y v hy hw hv
    subst hy; subst hv
    obtain rfl : w = 11 := by omega
    have e : ei 11 ≤ ei 11 := Int32.le_refl _
    exact ew_go (fun pc => Nat.beq pc 6 || Nat.beq pc 33) 40 ⟨fun _ => k, fun z => absurd e z⟩
  | succ r ih =>
    intro w y v hy hw hv
    subst hy; subst hv
    have e : ¬ ei 11 ≤ ei w := by rw [ei_le (by decide) (by omega)]; omega
    exact ew_go (fun pc => Nat.beq pc 6) 40 ⟨fun z => absurd z e, fun _ => xq_many h (by omega) rfl (ih (w + 1) _ _ (ei_1 _) (by omega) rfl)⟩
theorem xl_dg2 (h : Iv 0 nb ns np T s) {c : Nat} (hc : c < 15) {z : Int32} (hz : z = ei c) (v0 : Int64) (k : ew_W (ew_Call (d + 6)) 97 K (33, [some (ew_o 11 0), some (ew_j (sp_df (fun w => sp_cv c (ei c) (ei w) s) v0 6)), none, some (ew_i (ei (c + 1))), some (ew_i (ei 6))], [], ew_hp s m)) : ∀ (r w : Nat) (y : Int32) (v : Int64), y = ei w → w + r = 6 → v = sp_df (fun w => sp_cv c (ei c) (ei w) s) v0 w →
    ew_W (ew_Call (d + 6)) 97 K (42, [some (ew_o 11 0), some (ew_j v), none, some (ew_i z), some (ew_i y)], [], ew_hp s m) := by
  intro r
  induction r with
  | zero =>
    intro w y v hy hw hv
    subst hy; subst hv; subst hz
    obtain rfl : w = 6 := by omega
    have e : ei 6 ≤ ei 6 := Int32.le_refl _
    rw [← ei_1] at k
    exact ew_go (fun pc => Nat.beq pc 42 || Nat.beq pc 33) 40 ⟨fun _ => k, fun z => absurd e z⟩
  | succ r ih =>
    intro w y v hy hw hv
    subst hy; subst hv
    have e : ¬ ei 6 ≤ ei w := by rw [ei_le (by decide) (by omega)]; omega
    exact ew_go (fun pc => Nat.beq pc 42) 40 ⟨fun z => absurd z e, fun _ => xq_ofCell h hc (by omega) hz rfl (ih (w + 1) _ _ (ei_1 _) (by omega) rfl)⟩
theorem xl_dg3 (h : Iv 0 nb ns np T s) (v0 : Int64) (k : ew_W (ew_Call (d + 6)) 97 K (78, [some (ew_o 11 0), some (ew_j (sp_d2 s v0 15)), none, some (ew_i (ei 0)), some (ew_i (ei 6))], [], ew_hp s m)) : ∀ (r c : Nat) (y : Int32) (v : Int64) (u : Option ew_V), y = ei c → c + r = 15 → (c = 15 → u = some (ew_i (ei 6))) → v = sp_d2 s v0 c →
    ew_W (ew_Call (d + 6)) 97 K (33, [some (ew_o 11 0), some (ew_j v), none, some (ew_i y), u], [], ew_hp s m) := by
  intro r
  induction r with
  | zero =>
    intro c y v u hy hc hu hv
    subst hy; subst hv
    obtain rfl : c = 15 := by omega
    obtain rfl := hu rfl
    have e : ei 15 ≤ ei 15 := Int32.le_refl _
    exact ew_go (fun pc => Nat.beq pc 33 || Nat.beq pc 78) 40 ⟨fun _ => k, fun z => absurd e z⟩
  | succ r ih =>
    intro c y v u hy hc hu hv
    subst hy; subst hv
    have e : ¬ ei 15 ≤ ei c := by rw [ei_le (by decide) (by omega)]; omega
    exact ew_go (fun pc => Nat.beq pc 33 || Nat.beq pc 42) 40 ⟨fun z => absurd z e, fun _ => xl_dg2 h (by omega) rfl _ (ih (c + 1) _ _ _ rfl (by omega) (fun _ => rfl) rfl) 6 0 _ _ rfl rfl rfl⟩
end
