/-! The law's isPassed: the arrays of what was before. -/
theorem em_ln (m : ew_H) (k i N : Nat) (z : Nat → ew_V) : (ew_mk m k i N z).2.1 k i = N := by
  unfold ew_mk
  dsimp only
  rw [ew_beqr, cond_true, ew_beqr, cond_true]
theorem em_ll (m : ew_H) {k i k' i' : Nat} (N : Nat) (z : Nat → ew_V) (h : ¬ (k' = k ∧ i' = i)) : (ew_mk m k i N z).2.1 k' i' = m.2.1 k' i' := by
  unfold ew_mk
  dsimp only
  cases hk : Nat.beq k' k with
  | false => rfl
  | true =>
    cases hi : Nat.beq i' i with
    | false => rfl
    | true => exact absurd ⟨ew_beq hk, ew_beq hi⟩ h
theorem eq_an {C : Nat → List ew_V → ew_H → (ew_R → ew_H → Prop) → Prop} (hC : ew_M C) {K : ew_R → ew_H → Prop} {y pc nx tg k c x : Nat} {cv n : Int32} {ls : List (Option ew_V)} {st : List ew_V} {h : ew_H} (hp : ew_pg y pc = some (.anewarray x, nx, tg, cv)) (hq : et_nw (et_cls y) x = some c) (hk : et_si y pc = k) (hk2 : ((Nat.ble 20 (ew_ct k) && Nat.blt (ew_ct k) 25 && Nat.beq c (ew_cl (ew_ct k))) && ew_ctr k) = true)
    (hn : ¬ n < 0 ∧ n.toNatClampNeg ≤ 1000000 ∧ ew_sl k n.toNatClampNeg = n.toNatClampNeg) (g : ew_W C y K (nx, ls, ew_o k (h.2.2.2.1 k) :: st, ew_mk h k (h.2.2.2.1 k) n.toNatClampNeg (fun _ => ew_0))) : ew_W C y K (pc, ls, ew_i n :: st, h) := by
  refine ew_W.fold hC ?_
  unfold ew_G
  dsimp only
  rw [hp]
  dsimp only
  have e : ew_st y (et_cls y) (.anewarray x) pc nx tg cv ls (ew_i n :: st) h = ewN (¬ n < 0 ∧ n.toNatClampNeg ≤ 1000000 ∧ ew_sl k n.toNatClampNeg = n.toNatClampNeg) (nx, ls, ew_o k (h.2.2.2.1 k) :: st, ew_mk h k (h.2.2.2.1 k) n.toNatClampNeg (fun _ => ew_0)) := by
    simp only [ew_st]
    rw [hq]
    dsimp only
    rw [hk, hk2]
    rfl
  rw [e]
  exact ⟨hn, g⟩
/-- two numbers in a new array, six in a new array -/
def ar2 (k i : Nat) (v0 v1 : Int32) (s : ew_S) : ew_S := ew_u (ew_u (ef_z s k i) k 0 i v0) k 1 i v1
def ar6 (i : Nat) (v0 v1 v2 v3 v4 v5 : Int32) (s : ew_S) : ew_S := ew_u (ew_u (ew_u (ew_u (ew_u (ew_u (ef_z s 721 i) 721 0 i v0) 721 1 i v1) 721 2 i v2) 721 3 i v3) 721 4 i v4) 721 5 i v5
theorem Fr.z {P : Nat → Nat → Nat → Prop} {s s' : ew_S} (a : Fr P s s') {k i : Nat} (h : ∀ p, P k p i) : Fr P s (ef_z s' k i) := fun k' p' i' n => (ef_z_ne s' p' (fun q => n (by obtain ⟨rfl, rfl⟩ := q; exact h p'))).trans (a k' p' i' n)
theorem ar2_F (k i : Nat) (v0 v1 : Int32) (s : ew_S) : Fr (fun k' _ i' => k' = k ∧ i' = i) s (ar2 k i v0 v1 s) := (((Fr.rf _ s).z (fun _ => ⟨rfl, rfl⟩)).u _ ⟨rfl, rfl⟩).u _ ⟨rfl, rfl⟩
theorem ar2_0 (k i : Nat) (v0 v1 : Int32) (s : ew_S) : ar2 k i v0 v1 s k 0 i = v0 := (ew_u_ne _ _ (by omega)).trans (ew_u_self _ _ _ _ _)
theorem ar2_1 (k i : Nat) (v0 v1 : Int32) (s : ew_S) : ar2 k i v0 v1 s k 1 i = v1 := ew_u_self _ _ _ _ _
theorem ar6_F (i : Nat) (v0 v1 v2 v3 v4 v5 : Int32) (s : ew_S) : Fr (fun k' _ i' => k' = 721 ∧ i' = i) s (ar6 i v0 v1 v2 v3 v4 v5 s) := (((((((Fr.rf _ s).z (fun _ => ⟨rfl, rfl⟩)).u _ ⟨rfl, rfl⟩).u _ ⟨rfl, rfl⟩).u _ ⟨rfl, rfl⟩).u _ ⟨rfl, rfl⟩).u _ ⟨rfl, rfl⟩).u _ ⟨rfl, rfl⟩
theorem ar6_at (i : Nat) (v0 v1 v2 v3 v4 v5 : Int32) (s : ew_S) : ar6 i v0 v1 v2 v3 v4 v5 s 721 0 i = v0 ∧ ar6 i v0 v1 v2 v3 v4 v5 s 721 1 i = v1 ∧ ar6 i v0 v1 v2 v3 v4 v5 s 721 2 i = v2 ∧ ar6 i v0 v1 v2 v3 v4 v5 s 721 3 i = v3 ∧ ar6 i v0 v1 v2 v3 v4 v5 s 721 4 i = v4 ∧ ar6 i v0 v1 v2 v3 v4 v5 s 721 5 i = v5 := by
  unfold ar6
  refine ⟨?_, ?_, ?_, ?_, ?_, ew_u_self _ _ _ _ _⟩
  · rw [ew_u_ne _ _ (by omega), ew_u_ne _ _ (by omega), ew_u_ne _ _ (by omega), ew_u_ne _ _ (by omega), ew_u_ne _ _ (by omega), ew_u_self]
  · rw [ew_u_ne _ _ (by omega), ew_u_ne _ _ (by omega), ew_u_ne _ _ (by omega), ew_u_ne _ _ (by omega), ew_u_self]
  · rw [ew_u_ne _ _ (by omega), ew_u_ne _ _ (by omega), ew_u_ne _ _ (by omega), ew_u_self]
  · rw [ew_u_ne _ _ (by omega), ew_u_ne _ _ (by omega), ew_u_self]
  · rw [ew_u_ne _ _ (by omega), ew_u_self]
section
variable {d : Nat} {s : ew_S} {m : ew_H} {K : ew_R → ew_H → Prop} {np T : Nat} {x w : Int32}
theorem xl_pa0 (k : ew_W (ew_Call (d + 6)) 224 K (5, [some (ew_o 11 0), some (ew_i x), some (ew_i w), some (ew_o 244 (m.2.2.2.1 244)), none, none, none, none, none, none, none, none, none, none, none], [], ew_hp s (ew_mk m 244 (m.2.2.2.1 244) 5 (fun _ => ew_0)))) :
    ew_W (ew_Call (d + 6)) 224 K (0, [some (ew_o 11 0), some (ew_i x), some (ew_i w), none, none, none, none, none, none, none, none, none, none, none, none], [], ew_hp s m) := by
  refine ew_go (fun pc => Nat.beq pc 1) 5 (eq_an (k := 244) (ew_Call_mono _) rfl rfl rfl (by decide) ⟨by decide, by decide, by decide⟩ ?_)
  refine eq_m (fun _ => rfl) ?_
  exact ew_go (fun pc => Nat.beq pc 5) 5 k
theorem xl_pa625 (I : Iv 0 2 5 np T s) {W : Nat} (k : ew_W (ew_Call (d + 6)) 224 K (28, [some (ew_o 11 0), some (ew_i x), some (ew_i w), some (ew_o 244 W), some (ew_o 625 (m.2.2.2.1 625)), none, none, none, none, none, none, none, none, none, none], [], ew_hp (ar2 625 (m.2.2.2.1 625) (s 3 1 0) (s 3 1 1) s) (ew_mk m 625 (m.2.2.2.1 625) 2 (fun _ => ew_i 0)))) :
    ew_W (ew_Call (d + 6)) 224 K (5, [some (ew_o 11 0), some (ew_i x), some (ew_i w), some (ew_o 244 W), none, none, none, none, none, none, none, none, none, none, none], [], ew_hp s m) := by
  have F0 : Fr Pz s (ef_z s 625 (m.2.2.2.1 625)) := (Fr.rf _ _).z (fun p => Or.inr (by unfold Pla; omega))
  have F1 : Fr Pz s (ew_u (ef_z s 625 (m.2.2.2.1 625)) 625 0 (m.2.2.2.1 625) (s 3 1 0)) := F0.u _ (Or.inr (by unfold Pla; omega))
  have hl : (ew_mk m 625 (m.2.2.2.1 625) 2 (fun _ => ew_i 0)).2.1 625 (m.2.2.2.1 625) = 2 := em_ln _ _ _ _ _
  have x0 : ew_ix (ei 0) ((ew_mk m 625 (m.2.2.2.1 625) 2 (fun _ => ew_i 0)).2.1 625 (m.2.2.2.1 625)) := ei_ix (by rw [hl]; omega) (by rw [hl]; omega)
  have x1 : ew_ix (ei 1) ((ew_mk m 625 (m.2.2.2.1 625) 2 (fun _ => ew_i 0)).2.1 625 (m.2.2.2.1 625)) := ei_ix (by rw [hl]; omega) (by rw [hl]; omega)
  refine ew_go (fun pc => Nat.beq pc 6) 5 (eq_na (k := 625) (ew_Call_mono _) rfl rfl rfl ⟨by decide, by decide, by decide⟩ ?_)
  refine eq_n (fun _ => rfl) ?_
  refine ew_go (fun pc => Nat.beq pc 17) 20 (xq_bv (I.pz F0) (Fr.rf _ _) (b := 0) (by decide) (w := 0) (by decide) rfl rfl ⟨⟨x0, trivial⟩, ?_⟩)
  refine eq_1 (p := 0) rfl ?_
  refine ew_go (fun pc => Nat.beq pc 26) 20 (xq_bv (I.pz F1) (Fr.rf _ _) (b := 1) (by decide) (w := 0) (by decide) rfl rfl ⟨⟨x1, trivial⟩, ?_⟩)
  refine eq_1 (p := 1) rfl ?_
  exact ew_go (fun pc => Nat.beq pc 28) 5 k
theorem xl_pa657 (I : Iv 0 2 5 np T s) {W i1 : Nat} (k : ew_W (ew_Call (d + 6)) 224 K (51, [some (ew_o 11 0), some (ew_i x), some (ew_i w), some (ew_o 244 W), some (ew_o 625 i1), some (ew_o 657 (m.2.2.2.1 657)), none, none, none, none, none, none, none, none, none], [], ew_hp (ar2 657 (m.2.2.2.1 657) (s 3 3 0) (s 3 3 1) s) (ew_mk m 657 (m.2.2.2.1 657) 2 (fun _ => ew_i 0)))) :
    ew_W (ew_Call (d + 6)) 224 K (28, [some (ew_o 11 0), some (ew_i x), some (ew_i w), some (ew_o 244 W), some (ew_o 625 i1), none, none, none, none, none, none, none, none, none, none], [], ew_hp s m) := by
  have F0 : Fr Pz s (ef_z s 657 (m.2.2.2.1 657)) := (Fr.rf _ _).z (fun p => Or.inr (by unfold Pla; omega))
  have F1 : Fr Pz s (ew_u (ef_z s 657 (m.2.2.2.1 657)) 657 0 (m.2.2.2.1 657) (s 3 3 0)) := F0.u _ (Or.inr (by unfold Pla; omega))
  have hl : (ew_mk m 657 (m.2.2.2.1 657) 2 (fun _ => ew_i 0)).2.1 657 (m.2.2.2.1 657) = 2 := em_ln _ _ _ _ _
  have x0 : ew_ix (ei 0) ((ew_mk m 657 (m.2.2.2.1 657) 2 (fun _ => ew_i 0)).2.1 657 (m.2.2.2.1 657)) := ei_ix (by rw [hl]; omega) (by rw [hl]; omega)
  have x1 : ew_ix (ei 1) ((ew_mk m 657 (m.2.2.2.1 657) 2 (fun _ => ew_i 0)).2.1 657 (m.2.2.2.1 657)) := ei_ix (by rw [hl]; omega) (by rw [hl]; omega)
  refine ew_go (fun pc => Nat.beq pc 29) 5 (eq_na (k := 657) (ew_Call_mono _) rfl rfl rfl ⟨by decide, by decide, by decide⟩ ?_)
  refine eq_n (fun _ => rfl) ?_
  refine ew_go (fun pc => Nat.beq pc 40) 20 (xq_bv (I.pz F0) (Fr.rf _ _) (b := 0) (by decide) (w := 5) (by decide) rfl rfl ⟨⟨x0, trivial⟩, ?_⟩)
  refine eq_1 (p := 0) rfl ?_
  refine ew_go (fun pc => Nat.beq pc 49) 20 (xq_bv (I.pz F1) (Fr.rf _ _) (b := 1) (by decide) (w := 5) (by decide) rfl rfl ⟨⟨x1, trivial⟩, ?_⟩)
  refine eq_1 (p := 1) rfl ?_
  exact ew_go (fun pc => Nat.beq pc 51) 5 k
theorem xl_pa689 (I : Iv 0 2 5 np T s) {W i1 i2 : Nat} (k : ew_W (ew_Call (d + 6)) 224 K (74, [some (ew_o 11 0), some (ew_i x), some (ew_i w), some (ew_o 244 W), some (ew_o 625 i1), some (ew_o 657 i2), some (ew_o 689 (m.2.2.2.1 689)), none, none, none, none, none, none, none, none], [], ew_hp (ar2 689 (m.2.2.2.1 689) (s 3 2 0) (s 3 2 1) s) (ew_mk m 689 (m.2.2.2.1 689) 2 (fun _ => ew_i 0)))) :
    ew_W (ew_Call (d + 6)) 224 K (51, [some (ew_o 11 0), some (ew_i x), some (ew_i w), some (ew_o 244 W), some (ew_o 625 i1), some (ew_o 657 i2), none, none, none, none, none, none, none, none, none], [], ew_hp s m) := by
  have F0 : Fr Pz s (ef_z s 689 (m.2.2.2.1 689)) := (Fr.rf _ _).z (fun p => Or.inr (by unfold Pla; omega))
  have F1 : Fr Pz s (ew_u (ef_z s 689 (m.2.2.2.1 689)) 689 0 (m.2.2.2.1 689) (s 3 2 0)) := F0.u _ (Or.inr (by unfold Pla; omega))
  have hl : (ew_mk m 689 (m.2.2.2.1 689) 2 (fun _ => ew_i 0)).2.1 689 (m.2.2.2.1 689) = 2 := em_ln _ _ _ _ _
  have x0 : ew_ix (ei 0) ((ew_mk m 689 (m.2.2.2.1 689) 2 (fun _ => ew_i 0)).2.1 689 (m.2.2.2.1 689)) := ei_ix (by rw [hl]; omega) (by rw [hl]; omega)
  have x1 : ew_ix (ei 1) ((ew_mk m 689 (m.2.2.2.1 689) 2 (fun _ => ew_i 0)).2.1 689 (m.2.2.2.1 689)) := ei_ix (by rw [hl]; omega) (by rw [hl]; omega)
  refine ew_go (fun pc => Nat.beq pc 52) 5 (eq_na (k := 689) (ew_Call_mono _) rfl rfl rfl ⟨by decide, by decide, by decide⟩ ?_)
  refine eq_n (fun _ => rfl) ?_
  refine ew_go (fun pc => Nat.beq pc 63) 20 (xq_bv (I.pz F0) (Fr.rf _ _) (b := 0) (by decide) (w := 1) (by decide) rfl rfl ⟨⟨x0, trivial⟩, ?_⟩)
  refine eq_1 (p := 0) rfl ?_
  refine ew_go (fun pc => Nat.beq pc 72) 20 (xq_bv (I.pz F1) (Fr.rf _ _) (b := 1) (by decide) (w := 1) (by decide) rfl rfl ⟨⟨x1, trivial⟩, ?_⟩)
  refine eq_1 (p := 1) rfl ?_
  exact ew_go (fun pc => Nat.beq pc 74) 5 k
end
