/-! Making of objects and arrays, and bounds. -/
theorem eq_na {C : Nat → List ew_V → ew_H → (ew_R → ew_H → Prop) → Prop} (hC : ew_M C) {K : ew_R → ew_H → Prop} {y pc nx tg k : Nat} {cv n : Int32} {ls : List (Option ew_V)} {st : List ew_V} {h : ew_H} (hp : ew_pg y pc = some (.newarray .int, nx, tg, cv)) (hk : ew_kn y (et_si y pc) ls = k) (hk2 : (Nat.beq (ew_ct k) 17 && ew_ctr k) = true)
    (hn : ¬ n < 0 ∧ n.toNatClampNeg ≤ 1000000 ∧ ew_sl k n.toNatClampNeg = n.toNatClampNeg) (g : ew_W C y K (nx, ls, ew_o k (h.2.2.2.1 k) :: st, ew_mk h k (h.2.2.2.1 k) n.toNatClampNeg (fun _ => ew_i 0))) : ew_W C y K (pc, ls, ew_i n :: st, h) := by
  refine ew_W.fold hC ?_
  unfold ew_G
  dsimp only
  rw [hp]
  dsimp only
  have e : ew_st y (et_cls y) (.newarray .int) pc nx tg cv ls (ew_i n :: st) h = ewN (¬ n < 0 ∧ n.toNatClampNeg ≤ 1000000 ∧ ew_sl k n.toNatClampNeg = n.toNatClampNeg) (nx, ls, ew_o k (h.2.2.2.1 k) :: st, ew_mk h k (h.2.2.2.1 k) n.toNatClampNeg (fun _ => ew_i 0)) := by
    simp only [ew_st]
    rw [hk, hk2]
    rfl
  rw [e]
  exact ⟨hn, g⟩
theorem eq_nw {C : Nat → List ew_V → ew_H → (ew_R → ew_H → Prop) → Prop} (hC : ew_M C) {K : ew_R → ew_H → Prop} {y pc nx tg k c n : Nat} {cv : Int32} {ls : List (Option ew_V)} {st : List ew_V} {h : ew_H} (hp : ew_pg y pc = some (.new n, nx, tg, cv)) (hq : et_nw (et_cls y) n = some c) (hc : Nat.blt c 17 = true) (hk : et_si y pc = k) (hk2 : (Nat.beq (ew_ct k) c && ew_ctr k) = true)
    (g : ew_W C y K (nx, ls, ew_o k (h.2.2.2.1 k) :: st, ew_mk h k (h.2.2.2.1 k) (et_N c) (et_dv c))) : ew_W C y K (pc, ls, st, h) := by
  refine ew_W.fold hC ?_
  unfold ew_G
  dsimp only
  rw [hp]
  dsimp only
  have e : ew_st y (et_cls y) (.new n) pc nx tg cv ls st h = ewG (nx, ls, ew_o k (h.2.2.2.1 k) :: st, ew_mk h k (h.2.2.2.1 k) (et_N c) (et_dv c)) := by
    simp only [ew_st]
    rw [hq]
    dsimp only
    rw [hc, hk, hk2]
    rfl
  rw [e]
  exact g
section
variable {q nb ns np T T' : Nat} {s : ew_S}
theorem Iv.leT (h : Iv q nb ns np T s) (hT : T ≤ T') : Iv q nb ns np T' s := by
  obtain ⟨a, b, c, d, e, f, n, t1, t2⟩ := h
  exact ⟨a, b, c, d, e, f, n, Nat.le_trans t1 hT, t2⟩
end
