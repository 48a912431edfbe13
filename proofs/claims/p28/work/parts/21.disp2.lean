/-! Any step: what is told of the tables carries a state to the next. -/
section EW
variable {p : Program} {l : Launch} {e : Env} {R : Room} {s : State} {m : MethodId} {args : Array Value} {below : List Frame} {meth : Method} {c0 : Code} {Q : State → Prop}
variable {G : va_G} {TY : Nat → ClassId} {sz : Nat} {H0 : Heap} {NW : List Cond} {Wd : State → Prop} {d y : Nat} {hS hE : ew_H} {aS : Nat → Nat → Nat}
variable {pc nx tg : Nat} {cv : Int32} {ls : List (Option ew_V)} {st : List ew_V} {h : ew_H} {i : Instr} {n : Nat} {r : ew_R}
theorem ed_cond {b : Bool} {α : Type} {x y : Option α} {P : Option α → Prop} (hn : P y → False) (h : P (bif b then x else y)) : b = true ∧ P x := by
  cases b with
  | true => exact ⟨rfl, h⟩
  | false => exact (hn h).elim
/-- what a step gives, with P of the states behind it -/
abbrev ew_U (P : ew_C → Prop) (K : Nat → List ew_V → List ew_V → Nat → Prop) (E : Prop → ew_R → ew_H → Prop) (n : ew_N) : Prop := match n with
  | none => False
  | some (.inl c') => P c'
  | some (.inr (.inl (q, a, b))) => (q → P a) ∧ (¬ q → P b)
  | some (.inr (.inr (.inl (q, a)))) => q ∧ P a
  | some (.inr (.inr (.inr (.inl (z, as, rest, nx))))) => K z as rest nx
  | some (.inr (.inr (.inr (.inr (.inl (q, r1, h1)))))) => E q r1 h1
  | some (.inr (.inr (.inr (.inr (.inr (x, v, l', dd)))))) => ew_sw P x v l' dd
theorem eu_ld {t k : Nat} {P : ew_C → Prop} {K : Nat → List ew_V → List ew_V → Nat → Prop} {E : Prop → ew_R → ew_H → Prop} (hh : ew_U P K E (ew_ld t ls st h nx k)) : ∃ v, ls[k]? = some (some v) ∧ Nat.beq (ew_tag v) t = true ∧ P (nx, ls, v :: st, h) := by
  unfold ew_ld at hh
  split at hh
  · rename_i v hv
    cases ht : Nat.beq (ew_tag v) t with
    | false => rw [ht] at hh; exact hh.elim
    | true => rw [ht] at hh; exact ⟨v, hv, ht, hh⟩
  · exact hh.elim
theorem eu_sto {t k : Nat} {P : ew_C → Prop} {K : Nat → List ew_V → List ew_V → Nat → Prop} {E : Prop → ew_R → ew_H → Prop} (hh : ew_U P K E (ew_sto t ls st h nx k)) : ∃ v st', st = v :: st' ∧ Nat.beq (ew_tag v) t = true ∧
    (((t = 0 ∨ t = 3) ∧ k < ls.length ∧ P (nx, ew_st1 ls k v, st', h)) ∨ (¬ (t = 0 ∨ t = 3) ∧ k + 1 < ls.length ∧ P (nx, ew_st2 ls k v, st', h))) := by
  cases hc : ew_sto t ls st h nx k with
  | none => rw [hc] at hh; exact hh.elim
  | some q =>
    obtain ⟨v, st', e1, e2, e3⟩ := ed_sto hc
    refine ⟨v, st', e1, e2, ?_⟩
    rw [hc] at hh
    rcases e3 with ⟨a1, a2, rfl⟩ | ⟨a1, a2, rfl⟩
    · exact Or.inl ⟨a1, a2, hh⟩
    · exact Or.inr ⟨a1, a2, hh⟩
theorem eu_bin {f : Int32 → Int32 → Int32} {P : ew_C → Prop} {K : Nat → List ew_V → List ew_V → Nat → Prop} {E : Prop → ew_R → ew_H → Prop} (hh : ew_U P K E (ew_bin f ls st h nx)) : ∃ x z st', st = ew_i z :: ew_i x :: st' ∧ P (nx, ls, ew_i (f x z) :: st', h) := by
  unfold ew_bin at hh
  split at hh
  · exact ⟨_, _, _, rfl, hh⟩
  · exact hh.elim
theorem eu_binl {f : Int64 → Int64 → Int64} {P : ew_C → Prop} {K : Nat → List ew_V → List ew_V → Nat → Prop} {E : Prop → ew_R → ew_H → Prop} (hh : ew_U P K E (ew_binl f ls st h nx)) : ∃ x z st', st = ew_j z :: ew_j x :: st' ∧ P (nx, ls, ew_j (f x z) :: st', h) := by
  unfold ew_binl at hh
  split at hh
  · exact ⟨_, _, _, rfl, hh⟩
  · exact hh.elim
theorem eu_ald {t : Nat} {P : ew_C → Prop} {K : Nat → List ew_V → List ew_V → Nat → Prop} {E : Prop → ew_R → ew_H → Prop} (hh : ew_U P K E (ew_ald t ls st h nx)) : ∃ j k i st', st = ew_i j :: ew_o k i :: st' ∧ (t = 20 → 20 ≤ ew_ct k ∧ ew_ct k < 25) ∧ (t ≠ 20 → ew_ct k = t) ∧ ew_ix j (ew_len h k i) ∧ P (nx, ls, h.1 k i j.toNatClampNeg :: st', h) := by
  unfold ew_ald at hh
  split at hh
  · rename_i j k i st'
    cases hb : (bif Nat.beq t 20 then Nat.ble 20 (ew_ct k) && Nat.blt (ew_ct k) 25 else Nat.beq (ew_ct k) t) with
    | false => rw [hb] at hh; exact hh.elim
    | true =>
      rw [hb] at hh
      refine ⟨j, k, i, st', rfl, fun e => ?_, fun e => ?_, hh.1, hh.2⟩
      · subst e
        rw [ew_beqr, cond_true, Bool.and_eq_true] at hb
        exact ⟨Nat.le_of_ble_eq_true hb.1, Nat.le_of_ble_eq_true hb.2⟩
      · rw [ew_bne e, cond_false] at hb
        exact ew_beq hb
  · exact hh.elim
theorem eu_ast {t : Nat} {P : ew_C → Prop} {K : Nat → List ew_V → List ew_V → Nat → Prop} {E : Prop → ew_R → ew_H → Prop} (hh : ew_U P K E (ew_ast t ls st h nx)) : ∃ v j k i st', st = v :: ew_i j :: ew_o k i :: st' ∧ ew_cst k = false ∧ (t = 20 → 20 ≤ ew_ct k ∧ ew_ct k < 25 ∧ ew_asg k v = true) ∧ (t ≠ 20 → ew_ct k = t) ∧ ew_ix j (ew_len h k i) ∧
    ew_fit (bif Nat.beq t 17 then 0 else bif Nat.beq t 18 then 1 else bif Nat.beq t 19 then 3 else 2) v ∧ P (nx, ls, st', ew_put h k i j.toNatClampNeg v) := by
  unfold ew_ast at hh
  split at hh
  · rename_i v j k i st'
    cases hb : (!ew_cst k && (bif Nat.beq t 20 then Nat.ble 20 (ew_ct k) && Nat.blt (ew_ct k) 25 && ew_asg k v else Nat.beq (ew_ct k) t)) with
    | false => rw [hb] at hh; exact hh.elim
    | true =>
      rw [hb] at hh
      rw [Bool.and_eq_true, Bool.not_eq_true'] at hb
      refine ⟨v, j, k, i, st', rfl, hb.1, fun e => ?_, fun e => ?_, hh.1.1, hh.1.2, hh.2⟩
      · subst e
        have h2 := hb.2
        rw [ew_beqr, cond_true, Bool.and_eq_true, Bool.and_eq_true] at h2
        exact ⟨Nat.le_of_ble_eq_true h2.1.1, Nat.le_of_ble_eq_true h2.1.2, h2.2⟩
      · have h2 := hb.2
        rw [ew_bne e, cond_false] at h2
        exact ew_beq h2
  · exact hh.elim
theorem eu_newa {k : Nat} {z : ew_V} {P : ew_C → Prop} {K : Nat → List ew_V → List ew_V → Nat → Prop} {E : Prop → ew_R → ew_H → Prop} (hh : ew_U P K E (ew_newa k z ls st h nx)) : ∃ n st', st = ew_i n :: st' ∧ ¬ n < 0 ∧ n.toNatClampNeg ≤ 1000000 ∧ ew_sl k n.toNatClampNeg = n.toNatClampNeg ∧ P (nx, ls, ew_o k (h.2.2.2.1 k) :: st', ew_mk h k (h.2.2.2.1 k) n.toNatClampNeg (fun _ => z)) := by
  unfold ew_newa at hh
  split at hh
  · exact ⟨_, _, rfl, hh.1.1, hh.1.2.1, hh.1.2.2, hh.2⟩
  · exact hh.elim
theorem ed_nc {k : Nat} (h : ew_ctr k = true) : ew_cst k = false ∧ ¬ k = 31 := by
  unfold ew_ctr at h
  simp only [Bool.and_eq_true, Bool.not_eq_true'] at h
  exact ⟨h.1.2, fun e => by subst e; exact absurd h.2 (by decide)⟩
end EW
