/-! Any step. -/
section EX
variable {p : Program} {l : Launch} {e : Env} {R : Room} {s : State} {m : MethodId} {args : Array Value} {below : List Frame} {meth : Method} {c0 : Code} {Q : State → Prop}
variable {G : va_G} {TY : Nat → ClassId} {sz : Nat} {H0 : Heap} {NW : List Cond} {Wd : State → Prop} {d y : Nat} {hS hE : ew_H} {aS : Nat → Nat → Nat}
variable {pc nx tg : Nat} {cv : Int32} {ls : List (Option ew_V)} {st : List ew_V} {h : ew_H} {i : Instr} {n : Nat} {r : ew_R}
theorem ew_sw_get {P : ew_C → Prop} {x : Int32} {dd : ew_C} : ∀ (l : List ew_C) (v : Int32), v.toInt + l.length < 2147483648 → ew_sw P x v l dd → (∀ (j : Nat) (c : ew_C), l[j]? = some c → x.toInt = v.toInt + (j : Int) → P c) ∧ ((x.toInt < v.toInt ∨ v.toInt + (l.length : Int) ≤ x.toInt) → P dd)
  | [], v, _, g => ⟨fun j c h => by simp at h, fun _ => g⟩
  | c0 :: l, v, hb, g => by
    have hv1 : l.length ≠ 0 → (v + 1).toInt = v.toInt + 1 := fun hne => by
      rw [Int32.toInt_add]
      have h1 := Int32.minValue_le_toInt v
      have e1 : (1 : Int32).toInt = 1 := rfl
      have e2 : Int32.minValue.toInt = -2147483648 := rfl
      rw [List.length_cons] at hb
      push_cast at hb
      rw [e1, Int.bmod_def]
      rw [e2] at h1
      split <;> omega
    rw [List.length_cons] at hb ⊢
    push_cast at hb ⊢
    by_cases e : x = v
    · refine ⟨fun j c h1 h2 => ?_, fun h1 => ?_⟩
      · cases j with
        | zero => cases h1; exact g.1 e
        | succ j => subst e; push_cast at h2; omega
      · subst e; omega
    · have hne : ¬ x.toInt = v.toInt := fun q => e (Int32.toInt_inj.mp q)
      cases l with
      | nil =>
        refine ⟨fun j c h1 h2 => ?_, fun _ => g.2 e⟩
        cases j with
        | zero => exact absurd (by simpa using h2) hne
        | succ j => simp at h1
      | cons c1 l =>
        have hv := hv1 (by simp)
        obtain ⟨g1, g2⟩ := ew_sw_get (c1 :: l) (v + 1) (by rw [hv]; omega) (g.2 e)
        refine ⟨fun j c h1 h2 => ?_, fun h1 => g2 (by rw [hv]; omega)⟩
        cases j with
        | zero => exact absurd (by simpa using h2) hne
        | succ j => exact g1 j c (by simpa using h1) (by rw [hv]; push_cast at h2; omega)
theorem es_switch {dd lo hi : Int} {os : Array Int} {x : Int32} (hx : p.tables.exec = Jvm.exec) (hb : c0.code = ew_cd y) (hd : decode (ew_cd y) pc = .ok (.tableswitch dd lo hi os, n)) (hj : ew_ioj (.tableswitch dd lo hi os) pc tg = true)
    (g : ew_sw (ew_Q p l e R s m args below meth c0 G TY sz H0 Q y hS hE aS) x (Int32.ofInt lo) (os.toList.map (fun (o : Int) => (((pc : Int) + o).toNat, ls, st, h))) (((pc : Int) + dd).toNat, ls, st, h)) : ew_Q p l e R s m args below meth c0 G TY sz H0 Q y hS hE aS (pc, ls, ew_i x :: st, h) := by
  unfold ew_ioj at hj
  simp only [Bool.and_eq_true, decide_eq_true_eq, List.all_eq_true] at hj
  obtain ⟨⟨⟨⟨j1, j2⟩, j3⟩, j4⟩, j5⟩ := hj
  have hlo : (Int32.ofInt lo).toInt = lo := by
    rw [Int32.toInt_ofInt, Int.bmod_def]
    have : (os.size : Int) ≥ 0 := Int.natCast_nonneg _
    have e9 : ((Int32.size : Nat) : Int) = 4294967296 := rfl
    rw [e9]
    split <;> omega
  obtain ⟨g1, g2⟩ := ew_sw_get _ _ (by rw [hlo, List.length_map, Array.length_toList]; omega) g
  rw [hlo] at g1 g2
  rw [List.length_map, Array.length_toList] at g2
  by_cases h1 : x.toInt < lo
  · exact es_st (fun _ w => es_tail w) (fun a H locs cells slots L _ _ _ kk => lv_tableOut hx hb hd (Or.inl h1) (by omega) kk) (g2 (Or.inl h1))
  by_cases h2 : hi < x.toInt
  · exact es_st (fun _ w => es_tail w) (fun a H locs cells slots L _ _ _ kk => lv_tableOut hx hb hd (Or.inr h2) (by omega) kk) (g2 (Or.inr (by omega)))
  have hlt : (x.toInt - lo).toNat < os.size := by omega
  have ho : os[(x.toInt - lo).toNat]? = some os[(x.toInt - lo).toNat] := Array.getElem?_eq_getElem hlt
  have hmem : os[(x.toInt - lo).toNat] ∈ os.toList := by simp
  have hpos := j2 _ hmem
  refine es_st (fun _ w => es_tail w) (fun a H locs cells slots L _ _ _ kk => lv_tableIn hx hb hd h1 h2 ho (tgt := ((pc : Int) + os[(x.toInt - lo).toNat]).toNat) (by omega) kk) (g1 (x.toInt - lo).toNat _ ?_ (by omega))
  rw [List.getElem?_map, Array.getElem?_toList, ho]
  rfl
end EX
