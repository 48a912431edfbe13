/-! Any step: calls and ends. -/
section FA
variable {p : Program} {l : Launch} {e : Env} {R : Room} {s : State} {m : MethodId} {args : Array Value} {below : List Frame} {meth : Method} {c0 : Code} {Q : State → Prop}
variable {G : va_G} {TY : Nat → ClassId} {sz : Nat} {H0 : Heap} {NW : List Cond} {Wd : State → Prop} {CK : Nat → Nat → Option Nat} {d y : Nat} {hS hE : ew_H} {aS : Nat → Nat → Nat}
variable {pc nx tg : Nat} {cv : Int32} {ls : List (Option ew_V)} {st : List ew_V} {h : ew_H} {i : Instr} {n : Nat} {r : ew_R}
theorem ed_split {st : List ew_V} {a : Nat} {k j : Nat} {rest : List ew_V} (h : st.drop a = ew_o k j :: rest) : st = (st.take a).reverse.reverse ++ ew_o k j :: rest ∧ (st.take a).reverse.length = a := by
  refine ⟨by rw [List.reverse_reverse, ← h, List.take_append_drop], ?_⟩
  rw [List.length_reverse, List.length_take]
  have : a < st.length := by
    by_cases q : a < st.length
    · exact q
    · rw [List.drop_eq_nil_of_le (by omega)] at h
      cases h
  omega
theorem ed_call (X : ew_Cx p l e R s m args below meth c0 NW G TY Wd d y) (hck : ew_ck CK hS aS) (T : ew_Tab NW Wd) (hpg : ew_pg y pc = some (i, nx, tg, cv)) (hRc : hE.2.2.2.2.1 - hS.2.2.2.2.1 ≤ R.cells) (hRs : hE.2.2.2.2.2 - hS.2.2.2.2.2 ≤ R.slots)
    (hi : match i with | .invokestatic _ | .invokevirtual _ | .invokespecial _ | .invokeinterface _ _ => True | _ => False)
    (hM : ∀ (d' z : Nat) (as : List ew_V) (v : Option ew_V) (h' : ew_H), d = d' + 1 → et_wr z = false → ew_Call d z as h (fun r1 h1 => r1 = .inl v ∧ h1 = h') → ew_Mt l G TY sz H0 CK Wd d' z as h v h' ∧ ew_le h h')
    (hXV : ∀ (x z n c k j : Nat) (as rest : List ew_V) (xx : Nat) (h' : ew_H), i = .invokevirtual x → et_md (et_cls y) x = some (z, n, c) → et_if (et_cls y) x = false → et_kd z = 1 → ew_ct k = c → as.length = n → st = as.reverse ++ ew_o k j :: rest → ew_cats rest ≤ 8 → ew_th z = true → ew_Call d z (ew_o k j :: as) h (fun r1 h1 => r1 = .inr xx ∧ h1 = h') →
      (match ew_hd y pc xx with | some t => ew_Q p l e R s m args below meth c0 G TY sz H0 Q y hS hE aS (t.1, ew_un ls t.2, [], h') | none => (.inr xx : ew_R) = r ∧ h' = hE) → ew_Q p l e R s m args below meth c0 G TY sz H0 Q y hS hE aS (pc, ls, st, h))
    (hXS : ∀ (x z n c : Nat) (as rest : List ew_V) (xx : Nat) (h' : ew_H), i = .invokestatic x → et_md (et_cls y) x = some (z, n, c) → z < 900 → et_kd z = 0 → as.length = n → st = as.reverse ++ rest → ew_cats rest ≤ 8 → ew_th z = true → ew_Call d z as h (fun r1 h1 => r1 = .inr xx ∧ h1 = h') →
      (match ew_hd y pc xx with | some t => ew_Q p l e R s m args below meth c0 G TY sz H0 Q y hS hE aS (t.1, ew_un ls t.2, [], h') | none => (.inr xx : ew_R) = r ∧ h' = hE) → ew_Q p l e R s m args below meth c0 G TY sz H0 Q y hS hE aS (pc, ls, st, h))
    (hWS : ∀ (x z n c : Nat) (as rest : List ew_V) (v : Option ew_V) (h' : ew_H), i = .invokestatic x → et_md (et_cls y) x = some (z, n, c) → et_wr z = true → et_kd z = 0 → as.length = n → st = as.reverse ++ rest → ew_cats rest ≤ 8 → ew_Call d z as h (fun r1 h1 => r1 = .inl v ∧ h1 = h') → ew_Q p l e R s m args below meth c0 G TY sz H0 Q y hS hE aS (pc + 3, ls, v.toList ++ rest, h') → ew_Q p l e R s m args below meth c0 G TY sz H0 Q y hS hE aS (pc, ls, st, h))
    (g : ew_UQ p l e R s m args below meth c0 G TY sz H0 Q y hS hE aS pc ls h d r (ew_st y (et_cls y) i pc nx tg cv ls st h)) : ew_Q p l e R s m args below meth c0 G TY sz H0 Q y hS hE aS (pc, ls, st, h) := by
  obtain ⟨n, hd, hnx, hst, hoj, hoc⟩ := ew_okb_spec (T.1 _ _ _ hpg)
  obtain ⟨hx, hb, hml, hown, hts, hW, hwd, hfr, hlo, hini⟩ := id X
  have hsucc : ∀ {z : Nat} {as : List ew_V} {K : ew_R → ew_H → Prop}, ew_Call d z as h K → ∃ d', d = d' + 1 := fun {z as K} g => by
    cases d with
    | zero => exact g.elim
    | succ d' => exact ⟨d', rfl⟩
  have hlast : ∀ cl x z n c, et_md cl x = some (z, n, c) → (et_wr z = true → et_kd z = 0 ∧ 185 ≤ z) ∧ (900 ≤ z → et_kd z = 9) ∧ (et_if cl x = true → z < 900 ∧ et_wr z = false ∧ 185 ≤ z) := T.2.2.2.2.2.2.2.2.2.2.2.2.2.1
  subst hnx
  cases i <;> try exact hi.elim
  case invokestatic x =>
    obtain rfl : n = 3 := ew_beq hst
    cases hv : et_md (et_cls y) x with
    | none => dsimp only [ew_st] at g; rw [hv] at g; exact g.elim
    | some q =>
      obtain ⟨z, a, c⟩ := q
      dsimp only [ew_st] at g
      rw [hv] at g
      obtain ⟨u1, u2, u3, u4, u5⟩ := T.2.2.2.2.2.1 (et_cls y) x a c
      obtain ⟨hma, hab, hcp, hob⟩ : (∀ w ∈ ew_mathW, w ∈ ew_TW) ∧ (∀ w ∈ ew_absW, w ∈ ew_TW) ∧ True ∧ (Cond.instanceMethod objectInit ∈ ew_TW ∧ Cond.code objectInit ⟨#[0xb1]⟩ 1 none ∈ ew_TW) := ⟨T.2.2.2.2.2.2.1, T.2.2.2.2.2.2.2.1, T.2.2.2.2.2.2.2.2.1, T.2.2.2.2.2.2.2.2.2.1⟩
      rcases ed_el g with ⟨h9, g1⟩ | ⟨h9, g1⟩
      · rcases ed_el g1 with ⟨ha, g2⟩ | ⟨-, g2⟩
        · obtain rfl := ew_beq ha
          obtain ⟨hcs, g2⟩ := ed_if g2
          obtain ⟨xx, zz, st', rfl, g3⟩ := eu_bin g2
          exact es_math X hma (Nat.le_of_ble_eq_true hcs) hRc hRs (Or.inl ⟨rfl, u1 hv⟩) hd g3
        rcases ed_el g2 with ⟨ha, g3⟩ | ⟨-, g3⟩
        · obtain rfl := ew_beq ha
          obtain ⟨hcs, g3⟩ := ed_if g3
          obtain ⟨xx, zz, st', rfl, g4⟩ := eu_bin g3
          exact es_math X hma (Nat.le_of_ble_eq_true hcs) hRc hRs (Or.inr ⟨rfl, u2 hv⟩) hd g4
        obtain ⟨ha, g5⟩ := ed_if g3
        obtain rfl := ew_beq ha
        rcases st with _ | ⟨b1 | b1, st⟩ <;> first | exact g5.elim | skip
        cases b1 <;> first | exact g5.elim | skip
        obtain ⟨hcs, g6⟩ := ed_if g5
        exact es_abs X hab (Nat.le_of_ble_eq_true hcs) hRc hRs (u3 hv) hd g6
      · obtain ⟨h5, g5⟩ := ed_if g1
        simp only [Bool.and_eq_true] at h5
        obtain ⟨k1, k2, k3⟩ := h5
        have k1 := ew_beq k1
        have z9 : z < 900 := by
          by_cases q : z < 900
          · exact q
          · rw [Nat.ble_eq_true_of_le (show 900 ≤ z by omega)] at h9; cases h9
        have hlen : (st.take a).reverse.length = a := by
          rw [List.length_reverse, List.length_take]
          have := Nat.le_of_ble_eq_true k3
          omega
        have hsp : st = (st.take a).reverse.reverse ++ st.drop a := by rw [List.reverse_reverse, List.take_append_drop]
        obtain ⟨r0, h0, hc, hk⟩ := ew_Call_get g5
        obtain ⟨d', hdd⟩ := hsucc hc
        rcases r0 with v | xx
        · cases hwr : et_wr z with
          | true => exact hWS x z a c _ _ v h0 rfl hv hwr k1 hlen hsp (Nat.le_of_ble_eq_true k2) hc hk
          | false =>
            obtain ⟨M, hle⟩ := hM d' z _ v h0 hdd hwr hc
            obtain ⟨w1, w2, -⟩ := T.2.2.2.2.1 _ _ _ _ _ hv z9 hwr
            have hif : et_if (et_cls y) x = false := by
              cases hif : et_if (et_cls y) x with
              | false => rfl
              | true =>
                have := ((T.2.2.2.2.1 _ _ _ _ _ hv z9 hwr).2.2 hif).2.1
                rw [k1] at this
                cases this
            have := es_callS (Q := Q) (sz := sz) (H0 := H0) (aS := aS) (ls := ls) X hck hdd w1 k1 (w2 hif).1 hlen M (Nat.le_of_ble_eq_true k2) hle hRc hRs hd hk
            rw [← hsp] at this
            exact this
        · exact hXS x z a c _ _ xx h0 rfl hv z9 k1 hlen hsp (Nat.le_of_ble_eq_true k2) hk.1 hc hk.2
  case invokevirtual x =>
    obtain rfl : n = 3 := ew_beq hst
    cases hv : et_md (et_cls y) x with
    | none => dsimp only [ew_st] at g; rw [hv] at g; exact g.elim
    | some q =>
      obtain ⟨z, a, c⟩ := q
      dsimp only [ew_st] at g
      rw [hv] at g
      dsimp only at g
      cases hdr : st.drop a with
      | nil => rw [hdr] at g; exact g.elim
      | cons u rest =>
        rw [hdr] at g
        rcases u with u | ⟨k, j⟩
        · exact g.elim
        obtain ⟨h5, g5⟩ := ed_if g
        simp only [Bool.and_eq_true, Bool.not_eq_true'] at h5
        obtain ⟨⟨k1, k2⟩, k3, k4⟩ := h5
        have k1 := ew_beq k1
        have k3 := ew_beq k3
        obtain ⟨hsp, hlen⟩ := ed_split hdr
        obtain ⟨r0, h0, hc, hk⟩ := ew_Call_get g5
        obtain ⟨d', hdd⟩ := hsucc hc
        have hwr : et_wr z = false := by
          cases hwr : et_wr z with
          | false => rfl
          | true => have := ((hlast _ _ _ _ _ hv).1 hwr).1; rw [k1] at this; cases this
        rcases r0 with v | xx
        · obtain ⟨M, hle⟩ := hM d' z _ v h0 hdd hwr hc
          have z9 : z < 900 := Nat.lt_of_not_le fun q => by have := (hlast _ _ _ _ _ hv).2.1 q; rw [k1] at this; cases this
          obtain ⟨w1, w2, -⟩ := T.2.2.2.2.1 _ _ _ _ _ hv z9 hwr
          obtain ⟨w3, w4⟩ := w2 k2
          obtain ⟨c17, hcn, hse⟩ := w4 k1
          have hcl : vwCl.length = 17 := rfl
          have hr : vwCl[ew_ct k]? = some (vwCl[ew_ct k]'(by rw [hcl, k3]; exact c17)) := List.getElem?_eq_getElem (by rw [hcl, k3]; exact c17)
          have := es_callV (Q := Q) (sz := sz) (H0 := H0) (aS := aS) (ls := ls) X hck hdd hr (by rw [hcn, (T.2.2.1 _ _ hr).1, k3]) (by rw [k3]; exact c17) w1 k1 hse w3 hlen M (Nat.le_of_ble_eq_true k4) hle hRc hRs hd hk
          rw [← hsp] at this
          exact this
        · exact hXV x z a c k j _ _ xx h0 rfl hv k2 k1 k3 hlen hsp (Nat.le_of_ble_eq_true k4) hk.1 hc hk.2
  case invokespecial x =>
    obtain rfl : n = 3 := ew_beq hst
    cases hv : et_md (et_cls y) x with
    | none => dsimp only [ew_st] at g; rw [hv] at g; exact g.elim
    | some q =>
      obtain ⟨z, a, c⟩ := q
      dsimp only [ew_st] at g
      rw [hv] at g
      dsimp only at g
      cases hdr : st.drop a with
      | nil => rw [hdr] at g; exact g.elim
      | cons u rest =>
        rw [hdr] at g
        rcases u with u | ⟨k, j⟩
        · exact g.elim
        obtain ⟨hsp, hlen⟩ := ed_split hdr
        rcases ed_el g with ⟨h5, g5⟩ | ⟨h5, g5⟩
        · obtain ⟨h6, g6⟩ := ed_if g5
          obtain rfl := ew_beq h5
          obtain ⟨-, -, -, -, u5⟩ := T.2.2.2.2.2.1 (et_cls y) x a c
          obtain ⟨rfl, u6⟩ := u5 hv
          have h1 : st = ew_o k j :: rest := hdr
          rw [h1]
          obtain ⟨o1, o2⟩ := T.2.2.2.2.2.2.2.2.2.1
          exact es_obj X u6 o1 o2 (Nat.le_of_ble_eq_true h6) hd g6
        · obtain ⟨h6, g6⟩ := ed_if g5
          simp only [Bool.and_eq_true] at h6
          obtain ⟨k1, k4⟩ := h6
          have k1 := ew_beq k1
          obtain ⟨r0, h0, hc, hk⟩ := ew_Call_get g6
          obtain ⟨d', hdd⟩ := hsucc hc
          have hwr : et_wr z = false := by
            cases hwr : et_wr z with
            | false => rfl
            | true => have := ((hlast _ _ _ _ _ hv).1 hwr).1; rw [k1] at this; cases this
          rcases r0 with v | xx
          · obtain ⟨M, hle⟩ := hM d' z _ v h0 hdd hwr hc
            have z9 : z < 900 := Nat.lt_of_not_le fun q => by have := (hlast _ _ _ _ _ hv).2.1 q; rw [k1] at this; cases this
            obtain ⟨w1, w2, w3⟩ := T.2.2.2.2.1 _ _ _ _ _ hv z9 hwr
            have hif : et_if (et_cls y) x = false := by
              cases hif : et_if (et_cls y) x with
              | false => rfl
              | true =>
                have := (w3 hif).2.1
                rw [k1] at this
                cases this
            have := es_callI (Q := Q) (sz := sz) (H0 := H0) (aS := aS) (ls := ls) X hck hdd w1 k1 (w2 hif).1 hlen M (Nat.le_of_ble_eq_true k4) hle hRc hRs hd hk
            rw [← hsp] at this
            exact this
          · exfalso
            have h1 := hk.1
            unfold ew_th at h1
            rw [k1, show Nat.beq 2 2 = true from rfl, Bool.not_true, Bool.and_false] at h1
            cases h1
  case invokeinterface x cnt =>
    obtain rfl : n = 5 := ew_beq hst
    cases hv : et_md (et_cls y) x with
    | none => dsimp only [ew_st] at g; rw [hv] at g; exact g.elim
    | some q =>
      obtain ⟨z, a, c⟩ := q
      dsimp only [ew_st] at g
      rw [hv] at g
      dsimp only at g
      cases hdr : st.drop a with
      | nil => rw [hdr] at g; exact g.elim
      | cons u rest =>
        rw [hdr] at g
        rcases u with u | ⟨k, j⟩
        · exact g.elim
        obtain ⟨hsp, hlen⟩ := ed_split hdr
        obtain ⟨h5, g5⟩ := ed_if g
        simp only [Bool.and_eq_true] at h5
        obtain ⟨k1, k2, k4⟩ := h5
        have k2 := ew_beq k2
        obtain ⟨r0, h0, hc, hk⟩ := ew_Call_get g5
        obtain ⟨d', hdd⟩ := hsucc hc
        have z9 : z < 900 ∧ et_wr z = false ∧ 185 ≤ z := (hlast _ _ _ _ _ hv).2.2 k1
        obtain ⟨z9, hwr, z185⟩ := z9
        obtain ⟨w1, -, w3⟩ := T.2.2.2.2.1 _ _ _ _ _ hv z9 hwr
        obtain ⟨c17, kd1, xn, x1, x2, x3, x4, x5, x6⟩ := w3 k1
        rcases r0 with v | xx
        · obtain ⟨M, hle⟩ := hM d' z _ v h0 hdd hwr hc
          have hcl : vwCl.length = 17 := rfl
          have hr : vwCl[ew_ct k]? = some (vwCl[ew_ct k]'(by rw [hcl, k2]; exact c17)) := List.getElem?_eq_getElem (by rw [hcl, k2]; exact c17)
          have hrn := (T.2.2.1 _ _ hr).1
          have := es_callF (Q := Q) (sz := sz) (H0 := H0) (aS := aS) (ls := ls) (xn := xn) X hck hdd hr (by rw [k2]; exact c17) w1 kd1 x1 (by rw [hrn, k2]; exact x2) (fun U hU => by rw [hrn, k2]; exact x3 U hU) ⟨x4, x5, x6⟩ hlen M (Nat.le_of_ble_eq_true k4) hle hRc hRs hd hk
          rw [← hsp] at this
          exact this
        · exfalso
          have h1 := hk.1
          unfold ew_th at h1
          rw [Bool.and_eq_true] at h1
          have := Nat.le_of_ble_eq_true h1.2
          omega
end FA
