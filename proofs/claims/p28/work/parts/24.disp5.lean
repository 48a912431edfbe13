/-! Any step: branches, objects, arrays. -/
section EZ
variable {p : Program} {l : Launch} {e : Env} {R : Room} {s : State} {m : MethodId} {args : Array Value} {below : List Frame} {meth : Method} {c0 : Code} {Q : State → Prop}
variable {G : va_G} {TY : Nat → ClassId} {sz : Nat} {H0 : Heap} {NW : List Cond} {Wd : State → Prop} {d y : Nat} {hS hE : ew_H} {aS : Nat → Nat → Nat}
variable {pc nx tg : Nat} {cv : Int32} {ls : List (Option ew_V)} {st : List ew_V} {h : ew_H} {i : Instr} {n : Nat} {r : ew_R}
theorem ed_obj (X : ew_Cx p l e R s m args below meth c0 NW G TY Wd d y) (T : ew_Tab NW Wd) (hpg : ew_pg y pc = some (i, nx, tg, cv)) (hRc : hE.2.2.2.2.1 - hS.2.2.2.2.1 ≤ R.cells) (hRs : hE.2.2.2.2.2 - hS.2.2.2.2.2 ≤ R.slots)
    (hi : match i with | .ifCond _ _ | .if_icmp _ _ | .if_acmp _ _ | .lcmp | .tableswitch _ _ _ _ | .getfield _ | .putfield _ | .arraylength | .iaload | .baload | .aaload | .iastore | .bastore | .aastore => True | _ => False)
    (g : ew_UQ p l e R s m args below meth c0 G TY sz H0 Q y hS hE aS pc ls h d r (ew_st y (et_cls y) i pc nx tg cv ls st h)) : ew_Q p l e R s m args below meth c0 G TY sz H0 Q y hS hE aS (pc, ls, st, h) := by
  obtain ⟨n, hd, hnx, hst, hoj, hoc⟩ := ew_okb_spec (T.1 _ _ _ hpg)
  obtain ⟨hx, hb, hml, hown, hts, hW, hwd, hfr, hlo, hini⟩ := id X
  subst hnx
  cases i <;> try exact hi.elim
  case ifCond o q =>
    obtain rfl : n = 3 := ew_beq hst
    rcases st with _ | ⟨a | a, st⟩ <;> first | exact g.elim | skip
    cases a <;> first | exact g.elim | skip
    exact es_if (of_decide_eq_true hoj) hx hb hd g.1 g.2
  case if_icmp o q =>
    obtain rfl : n = 3 := ew_beq hst
    rcases st with _ | ⟨b | b, _ | ⟨a | a, st⟩⟩ <;> first | exact g.elim | skip
    all_goals cases b <;> first | exact g.elim | skip
    all_goals cases a <;> first | exact g.elim | skip
    exact es_icmp (of_decide_eq_true hoj) hx hb hd g.1 g.2
  case if_acmp o q =>
    obtain rfl : n = 3 := ew_beq hst
    cases o <;> first | exact g.elim | skip
    rcases st with _ | ⟨b | ⟨k1, i1⟩, _ | ⟨a | ⟨k2, i2⟩, st⟩⟩ <;> first | exact g.elim | skip
    rcases ed_el g with ⟨hh, g3⟩ | ⟨hh, g3⟩
    · rw [Bool.and_eq_true] at hh
      obtain rfl : k2 = k1 := ew_beq hh.1
      exact es_acmp (of_decide_eq_true hoj) hx hb hd (ew_beq hh.2) g3
    · obtain ⟨h2, g⟩ := ed_fi g3
      simp only [Bool.or_eq_false_iff] at h2
      refine es_acmpN (of_decide_eq_true hoj) hx hb hd (fun z => ?_) (fun z => ?_) (fun z => ?_) g
      · rw [z, ew_beqr] at h2; exact absurd h2.1 (by decide)
      · rw [z] at h2; exact absurd h2.2.1 (by decide)
      · rw [z] at h2; exact absurd h2.2.2 (by decide)
  case lcmp =>
    obtain rfl : n = 1 := ew_beq hst
    rcases st with _ | ⟨b | b, _ | ⟨a | a, st⟩⟩ <;> first | exact g.elim | skip
    all_goals cases b <;> first | exact g.elim | skip
    all_goals cases a <;> first | exact g.elim | skip
    exact es_lcmp hx hb hd g.1 g.2
  case tableswitch dd lo hi2 os =>
    rcases st with _ | ⟨a | a, st⟩ <;> first | exact g.elim | skip
    cases a <;> first | exact g.elim | skip
    exact es_switch (tg := tg) hx hb hd hoj g
  case getfield x =>
    obtain rfl : n = 3 := ew_beq hst
    cases hv : et_fd (et_cls y) x with
    | none => dsimp only [ew_st] at g; rw [hv] at g; exact g.elim
    | some q =>
      obtain ⟨ci, sl, t⟩ := q
      dsimp only [ew_st] at g
      rw [hv] at g
      obtain ⟨f1, f2, f3⟩ := T.2.1 _ _ _ hv
      rcases st with _ | ⟨a | ⟨k, j⟩, st⟩ <;> first | exact g.elim | skip
      obtain ⟨hh, g⟩ := ed_if g
      exact es_get X f1 f2 (ew_beq hh) hd g
  case putfield x =>
    obtain rfl : n = 3 := ew_beq hst
    cases hv : et_fd (et_cls y) x with
    | none => dsimp only [ew_st] at g; rw [hv] at g; exact g.elim
    | some q =>
      obtain ⟨ci, sl, t⟩ := q
      dsimp only [ew_st] at g
      rw [hv] at g
      obtain ⟨f1, f2, f3⟩ := T.2.1 _ _ _ hv
      rcases st with _ | ⟨v, _ | ⟨a | ⟨k, j⟩, st⟩⟩ <;> first | exact g.elim | skip
      obtain ⟨hh, g⟩ := ed_if g
      simp only [Bool.and_eq_true, Bool.not_eq_true', Bool.or_eq_true] at hh
      obtain ⟨⟨⟨h1, h2⟩, h3⟩, h4⟩ := hh
      refine es_put X (f3 h2) f2 (ew_beq h1) h3 (fun hf => ?_) g.1 hd g.2
      rcases h4 with h4 | ⟨h4, h5⟩
      · dsimp only at hf h4
        rw [hf] at h4
        cases h4
      · refine ⟨h4, fun r hr => ?_⟩
        rw [ew_beq h5]
        exact (T.2.2.1 _ _ hr).1
  case arraylength =>
    obtain rfl : n = 1 := ew_beq hst
    rcases st with _ | ⟨a | ⟨k, j⟩, st⟩ <;> first | exact g.elim | skip
    obtain ⟨hh, g⟩ := ed_if g
    rw [Bool.and_eq_true] at hh
    exact es_alen X (Nat.le_of_ble_eq_true hh.1) (Nat.le_of_ble_eq_true hh.2) hd g
  case iaload => obtain ⟨j, k, i, st', rfl, -, a2, a3, g⟩ := eu_ald g; obtain rfl : n = 1 := ew_beq hst; exact es_ald X a3 hd (Or.inl ⟨rfl, a2 (by decide)⟩) g
  case baload => obtain ⟨j, k, i, st', rfl, -, a2, a3, g⟩ := eu_ald g; obtain rfl : n = 1 := ew_beq hst; exact es_ald X a3 hd (Or.inr (Or.inl ⟨rfl, a2 (by decide)⟩)) g
  case aaload => obtain ⟨j, k, i, st', rfl, a2, -, a3, g⟩ := eu_ald g; obtain rfl : n = 1 := ew_beq hst; exact es_ald X a3 hd (Or.inr (Or.inr ⟨rfl, a2 rfl⟩)) g
  case iastore =>
    obtain ⟨v, j, k, i, st', rfl, a0, -, a2, a3, a4, g⟩ := eu_ast g
    obtain rfl : n = 1 := ew_beq hst
    have a2 := a2 (by decide)
    exact es_ast X a0 a3 hd (ew_ne31 a2 (by decide)) (Or.inl ⟨rfl, a2, a4⟩) g
  case bastore =>
    obtain ⟨v, j, k, i, st', rfl, a0, -, a2, a3, a4, g⟩ := eu_ast g
    obtain rfl : n = 1 := ew_beq hst
    have a2 := a2 (by decide)
    exact es_ast X a0 a3 hd (ew_ne31 a2 (by decide)) (Or.inr (Or.inl ⟨rfl, a2, a4⟩)) g
  case aastore =>
    obtain ⟨v, j, k, i, st', rfl, a0, a2, -, a3, a4, g⟩ := eu_ast g
    obtain rfl : n = 1 := ew_beq hst
    obtain ⟨b1, b2, b3⟩ := a2 rfl
    exact es_ast X a0 a3 hd (ew_ne31 (k := k) rfl (by omega)) (Or.inr (Or.inr ⟨rfl, b1, a4, b3⟩)) g
theorem ed_made (X : ew_Cx p l e R s m args below meth c0 NW G TY Wd d y) (T : ew_Tab NW Wd) (hpg : ew_pg y pc = some (i, nx, tg, cv)) (hRc : hE.2.2.2.2.1 - hS.2.2.2.2.1 ≤ R.cells) (hRs : hE.2.2.2.2.2 - hS.2.2.2.2.2 ≤ R.slots)
    (hi : match i with | .new _ | .newarray _ | .anewarray _ | .checkcast _ => True | _ => False)
    (hN : ∀ x c, i = .new x → et_nw (et_cls y) x = some c → 100 ≤ c → ew_cats st ≤ 20 → (.inr (c - 100) : ew_R) = r → ew_pay h 1 6 = hE → ew_Q p l e R s m args below meth c0 G TY sz H0 Q y hS hE aS (pc, ls, st, h))
    (g : ew_UQ p l e R s m args below meth c0 G TY sz H0 Q y hS hE aS pc ls h d r (ew_st y (et_cls y) i pc nx tg cv ls st h)) : ew_Q p l e R s m args below meth c0 G TY sz H0 Q y hS hE aS (pc, ls, st, h) := by
  obtain ⟨n, hd, hnx, hst, hoj, hoc⟩ := ew_okb_spec (T.1 _ _ _ hpg)
  obtain ⟨hx, hb, hml, hown, hts, hW, hwd, hfr, hlo, hini⟩ := id X
  obtain ⟨-, -, t3, t4, -, -, -, -, -, -, -, t12, t13, -⟩ := T
  subst hnx
  cases i <;> try exact hi.elim
  case new x =>
    obtain rfl : n = 3 := ew_beq hst
    cases hv : et_nw (et_cls y) x with
    | none => dsimp only [ew_st] at g; rw [hv] at g; exact g.elim
    | some c =>
      dsimp only [ew_st] at g
      rw [hv] at g
      rcases ed_el g with ⟨hh, g⟩ | ⟨hh, g⟩
      · obtain ⟨h2, g⟩ := ed_if g
        rw [Bool.and_eq_true] at h2
        have hc17 : c < 17 := Nat.le_of_ble_eq_true hh
        have hcl : vwCl.length = 17 := rfl
        have hr : vwCl[c]? = some vwCl[c] := List.getElem?_eq_getElem (by rw [hcl]; exact hc17)
        obtain ⟨u1, u2, u3, u4⟩ := t3 _ _ hr
        refine es_new X hr u2 (ew_beq h2.1) hc17 (ed_nc h2.2).1 h2.2 ?_ u3 u4 hRc hRs hd g
        rw [u1]
        exact (t4 _ _ _ hv).1 hc17
      · obtain ⟨h2, g⟩ := ed_if g
        rw [Bool.and_eq_true] at h2
        exact hN x c rfl hv (Nat.le_of_ble_eq_true h2.1) (Nat.le_of_ble_eq_true h2.2) g.2.1 g.2.2
  case newarray at' =>
    obtain rfl : n = 2 := ew_beq hst
    cases at' <;> first | exact g.elim | skip
    case boolean =>
      obtain ⟨h2, g⟩ := ed_if g
      rw [Bool.and_eq_true] at h2
      obtain ⟨nn, st', rfl, a1, a2, a3, g⟩ := eu_newa g
      have e1 := ew_beq h2.1
      exact es_newa (at' := .boolean) X (by rw [e1]; rfl) t12.2 (by rw [e1]; decide) (by rw [e1]; decide) (ed_nc h2.2).1 h2.2 ⟨.int 0, rfl, fun q z => by cases z⟩ (fun a => rfl) a1 a2 a3 hRc hRs hd g
    case int =>
      obtain ⟨h2, g⟩ := ed_if g
      rw [Bool.and_eq_true] at h2
      obtain ⟨nn, st', rfl, a1, a2, a3, g⟩ := eu_newa g
      have e1 := ew_beq h2.1
      exact es_newa (at' := .int) X (by rw [e1]; rfl) t12.1 (by rw [e1]; decide) (by rw [e1]; decide) (ed_nc h2.2).1 h2.2 ⟨.int 0, rfl, fun q z => by cases z⟩ (fun a => rfl) a1 a2 a3 hRc hRs hd g
  case anewarray x =>
    obtain rfl : n = 3 := ew_beq hst
    cases hv : et_nw (et_cls y) x with
    | none => dsimp only [ew_st] at g; rw [hv] at g; exact g.elim
    | some c =>
      dsimp only [ew_st] at g
      rw [hv] at g
      obtain ⟨w1, w2, -⟩ := t4 _ _ _ hv
      obtain ⟨h2, g⟩ := ed_if g
      rw [Bool.and_eq_true, Bool.and_eq_true, Bool.and_eq_true] at h2
      obtain ⟨nn, st', rfl, a1, a2, a3, g⟩ := eu_newa g
      obtain ⟨⟨⟨b1, b2⟩, b3⟩, b4⟩ := h2
      have b1 : 20 ≤ ew_ct (et_si y pc) := Nat.le_of_ble_eq_true b1
      have b2 : ew_ct (et_si y pc) < 25 := Nat.le_of_ble_eq_true b2
      have b3 := ew_beq b3
      by_cases h20 : ew_ct (et_si y pc) = 20
      · rw [h20] at b3
        exact es_anewA X (by rw [h20]; rfl) (w2 b3) (fun U hU => (t13 U hU).1) (by omega) b2 (ed_nc b4).1 (fun _ => rfl) (fun z => by rw [b4] at z; cases z) a1 a2 a3 hRc hRs hd g
      · have b1 : 21 ≤ ew_ct (et_si y pc) := by omega
        have hlt : c < 17 := by
          rw [b3]
          have : ∀ t, 21 ≤ t → t < 25 → ew_cl t < 17 := by
            intro t q1 q2
            have : t = 21 ∨ t = 22 ∨ t = 23 ∨ t = 24 := by omega
            rcases this with rfl | rfl | rfl | rfl <;> decide
          exact this _ b1 b2
        have hov : ∀ U, Wd U → va_AO (ew_on (ew_cl (ew_ct (et_si y pc)))) U := by
          intro U hU
          obtain ⟨o1, o2, o3, o4, o5⟩ := t13 U hU
          have : ∀ t, 21 ≤ t → t < 25 → va_AO (ew_on (ew_cl t)) U := by
            intro t q1 q2
            have : t = 21 ∨ t = 22 ∨ t = 23 ∨ t = 24 := by omega
            rcases this with rfl | rfl | rfl | rfl
            · exact o2
            · exact o3
            · exact o4
            · exact o5
          exact this _ b1 b2
        exact es_anewa (C := ew_on (ew_cl (ew_ct (et_si y pc)))) X (ed_ty b1 b2) (by rw [← b3]; exact w1 hlt) hov (by omega) b2 (ed_nc b4).1 (fun _ => rfl) (fun z => by rw [b4] at z; cases z) a1 a2 a3 hRc hRs hd g
  case checkcast x =>
    obtain rfl : n = 3 := ew_beq hst
    cases hv : et_nw (et_cls y) x with
    | none => dsimp only [ew_st] at g; rw [hv] at g; exact g.elim
    | some c =>
      dsimp only [ew_st] at g
      rw [hv] at g
      rcases st with _ | ⟨a | ⟨k, j⟩, st⟩ <;> first | exact g.elim | skip
      obtain ⟨hh, g⟩ := ed_if g
      rw [Bool.and_eq_true] at hh
      obtain ⟨w1, w2, -⟩ := t4 _ _ _ hv
      have hk := ew_beq hh.1
      have hh2 := hh.2
      rw [Bool.and_eq_true] at hh2
      have hc := Nat.le_of_ble_eq_true hh2.1
      by_cases h17 : c < 17
      · have hcl : vwCl.length = 17 := rfl
        have hr : vwCl[ew_ct k]? = some (vwCl[ew_ct k]'(by rw [hcl, hk]; exact h17)) := List.getElem?_eq_getElem (by rw [hcl, hk]; exact h17)
        refine es_cast X (by rw [hk]; exact h17) hr ?_ hd g
        rw [(t3 _ _ hr).1, hk]
        exact w1 h17
      · refine es_castA X ?_ (by omega) (w2 (by omega)) hd g
        have h3 := hh2.2
        rw [show Nat.blt c 17 = false from (by
          cases hb : Nat.blt c 17 with
          | false => rfl
          | true => exact absurd (Nat.le_of_ble_eq_true hb) h17), Bool.false_or] at h3
        exact (Bool.not_eq_true' _).mp h3
end EZ
