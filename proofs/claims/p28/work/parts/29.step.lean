/-! One step of a method's body, by what is told of the calls and ends. -/
section GD
variable {p : Program} {l : Launch} {e : Env} {R : Room} {s : State} {m : MethodId} {args : Array Value} {below : List Frame} {meth : Method} {c0 : Code} {Q : State → Prop}
variable {G : va_G} {TY : Nat → ClassId} {sz : Nat} {H0 : Heap} {NW : List Cond} {Wd : State → Prop} {CK : Nat → Nat → Option Nat} {d y : Nat} {hS hE : ew_H} {aS : Nat → Nat → Nat}
variable {pc nx tg : Nat} {cv : Int32} {ls : List (Option ew_V)} {st : List ew_V} {h : ew_H} {i : Instr} {n : Nat} {r : ew_R}
def ew_vi (y : Nat) (ins : Instr) (v : Option ew_V) : Prop := (ins = .ireturn ∧ ∃ x, v = some (ew_i x) ∧ (et_bl y = true → x = 0 ∨ x = 1)) ∨ (ins = .lreturn ∧ ∃ x, v = some (ew_j x)) ∨ (ins = .dreturn ∧ ∃ x, v = some (.inl (.double x))) ∨ (ins = .areturn ∧ ∃ w, v = some w ∧ Nat.beq (ew_tag w) 3 = true) ∨ (ins = .return_ ∧ v = none)
theorem ed_step (X : ew_Cx p l e R s m args below meth c0 NW G TY Wd d y) (hck : ew_ck CK hS aS) (T : ew_Tab NW Wd) (hpg : ew_pg y pc = some (i, nx, tg, cv)) (hRc : hE.2.2.2.2.1 - hS.2.2.2.2.1 ≤ R.cells) (hRs : hE.2.2.2.2.2 - hS.2.2.2.2.2 ≤ R.slots)
    (hret : ∀ v, ew_vi y i v → decode (ew_cd y) pc = .ok (i, 1) → ew_okr y i → st = v.toList → (.inl v : ew_R) = r → h = hE → ew_Q p l e R s m args below meth c0 G TY sz H0 Q y hS hE aS (pc, ls, st, h))
    (hN : ∀ x c, i = .new x → et_nw (et_cls y) x = some c → 100 ≤ c → ew_cats st ≤ 20 → (.inr (c - 100) : ew_R) = r → ew_pay h 1 6 = hE → ew_Q p l e R s m args below meth c0 G TY sz H0 Q y hS hE aS (pc, ls, st, h))
    (hM : ∀ (d' z : Nat) (as : List ew_V) (v : Option ew_V) (h' : ew_H), d = d' + 1 → et_wr z = false → ew_Call d z as h (fun r1 h1 => r1 = .inl v ∧ h1 = h') → ew_Mt l G TY sz H0 CK Wd d' z as h v h' ∧ ew_le h h')
    (hXV : ∀ (x z n c k j : Nat) (as rest : List ew_V) (xx : Nat) (h' : ew_H), i = .invokevirtual x → et_md (et_cls y) x = some (z, n, c) → et_if (et_cls y) x = false → et_kd z = 1 → ew_ct k = c → as.length = n → st = as.reverse ++ ew_o k j :: rest → ew_cats rest ≤ 8 → ew_th z = true → ew_Call d z (ew_o k j :: as) h (fun r1 h1 => r1 = .inr xx ∧ h1 = h') →
      (match ew_hd y pc xx with | some t => ew_Q p l e R s m args below meth c0 G TY sz H0 Q y hS hE aS (t.1, ew_un ls t.2, [], h') | none => (.inr xx : ew_R) = r ∧ h' = hE) → ew_Q p l e R s m args below meth c0 G TY sz H0 Q y hS hE aS (pc, ls, st, h))
    (hXS : ∀ (x z n c : Nat) (as rest : List ew_V) (xx : Nat) (h' : ew_H), i = .invokestatic x → et_md (et_cls y) x = some (z, n, c) → z < 900 → et_kd z = 0 → as.length = n → st = as.reverse ++ rest → ew_cats rest ≤ 8 → ew_th z = true → ew_Call d z as h (fun r1 h1 => r1 = .inr xx ∧ h1 = h') →
      (match ew_hd y pc xx with | some t => ew_Q p l e R s m args below meth c0 G TY sz H0 Q y hS hE aS (t.1, ew_un ls t.2, [], h') | none => (.inr xx : ew_R) = r ∧ h' = hE) → ew_Q p l e R s m args below meth c0 G TY sz H0 Q y hS hE aS (pc, ls, st, h))
    (hWS : ∀ (x z n c : Nat) (as rest : List ew_V) (v : Option ew_V) (h' : ew_H), i = .invokestatic x → et_md (et_cls y) x = some (z, n, c) → et_wr z = true → et_kd z = 0 → as.length = n → st = as.reverse ++ rest → ew_cats rest ≤ 8 → ew_Call d z as h (fun r1 h1 => r1 = .inl v ∧ h1 = h') → ew_Q p l e R s m args below meth c0 G TY sz H0 Q y hS hE aS (pc + 3, ls, v.toList ++ rest, h') → ew_Q p l e R s m args below meth c0 G TY sz H0 Q y hS hE aS (pc, ls, st, h))
    (hGs : ∀ x v, i = .getstatic x → decode (ew_cd y) pc = .ok (.getstatic x, 3) → et_sd (et_cls y) x = some v → ew_Q p l e R s m args below meth c0 G TY sz H0 Q y hS hE aS (pc + 3, ls, v :: st, h) → ew_Q p l e R s m args below meth c0 G TY sz H0 Q y hS hE aS (pc, ls, st, h))
    (g : ew_UQ p l e R s m args below meth c0 G TY sz H0 Q y hS hE aS pc ls h d r (ew_st y (et_cls y) i pc nx tg cv ls st h)) : ew_Q p l e R s m args below meth c0 G TY sz H0 Q y hS hE aS (pc, ls, st, h) := by
  have hokr := (T.2.2.2.2.2.2.2.2.2.2.2.2.2.2.1 _ _ _ hpg).2.1
  obtain ⟨n, hd, hnx, hst, -, -⟩ := ew_okb_spec (T.1 _ _ _ hpg)
  cases i <;> first | exact g.elim | exact ed_plain X T hpg trivial g | exact ed_obj X T hpg hRc hRs trivial g | exact ed_made X T hpg hRc hRs trivial hN g | exact ed_call X hck T hpg hRc hRs trivial hM hXV hXS hWS g | skip
  case ireturn =>
    obtain rfl : n = 1 := ew_beq hst
    rcases st with _ | ⟨a | a, _ | ⟨b, st⟩⟩ <;> first | exact g.elim | skip
    all_goals cases a <;> first | exact g.elim | skip
    obtain ⟨g1, g2, g3⟩ := g
    exact hret (some (ew_i _)) (Or.inl ⟨rfl, _, rfl, fun hb => by rw [hb] at g1; exact g1⟩) hd hokr rfl g2 g3
  case lreturn =>
    obtain rfl : n = 1 := ew_beq hst
    rcases st with _ | ⟨a | a, _ | ⟨b, st⟩⟩ <;> first | exact g.elim | skip
    all_goals cases a <;> first | exact g.elim | skip
    exact hret (some (ew_j _)) (Or.inr (Or.inl ⟨rfl, _, rfl⟩)) hd hokr rfl g.2.1 g.2.2
  case dreturn =>
    obtain rfl : n = 1 := ew_beq hst
    rcases st with _ | ⟨a | a, _ | ⟨b, st⟩⟩ <;> first | exact g.elim | skip
    all_goals cases a <;> first | exact g.elim | skip
    exact hret (some (.inl (.double _))) (Or.inr (Or.inr (Or.inl ⟨rfl, _, rfl⟩))) hd hokr rfl g.2.1 g.2.2
  case areturn =>
    obtain rfl : n = 1 := ew_beq hst
    rcases st with _ | ⟨a, _ | ⟨b, st⟩⟩ <;> first | exact g.elim | skip
    obtain ⟨hh, g⟩ := ed_if g
    exact hret (some a) (Or.inr (Or.inr (Or.inr (Or.inl ⟨rfl, _, rfl, hh⟩)))) hd hokr rfl g.2.1 g.2.2
  case return_ =>
    obtain rfl : n = 1 := ew_beq hst
    rcases st with _ | ⟨a, st⟩ <;> first | exact g.elim | skip
    exact hret none (Or.inr (Or.inr (Or.inr (Or.inr ⟨rfl, rfl⟩)))) hd hokr rfl g.2.1 g.2.2
end GD
