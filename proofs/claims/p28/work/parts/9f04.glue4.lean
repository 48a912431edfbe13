/-! The glue to the machine: the six places of throws. -/
/-- words of the tables that a cold start may move -/
def gl_nwb (w : Cond) : Bool := match w with
  | .castable _ _ => true
  | .declares _ => true
  | _ => false
theorem gl_nwb_ok {w : Cond} (h : gl_nwb w = true) {s : State} {A : Array Value} (hb : w.before A s = true) : vx_ot w = true ∧ ∀ (U : State) (A' : Array Value), gl_Wd s U → w.before A' U = true := by
  unfold gl_nwb at h
  split at h
  · exact ⟨rfl, fun U A' hW => va_Nw.use rfl (va_Nw.warmC hW (va_Nw.of rfl hb))⟩
  · exact ⟨rfl, fun U A' hW => va_Nw.use rfl (va_Nw.warmD hW (va_Nw.of rfl hb))⟩
  · cases h
def gl_xpc (own X : String) (ic : Nat) : Bool := (vx_atS own ic X ew_xs).all (fun w => decide (w ∈ lw_tbl) && (goodWord w || gl_nwb w))
def gl_s6 (y pc x c : Nat) : Bool := (Nat.beq y 105 && Nat.beq pc 4 && Nat.beq x 324 && Nat.beq c 101) || (Nat.beq y 106 && Nat.beq pc 4 && Nat.beq x 331 && Nat.beq c 102) || (Nat.beq y 26 && Nat.beq pc 21 && Nat.beq x 22 && Nat.beq c 100) || (Nat.beq y 37 && Nat.beq pc 13 && Nat.beq x 32 && Nat.beq c 100) || (Nat.beq y 38 && Nat.beq pc 21 && Nat.beq x 32 && Nat.beq c 100) || (Nat.beq y 39 && Nat.beq pc 21 && Nat.beq x 32 && Nat.beq c 100)
def gl_xs (y pc : Nat) : Bool := match ew_pg y pc with
  | some (.new x, _) => (match et_nw (et_cls y) x with
    | some c => Nat.blt c 100 || gl_s6 y pc x c
    | none => true)
  | _ => true
theorem gl_xs_ok : ∀ y, y < 243 → (List.range (et_ln y)).all (gl_xs y) = true := by decide +kernel
theorem gl_fit : ∀ n ∈ ew_xs, Bundle.fit n = true := by decide +kernel
section
variable {s : State} {A : Array Value}
theorem gl_XPof (hts : ∀ w ∈ lw_tbl, w.before A s = true) {y pc ik x ic is : Nat} {text : String} (f1 : Bundle.fit (ew_xn x) = true) (w1 : Cond.classLink (ew_on (et_cls y)) ik (ew_xn x) ∈ lw_tbl) (w2 : Cond.initialized (ew_xn x) ∈ lw_tbl) (w3 : gl_xpc (ew_on (et_cls y)) (ew_xn x) ic = true) (w4 : Cond.stringRef (ew_on (et_cls y)) is text ∈ lw_tbl) (w5 : (Cond.exactly (.string (ew_on (et_cls y)) is) "java/lang/String").before A s = true)
    (d1 : decode (ew_cd y) pc = .ok (.new ik, 3)) (d2 : decode (ew_cd y) (pc + 3) = .ok (.dup, 1)) (d3 : (decode (ew_cd y) (pc + 4) = .ok (.ldc is, 2) ∧ decode (ew_cd y) (pc + 6) = .ok (.invokespecial ic, 3) ∧ decode (ew_cd y) (pc + 9) = .ok (.athrow, 1)) ∨
   (decode (ew_cd y) (pc + 4) = .ok (.ldc_w is, 3) ∧ decode (ew_cd y) (pc + 7) = .ok (.invokespecial ic, 3) ∧ decode (ew_cd y) (pc + 10) = .ok (.athrow, 1))) : ew_XP (gl_Wd s) y pc ik x := by
  obtain ⟨sa, -, -, -, e1, -⟩ := Cond.exactly_spec w5
  refine ⟨ic, is, sa, text, f1, gl_fit, gl_tin w1 rfl, gl_tin w2 rfl, fun w hw => ?_, fun U hW => (vk_R.of (hts _ w4) e1).warm hW, d1, d2, d3⟩
  have h := List.all_eq_true.mp w3 w hw
  rw [Bool.and_eq_true, decide_eq_true_eq, Bool.or_eq_true] at h
  obtain ⟨h1, h2⟩ := h
  rcases h2 with h2 | h2
  · exact Or.inl (gl_tin h1 h2)
  · exact Or.inr (gl_nwb_ok h2 (hts _ h1))
theorem gl_XP (hts : ∀ w ∈ lw_tbl, w.before A s = true) (hgv : (Jvm.Cond.and given_1 narrow_1).before A s = true) {y pc x nx tg c : Nat} {cv : Int32} (hpg : ew_pg y pc = some (.new x, nx, tg, cv)) (hnw : et_nw (et_cls y) x = some c) (hc : 100 ≤ c) : ew_XP (gl_Wd s) y pc x (c - 100) := by
  have hq := flat_of_before _ hgv
  obtain ⟨h1, h2⟩ := ev_bd hpg
  have h := List.all_eq_true.mp (gl_xs_ok y h1) pc (List.mem_range.mpr h2)
  unfold gl_xs at h
  rw [hpg] at h
  dsimp only at h
  rw [hnw] at h
  dsimp only at h
  rw [Bool.or_eq_true] at h
  rcases h with h | h
  · have := Nat.le_of_ble_eq_true h
    omega
  · unfold gl_s6 at h
    simp only [Bool.or_eq_true, Bool.and_eq_true] at h
    rcases h with ((((⟨⟨⟨a1, a2⟩, a3⟩, a4⟩ | ⟨⟨⟨a1, a2⟩, a3⟩, a4⟩) | ⟨⟨⟨a1, a2⟩, a3⟩, a4⟩) | ⟨⟨⟨a1, a2⟩, a3⟩, a4⟩) | ⟨⟨⟨a1, a2⟩, a3⟩, a4⟩) | ⟨⟨⟨a1, a2⟩, a3⟩, a4⟩ <;> (rw [ew_beq a1, ew_beq a2, ew_beq a3, ew_beq a4]; clear a1 a2 a3 a4 hpg hnw hc h1 h2)
    · exact gl_XPof (ic := 328) (is := 326) (text := "an argument is outside of what the call takes") hts (by first | decide +kernel | rfl) (by first | decide +kernel | rfl) (by first | decide +kernel | rfl) (by first | decide +kernel | rfl) (by first | decide +kernel | rfl) (hq _ (by first | decide +kernel | rfl)) (by first | decide +kernel | rfl) (by first | decide +kernel | rfl) (Or.inr ⟨by first | decide +kernel | rfl, by first | decide +kernel | rfl, by first | decide +kernel | rfl⟩)
    · exact gl_XPof (ic := 335) (is := 333) (text := "the call is not possible as the sea is now") hts (by first | decide +kernel | rfl) (by first | decide +kernel | rfl) (by first | decide +kernel | rfl) (by first | decide +kernel | rfl) (by first | decide +kernel | rfl) (hq _ (by first | decide +kernel | rfl)) (by first | decide +kernel | rfl) (by first | decide +kernel | rfl) (Or.inr ⟨by first | decide +kernel | rfl, by first | decide +kernel | rfl, by first | decide +kernel | rfl⟩)
    · exact gl_XPof (ic := 26) (is := 24) (text := "there is no such port") hts (by first | decide +kernel | rfl) (by first | decide +kernel | rfl) (by first | decide +kernel | rfl) (by first | decide +kernel | rfl) (by first | decide +kernel | rfl) (hq _ (by first | decide +kernel | rfl)) (by first | decide +kernel | rfl) (by first | decide +kernel | rfl) (Or.inl ⟨by first | decide +kernel | rfl, by first | decide +kernel | rfl, by first | decide +kernel | rfl⟩)
    · exact gl_XPof (ic := 36) (is := 34) (text := "there is no such cell") hts (by first | decide +kernel | rfl) (by first | decide +kernel | rfl) (by first | decide +kernel | rfl) (by first | decide +kernel | rfl) (by first | decide +kernel | rfl) (hq _ (by first | decide +kernel | rfl)) (by first | decide +kernel | rfl) (by first | decide +kernel | rfl) (Or.inl ⟨by first | decide +kernel | rfl, by first | decide +kernel | rfl, by first | decide +kernel | rfl⟩)
    · exact gl_XPof (ic := 36) (is := 43) (text := "there is no such breaker") hts (by first | decide +kernel | rfl) (by first | decide +kernel | rfl) (by first | decide +kernel | rfl) (by first | decide +kernel | rfl) (by first | decide +kernel | rfl) (hq _ (by first | decide +kernel | rfl)) (by first | decide +kernel | rfl) (by first | decide +kernel | rfl) (Or.inl ⟨by first | decide +kernel | rfl, by first | decide +kernel | rfl, by first | decide +kernel | rfl⟩)
    · exact gl_XPof (ic := 36) (is := 48) (text := "there is no such ship") hts (by first | decide +kernel | rfl) (by first | decide +kernel | rfl) (by first | decide +kernel | rfl) (by first | decide +kernel | rfl) (by first | decide +kernel | rfl) (hq _ (by first | decide +kernel | rfl)) (by first | decide +kernel | rfl) (by first | decide +kernel | rfl) (Or.inl ⟨by first | decide +kernel | rfl, by first | decide +kernel | rfl, by first | decide +kernel | rfl⟩)
end
