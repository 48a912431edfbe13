/-! The glue to the machine: handlers. -/
def gl_cn (ct : Nat) : String := bif Nat.beq ct 13 then "java/lang/IndexOutOfBoundsException" else bif Nat.beq ct 15 then "java/lang/IllegalArgumentException" else "java/lang/IllegalStateException"
def gl_xi (ct : Nat) : Nat := bif Nat.beq ct 13 then 0 else bif Nat.beq ct 15 then 1 else 2
def gl_c3 (ct : Nat) : Bool := Nat.beq ct 13 || Nat.beq ct 15 || Nat.beq ct 17
theorem gl_c3_in : Cond.classLink (ew_on 40) 13 (gl_cn 13) ∈ lw_tbl ∧ Cond.classLink (ew_on 40) 15 (gl_cn 15) ∈ lw_tbl ∧ Cond.classLink (ew_on 40) 17 (gl_cn 17) ∈ lw_tbl := by decide +kernel
theorem gl_c3_ok {ct : Nat} (h : gl_c3 ct = true) : Cond.classLink (ew_on 40) ct (gl_cn ct) ∈ ew_TW ∧ ew_xn (gl_xi ct) = gl_cn ct ∧ ct ≠ 0 := by
  obtain ⟨h1, h2, h3⟩ := gl_c3_in
  unfold gl_c3 at h
  simp only [Bool.or_eq_true] at h
  rcases h with (h | h) | h
  · rw [ew_beq h]; exact ⟨gl_tin h1 rfl, rfl, by decide⟩
  · rw [ew_beq h]; exact ⟨gl_tin h2 rfl, rfl, by decide⟩
  · rw [ew_beq h]; exact ⟨gl_tin h3 rfl, rfl, by decide⟩
def gl_as (y hp t slot : Nat) : Bool := match decode (ew_cd y) hp with
  | .ok (.astore k, 2) => Nat.beq k slot && Nat.beq t (hp + 2)
  | .ok (.astore_n k, 1) => Nat.beq k.val slot && Nat.beq t (hp + 1)
  | _ => false
theorem gl_as_ok {y hp t slot : Nat} (h : gl_as y hp t slot = true) : ∃ (ins : Instr) (w : Nat), decode (ew_cd y) hp = .ok (ins, w) ∧ t = hp + w ∧ ((ins = .astore slot ∧ w = 2) ∨ ∃ k : Fin 4, ins = .astore_n k ∧ (k : Nat) = slot ∧ w = 1) := by
  unfold gl_as at h
  split at h
  · rename_i k e
    rw [Bool.and_eq_true] at h
    exact ⟨_, _, e, ew_beq h.2, Or.inl ⟨by rw [ew_beq h.1], rfl⟩⟩
  · rename_i k e
    rw [Bool.and_eq_true] at h
    exact ⟨_, _, e, ew_beq h.2, Or.inr ⟨k, rfl, ew_beq h.1, rfl⟩⟩
  · cases h
def gl_h1 (y pc x t slot k : Nat) : Bool := match (tableOf (ew_hh y))[k]? with
  | none => false
  | some z => ((tableOf (ew_hh y)).take k).all (fun w => !covers w pc || (gl_c3 w.catchType && !Nat.beq x (gl_xi w.catchType))) && (covers z pc && (gl_c3 z.catchType && (Nat.beq x (gl_xi z.catchType) && (Nat.blt slot (et_mx y) && gl_as y z.handlerPc t slot))))
def gl_hp (y pc x : Nat) : Bool := match ew_hd y pc x with
  | none => true
  | some (t, slot) => (et_wr y && Nat.beq (et_cls y) 40) && (List.range (tableOf (ew_hh y)).length).any (gl_h1 y pc x t slot)
theorem gl_hp_ok : ∀ y, y < 24 → ∀ pc, pc < 30 → ∀ x, x < 3 → gl_hp (219 + y) pc x = true := by decide +kernel
theorem gl_hc {b : Bool} {o1 o2 : Option (Nat × Nat)} {P : Prop} (h1 : b = true → ∀ t, o1 = some t → P) (h2 : b = false → ∀ t, o2 = some t → P) : ∀ t, cond b o1 o2 = some t → P := by
  cases b
  · exact h2 rfl
  · exact h1 rfl
theorem gl_hb {y pc x : Nat} : ∀ t, et_hd y pc x = some t → (219 ≤ y ∧ y < 243) ∧ pc < 30 ∧ x < 3 := by
  unfold et_hd
  repeat' (refine gl_hc (fun _ => ?_) (fun _ => ?_))
  all_goals (intro t e)
  all_goals first | (cases e; done) | skip
  all_goals (simp only [Nat.beq_eq_true_eq, Nat.blt_eq, Nat.beq_eq, Bool.eq_false_iff, ne_eq] at *)
  all_goals omega
theorem gl_HP {Wd : State → Prop} (hnc : ∀ U, Wd U → ∀ x ct, gl_c3 ct = true → x < 3 → ¬ x = gl_xi ct → va_Nc (ew_xn x) (gl_cn ct) U) (hca : ∀ (U : State) (A : Array Value), Wd U → ∀ x, x < 3 → (Cond.castable (ew_xn x) (ew_xn x)).before A U = true) {y pc x : Nat} {t : Nat × Nat} (h : ew_hd y pc x = some t) : et_wr y = true ∧ ew_HP Wd (ew_hh y) y pc x t.1 t.2 := by
  obtain ⟨⟨b0, b1⟩, b2, b3⟩ := gl_hb t h
  have g := gl_hp_ok (y - 219) (by omega) pc b2 x b3
  rw [show 219 + (y - 219) = y by omega] at g
  unfold gl_hp at g
  rw [h] at g
  obtain ⟨tt, slot⟩ := t
  simp only [Bool.and_eq_true] at g
  obtain ⟨⟨g1, g2⟩, g3⟩ := g
  refine ⟨g1, ?_⟩
  obtain ⟨k, hk, g4⟩ := List.any_eq_true.mp g3
  have hk := List.mem_range.mp hk
  unfold gl_h1 at g4
  have ez : (tableOf (ew_hh y))[k]? = some ((tableOf (ew_hh y))[k]'hk) := List.getElem?_eq_getElem hk
  rw [ez] at g4
  simp only [Bool.and_eq_true] at g4
  obtain ⟨p1, p2, p3, p4, p5, p6⟩ := g4
  obtain ⟨c1, c2, c3⟩ := gl_c3_ok p3
  have ex := ew_beq p4
  have ecl := ew_beq g2
  refine ⟨(tableOf (ew_hh y)).take k, (tableOf (ew_hh y))[k]'hk, (tableOf (ew_hh y)).drop (k + 1), ?_, fun w hw => ?_, Bool.and_eq_true_iff.mpr p2, c3, ?_, fun U A hU => hca U A hU x b3, Nat.le_of_ble_eq_true p5, gl_as_ok p6⟩
  · rw [← List.drop_eq_getElem_cons hk, List.take_append_drop]
  · have := List.all_eq_true.mp p1 w hw
    simp only [Bool.or_eq_true, Bool.and_eq_true, Bool.not_eq_true'] at this
    rcases this with q | ⟨q1, q2⟩
    · exact Or.inl q
    · obtain ⟨d1, d2, d3⟩ := gl_c3_ok q1
      refine Or.inr ⟨d3, _, by rw [ecl]; exact d1, fun U hU => hnc U hU x _ q1 b3 (fun e => ?_)⟩
      rw [e, ew_beqr] at q2
      cases q2
  · rw [ecl, ex, c2]
    exact c1
