/-! The glue to the machine: what the start gives of classes and arrays. -/
def gl_an (t : Nat) : String := "[" ++ (ew_ty t).toString
theorem gl_ca : ∀ c, c < 17 → Cond.castable (ew_on c) "java/lang/Object" ∈ lw_tbl := by decide +kernel
theorem gl_cb : ∀ t, t < 25 → 17 ≤ t → Cond.castable (gl_an t) "java/lang/Object" ∈ lw_tbl := by decide +kernel
section
variable {s : State} {A : Array Value} {G : va_G} {TY : Nat → ClassId}
theorem gl_tw (hts : ∀ w ∈ lw_tbl, w.before A s = true) : ∀ w ∈ ew_TW, w.before A s = true := fun w hw => hts w (List.mem_filter.mp hw).1
theorem gl_K (hts : ∀ w ∈ ew_TW, w.before A s = true) : ∃ G : va_G, va_K G vwCl [] s := by
  have k : ∀ c : Nat, ∃ p : ClassId × (Nat → Nat), ∀ r : vw_C, vwCl[c]? = some r → u_Kn s r.1 r.2.1 r.2.2 p.1 p.2 := fun c => by
    cases hr : vwCl[c]? with
    | none => exact ⟨(0, fun _ => 0), fun r h => (by cases h)⟩
    | some r =>
      obtain ⟨-, h2, h3, -⟩ := ev_clp hr
      obtain ⟨cC, iS, hK⟩ := u_known (C := r.1) (T := r.2.1) (N := r.2.2) (n := r.2.2) hts h2.1 (hts _ h3)
      exact ⟨(cC, iS), fun r' h => (by cases h; exact hK)⟩
  exact ⟨(fun c => (Classical.choose (k c)).1, fun c => (Classical.choose (k c)).2), fun c q hq => Classical.choose_spec (k c) q hq, fun k q hk => (by simp at hk)⟩
theorem gl_arr {ty : FieldType} (h : (Cond.arrayClass ty).before A s = true) : ∃ cA, ArrOfT s cA ty ∧ s.vm.findClass ("[" ++ ty.toString) = some cA := by
  obtain ⟨c, k, comp, h1, h2, h3⟩ := Cond.arrayClass_spec h
  exact ⟨c, fun n z => ⟨fun k h => (by cases h), k, h2, comp, h3⟩, h1⟩
theorem gl_arO {C : String} (h : va_AO C s) : ∃ cA, ArrOfT s cA (.object C) ∧ va_RA s cA (.object C) := by
  obtain ⟨comp, c, k, h1, -, h3, h4, h5⟩ := Cond.arrayOver_spec h
  exact ⟨c, fun n z => ⟨fun k h => (by cases h), k, h3, comp, h4⟩, k, comp, h3, h4, h1, h5⟩
theorem gl_AT (b17 : (Cond.arrayClass .int).before A s = true) (b18 : (Cond.arrayClass .boolean).before A s = true) (b19 : (Cond.arrayClass .long).before A s = true) (b20 : va_AO "java/lang/Object" s) (b21 : va_AO "ChannelWinter$Breaker" s) (b22 : va_AO "ChannelWinter$Cell" s) (b23 : va_AO "ChannelWinter$Port" s) (b24 : va_AO "ChannelWinter$Ship" s) {c1 c2 : ClassId} (t1 : ArrOfT s c1 .int) (t2 : ArrOfT s c2 .int) : ∃ TY : Nat → ClassId, ew_AT TY s ∧ TY 117 = c1 ∧ TY 149 = c2 := by
  obtain ⟨a17, x17, y17⟩ := gl_arr b17
  obtain ⟨a18, x18, y18⟩ := gl_arr b18
  obtain ⟨a19, x19, y19⟩ := gl_arr b19
  obtain ⟨a20, x20⟩ := gl_arO b20
  obtain ⟨a21, x21⟩ := gl_arO b21
  obtain ⟨a22, x22⟩ := gl_arO b22
  obtain ⟨a23, x23⟩ := gl_arO b23
  obtain ⟨a24, x24⟩ := gl_arO b24
  refine ⟨fun t => bif Nat.beq t 17 then a17 else bif Nat.beq t 18 then a18 else bif Nat.beq t 19 then a19 else bif Nat.beq t 20 then a20 else bif Nat.beq t 21 then a21 else bif Nat.beq t 22 then a22 else bif Nat.beq t 23 then a23 else bif Nat.beq t 24 then a24 else bif Nat.beq t 117 then c1 else c2, ⟨fun t h1 h2 => ?_, fun k hk => ?_⟩, rfl, rfl⟩
  · have h8 : t = 17 ∨ t = 18 ∨ t = 19 ∨ t = 20 ∨ t = 21 ∨ t = 22 ∨ t = 23 ∨ t = 24 := by omega
    rcases h8 with rfl | rfl | rfl | rfl | rfl | rfl | rfl | rfl
    · exact ⟨x17, y17⟩
    · exact ⟨x18, y18⟩
    · exact ⟨x19, y19⟩
    · exact x20
    · exact x21
    · exact x22
    · exact x23
    · exact x24
  · rcases hk with rfl | rfl
    · exact t1
    · exact t2
/-- the class of what stands in a place of kind k' can be cast to Object -/
theorem gl_obj (hK : va_K G vwCl [] s) (hA : ew_AT TY s) (ha : ∀ c, c < 17 → va_Nw (.castable (ew_on c) "java/lang/Object") s) (hb : ∀ t, t < 25 → 17 ≤ t → va_Nw (.castable (gl_an t) "java/lang/Object") s) {c' : Nat} (h25 : c' < 25) : ∃ co, s.vm.findClass "java/lang/Object" = some co ∧ (∃ kv, s.vm.classes[(if c' < 17 then G.1 c' else TY c')]? = some kv) ∧ s.vm.assignable (if c' < 17 then G.1 c' else TY c') co = true := by
  by_cases z : c' < 17
  · rw [if_pos z]
    have hcl : vwCl.length = 17 := rfl
    have hr : vwCl[c']? = some (vwCl[c']'(by rw [hcl]; exact z)) := List.getElem?_eq_getElem (by rw [hcl]; exact z)
    have hn := (ev_clp hr).1
    obtain ⟨-, hf, kC, hkC, -⟩ := hK.1 _ _ hr
    obtain ⟨c0, t0, f1, f2, f3⟩ := Cond.castable_spec (ha c' z)
    rw [← hn] at f1
    cases hf.symm.trans f1
    exact ⟨t0, f2, ⟨kC, hkC⟩, f3⟩
  · rw [if_neg z]
    obtain ⟨hT, hR⟩ := hA.1 c' (by omega) h25
    obtain ⟨c0, t0, f1, f2, f3⟩ := Cond.castable_spec (hb c' h25 (by omega))
    have hf : s.vm.findClass (gl_an c') = some (TY c') := by
      unfold gl_an
      have h8 : c' = 17 ∨ c' = 18 ∨ c' = 19 ∨ c' = 20 ∨ c' = 21 ∨ c' = 22 ∨ c' = 23 ∨ c' = 24 := by omega
      rcases h8 with rfl | rfl | rfl | rfl | rfl | rfl | rfl | rfl
      · exact hR
      · exact hR
      · exact hR
      all_goals (obtain ⟨_, _, -, -, -, h4⟩ := hR; exact h4)
    cases hf.symm.trans f1
    obtain ⟨-, kA, hk, -⟩ := hT 0 (fun _ => .null)
    exact ⟨t0, f2, ⟨kA, hk⟩, f3⟩
theorem gl_AS (hK : va_K G vwCl [] s) (hA : ew_AT TY s) (ha : ∀ c, c < 17 → va_Nw (.castable (ew_on c) "java/lang/Object") s) (hb : ∀ t, t < 25 → 17 ≤ t → va_Nw (.castable (gl_an t) "java/lang/Object") s) : ew_AS TY G s := by
  intro k k' i' hasg kA comp t hkA hkind
  have own : ∀ (c c' : Nat) (C : String), ew_ct k = c → ew_ct k' = c' → 20 ≤ c → c < 25 → c' < 17 → ew_ty c = .object C → ew_on c' = C → (∃ kc, s.vm.classes[comp]? = some kc) ∧ ∃ kv, s.vm.classes[(if ew_ct k' < 17 then G.1 (ew_ct k') else TY (ew_ct k'))]? = some kv ∧ s.vm.assignable (if ew_ct k' < 17 then G.1 (ew_ct k') else TY (ew_ct k')) comp = true := by
    intro c c' C e e' h1 h2 h3 ht ho
    rw [e'] at *
    rw [e] at hkA
    rw [if_pos h3]
    have hra := (hA.1 c (by omega) h2).2
    rw [ht] at hra
    obtain ⟨kA', comp', r1, r2, r3, -⟩ := hra
    cases hkA.symm.trans r1
    cases hkind.symm.trans r2
    have hcl : vwCl.length = 17 := rfl
    have hr : vwCl[c']? = some (vwCl[c']'(by rw [hcl]; exact h3)) := List.getElem?_eq_getElem (by rw [hcl]; exact h3)
    have hn := (ev_clp hr).1
    have hC := (hK.1 _ _ hr).2
    obtain ⟨hf, kC, hkC, -⟩ := id hC
    rw [hn, ho] at hf
    cases hf.symm.trans r3
    exact ⟨⟨kC, hkC⟩, kC, hkC, va_assign hC⟩
  unfold ew_asg at hasg
  simp only [Bool.or_eq_true, Bool.and_eq_true] at hasg
  rcases hasg with (((h | h) | h) | h) | h
  · have e := ew_beq h.1
    have h25 : ew_ct k' < 25 := Nat.le_of_ble_eq_true h.2
    have hra := (hA.1 20 (by decide) (by decide)).2
    obtain ⟨kA', comp', r1, r2, r3, -⟩ := hra
    rw [e] at hkA
    cases hkA.symm.trans r1
    cases hkind.symm.trans r2
    obtain ⟨co, g1, ⟨kv, g2⟩, g3⟩ := gl_obj hK hA ha hb h25
    cases g1.symm.trans r3
    obtain ⟨kc, hkc, -⟩ := Vm.findClass_spec r3
    exact ⟨⟨kc, hkc⟩, kv, g2, g3⟩
  · exact own 21 3 _ (ew_beq h.1) (ew_beq h.2) (by decide) (by decide) (by decide) rfl rfl
  · exact own 22 4 _ (ew_beq h.1) (ew_beq h.2) (by decide) (by decide) (by decide) rfl rfl
  · exact own 23 6 _ (ew_beq h.1) (ew_beq h.2) (by decide) (by decide) (by decide) rfl rfl
  · exact own 24 10 _ (ew_beq h.1) (ew_beq h.2) (by decide) (by decide) (by decide) rfl rfl
end
