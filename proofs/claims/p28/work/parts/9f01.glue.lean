/-! The glue to the machine: what the start gives of classes and arrays. -/
section
variable {s : State} {A : Array Value} {G : va_G} {TY : Nat → ClassId}
theorem gl_tw (hts : ∀ w ∈ lw_tbl, w.before A s = true) : ∀ w ∈ ew_TW, w.before A s = true := fun w hw => hts w (List.mem_filter.mp hw).1
theorem gl_K (hts : ∀ w ∈ ew_TW, w.before A s = true) : ∃ G : va_G, va_K G vwCl [] s := by
  have k : ∀ c : Nat, ∃ p : ClassId × (Nat → Nat), ∀ r : vw_C, vwCl[c]? = some r → u_Kn s r.1 r.2.1 r.2.2 p.1 p.2 := fun c => by
    cases hr : vwCl[c]? with
    | none => exact ⟨(0, fun _ => 0), fun r h => (by cases h)⟩
    | some r =>
      obtain ⟨-, h2, h3, -⟩ := ev_clp hr
      obtain ⟨cC, iS, hK⟩ := u_known (C := r.1) (T := r.2.1) (N := r.2.2) (n := r.2.2) hts h2.1 (hts _ h3)
      exact ⟨(cC, iS), fun r' h => (by cases h; exact hK)⟩
  exact ⟨(fun c => (Classical.choose (k c)).1, fun c => (Classical.choose (k c)).2), fun c q hq => Classical.choose_spec (k c) q hq, fun k q hk => (by simp at hk)⟩
theorem gl_arr {ty : FieldType} (h : (Cond.arrayClass ty).before A s = true) : ∃ cA, ArrOfT s cA ty ∧ s.vm.findClass ("[" ++ ty.toString) = some cA := by
  obtain ⟨c, k, comp, h1, h2, h3⟩ := Cond.arrayClass_spec h
  exact ⟨c, fun n z => ⟨fun k h => (by cases h), k, h2, comp, h3⟩, h1⟩
theorem gl_arO {C : String} (h : va_AO C s) : ∃ cA, ArrOfT s cA (.object C) ∧ va_RA s cA (.object C) := by
  obtain ⟨comp, c, k, h1, -, h3, h4, h5⟩ := Cond.arrayOver_spec h
  exact ⟨c, fun n z => ⟨fun k h => (by cases h), k, h3, comp, h4⟩, k, comp, h3, h4, h1, h5⟩
theorem gl_AA.moved {u U : State} (hvm : u.vm.Alike U.vm) (h : ew_AA u) : ew_AA U := by
  obtain ⟨comp, c, k, h1, h2, h3, h4, h5⟩ := arrayOverA_spec h
  obtain ⟨k', hk', he⟩ := hvm.2.2 _ _ h3
  have hi : (U.vm.classes.findIdx? fun (x : Class) => match x.kind with | .array component _ => component == comp | _ => false) = some c := by
    rw [hvm.findIdx?_eq _ (fun _ => rfl)]
    exact h2
  have hkind : k'.kind = .array comp (.array .int) := by rw [he]; exact h4
  have f1 : U.vm.findClass (FieldType.array .int).toString = some comp := by rw [hvm.findClass]; exact h1
  have f2 : U.vm.findClass ("[" ++ (FieldType.array .int).toString) = some c := by rw [hvm.findClass]; exact h5
  unfold ew_AA Cond.before Cond.holds
  simp only [Cond.value]
  rw [f1, Option.bind_some]
  refine (congrArg (fun o : Option Nat => (o.bind (fun c => (U.vm.classes[c]?).map fun (k : Class) => match k.kind with | .array _ ty => decide (ty = FieldType.array .int) && decide (U.vm.findClass ("[" ++ (FieldType.array .int).toString) = some c) | _ => false) == some true)) hi).trans ?_
  simp [hk', hkind, f2]
theorem gl_AT (b17 : (Cond.arrayClass .int).before A s = true) (b18 : (Cond.arrayClass .boolean).before A s = true) (b20 : ew_AA s) (b21 : va_AO "ChannelWinter$Breaker" s) (b22 : va_AO "ChannelWinter$Cell" s) (b23 : va_AO "ChannelWinter$Port" s) (b24 : va_AO "ChannelWinter$Ship" s) {c1 : ClassId} (t1 : ArrOfT s c1 .int) : ∃ TY : Nat → ClassId, ew_AT TY s ∧ TY 117 = c1 := by
  obtain ⟨a17, x17, y17⟩ := gl_arr b17
  obtain ⟨a18, x18, y18⟩ := gl_arr b18
  obtain ⟨p20, a20, k20, -, -, x20, z20, y20⟩ := arrayOverA_spec b20
  obtain ⟨a21, x21⟩ := gl_arO b21
  obtain ⟨a22, x22⟩ := gl_arO b22
  obtain ⟨a23, x23⟩ := gl_arO b23
  obtain ⟨a24, x24⟩ := gl_arO b24
  refine ⟨fun t => bif Nat.beq t 17 then a17 else bif Nat.beq t 18 then a18 else bif Nat.beq t 19 then a17 else bif Nat.beq t 20 then a20 else bif Nat.beq t 21 then a21 else bif Nat.beq t 22 then a22 else bif Nat.beq t 23 then a23 else bif Nat.beq t 24 then a24 else bif Nat.beq t 117 then c1 else a17, ⟨fun t h1 h2 => ?_, fun k hk => ?_⟩, rfl⟩
  · have h8 : t = 17 ∨ t = 18 ∨ t = 19 ∨ t = 20 ∨ t = 21 ∨ t = 22 ∨ t = 23 ∨ t = 24 := by omega
    rcases h8 with rfl | rfl | rfl | rfl | rfl | rfl | rfl | rfl
    · exact ⟨x17, y17⟩
    · exact ⟨x18, y18⟩
    · exact ⟨x17, y17⟩
    · exact ⟨fun n z => ⟨fun k h => (by cases h), k20, x20, p20, z20⟩, y20⟩
    · exact x21
    · exact x22
    · exact x23
    · exact x24
  · rcases hk with rfl | rfl
    · exact t1
    · exact x17
theorem gl_self (vm : Vm) (c : ClassId) : vm.assignable c c = true := by
  show vm.assignableAux (255 + 1) c c = true
  rw [Vm.assignableAux]
  simp only [beq_self_eq_true, Bool.true_or]
theorem gl_AS (hK : va_K G vwCl [] s) (hA : ew_AT TY s) (hAA : ew_AA s) : ew_AS TY G s := by
  intro k k' i' hasg kA comp t hkA hkind
  have own : ∀ (c c' : Nat) (C : String), ew_ct k = c → ew_ct k' = c' → 20 ≤ c → c < 25 → c' < 17 → ew_ty c = .object C → ew_on c' = C → (∃ kc, s.vm.classes[comp]? = some kc) ∧ ∃ kv, s.vm.classes[(if ew_ct k' < 17 then G.1 (ew_ct k') else TY (ew_ct k'))]? = some kv ∧ s.vm.assignable (if ew_ct k' < 17 then G.1 (ew_ct k') else TY (ew_ct k')) comp = true := by
    intro c c' C e e' h1 h2 h3 ht ho
    rw [e'] at *
    rw [e] at hkA
    rw [if_pos h3]
    have hra := (hA.1 c (by omega) h2).2
    rw [ht] at hra
    obtain ⟨kA', comp', r1, r2, r3, -⟩ := hra
    cases hkA.symm.trans r1
    cases hkind.symm.trans r2
    have hcl : vwCl.length = 17 := rfl
    have hr : vwCl[c']? = some (vwCl[c']'(by rw [hcl]; exact h3)) := List.getElem?_eq_getElem (by rw [hcl]; exact h3)
    have hn := (ev_clp hr).1
    have hC := (hK.1 _ _ hr).2
    obtain ⟨hf, kC, hkC, -⟩ := id hC
    rw [hn, ho] at hf
    cases hf.symm.trans r3
    exact ⟨⟨kC, hkC⟩, kC, hkC, va_assign hC⟩
  unfold ew_asg at hasg
  simp only [Bool.or_eq_true, Bool.and_eq_true] at hasg
  rcases hasg with (((h | h) | h) | h) | h
  · have e := ew_beq h.1
    have e' := ew_beq h.2
    rw [e] at hkA
    rw [e', if_neg (by decide)]
    obtain ⟨q1, q2, q3, g1, -, g3, g4, g5⟩ := arrayOverA_spec hAA
    have hra : s.vm.findClass ("[" ++ (FieldType.array .int).toString) = some (TY 20) := (hA.1 20 (by decide) (by decide)).2
    cases hra.symm.trans g5
    cases hkA.symm.trans g3
    cases hkind.symm.trans g4
    have h17 : s.vm.findClass ("[" ++ FieldType.int.toString) = some (TY 17) := (hA.1 17 (by decide) (by decide)).2
    have e1 : (FieldType.array .int).toString = "[" ++ FieldType.int.toString := rfl
    rw [e1] at g1
    cases h17.symm.trans g1
    obtain ⟨-, kv, hkv, -⟩ := (hA.1 17 (by decide) (by decide)).1 0 (fun _ => .null)
    exact ⟨⟨kv, hkv⟩, kv, hkv, gl_self _ _⟩
  · exact own 21 3 _ (ew_beq h.1) (ew_beq h.2) (by decide) (by decide) (by decide) rfl rfl
  · exact own 22 4 _ (ew_beq h.1) (ew_beq h.2) (by decide) (by decide) (by decide) rfl rfl
  · exact own 23 6 _ (ew_beq h.1) (ew_beq h.2) (by decide) (by decide) (by decide) rfl rfl
  · exact own 24 10 _ (ew_beq h.1) (ew_beq h.2) (by decide) (by decide) (by decide) rfl rfl
end
