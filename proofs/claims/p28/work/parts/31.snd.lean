/-! Every run of the small machine is a contract of the machine: by the depth of calls. -/
section GF
variable {l : Launch} {G : va_G} {TY : Nat → ClassId} {sz : Nat} {H0 : Heap} {NW : List Cond} {Wd : State → Prop} {CK : Nat → Nat → Option Nat}
theorem ew_entry {p : Program} {e : Env} {R : Room} {s : State} {m : MethodId} {below : List Frame} {meth : Method} {c0 : Code} {Q : State → Prop} {y : Nat} {as : List ew_V} {h hE : ew_H} {a : Nat → Nat → Nat} (hlen : (ew_ar as).length ≤ et_mx y) (I : ew_I G TY sz H0 a h s.heap) (hw : ∀ v ∈ as, ew_wf h v)
    (k : ew_Q p l e R s m (as.map (ew_c a)).toArray below meth c0 G TY sz H0 Q y h hE a (ew_en y as h)) : W p l e R s m (as.map (ew_c a)).toArray below meth c0 s.heap [] 0 0 Q (entryFrame m (as.map (ew_c a)).toArray (et_mx y)) := by
  have hen : ew_en y as h = (0, ew_ar as ++ List.replicate (et_mx y - (ew_ar as).length) none, [], h) := by
    unfold ew_en
    rw [Nat.ble_eq_true_of_le hlen]
    rfl
  rw [hen] at k
  have hl := lv_entry (as.map (ew_c a)) (n := et_mx y) (by rw [ew_ar_slots]; exact hlen)
  rw [lg_entry_eq]
  have := (k (ew_le.rf h)).2 a s.heap [] 0 0 _ ⟨ew_ex.rf h a, I, by rw [ew_ar_lp]; exact hl, by dsimp only; rw [List.length_append, List.length_replicate]; omega, fun v hv => ?_, fun v (hv : v ∈ ([] : List ew_V)) => absurd hv List.not_mem_nil, fun q hq => absurd hq List.not_mem_nil, (by show 0 + h.2.2.2.2.1 = h.2.2.2.2.1; omega), (by show 0 + h.2.2.2.2.2 = h.2.2.2.2.2; omega)⟩
  · exact this
  · rcases List.mem_append.mp hv with q | q
    · exact hw v (ew_ar_mem q)
    · have := List.eq_of_mem_replicate q
      cases this
theorem ew_fits_len {d y : Nat} {as : List ew_V} {h : ew_H} {K : ew_R → ew_H → Prop} (hlt : ∀ y x q, ew_pg y x = some q → x < 65535) (w : ew_W (ew_Call d) y K (ew_en y as h)) : (ew_ar as).length ≤ et_mx y ∧ ∃ q, ew_pg y 0 = some q := by
  have h1 : ∃ q, ew_pg y (ew_en y as h).1 = some q := w (fun c => ∃ q, ew_pg y c.1 = some q) (fun c g => by
    unfold ew_G at g
    cases e : ew_pg y c.1 with
    | none => rw [e] at g; exact g.elim
    | some q => exact ⟨q, rfl⟩)
  obtain ⟨q, hq⟩ := h1
  unfold ew_en at hq
  dsimp only at hq
  cases hb : Nat.ble (ew_ar as).length (et_mx y) with
  | true => rw [hb] at hq; exact ⟨Nat.le_of_ble_eq_true hb, q, hq⟩
  | false =>
    rw [hb] at hq
    have := hlt _ _ _ hq
    exact absurd this (by decide)
theorem ew_sound (S : ew_Sf l G TY sz H0 CK NW Wd) : ∀ d, ew_snd l G TY sz H0 CK Wd d := by
  intro d
  induction d using Nat.strongRecOn with
  | _ d IHs =>
    have IH : ∀ d', d = d' + 1 → ew_snd l G TY sz H0 CK Wd d' := fun d' e => IHs d' (by omega)
    intro z as h r h' hc
    obtain ⟨hW, T, hl, hZ, hSP, hXP, hHP, hYW, hIn⟩ := id S
    have hle := ew_Call_le _ _ _ _ _ _ hc
    have b1 := hle.2.1
    have b2 := hle.2.2
    rcases hc with ⟨r0, h0, w, rfl, rfl⟩ | hin
    · obtain ⟨hlen, q, hq⟩ := ew_fits_len (fun y x q h => (T.2.2.2.2.2.2.2.2.2.2.2.2.2.2.1 y x q h).1) w
      obtain ⟨-, -, hpl, hon, hini⟩ := T.2.2.2.2.2.2.2.2.2.2.2.2.2.2.1 _ _ _ hq
      refine ⟨fun hwr => ⟨fun v hv => ?_, fun x hx => ?_⟩, fun hwr v hv => ?_⟩
      · subst hv
        intro a
        refine Met.ofW (cc := ew_cd z) (maxL := et_mx z) (ret := ew_rt z) hpl rfl ?_
        intro p e s m args below meth c s₁ B hml hv
        obtain ⟨rfl, I, hwd, hw, hck⟩ := hv
        have hts : ∀ w ∈ ew_TW, w.before (as.map (ew_c a)).toArray s = true := fun w hw => atoms_spec (ws := ew_cw z :: ew_TW) B.pre w (List.mem_cons_of_mem _ hw)
        have X : ew_Cx p l e (ew_rm d h h0) s m (as.map (ew_c a)).toArray below meth c NW G TY Wd d z := ⟨B.exec, B.bytes, hml, by rw [hon]; exact findClass_of_methodNamed B.named, hts, hW, hwd, Nat.le_refl _, Nat.le_refl _, fun hi => (name_of_methodNamed B.named B.method).1.trans (hini hi)⟩
        refine ew_entry hlen I hw (w _ (ew_body (Q := MQ below (ew_Qc G TY sz H0 h a v h0) (as.map (ew_c a)).toArray s (h0.2.2.2.2.1 - h.2.2.2.2.1) (h0.2.2.2.2.2 - h.2.2.2.2.2) (fun q => sz ≤ q)) (hE := h0) (hS := h) (aS := a) S X hck (fun q hq => I.2.2.2.2.2 q hq) IH (fun h9 => by rw [hwr] at h9; cases h9) (Nat.le_refl _) (Nat.le_refl _) (fun pc ls v' ins hv hd hok e1 => ?_) (fun pc ls st h ik xx _ _ e1 _ => by cases e1) (fun pc ls st h a H locs cells slots L g0 rest xx _ _ _ _ e1 => by cases e1)))
        cases e1
        exact ee_ret X B.returns B.notSynchronized hd hok hv
      · subst hx
        intro a
        refine vx_ofW (cc := ew_cd z) (maxL := et_mx z) (ret := ew_rt z) hpl rfl ?_
        intro p e s m args below meth c s₁ B hml hnt hv
        obtain ⟨rfl, I, hwd, hw, hck⟩ := hv
        have hts : ∀ w ∈ ew_TW, w.before (as.map (ew_c a)).toArray s = true := fun w hw => atoms_spec (ws := ew_cw z :: ew_TW) B.pre w (List.mem_cons_of_mem _ hw)
        have X : ew_Cx p l e (ew_rm d h h0) s m (as.map (ew_c a)).toArray below meth c NW G TY Wd d z := ⟨B.exec, B.bytes, hml, by rw [hon]; exact findClass_of_methodNamed B.named, hts, hW, hwd, Nat.le_refl _, Nat.le_refl _, fun hi => (name_of_methodNamed B.named B.method).1.trans (hini hi)⟩
        refine ew_entry hlen I hw (w _ (ew_body (Q := vx_MQ below (fun _ _ _ _ => False) (ew_XC G TY sz H0 h a x h0) (as.map (ew_c a)).toArray s (h0.2.2.2.2.1 - h.2.2.2.2.1) (h0.2.2.2.2.2 - h.2.2.2.2.2) (fun q => sz ≤ q)) (hE := h0) (hS := h) (aS := a) S X hck (fun q hq => I.2.2.2.2.2 q hq) IH (fun h9 => by rw [hwr] at h9; cases h9) (Nat.le_refl _) (Nat.le_refl _) (fun pc ls v' ins hv hd hok e1 => by cases e1) (fun pc ls st h ik xx hXP hc e1 e2 => ?_) (fun pc ls st h a H locs cells slots L g0 rest xx hle0 hle hSt hr e1 => ?_)))
        · cases e1
          exact ee_throw X hl B.notSynchronized hnt hZ (fun q hq => I.2.2.2.2.2 q hq) hXP hc e2 (Nat.le_refl _) (Nat.le_refl _)
        · cases e1
          exact ex_out B.notSynchronized hnt hle0 hle hSt hr
      · subst hv
        intro a
        refine ew_ofWH (cc := ew_cd z) (maxL := et_mx z) (ret := ew_rt z) (hh := ew_hh z) hpl rfl ?_
        intro p e s m args below meth c s₁ B hml hv
        obtain ⟨rfl, I, hwd, hw, hck⟩ := hv
        have hts : ∀ w ∈ ew_TW, w.before (as.map (ew_c a)).toArray s = true := fun w hw => atoms_spec (ws := ew_cv z :: ew_TW) B.pre w (List.mem_cons_of_mem _ hw)
        have hcv : (ew_cv z).before (as.map (ew_c a)).toArray s = true := atoms_spec (ws := ew_cv z :: ew_TW) B.pre _ List.mem_cons_self
        have X : ew_Cx p l e (ew_rm d h h0) s m (as.map (ew_c a)).toArray below meth c NW G TY Wd d z := ⟨B.exec, B.bytes, hml, by rw [hon]; exact findClass_of_methodNamed B.named, hts, hW, hwd, Nat.le_refl _, Nat.le_refl _, fun hi => (name_of_methodNamed B.named B.method).1.trans (hini hi)⟩
        refine ew_entry hlen I hw (w _ (ew_body (Q := MQ below (ew_Qc G TY sz H0 h a v h0) (as.map (ew_c a)).toArray s (h0.2.2.2.2.1 - h.2.2.2.2.1) (h0.2.2.2.2.2 - h.2.2.2.2.2) (fun q => sz ≤ q)) (hE := h0) (hS := h) (aS := a) S X hck (fun q hq => I.2.2.2.2.2 q hq) IH (fun _ => vx_table (x := ew_nm z) B hcv) (Nat.le_refl _) (Nat.le_refl _) (fun pc ls v' ins hv hd hok e1 => ?_) (fun pc ls st h ik xx _ _ e1 _ => by cases e1) (fun pc ls st h a H locs cells slots L g0 rest xx _ _ _ _ e1 => by cases e1)))
        cases e1
        exact ee_ret X B.returns B.notSynchronized hd hok hv
    · obtain ⟨q1, v0, rfl, hM⟩ := hIn d z as h r h' hin
      refine ⟨fun _ => ⟨fun v hv => ?_, fun x hx => by cases hx⟩, fun hwr => by rw [q1] at hwr; cases hwr⟩
      cases hv
      exact hM
end GF
