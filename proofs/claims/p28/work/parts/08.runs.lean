/-! Runs: the least predicate closed under steps; calls by depth. -/
def ew_W (C : Nat → List ew_V → ew_H → (ew_R → ew_H → Prop) → Prop) (y : Nat) (K : ew_R → ew_H → Prop) (c : ew_C) : Prop := ∀ Q : ew_C → Prop, (∀ c, ew_G C y Q K c → Q c) → Q c
def ew_M (C : Nat → List ew_V → ew_H → (ew_R → ew_H → Prop) → Prop) : Prop := ∀ (z : Nat) (as : List ew_V) (h : ew_H) (K K' : ew_R → ew_H → Prop), (∀ r h, K r h → K' r h) → C z as h K → C z as h K'
theorem ew_sw_mono {P P' : ew_C → Prop} (hP : ∀ c, P c → P' c) (x : Int32) (d : ew_C) : ∀ (l : List ew_C) (v : Int32), ew_sw P x v l d → ew_sw P' x v l d
  | [], _, h => hP _ h
  | _ :: l, v, h => ⟨fun e => hP _ (h.1 e), fun e => ew_sw_mono hP x d l (v + 1) (h.2 e)⟩
theorem ew_G_mono {C : Nat → List ew_V → ew_H → (ew_R → ew_H → Prop) → Prop} (hC : ew_M C) {y : Nat} {P P' : ew_C → Prop} {K K' : ew_R → ew_H → Prop} (hP : ∀ c, P c → P' c) (hK : ∀ r h, K r h → K' r h) {c : ew_C} (g : ew_G C y P K c) : ew_G C y P' K' c := by
  unfold ew_G at g ⊢
  cases h1 : ew_pg y c.1 with
  | none => simp only [h1] at g
  | some q =>
    obtain ⟨i, nx, tg, cv⟩ := q
    simp only [h1] at g ⊢
    cases h2 : ew_st y (et_cls y) i c.1 nx tg cv c.2.1 c.2.2.1 c.2.2.2 with
    | none => simp only [h2] at g
    | some n =>
      simp only [h2] at g ⊢
      rcases n with c' | ⟨p, a, b⟩ | ⟨p, a⟩ | ⟨z, as, rest, nx⟩ | ⟨p, r, h⟩ | ⟨x, v, l, d⟩
      · exact hP _ g
      · exact ⟨fun e => hP _ (g.1 e), fun e => hP _ (g.2 e)⟩
      · exact ⟨g.1, hP _ g.2⟩
      · refine hC _ _ _ _ _ (fun r h' hr => ?_) g
        rcases r with v | x
        · exact hP _ hr
        · obtain ⟨ht, hr⟩ := hr
          refine ⟨ht, ?_⟩
          cases h3 : ew_hd y c.1 x with
          | none => simp only [h3] at hr ⊢; exact hK _ _ hr
          | some t => simp only [h3] at hr ⊢; exact hP _ hr
      · exact ⟨g.1, hK _ _ g.2⟩
      · exact ew_sw_mono hP x d l v g
theorem ew_W.fold {C : Nat → List ew_V → ew_H → (ew_R → ew_H → Prop) → Prop} (hC : ew_M C) {y : Nat} {K : ew_R → ew_H → Prop} {c : ew_C} (g : ew_G C y (ew_W C y K) K c) : ew_W C y K c :=
  fun Q hQ => hQ c (ew_G_mono hC (fun _ w => w Q hQ) (fun _ _ k => k) g)
theorem ew_W.mono {C : Nat → List ew_V → ew_H → (ew_R → ew_H → Prop) → Prop} (hC : ew_M C) {y : Nat} {K K' : ew_R → ew_H → Prop} (hK : ∀ r h, K r h → K' r h) {c : ew_C} (w : ew_W C y K c) : ew_W C y K' c :=
  w _ (fun _ g => ew_W.fold hC (ew_G_mono hC (fun _ k => k) hK g))
def ew_ar (as : List ew_V) : List (Option ew_V) := match as with
  | [] => []
  | v :: as => bif Nat.beq (ew_cat v) 2 then some v :: none :: ew_ar as else some v :: ew_ar as
/-- a method's start -/
def ew_en (y : Nat) (as : List ew_V) (h : ew_H) : ew_C := (bif Nat.ble (ew_ar as).length (et_mx y) then 0 else 65535, ew_ar as ++ List.replicate (et_mx y - (ew_ar as).length) none, [], h)
/-- no method of the library but the tables' own -/
def ew_In (_ : Nat) (_ : List ew_V) (_ : ew_H) (_ : ew_R → ew_H → Prop) : Prop := False
def ew_Call : Nat → Nat → List ew_V → ew_H → (ew_R → ew_H → Prop) → Prop
  | 0, _, _, _, _ => False
  | d + 1, y, as, h, K => (∃ r h', ew_W (ew_Call d) y (fun r1 h1 => r1 = r ∧ h1 = h') (ew_en y as h) ∧ K r h') ∨ ew_In y as h K
theorem ew_In_mono {y : Nat} {as : List ew_V} {h : ew_H} {K K' : ew_R → ew_H → Prop} (_ : ∀ r h, K r h → K' r h) (g : ew_In y as h K) : ew_In y as h K' := g
theorem ew_Call_mono : ∀ d : Nat, ew_M (ew_Call d)
  | 0 => fun _ _ _ _ _ _ g => g.elim
  | d + 1 => fun z as h K K' hK g => by
    rcases g with ⟨r, h', w, k⟩ | g
    · exact Or.inl ⟨r, h', w, hK _ _ k⟩
    · exact Or.inr (ew_In_mono hK g)
theorem ew_call {d y : Nat} {as : List ew_V} {h : ew_H} {K : ew_R → ew_H → Prop} (w : ew_W (ew_Call d) y K (ew_en y as h)) : ew_Call (d + 1) y as h K := by
  refine Or.inl (w (fun c => ∃ r h', ew_W (ew_Call d) y (fun r1 h1 => r1 = r ∧ h1 = h') c ∧ K r h') (fun c g => ?_))
  have hC := ew_Call_mono d
  have fold : ∀ {r h'}, ew_G (ew_Call d) y (ew_W (ew_Call d) y (fun r1 h1 => r1 = r ∧ h1 = h')) (fun r1 h1 => r1 = r ∧ h1 = h') c → ew_W (ew_Call d) y (fun r1 h1 => r1 = r ∧ h1 = h') c := fun g => ew_W.fold hC g
  unfold ew_G at g fold
  cases h1 : ew_pg y c.1 with
  | none => simp only [h1] at g
  | some q =>
    obtain ⟨i, nx, tg, cv⟩ := q
    simp only [h1] at g fold
    cases h2 : ew_st y (et_cls y) i c.1 nx tg cv c.2.1 c.2.2.1 c.2.2.2 with
    | none => simp only [h2] at g
    | some n =>
      simp only [h2] at g fold
      rcases n with c' | ⟨p, a, b⟩ | ⟨p, a⟩ | ⟨z, as, rest, nx⟩ | ⟨p, r, h⟩ | ⟨x, v, l, dd⟩
      · obtain ⟨r, h', w, k⟩ := g
        exact ⟨r, h', fold w, k⟩
      · by_cases e : p
        · obtain ⟨r, h', w, k⟩ := g.1 e
          exact ⟨r, h', fold ⟨fun _ => w, fun n => absurd e n⟩, k⟩
        · obtain ⟨r, h', w, k⟩ := g.2 e
          exact ⟨r, h', fold ⟨fun n => absurd n e, fun _ => w⟩, k⟩
      · obtain ⟨e, r, h', w, k⟩ := g
        exact ⟨r, h', fold ⟨e, w⟩, k⟩
      · dsimp only at g fold
        have key : ∃ r0 h0, ew_Call d z as c.2.2.2 (fun r h => r = r0 ∧ h = h0) ∧ (match r0 with
            | .inl v => (fun c => ∃ r h', ew_W (ew_Call d) y (fun r1 h1 => r1 = r ∧ h1 = h') c ∧ K r h') (nx, c.2.1, v.toList ++ rest, h0)
            | .inr x => ew_th z = true ∧ match ew_hd y c.1 x with
              | some t => (fun c => ∃ r h', ew_W (ew_Call d) y (fun r1 h1 => r1 = r ∧ h1 = h') c ∧ K r h') (t.1, ew_un c.2.1 t.2, [], h0)
              | none => K (.inr x) h0) := by
          cases d with
          | zero => exact g.elim
          | succ d =>
            rcases g with ⟨r0, h0, w0, k0⟩ | g
            · exact ⟨r0, h0, Or.inl ⟨r0, h0, w0, rfl, rfl⟩, k0⟩
            · exact g.elim
        obtain ⟨r0, h0, hc, hk⟩ := key
        rcases r0 with v | x
        · obtain ⟨r, h', w, k⟩ := hk
          refine ⟨r, h', fold (hC _ _ _ _ _ (fun r1 h1 e => ?_) hc), k⟩
          obtain ⟨rfl, rfl⟩ := e
          exact w
        · obtain ⟨ht, hk⟩ := hk
          cases h3 : ew_hd y c.1 x with
          | none =>
            simp only [h3] at hk
            refine ⟨.inr x, h0, fold (hC _ _ _ _ _ (fun r1 h1 e => ?_) hc), hk⟩
            obtain ⟨rfl, rfl⟩ := e
            simp only [h3]
            exact ⟨ht, trivial, trivial⟩
          | some t =>
            simp only [h3] at hk
            obtain ⟨r, h', w, k⟩ := hk
            refine ⟨r, h', fold (hC _ _ _ _ _ (fun r1 h1 e => ?_) hc), k⟩
            obtain ⟨rfl, rfl⟩ := e
            simp only [h3]
            exact ⟨ht, w⟩
      · exact ⟨r, h, fold ⟨g.1, rfl, rfl⟩, g.2⟩
      · dsimp only at g fold
        have key : ∀ (l : List ew_C) (v : Int32), ew_sw (fun c => ∃ r h', ew_W (ew_Call d) y (fun r1 h1 => r1 = r ∧ h1 = h') c ∧ K r h') x v l dd → ∃ r h', ew_sw (ew_W (ew_Call d) y (fun r1 h1 => r1 = r ∧ h1 = h')) x v l dd ∧ K r h' := by
          intro l
          induction l with
          | nil => exact fun v g => g
          | cons c0 l ih =>
            intro v g
            by_cases e : x = v
            · obtain ⟨r, h', w, k⟩ := g.1 e
              exact ⟨r, h', ⟨fun _ => w, fun n => absurd e n⟩, k⟩
            · obtain ⟨r, h', w, k⟩ := ih _ (g.2 e)
              exact ⟨r, h', ⟨fun n => absurd n e, fun _ => w⟩, k⟩
        obtain ⟨r, h', w, k⟩ := key _ _ g
        exact ⟨r, h', fold w, k⟩
/-- n steps at once, till a pc of sp -/
def ew_Z (C : Nat → List ew_V → ew_H → (ew_R → ew_H → Prop) → Prop) (y : Nat) (K : ew_R → ew_H → Prop) (sp : Nat → Bool) (P : ew_C → Prop) : Nat → ew_C → Prop
  | 0, c => P c
  | n + 1, c => ew_G C y (fun c' => bif sp c'.1 then P c' else ew_Z C y K sp P n c') K c
theorem ew_run {C : Nat → List ew_V → ew_H → (ew_R → ew_H → Prop) → Prop} (hC : ew_M C) {y : Nat} {K : ew_R → ew_H → Prop} (sp : Nat → Bool) : ∀ (n : Nat) {c : ew_C}, ew_Z C y K sp (ew_W C y K) n c → ew_W C y K c
  | 0, _, h => h
  | n + 1, _, h => ew_W.fold hC (ew_G_mono hC (fun c' w => by
      cases e : sp c'.1 with
      | true => rw [e, cond_true] at w; exact w
      | false => rw [e, cond_false] at w; exact ew_run hC sp n w) (fun _ _ k => k) h)
theorem ew_go {d y : Nat} {K : ew_R → ew_H → Prop} {c : ew_C} (sp : Nat → Bool) (n : Nat) (h : ew_Z (ew_Call d) y K sp (ew_W (ew_Call d) y K) n c) : ew_W (ew_Call d) y K c := ew_run (ew_Call_mono d) sp n h
