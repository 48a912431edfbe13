/-! The law as a whole, in the small machine. -/
theorem ew_W_get {d y : Nat} {K : ew_R → ew_H → Prop} {c : ew_C} (w : ew_W (ew_Call d) y K c) : ∃ r h', ew_W (ew_Call d) y (fun r1 h1 => r1 = r ∧ h1 = h') c ∧ K r h' := by
  refine w (fun c => ∃ r h', ew_W (ew_Call d) y (fun r1 h1 => r1 = r ∧ h1 = h') c ∧ K r h') (fun c g => ?_)
  have hC := ew_Call_mono d
  have fold : ∀ {r h'}, ew_G (ew_Call d) y (ew_W (ew_Call d) y (fun r1 h1 => r1 = r ∧ h1 = h')) (fun r1 h1 => r1 = r ∧ h1 = h') c → ew_W (ew_Call d) y (fun r1 h1 => r1 = r ∧ h1 = h') c := fun g => ew_W.fold hC g
  unfold ew_G at g fold
  cases h1 : ew_pg y c.1 with
  | none => simp only [h1] at g
  | some q =>
    obtain ⟨i, nx, tg, cv⟩ := q
    simp only [h1] at g fold
    cases h2 : ew_st y (et_cls y) i c.1 nx tg cv c.2.1 c.2.2.1 c.2.2.2 with
    | none => simp only [h2] at g
    | some n =>
      simp only [h2] at g fold
      rcases n with c' | ⟨p, a, b⟩ | ⟨p, a⟩ | ⟨z, as, rest, nx⟩ | ⟨p, r, h⟩ | ⟨x, v, l, dd⟩
      · obtain ⟨r, h', w, k⟩ := g
        exact ⟨r, h', fold w, k⟩
      · by_cases e : p
        · obtain ⟨r, h', w, k⟩ := g.1 e
          exact ⟨r, h', fold ⟨fun _ => w, fun n => absurd e n⟩, k⟩
        · obtain ⟨r, h', w, k⟩ := g.2 e
          exact ⟨r, h', fold ⟨fun n => absurd n e, fun _ => w⟩, k⟩
      · obtain ⟨e, r, h', w, k⟩ := g
        exact ⟨r, h', fold ⟨e, w⟩, k⟩
      · dsimp only at g fold
        have key : ∃ r0 h0, ew_Call d z as c.2.2.2 (fun r h => r = r0 ∧ h = h0) ∧ (match r0 with
            | .inl v => (fun c => ∃ r h', ew_W (ew_Call d) y (fun r1 h1 => r1 = r ∧ h1 = h') c ∧ K r h') (nx, c.2.1, v.toList ++ rest, h0)
            | .inr x => ew_th z = true ∧ match ew_hd y c.1 x with
              | some t => (fun c => ∃ r h', ew_W (ew_Call d) y (fun r1 h1 => r1 = r ∧ h1 = h') c ∧ K r h') (t.1, ew_un c.2.1 t.2, [], h0)
              | none => K (.inr x) h0) := by
          cases d with
          | zero => exact g.elim
          | succ d =>
            rcases g with ⟨r0, h0, w0, k0⟩ | g
            · exact ⟨r0, h0, Or.inl ⟨r0, h0, w0, rfl, rfl⟩, k0⟩
            · exact g.elim
        obtain ⟨r0, h0, hc, hk⟩ := key
        rcases r0 with v | x
        · obtain ⟨r, h', w, k⟩ := hk
          refine ⟨r, h', fold (hC _ _ _ _ _ (fun r1 h1 e => ?_) hc), k⟩
          obtain ⟨rfl, rfl⟩ := e
          exact w
        · obtain ⟨ht, hk⟩ := hk
          cases h3 : ew_hd y c.1 x with
          | none =>
            simp only [h3] at hk
            refine ⟨.inr x, h0, fold (hC _ _ _ _ _ (fun r1 h1 e => ?_) hc), hk⟩
            obtain ⟨rfl, rfl⟩ := e
            simp only [h3]
            exact ⟨ht, trivial, trivial⟩
          | some t =>
            simp only [h3] at hk
            obtain ⟨r, h', w, k⟩ := hk
            refine ⟨r, h', fold (hC _ _ _ _ _ (fun r1 h1 e => ?_) hc), k⟩
            obtain ⟨rfl, rfl⟩ := e
            simp only [h3]
            exact ⟨ht, w⟩
      · exact ⟨r, h, fold ⟨g.1, rfl, rfl⟩, g.2⟩
      · dsimp only at g fold
        have key : ∀ (l : List ew_C) (v : Int32), ew_sw (fun c => ∃ r h', ew_W (ew_Call d) y (fun r1 h1 => r1 = r ∧ h1 = h') c ∧ K r h') x v l dd → ∃ r h', ew_sw (ew_W (ew_Call d) y (fun r1 h1 => r1 = r ∧ h1 = h')) x v l dd ∧ K r h' := by
          intro l
          induction l with
          | nil => exact fun v g => g
          | cons c0 l ih =>
            intro v g
            by_cases e : x = v
            · obtain ⟨r, h', w, k⟩ := g.1 e
              exact ⟨r, h', ⟨fun _ => w, fun n => absurd e n⟩, k⟩
            · obtain ⟨r, h', w, k⟩ := ih _ (g.2 e)
              exact ⟨r, h', ⟨fun n => absurd n e, fun _ => w⟩, k⟩
        obtain ⟨r, h', w, k⟩ := key _ _ g
        exact ⟨r, h', fold w, k⟩
/-- where it ends, and from where to where it is to be taken -/
theorem lw_all (xs : Nat → Int32) {L : Nat} (hL : L ≤ 260) : ∃ (hE : ew_H) (S : List cx_U), cx_ck S = true ∧ hE.2.2.2.2.1 ≤ 751996 ∧ hE.2.2.2.2.2 ≤ 6845636 ∧
    ∀ Q : ew_C → Prop, (∀ c, ew_G (ew_Call 9) 242 Q (fun r1 h1 => r1 = .inl (some (ew_i 1)) ∧ h1 = hE) c → Q c) →
      (Q (8, cx_ls, [], ew_hp (cx_s1 xs) (cx_m1 (cx_ap (cx_h0 xs L) S))) → Q (8, cx_ls, [], cx_ap (cx_h0 xs L) S)) → Q (ew_en 242 [ew_o 17 0] (cx_h0 xs L)) := by
  obtain ⟨S, hR, hC⟩ := cx_main
  obtain ⟨I, hz⟩ := cx_SI (xs := xs)
  obtain ⟨b1, b2, b3⟩ := cx_b (xs := xs) (L := L) hC
  obtain ⟨r, hE, w, hr, h1, h2⟩ := ew_W_get (lw_body (d := 1) (s := cx_s1 xs) (m := cx_m1 (cx_ap (cx_h0 xs L) S)) (told := 0) (K := fun r h => r = .inl (some (ew_i 1)) ∧ h.2.2.2.2.1 ≤ 751996 ∧ h.2.2.2.2.2 ≤ 6845636) (by omega) I hz (fun s' m' h1 h2 => ⟨rfl, by show m'.2.2.2.2.1 ≤ 751996; omega, by show m'.2.2.2.2.2 ≤ 6845636; omega⟩))
  subst hr
  refine ⟨hE, S, hC, h1, h2, fun Q hQ hcv => ?_⟩
  have q := hcv (w Q hQ)
  exact cx_go_ok (h0 := cx_h0 xs L) (fun _ => rfl) (cx_cl_ok (fun _ => rfl) 9) hQ 100 _ false _ hR (fun e => Bool.noConfusion e) (fun _ => q)
