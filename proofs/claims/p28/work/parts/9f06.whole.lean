/-! The glue to the machine: all that is told of the launch, and the law's run. -/
theorem gl_Sf {s : State} {A : Array Value} {l : Launch} {G : va_G} {TY : Nat → ClassId} {b : Nat} (hflags : l.flags = flags0) (hts : ∀ w ∈ lw_tbl, w.before A s = true) (hgv : (Jvm.Cond.and given_1 narrow_1).before A s = true) (hK : va_K G vwCl [] s) (hA : ew_AT TY s) : ew_Sf l G TY s.heap.size s.heap (gl_CK b) ev_NW (gl_Wd s) := by
  have hq := flat_of_before _ hgv
  refine ⟨gl_WP hts hK hA, gl_TabW hts, ?_, gl_ZP hts (hq _ (by decide +kernel)) (hq _ (by decide +kernel)) _, gl_SP, fun y pc x nx tg cv c h1 h2 h3 => gl_XP hts hgv h1 h2 h3, fun y pc x t h => (by cases h), fun cl x z n c h hw => (by cases hw), fun d z as h r h' g => g.elim⟩
  unfold Launch.stackTraces
  rw [hflags]
  decide +kernel
theorem gl_whole {p : Program} {e : Env} {s : State} {m : MethodId} {below : List Frame} {meth : Method} {c : Code} (l : Launch) {b L : Nat} {xs : Nat → Int32} (hL : L ≤ 260) (C0 : lw_At p s m meth c b L xs) {G : va_G} {TY : Nat → ClassId} (hK : va_K G vwCl [] s) (hA : ew_AT TY s) (hC : gl_cells s TY b L xs) (S : ew_Sf l G TY s.heap.size s.heap (gl_CK b) ev_NW (gl_Wd s)) :
    W p l e room_1 s m #[Value.ref b] below meth c s.heap [] 0 0 (lw_Z below #[Value.ref b] s) (entryFrame m ([Value.ref b] : List Value).toArray 14) := by
  obtain ⟨hx, hb, hr, hml, hown, hts, hX, hbl, hlocks, hgv⟩ := C0
  obtain ⟨hE, Sx, hck, h1, h2, hall⟩ := lw_all xs hL
  have hob : cx_ob Sx Sx = true := by
    unfold cx_ck at hck
    rw [Bool.and_eq_true] at hck
    exact hck.1
  have X : ew_Cx p l e room_1 s m #[Value.ref b] below meth c ev_NW G TY (gl_Wd s) 9 242 := ⟨hx, hb, hml, hown, gl_tw hts, gl_WP hts hK hA, State.WarmedH.refl s, by decide, by decide, fun h => absurd h (by decide)⟩
  have I := gl_I (G := G) hC
  refine ew_entry (y := 242) (as := [ew_o 17 0]) (h := cx_h0 xs L) (hE := hE) (a := gl_a0 b) (by decide) I (fun v hv => by cases List.mem_singleton.mp hv; exact Or.inr rfl) ?_
  refine hall _ (ew_body (hS := cx_h0 xs L) (aS := gl_a0 b) S X gl_ck (fun q hq => rfl) (fun d' e => ew_sound S d') (fun e => absurd e (by decide)) (show hE.2.2.2.2.1 - 0 ≤ 751996 by omega) (show hE.2.2.2.2.2 - 0 ≤ 6845636 by omega) (fun pc ls v ins hv hd hok e1 => ?_) (fun pc ls st h ik xx _ _ e1 _ => by cases e1) (fun pc ls st h a H locs cells slots L g0 rest xx _ _ _ _ e1 => by cases e1)) (fun hq => ?_)
  · obtain rfl : v = some (ew_i 1) := Sum.inl.inj e1
    have hins : ins = .ireturn := by
      rcases hv with ⟨h, -⟩ | ⟨-, x, h⟩ | ⟨-, x, h⟩ | ⟨-, w, h, h'⟩ | ⟨-, h⟩
      · exact h
      · cases h
      · cases h
      · cases h; cases h'
      · cases h
    subst hins
    intro _
    refine ⟨ew_le.rf _, fun a H locs cells slots Ls hSt => ?_⟩
    obtain ⟨-, -, -, -, -, -, s7, s8, s9⟩ := hSt
    have s8 : cells + 0 = hE.2.2.2.2.1 := s8
    have s9 : slots + 0 = hE.2.2.2.2.2 := s9
    exact W.forget (locs := []) s7 (W.widen (k := 751996) (n := 6845636) (by omega) (by omega) (lw_ret hx hb hr hlocks (pc := pc) (H := H) (ls := Ls) hd))
  · intro hle
    obtain ⟨k1, k2⟩ := hq hle
    refine ⟨k1, fun a H locs cells slots Ls hSt => k2 a H locs cells slots Ls ?_⟩
    obtain ⟨s1, s2, s3, s4, s5, s6, s7, s8, s9⟩ := hSt
    exact ⟨s1, ew_I.cg s2 rfl (fun k i p f hp => cx_e1 hob k i p f hp) (fun k i p f => cx_wh hob k i p f), s3, s4, s5, s6, s7, s8, s9⟩
/-! The start: all together. -/
theorem whole_start {p : Program} {e : Env} {s : State} {m : MethodId} {below : List Frame} {meth : Method} {c : Code} (l : Launch) (hflags : l.flags = flags0) {b L : Nat} {xs : Nat → Int32} (hL : L ≤ 260) (C0 : lw_At p s m meth c b L xs) : W p l e room_1 s m #[Value.ref b] below meth c s.heap [] 0 0 (lw_Z below #[Value.ref b] s) (entryFrame m ([Value.ref b] : List Value).toArray 14) := by
  have C1 := C0
  obtain ⟨hx, hb, hr, hml, hown, hts, hX, hbl, hlocks, hgv⟩ := C1
  obtain ⟨G, TY, hK, hA, hC⟩ := gl_start hts hX
  exact gl_whole l hL C0 hK hA hC (gl_Sf hflags hts hgv hK hA)
