/-! The glue to the machine: the law's run, out of what the launch gives. -/
theorem gl_whole {p : Program} {e : Env} {s : State} {m : MethodId} {below : List Frame} {meth : Method} {c : Code} (l : Launch) {b L : Nat} {xs : Nat → Int32} (hL : L ≤ 2560) (C0 : lw_At p s m meth c b L xs) {G : va_G} {TY : Nat → ClassId} {ad : Nat → Nat} {tb te : Nat} (hK : va_K G vwCl [] s) (hA : ew_AT TY s) (hC : gl_cells s TY ad b tb te L xs) (S : ew_Sf l G TY s.heap.size s.heap (gl_CK ad b tb te) ev_NW (gl_Wd s)) :
    W p l e room_1 s m #[Value.ref b] below meth c s.heap [] 0 0 (lw_Z below #[Value.ref b] s) (entryFrame m ([Value.ref b] : List Value).toArray 9) := by
  obtain ⟨hx, hb, hr, hml, hown, hts, hX, hbl, hlocks, hgv⟩ := C0
  obtain ⟨hE, Sx, hck, h1, h2, hall⟩ := lw_all xs hL
  have hob : cx_ob Sx Sx = true := by
    unfold cx_ck at hck
    rw [Bool.and_eq_true] at hck
    exact hck.1
  have X : ew_Cx p l e room_1 s m #[Value.ref b] below meth c ev_NW G TY (gl_Wd s) 9 242 := ⟨hx, hb, hml, hown, gl_tw hts, gl_WP hts hK hA, State.WarmedH.refl s, by decide, by decide, fun h => absurd h (by decide)⟩
  have I := gl_I hK hA hC
  refine ew_entry (y := 242) (as := [ew_o 17 0]) (h := cx_h0 xs L) (hE := hE) (a := gl_a0 ad b tb te) (by decide) I (fun v hv => by cases List.mem_singleton.mp hv; exact Or.inr rfl) ?_
  refine hall _ (ew_body (hS := cx_h0 xs L) (aS := gl_a0 ad b tb te) S X gl_ck (fun q hq => rfl) (fun d' e => ew_sound S d') (fun e => absurd e (by decide)) (show hE.2.2.2.2.1 - 0 ≤ 601024 by omega) (show hE.2.2.2.2.2 - 0 ≤ 7293034 by omega) (fun pc ls v ins hv hd hok e1 => ?_) (fun pc ls st h ik xx _ _ e1 _ => by cases e1) (fun pc ls st h a H locs cells slots L g0 rest xx _ _ _ _ e1 => by cases e1)) (fun hq => ?_)
  · obtain rfl : v = some (ew_i 1) := Sum.inl.inj e1
    have hins : ins = .ireturn := by
      rcases hv with ⟨h, -⟩ | ⟨-, x, h⟩ | ⟨-, x, h⟩ | ⟨-, w, h, h'⟩ | ⟨-, h⟩
      · exact h
      · cases h
      · cases h
      · cases h; cases h'
      · cases h
    subst hins
    intro _
    refine ⟨ew_le.rf _, fun a H locs cells slots Ls hSt => ?_⟩
    obtain ⟨-, -, -, -, -, -, s7, s8, s9⟩ := hSt
    have s8 : cells + 0 = hE.2.2.2.2.1 := s8
    have s9 : slots + 0 = hE.2.2.2.2.2 := s9
    exact W.forget (locs := []) s7 (W.widen (k := 601024) (n := 7293034) (by omega) (by omega) (lw_ret (d0 := s.drawn) (Drawn.sameBut.refl s.drawn lw_cs) hx hb hr hlocks (pc := pc) (H := H) (ls := Ls) hd))
  · intro hle
    obtain ⟨k1, k2⟩ := hq hle
    refine ⟨k1, fun a H locs cells slots Ls hSt => k2 a H locs cells slots Ls ?_⟩
    obtain ⟨s1, s2, s3, s4, s5, s6, s7, s8, s9⟩ := hSt
    exact ⟨s1, ew_I.cg s2 rfl (fun k i p f hp => cx_e1 hob k i p f hp) (fun k i p f => cx_wh hob k i p f), s3, s4, s5, s6, s7, s8, s9⟩
