/-! The start: all together. -/
theorem whole_start {p : Program} {e : Env} {s : State} {m : MethodId} {below : List Frame} {meth : Method} {c : Code} (l : Launch) (hflags : l.flags = flags0) {b L : Nat} {xs : Nat → Int32} (hL : L ≤ 2560) (C0 : lw_At p s m meth c b L xs) : W p l e room_1 s m #[Value.ref b] below meth c s.heap [] 0 0 (lw_Z below #[Value.ref b] s) (entryFrame m ([Value.ref b] : List Value).toArray 9) := by
  have C1 := C0
  obtain ⟨hx, hb, hr, hml, hown, hts, hX, hbl, hlocks, hgv⟩ := C1
  obtain ⟨G, TY, ad, tb, te, hK, hA, hC, eB, eE, eI⟩ := gl_start hts rfl hgv hX
  exact gl_whole l hL C0 hK hA hC (gl_Sf hflags hts hgv hK hA eB eE eI (gl_T203_ok hts hgv hK hA _))
