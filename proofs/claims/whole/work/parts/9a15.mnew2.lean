/-! What is new in the model: its numbers. -/
theorem gi1 {m : ew_H} {k0 o N : Nat} {z : Nat → ew_V} (h1 : ∀ k i, ew_ctr k = true → m.2.2.2.1 k ≤ i → m.2.2.1 k i = false) (ho : m.2.2.2.1 k0 = o) : ∀ k i, ew_ctr k = true → (ew_mk m k0 o N z).2.2.2.1 k ≤ i → (ew_mk m k0 o N z).2.2.1 k i = false := fun k i c w => by
  by_cases e : k = k0
  · subst e
    rw [em_cs] at w
    rw [em_xn _ _ _ (by omega)]
    exact h1 _ _ c (by omega)
  · rw [em_cn _ _ _ _ e] at w
    rw [em_xn _ _ _ (by omega)]
    exact h1 _ _ c w
theorem gi2 {m : ew_H} {k0 o N : Nat} {z : Nat → ew_V} (h2 : ∀ k i, ef_L k = true → m.2.2.1 k i = false → m.2.2.1 (k + 18) i = false) (hk : ∀ k, ef_L k = true → k + 18 = k0 → False) : ∀ k i, ef_L k = true → (ew_mk m k0 o N z).2.2.1 k i = false → (ew_mk m k0 o N z).2.2.1 (k + 18) i = false := fun k i c w => by
  have w2 : m.2.2.1 k i = false := by
    cases q : m.2.2.1 k i with
    | false => rfl
    | true => rw [em_xo _ _ _ q] at w; cases w
  rw [em_xn _ _ _ (fun e => hk k c e.1)]
  exact h2 k i c w2
theorem gi_Brk {o : Nat} {m : ew_H} (g : GI m) (ho : m.2.2.2.1 12 = o) : GI (mBrk o m) := by
  unfold mBrk
  exact ⟨(gi1 (z := (et_dv 2)) (gi1 (z := (et_dv 12)) g.1 ho) (show m.2.2.2.1 98 = o from g.2.2.2.1.trans ho)), (gi2 (z := (et_dv 2)) (gi2 (z := (et_dv 12)) g.2.1 (fun k h e => by have := ef_L_or h; omega)) (fun k h e => by have := ef_L_or h; omega)), g.2.2.1, (show m.2.2.2.1 98 + 1 = m.2.2.2.1 12 + 1 by rw [g.2.2.2.1]), g.2.2.2.2.1, g.2.2.2.2.2⟩
theorem nx_Brk {o : Nat} {m : ew_H} (g : GI m) (ho : m.2.2.2.1 12 = o) : m.2.2.1 12 o = false ∧ m.2.2.1 98 o = false := by
  refine ⟨g.1 12 o rfl (by have := g.2.2; omega), g.1 98 o rfl (by have := g.2.2; omega)⟩
theorem ex_Brk {o : Nat} (x : Int32) (f : Int32) {s : ew_S} {m : ew_H} (g : GI m) (ho : m.2.2.2.1 12 = o) : Ex P0 2 s m (sBrk o x f s) (mBrk o m) := by
  obtain ⟨n12, n98⟩ := nx_Brk g ho
  exact (((((((((Ex.rf P0 s m).mk (k := 12) (i := o) (N := 6) (et_dv 12) rfl (by decide) n12 (fun k' h' e => by have := ef_L_or h'; omega)).mk (k := 98) (i := o) (N := 3) (et_dv 2) rfl (by decide) n98 (fun k' h' e => by have := ef_L_or h'; omega)).put (k := 98) (p := 1) (i := o) (ew_o 212 0) rfl (Or.inr n98)).zs (k := 12) (i := o) rfl n12).zs (k := 98) (i := o) rfl n98).u (k := 98) (p := 0) (i := o) 0 rfl (Or.inr n98)).u (k := 12) (p := 0) (i := o) x rfl (Or.inr n12)).u (k := 12) (p := 1) (i := o) f rfl (Or.inr n12))
theorem fl_Brk (o : Nat) (m : ew_H) : (mBrk o m).2.2.1 12 o = true ∧ (mBrk o m).2.2.1 98 o = true := by
  unfold mBrk
  exact ⟨em_xo _ _ (et_dv 2) (em_xs _ _ _ _ (et_dv 12)), em_xs _ _ _ _ (et_dv 2)⟩
theorem lr_Brk98 {o : Nat} (x : Int32) (f : Int32) {s : ew_S} {m : ew_H} (g : GI m) (ho : m.2.2.2.1 12 = o) (es : Nat → ew_V) : LR 98 o 0 es (sBrk o x f s) (mBrk o m) := by
  obtain ⟨n12, n98⟩ := nx_Brk g ho
  obtain ⟨f12, f98⟩ := fl_Brk o m
  refine ⟨f98, (show sBrk o x f s 98 2 o = 0 by unfold sBrk; rw [ew_u_ne _ _ (by omega), ew_u_ne _ _ (by omega), ew_u_ne _ _ (by omega), ef_z_self]), by decide, Or.inr ⟨(show (mBrk o m).1 98 o 1 = ew_o 212 0 by unfold mBrk; rw [ep_self]), ?_, rfl⟩⟩
  show (ew_mk (ew_mk m 12 o 6 (et_dv 12)) 98 o 3 (et_dv 2)).2.2.1 116 o = false
  rw [em_xn _ _ _ (by omega), em_xn _ _ _ (by omega)]
  exact g.2.1 98 o rfl n98
theorem gi_Shp {o : Nat} {m : ew_H} (g : GI m) (ho : m.2.2.2.1 15 = o) : GI (mShp o m) := by
  unfold mShp
  exact ⟨(gi1 (z := (et_dv 2)) (gi1 (z := (fun _ => ew_i 0)) (gi1 (z := (et_dv 15)) g.1 ho) (show m.2.2.2.1 369 = o from g.2.2.2.2.1.1.trans ho)) (show m.2.2.2.1 130 = o from g.2.2.2.2.1.2.trans ho)), (gi2 (z := (et_dv 2)) (gi2 (z := (fun _ => ew_i 0)) (gi2 (z := (et_dv 15)) g.2.1 (fun k h e => by have := ef_L_or h; omega)) (fun k h e => by have := ef_L_or h; omega)) (fun k h e => by have := ef_L_or h; omega)), g.2.2.1, g.2.2.2.1, ⟨show m.2.2.2.1 369 + 1 = m.2.2.2.1 15 + 1 by rw [g.2.2.2.2.1.1], show m.2.2.2.1 130 + 1 = m.2.2.2.1 15 + 1 by rw [g.2.2.2.2.1.2]⟩, g.2.2.2.2.2⟩
theorem nx_Shp {o : Nat} {m : ew_H} (g : GI m) (ho : m.2.2.2.1 15 = o) : m.2.2.1 15 o = false ∧ m.2.2.1 369 o = false ∧ m.2.2.1 130 o = false := by
  refine ⟨g.1 15 o rfl (by have := g.2.2; omega), g.1 369 o rfl (by have := g.2.2; omega), g.1 130 o rfl (by have := g.2.2; omega)⟩
theorem ex_Shp {o : Nat} (x : Int32) (r : Int32) (w : Int32) (q : Int32) {s : ew_S} {m : ew_H} (g : GI m) (ho : m.2.2.2.1 15 = o) : Ex P0 3 s m (sShp o x r w q s) (mShp o m) := by
  obtain ⟨n15, n369, n130⟩ := nx_Shp g ho
  exact ((((((((((((((((Ex.rf P0 s m).mk (k := 15) (i := o) (N := 11) (et_dv 15) rfl (by decide) n15 (fun k' h' e => by have := ef_L_or h'; omega)).mk (k := 369) (i := o) (N := 5) (fun _ => ew_i 0) rfl (by decide) n369 (fun k' h' e => by have := ef_L_or h'; omega)).mk (k := 130) (i := o) (N := 3) (et_dv 2) rfl (by decide) n130 (fun k' h' e => by have := ef_L_or h'; omega)).put (k := 130) (p := 1) (i := o) (ew_o 212 0) rfl (Or.inr n130)).zs (k := 15) (i := o) rfl n15).u (k := 15) (p := 4) (i := o) 0 rfl (Or.inr n15)).u (k := 15) (p := 5) (i := o) (-1) rfl (Or.inr n15)).u (k := 15) (p := 8) (i := o) (-1) rfl (Or.inr n15)).zs (k := 369) (i := o) rfl n369).zs (k := 130) (i := o) rfl n130).u (k := 130) (p := 0) (i := o) 0 rfl (Or.inr n130)).u (k := 15) (p := 0) (i := o) x rfl (Or.inr n15)).u (k := 15) (p := 1) (i := o) r rfl (Or.inr n15)).u (k := 15) (p := 2) (i := o) w rfl (Or.inr n15)).u (k := 15) (p := 3) (i := o) q rfl (Or.inr n15))
theorem fl_Shp (o : Nat) (m : ew_H) : (mShp o m).2.2.1 15 o = true ∧ (mShp o m).2.2.1 369 o = true ∧ (mShp o m).2.2.1 130 o = true := by
  unfold mShp
  exact ⟨em_xo _ _ (et_dv 2) (em_xo _ _ (fun _ => ew_i 0) (em_xs _ _ _ _ (et_dv 15))), em_xo _ _ (et_dv 2) (em_xs _ _ _ _ (fun _ => ew_i 0)), em_xs _ _ _ _ (et_dv 2)⟩
theorem lr_Shp130 {o : Nat} (x : Int32) (r : Int32) (w : Int32) (q : Int32) {s : ew_S} {m : ew_H} (g : GI m) (ho : m.2.2.2.1 15 = o) (es : Nat → ew_V) : LR 130 o 0 es (sShp o x r w q s) (mShp o m) := by
  obtain ⟨n15, n369, n130⟩ := nx_Shp g ho
  obtain ⟨f15, f369, f130⟩ := fl_Shp o m
  refine ⟨f130, (show sShp o x r w q s 130 2 o = 0 by unfold sShp; rw [ew_u_ne _ _ (by omega), ew_u_ne _ _ (by omega), ew_u_ne _ _ (by omega), ew_u_ne _ _ (by omega), ew_u_ne _ _ (by omega), ef_z_self]), by decide, Or.inr ⟨(show (mShp o m).1 130 o 1 = ew_o 212 0 by unfold mShp; rw [ep_self]), ?_, rfl⟩⟩
  show (ew_mk (ew_mk (ew_mk m 15 o 11 (et_dv 15)) 369 o 5 (fun _ => ew_i 0)) 130 o 3 (et_dv 2)).2.2.1 148 o = false
  rw [em_xn _ _ _ (by omega), em_xn _ _ _ (by omega), em_xn _ _ _ (by omega)]
  exact g.2.1 130 o rfl n130
theorem gi_Prt {o : Nat} {m : ew_H} (g : GI m) (ho : m.2.2.2.1 13 = o) : GI (mPrt o m) := by
  unfold mPrt
  exact ⟨(gi1 (z := (fun _ => ew_i 0)) (gi1 (z := (et_dv 2)) (gi1 (z := (et_dv 13)) g.1 ho) (show m.2.2.2.1 162 = o from g.2.2.2.2.2.1.trans ho)) (show m.2.2.2.1 82 = o from g.2.2.2.2.2.2.trans ho)), (gi2 (z := (fun _ => ew_i 0)) (gi2 (z := (et_dv 2)) (gi2 (z := (et_dv 13)) g.2.1 (fun k h e => by have := ef_L_or h; omega)) (fun k h e => by have := ef_L_or h; omega)) (fun k h e => by have := ef_L_or h; omega)), g.2.2.1, g.2.2.2.1, g.2.2.2.2.1, ⟨show m.2.2.2.1 162 + 1 = m.2.2.2.1 13 + 1 by rw [g.2.2.2.2.2.1], show m.2.2.2.1 82 + 1 = m.2.2.2.1 13 + 1 by rw [g.2.2.2.2.2.2]⟩⟩
theorem nx_Prt {o : Nat} {m : ew_H} (g : GI m) (ho : m.2.2.2.1 13 = o) : m.2.2.1 13 o = false ∧ m.2.2.1 162 o = false ∧ m.2.2.1 82 o = false := by
  refine ⟨g.1 13 o rfl (by have := g.2.2; omega), g.1 162 o rfl (by have := g.2.2; omega), g.1 82 o rfl (by have := g.2.2; omega)⟩
theorem ex_Prt {o : Nat} (x : Int32) {s : ew_S} {m : ew_H} (g : GI m) (ho : m.2.2.2.1 13 = o) : Ex P0 3 s m (sPrt o x s) (mPrt o m) := by
  obtain ⟨n13, n162, n82⟩ := nx_Prt g ho
  exact ((((((((((Ex.rf P0 s m).mk (k := 13) (i := o) (N := 3) (et_dv 13) rfl (by decide) n13 (fun k' h' e => by have := ef_L_or h'; omega)).mk (k := 162) (i := o) (N := 3) (et_dv 2) rfl (by decide) n162 (fun k' h' e => by have := ef_L_or h'; omega)).put (k := 162) (p := 1) (i := o) (ew_o 212 0) rfl (Or.inr n162)).mk (k := 82) (i := o) (N := 5) (fun _ => ew_i 0) rfl (by decide) n82 (fun k' h' e => by have := ef_L_or h'; omega)).zs (k := 13) (i := o) rfl n13).zs (k := 162) (i := o) rfl n162).u (k := 162) (p := 0) (i := o) 0 rfl (Or.inr n162)).zs (k := 82) (i := o) rfl n82).u (k := 13) (p := 0) (i := o) x rfl (Or.inr n13))
theorem fl_Prt (o : Nat) (m : ew_H) : (mPrt o m).2.2.1 13 o = true ∧ (mPrt o m).2.2.1 162 o = true ∧ (mPrt o m).2.2.1 82 o = true := by
  unfold mPrt
  exact ⟨em_xo _ _ (fun _ => ew_i 0) (em_xo _ _ (et_dv 2) (em_xs _ _ _ _ (et_dv 13))), em_xo _ _ (fun _ => ew_i 0) (em_xs _ _ _ _ (et_dv 2)), em_xs _ _ _ _ (fun _ => ew_i 0)⟩
theorem lr_Prt162 {o : Nat} (x : Int32) {s : ew_S} {m : ew_H} (g : GI m) (ho : m.2.2.2.1 13 = o) (es : Nat → ew_V) : LR 162 o 0 es (sPrt o x s) (mPrt o m) := by
  obtain ⟨n13, n162, n82⟩ := nx_Prt g ho
  obtain ⟨f13, f162, f82⟩ := fl_Prt o m
  refine ⟨f162, (show sPrt o x s 162 2 o = 0 by unfold sPrt; rw [ew_u_ne _ _ (by omega), ef_z_ne _ _ (by omega), ew_u_ne _ _ (by omega), ef_z_self]), by decide, Or.inr ⟨(show (mPrt o m).1 162 o 1 = ew_o 212 0 by unfold mPrt; rw [em_ne _ _ _ _ (by omega), ep_self]), ?_, rfl⟩⟩
  show (ew_mk (ew_mk (ew_mk m 13 o 3 (et_dv 13)) 162 o 3 (et_dv 2)) 82 o 5 (fun _ => ew_i 0)).2.2.1 180 o = false
  rw [em_xn _ _ _ (by omega), em_xn _ _ _ (by omega), em_xn _ _ _ (by omega)]
  exact g.2.1 162 o rfl n162
theorem gi_Sea {o : Nat} {m : ew_H} (g : GI m) (ho : m.2.2.2.1 14 = o) : GI (mSea o m) := by
  unfold mSea
  exact ⟨(gi1 (z := (et_dv 2)) (gi1 (z := (et_dv 2)) (gi1 (z := (et_dv 2)) (gi1 (z := (fun _ => ew_i 0)) (gi1 (z := (fun _ => ew_i 0)) (gi1 (z := (fun _ => ew_i 0)) (gi1 (z := (fun _ => ew_i 0)) (gi1 (z := (et_dv 14)) g.1 ho) (show m.2.2.2.1 273 = o from g.2.2.1.1.trans ho)) (show m.2.2.2.1 305 = o from g.2.2.1.2.1.trans ho)) (show m.2.2.2.1 337 = o from g.2.2.1.2.2.1.trans ho)) (show m.2.2.2.1 50 = o from g.2.2.1.2.2.2.1.trans ho)) (show m.2.2.2.1 2 = o from g.2.2.1.2.2.2.2.1.trans ho)) (show m.2.2.2.1 34 = o from g.2.2.1.2.2.2.2.2.1.trans ho)) (show m.2.2.2.1 66 = o from g.2.2.1.2.2.2.2.2.2.trans ho)), (gi2 (z := (et_dv 2)) (gi2 (z := (et_dv 2)) (gi2 (z := (et_dv 2)) (gi2 (z := (fun _ => ew_i 0)) (gi2 (z := (fun _ => ew_i 0)) (gi2 (z := (fun _ => ew_i 0)) (gi2 (z := (fun _ => ew_i 0)) (gi2 (z := (et_dv 14)) g.2.1 (fun k h e => by have := ef_L_or h; omega)) (fun k h e => by have := ef_L_or h; omega)) (fun k h e => by have := ef_L_or h; omega)) (fun k h e => by have := ef_L_or h; omega)) (fun k h e => by have := ef_L_or h; omega)) (fun k h e => by have := ef_L_or h; omega)) (fun k h e => by have := ef_L_or h; omega)) (fun k h e => by have := ef_L_or h; omega)), ⟨show m.2.2.2.1 273 + 1 = m.2.2.2.1 14 + 1 by rw [g.2.2.1.1], show m.2.2.2.1 305 + 1 = m.2.2.2.1 14 + 1 by rw [g.2.2.1.2.1], show m.2.2.2.1 337 + 1 = m.2.2.2.1 14 + 1 by rw [g.2.2.1.2.2.1], show m.2.2.2.1 50 + 1 = m.2.2.2.1 14 + 1 by rw [g.2.2.1.2.2.2.1], show m.2.2.2.1 2 + 1 = m.2.2.2.1 14 + 1 by rw [g.2.2.1.2.2.2.2.1], show m.2.2.2.1 34 + 1 = m.2.2.2.1 14 + 1 by rw [g.2.2.1.2.2.2.2.2.1], show m.2.2.2.1 66 + 1 = m.2.2.2.1 14 + 1 by rw [g.2.2.1.2.2.2.2.2.2]⟩, g.2.2.2.1, g.2.2.2.2.1, g.2.2.2.2.2⟩
theorem nx_Sea {o : Nat} {m : ew_H} (g : GI m) (ho : m.2.2.2.1 14 = o) : m.2.2.1 14 o = false ∧ m.2.2.1 273 o = false ∧ m.2.2.1 305 o = false ∧ m.2.2.1 337 o = false ∧ m.2.2.1 50 o = false ∧ m.2.2.1 2 o = false ∧ m.2.2.1 34 o = false ∧ m.2.2.1 66 o = false := by
  refine ⟨g.1 14 o rfl (by have := g.2.2; omega), g.1 273 o rfl (by have := g.2.2; omega), g.1 305 o rfl (by have := g.2.2; omega), g.1 337 o rfl (by have := g.2.2; omega), g.1 50 o rfl (by have := g.2.2; omega), g.1 2 o rfl (by have := g.2.2; omega), g.1 34 o rfl (by have := g.2.2; omega), g.1 66 o rfl (by have := g.2.2; omega)⟩
theorem ex_Sea {o : Nat}  {s : ew_S} {m : ew_H} (g : GI m) (ho : m.2.2.2.1 14 = o) : Ex P0 8 s m (sSea o s) (mSea o m) := by
  obtain ⟨n14, n273, n305, n337, n50, n2, n34, n66⟩ := nx_Sea g ho
  exact (((((((((((((((((((((((Ex.rf P0 s m).mk (k := 14) (i := o) (N := 9) (et_dv 14) rfl (by decide) n14 (fun k' h' e => by have := ef_L_or h'; omega)).mk (k := 273) (i := o) (N := 15) (fun _ => ew_i 0) rfl (by decide) n273 (fun k' h' e => by have := ef_L_or h'; omega)).mk (k := 305) (i := o) (N := 15) (fun _ => ew_i 0) rfl (by decide) n305 (fun k' h' e => by have := ef_L_or h'; omega)).mk (k := 337) (i := o) (N := 15) (fun _ => ew_i 0) rfl (by decide) n337 (fun k' h' e => by have := ef_L_or h'; omega)).mk (k := 50) (i := o) (N := 15) (fun _ => ew_i 0) rfl (by decide) n50 (fun k' h' e => by have := ef_L_or h'; omega)).mk (k := 2) (i := o) (N := 3) (et_dv 2) rfl (by decide) n2 (fun k' h' e => by have := ef_L_or h'; omega)).put (k := 2) (p := 1) (i := o) (ew_o 212 0) rfl (Or.inr n2)).mk (k := 34) (i := o) (N := 3) (et_dv 2) rfl (by decide) n34 (fun k' h' e => by have := ef_L_or h'; omega)).put (k := 34) (p := 1) (i := o) (ew_o 212 0) rfl (Or.inr n34)).mk (k := 66) (i := o) (N := 3) (et_dv 2) rfl (by decide) n66 (fun k' h' e => by have := ef_L_or h'; omega)).put (k := 66) (p := 1) (i := o) (ew_o 212 0) rfl (Or.inr n66)).zs (k := 14) (i := o) rfl n14).zs (k := 273) (i := o) rfl n273).zs (k := 305) (i := o) rfl n305).zs (k := 337) (i := o) rfl n337).zs (k := 50) (i := o) rfl n50).zs (k := 2) (i := o) rfl n2).u (k := 2) (p := 0) (i := o) 0 rfl (Or.inr n2)).zs (k := 34) (i := o) rfl n34).u (k := 34) (p := 0) (i := o) 0 rfl (Or.inr n34)).zs (k := 66) (i := o) rfl n66).u (k := 66) (p := 0) (i := o) 0 rfl (Or.inr n66))
theorem fl_Sea (o : Nat) (m : ew_H) : (mSea o m).2.2.1 14 o = true ∧ (mSea o m).2.2.1 273 o = true ∧ (mSea o m).2.2.1 305 o = true ∧ (mSea o m).2.2.1 337 o = true ∧ (mSea o m).2.2.1 50 o = true ∧ (mSea o m).2.2.1 2 o = true ∧ (mSea o m).2.2.1 34 o = true ∧ (mSea o m).2.2.1 66 o = true := by
  unfold mSea
  exact ⟨em_xo _ _ (et_dv 2) (em_xo _ _ (et_dv 2) (em_xo _ _ (et_dv 2) (em_xo _ _ (fun _ => ew_i 0) (em_xo _ _ (fun _ => ew_i 0) (em_xo _ _ (fun _ => ew_i 0) (em_xo _ _ (fun _ => ew_i 0) (em_xs _ _ _ _ (et_dv 14)))))))), em_xo _ _ (et_dv 2) (em_xo _ _ (et_dv 2) (em_xo _ _ (et_dv 2) (em_xo _ _ (fun _ => ew_i 0) (em_xo _ _ (fun _ => ew_i 0) (em_xo _ _ (fun _ => ew_i 0) (em_xs _ _ _ _ (fun _ => ew_i 0))))))), em_xo _ _ (et_dv 2) (em_xo _ _ (et_dv 2) (em_xo _ _ (et_dv 2) (em_xo _ _ (fun _ => ew_i 0) (em_xo _ _ (fun _ => ew_i 0) (em_xs _ _ _ _ (fun _ => ew_i 0)))))), em_xo _ _ (et_dv 2) (em_xo _ _ (et_dv 2) (em_xo _ _ (et_dv 2) (em_xo _ _ (fun _ => ew_i 0) (em_xs _ _ _ _ (fun _ => ew_i 0))))), em_xo _ _ (et_dv 2) (em_xo _ _ (et_dv 2) (em_xo _ _ (et_dv 2) (em_xs _ _ _ _ (fun _ => ew_i 0)))), em_xo _ _ (et_dv 2) (em_xo _ _ (et_dv 2) (em_xs _ _ _ _ (et_dv 2))), em_xo _ _ (et_dv 2) (em_xs _ _ _ _ (et_dv 2)), em_xs _ _ _ _ (et_dv 2)⟩
theorem lr_Sea2 {o : Nat}  {s : ew_S} {m : ew_H} (g : GI m) (ho : m.2.2.2.1 14 = o) (es : Nat → ew_V) : LR 2 o 0 es (sSea o s) (mSea o m) := by
  obtain ⟨n14, n273, n305, n337, n50, n2, n34, n66⟩ := nx_Sea g ho
  obtain ⟨f14, f273, f305, f337, f50, f2, f34, f66⟩ := fl_Sea o m
  refine ⟨f2, (show sSea o s 2 2 o = 0 by unfold sSea; rw [ew_u_ne _ _ (by omega), ef_z_ne _ _ (by omega), ew_u_ne _ _ (by omega), ef_z_ne _ _ (by omega), ew_u_ne _ _ (by omega), ef_z_self]), by decide, Or.inr ⟨(show (mSea o m).1 2 o 1 = ew_o 212 0 by unfold mSea; rw [ep_ne _ _ (by omega), em_ne _ _ _ _ (by omega), ep_ne _ _ (by omega), em_ne _ _ _ _ (by omega), ep_self]), ?_, rfl⟩⟩
  show (ew_mk (ew_mk (ew_mk (ew_mk (ew_mk (ew_mk (ew_mk (ew_mk m 14 o 9 (et_dv 14)) 273 o 15 (fun _ => ew_i 0)) 305 o 15 (fun _ => ew_i 0)) 337 o 15 (fun _ => ew_i 0)) 50 o 15 (fun _ => ew_i 0)) 2 o 3 (et_dv 2)) 34 o 3 (et_dv 2)) 66 o 3 (et_dv 2)).2.2.1 20 o = false
  rw [em_xn _ _ _ (by omega), em_xn _ _ _ (by omega), em_xn _ _ _ (by omega), em_xn _ _ _ (by omega), em_xn _ _ _ (by omega), em_xn _ _ _ (by omega), em_xn _ _ _ (by omega), em_xn _ _ _ (by omega)]
  exact g.2.1 2 o rfl n2
theorem lr_Sea34 {o : Nat}  {s : ew_S} {m : ew_H} (g : GI m) (ho : m.2.2.2.1 14 = o) (es : Nat → ew_V) : LR 34 o 0 es (sSea o s) (mSea o m) := by
  obtain ⟨n14, n273, n305, n337, n50, n2, n34, n66⟩ := nx_Sea g ho
  obtain ⟨f14, f273, f305, f337, f50, f2, f34, f66⟩ := fl_Sea o m
  refine ⟨f34, (show sSea o s 34 2 o = 0 by unfold sSea; rw [ew_u_ne _ _ (by omega), ef_z_ne _ _ (by omega), ew_u_ne _ _ (by omega), ef_z_self]), by decide, Or.inr ⟨(show (mSea o m).1 34 o 1 = ew_o 212 0 by unfold mSea; rw [ep_ne _ _ (by omega), em_ne _ _ _ _ (by omega), ep_self]), ?_, rfl⟩⟩
  show (ew_mk (ew_mk (ew_mk (ew_mk (ew_mk (ew_mk (ew_mk (ew_mk m 14 o 9 (et_dv 14)) 273 o 15 (fun _ => ew_i 0)) 305 o 15 (fun _ => ew_i 0)) 337 o 15 (fun _ => ew_i 0)) 50 o 15 (fun _ => ew_i 0)) 2 o 3 (et_dv 2)) 34 o 3 (et_dv 2)) 66 o 3 (et_dv 2)).2.2.1 52 o = false
  rw [em_xn _ _ _ (by omega), em_xn _ _ _ (by omega), em_xn _ _ _ (by omega), em_xn _ _ _ (by omega), em_xn _ _ _ (by omega), em_xn _ _ _ (by omega), em_xn _ _ _ (by omega), em_xn _ _ _ (by omega)]
  exact g.2.1 34 o rfl n34
theorem lr_Sea66 {o : Nat}  {s : ew_S} {m : ew_H} (g : GI m) (ho : m.2.2.2.1 14 = o) (es : Nat → ew_V) : LR 66 o 0 es (sSea o s) (mSea o m) := by
  obtain ⟨n14, n273, n305, n337, n50, n2, n34, n66⟩ := nx_Sea g ho
  obtain ⟨f14, f273, f305, f337, f50, f2, f34, f66⟩ := fl_Sea o m
  refine ⟨f66, (show sSea o s 66 2 o = 0 by unfold sSea; rw [ew_u_ne _ _ (by omega), ef_z_self]), by decide, Or.inr ⟨(show (mSea o m).1 66 o 1 = ew_o 212 0 by unfold mSea; rw [ep_self]), ?_, rfl⟩⟩
  show (ew_mk (ew_mk (ew_mk (ew_mk (ew_mk (ew_mk (ew_mk (ew_mk m 14 o 9 (et_dv 14)) 273 o 15 (fun _ => ew_i 0)) 305 o 15 (fun _ => ew_i 0)) 337 o 15 (fun _ => ew_i 0)) 50 o 15 (fun _ => ew_i 0)) 2 o 3 (et_dv 2)) 34 o 3 (et_dv 2)) 66 o 3 (et_dv 2)).2.2.1 84 o = false
  rw [em_xn _ _ _ (by omega), em_xn _ _ _ (by omega), em_xn _ _ _ (by omega), em_xn _ _ _ (by omega), em_xn _ _ _ (by omega), em_xn _ _ _ (by omega), em_xn _ _ _ (by omega), em_xn _ _ _ (by omega)]
  exact g.2.1 66 o rfl n66
