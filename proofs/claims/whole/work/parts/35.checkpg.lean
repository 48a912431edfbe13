/-! The programs checked, instruction by instruction. -/
def ex_okr (y : Nat) (i : Instr) : Bool := match i with
  | .ireturn => (decide (ew_rt y = some .int) && !et_bl y) || (decide (ew_rt y = some .boolean) && et_bl y)
  | .lreturn => decide (ew_rt y = some .long)
  | .dreturn => decide (ew_rt y = some .double)
  | .areturn => match ew_rt y with
    | some (.object _) => true
    | some (.array _) => true
    | _ => false
  | .return_ => decide (ew_rt y = none)
  | _ => true
def ev_pg (y : Nat) : Bool := (List.range (et_ln y)).all (fun x => match ew_pg y x with
  | none => true
  | some q => ew_okb (ew_cd y) x q && ex_okr y q.1)
def ev_ny (y : Nat) : Bool := Nat.beq (et_ln y) 0 || (plainName (ew_nm y).cls && decide (ew_on (et_cls y) = (ew_nm y).cls) && (!et_ini y || decide ((ew_nm y).name = "<init>")) && Nat.ble (et_ln y) 65000)
theorem ev_ny_ok : ∀ y, y < 243 → ev_ny y = true := by decide +kernel
theorem ev_pg_0 : ∀ y, y < 30 → ev_pg (0 + y) = true := by decide +kernel
theorem ev_pg_1 : ∀ y, y < 30 → ev_pg (30 + y) = true := by decide +kernel
theorem ev_pg_2 : ∀ y, y < 30 → ev_pg (60 + y) = true := by decide +kernel
theorem ev_pg_3 : ∀ y, y < 30 → ev_pg (90 + y) = true := by decide +kernel
theorem ev_pg_4 : ∀ y, y < 30 → ev_pg (120 + y) = true := by decide +kernel
theorem ev_pg_5 : ∀ y, y < 30 → ev_pg (150 + y) = true := by decide +kernel
theorem ev_pg_6 : ∀ y, y < 30 → ev_pg (180 + y) = true := by decide +kernel
theorem ev_pg_7 : ∀ y, y < 30 → ev_pg (210 + y) = true := by decide +kernel
theorem ev_pg_8 : ∀ y, y < 3 → ev_pg (240 + y) = true := by decide +kernel
theorem ev_pg_ok (y : Nat) (h : y < 243) : ev_pg y = true := by
  by_cases h0 : y < 30
  · have := ev_pg_0 y h0; rwa [Nat.zero_add] at this

  by_cases h1 : y < 60
  · have := ev_pg_1 (y - 30) (by omega); rwa [show 30 + (y - 30) = y by omega] at this
  by_cases h2 : y < 90
  · have := ev_pg_2 (y - 60) (by omega); rwa [show 60 + (y - 60) = y by omega] at this
  by_cases h3 : y < 120
  · have := ev_pg_3 (y - 90) (by omega); rwa [show 90 + (y - 90) = y by omega] at this
  by_cases h4 : y < 150
  · have := ev_pg_4 (y - 120) (by omega); rwa [show 120 + (y - 120) = y by omega] at this
  by_cases h5 : y < 180
  · have := ev_pg_5 (y - 150) (by omega); rwa [show 150 + (y - 150) = y by omega] at this
  by_cases h6 : y < 210
  · have := ev_pg_6 (y - 180) (by omega); rwa [show 180 + (y - 180) = y by omega] at this
  by_cases h7 : y < 240
  · have := ev_pg_7 (y - 210) (by omega); rwa [show 210 + (y - 210) = y by omega] at this
  have := ev_pg_8 (y - 240) (by omega)
  rwa [show 240 + (y - 240) = y by omega] at this
