/-! The programs checked, instruction by instruction. -/
def ex_okr (y : Nat) (i : Instr) : Bool := match i with
  | .ireturn => (decide (ew_rt y = some .int) && !et_bl y) || (decide (ew_rt y = some .boolean) && et_bl y)
  | .lreturn => decide (ew_rt y = some .long)
  | .dreturn => decide (ew_rt y = some .double)
  | .areturn => match ew_rt y with
    | some (.object _) => true
    | some (.array _) => true
    | _ => false
  | .return_ => decide (ew_rt y = none)
  | _ => true
def ex_ck (y x : Nat) : Bool := match ew_pg y x with
  | none => true
  | some q => ew_okb (ew_cd y) x q && ex_okr y q.1
def ev_pg (y : Nat) : Bool := (List.range (et_ln y)).all (ex_ck y)
def ev_ny (y : Nat) : Bool := Nat.beq (et_ln y) 0 || (plainName (ew_nm y).cls && decide (ew_on (et_cls y) = (ew_nm y).cls) && (!et_ini y || decide ((ew_nm y).name = "<init>")) && Nat.ble (et_ln y) 65000)
theorem ev_ny_ok : ∀ y, y < 243 → ev_ny y = true := by decide +kernel
theorem ev_pg_0 : ∀ y, y < 30 →  ev_pg (0 + y) = true := by decide +kernel
theorem ev_pg_1 : ∀ y, y < 30 →  ev_pg (30 + y) = true := by decide +kernel
theorem ev_pg_2 : ∀ y, y < 30 →  ev_pg (60 + y) = true := by decide +kernel
theorem ev_pg_3 : ∀ y, y < 30 → ¬ y = 7 → ev_pg (90 + y) = true := by decide +kernel
theorem ev_pg_4 : ∀ y, y < 30 →  ev_pg (120 + y) = true := by decide +kernel
theorem ev_pg_5 : ∀ y, y < 30 →  ev_pg (150 + y) = true := by decide +kernel
theorem ev_pg_6 : ∀ y, y < 30 →  ev_pg (180 + y) = true := by decide +kernel
theorem ev_pg_7 : ∀ y, y < 30 → ¬ y = 14 → ¬ y = 16 → ev_pg (210 + y) = true := by decide +kernel
theorem ev_pg_8 : ∀ y, y < 3 → ¬ y = 2 → ev_pg (240 + y) = true := by decide +kernel
theorem ev_pq242_0 : ∀ x, x < 30 → ex_ck 242 (0 + x) = true := by decide +kernel
theorem ev_pq242_1 : ∀ x, x < 30 → ex_ck 242 (30 + x) = true := by decide +kernel
theorem ev_pq242_2 : ∀ x, x < 30 → ex_ck 242 (60 + x) = true := by decide +kernel
theorem ev_pq242_3 : ∀ x, x < 30 → ex_ck 242 (90 + x) = true := by decide +kernel
theorem ev_pq242_4 : ∀ x, x < 30 → ex_ck 242 (120 + x) = true := by decide +kernel
theorem ev_pq242_5 : ∀ x, x < 30 → ex_ck 242 (150 + x) = true := by decide +kernel
theorem ev_pq242_6 : ∀ x, x < 30 → ex_ck 242 (180 + x) = true := by decide +kernel
theorem ev_pq242_7 : ∀ x, x < 30 → ex_ck 242 (210 + x) = true := by decide +kernel
theorem ev_pq242_8 : ∀ x, x < 30 → ex_ck 242 (240 + x) = true := by decide +kernel
theorem ev_pq242_9 : ∀ x, x < 30 → ex_ck 242 (270 + x) = true := by decide +kernel
theorem ev_pq242_10 : ∀ x, x < 30 → ex_ck 242 (300 + x) = true := by decide +kernel
theorem ev_pq242_11 : ∀ x, x < 30 → ex_ck 242 (330 + x) = true := by decide +kernel
theorem ev_pq242_12 : ∀ x, x < 30 → ex_ck 242 (360 + x) = true := by decide +kernel
theorem ev_pq242_13 : ∀ x, x < 30 → ex_ck 242 (390 + x) = true := by decide +kernel
theorem ev_pq242_14 : ∀ x, x < 30 → ex_ck 242 (420 + x) = true := by decide +kernel
theorem ev_pq242_15 : ∀ x, x < 30 → ex_ck 242 (450 + x) = true := by decide +kernel
theorem ev_pq242_16 : ∀ x, x < 30 → ex_ck 242 (480 + x) = true := by decide +kernel
theorem ev_pq242_17 : ∀ x, x < 30 → ex_ck 242 (510 + x) = true := by decide +kernel
theorem ev_pq242_18 : ∀ x, x < 30 → ex_ck 242 (540 + x) = true := by decide +kernel
theorem ev_pq242_19 : ∀ x, x < 30 → ex_ck 242 (570 + x) = true := by decide +kernel
theorem ev_pq242_20 : ∀ x, x < 30 → ex_ck 242 (600 + x) = true := by decide +kernel
theorem ev_pq242_21 : ∀ x, x < 30 → ex_ck 242 (630 + x) = true := by decide +kernel
theorem ev_pq242_22 : ∀ x, x < 30 → ex_ck 242 (660 + x) = true := by decide +kernel
theorem ev_pq242_23 : ∀ x, x < 30 → ex_ck 242 (690 + x) = true := by decide +kernel
theorem ev_pq242_24 : ∀ x, x < 30 → ex_ck 242 (720 + x) = true := by decide +kernel
theorem ev_pq242_25 : ∀ x, x < 30 → ex_ck 242 (750 + x) = true := by decide +kernel
theorem ev_pq242_26 : ∀ x, x < 30 → ex_ck 242 (780 + x) = true := by decide +kernel
theorem ev_pq242_27 : ∀ x, x < 30 → ex_ck 242 (810 + x) = true := by decide +kernel
theorem ev_pq242_28 : ∀ x, x < 30 → ex_ck 242 (840 + x) = true := by decide +kernel
theorem ev_pq242_29 : ∀ x, x < 30 → ex_ck 242 (870 + x) = true := by decide +kernel
theorem ev_pq242_ok (x : Nat) (hx : x < 900) : ex_ck 242 x = true := by
  by_cases h0_30 : x < 450
  · skip
    by_cases h0_15 : x < 210
    · skip
      by_cases h0_7 : x < 90
      · skip
        by_cases h0_3 : x < 30
        · skip
          have := ev_pq242_0 (x - 0) (by omega)
          rwa [show 0 + (x - 0) = x by omega] at this
        · skip
          by_cases h1_3 : x < 60
          · skip
            have := ev_pq242_1 (x - 30) (by omega)
            rwa [show 30 + (x - 30) = x by omega] at this
          · skip
            have := ev_pq242_2 (x - 60) (by omega)
            rwa [show 60 + (x - 60) = x by omega] at this
      · skip
        by_cases h3_7 : x < 150
        · skip
          by_cases h3_5 : x < 120
          · skip
            have := ev_pq242_3 (x - 90) (by omega)
            rwa [show 90 + (x - 90) = x by omega] at this
          · skip
            have := ev_pq242_4 (x - 120) (by omega)
            rwa [show 120 + (x - 120) = x by omega] at this
        · skip
          by_cases h5_7 : x < 180
          · skip
            have := ev_pq242_5 (x - 150) (by omega)
            rwa [show 150 + (x - 150) = x by omega] at this
          · skip
            have := ev_pq242_6 (x - 180) (by omega)
            rwa [show 180 + (x - 180) = x by omega] at this
    · skip
      by_cases h7_15 : x < 330
      · skip
        by_cases h7_11 : x < 270
        · skip
          by_cases h7_9 : x < 240
          · skip
            have := ev_pq242_7 (x - 210) (by omega)
            rwa [show 210 + (x - 210) = x by omega] at this
          · skip
            have := ev_pq242_8 (x - 240) (by omega)
            rwa [show 240 + (x - 240) = x by omega] at this
        · skip
          by_cases h9_11 : x < 300
          · skip
            have := ev_pq242_9 (x - 270) (by omega)
            rwa [show 270 + (x - 270) = x by omega] at this
          · skip
            have := ev_pq242_10 (x - 300) (by omega)
            rwa [show 300 + (x - 300) = x by omega] at this
      · skip
        by_cases h11_15 : x < 390
        · skip
          by_cases h11_13 : x < 360
          · skip
            have := ev_pq242_11 (x - 330) (by omega)
            rwa [show 330 + (x - 330) = x by omega] at this
          · skip
            have := ev_pq242_12 (x - 360) (by omega)
            rwa [show 360 + (x - 360) = x by omega] at this
        · skip
          by_cases h13_15 : x < 420
          · skip
            have := ev_pq242_13 (x - 390) (by omega)
            rwa [show 390 + (x - 390) = x by omega] at this
          · skip
            have := ev_pq242_14 (x - 420) (by omega)
            rwa [show 420 + (x - 420) = x by omega] at this
  · skip
    by_cases h15_30 : x < 660
    · skip
      by_cases h15_22 : x < 540
      · skip
        by_cases h15_18 : x < 480
        · skip
          have := ev_pq242_15 (x - 450) (by omega)
          rwa [show 450 + (x - 450) = x by omega] at this
        · skip
          by_cases h16_18 : x < 510
          · skip
            have := ev_pq242_16 (x - 480) (by omega)
            rwa [show 480 + (x - 480) = x by omega] at this
          · skip
            have := ev_pq242_17 (x - 510) (by omega)
            rwa [show 510 + (x - 510) = x by omega] at this
      · skip
        by_cases h18_22 : x < 600
        · skip
          by_cases h18_20 : x < 570
          · skip
            have := ev_pq242_18 (x - 540) (by omega)
            rwa [show 540 + (x - 540) = x by omega] at this
          · skip
            have := ev_pq242_19 (x - 570) (by omega)
            rwa [show 570 + (x - 570) = x by omega] at this
        · skip
          by_cases h20_22 : x < 630
          · skip
            have := ev_pq242_20 (x - 600) (by omega)
            rwa [show 600 + (x - 600) = x by omega] at this
          · skip
            have := ev_pq242_21 (x - 630) (by omega)
            rwa [show 630 + (x - 630) = x by omega] at this
    · skip
      by_cases h22_30 : x < 780
      · skip
        by_cases h22_26 : x < 720
        · skip
          by_cases h22_24 : x < 690
          · skip
            have := ev_pq242_22 (x - 660) (by omega)
            rwa [show 660 + (x - 660) = x by omega] at this
          · skip
            have := ev_pq242_23 (x - 690) (by omega)
            rwa [show 690 + (x - 690) = x by omega] at this
        · skip
          by_cases h24_26 : x < 750
          · skip
            have := ev_pq242_24 (x - 720) (by omega)
            rwa [show 720 + (x - 720) = x by omega] at this
          · skip
            have := ev_pq242_25 (x - 750) (by omega)
            rwa [show 750 + (x - 750) = x by omega] at this
      · skip
        by_cases h26_30 : x < 840
        · skip
          by_cases h26_28 : x < 810
          · skip
            have := ev_pq242_26 (x - 780) (by omega)
            rwa [show 780 + (x - 780) = x by omega] at this
          · skip
            have := ev_pq242_27 (x - 810) (by omega)
            rwa [show 810 + (x - 810) = x by omega] at this
        · skip
          by_cases h28_30 : x < 870
          · skip
            have := ev_pq242_28 (x - 840) (by omega)
            rwa [show 840 + (x - 840) = x by omega] at this
          · skip
            have := ev_pq242_29 (x - 870) (by omega)
            rwa [show 870 + (x - 870) = x by omega] at this
theorem ev_pq224_0 : ∀ x, x < 30 → ex_ck 224 (0 + x) = true := by decide +kernel
theorem ev_pq224_1 : ∀ x, x < 30 → ex_ck 224 (30 + x) = true := by decide +kernel
theorem ev_pq224_2 : ∀ x, x < 30 → ex_ck 224 (60 + x) = true := by decide +kernel
theorem ev_pq224_3 : ∀ x, x < 30 → ex_ck 224 (90 + x) = true := by decide +kernel
theorem ev_pq224_4 : ∀ x, x < 30 → ex_ck 224 (120 + x) = true := by decide +kernel
theorem ev_pq224_5 : ∀ x, x < 30 → ex_ck 224 (150 + x) = true := by decide +kernel
theorem ev_pq224_6 : ∀ x, x < 30 → ex_ck 224 (180 + x) = true := by decide +kernel
theorem ev_pq224_7 : ∀ x, x < 30 → ex_ck 224 (210 + x) = true := by decide +kernel
theorem ev_pq224_8 : ∀ x, x < 30 → ex_ck 224 (240 + x) = true := by decide +kernel
theorem ev_pq224_9 : ∀ x, x < 30 → ex_ck 224 (270 + x) = true := by decide +kernel
theorem ev_pq224_10 : ∀ x, x < 30 → ex_ck 224 (300 + x) = true := by decide +kernel
theorem ev_pq224_11 : ∀ x, x < 30 → ex_ck 224 (330 + x) = true := by decide +kernel
theorem ev_pq224_12 : ∀ x, x < 30 → ex_ck 224 (360 + x) = true := by decide +kernel
theorem ev_pq224_13 : ∀ x, x < 30 → ex_ck 224 (390 + x) = true := by decide +kernel
theorem ev_pq224_14 : ∀ x, x < 30 → ex_ck 224 (420 + x) = true := by decide +kernel
theorem ev_pq224_15 : ∀ x, x < 30 → ex_ck 224 (450 + x) = true := by decide +kernel
theorem ev_pq224_16 : ∀ x, x < 30 → ex_ck 224 (480 + x) = true := by decide +kernel
theorem ev_pq224_17 : ∀ x, x < 30 → ex_ck 224 (510 + x) = true := by decide +kernel
theorem ev_pq224_18 : ∀ x, x < 30 → ex_ck 224 (540 + x) = true := by decide +kernel
theorem ev_pq224_19 : ∀ x, x < 30 → ex_ck 224 (570 + x) = true := by decide +kernel
theorem ev_pq224_20 : ∀ x, x < 30 → ex_ck 224 (600 + x) = true := by decide +kernel
theorem ev_pq224_21 : ∀ x, x < 30 → ex_ck 224 (630 + x) = true := by decide +kernel
theorem ev_pq224_22 : ∀ x, x < 30 → ex_ck 224 (660 + x) = true := by decide +kernel
theorem ev_pq224_23 : ∀ x, x < 30 → ex_ck 224 (690 + x) = true := by decide +kernel
theorem ev_pq224_ok (x : Nat) (hx : x < 720) : ex_ck 224 x = true := by
  by_cases h0_24 : x < 360
  · skip
    by_cases h0_12 : x < 180
    · skip
      by_cases h0_6 : x < 90
      · skip
        by_cases h0_3 : x < 30
        · skip
          have := ev_pq224_0 (x - 0) (by omega)
          rwa [show 0 + (x - 0) = x by omega] at this
        · skip
          by_cases h1_3 : x < 60
          · skip
            have := ev_pq224_1 (x - 30) (by omega)
            rwa [show 30 + (x - 30) = x by omega] at this
          · skip
            have := ev_pq224_2 (x - 60) (by omega)
            rwa [show 60 + (x - 60) = x by omega] at this
      · skip
        by_cases h3_6 : x < 120
        · skip
          have := ev_pq224_3 (x - 90) (by omega)
          rwa [show 90 + (x - 90) = x by omega] at this
        · skip
          by_cases h4_6 : x < 150
          · skip
            have := ev_pq224_4 (x - 120) (by omega)
            rwa [show 120 + (x - 120) = x by omega] at this
          · skip
            have := ev_pq224_5 (x - 150) (by omega)
            rwa [show 150 + (x - 150) = x by omega] at this
    · skip
      by_cases h6_12 : x < 270
      · skip
        by_cases h6_9 : x < 210
        · skip
          have := ev_pq224_6 (x - 180) (by omega)
          rwa [show 180 + (x - 180) = x by omega] at this
        · skip
          by_cases h7_9 : x < 240
          · skip
            have := ev_pq224_7 (x - 210) (by omega)
            rwa [show 210 + (x - 210) = x by omega] at this
          · skip
            have := ev_pq224_8 (x - 240) (by omega)
            rwa [show 240 + (x - 240) = x by omega] at this
      · skip
        by_cases h9_12 : x < 300
        · skip
          have := ev_pq224_9 (x - 270) (by omega)
          rwa [show 270 + (x - 270) = x by omega] at this
        · skip
          by_cases h10_12 : x < 330
          · skip
            have := ev_pq224_10 (x - 300) (by omega)
            rwa [show 300 + (x - 300) = x by omega] at this
          · skip
            have := ev_pq224_11 (x - 330) (by omega)
            rwa [show 330 + (x - 330) = x by omega] at this
  · skip
    by_cases h12_24 : x < 540
    · skip
      by_cases h12_18 : x < 450
      · skip
        by_cases h12_15 : x < 390
        · skip
          have := ev_pq224_12 (x - 360) (by omega)
          rwa [show 360 + (x - 360) = x by omega] at this
        · skip
          by_cases h13_15 : x < 420
          · skip
            have := ev_pq224_13 (x - 390) (by omega)
            rwa [show 390 + (x - 390) = x by omega] at this
          · skip
            have := ev_pq224_14 (x - 420) (by omega)
            rwa [show 420 + (x - 420) = x by omega] at this
      · skip
        by_cases h15_18 : x < 480
        · skip
          have := ev_pq224_15 (x - 450) (by omega)
          rwa [show 450 + (x - 450) = x by omega] at this
        · skip
          by_cases h16_18 : x < 510
          · skip
            have := ev_pq224_16 (x - 480) (by omega)
            rwa [show 480 + (x - 480) = x by omega] at this
          · skip
            have := ev_pq224_17 (x - 510) (by omega)
            rwa [show 510 + (x - 510) = x by omega] at this
    · skip
      by_cases h18_24 : x < 630
      · skip
        by_cases h18_21 : x < 570
        · skip
          have := ev_pq224_18 (x - 540) (by omega)
          rwa [show 540 + (x - 540) = x by omega] at this
        · skip
          by_cases h19_21 : x < 600
          · skip
            have := ev_pq224_19 (x - 570) (by omega)
            rwa [show 570 + (x - 570) = x by omega] at this
          · skip
            have := ev_pq224_20 (x - 600) (by omega)
            rwa [show 600 + (x - 600) = x by omega] at this
      · skip
        by_cases h21_24 : x < 660
        · skip
          have := ev_pq224_21 (x - 630) (by omega)
          rwa [show 630 + (x - 630) = x by omega] at this
        · skip
          by_cases h22_24 : x < 690
          · skip
            have := ev_pq224_22 (x - 660) (by omega)
            rwa [show 660 + (x - 660) = x by omega] at this
          · skip
            have := ev_pq224_23 (x - 690) (by omega)
            rwa [show 690 + (x - 690) = x by omega] at this
theorem ev_pq226_0 : ∀ x, x < 30 → ex_ck 226 (0 + x) = true := by decide +kernel
theorem ev_pq226_1 : ∀ x, x < 30 → ex_ck 226 (30 + x) = true := by decide +kernel
theorem ev_pq226_2 : ∀ x, x < 30 → ex_ck 226 (60 + x) = true := by decide +kernel
theorem ev_pq226_3 : ∀ x, x < 30 → ex_ck 226 (90 + x) = true := by decide +kernel
theorem ev_pq226_4 : ∀ x, x < 30 → ex_ck 226 (120 + x) = true := by decide +kernel
theorem ev_pq226_5 : ∀ x, x < 30 → ex_ck 226 (150 + x) = true := by decide +kernel
theorem ev_pq226_6 : ∀ x, x < 30 → ex_ck 226 (180 + x) = true := by decide +kernel
theorem ev_pq226_7 : ∀ x, x < 30 → ex_ck 226 (210 + x) = true := by decide +kernel
theorem ev_pq226_8 : ∀ x, x < 30 → ex_ck 226 (240 + x) = true := by decide +kernel
theorem ev_pq226_9 : ∀ x, x < 30 → ex_ck 226 (270 + x) = true := by decide +kernel
theorem ev_pq226_10 : ∀ x, x < 30 → ex_ck 226 (300 + x) = true := by decide +kernel
theorem ev_pq226_11 : ∀ x, x < 30 → ex_ck 226 (330 + x) = true := by decide +kernel
theorem ev_pq226_12 : ∀ x, x < 30 → ex_ck 226 (360 + x) = true := by decide +kernel
theorem ev_pq226_ok (x : Nat) (hx : x < 390) : ex_ck 226 x = true := by
  by_cases h0_13 : x < 180
  · skip
    by_cases h0_6 : x < 90
    · skip
      by_cases h0_3 : x < 30
      · skip
        have := ev_pq226_0 (x - 0) (by omega)
        rwa [show 0 + (x - 0) = x by omega] at this
      · skip
        by_cases h1_3 : x < 60
        · skip
          have := ev_pq226_1 (x - 30) (by omega)
          rwa [show 30 + (x - 30) = x by omega] at this
        · skip
          have := ev_pq226_2 (x - 60) (by omega)
          rwa [show 60 + (x - 60) = x by omega] at this
    · skip
      by_cases h3_6 : x < 120
      · skip
        have := ev_pq226_3 (x - 90) (by omega)
        rwa [show 90 + (x - 90) = x by omega] at this
      · skip
        by_cases h4_6 : x < 150
        · skip
          have := ev_pq226_4 (x - 120) (by omega)
          rwa [show 120 + (x - 120) = x by omega] at this
        · skip
          have := ev_pq226_5 (x - 150) (by omega)
          rwa [show 150 + (x - 150) = x by omega] at this
  · skip
    by_cases h6_13 : x < 270
    · skip
      by_cases h6_9 : x < 210
      · skip
        have := ev_pq226_6 (x - 180) (by omega)
        rwa [show 180 + (x - 180) = x by omega] at this
      · skip
        by_cases h7_9 : x < 240
        · skip
          have := ev_pq226_7 (x - 210) (by omega)
          rwa [show 210 + (x - 210) = x by omega] at this
        · skip
          have := ev_pq226_8 (x - 240) (by omega)
          rwa [show 240 + (x - 240) = x by omega] at this
    · skip
      by_cases h9_13 : x < 330
      · skip
        by_cases h9_11 : x < 300
        · skip
          have := ev_pq226_9 (x - 270) (by omega)
          rwa [show 270 + (x - 270) = x by omega] at this
        · skip
          have := ev_pq226_10 (x - 300) (by omega)
          rwa [show 300 + (x - 300) = x by omega] at this
      · skip
        by_cases h11_13 : x < 360
        · skip
          have := ev_pq226_11 (x - 330) (by omega)
          rwa [show 330 + (x - 330) = x by omega] at this
        · skip
          have := ev_pq226_12 (x - 360) (by omega)
          rwa [show 360 + (x - 360) = x by omega] at this
theorem ev_pq97_0 : ∀ x, x < 30 → ex_ck 97 (0 + x) = true := by decide +kernel
theorem ev_pq97_1 : ∀ x, x < 30 → ex_ck 97 (30 + x) = true := by decide +kernel
theorem ev_pq97_2 : ∀ x, x < 30 → ex_ck 97 (60 + x) = true := by decide +kernel
theorem ev_pq97_3 : ∀ x, x < 30 → ex_ck 97 (90 + x) = true := by decide +kernel
theorem ev_pq97_4 : ∀ x, x < 30 → ex_ck 97 (120 + x) = true := by decide +kernel
theorem ev_pq97_5 : ∀ x, x < 30 → ex_ck 97 (150 + x) = true := by decide +kernel
theorem ev_pq97_6 : ∀ x, x < 30 → ex_ck 97 (180 + x) = true := by decide +kernel
theorem ev_pq97_7 : ∀ x, x < 30 → ex_ck 97 (210 + x) = true := by decide +kernel
theorem ev_pq97_8 : ∀ x, x < 30 → ex_ck 97 (240 + x) = true := by decide +kernel
theorem ev_pq97_9 : ∀ x, x < 30 → ex_ck 97 (270 + x) = true := by decide +kernel
theorem ev_pq97_ok (x : Nat) (hx : x < 300) : ex_ck 97 x = true := by
  by_cases h0_10 : x < 150
  · skip
    by_cases h0_5 : x < 60
    · skip
      by_cases h0_2 : x < 30
      · skip
        have := ev_pq97_0 (x - 0) (by omega)
        rwa [show 0 + (x - 0) = x by omega] at this
      · skip
        have := ev_pq97_1 (x - 30) (by omega)
        rwa [show 30 + (x - 30) = x by omega] at this
    · skip
      by_cases h2_5 : x < 90
      · skip
        have := ev_pq97_2 (x - 60) (by omega)
        rwa [show 60 + (x - 60) = x by omega] at this
      · skip
        by_cases h3_5 : x < 120
        · skip
          have := ev_pq97_3 (x - 90) (by omega)
          rwa [show 90 + (x - 90) = x by omega] at this
        · skip
          have := ev_pq97_4 (x - 120) (by omega)
          rwa [show 120 + (x - 120) = x by omega] at this
  · skip
    by_cases h5_10 : x < 210
    · skip
      by_cases h5_7 : x < 180
      · skip
        have := ev_pq97_5 (x - 150) (by omega)
        rwa [show 150 + (x - 150) = x by omega] at this
      · skip
        have := ev_pq97_6 (x - 180) (by omega)
        rwa [show 180 + (x - 180) = x by omega] at this
    · skip
      by_cases h7_10 : x < 240
      · skip
        have := ev_pq97_7 (x - 210) (by omega)
        rwa [show 210 + (x - 210) = x by omega] at this
      · skip
        by_cases h8_10 : x < 270
        · skip
          have := ev_pq97_8 (x - 240) (by omega)
          rwa [show 240 + (x - 240) = x by omega] at this
        · skip
          have := ev_pq97_9 (x - 270) (by omega)
          rwa [show 270 + (x - 270) = x by omega] at this
theorem ev_pg_ok (y : Nat) (h : y < 243) (x : Nat) (hx : x < et_ln y) : ex_ck y x = true := by
  by_cases h1242 : y = 242
  · subst h1242; exact ev_pq242_ok x (Nat.lt_of_lt_of_le hx (by decide +kernel))
  by_cases h1224 : y = 224
  · subst h1224; exact ev_pq224_ok x (Nat.lt_of_lt_of_le hx (by decide +kernel))
  by_cases h1226 : y = 226
  · subst h1226; exact ev_pq226_ok x (Nat.lt_of_lt_of_le hx (by decide +kernel))
  by_cases h1097 : y = 97
  · subst h1097; exact ev_pq97_ok x (Nat.lt_of_lt_of_le hx (by decide +kernel))
  suffices hs : ev_pg y = true by
    unfold ev_pg at hs
    exact List.all_eq_true.mp hs x (List.mem_range.mpr hx)
  by_cases h0 : y < 30
  · have := ev_pg_0 (y - 0) (by omega) ; rwa [show 0 + (y - 0) = y by omega] at this
  by_cases h1 : y < 60
  · have := ev_pg_1 (y - 30) (by omega) ; rwa [show 30 + (y - 30) = y by omega] at this
  by_cases h2 : y < 90
  · have := ev_pg_2 (y - 60) (by omega) ; rwa [show 60 + (y - 60) = y by omega] at this
  by_cases h3 : y < 120
  · have := ev_pg_3 (y - 90) (by omega) (by omega); rwa [show 90 + (y - 90) = y by omega] at this
  by_cases h4 : y < 150
  · have := ev_pg_4 (y - 120) (by omega) ; rwa [show 120 + (y - 120) = y by omega] at this
  by_cases h5 : y < 180
  · have := ev_pg_5 (y - 150) (by omega) ; rwa [show 150 + (y - 150) = y by omega] at this
  by_cases h6 : y < 210
  · have := ev_pg_6 (y - 180) (by omega) ; rwa [show 180 + (y - 180) = y by omega] at this
  by_cases h7 : y < 240
  · have := ev_pg_7 (y - 210) (by omega) (by omega) (by omega); rwa [show 210 + (y - 210) = y by omega] at this
  have := ev_pg_8 (y - 240) (by omega) (by omega); rwa [show 240 + (y - 240) = y by omega] at this
