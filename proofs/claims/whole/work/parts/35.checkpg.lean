/-! The programs checked, instruction by instruction. -/
def ex_okr (y : Nat) (i : Instr) : Bool := match i with
  | .ireturn => (decide (ew_rt y = some .int) && !et_bl y) || (decide (ew_rt y = some .boolean) && et_bl y)
  | .lreturn => decide (ew_rt y = some .long)
  | .dreturn => decide (ew_rt y = some .double)
  | .areturn => match ew_rt y with
    | some (.object _) => true
    | some (.array _) => true
    | _ => false
  | .return_ => decide (ew_rt y = none)
  | _ => true
def ex_ck (y x : Nat) : Bool := match ew_pg y x with
  | none => true
  | some q => ew_okb (ew_cd y) x q && ex_okr y q.1
def ev_pg (y : Nat) : Bool := (List.range (et_ln y)).all (ex_ck y)
def ev_ny (y : Nat) : Bool := Nat.beq (et_ln y) 0 || (plainName (ew_nm y).cls && decide (ew_on (et_cls y) = (ew_nm y).cls) && (!et_ini y || decide ((ew_nm y).name = "<init>")) && Nat.ble (et_ln y) 65000)
theorem ev_ny_ok : ∀ y, y < 243 → ev_ny y = true := by decide +kernel
theorem ev_pg_0 : ∀ y, y < 30 → ev_pg (0 + y) = true := by decide +kernel
theorem ev_pg_1 : ∀ y, y < 30 → ev_pg (30 + y) = true := by decide +kernel
theorem ev_pg_2 : ∀ y, y < 30 → ev_pg (60 + y) = true := by decide +kernel
theorem ev_pg_3 : ∀ y, y < 30 → ev_pg (90 + y) = true := by decide +kernel
theorem ev_pg_4 : ∀ y, y < 30 → ev_pg (120 + y) = true := by decide +kernel
theorem ev_pg_5 : ∀ y, y < 30 → ev_pg (150 + y) = true := by decide +kernel
theorem ev_pg_6 : ∀ y, y < 30 → ev_pg (180 + y) = true := by decide +kernel
theorem ev_pg_7 : ∀ y, y < 30 → ev_pg (210 + y) = true := by decide +kernel
theorem ev_pg_8 : ∀ y, y < 2 → ev_pg (240 + y) = true := by decide +kernel
theorem ev_pl_0 : ∀ x, x < 30 → ex_ck 242 (0 + x) = true := by decide +kernel
theorem ev_pl_1 : ∀ x, x < 30 → ex_ck 242 (30 + x) = true := by decide +kernel
theorem ev_pl_2 : ∀ x, x < 30 → ex_ck 242 (60 + x) = true := by decide +kernel
theorem ev_pl_3 : ∀ x, x < 30 → ex_ck 242 (90 + x) = true := by decide +kernel
theorem ev_pl_4 : ∀ x, x < 30 → ex_ck 242 (120 + x) = true := by decide +kernel
theorem ev_pl_5 : ∀ x, x < 30 → ex_ck 242 (150 + x) = true := by decide +kernel
theorem ev_pl_6 : ∀ x, x < 30 → ex_ck 242 (180 + x) = true := by decide +kernel
theorem ev_pl_7 : ∀ x, x < 30 → ex_ck 242 (210 + x) = true := by decide +kernel
theorem ev_pl_8 : ∀ x, x < 30 → ex_ck 242 (240 + x) = true := by decide +kernel
theorem ev_pl_9 : ∀ x, x < 30 → ex_ck 242 (270 + x) = true := by decide +kernel
theorem ev_pl_10 : ∀ x, x < 30 → ex_ck 242 (300 + x) = true := by decide +kernel
theorem ev_pl_11 : ∀ x, x < 30 → ex_ck 242 (330 + x) = true := by decide +kernel
theorem ev_pl_12 : ∀ x, x < 30 → ex_ck 242 (360 + x) = true := by decide +kernel
theorem ev_pl_13 : ∀ x, x < 30 → ex_ck 242 (390 + x) = true := by decide +kernel
theorem ev_pl_14 : ∀ x, x < 30 → ex_ck 242 (420 + x) = true := by decide +kernel
theorem ev_pl_15 : ∀ x, x < 30 → ex_ck 242 (450 + x) = true := by decide +kernel
theorem ev_pl_16 : ∀ x, x < 30 → ex_ck 242 (480 + x) = true := by decide +kernel
theorem ev_pl_17 : ∀ x, x < 30 → ex_ck 242 (510 + x) = true := by decide +kernel
theorem ev_pl_18 : ∀ x, x < 30 → ex_ck 242 (540 + x) = true := by decide +kernel
theorem ev_pl_19 : ∀ x, x < 30 → ex_ck 242 (570 + x) = true := by decide +kernel
theorem ev_pl_20 : ∀ x, x < 30 → ex_ck 242 (600 + x) = true := by decide +kernel
theorem ev_pl_21 : ∀ x, x < 30 → ex_ck 242 (630 + x) = true := by decide +kernel
theorem ev_pl_22 : ∀ x, x < 30 → ex_ck 242 (660 + x) = true := by decide +kernel
theorem ev_pl_23 : ∀ x, x < 30 → ex_ck 242 (690 + x) = true := by decide +kernel
theorem ev_pl_24 : ∀ x, x < 30 → ex_ck 242 (720 + x) = true := by decide +kernel
theorem ev_pl_25 : ∀ x, x < 30 → ex_ck 242 (750 + x) = true := by decide +kernel
theorem ev_pl_26 : ∀ x, x < 30 → ex_ck 242 (780 + x) = true := by decide +kernel
theorem ev_pl_27 : ∀ x, x < 30 → ex_ck 242 (810 + x) = true := by decide +kernel
theorem ev_pl_28 : ∀ x, x < 30 → ex_ck 242 (840 + x) = true := by decide +kernel
theorem ev_pl_29 : ∀ x, x < 30 → ex_ck 242 (870 + x) = true := by decide +kernel
theorem ev_pl_30 : ∀ x, x < 30 → ex_ck 242 (900 + x) = true := by decide +kernel
theorem ev_pl_31 : ∀ x, x < 30 → ex_ck 242 (930 + x) = true := by decide +kernel
theorem ev_pl_32 : ∀ x, x < 30 → ex_ck 242 (960 + x) = true := by decide +kernel
theorem ev_pl_33 : ∀ x, x < 30 → ex_ck 242 (990 + x) = true := by decide +kernel
theorem ev_pl_34 : ∀ x, x < 30 → ex_ck 242 (1020 + x) = true := by decide +kernel
theorem ev_pl_35 : ∀ x, x < 30 → ex_ck 242 (1050 + x) = true := by decide +kernel
theorem ev_pl_36 : ∀ x, x < 30 → ex_ck 242 (1080 + x) = true := by decide +kernel
theorem ev_pl_37 : ∀ x, x < 30 → ex_ck 242 (1110 + x) = true := by decide +kernel
theorem ev_pl_38 : ∀ x, x < 30 → ex_ck 242 (1140 + x) = true := by decide +kernel
theorem ev_pl_39 : ∀ x, x < 30 → ex_ck 242 (1170 + x) = true := by decide +kernel
theorem ev_pl_40 : ∀ x, x < 30 → ex_ck 242 (1200 + x) = true := by decide +kernel
theorem ev_pl_41 : ∀ x, x < 30 → ex_ck 242 (1230 + x) = true := by decide +kernel
theorem ev_pl_42 : ∀ x, x < 30 → ex_ck 242 (1260 + x) = true := by decide +kernel
theorem ev_pl_43 : ∀ x, x < 30 → ex_ck 242 (1290 + x) = true := by decide +kernel
theorem ev_pl_44 : ∀ x, x < 30 → ex_ck 242 (1320 + x) = true := by decide +kernel
theorem ev_pl_45 : ∀ x, x < 30 → ex_ck 242 (1350 + x) = true := by decide +kernel
theorem ev_pl_46 : ∀ x, x < 30 → ex_ck 242 (1380 + x) = true := by decide +kernel
theorem ev_pl_47 : ∀ x, x < 30 → ex_ck 242 (1410 + x) = true := by decide +kernel
theorem ev_pl_48 : ∀ x, x < 30 → ex_ck 242 (1440 + x) = true := by decide +kernel
theorem ev_pl_49 : ∀ x, x < 30 → ex_ck 242 (1470 + x) = true := by decide +kernel
theorem ev_pl_50 : ∀ x, x < 30 → ex_ck 242 (1500 + x) = true := by decide +kernel
theorem ev_pl_51 : ∀ x, x < 30 → ex_ck 242 (1530 + x) = true := by decide +kernel
theorem ev_pl_52 : ∀ x, x < 30 → ex_ck 242 (1560 + x) = true := by decide +kernel
theorem ev_pl_53 : ∀ x, x < 30 → ex_ck 242 (1590 + x) = true := by decide +kernel
theorem ev_pl_54 : ∀ x, x < 30 → ex_ck 242 (1620 + x) = true := by decide +kernel
theorem ev_pl_55 : ∀ x, x < 30 → ex_ck 242 (1650 + x) = true := by decide +kernel
theorem ev_pl_56 : ∀ x, x < 30 → ex_ck 242 (1680 + x) = true := by decide +kernel
theorem ev_pl_57 : ∀ x, x < 30 → ex_ck 242 (1710 + x) = true := by decide +kernel
theorem ev_pl_58 : ∀ x, x < 30 → ex_ck 242 (1740 + x) = true := by decide +kernel
theorem ev_pl_59 : ∀ x, x < 30 → ex_ck 242 (1770 + x) = true := by decide +kernel
theorem ev_pl_60 : ∀ x, x < 30 → ex_ck 242 (1800 + x) = true := by decide +kernel
theorem ev_pl_61 : ∀ x, x < 30 → ex_ck 242 (1830 + x) = true := by decide +kernel
theorem ev_pl_ok (x : Nat) (hx : x < 1860) : ex_ck 242 x = true := by
  by_cases h0_62 : x < 930
  · skip
    by_cases h0_31 : x < 450
    · skip
      by_cases h0_15 : x < 210
      · skip
        by_cases h0_7 : x < 90
        · skip
          by_cases h0_3 : x < 30
          · skip
            have := ev_pl_0 (x - 0) (by omega)
            rwa [show 0 + (x - 0) = x by omega] at this
          · skip
            by_cases h1_3 : x < 60
            · skip
              have := ev_pl_1 (x - 30) (by omega)
              rwa [show 30 + (x - 30) = x by omega] at this
            · skip
              have := ev_pl_2 (x - 60) (by omega)
              rwa [show 60 + (x - 60) = x by omega] at this
        · skip
          by_cases h3_7 : x < 150
          · skip
            by_cases h3_5 : x < 120
            · skip
              have := ev_pl_3 (x - 90) (by omega)
              rwa [show 90 + (x - 90) = x by omega] at this
            · skip
              have := ev_pl_4 (x - 120) (by omega)
              rwa [show 120 + (x - 120) = x by omega] at this
          · skip
            by_cases h5_7 : x < 180
            · skip
              have := ev_pl_5 (x - 150) (by omega)
              rwa [show 150 + (x - 150) = x by omega] at this
            · skip
              have := ev_pl_6 (x - 180) (by omega)
              rwa [show 180 + (x - 180) = x by omega] at this
      · skip
        by_cases h7_15 : x < 330
        · skip
          by_cases h7_11 : x < 270
          · skip
            by_cases h7_9 : x < 240
            · skip
              have := ev_pl_7 (x - 210) (by omega)
              rwa [show 210 + (x - 210) = x by omega] at this
            · skip
              have := ev_pl_8 (x - 240) (by omega)
              rwa [show 240 + (x - 240) = x by omega] at this
          · skip
            by_cases h9_11 : x < 300
            · skip
              have := ev_pl_9 (x - 270) (by omega)
              rwa [show 270 + (x - 270) = x by omega] at this
            · skip
              have := ev_pl_10 (x - 300) (by omega)
              rwa [show 300 + (x - 300) = x by omega] at this
        · skip
          by_cases h11_15 : x < 390
          · skip
            by_cases h11_13 : x < 360
            · skip
              have := ev_pl_11 (x - 330) (by omega)
              rwa [show 330 + (x - 330) = x by omega] at this
            · skip
              have := ev_pl_12 (x - 360) (by omega)
              rwa [show 360 + (x - 360) = x by omega] at this
          · skip
            by_cases h13_15 : x < 420
            · skip
              have := ev_pl_13 (x - 390) (by omega)
              rwa [show 390 + (x - 390) = x by omega] at this
            · skip
              have := ev_pl_14 (x - 420) (by omega)
              rwa [show 420 + (x - 420) = x by omega] at this
    · skip
      by_cases h15_31 : x < 690
      · skip
        by_cases h15_23 : x < 570
        · skip
          by_cases h15_19 : x < 510
          · skip
            by_cases h15_17 : x < 480
            · skip
              have := ev_pl_15 (x - 450) (by omega)
              rwa [show 450 + (x - 450) = x by omega] at this
            · skip
              have := ev_pl_16 (x - 480) (by omega)
              rwa [show 480 + (x - 480) = x by omega] at this
          · skip
            by_cases h17_19 : x < 540
            · skip
              have := ev_pl_17 (x - 510) (by omega)
              rwa [show 510 + (x - 510) = x by omega] at this
            · skip
              have := ev_pl_18 (x - 540) (by omega)
              rwa [show 540 + (x - 540) = x by omega] at this
        · skip
          by_cases h19_23 : x < 630
          · skip
            by_cases h19_21 : x < 600
            · skip
              have := ev_pl_19 (x - 570) (by omega)
              rwa [show 570 + (x - 570) = x by omega] at this
            · skip
              have := ev_pl_20 (x - 600) (by omega)
              rwa [show 600 + (x - 600) = x by omega] at this
          · skip
            by_cases h21_23 : x < 660
            · skip
              have := ev_pl_21 (x - 630) (by omega)
              rwa [show 630 + (x - 630) = x by omega] at this
            · skip
              have := ev_pl_22 (x - 660) (by omega)
              rwa [show 660 + (x - 660) = x by omega] at this
      · skip
        by_cases h23_31 : x < 810
        · skip
          by_cases h23_27 : x < 750
          · skip
            by_cases h23_25 : x < 720
            · skip
              have := ev_pl_23 (x - 690) (by omega)
              rwa [show 690 + (x - 690) = x by omega] at this
            · skip
              have := ev_pl_24 (x - 720) (by omega)
              rwa [show 720 + (x - 720) = x by omega] at this
          · skip
            by_cases h25_27 : x < 780
            · skip
              have := ev_pl_25 (x - 750) (by omega)
              rwa [show 750 + (x - 750) = x by omega] at this
            · skip
              have := ev_pl_26 (x - 780) (by omega)
              rwa [show 780 + (x - 780) = x by omega] at this
        · skip
          by_cases h27_31 : x < 870
          · skip
            by_cases h27_29 : x < 840
            · skip
              have := ev_pl_27 (x - 810) (by omega)
              rwa [show 810 + (x - 810) = x by omega] at this
            · skip
              have := ev_pl_28 (x - 840) (by omega)
              rwa [show 840 + (x - 840) = x by omega] at this
          · skip
            by_cases h29_31 : x < 900
            · skip
              have := ev_pl_29 (x - 870) (by omega)
              rwa [show 870 + (x - 870) = x by omega] at this
            · skip
              have := ev_pl_30 (x - 900) (by omega)
              rwa [show 900 + (x - 900) = x by omega] at this
  · skip
    by_cases h31_62 : x < 1380
    · skip
      by_cases h31_46 : x < 1140
      · skip
        by_cases h31_38 : x < 1020
        · skip
          by_cases h31_34 : x < 960
          · skip
            have := ev_pl_31 (x - 930) (by omega)
            rwa [show 930 + (x - 930) = x by omega] at this
          · skip
            by_cases h32_34 : x < 990
            · skip
              have := ev_pl_32 (x - 960) (by omega)
              rwa [show 960 + (x - 960) = x by omega] at this
            · skip
              have := ev_pl_33 (x - 990) (by omega)
              rwa [show 990 + (x - 990) = x by omega] at this
        · skip
          by_cases h34_38 : x < 1080
          · skip
            by_cases h34_36 : x < 1050
            · skip
              have := ev_pl_34 (x - 1020) (by omega)
              rwa [show 1020 + (x - 1020) = x by omega] at this
            · skip
              have := ev_pl_35 (x - 1050) (by omega)
              rwa [show 1050 + (x - 1050) = x by omega] at this
          · skip
            by_cases h36_38 : x < 1110
            · skip
              have := ev_pl_36 (x - 1080) (by omega)
              rwa [show 1080 + (x - 1080) = x by omega] at this
            · skip
              have := ev_pl_37 (x - 1110) (by omega)
              rwa [show 1110 + (x - 1110) = x by omega] at this
      · skip
        by_cases h38_46 : x < 1260
        · skip
          by_cases h38_42 : x < 1200
          · skip
            by_cases h38_40 : x < 1170
            · skip
              have := ev_pl_38 (x - 1140) (by omega)
              rwa [show 1140 + (x - 1140) = x by omega] at this
            · skip
              have := ev_pl_39 (x - 1170) (by omega)
              rwa [show 1170 + (x - 1170) = x by omega] at this
          · skip
            by_cases h40_42 : x < 1230
            · skip
              have := ev_pl_40 (x - 1200) (by omega)
              rwa [show 1200 + (x - 1200) = x by omega] at this
            · skip
              have := ev_pl_41 (x - 1230) (by omega)
              rwa [show 1230 + (x - 1230) = x by omega] at this
        · skip
          by_cases h42_46 : x < 1320
          · skip
            by_cases h42_44 : x < 1290
            · skip
              have := ev_pl_42 (x - 1260) (by omega)
              rwa [show 1260 + (x - 1260) = x by omega] at this
            · skip
              have := ev_pl_43 (x - 1290) (by omega)
              rwa [show 1290 + (x - 1290) = x by omega] at this
          · skip
            by_cases h44_46 : x < 1350
            · skip
              have := ev_pl_44 (x - 1320) (by omega)
              rwa [show 1320 + (x - 1320) = x by omega] at this
            · skip
              have := ev_pl_45 (x - 1350) (by omega)
              rwa [show 1350 + (x - 1350) = x by omega] at this
    · skip
      by_cases h46_62 : x < 1620
      · skip
        by_cases h46_54 : x < 1500
        · skip
          by_cases h46_50 : x < 1440
          · skip
            by_cases h46_48 : x < 1410
            · skip
              have := ev_pl_46 (x - 1380) (by omega)
              rwa [show 1380 + (x - 1380) = x by omega] at this
            · skip
              have := ev_pl_47 (x - 1410) (by omega)
              rwa [show 1410 + (x - 1410) = x by omega] at this
          · skip
            by_cases h48_50 : x < 1470
            · skip
              have := ev_pl_48 (x - 1440) (by omega)
              rwa [show 1440 + (x - 1440) = x by omega] at this
            · skip
              have := ev_pl_49 (x - 1470) (by omega)
              rwa [show 1470 + (x - 1470) = x by omega] at this
        · skip
          by_cases h50_54 : x < 1560
          · skip
            by_cases h50_52 : x < 1530
            · skip
              have := ev_pl_50 (x - 1500) (by omega)
              rwa [show 1500 + (x - 1500) = x by omega] at this
            · skip
              have := ev_pl_51 (x - 1530) (by omega)
              rwa [show 1530 + (x - 1530) = x by omega] at this
          · skip
            by_cases h52_54 : x < 1590
            · skip
              have := ev_pl_52 (x - 1560) (by omega)
              rwa [show 1560 + (x - 1560) = x by omega] at this
            · skip
              have := ev_pl_53 (x - 1590) (by omega)
              rwa [show 1590 + (x - 1590) = x by omega] at this
      · skip
        by_cases h54_62 : x < 1740
        · skip
          by_cases h54_58 : x < 1680
          · skip
            by_cases h54_56 : x < 1650
            · skip
              have := ev_pl_54 (x - 1620) (by omega)
              rwa [show 1620 + (x - 1620) = x by omega] at this
            · skip
              have := ev_pl_55 (x - 1650) (by omega)
              rwa [show 1650 + (x - 1650) = x by omega] at this
          · skip
            by_cases h56_58 : x < 1710
            · skip
              have := ev_pl_56 (x - 1680) (by omega)
              rwa [show 1680 + (x - 1680) = x by omega] at this
            · skip
              have := ev_pl_57 (x - 1710) (by omega)
              rwa [show 1710 + (x - 1710) = x by omega] at this
        · skip
          by_cases h58_62 : x < 1800
          · skip
            by_cases h58_60 : x < 1770
            · skip
              have := ev_pl_58 (x - 1740) (by omega)
              rwa [show 1740 + (x - 1740) = x by omega] at this
            · skip
              have := ev_pl_59 (x - 1770) (by omega)
              rwa [show 1770 + (x - 1770) = x by omega] at this
          · skip
            by_cases h60_62 : x < 1830
            · skip
              have := ev_pl_60 (x - 1800) (by omega)
              rwa [show 1800 + (x - 1800) = x by omega] at this
            · skip
              have := ev_pl_61 (x - 1830) (by omega)
              rwa [show 1830 + (x - 1830) = x by omega] at this
theorem ev_pg_ok (y : Nat) (h : y < 243) (x : Nat) (hx : x < et_ln y) : ex_ck y x = true := by
  by_cases h242 : y = 242
  · subst h242; exact ev_pl_ok x (Nat.lt_of_lt_of_le hx (by decide +kernel))
  suffices hs : ev_pg y = true by
    unfold ev_pg at hs
    exact List.all_eq_true.mp hs x (List.mem_range.mpr hx)
  by_cases h0 : y < 30
  · have := ev_pg_0 y h0; rwa [Nat.zero_add] at this

  by_cases h1 : y < 60
  · have := ev_pg_1 (y - 30) (by omega); rwa [show 30 + (y - 30) = y by omega] at this
  by_cases h2 : y < 90
  · have := ev_pg_2 (y - 60) (by omega); rwa [show 60 + (y - 60) = y by omega] at this
  by_cases h3 : y < 120
  · have := ev_pg_3 (y - 90) (by omega); rwa [show 90 + (y - 90) = y by omega] at this
  by_cases h4 : y < 150
  · have := ev_pg_4 (y - 120) (by omega); rwa [show 120 + (y - 120) = y by omega] at this
  by_cases h5 : y < 180
  · have := ev_pg_5 (y - 150) (by omega); rwa [show 150 + (y - 150) = y by omega] at this
  by_cases h6 : y < 210
  · have := ev_pg_6 (y - 180) (by omega); rwa [show 180 + (y - 180) = y by omega] at this
  by_cases h7 : y < 240
  · have := ev_pg_7 (y - 210) (by omega); rwa [show 210 + (y - 210) = y by omega] at this
  have := ev_pg_8 (y - 240) (by omega)
  rwa [show 240 + (y - 240) = y by omega] at this
