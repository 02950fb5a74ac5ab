theorem lamp_w : (Cond.static yL_lamp ∈ lw_g ∧ Cond.initialized yL_lamp.cls ∈ lw_g) ∧ Cond.codeWith yL_lamp cL_lamp 5 (some .int) hhL ∈ lw_g := by decide +kernel
theorem s_clamp {α : Type} {Γ : Cx} {ι : α → Option Value} {cc : ByteArray} {own : String} {fr lo : Nat} {ret : Option FieldType} {isI : Bool} {S : Mem} {pc : Nat} {L : List (Option Value)} {st : List Value} {idx frY loY : Nat} {X0 : Option (Int32 × Mem)} {K : Int32 → Mem → Option (α × Mem)} {a1 a2 a3 a4 : Value} (m1 : Cond.methodLink own idx yL_lamp ∈ lw_g) (hc : ∀ v S1, X0 = some (v, S1) → ConW (lOf Γ) yL_lamp cL_lamp 5 (some .int) hhL frY loY [a1, a2, a3, a4] S (rI v) S1) (hrm : RmOK fr lo frY loY 5) (hst : (st.map fun v => v.category).sum ≤ 8) (hd : decode cc pc = .ok (.invokestatic idx, 3)) (k : ∀ v S1, Sim cc own fr lo ret isI Γ ι (K v S1) S1 (pc + 3) L (.int v :: st)) : Sim cc own fr lo ret isI Γ ι (bd X0 K) S pc L (a4 :: a3 :: a2 :: a1 :: st) := by
  refine s_run (ιb := rI) (fun v S1 h0 => (hc v S1 h0).1 ⟨Γ⟩) (fun v S1 h0 => ?_) k
  obtain ⟨p, l, e, R, s, m, args, below, meth, c, nL, D, cs, z, mc, ms, z0, q0⟩ := Γ
  intro C
  obtain ⟨hx, hb, hml, hown, hts, hK, hlk, ⟨rc, rs, rfl, hrc, hrs⟩, hret, hnw, hisI⟩ := id C
  intro H locs ls cl sl r4 r5 hr hS hL
  refine ⟨_, vx_runSW (hh := hhL) (bytes := cL_lamp) (maxL := 5) (ret := some .int) (n := 4) (As := [a1, a2, a3, a4]) (rest := st) ⟨hx, hb, hml, hown, hts⟩ ((hc v S1 h0).2 D cs z) (vx_cwSW 4 hts (lw_GoodIn (fun w hw => ?_)) rfl rfl rfl (by decide) hrm) ⟨Pre.blind D cs z S _, fun U hU hW => ⟨rfl, by rw [hU]; exact hr.moved hW.alike, va_K.moved hW.alike hK, hnw.warm hW⟩⟩ rfl rfl hL.1.1 rfl (lv_room hst) hd ⟨Nat.le_trans r4 hrc, Nat.le_trans r5 hrs⟩⟩
  rcases List.mem_append.mp hw with h | h
  · rcases List.mem_cons.mp h with rfl | h
    · exact m1
    · rcases List.mem_cons.mp h with rfl | h
      · exact lamp_w.1.1
      · rcases List.mem_cons.mp h with rfl | h
        · exact lamp_w.1.2
        · cases h
  · rcases List.mem_cons.mp h with rfl | h
    · exact lamp_w.2
    · exact h
theorem mk_L_102 : MKV RL 102 yX9_clear cX9_clear 1 (some .boolean) 0 := ⟨lw_in 1458 (by decide +kernel) (by decide +kernel), lw_in 1459 (by decide +kernel) (by decide +kernel), lw_in 1460 (by decide +kernel) (by decide +kernel), lw_in 91 (by decide +kernel) (by decide +kernel), lw_in 1461 (by decide +kernel) (by decide +kernel), ⟨by decide, by decide, by decide⟩⟩
theorem mk_L_103 : MKV RL 103 yX8_fits cX8_fits 1 (some .int) 0 := ⟨lw_in 891 (by decide +kernel) (by decide +kernel), lw_in 892 (by decide +kernel) (by decide +kernel), lw_in 893 (by decide +kernel) (by decide +kernel), lw_in 79 (by decide +kernel) (by decide +kernel), lw_in 894 (by decide +kernel) (by decide +kernel), ⟨by decide, by decide, by decide⟩⟩
theorem mk_L_106 : MKV RL 106 yX9_fits cX9_fits 3 (some .int) 0 := ⟨lw_in 1462 (by decide +kernel) (by decide +kernel), lw_in 1463 (by decide +kernel) (by decide +kernel), lw_in 1464 (by decide +kernel) (by decide +kernel), lw_in 91 (by decide +kernel) (by decide +kernel), lw_in 1465 (by decide +kernel) (by decide +kernel), ⟨by decide, by decide, by decide⟩⟩
theorem mk_L_107 : MKV RL 107 yX8_fit cX8_fit 6 (some .int) 1 := ⟨lw_in 910 (by decide +kernel) (by decide +kernel), lw_in 911 (by decide +kernel) (by decide +kernel), lw_in 912 (by decide +kernel) (by decide +kernel), lw_in 79 (by decide +kernel) (by decide +kernel), lw_in 913 (by decide +kernel) (by decide +kernel), ⟨by decide, by decide, by decide⟩⟩
theorem mk_L_110 : MKV RL 110 yX9_fit cX9_fit 4 (some .int) 1 := ⟨lw_in 1470 (by decide +kernel) (by decide +kernel), lw_in 1471 (by decide +kernel) (by decide +kernel), lw_in 1472 (by decide +kernel) (by decide +kernel), lw_in 91 (by decide +kernel) (by decide +kernel), lw_in 1473 (by decide +kernel) (by decide +kernel), ⟨by decide, by decide, by decide⟩⟩
theorem mk_L_111 : MKV RL 111 yX8_lots cX8_lots 13 (some .int) 5 := ⟨lw_in 914 (by decide +kernel) (by decide +kernel), lw_in 915 (by decide +kernel) (by decide +kernel), lw_in 916 (by decide +kernel) (by decide +kernel), lw_in 79 (by decide +kernel) (by decide +kernel), lw_in 917 (by decide +kernel) (by decide +kernel), ⟨by decide, by decide, by decide⟩⟩
theorem mk_L_115 : MKV RL 115 yX9_lots cX9_lots 11 (some .int) 5 := ⟨lw_in 1474 (by decide +kernel) (by decide +kernel), lw_in 1475 (by decide +kernel) (by decide +kernel), lw_in 1476 (by decide +kernel) (by decide +kernel), lw_in 91 (by decide +kernel) (by decide +kernel), lw_in 1477 (by decide +kernel) (by decide +kernel), ⟨by decide, by decide, by decide⟩⟩
theorem mk_L_116 : MKV RL 116 yX8_mark cX8_mark 3 (some .boolean) 2 := ⟨lw_in 926 (by decide +kernel) (by decide +kernel), lw_in 927 (by decide +kernel) (by decide +kernel), lw_in 928 (by decide +kernel) (by decide +kernel), lw_in 79 (by decide +kernel) (by decide +kernel), lw_in 929 (by decide +kernel) (by decide +kernel), ⟨by decide, by decide, by decide⟩⟩
theorem mk_L_119 : MKV RL 119 yX9_mark cX9_mark 3 (some .boolean) 2 := ⟨lw_in 1486 (by decide +kernel) (by decide +kernel), lw_in 1487 (by decide +kernel) (by decide +kernel), lw_in 1488 (by decide +kernel) (by decide +kernel), lw_in 91 (by decide +kernel) (by decide +kernel), lw_in 1489 (by decide +kernel) (by decide +kernel), ⟨by decide, by decide, by decide⟩⟩
theorem mk_L_120 : MKV RL 120 yX8_count cX8_count 2 (some .int) 1 := ⟨lw_in 930 (by decide +kernel) (by decide +kernel), lw_in 931 (by decide +kernel) (by decide +kernel), lw_in 932 (by decide +kernel) (by decide +kernel), lw_in 79 (by decide +kernel) (by decide +kernel), lw_in 933 (by decide +kernel) (by decide +kernel), ⟨by decide, by decide, by decide⟩⟩
theorem mk_L_123 : MKV RL 123 yX9_count cX9_count 2 (some .int) 1 := ⟨lw_in 1490 (by decide +kernel) (by decide +kernel), lw_in 1491 (by decide +kernel) (by decide +kernel), lw_in 1492 (by decide +kernel) (by decide +kernel), lw_in 91 (by decide +kernel) (by decide +kernel), lw_in 1493 (by decide +kernel) (by decide +kernel), ⟨by decide, by decide, by decide⟩⟩
theorem mk_L_15 : MKI RL 15 yX8_init cX8_init 3 none 0 := ⟨lw_in 104 (by decide +kernel) (by decide +kernel), lw_in 105 (by decide +kernel) (by decide +kernel), rfl, lw_in 79 (by decide +kernel) (by decide +kernel), ⟨lw_in 106 (by decide +kernel) (by decide +kernel), rfl⟩, ⟨by decide, by decide, by decide⟩⟩
theorem mk_L_18 : MKI RL 18 yX9_init cX9_init 1 none 0 := ⟨lw_in 1009 (by decide +kernel) (by decide +kernel), lw_in 1010 (by decide +kernel) (by decide +kernel), rfl, lw_in 91 (by decide +kernel) (by decide +kernel), ⟨lw_in 1011 (by decide +kernel) (by decide +kernel), rfl⟩, ⟨by decide, by decide, by decide⟩⟩
theorem mk_L_21 : MKV RL 21 yX8_feed cX8_feed 7 (some .int) 3 := ⟨lw_in 499 (by decide +kernel) (by decide +kernel), lw_in 500 (by decide +kernel) (by decide +kernel), lw_in 501 (by decide +kernel) (by decide +kernel), lw_in 79 (by decide +kernel) (by decide +kernel), lw_in 502 (by decide +kernel) (by decide +kernel), ⟨by decide, by decide, by decide⟩⟩
theorem mk_L_25 : MKV RL 25 yX9_feed cX9_feed 11 (some .int) 3 := ⟨lw_in 1179 (by decide +kernel) (by decide +kernel), lw_in 1180 (by decide +kernel) (by decide +kernel), lw_in 1181 (by decide +kernel) (by decide +kernel), lw_in 91 (by decide +kernel) (by decide +kernel), lw_in 1182 (by decide +kernel) (by decide +kernel), ⟨by decide, by decide, by decide⟩⟩
theorem mk_L_26 : MKV RL 26 yX8_sky cX8_sky 3 (some .int) 0 := ⟨lw_in 511 (by decide +kernel) (by decide +kernel), lw_in 512 (by decide +kernel) (by decide +kernel), lw_in 513 (by decide +kernel) (by decide +kernel), lw_in 79 (by decide +kernel) (by decide +kernel), lw_in 514 (by decide +kernel) (by decide +kernel), ⟨by decide, by decide, by decide⟩⟩
theorem mk_L_30 : MKV RL 30 yX9_sky cX9_sky 2 (some .int) 0 := ⟨lw_in 1184 (by decide +kernel) (by decide +kernel), lw_in 1185 (by decide +kernel) (by decide +kernel), lw_in 1186 (by decide +kernel) (by decide +kernel), lw_in 91 (by decide +kernel) (by decide +kernel), lw_in 1187 (by decide +kernel) (by decide +kernel), ⟨by decide, by decide, by decide⟩⟩
theorem mk_L_31 : MKV RL 31 yX8_kite cX8_kite 3 (some .int) 2 := ⟨lw_in 642 (by decide +kernel) (by decide +kernel), lw_in 643 (by decide +kernel) (by decide +kernel), lw_in 644 (by decide +kernel) (by decide +kernel), lw_in 79 (by decide +kernel) (by decide +kernel), lw_in 645 (by decide +kernel) (by decide +kernel), ⟨by decide, by decide, by decide⟩⟩
theorem mk_L_34 : MKV RL 34 yX9_kite cX9_kite 3 (some .int) 2 := ⟨lw_in 1293 (by decide +kernel) (by decide +kernel), lw_in 1294 (by decide +kernel) (by decide +kernel), lw_in 1295 (by decide +kernel) (by decide +kernel), lw_in 91 (by decide +kernel) (by decide +kernel), lw_in 1296 (by decide +kernel) (by decide +kernel), ⟨by decide, by decide, by decide⟩⟩
theorem mk_L_35 : MKV RL 35 yX8_wind cX8_wind 2 (some .int) 1 := ⟨lw_in 685 (by decide +kernel) (by decide +kernel), lw_in 686 (by decide +kernel) (by decide +kernel), lw_in 687 (by decide +kernel) (by decide +kernel), lw_in 79 (by decide +kernel) (by decide +kernel), lw_in 688 (by decide +kernel) (by decide +kernel), ⟨by decide, by decide, by decide⟩⟩
theorem mk_L_39 : MKV RL 39 yX9_wind cX9_wind 2 (some .int) 1 := ⟨lw_in 1353 (by decide +kernel) (by decide +kernel), lw_in 1354 (by decide +kernel) (by decide +kernel), lw_in 1355 (by decide +kernel) (by decide +kernel), lw_in 91 (by decide +kernel) (by decide +kernel), lw_in 1356 (by decide +kernel) (by decide +kernel), ⟨by decide, by decide, by decide⟩⟩
theorem mk_L_45 : MKV RL 45 yX9_lamp cX9_lamp 3 (some .int) 2 := ⟨lw_in 1360 (by decide +kernel) (by decide +kernel), lw_in 1361 (by decide +kernel) (by decide +kernel), lw_in 1362 (by decide +kernel) (by decide +kernel), lw_in 91 (by decide +kernel) (by decide +kernel), lw_in 1363 (by decide +kernel) (by decide +kernel), ⟨by decide, by decide, by decide⟩⟩
theorem mk_L_46 : MKV RL 46 yX9_thrown cX9_thrown 1 (some .int) 0 := ⟨lw_in 1175 (by decide +kernel) (by decide +kernel), lw_in 1176 (by decide +kernel) (by decide +kernel), lw_in 1177 (by decide +kernel) (by decide +kernel), lw_in 91 (by decide +kernel) (by decide +kernel), lw_in 1178 (by decide +kernel) (by decide +kernel), ⟨by decide, by decide, by decide⟩⟩
theorem mk_L_49 : MKV RL 49 yX8_whistle cX8_whistle 3 (some .boolean) 2 := ⟨lw_in 693 (by decide +kernel) (by decide +kernel), lw_in 694 (by decide +kernel) (by decide +kernel), lw_in 695 (by decide +kernel) (by decide +kernel), lw_in 79 (by decide +kernel) (by decide +kernel), lw_in 696 (by decide +kernel) (by decide +kernel), ⟨by decide, by decide, by decide⟩⟩
theorem mk_L_53 : MKV RL 53 yX9_whistle cX9_whistle 3 (some .boolean) 2 := ⟨lw_in 1364 (by decide +kernel) (by decide +kernel), lw_in 1365 (by decide +kernel) (by decide +kernel), lw_in 1366 (by decide +kernel) (by decide +kernel), lw_in 91 (by decide +kernel) (by decide +kernel), lw_in 1367 (by decide +kernel) (by decide +kernel), ⟨by decide, by decide, by decide⟩⟩
theorem mk_L_54 : MKV RL 54 yX8_lose cX8_lose 3 (some .boolean) 2 := ⟨lw_in 697 (by decide +kernel) (by decide +kernel), lw_in 698 (by decide +kernel) (by decide +kernel), lw_in 699 (by decide +kernel) (by decide +kernel), lw_in 79 (by decide +kernel) (by decide +kernel), lw_in 700 (by decide +kernel) (by decide +kernel), ⟨by decide, by decide, by decide⟩⟩
theorem mk_L_58 : MKV RL 58 yX9_lose cX9_lose 3 (some .boolean) 2 := ⟨lw_in 1368 (by decide +kernel) (by decide +kernel), lw_in 1369 (by decide +kernel) (by decide +kernel), lw_in 1370 (by decide +kernel) (by decide +kernel), lw_in 91 (by decide +kernel) (by decide +kernel), lw_in 1371 (by decide +kernel) (by decide +kernel), ⟨by decide, by decide, by decide⟩⟩
theorem mk_L_59 : MKV RL 59 yX8_run cX8_run 3 (some .int) 1 := ⟨lw_in 701 (by decide +kernel) (by decide +kernel), lw_in 702 (by decide +kernel) (by decide +kernel), lw_in 703 (by decide +kernel) (by decide +kernel), lw_in 79 (by decide +kernel) (by decide +kernel), lw_in 704 (by decide +kernel) (by decide +kernel), ⟨by decide, by decide, by decide⟩⟩
theorem mk_L_62 : MKV RL 62 yX9_run cX9_run 3 (some .int) 1 := ⟨lw_in 1372 (by decide +kernel) (by decide +kernel), lw_in 1373 (by decide +kernel) (by decide +kernel), lw_in 1374 (by decide +kernel) (by decide +kernel), lw_in 91 (by decide +kernel) (by decide +kernel), lw_in 1375 (by decide +kernel) (by decide +kernel), ⟨by decide, by decide, by decide⟩⟩
theorem mk_L_63 : MKV RL 63 yX8_nearest cX8_nearest 4 (some .int) 3 := ⟨lw_in 760 (by decide +kernel) (by decide +kernel), lw_in 761 (by decide +kernel) (by decide +kernel), lw_in 762 (by decide +kernel) (by decide +kernel), lw_in 79 (by decide +kernel) (by decide +kernel), lw_in 763 (by decide +kernel) (by decide +kernel), ⟨by decide, by decide, by decide⟩⟩
theorem mk_L_67 : MKV RL 67 yX9_nearest cX9_nearest 4 (some .int) 3 := ⟨lw_in 1392 (by decide +kernel) (by decide +kernel), lw_in 1393 (by decide +kernel) (by decide +kernel), lw_in 1394 (by decide +kernel) (by decide +kernel), lw_in 91 (by decide +kernel) (by decide +kernel), lw_in 1395 (by decide +kernel) (by decide +kernel), ⟨by decide, by decide, by decide⟩⟩
theorem mk_L_68 : MKV RL 68 yX8_fewest cX8_fewest 5 (some .int) 4 := ⟨lw_in 828 (by decide +kernel) (by decide +kernel), lw_in 829 (by decide +kernel) (by decide +kernel), lw_in 830 (by decide +kernel) (by decide +kernel), lw_in 79 (by decide +kernel) (by decide +kernel), lw_in 831 (by decide +kernel) (by decide +kernel), ⟨by decide, by decide, by decide⟩⟩
theorem mk_L_72 : MKV RL 72 yX9_fewest cX9_fewest 6 (some .int) 4 := ⟨lw_in 1410 (by decide +kernel) (by decide +kernel), lw_in 1411 (by decide +kernel) (by decide +kernel), lw_in 1412 (by decide +kernel) (by decide +kernel), lw_in 91 (by decide +kernel) (by decide +kernel), lw_in 1413 (by decide +kernel) (by decide +kernel), ⟨by decide, by decide, by decide⟩⟩
theorem mk_L_73 : MKV RL 73 yX8_holds cX8_holds 6 (some .int) 4 := ⟨lw_in 836 (by decide +kernel) (by decide +kernel), lw_in 837 (by decide +kernel) (by decide +kernel), lw_in 838 (by decide +kernel) (by decide +kernel), lw_in 79 (by decide +kernel) (by decide +kernel), lw_in 839 (by decide +kernel) (by decide +kernel), ⟨by decide, by decide, by decide⟩⟩
theorem mk_L_76 : MKV RL 76 yX9_holds cX9_holds 7 (some .int) 4 := ⟨lw_in 1419 (by decide +kernel) (by decide +kernel), lw_in 1420 (by decide +kernel) (by decide +kernel), lw_in 1421 (by decide +kernel) (by decide +kernel), lw_in 91 (by decide +kernel) (by decide +kernel), lw_in 1422 (by decide +kernel) (by decide +kernel), ⟨by decide, by decide, by decide⟩⟩
theorem mk_L_77 : MKV RL 77 yX8_mayGo cX8_mayGo 4 (some .int) 1 := ⟨lw_in 845 (by decide +kernel) (by decide +kernel), lw_in 846 (by decide +kernel) (by decide +kernel), lw_in 847 (by decide +kernel) (by decide +kernel), lw_in 79 (by decide +kernel) (by decide +kernel), lw_in 848 (by decide +kernel) (by decide +kernel), ⟨by decide, by decide, by decide⟩⟩
theorem mk_L_80 : MKV RL 80 yX9_mayGo cX9_mayGo 4 (some .int) 1 := ⟨lw_in 1426 (by decide +kernel) (by decide +kernel), lw_in 1427 (by decide +kernel) (by decide +kernel), lw_in 1428 (by decide +kernel) (by decide +kernel), lw_in 91 (by decide +kernel) (by decide +kernel), lw_in 1429 (by decide +kernel) (by decide +kernel), ⟨by decide, by decide, by decide⟩⟩
theorem mk_L_81 : MKV RL 81 yX8_needed cX8_needed 4 (some .int) 2 := ⟨lw_in 850 (by decide +kernel) (by decide +kernel), lw_in 851 (by decide +kernel) (by decide +kernel), lw_in 852 (by decide +kernel) (by decide +kernel), lw_in 79 (by decide +kernel) (by decide +kernel), lw_in 853 (by decide +kernel) (by decide +kernel), ⟨by decide, by decide, by decide⟩⟩
theorem mk_L_84 : MKV RL 84 yX9_needed cX9_needed 6 (some .int) 2 := ⟨lw_in 1434 (by decide +kernel) (by decide +kernel), lw_in 1435 (by decide +kernel) (by decide +kernel), lw_in 1436 (by decide +kernel) (by decide +kernel), lw_in 91 (by decide +kernel) (by decide +kernel), lw_in 1437 (by decide +kernel) (by decide +kernel), ⟨by decide, by decide, by decide⟩⟩
theorem mk_L_85 : MKV RL 85 yX8_mean cX8_mean 9 (some .long) 2 := ⟨lw_in 859 (by decide +kernel) (by decide +kernel), lw_in 860 (by decide +kernel) (by decide +kernel), lw_in 861 (by decide +kernel) (by decide +kernel), lw_in 79 (by decide +kernel) (by decide +kernel), lw_in 862 (by decide +kernel) (by decide +kernel), ⟨by decide, by decide, by decide⟩⟩
theorem mk_L_89 : MKV RL 89 yX9_mean cX9_mean 8 (some .long) 2 := ⟨lw_in 1441 (by decide +kernel) (by decide +kernel), lw_in 1442 (by decide +kernel) (by decide +kernel), lw_in 1443 (by decide +kernel) (by decide +kernel), lw_in 91 (by decide +kernel) (by decide +kernel), lw_in 1444 (by decide +kernel) (by decide +kernel), ⟨by decide, by decide, by decide⟩⟩
theorem mk_L_90 : MKV RL 90 yX8_down cX8_down 2 (some .int) 0 := ⟨lw_in 870 (by decide +kernel) (by decide +kernel), lw_in 871 (by decide +kernel) (by decide +kernel), lw_in 872 (by decide +kernel) (by decide +kernel), lw_in 79 (by decide +kernel) (by decide +kernel), lw_in 873 (by decide +kernel) (by decide +kernel), ⟨by decide, by decide, by decide⟩⟩
theorem mk_L_93 : MKV RL 93 yX9_down cX9_down 4 (some .int) 0 := ⟨lw_in 1450 (by decide +kernel) (by decide +kernel), lw_in 1451 (by decide +kernel) (by decide +kernel), lw_in 1452 (by decide +kernel) (by decide +kernel), lw_in 91 (by decide +kernel) (by decide +kernel), lw_in 1453 (by decide +kernel) (by decide +kernel), ⟨by decide, by decide, by decide⟩⟩
theorem mk_L_94 : MKV RL 94 yX8_note cX8_note 4 (some .int) 3 := ⟨lw_in 883 (by decide +kernel) (by decide +kernel), lw_in 884 (by decide +kernel) (by decide +kernel), lw_in 885 (by decide +kernel) (by decide +kernel), lw_in 79 (by decide +kernel) (by decide +kernel), lw_in 886 (by decide +kernel) (by decide +kernel), ⟨by decide, by decide, by decide⟩⟩
theorem mk_L_97 : MKV RL 97 yX9_note cX9_note 5 (some .int) 3 := ⟨lw_in 1454 (by decide +kernel) (by decide +kernel), lw_in 1455 (by decide +kernel) (by decide +kernel), lw_in 1456 (by decide +kernel) (by decide +kernel), lw_in 91 (by decide +kernel) (by decide +kernel), lw_in 1457 (by decide +kernel) (by decide +kernel), ⟨by decide, by decide, by decide⟩⟩
theorem mk_L_98 : MKV RL 98 yX8_clear cX8_clear 1 (some .boolean) 0 := ⟨lw_in 887 (by decide +kernel) (by decide +kernel), lw_in 888 (by decide +kernel) (by decide +kernel), lw_in 889 (by decide +kernel) (by decide +kernel), lw_in 79 (by decide +kernel) (by decide +kernel), lw_in 890 (by decide +kernel) (by decide +kernel), ⟨by decide, by decide, by decide⟩⟩
def f_L_law_1084 (F : Nat) (k23 : Nat → Nat → Nat → Nat → Int32 → Mem → Option (Int32 × Mem)) (x0 : Nat) (x1 : Nat) (x2 : Nat) (x3 : Nat) (x4 : Int32) (S : Mem) : Option (Int32 × Mem) :=
  k23 x0 x1 x2 x3 (x4 + (7 : Int32)) S
def f_L_law_1051 (F : Nat) (k23 : Nat → Nat → Nat → Nat → Int32 → Mem → Option (Int32 × Mem)) (x0 : Nat) (x1 : Nat) (x2 : Nat) (x3 : Nat) (x4 : Int32) (y0 : Int32) (y1 : Nat) (y2 : Int32) (y3 : Int32) (S : Mem) : Option (Int32 × Mem) :=
  bd (cal S 8 y1 (fn_X9_mark F y1 y2 y3 S)) fun v1 S2 =>
  if y0 = v1 then
    f_L_law_1084 F k23 x0 x1 x2 x3 x4  S2
  else
    rz (0 : Int32) S2
def f_L_law_1027 (F : Nat) (k23 : Nat → Nat → Nat → Nat → Int32 → Mem → Option (Int32 × Mem)) (x0 : Nat) (x1 : Nat) (x2 : Nat) (x3 : Nat) (x4 : Int32) (y0 : Nat) (y1 : Int32) (y2 : Int32) (S : Mem) : Option (Int32 × Mem) :=
  bd (cal S 7 y0 (fn_X8_mark F y0 y1 y2 S)) fun v1 S2 =>
  (gA S2 14 x0 (x4 + (1 : Int32))).bind fun v3 =>
  (gA S2 14 x0 (x4 + (2 : Int32))).bind fun v4 =>
  if v4 = 0 then
    f_L_law_1051 F k23 x0 x1 x2 x3 x4 v1 x2 v3 (0 : Int32) S2
  else
    f_L_law_1051 F k23 x0 x1 x2 x3 x4 v1 x2 v3 (1 : Int32) S2
def f_L_law_516 (F : Nat) (k23 : Nat → Nat → Nat → Nat → Int32 → Mem → Option (Int32 × Mem)) (x0 : Nat) (x1 : Nat) (x2 : Nat) (x3 : Nat) (x4 : Int32) (y0 : Int32) (y1 : Nat) (y2 : Int32) (y3 : Int32) (S : Mem) : Option (Int32 × Mem) :=
  bd (cal S 8 y1 (fn_X9_lose F y1 y2 y3 S)) fun v1 S2 =>
  if y0 = v1 then
    f_L_law_1084 F k23 x0 x1 x2 x3 x4  S2
  else
    rz (0 : Int32) S2
def f_L_law_492 (F : Nat) (k23 : Nat → Nat → Nat → Nat → Int32 → Mem → Option (Int32 × Mem)) (x0 : Nat) (x1 : Nat) (x2 : Nat) (x3 : Nat) (x4 : Int32) (y0 : Nat) (y1 : Int32) (y2 : Int32) (S : Mem) : Option (Int32 × Mem) :=
  bd (cal S 7 y0 (fn_X8_lose F y0 y1 y2 S)) fun v1 S2 =>
  (gA S2 14 x0 (x4 + (1 : Int32))).bind fun v3 =>
  (gA S2 14 x0 (x4 + (2 : Int32))).bind fun v4 =>
  if v4 = 0 then
    f_L_law_516 F k23 x0 x1 x2 x3 x4 v1 x2 v3 (0 : Int32) S2
  else
    f_L_law_516 F k23 x0 x1 x2 x3 x4 v1 x2 v3 (1 : Int32) S2
def f_L_law_431 (F : Nat) (k23 : Nat → Nat → Nat → Nat → Int32 → Mem → Option (Int32 × Mem)) (x0 : Nat) (x1 : Nat) (x2 : Nat) (x3 : Nat) (x4 : Int32) (S : Mem) : Option (Int32 × Mem) :=
  f_L_law_1084 F k23 x0 x1 x2 x3 x4  S
def b_L_law_23 (F : Nat) (k23 : Nat → Nat → Nat → Nat → Int32 → Mem → Option (Int32 × Mem)) (x0 : Nat) (x1 : Nat) (x2 : Nat) (x3 : Nat) (x4 : Int32) (S : Mem) : Option (Int32 × Mem) :=
  (gLen S x0).bind fun v1 =>
  if (v1 - (7 : Int32)) < x4 then
    rz (1 : Int32) S
  else
    (gA S 14 x0 x4).bind fun v2 =>
    lt ((v2 &&& (31 : Int32))) fun v3 =>
    if v3 = (0 : Int32) then
      (gA S 14 x0 (x4 + (1 : Int32))).bind fun v4 =>
      (gA S 14 x0 (x4 + (2 : Int32))).bind fun v5 =>
      (gA S 14 x0 (x4 + (3 : Int32))).bind fun v6 =>
      (gA S 14 x0 (x4 + (4 : Int32))).bind fun v7 =>
      (gA S 14 x0 (x4 + (5 : Int32))).bind fun v8 =>
      (gA S 14 x0 (x4 + (6 : Int32))).bind fun v9 =>
      bd (cal S 7 x1 (fn_X8_feed F x1 (((v4).toInt64 <<< (((32 : Int32)).toInt64 &&& 63)) ||| ((v5).toInt64 &&& (4294967295 : Int64))) (((v6).toInt64 <<< (((32 : Int32)).toInt64 &&& 63)) ||| ((v7).toInt64 &&& (4294967295 : Int64))) (((v8).toInt64 <<< (((32 : Int32)).toInt64 &&& 63)) ||| ((v9).toInt64 &&& (4294967295 : Int64))) S)) fun v10 S11 =>
      (gA S11 14 x0 (x4 + (1 : Int32))).bind fun v12 =>
      (gA S11 14 x0 (x4 + (2 : Int32))).bind fun v13 =>
      (gA S11 14 x0 (x4 + (3 : Int32))).bind fun v14 =>
      (gA S11 14 x0 (x4 + (4 : Int32))).bind fun v15 =>
      (gA S11 14 x0 (x4 + (5 : Int32))).bind fun v16 =>
      (gA S11 14 x0 (x4 + (6 : Int32))).bind fun v17 =>
      bd (cal S11 8 x2 (fn_X9_feed F x2 (((v12).toInt64 <<< (((32 : Int32)).toInt64 &&& 63)) ||| ((v13).toInt64 &&& (4294967295 : Int64))) (((v14).toInt64 <<< (((32 : Int32)).toInt64 &&& 63)) ||| ((v15).toInt64 &&& (4294967295 : Int64))) (((v16).toInt64 <<< (((32 : Int32)).toInt64 &&& 63)) ||| ((v17).toInt64 &&& (4294967295 : Int64))) S11)) fun v18 S19 =>
      if v10 = v18 then
        f_L_law_1084 F k23 x0 x1 x2 x3 x4  S19
      else
        rz (0 : Int32) S19
    else
      if v3 = (1 : Int32) then
        bd (cal S 7 x1 (fn_X8_sky F x1 S)) fun v20 S21 =>
        bd (cal S21 8 x2 (fn_X9_sky F x2 S21)) fun v22 S23 =>
        if v20 = v22 then
          f_L_law_1084 F k23 x0 x1 x2 x3 x4  S23
        else
          rz (0 : Int32) S23
      else
        if v3 = (2 : Int32) then
          (gA S 14 x0 (x4 + (1 : Int32))).bind fun v24 =>
          (gA S 14 x0 (x4 + (2 : Int32))).bind fun v25 =>
          bd (cal S 7 x1 (fn_X8_kite F x1 v24 v25 S)) fun v26 S27 =>
          (gA S27 14 x0 (x4 + (1 : Int32))).bind fun v28 =>
          (gA S27 14 x0 (x4 + (2 : Int32))).bind fun v29 =>
          bd (cal S27 8 x2 (fn_X9_kite F x2 v28 v29 S27)) fun v30 S31 =>
          if v26 = v30 then
            f_L_law_1084 F k23 x0 x1 x2 x3 x4  S31
          else
            rz (0 : Int32) S31
        else
          if v3 = (3 : Int32) then
            (gA S 14 x0 (x4 + (1 : Int32))).bind fun v32 =>
            bd (cal S 7 x1 (fn_X8_wind F x1 v32 S)) fun v33 S34 =>
            (gA S34 14 x0 (x4 + (1 : Int32))).bind fun v35 =>
            bd (cal S34 8 x2 (fn_X9_wind F x2 v35 S34)) fun v36 S37 =>
            if v33 = v36 then
              f_L_law_1084 F k23 x0 x1 x2 x3 x4  S37
            else
              rz (0 : Int32) S37
          else
            if v3 = (4 : Int32) then
              (gA S 14 x0 (x4 + (1 : Int32))).bind fun v38 =>
              (gA S 14 x0 (x4 + (2 : Int32))).bind fun v39 =>
              bd (fn_L_lamp F x1 v38 v39 x3 S) fun v40 S41 =>
              (gA S41 14 x0 (x4 + (1 : Int32))).bind fun v42 =>
              (gA S41 14 x0 (x4 + (2 : Int32))).bind fun v43 =>
              bd (cal S41 8 x2 (fn_X9_lamp F x2 v42 v43 S41)) fun v44 S45 =>
              bd (cal S45 8 x2 (fn_X9_thrown F x2 S45)) fun v46 S47 =>
              if v46 = v40 then
                if v40 = 0 then
                  (gAJ S47 x3 (0 : Int32)).bind fun v48 =>
                  if (lg_cmp v48 ((v44).toInt64)) = 0 then
                    f_L_law_431 F k23 x0 x1 x2 x3 x4  S47
                  else
                    rz (0 : Int32) S47
                else
                  f_L_law_431 F k23 x0 x1 x2 x3 x4  S47
              else
                rz (0 : Int32) S47
            else
              if v3 = (5 : Int32) then
                (gA S 14 x0 (x4 + (1 : Int32))).bind fun v49 =>
                (gA S 14 x0 (x4 + (2 : Int32))).bind fun v50 =>
                bd (cal S 7 x1 (fn_X8_whistle F x1 v49 v50 S)) fun v51 S52 =>
                (gA S52 14 x0 (x4 + (1 : Int32))).bind fun v53 =>
                (gA S52 14 x0 (x4 + (2 : Int32))).bind fun v54 =>
                bd (cal S52 8 x2 (fn_X9_whistle F x2 v53 v54 S52)) fun v55 S56 =>
                if v51 = v55 then
                  f_L_law_1084 F k23 x0 x1 x2 x3 x4  S56
                else
                  rz (0 : Int32) S56
              else
                if v3 = (6 : Int32) then
                  (gA S 14 x0 (x4 + (1 : Int32))).bind fun v57 =>
                  (gA S 14 x0 (x4 + (2 : Int32))).bind fun v58 =>
                  if v58 = 0 then
                    f_L_law_492 F k23 x0 x1 x2 x3 x4 x1 v57 (0 : Int32) S
                  else
                    f_L_law_492 F k23 x0 x1 x2 x3 x4 x1 v57 (1 : Int32) S
                else
                  if v3 = (7 : Int32) then
                    (gA S 14 x0 (x4 + (1 : Int32))).bind fun v59 =>
                    bd (cal S 7 x1 (fn_X8_run F x1 v59 S)) fun v60 S61 =>
                    (gA S61 14 x0 (x4 + (1 : Int32))).bind fun v62 =>
                    bd (cal S61 8 x2 (fn_X9_run F x2 v62 S61)) fun v63 S64 =>
                    if v60 = v63 then
                      f_L_law_1084 F k23 x0 x1 x2 x3 x4  S64
                    else
                      rz (0 : Int32) S64
                  else
                    if v3 = (8 : Int32) then
                      (gA S 14 x0 (x4 + (1 : Int32))).bind fun v65 =>
                      (gA S 14 x0 (x4 + (2 : Int32))).bind fun v66 =>
                      (gA S 14 x0 (x4 + (3 : Int32))).bind fun v67 =>
                      bd (cal S 7 x1 (fn_X8_nearest F x1 v65 v66 v67 S)) fun v68 S69 =>
                      (gA S69 14 x0 (x4 + (1 : Int32))).bind fun v70 =>
                      (gA S69 14 x0 (x4 + (2 : Int32))).bind fun v71 =>
                      (gA S69 14 x0 (x4 + (3 : Int32))).bind fun v72 =>
                      bd (cal S69 8 x2 (fn_X9_nearest F x2 v70 v71 v72 S69)) fun v73 S74 =>
                      if v68 = v73 then
                        f_L_law_1084 F k23 x0 x1 x2 x3 x4  S74
                      else
                        rz (0 : Int32) S74
                    else
                      if v3 = (9 : Int32) then
                        (gA S 14 x0 (x4 + (1 : Int32))).bind fun v75 =>
                        (gA S 14 x0 (x4 + (2 : Int32))).bind fun v76 =>
                        (gA S 14 x0 (x4 + (3 : Int32))).bind fun v77 =>
                        (gA S 14 x0 (x4 + (4 : Int32))).bind fun v78 =>
                        bd (cal S 7 x1 (fn_X8_fewest F x1 v75 v76 v77 v78 S)) fun v79 S80 =>
                        (gA S80 14 x0 (x4 + (1 : Int32))).bind fun v81 =>
                        (gA S80 14 x0 (x4 + (2 : Int32))).bind fun v82 =>
                        (gA S80 14 x0 (x4 + (3 : Int32))).bind fun v83 =>
                        (gA S80 14 x0 (x4 + (4 : Int32))).bind fun v84 =>
                        bd (cal S80 8 x2 (fn_X9_fewest F x2 v81 v82 v83 v84 S80)) fun v85 S86 =>
                        if v79 = v85 then
                          f_L_law_1084 F k23 x0 x1 x2 x3 x4  S86
                        else
                          rz (0 : Int32) S86
                      else
                        if v3 = (10 : Int32) then
                          (gA S 14 x0 (x4 + (1 : Int32))).bind fun v87 =>
                          (gA S 14 x0 (x4 + (2 : Int32))).bind fun v88 =>
                          (gA S 14 x0 (x4 + (3 : Int32))).bind fun v89 =>
                          (gA S 14 x0 (x4 + (4 : Int32))).bind fun v90 =>
                          bd (cal S 7 x1 (fn_X8_holds F x1 v87 v88 v89 v90 S)) fun v91 S92 =>
                          (gA S92 14 x0 (x4 + (1 : Int32))).bind fun v93 =>
                          (gA S92 14 x0 (x4 + (2 : Int32))).bind fun v94 =>
                          (gA S92 14 x0 (x4 + (3 : Int32))).bind fun v95 =>
                          (gA S92 14 x0 (x4 + (4 : Int32))).bind fun v96 =>
                          bd (cal S92 8 x2 (fn_X9_holds F x2 v93 v94 v95 v96 S92)) fun v97 S98 =>
                          if v91 = v97 then
                            f_L_law_1084 F k23 x0 x1 x2 x3 x4  S98
                          else
                            rz (0 : Int32) S98
                        else
                          if v3 = (11 : Int32) then
                            (gA S 14 x0 (x4 + (1 : Int32))).bind fun v99 =>
                            bd (cal S 7 x1 (fn_X8_mayGo F x1 v99 S)) fun v100 S101 =>
                            (gA S101 14 x0 (x4 + (1 : Int32))).bind fun v102 =>
                            bd (cal S101 8 x2 (fn_X9_mayGo F x2 v102 S101)) fun v103 S104 =>
                            if v100 = v103 then
                              f_L_law_1084 F k23 x0 x1 x2 x3 x4  S104
                            else
                              rz (0 : Int32) S104
                          else
                            if v3 = (12 : Int32) then
                              (gA S 14 x0 (x4 + (1 : Int32))).bind fun v105 =>
                              (gA S 14 x0 (x4 + (2 : Int32))).bind fun v106 =>
                              bd (cal S 7 x1 (fn_X8_needed F x1 v105 v106 S)) fun v107 S108 =>
                              (gA S108 14 x0 (x4 + (1 : Int32))).bind fun v109 =>
                              (gA S108 14 x0 (x4 + (2 : Int32))).bind fun v110 =>
                              bd (cal S108 8 x2 (fn_X9_needed F x2 v109 v110 S108)) fun v111 S112 =>
                              if v107 = v111 then
                                f_L_law_1084 F k23 x0 x1 x2 x3 x4  S112
                              else
                                rz (0 : Int32) S112
                            else
                              if v3 = (13 : Int32) then
                                (gA S 14 x0 (x4 + (1 : Int32))).bind fun v113 =>
                                (gA S 14 x0 (x4 + (2 : Int32))).bind fun v114 =>
                                bd (cal S 7 x1 (fn_X8_mean F x1 v113 v114 S)) fun v115 S116 =>
                                (gA S116 14 x0 (x4 + (1 : Int32))).bind fun v117 =>
                                (gA S116 14 x0 (x4 + (2 : Int32))).bind fun v118 =>
                                bd (cal S116 8 x2 (fn_X9_mean F x2 v117 v118 S116)) fun v119 S120 =>
                                if (lg_cmp v115 v119) = 0 then
                                  f_L_law_1084 F k23 x0 x1 x2 x3 x4  S120
                                else
                                  rz (0 : Int32) S120
                              else
                                if v3 = (14 : Int32) then
                                  bd (cal S 7 x1 (fn_X8_down F x1 S)) fun v121 S122 =>
                                  bd (cal S122 8 x2 (fn_X9_down F x2 S122)) fun v123 S124 =>
                                  if v121 = v123 then
                                    f_L_law_1084 F k23 x0 x1 x2 x3 x4  S124
                                  else
                                    rz (0 : Int32) S124
                                else
                                  if v3 = (15 : Int32) then
                                    (gA S 14 x0 (x4 + (1 : Int32))).bind fun v125 =>
                                    (gA S 14 x0 (x4 + (2 : Int32))).bind fun v126 =>
                                    (gA S 14 x0 (x4 + (3 : Int32))).bind fun v127 =>
                                    bd (cal S 7 x1 (fn_X8_note F x1 v125 v126 v127 S)) fun v128 S129 =>
                                    (gA S129 14 x0 (x4 + (1 : Int32))).bind fun v130 =>
                                    (gA S129 14 x0 (x4 + (2 : Int32))).bind fun v131 =>
                                    (gA S129 14 x0 (x4 + (3 : Int32))).bind fun v132 =>
                                    bd (cal S129 8 x2 (fn_X9_note F x2 v130 v131 v132 S129)) fun v133 S134 =>
                                    if v128 = v133 then
                                      f_L_law_1084 F k23 x0 x1 x2 x3 x4  S134
                                    else
                                      rz (0 : Int32) S134
                                  else
                                    if v3 = (16 : Int32) then
                                      bd (cal S 7 x1 (fn_X8_clear F x1 S)) fun v135 S136 =>
                                      bd (cal S136 8 x2 (fn_X9_clear F x2 S136)) fun v137 S138 =>
                                      if v135 = v137 then
                                        f_L_law_1084 F k23 x0 x1 x2 x3 x4  S138
                                      else
                                        rz (0 : Int32) S138
                                    else
                                      if v3 = (17 : Int32) then
                                        bd (cal S 7 x1 (fn_X8_fits F x1 S)) fun v139 S140 =>
                                        bd (cal S140 8 x2 (fn_X9_fits F x2 S140)) fun v141 S142 =>
                                        if v139 = v141 then
                                          f_L_law_1084 F k23 x0 x1 x2 x3 x4  S142
                                        else
                                          rz (0 : Int32) S142
                                      else
                                        if v3 = (18 : Int32) then
                                          (gA S 14 x0 (x4 + (1 : Int32))).bind fun v143 =>
                                          bd (cal S 7 x1 (fn_X8_fit F x1 v143 S)) fun v144 S145 =>
                                          (gA S145 14 x0 (x4 + (1 : Int32))).bind fun v146 =>
                                          bd (cal S145 8 x2 (fn_X9_fit F x2 v146 S145)) fun v147 S148 =>
                                          if v144 = v147 then
                                            f_L_law_1084 F k23 x0 x1 x2 x3 x4  S148
                                          else
                                            rz (0 : Int32) S148
                                        else
                                          if v3 = (19 : Int32) then
                                            (gA S 14 x0 (x4 + (1 : Int32))).bind fun v149 =>
                                            (gA S 14 x0 (x4 + (2 : Int32))).bind fun v150 =>
                                            (gA S 14 x0 (x4 + (3 : Int32))).bind fun v151 =>
                                            (gA S 14 x0 (x4 + (4 : Int32))).bind fun v152 =>
                                            (gA S 14 x0 (x4 + (5 : Int32))).bind fun v153 =>
                                            bd (cal S 7 x1 (fn_X8_lots F x1 v149 v150 v151 v152 v153 S)) fun v154 S155 =>
                                            (gA S155 14 x0 (x4 + (1 : Int32))).bind fun v156 =>
                                            (gA S155 14 x0 (x4 + (2 : Int32))).bind fun v157 =>
                                            (gA S155 14 x0 (x4 + (3 : Int32))).bind fun v158 =>
                                            (gA S155 14 x0 (x4 + (4 : Int32))).bind fun v159 =>
                                            (gA S155 14 x0 (x4 + (5 : Int32))).bind fun v160 =>
                                            bd (cal S155 8 x2 (fn_X9_lots F x2 v156 v157 v158 v159 v160 S155)) fun v161 S162 =>
                                            if v154 = v161 then
                                              f_L_law_1084 F k23 x0 x1 x2 x3 x4  S162
                                            else
                                              rz (0 : Int32) S162
                                          else
                                            if v3 = (20 : Int32) then
                                              (gA S 14 x0 (x4 + (1 : Int32))).bind fun v163 =>
                                              (gA S 14 x0 (x4 + (2 : Int32))).bind fun v164 =>
                                              if v164 = 0 then
                                                f_L_law_1027 F k23 x0 x1 x2 x3 x4 x1 v163 (0 : Int32) S
                                              else
                                                f_L_law_1027 F k23 x0 x1 x2 x3 x4 x1 v163 (1 : Int32) S
                                            else
                                              if v3 = (21 : Int32) then
                                                (gA S 14 x0 (x4 + (1 : Int32))).bind fun v165 =>
                                                bd (cal S 7 x1 (fn_X8_count F x1 v165 S)) fun v166 S167 =>
                                                (gA S167 14 x0 (x4 + (1 : Int32))).bind fun v168 =>
                                                bd (cal S167 8 x2 (fn_X9_count F x2 v168 S167)) fun v169 S170 =>
                                                if v166 = v169 then
                                                  f_L_law_1084 F k23 x0 x1 x2 x3 x4  S170
                                                else
                                                  rz (0 : Int32) S170
                                              else
                                                f_L_law_1084 F k23 x0 x1 x2 x3 x4  S
def fn_L_law (F : Nat) (x0 : Nat) (S : Mem) : Option (Int32 × Mem) :=
  bd (nO S 7) fun v1 S2 =>
  bd ((fn_X8_init F v1 S2)) fun _ S4 =>
  bd (nO S4 8) fun v5 S6 =>
  bd ((fn_X9_init F v5 S6)) fun _ S8 =>
  bd (nA S8 11 (1 : Int32)) fun v9 S10 =>
  fix5 (b_L_law_23 F) F x0 v1 v5 v9 (0 : Int32) S10
set_option maxRecDepth 100000 in
theorem t_L_law_1084 {Γ : Cx} {F : Nat} (hl0 : (lOf Γ).stackTraces = false) {k23 : Nat → Nat → Nat → Nat → Int32 → Mem → Option (Int32 × Mem)} (hk23 : ∀ (x0 : Nat) (x1 : Nat) (x2 : Nat) (x3 : Nat) (x4 : Int32) (S : Mem), Sim cL_law RL 2048 84000 (some .boolean) false Γ rI (k23 x0 x1 x2 x3 x4 S) S 23 [some (.ref x0), some (.ref x1), some (.ref x2), some (.ref x3), some (.int x4), none, none] []) : ∀ (x0 : Nat) (x1 : Nat) (x2 : Nat) (x3 : Nat) (x4 : Int32) (S : Mem), Sim cL_law RL 2048 84000 (some .boolean) false Γ rI (f_L_law_1084 F k23 x0 x1 x2 x3 x4 S) S 1084 [some (.ref x0), some (.ref x1), some (.ref x2), some (.ref x3), some (.int x4), none, none] [] := by
  intro x0 x1 x2 x3 x4 S
  unfold f_L_law_1084
  refine s_iinc_4 (7 : Int32) dL_law_1084 (by decide) rfl ?_
  refine s_goto 23 dL_law_1087 (by decide) ?_
  exact s_less (hk23 x0 x1 x2 x3 (x4 + (7 : Int32)) S) (And.intro rfl (And.intro rfl (And.intro rfl (And.intro rfl (And.intro rfl trivial)))))
set_option maxRecDepth 100000 in
theorem t_L_law_1051 {Γ : Cx} {F : Nat} (hl0 : (lOf Γ).stackTraces = false) {k23 : Nat → Nat → Nat → Nat → Int32 → Mem → Option (Int32 × Mem)} (hk23 : ∀ (x0 : Nat) (x1 : Nat) (x2 : Nat) (x3 : Nat) (x4 : Int32) (S : Mem), Sim cL_law RL 2048 84000 (some .boolean) false Γ rI (k23 x0 x1 x2 x3 x4 S) S 23 [some (.ref x0), some (.ref x1), some (.ref x2), some (.ref x3), some (.int x4), none, none] []) : ∀ (x0 : Nat) (x1 : Nat) (x2 : Nat) (x3 : Nat) (x4 : Int32) (y0 : Int32) (y1 : Nat) (y2 : Int32) (y3 : Int32) (S : Mem), Sim cL_law RL 2048 84000 (some .boolean) false Γ rI (f_L_law_1051 F k23 x0 x1 x2 x3 x4 y0 y1 y2 y3 S) S 1051 [some (.ref x0), some (.ref x1), some (.ref x2), some (.ref x3), some (.int x4), none, none] [.int y3, .int y2, .ref y1, .int y0] := by
  intro x0 x1 x2 x3 x4 y0 y1 y2 y3 S
  unfold f_L_law_1051
  refine s_cV2I mk_L_119 (by decide) rfl (fun v9 S9 h9 => con_X9_mark F _ _ _ _ v9 S9 h9) ⟨by omega, by omega⟩ (Nat.le_of_ble_eq_true rfl) dL_law_1051 (fun v1 S2 => ?_)
  refine s_icmp_eq 1084 dL_law_1054 (by decide) (fun _ => ?_) (fun _ => ?_)
  · exact s_less (t_L_law_1084 hl0 hk23 x0 x1 x2 x3 x4  S2) (And.intro rfl (And.intro rfl (And.intro rfl (And.intro rfl (And.intro rfl trivial)))))
  · refine s_iconst (0 : Int32) dL_law_1057 (by decide) ?_
    exact s_zret dL_law_1058
set_option maxRecDepth 100000 in
theorem t_L_law_1027 {Γ : Cx} {F : Nat} (hl0 : (lOf Γ).stackTraces = false) {k23 : Nat → Nat → Nat → Nat → Int32 → Mem → Option (Int32 × Mem)} (hk23 : ∀ (x0 : Nat) (x1 : Nat) (x2 : Nat) (x3 : Nat) (x4 : Int32) (S : Mem), Sim cL_law RL 2048 84000 (some .boolean) false Γ rI (k23 x0 x1 x2 x3 x4 S) S 23 [some (.ref x0), some (.ref x1), some (.ref x2), some (.ref x3), some (.int x4), none, none] []) : ∀ (x0 : Nat) (x1 : Nat) (x2 : Nat) (x3 : Nat) (x4 : Int32) (y0 : Nat) (y1 : Int32) (y2 : Int32) (S : Mem), Sim cL_law RL 2048 84000 (some .boolean) false Γ rI (f_L_law_1027 F k23 x0 x1 x2 x3 x4 y0 y1 y2 S) S 1027 [some (.ref x0), some (.ref x1), some (.ref x2), some (.ref x3), some (.int x4), none, none] [.int y2, .int y1, .ref y0] := by
  intro x0 x1 x2 x3 x4 y0 y1 y2 S
  unfold f_L_law_1027
  refine s_cV2I mk_L_116 (by decide) rfl (fun v9 S9 h9 => con_X8_mark F _ _ _ _ v9 S9 h9) ⟨by omega, by omega⟩ (Nat.le_of_ble_eq_true rfl) dL_law_1027 (fun v1 S2 => ?_)
  refine s_aload_n 2 dL_law_1030 rfl rfl ?_
  refine s_aload_n 0 dL_law_1031 rfl rfl ?_
  refine s_iload dL_law_1032 rfl ?_
  refine s_iconst (1 : Int32) dL_law_1034 (by decide) ?_
  refine s_iadd dL_law_1035 ?_
  refine s_sald dL_law_1036 (fun v3 => ?_)
  refine s_aload_n 0 dL_law_1037 rfl rfl ?_
  refine s_iload dL_law_1038 rfl ?_
  refine s_iconst (2 : Int32) dL_law_1040 (by decide) ?_
  refine s_iadd dL_law_1041 ?_
  refine s_sald dL_law_1042 (fun v4 => ?_)
  refine s_if_eq 1050 dL_law_1043 (by decide) (fun _ => ?_) (fun _ => ?_)
  · refine s_iconst (0 : Int32) dL_law_1050 (by decide) ?_
    exact s_less (t_L_law_1051 hl0 hk23 x0 x1 x2 x3 x4 v1 x2 v3 (0 : Int32) S2) (And.intro rfl (And.intro rfl (And.intro rfl (And.intro rfl (And.intro rfl trivial)))))
  · refine s_iconst (1 : Int32) dL_law_1046 (by decide) ?_
    refine s_goto 1051 dL_law_1047 (by decide) ?_
    exact s_less (t_L_law_1051 hl0 hk23 x0 x1 x2 x3 x4 v1 x2 v3 (1 : Int32) S2) (And.intro rfl (And.intro rfl (And.intro rfl (And.intro rfl (And.intro rfl trivial)))))
set_option maxRecDepth 100000 in
theorem t_L_law_516 {Γ : Cx} {F : Nat} (hl0 : (lOf Γ).stackTraces = false) {k23 : Nat → Nat → Nat → Nat → Int32 → Mem → Option (Int32 × Mem)} (hk23 : ∀ (x0 : Nat) (x1 : Nat) (x2 : Nat) (x3 : Nat) (x4 : Int32) (S : Mem), Sim cL_law RL 2048 84000 (some .boolean) false Γ rI (k23 x0 x1 x2 x3 x4 S) S 23 [some (.ref x0), some (.ref x1), some (.ref x2), some (.ref x3), some (.int x4), none, none] []) : ∀ (x0 : Nat) (x1 : Nat) (x2 : Nat) (x3 : Nat) (x4 : Int32) (y0 : Int32) (y1 : Nat) (y2 : Int32) (y3 : Int32) (S : Mem), Sim cL_law RL 2048 84000 (some .boolean) false Γ rI (f_L_law_516 F k23 x0 x1 x2 x3 x4 y0 y1 y2 y3 S) S 516 [some (.ref x0), some (.ref x1), some (.ref x2), some (.ref x3), some (.int x4), none, none] [.int y3, .int y2, .ref y1, .int y0] := by
  intro x0 x1 x2 x3 x4 y0 y1 y2 y3 S
  unfold f_L_law_516
  refine s_cV2I mk_L_58 (by decide) rfl (fun v9 S9 h9 => con_X9_lose F _ _ _ _ v9 S9 h9) ⟨by omega, by omega⟩ (Nat.le_of_ble_eq_true rfl) dL_law_516 (fun v1 S2 => ?_)
  refine s_icmp_eq 1084 dL_law_519 (by decide) (fun _ => ?_) (fun _ => ?_)
  · exact s_less (t_L_law_1084 hl0 hk23 x0 x1 x2 x3 x4  S2) (And.intro rfl (And.intro rfl (And.intro rfl (And.intro rfl (And.intro rfl trivial)))))
  · refine s_iconst (0 : Int32) dL_law_522 (by decide) ?_
    exact s_zret dL_law_523
set_option maxRecDepth 100000 in
theorem t_L_law_492 {Γ : Cx} {F : Nat} (hl0 : (lOf Γ).stackTraces = false) {k23 : Nat → Nat → Nat → Nat → Int32 → Mem → Option (Int32 × Mem)} (hk23 : ∀ (x0 : Nat) (x1 : Nat) (x2 : Nat) (x3 : Nat) (x4 : Int32) (S : Mem), Sim cL_law RL 2048 84000 (some .boolean) false Γ rI (k23 x0 x1 x2 x3 x4 S) S 23 [some (.ref x0), some (.ref x1), some (.ref x2), some (.ref x3), some (.int x4), none, none] []) : ∀ (x0 : Nat) (x1 : Nat) (x2 : Nat) (x3 : Nat) (x4 : Int32) (y0 : Nat) (y1 : Int32) (y2 : Int32) (S : Mem), Sim cL_law RL 2048 84000 (some .boolean) false Γ rI (f_L_law_492 F k23 x0 x1 x2 x3 x4 y0 y1 y2 S) S 492 [some (.ref x0), some (.ref x1), some (.ref x2), some (.ref x3), some (.int x4), none, none] [.int y2, .int y1, .ref y0] := by
  intro x0 x1 x2 x3 x4 y0 y1 y2 S
  unfold f_L_law_492
  refine s_cV2I mk_L_54 (by decide) rfl (fun v9 S9 h9 => con_X8_lose F _ _ _ _ v9 S9 h9) ⟨by omega, by omega⟩ (Nat.le_of_ble_eq_true rfl) dL_law_492 (fun v1 S2 => ?_)
  refine s_aload_n 2 dL_law_495 rfl rfl ?_
  refine s_aload_n 0 dL_law_496 rfl rfl ?_
  refine s_iload dL_law_497 rfl ?_
  refine s_iconst (1 : Int32) dL_law_499 (by decide) ?_
  refine s_iadd dL_law_500 ?_
  refine s_sald dL_law_501 (fun v3 => ?_)
  refine s_aload_n 0 dL_law_502 rfl rfl ?_
  refine s_iload dL_law_503 rfl ?_
  refine s_iconst (2 : Int32) dL_law_505 (by decide) ?_
  refine s_iadd dL_law_506 ?_
  refine s_sald dL_law_507 (fun v4 => ?_)
  refine s_if_eq 515 dL_law_508 (by decide) (fun _ => ?_) (fun _ => ?_)
  · refine s_iconst (0 : Int32) dL_law_515 (by decide) ?_
    exact s_less (t_L_law_516 hl0 hk23 x0 x1 x2 x3 x4 v1 x2 v3 (0 : Int32) S2) (And.intro rfl (And.intro rfl (And.intro rfl (And.intro rfl (And.intro rfl trivial)))))
  · refine s_iconst (1 : Int32) dL_law_511 (by decide) ?_
    refine s_goto 516 dL_law_512 (by decide) ?_
    exact s_less (t_L_law_516 hl0 hk23 x0 x1 x2 x3 x4 v1 x2 v3 (1 : Int32) S2) (And.intro rfl (And.intro rfl (And.intro rfl (And.intro rfl (And.intro rfl trivial)))))
set_option maxRecDepth 100000 in
theorem t_L_law_431 {Γ : Cx} {F : Nat} (hl0 : (lOf Γ).stackTraces = false) {k23 : Nat → Nat → Nat → Nat → Int32 → Mem → Option (Int32 × Mem)} (hk23 : ∀ (x0 : Nat) (x1 : Nat) (x2 : Nat) (x3 : Nat) (x4 : Int32) (S : Mem), Sim cL_law RL 2048 84000 (some .boolean) false Γ rI (k23 x0 x1 x2 x3 x4 S) S 23 [some (.ref x0), some (.ref x1), some (.ref x2), some (.ref x3), some (.int x4), none, none] []) : ∀ (x0 : Nat) (x1 : Nat) (x2 : Nat) (x3 : Nat) (x4 : Int32) (S : Mem), Sim cL_law RL 2048 84000 (some .boolean) false Γ rI (f_L_law_431 F k23 x0 x1 x2 x3 x4 S) S 431 [some (.ref x0), some (.ref x1), some (.ref x2), some (.ref x3), some (.int x4), none, none] [] := by
  intro x0 x1 x2 x3 x4 S
  unfold f_L_law_431
  refine s_goto 1084 dL_law_431 (by decide) ?_
  exact s_less (t_L_law_1084 hl0 hk23 x0 x1 x2 x3 x4  S) (And.intro rfl (And.intro rfl (And.intro rfl (And.intro rfl (And.intro rfl trivial)))))
set_option maxRecDepth 100000 in
theorem t_L_law_23 {Γ : Cx} {F : Nat} (hl0 : (lOf Γ).stackTraces = false) : ∀ (f : Nat) (x0 : Nat) (x1 : Nat) (x2 : Nat) (x3 : Nat) (x4 : Int32) (S : Mem), Sim cL_law RL 2048 84000 (some .boolean) false Γ rI (fix5 (b_L_law_23 F) f x0 x1 x2 x3 x4 S) S 23 [some (.ref x0), some (.ref x1), some (.ref x2), some (.ref x3), some (.int x4), none, none] [] := by
  refine s_fix5 (fun (x0 : Nat) (x1 : Nat) (x2 : Nat) (x3 : Nat) (x4 : Int32) => [some (.ref x0), some (.ref x1), some (.ref x2), some (.ref x3), some (.int x4), none, none]) (fun k23 hk23 => ?_)
  intro x0 x1 x2 x3 x4 S
  unfold b_L_law_23
  refine s_iload dL_law_23 rfl ?_
  refine s_aload_n 0 dL_law_25 rfl rfl ?_
  refine s_alen dL_law_26 (fun v1 => ?_)
  refine s_bipush (7 : Int32) dL_law_27 (by decide) ?_
  refine s_isub dL_law_29 ?_
  refine s_icmp_gt 1090 dL_law_30 (by decide) (fun _ => ?_) (fun _ => ?_)
  · refine s_iconst (1 : Int32) dL_law_1090 (by decide) ?_
    exact s_zret dL_law_1091
  · refine s_aload_n 0 dL_law_33 rfl rfl ?_
    refine s_iload dL_law_34 rfl ?_
    refine s_sald dL_law_36 (fun v2 => ?_)
    refine s_bipush (31 : Int32) dL_law_37 (by decide) ?_
    refine s_iand dL_law_39 ?_
    refine s_ltI (fun v3 => ?_)
    refine s_ite _ (fun h0 => ?_) (fun h0 => ?_)
    · subst h0
      refine s_tsIn (off := 104) 144 dL_law_40 (by decide) (by decide) (by decide) (by decide) ?_
      refine s_aload_n 1 dL_law_144 rfl rfl ?_
      refine s_aload_n 0 dL_law_145 rfl rfl ?_
      refine s_iload dL_law_146 rfl ?_
      refine s_iconst (1 : Int32) dL_law_148 (by decide) ?_
      refine s_iadd dL_law_149 ?_
      refine s_sald dL_law_150 (fun v4 => ?_)
      refine s_i2l dL_law_151 ?_
      refine s_bipush (32 : Int32) dL_law_152 (by decide) ?_
      refine s_lshl dL_law_154 ?_
      refine s_aload_n 0 dL_law_155 rfl rfl ?_
      refine s_iload dL_law_156 rfl ?_
      refine s_iconst (2 : Int32) dL_law_158 (by decide) ?_
      refine s_iadd dL_law_159 ?_
      refine s_sald dL_law_160 (fun v5 => ?_)
      refine s_i2l dL_law_161 ?_
      refine s_ldc2 (v := (4294967295 : Int64)) dL_law_162 (lw_in 1494 (by decide +kernel) (by decide +kernel)) ?_
      refine s_land dL_law_165 ?_
      refine s_lor dL_law_166 ?_
      refine s_aload_n 0 dL_law_167 rfl rfl ?_
      refine s_iload dL_law_168 rfl ?_
      refine s_iconst (3 : Int32) dL_law_170 (by decide) ?_
      refine s_iadd dL_law_171 ?_
      refine s_sald dL_law_172 (fun v6 => ?_)
      refine s_i2l dL_law_173 ?_
      refine s_bipush (32 : Int32) dL_law_174 (by decide) ?_
      refine s_lshl dL_law_176 ?_
      refine s_aload_n 0 dL_law_177 rfl rfl ?_
      refine s_iload dL_law_178 rfl ?_
      refine s_iconst (4 : Int32) dL_law_180 (by decide) ?_
      refine s_iadd dL_law_181 ?_
      refine s_sald dL_law_182 (fun v7 => ?_)
      refine s_i2l dL_law_183 ?_
      refine s_ldc2 (v := (4294967295 : Int64)) dL_law_184 (lw_in 1494 (by decide +kernel) (by decide +kernel)) ?_
      refine s_land dL_law_187 ?_
      refine s_lor dL_law_188 ?_
      refine s_aload_n 0 dL_law_189 rfl rfl ?_
      refine s_iload dL_law_190 rfl ?_
      refine s_iconst (5 : Int32) dL_law_192 (by decide) ?_
      refine s_iadd dL_law_193 ?_
      refine s_sald dL_law_194 (fun v8 => ?_)
      refine s_i2l dL_law_195 ?_
      refine s_bipush (32 : Int32) dL_law_196 (by decide) ?_
      refine s_lshl dL_law_198 ?_
      refine s_aload_n 0 dL_law_199 rfl rfl ?_
      refine s_iload dL_law_200 rfl ?_
      refine s_bipush (6 : Int32) dL_law_202 (by decide) ?_
      refine s_iadd dL_law_204 ?_
      refine s_sald dL_law_205 (fun v9 => ?_)
      refine s_i2l dL_law_206 ?_
      refine s_ldc2 (v := (4294967295 : Int64)) dL_law_207 (lw_in 1494 (by decide +kernel) (by decide +kernel)) ?_
      refine s_land dL_law_210 ?_
      refine s_lor dL_law_211 ?_
      refine s_cV3I mk_L_21 (by decide) rfl (fun v9 S9 h9 => con_X8_feed F _ _ _ _ _ v9 S9 h9) ⟨by omega, by omega⟩ (Nat.le_of_ble_eq_true rfl) dL_law_212 (fun v10 S11 => ?_)
      refine s_aload_n 2 dL_law_215 rfl rfl ?_
      refine s_aload_n 0 dL_law_216 rfl rfl ?_
      refine s_iload dL_law_217 rfl ?_
      refine s_iconst (1 : Int32) dL_law_219 (by decide) ?_
      refine s_iadd dL_law_220 ?_
      refine s_sald dL_law_221 (fun v12 => ?_)
      refine s_i2l dL_law_222 ?_
      refine s_bipush (32 : Int32) dL_law_223 (by decide) ?_
      refine s_lshl dL_law_225 ?_
      refine s_aload_n 0 dL_law_226 rfl rfl ?_
      refine s_iload dL_law_227 rfl ?_
      refine s_iconst (2 : Int32) dL_law_229 (by decide) ?_
      refine s_iadd dL_law_230 ?_
      refine s_sald dL_law_231 (fun v13 => ?_)
      refine s_i2l dL_law_232 ?_
      refine s_ldc2 (v := (4294967295 : Int64)) dL_law_233 (lw_in 1494 (by decide +kernel) (by decide +kernel)) ?_
      refine s_land dL_law_236 ?_
      refine s_lor dL_law_237 ?_
      refine s_aload_n 0 dL_law_238 rfl rfl ?_
      refine s_iload dL_law_239 rfl ?_
      refine s_iconst (3 : Int32) dL_law_241 (by decide) ?_
      refine s_iadd dL_law_242 ?_
      refine s_sald dL_law_243 (fun v14 => ?_)
      refine s_i2l dL_law_244 ?_
      refine s_bipush (32 : Int32) dL_law_245 (by decide) ?_
      refine s_lshl dL_law_247 ?_
      refine s_aload_n 0 dL_law_248 rfl rfl ?_
      refine s_iload dL_law_249 rfl ?_
      refine s_iconst (4 : Int32) dL_law_251 (by decide) ?_
      refine s_iadd dL_law_252 ?_
      refine s_sald dL_law_253 (fun v15 => ?_)
      refine s_i2l dL_law_254 ?_
      refine s_ldc2 (v := (4294967295 : Int64)) dL_law_255 (lw_in 1494 (by decide +kernel) (by decide +kernel)) ?_
      refine s_land dL_law_258 ?_
      refine s_lor dL_law_259 ?_
      refine s_aload_n 0 dL_law_260 rfl rfl ?_
      refine s_iload dL_law_261 rfl ?_
      refine s_iconst (5 : Int32) dL_law_263 (by decide) ?_
      refine s_iadd dL_law_264 ?_
      refine s_sald dL_law_265 (fun v16 => ?_)
      refine s_i2l dL_law_266 ?_
      refine s_bipush (32 : Int32) dL_law_267 (by decide) ?_
      refine s_lshl dL_law_269 ?_
      refine s_aload_n 0 dL_law_270 rfl rfl ?_
      refine s_iload dL_law_271 rfl ?_
      refine s_bipush (6 : Int32) dL_law_273 (by decide) ?_
      refine s_iadd dL_law_275 ?_
      refine s_sald dL_law_276 (fun v17 => ?_)
      refine s_i2l dL_law_277 ?_
      refine s_ldc2 (v := (4294967295 : Int64)) dL_law_278 (lw_in 1494 (by decide +kernel) (by decide +kernel)) ?_
      refine s_land dL_law_281 ?_
      refine s_lor dL_law_282 ?_
      refine s_cV3I mk_L_25 (by decide) rfl (fun v9 S9 h9 => con_X9_feed F _ _ _ _ _ v9 S9 h9) ⟨by omega, by omega⟩ (Nat.le_of_ble_eq_true rfl) dL_law_283 (fun v18 S19 => ?_)
      refine s_icmp_eq 1084 dL_law_286 (by decide) (fun _ => ?_) (fun _ => ?_)
      · exact s_less (t_L_law_1084 hl0 hk23 x0 x1 x2 x3 x4  S19) (And.intro rfl (And.intro rfl (And.intro rfl (And.intro rfl (And.intro rfl trivial)))))
      · refine s_iconst (0 : Int32) dL_law_289 (by decide) ?_
        exact s_zret dL_law_290
    refine s_ite _ (fun h1 => ?_) (fun h1 => ?_)
    · subst h1
      refine s_tsIn (off := 251) 291 dL_law_40 (by decide) (by decide) (by decide) (by decide) ?_
      refine s_aload_n 1 dL_law_291 rfl rfl ?_
      refine s_cV0I mk_L_26 (by decide) rfl (fun v9 S9 h9 => con_X8_sky F _ _ v9 S9 h9) ⟨by omega, by omega⟩ (Nat.le_of_ble_eq_true rfl) dL_law_292 (fun v20 S21 => ?_)
      refine s_aload_n 2 dL_law_295 rfl rfl ?_
      refine s_cV0I mk_L_30 (by decide) rfl (fun v9 S9 h9 => con_X9_sky F _ _ v9 S9 h9) ⟨by omega, by omega⟩ (Nat.le_of_ble_eq_true rfl) dL_law_296 (fun v22 S23 => ?_)
      refine s_icmp_eq 1084 dL_law_299 (by decide) (fun _ => ?_) (fun _ => ?_)
      · exact s_less (t_L_law_1084 hl0 hk23 x0 x1 x2 x3 x4  S23) (And.intro rfl (And.intro rfl (And.intro rfl (And.intro rfl (And.intro rfl trivial)))))
      · refine s_iconst (0 : Int32) dL_law_302 (by decide) ?_
        exact s_zret dL_law_303
    refine s_ite _ (fun h2 => ?_) (fun h2 => ?_)
    · subst h2
      refine s_tsIn (off := 264) 304 dL_law_40 (by decide) (by decide) (by decide) (by decide) ?_
      refine s_aload_n 1 dL_law_304 rfl rfl ?_
      refine s_aload_n 0 dL_law_305 rfl rfl ?_
      refine s_iload dL_law_306 rfl ?_
      refine s_iconst (1 : Int32) dL_law_308 (by decide) ?_
      refine s_iadd dL_law_309 ?_
      refine s_sald dL_law_310 (fun v24 => ?_)
      refine s_aload_n 0 dL_law_311 rfl rfl ?_
      refine s_iload dL_law_312 rfl ?_
      refine s_iconst (2 : Int32) dL_law_314 (by decide) ?_
      refine s_iadd dL_law_315 ?_
      refine s_sald dL_law_316 (fun v25 => ?_)
      refine s_cV2I mk_L_31 (by decide) rfl (fun v9 S9 h9 => con_X8_kite F _ _ _ _ v9 S9 h9) ⟨by omega, by omega⟩ (Nat.le_of_ble_eq_true rfl) dL_law_317 (fun v26 S27 => ?_)
      refine s_aload_n 2 dL_law_320 rfl rfl ?_
      refine s_aload_n 0 dL_law_321 rfl rfl ?_
      refine s_iload dL_law_322 rfl ?_
      refine s_iconst (1 : Int32) dL_law_324 (by decide) ?_
      refine s_iadd dL_law_325 ?_
      refine s_sald dL_law_326 (fun v28 => ?_)
      refine s_aload_n 0 dL_law_327 rfl rfl ?_
      refine s_iload dL_law_328 rfl ?_
      refine s_iconst (2 : Int32) dL_law_330 (by decide) ?_
      refine s_iadd dL_law_331 ?_
      refine s_sald dL_law_332 (fun v29 => ?_)
      refine s_cV2I mk_L_34 (by decide) rfl (fun v9 S9 h9 => con_X9_kite F _ _ _ _ v9 S9 h9) ⟨by omega, by omega⟩ (Nat.le_of_ble_eq_true rfl) dL_law_333 (fun v30 S31 => ?_)
      refine s_icmp_eq 1084 dL_law_336 (by decide) (fun _ => ?_) (fun _ => ?_)
      · exact s_less (t_L_law_1084 hl0 hk23 x0 x1 x2 x3 x4  S31) (And.intro rfl (And.intro rfl (And.intro rfl (And.intro rfl (And.intro rfl trivial)))))
      · refine s_iconst (0 : Int32) dL_law_339 (by decide) ?_
        exact s_zret dL_law_340
    refine s_ite _ (fun h3 => ?_) (fun h3 => ?_)
    · subst h3
      refine s_tsIn (off := 301) 341 dL_law_40 (by decide) (by decide) (by decide) (by decide) ?_
      refine s_aload_n 1 dL_law_341 rfl rfl ?_
      refine s_aload_n 0 dL_law_342 rfl rfl ?_
      refine s_iload dL_law_343 rfl ?_
      refine s_iconst (1 : Int32) dL_law_345 (by decide) ?_
      refine s_iadd dL_law_346 ?_
      refine s_sald dL_law_347 (fun v32 => ?_)
      refine s_cV1I mk_L_35 (by decide) rfl (fun v9 S9 h9 => con_X8_wind F _ _ _ v9 S9 h9) ⟨by omega, by omega⟩ (Nat.le_of_ble_eq_true rfl) dL_law_348 (fun v33 S34 => ?_)
      refine s_aload_n 2 dL_law_351 rfl rfl ?_
      refine s_aload_n 0 dL_law_352 rfl rfl ?_
      refine s_iload dL_law_353 rfl ?_
      refine s_iconst (1 : Int32) dL_law_355 (by decide) ?_
      refine s_iadd dL_law_356 ?_
      refine s_sald dL_law_357 (fun v35 => ?_)
      refine s_cV1I mk_L_39 (by decide) rfl (fun v9 S9 h9 => con_X9_wind F _ _ _ v9 S9 h9) ⟨by omega, by omega⟩ (Nat.le_of_ble_eq_true rfl) dL_law_358 (fun v36 S37 => ?_)
      refine s_icmp_eq 1084 dL_law_361 (by decide) (fun _ => ?_) (fun _ => ?_)
      · exact s_less (t_L_law_1084 hl0 hk23 x0 x1 x2 x3 x4  S37) (And.intro rfl (And.intro rfl (And.intro rfl (And.intro rfl (And.intro rfl trivial)))))
      · refine s_iconst (0 : Int32) dL_law_364 (by decide) ?_
        exact s_zret dL_law_365
    refine s_ite _ (fun h4 => ?_) (fun h4 => ?_)
    · subst h4
      refine s_tsIn (off := 326) 366 dL_law_40 (by decide) (by decide) (by decide) (by decide) ?_
      refine s_aload_n 1 dL_law_366 rfl rfl ?_
      refine s_aload_n 0 dL_law_367 rfl rfl ?_
      refine s_iload dL_law_368 rfl ?_
      refine s_iconst (1 : Int32) dL_law_370 (by decide) ?_
      refine s_iadd dL_law_371 ?_
      refine s_sald dL_law_372 (fun v38 => ?_)
      refine s_aload_n 0 dL_law_373 rfl rfl ?_
      refine s_iload dL_law_374 rfl ?_
      refine s_iconst (2 : Int32) dL_law_376 (by decide) ?_
      refine s_iadd dL_law_377 ?_
      refine s_sald dL_law_378 (fun v39 => ?_)
      refine s_aload_n 3 dL_law_379 rfl rfl ?_
      refine s_clamp (lw_in 934 (by decide +kernel) (by decide +kernel)) (fun v9 S9 h9 => con_L_lamp hl0 F _ _ _ _ _ v9 S9 h9) ⟨by omega, by omega⟩ (Nat.le_of_ble_eq_true rfl) dL_law_380 (fun v40 S41 => ?_)
      refine s_istore_5 dL_law_383 rfl ?_
      refine s_aload_n 2 dL_law_385 rfl rfl ?_
      refine s_aload_n 0 dL_law_386 rfl rfl ?_
      refine s_iload dL_law_387 rfl ?_
      refine s_iconst (1 : Int32) dL_law_389 (by decide) ?_
      refine s_iadd dL_law_390 ?_
      refine s_sald dL_law_391 (fun v42 => ?_)
      refine s_aload_n 0 dL_law_392 rfl rfl ?_
      refine s_iload dL_law_393 rfl ?_
      refine s_iconst (2 : Int32) dL_law_395 (by decide) ?_
      refine s_iadd dL_law_396 ?_
      refine s_sald dL_law_397 (fun v43 => ?_)
      refine s_cV2I mk_L_45 (by decide) rfl (fun v9 S9 h9 => con_X9_lamp F _ _ _ _ v9 S9 h9) ⟨by omega, by omega⟩ (Nat.le_of_ble_eq_true rfl) dL_law_398 (fun v44 S45 => ?_)
      refine s_istore_6 dL_law_401 rfl ?_
      refine s_aload_n 2 dL_law_403 rfl rfl ?_
      refine s_cV0I mk_L_46 (by decide) rfl (fun v9 S9 h9 => con_X9_thrown F _ _ v9 S9 h9) ⟨by omega, by omega⟩ (Nat.le_of_ble_eq_true rfl) dL_law_404 (fun v46 S47 => ?_)
      refine s_iload dL_law_407 rfl ?_
      refine s_icmp_eq 414 dL_law_409 (by decide) (fun _ => ?_) (fun _ => ?_)
      · refine s_iload dL_law_414 rfl ?_
        refine s_if_ne 431 dL_law_416 (by decide) (fun _ => ?_) (fun _ => ?_)
        · exact s_less (t_L_law_431 hl0 hk23 x0 x1 x2 x3 x4  S47) (And.intro rfl (And.intro rfl (And.intro rfl (And.intro rfl (And.intro rfl trivial)))))
        · refine s_aload_n 3 dL_law_419 rfl rfl ?_
          refine s_iconst (0 : Int32) dL_law_420 (by decide) ?_
          refine s_lald dL_law_421 (fun v48 => ?_)
          refine s_iload dL_law_422 rfl ?_
          refine s_i2l dL_law_424 ?_
          refine s_lcmp dL_law_425 ?_
          refine s_if_eq 431 dL_law_426 (by decide) (fun _ => ?_) (fun _ => ?_)
          · exact s_less (t_L_law_431 hl0 hk23 x0 x1 x2 x3 x4  S47) (And.intro rfl (And.intro rfl (And.intro rfl (And.intro rfl (And.intro rfl trivial)))))
          · refine s_iconst (0 : Int32) dL_law_429 (by decide) ?_
            exact s_zret dL_law_430
      · refine s_iconst (0 : Int32) dL_law_412 (by decide) ?_
        exact s_zret dL_law_413
    refine s_ite _ (fun h5 => ?_) (fun h5 => ?_)
    · subst h5
      refine s_tsIn (off := 394) 434 dL_law_40 (by decide) (by decide) (by decide) (by decide) ?_
      refine s_aload_n 1 dL_law_434 rfl rfl ?_
      refine s_aload_n 0 dL_law_435 rfl rfl ?_
      refine s_iload dL_law_436 rfl ?_
      refine s_iconst (1 : Int32) dL_law_438 (by decide) ?_
      refine s_iadd dL_law_439 ?_
      refine s_sald dL_law_440 (fun v49 => ?_)
      refine s_aload_n 0 dL_law_441 rfl rfl ?_
      refine s_iload dL_law_442 rfl ?_
      refine s_iconst (2 : Int32) dL_law_444 (by decide) ?_
      refine s_iadd dL_law_445 ?_
      refine s_sald dL_law_446 (fun v50 => ?_)
      refine s_cV2I mk_L_49 (by decide) rfl (fun v9 S9 h9 => con_X8_whistle F _ _ _ _ v9 S9 h9) ⟨by omega, by omega⟩ (Nat.le_of_ble_eq_true rfl) dL_law_447 (fun v51 S52 => ?_)
      refine s_aload_n 2 dL_law_450 rfl rfl ?_
      refine s_aload_n 0 dL_law_451 rfl rfl ?_
      refine s_iload dL_law_452 rfl ?_
      refine s_iconst (1 : Int32) dL_law_454 (by decide) ?_
      refine s_iadd dL_law_455 ?_
      refine s_sald dL_law_456 (fun v53 => ?_)
      refine s_aload_n 0 dL_law_457 rfl rfl ?_
      refine s_iload dL_law_458 rfl ?_
      refine s_iconst (2 : Int32) dL_law_460 (by decide) ?_
      refine s_iadd dL_law_461 ?_
      refine s_sald dL_law_462 (fun v54 => ?_)
      refine s_cV2I mk_L_53 (by decide) rfl (fun v9 S9 h9 => con_X9_whistle F _ _ _ _ v9 S9 h9) ⟨by omega, by omega⟩ (Nat.le_of_ble_eq_true rfl) dL_law_463 (fun v55 S56 => ?_)
      refine s_icmp_eq 1084 dL_law_466 (by decide) (fun _ => ?_) (fun _ => ?_)
      · exact s_less (t_L_law_1084 hl0 hk23 x0 x1 x2 x3 x4  S56) (And.intro rfl (And.intro rfl (And.intro rfl (And.intro rfl (And.intro rfl trivial)))))
      · refine s_iconst (0 : Int32) dL_law_469 (by decide) ?_
        exact s_zret dL_law_470
    refine s_ite _ (fun h6 => ?_) (fun h6 => ?_)
    · subst h6
      refine s_tsIn (off := 431) 471 dL_law_40 (by decide) (by decide) (by decide) (by decide) ?_
      refine s_aload_n 1 dL_law_471 rfl rfl ?_
      refine s_aload_n 0 dL_law_472 rfl rfl ?_
      refine s_iload dL_law_473 rfl ?_
      refine s_iconst (1 : Int32) dL_law_475 (by decide) ?_
      refine s_iadd dL_law_476 ?_
      refine s_sald dL_law_477 (fun v57 => ?_)
      refine s_aload_n 0 dL_law_478 rfl rfl ?_
      refine s_iload dL_law_479 rfl ?_
      refine s_iconst (2 : Int32) dL_law_481 (by decide) ?_
      refine s_iadd dL_law_482 ?_
      refine s_sald dL_law_483 (fun v58 => ?_)
      refine s_if_eq 491 dL_law_484 (by decide) (fun _ => ?_) (fun _ => ?_)
      · refine s_iconst (0 : Int32) dL_law_491 (by decide) ?_
        exact s_less (t_L_law_492 hl0 hk23 x0 x1 x2 x3 x4 x1 v57 (0 : Int32) S) (And.intro rfl (And.intro rfl (And.intro rfl (And.intro rfl (And.intro rfl trivial)))))
      · refine s_iconst (1 : Int32) dL_law_487 (by decide) ?_
        refine s_goto 492 dL_law_488 (by decide) ?_
        exact s_less (t_L_law_492 hl0 hk23 x0 x1 x2 x3 x4 x1 v57 (1 : Int32) S) (And.intro rfl (And.intro rfl (And.intro rfl (And.intro rfl (And.intro rfl trivial)))))
    refine s_ite _ (fun h7 => ?_) (fun h7 => ?_)
    · subst h7
      refine s_tsIn (off := 484) 524 dL_law_40 (by decide) (by decide) (by decide) (by decide) ?_
      refine s_aload_n 1 dL_law_524 rfl rfl ?_
      refine s_aload_n 0 dL_law_525 rfl rfl ?_
      refine s_iload dL_law_526 rfl ?_
      refine s_iconst (1 : Int32) dL_law_528 (by decide) ?_
      refine s_iadd dL_law_529 ?_
      refine s_sald dL_law_530 (fun v59 => ?_)
      refine s_cV1I mk_L_59 (by decide) rfl (fun v9 S9 h9 => con_X8_run F _ _ _ v9 S9 h9) ⟨by omega, by omega⟩ (Nat.le_of_ble_eq_true rfl) dL_law_531 (fun v60 S61 => ?_)
      refine s_aload_n 2 dL_law_534 rfl rfl ?_
      refine s_aload_n 0 dL_law_535 rfl rfl ?_
      refine s_iload dL_law_536 rfl ?_
      refine s_iconst (1 : Int32) dL_law_538 (by decide) ?_
      refine s_iadd dL_law_539 ?_
      refine s_sald dL_law_540 (fun v62 => ?_)
      refine s_cV1I mk_L_62 (by decide) rfl (fun v9 S9 h9 => con_X9_run F _ _ _ v9 S9 h9) ⟨by omega, by omega⟩ (Nat.le_of_ble_eq_true rfl) dL_law_541 (fun v63 S64 => ?_)
      refine s_icmp_eq 1084 dL_law_544 (by decide) (fun _ => ?_) (fun _ => ?_)
      · exact s_less (t_L_law_1084 hl0 hk23 x0 x1 x2 x3 x4  S64) (And.intro rfl (And.intro rfl (And.intro rfl (And.intro rfl (And.intro rfl trivial)))))
      · refine s_iconst (0 : Int32) dL_law_547 (by decide) ?_
        exact s_zret dL_law_548
    refine s_ite _ (fun h8 => ?_) (fun h8 => ?_)
    · subst h8
      refine s_tsIn (off := 509) 549 dL_law_40 (by decide) (by decide) (by decide) (by decide) ?_
      refine s_aload_n 1 dL_law_549 rfl rfl ?_
      refine s_aload_n 0 dL_law_550 rfl rfl ?_
      refine s_iload dL_law_551 rfl ?_
      refine s_iconst (1 : Int32) dL_law_553 (by decide) ?_
      refine s_iadd dL_law_554 ?_
      refine s_sald dL_law_555 (fun v65 => ?_)
      refine s_aload_n 0 dL_law_556 rfl rfl ?_
      refine s_iload dL_law_557 rfl ?_
      refine s_iconst (2 : Int32) dL_law_559 (by decide) ?_
      refine s_iadd dL_law_560 ?_
      refine s_sald dL_law_561 (fun v66 => ?_)
      refine s_aload_n 0 dL_law_562 rfl rfl ?_
      refine s_iload dL_law_563 rfl ?_
      refine s_iconst (3 : Int32) dL_law_565 (by decide) ?_
      refine s_iadd dL_law_566 ?_
      refine s_sald dL_law_567 (fun v67 => ?_)
      refine s_cV3I mk_L_63 (by decide) rfl (fun v9 S9 h9 => con_X8_nearest F _ _ _ _ _ v9 S9 h9) ⟨by omega, by omega⟩ (Nat.le_of_ble_eq_true rfl) dL_law_568 (fun v68 S69 => ?_)
      refine s_aload_n 2 dL_law_571 rfl rfl ?_
      refine s_aload_n 0 dL_law_572 rfl rfl ?_
      refine s_iload dL_law_573 rfl ?_
      refine s_iconst (1 : Int32) dL_law_575 (by decide) ?_
      refine s_iadd dL_law_576 ?_
      refine s_sald dL_law_577 (fun v70 => ?_)
      refine s_aload_n 0 dL_law_578 rfl rfl ?_
      refine s_iload dL_law_579 rfl ?_
      refine s_iconst (2 : Int32) dL_law_581 (by decide) ?_
      refine s_iadd dL_law_582 ?_
      refine s_sald dL_law_583 (fun v71 => ?_)
      refine s_aload_n 0 dL_law_584 rfl rfl ?_
      refine s_iload dL_law_585 rfl ?_
      refine s_iconst (3 : Int32) dL_law_587 (by decide) ?_
      refine s_iadd dL_law_588 ?_
      refine s_sald dL_law_589 (fun v72 => ?_)
      refine s_cV3I mk_L_67 (by decide) rfl (fun v9 S9 h9 => con_X9_nearest F _ _ _ _ _ v9 S9 h9) ⟨by omega, by omega⟩ (Nat.le_of_ble_eq_true rfl) dL_law_590 (fun v73 S74 => ?_)
      refine s_icmp_eq 1084 dL_law_593 (by decide) (fun _ => ?_) (fun _ => ?_)
      · exact s_less (t_L_law_1084 hl0 hk23 x0 x1 x2 x3 x4  S74) (And.intro rfl (And.intro rfl (And.intro rfl (And.intro rfl (And.intro rfl trivial)))))
      · refine s_iconst (0 : Int32) dL_law_596 (by decide) ?_
        exact s_zret dL_law_597
    refine s_ite _ (fun h9 => ?_) (fun h9 => ?_)
    · subst h9
      refine s_tsIn (off := 558) 598 dL_law_40 (by decide) (by decide) (by decide) (by decide) ?_
      refine s_aload_n 1 dL_law_598 rfl rfl ?_
      refine s_aload_n 0 dL_law_599 rfl rfl ?_
      refine s_iload dL_law_600 rfl ?_
      refine s_iconst (1 : Int32) dL_law_602 (by decide) ?_
      refine s_iadd dL_law_603 ?_
      refine s_sald dL_law_604 (fun v75 => ?_)
      refine s_aload_n 0 dL_law_605 rfl rfl ?_
      refine s_iload dL_law_606 rfl ?_
      refine s_iconst (2 : Int32) dL_law_608 (by decide) ?_
      refine s_iadd dL_law_609 ?_
      refine s_sald dL_law_610 (fun v76 => ?_)
      refine s_aload_n 0 dL_law_611 rfl rfl ?_
      refine s_iload dL_law_612 rfl ?_
      refine s_iconst (3 : Int32) dL_law_614 (by decide) ?_
      refine s_iadd dL_law_615 ?_
      refine s_sald dL_law_616 (fun v77 => ?_)
      refine s_aload_n 0 dL_law_617 rfl rfl ?_
      refine s_iload dL_law_618 rfl ?_
      refine s_iconst (4 : Int32) dL_law_620 (by decide) ?_
      refine s_iadd dL_law_621 ?_
      refine s_sald dL_law_622 (fun v78 => ?_)
      refine s_cV4I mk_L_68 (by decide) rfl (fun v9 S9 h9 => con_X8_fewest F _ _ _ _ _ _ v9 S9 h9) ⟨by omega, by omega⟩ (Nat.le_of_ble_eq_true rfl) dL_law_623 (fun v79 S80 => ?_)
      refine s_aload_n 2 dL_law_626 rfl rfl ?_
      refine s_aload_n 0 dL_law_627 rfl rfl ?_
      refine s_iload dL_law_628 rfl ?_
      refine s_iconst (1 : Int32) dL_law_630 (by decide) ?_
      refine s_iadd dL_law_631 ?_
      refine s_sald dL_law_632 (fun v81 => ?_)
      refine s_aload_n 0 dL_law_633 rfl rfl ?_
      refine s_iload dL_law_634 rfl ?_
      refine s_iconst (2 : Int32) dL_law_636 (by decide) ?_
      refine s_iadd dL_law_637 ?_
      refine s_sald dL_law_638 (fun v82 => ?_)
      refine s_aload_n 0 dL_law_639 rfl rfl ?_
      refine s_iload dL_law_640 rfl ?_
      refine s_iconst (3 : Int32) dL_law_642 (by decide) ?_
      refine s_iadd dL_law_643 ?_
      refine s_sald dL_law_644 (fun v83 => ?_)
      refine s_aload_n 0 dL_law_645 rfl rfl ?_
      refine s_iload dL_law_646 rfl ?_
      refine s_iconst (4 : Int32) dL_law_648 (by decide) ?_
      refine s_iadd dL_law_649 ?_
      refine s_sald dL_law_650 (fun v84 => ?_)
      refine s_cV4I mk_L_72 (by decide) rfl (fun v9 S9 h9 => con_X9_fewest F _ _ _ _ _ _ v9 S9 h9) ⟨by omega, by omega⟩ (Nat.le_of_ble_eq_true rfl) dL_law_651 (fun v85 S86 => ?_)
      refine s_icmp_eq 1084 dL_law_654 (by decide) (fun _ => ?_) (fun _ => ?_)
      · exact s_less (t_L_law_1084 hl0 hk23 x0 x1 x2 x3 x4  S86) (And.intro rfl (And.intro rfl (And.intro rfl (And.intro rfl (And.intro rfl trivial)))))
      · refine s_iconst (0 : Int32) dL_law_657 (by decide) ?_
        exact s_zret dL_law_658
    refine s_ite _ (fun h10 => ?_) (fun h10 => ?_)
    · subst h10
      refine s_tsIn (off := 619) 659 dL_law_40 (by decide) (by decide) (by decide) (by decide) ?_
      refine s_aload_n 1 dL_law_659 rfl rfl ?_
      refine s_aload_n 0 dL_law_660 rfl rfl ?_
      refine s_iload dL_law_661 rfl ?_
      refine s_iconst (1 : Int32) dL_law_663 (by decide) ?_
      refine s_iadd dL_law_664 ?_
      refine s_sald dL_law_665 (fun v87 => ?_)
      refine s_aload_n 0 dL_law_666 rfl rfl ?_
      refine s_iload dL_law_667 rfl ?_
      refine s_iconst (2 : Int32) dL_law_669 (by decide) ?_
      refine s_iadd dL_law_670 ?_
      refine s_sald dL_law_671 (fun v88 => ?_)
      refine s_aload_n 0 dL_law_672 rfl rfl ?_
      refine s_iload dL_law_673 rfl ?_
      refine s_iconst (3 : Int32) dL_law_675 (by decide) ?_
      refine s_iadd dL_law_676 ?_
      refine s_sald dL_law_677 (fun v89 => ?_)
      refine s_aload_n 0 dL_law_678 rfl rfl ?_
      refine s_iload dL_law_679 rfl ?_
      refine s_iconst (4 : Int32) dL_law_681 (by decide) ?_
      refine s_iadd dL_law_682 ?_
      refine s_sald dL_law_683 (fun v90 => ?_)
      refine s_cV4I mk_L_73 (by decide) rfl (fun v9 S9 h9 => con_X8_holds F _ _ _ _ _ _ v9 S9 h9) ⟨by omega, by omega⟩ (Nat.le_of_ble_eq_true rfl) dL_law_684 (fun v91 S92 => ?_)
      refine s_aload_n 2 dL_law_687 rfl rfl ?_
      refine s_aload_n 0 dL_law_688 rfl rfl ?_
      refine s_iload dL_law_689 rfl ?_
      refine s_iconst (1 : Int32) dL_law_691 (by decide) ?_
      refine s_iadd dL_law_692 ?_
      refine s_sald dL_law_693 (fun v93 => ?_)
      refine s_aload_n 0 dL_law_694 rfl rfl ?_
      refine s_iload dL_law_695 rfl ?_
      refine s_iconst (2 : Int32) dL_law_697 (by decide) ?_
      refine s_iadd dL_law_698 ?_
      refine s_sald dL_law_699 (fun v94 => ?_)
      refine s_aload_n 0 dL_law_700 rfl rfl ?_
      refine s_iload dL_law_701 rfl ?_
      refine s_iconst (3 : Int32) dL_law_703 (by decide) ?_
      refine s_iadd dL_law_704 ?_
      refine s_sald dL_law_705 (fun v95 => ?_)
      refine s_aload_n 0 dL_law_706 rfl rfl ?_
      refine s_iload dL_law_707 rfl ?_
      refine s_iconst (4 : Int32) dL_law_709 (by decide) ?_
      refine s_iadd dL_law_710 ?_
      refine s_sald dL_law_711 (fun v96 => ?_)
      refine s_cV4I mk_L_76 (by decide) rfl (fun v9 S9 h9 => con_X9_holds F _ _ _ _ _ _ v9 S9 h9) ⟨by omega, by omega⟩ (Nat.le_of_ble_eq_true rfl) dL_law_712 (fun v97 S98 => ?_)
      refine s_icmp_eq 1084 dL_law_715 (by decide) (fun _ => ?_) (fun _ => ?_)
      · exact s_less (t_L_law_1084 hl0 hk23 x0 x1 x2 x3 x4  S98) (And.intro rfl (And.intro rfl (And.intro rfl (And.intro rfl (And.intro rfl trivial)))))
      · refine s_iconst (0 : Int32) dL_law_718 (by decide) ?_
        exact s_zret dL_law_719
    refine s_ite _ (fun h11 => ?_) (fun h11 => ?_)
    · subst h11
      refine s_tsIn (off := 680) 720 dL_law_40 (by decide) (by decide) (by decide) (by decide) ?_
      refine s_aload_n 1 dL_law_720 rfl rfl ?_
      refine s_aload_n 0 dL_law_721 rfl rfl ?_
      refine s_iload dL_law_722 rfl ?_
      refine s_iconst (1 : Int32) dL_law_724 (by decide) ?_
      refine s_iadd dL_law_725 ?_
      refine s_sald dL_law_726 (fun v99 => ?_)
      refine s_cV1I mk_L_77 (by decide) rfl (fun v9 S9 h9 => con_X8_mayGo F _ _ _ v9 S9 h9) ⟨by omega, by omega⟩ (Nat.le_of_ble_eq_true rfl) dL_law_727 (fun v100 S101 => ?_)
      refine s_aload_n 2 dL_law_730 rfl rfl ?_
      refine s_aload_n 0 dL_law_731 rfl rfl ?_
      refine s_iload dL_law_732 rfl ?_
      refine s_iconst (1 : Int32) dL_law_734 (by decide) ?_
      refine s_iadd dL_law_735 ?_
      refine s_sald dL_law_736 (fun v102 => ?_)
      refine s_cV1I mk_L_80 (by decide) rfl (fun v9 S9 h9 => con_X9_mayGo F _ _ _ v9 S9 h9) ⟨by omega, by omega⟩ (Nat.le_of_ble_eq_true rfl) dL_law_737 (fun v103 S104 => ?_)
      refine s_icmp_eq 1084 dL_law_740 (by decide) (fun _ => ?_) (fun _ => ?_)
      · exact s_less (t_L_law_1084 hl0 hk23 x0 x1 x2 x3 x4  S104) (And.intro rfl (And.intro rfl (And.intro rfl (And.intro rfl (And.intro rfl trivial)))))
      · refine s_iconst (0 : Int32) dL_law_743 (by decide) ?_
        exact s_zret dL_law_744
    refine s_ite _ (fun h12 => ?_) (fun h12 => ?_)
    · subst h12
      refine s_tsIn (off := 705) 745 dL_law_40 (by decide) (by decide) (by decide) (by decide) ?_
      refine s_aload_n 1 dL_law_745 rfl rfl ?_
      refine s_aload_n 0 dL_law_746 rfl rfl ?_
      refine s_iload dL_law_747 rfl ?_
      refine s_iconst (1 : Int32) dL_law_749 (by decide) ?_
      refine s_iadd dL_law_750 ?_
      refine s_sald dL_law_751 (fun v105 => ?_)
      refine s_aload_n 0 dL_law_752 rfl rfl ?_
      refine s_iload dL_law_753 rfl ?_
      refine s_iconst (2 : Int32) dL_law_755 (by decide) ?_
      refine s_iadd dL_law_756 ?_
      refine s_sald dL_law_757 (fun v106 => ?_)
      refine s_cV2I mk_L_81 (by decide) rfl (fun v9 S9 h9 => con_X8_needed F _ _ _ _ v9 S9 h9) ⟨by omega, by omega⟩ (Nat.le_of_ble_eq_true rfl) dL_law_758 (fun v107 S108 => ?_)
      refine s_aload_n 2 dL_law_761 rfl rfl ?_
      refine s_aload_n 0 dL_law_762 rfl rfl ?_
      refine s_iload dL_law_763 rfl ?_
      refine s_iconst (1 : Int32) dL_law_765 (by decide) ?_
      refine s_iadd dL_law_766 ?_
      refine s_sald dL_law_767 (fun v109 => ?_)
      refine s_aload_n 0 dL_law_768 rfl rfl ?_
      refine s_iload dL_law_769 rfl ?_
      refine s_iconst (2 : Int32) dL_law_771 (by decide) ?_
      refine s_iadd dL_law_772 ?_
      refine s_sald dL_law_773 (fun v110 => ?_)
      refine s_cV2I mk_L_84 (by decide) rfl (fun v9 S9 h9 => con_X9_needed F _ _ _ _ v9 S9 h9) ⟨by omega, by omega⟩ (Nat.le_of_ble_eq_true rfl) dL_law_774 (fun v111 S112 => ?_)
      refine s_icmp_eq 1084 dL_law_777 (by decide) (fun _ => ?_) (fun _ => ?_)
      · exact s_less (t_L_law_1084 hl0 hk23 x0 x1 x2 x3 x4  S112) (And.intro rfl (And.intro rfl (And.intro rfl (And.intro rfl (And.intro rfl trivial)))))
      · refine s_iconst (0 : Int32) dL_law_780 (by decide) ?_
        exact s_zret dL_law_781
    refine s_ite _ (fun h13 => ?_) (fun h13 => ?_)
    · subst h13
      refine s_tsIn (off := 742) 782 dL_law_40 (by decide) (by decide) (by decide) (by decide) ?_
      refine s_aload_n 1 dL_law_782 rfl rfl ?_
      refine s_aload_n 0 dL_law_783 rfl rfl ?_
      refine s_iload dL_law_784 rfl ?_
      refine s_iconst (1 : Int32) dL_law_786 (by decide) ?_
      refine s_iadd dL_law_787 ?_
      refine s_sald dL_law_788 (fun v113 => ?_)
      refine s_aload_n 0 dL_law_789 rfl rfl ?_
      refine s_iload dL_law_790 rfl ?_
      refine s_iconst (2 : Int32) dL_law_792 (by decide) ?_
      refine s_iadd dL_law_793 ?_
      refine s_sald dL_law_794 (fun v114 => ?_)
      refine s_cV2J mk_L_85 (by decide) rfl (fun v9 S9 h9 => con_X8_mean F _ _ _ _ v9 S9 h9) ⟨by omega, by omega⟩ (Nat.le_of_ble_eq_true rfl) dL_law_795 (fun v115 S116 => ?_)
      refine s_aload_n 2 dL_law_798 rfl rfl ?_
      refine s_aload_n 0 dL_law_799 rfl rfl ?_
      refine s_iload dL_law_800 rfl ?_
      refine s_iconst (1 : Int32) dL_law_802 (by decide) ?_
      refine s_iadd dL_law_803 ?_
      refine s_sald dL_law_804 (fun v117 => ?_)
      refine s_aload_n 0 dL_law_805 rfl rfl ?_
      refine s_iload dL_law_806 rfl ?_
      refine s_iconst (2 : Int32) dL_law_808 (by decide) ?_
      refine s_iadd dL_law_809 ?_
      refine s_sald dL_law_810 (fun v118 => ?_)
      refine s_cV2J mk_L_89 (by decide) rfl (fun v9 S9 h9 => con_X9_mean F _ _ _ _ v9 S9 h9) ⟨by omega, by omega⟩ (Nat.le_of_ble_eq_true rfl) dL_law_811 (fun v119 S120 => ?_)
      refine s_lcmp dL_law_814 ?_
      refine s_if_eq 1084 dL_law_815 (by decide) (fun _ => ?_) (fun _ => ?_)
      · exact s_less (t_L_law_1084 hl0 hk23 x0 x1 x2 x3 x4  S120) (And.intro rfl (And.intro rfl (And.intro rfl (And.intro rfl (And.intro rfl trivial)))))
      · refine s_iconst (0 : Int32) dL_law_818 (by decide) ?_
        exact s_zret dL_law_819
    refine s_ite _ (fun h14 => ?_) (fun h14 => ?_)
    · subst h14
      refine s_tsIn (off := 780) 820 dL_law_40 (by decide) (by decide) (by decide) (by decide) ?_
      refine s_aload_n 1 dL_law_820 rfl rfl ?_
      refine s_cV0I mk_L_90 (by decide) rfl (fun v9 S9 h9 => con_X8_down F _ _ v9 S9 h9) ⟨by omega, by omega⟩ (Nat.le_of_ble_eq_true rfl) dL_law_821 (fun v121 S122 => ?_)
      refine s_aload_n 2 dL_law_824 rfl rfl ?_
      refine s_cV0I mk_L_93 (by decide) rfl (fun v9 S9 h9 => con_X9_down F _ _ v9 S9 h9) ⟨by omega, by omega⟩ (Nat.le_of_ble_eq_true rfl) dL_law_825 (fun v123 S124 => ?_)
      refine s_icmp_eq 1084 dL_law_828 (by decide) (fun _ => ?_) (fun _ => ?_)
      · exact s_less (t_L_law_1084 hl0 hk23 x0 x1 x2 x3 x4  S124) (And.intro rfl (And.intro rfl (And.intro rfl (And.intro rfl (And.intro rfl trivial)))))
      · refine s_iconst (0 : Int32) dL_law_831 (by decide) ?_
        exact s_zret dL_law_832
    refine s_ite _ (fun h15 => ?_) (fun h15 => ?_)
    · subst h15
      refine s_tsIn (off := 793) 833 dL_law_40 (by decide) (by decide) (by decide) (by decide) ?_
      refine s_aload_n 1 dL_law_833 rfl rfl ?_
      refine s_aload_n 0 dL_law_834 rfl rfl ?_
      refine s_iload dL_law_835 rfl ?_
      refine s_iconst (1 : Int32) dL_law_837 (by decide) ?_
      refine s_iadd dL_law_838 ?_
      refine s_sald dL_law_839 (fun v125 => ?_)
      refine s_aload_n 0 dL_law_840 rfl rfl ?_
      refine s_iload dL_law_841 rfl ?_
      refine s_iconst (2 : Int32) dL_law_843 (by decide) ?_
      refine s_iadd dL_law_844 ?_
      refine s_sald dL_law_845 (fun v126 => ?_)
      refine s_aload_n 0 dL_law_846 rfl rfl ?_
      refine s_iload dL_law_847 rfl ?_
      refine s_iconst (3 : Int32) dL_law_849 (by decide) ?_
      refine s_iadd dL_law_850 ?_
      refine s_sald dL_law_851 (fun v127 => ?_)
      refine s_cV3I mk_L_94 (by decide) rfl (fun v9 S9 h9 => con_X8_note F _ _ _ _ _ v9 S9 h9) ⟨by omega, by omega⟩ (Nat.le_of_ble_eq_true rfl) dL_law_852 (fun v128 S129 => ?_)
      refine s_aload_n 2 dL_law_855 rfl rfl ?_
      refine s_aload_n 0 dL_law_856 rfl rfl ?_
      refine s_iload dL_law_857 rfl ?_
      refine s_iconst (1 : Int32) dL_law_859 (by decide) ?_
      refine s_iadd dL_law_860 ?_
      refine s_sald dL_law_861 (fun v130 => ?_)
      refine s_aload_n 0 dL_law_862 rfl rfl ?_
      refine s_iload dL_law_863 rfl ?_
      refine s_iconst (2 : Int32) dL_law_865 (by decide) ?_
      refine s_iadd dL_law_866 ?_
      refine s_sald dL_law_867 (fun v131 => ?_)
      refine s_aload_n 0 dL_law_868 rfl rfl ?_
      refine s_iload dL_law_869 rfl ?_
      refine s_iconst (3 : Int32) dL_law_871 (by decide) ?_
      refine s_iadd dL_law_872 ?_
      refine s_sald dL_law_873 (fun v132 => ?_)
      refine s_cV3I mk_L_97 (by decide) rfl (fun v9 S9 h9 => con_X9_note F _ _ _ _ _ v9 S9 h9) ⟨by omega, by omega⟩ (Nat.le_of_ble_eq_true rfl) dL_law_874 (fun v133 S134 => ?_)
      refine s_icmp_eq 1084 dL_law_877 (by decide) (fun _ => ?_) (fun _ => ?_)
      · exact s_less (t_L_law_1084 hl0 hk23 x0 x1 x2 x3 x4  S134) (And.intro rfl (And.intro rfl (And.intro rfl (And.intro rfl (And.intro rfl trivial)))))
      · refine s_iconst (0 : Int32) dL_law_880 (by decide) ?_
        exact s_zret dL_law_881
    refine s_ite _ (fun h16 => ?_) (fun h16 => ?_)
    · subst h16
      refine s_tsIn (off := 842) 882 dL_law_40 (by decide) (by decide) (by decide) (by decide) ?_
      refine s_aload_n 1 dL_law_882 rfl rfl ?_
      refine s_cV0I mk_L_98 (by decide) rfl (fun v9 S9 h9 => con_X8_clear F _ _ v9 S9 h9) ⟨by omega, by omega⟩ (Nat.le_of_ble_eq_true rfl) dL_law_883 (fun v135 S136 => ?_)
      refine s_aload_n 2 dL_law_886 rfl rfl ?_
      refine s_cV0I mk_L_102 (by decide) rfl (fun v9 S9 h9 => con_X9_clear F _ _ v9 S9 h9) ⟨by omega, by omega⟩ (Nat.le_of_ble_eq_true rfl) dL_law_887 (fun v137 S138 => ?_)
      refine s_icmp_eq 1084 dL_law_890 (by decide) (fun _ => ?_) (fun _ => ?_)
      · exact s_less (t_L_law_1084 hl0 hk23 x0 x1 x2 x3 x4  S138) (And.intro rfl (And.intro rfl (And.intro rfl (And.intro rfl (And.intro rfl trivial)))))
      · refine s_iconst (0 : Int32) dL_law_893 (by decide) ?_
        exact s_zret dL_law_894
    refine s_ite _ (fun h17 => ?_) (fun h17 => ?_)
    · subst h17
      refine s_tsIn (off := 855) 895 dL_law_40 (by decide) (by decide) (by decide) (by decide) ?_
      refine s_aload_n 1 dL_law_895 rfl rfl ?_
      refine s_cV0I mk_L_103 (by decide) rfl (fun v9 S9 h9 => con_X8_fits F _ _ v9 S9 h9) ⟨by omega, by omega⟩ (Nat.le_of_ble_eq_true rfl) dL_law_896 (fun v139 S140 => ?_)
      refine s_aload_n 2 dL_law_899 rfl rfl ?_
      refine s_cV0I mk_L_106 (by decide) rfl (fun v9 S9 h9 => con_X9_fits F _ _ v9 S9 h9) ⟨by omega, by omega⟩ (Nat.le_of_ble_eq_true rfl) dL_law_900 (fun v141 S142 => ?_)
      refine s_icmp_eq 1084 dL_law_903 (by decide) (fun _ => ?_) (fun _ => ?_)
      · exact s_less (t_L_law_1084 hl0 hk23 x0 x1 x2 x3 x4  S142) (And.intro rfl (And.intro rfl (And.intro rfl (And.intro rfl (And.intro rfl trivial)))))
      · refine s_iconst (0 : Int32) dL_law_906 (by decide) ?_
        exact s_zret dL_law_907
    refine s_ite _ (fun h18 => ?_) (fun h18 => ?_)
    · subst h18
      refine s_tsIn (off := 868) 908 dL_law_40 (by decide) (by decide) (by decide) (by decide) ?_
      refine s_aload_n 1 dL_law_908 rfl rfl ?_
      refine s_aload_n 0 dL_law_909 rfl rfl ?_
      refine s_iload dL_law_910 rfl ?_
      refine s_iconst (1 : Int32) dL_law_912 (by decide) ?_
      refine s_iadd dL_law_913 ?_
      refine s_sald dL_law_914 (fun v143 => ?_)
      refine s_cV1I mk_L_107 (by decide) rfl (fun v9 S9 h9 => con_X8_fit F _ _ _ v9 S9 h9) ⟨by omega, by omega⟩ (Nat.le_of_ble_eq_true rfl) dL_law_915 (fun v144 S145 => ?_)
      refine s_aload_n 2 dL_law_918 rfl rfl ?_
      refine s_aload_n 0 dL_law_919 rfl rfl ?_
      refine s_iload dL_law_920 rfl ?_
      refine s_iconst (1 : Int32) dL_law_922 (by decide) ?_
      refine s_iadd dL_law_923 ?_
      refine s_sald dL_law_924 (fun v146 => ?_)
      refine s_cV1I mk_L_110 (by decide) rfl (fun v9 S9 h9 => con_X9_fit F _ _ _ v9 S9 h9) ⟨by omega, by omega⟩ (Nat.le_of_ble_eq_true rfl) dL_law_925 (fun v147 S148 => ?_)
      refine s_icmp_eq 1084 dL_law_928 (by decide) (fun _ => ?_) (fun _ => ?_)
      · exact s_less (t_L_law_1084 hl0 hk23 x0 x1 x2 x3 x4  S148) (And.intro rfl (And.intro rfl (And.intro rfl (And.intro rfl (And.intro rfl trivial)))))
      · refine s_iconst (0 : Int32) dL_law_931 (by decide) ?_
        exact s_zret dL_law_932
    refine s_ite _ (fun h19 => ?_) (fun h19 => ?_)
    · subst h19
      refine s_tsIn (off := 893) 933 dL_law_40 (by decide) (by decide) (by decide) (by decide) ?_
      refine s_aload_n 1 dL_law_933 rfl rfl ?_
      refine s_aload_n 0 dL_law_934 rfl rfl ?_
      refine s_iload dL_law_935 rfl ?_
      refine s_iconst (1 : Int32) dL_law_937 (by decide) ?_
      refine s_iadd dL_law_938 ?_
      refine s_sald dL_law_939 (fun v149 => ?_)
      refine s_aload_n 0 dL_law_940 rfl rfl ?_
      refine s_iload dL_law_941 rfl ?_
      refine s_iconst (2 : Int32) dL_law_943 (by decide) ?_
      refine s_iadd dL_law_944 ?_
      refine s_sald dL_law_945 (fun v150 => ?_)
      refine s_aload_n 0 dL_law_946 rfl rfl ?_
      refine s_iload dL_law_947 rfl ?_
      refine s_iconst (3 : Int32) dL_law_949 (by decide) ?_
      refine s_iadd dL_law_950 ?_
      refine s_sald dL_law_951 (fun v151 => ?_)
      refine s_aload_n 0 dL_law_952 rfl rfl ?_
      refine s_iload dL_law_953 rfl ?_
      refine s_iconst (4 : Int32) dL_law_955 (by decide) ?_
      refine s_iadd dL_law_956 ?_
      refine s_sald dL_law_957 (fun v152 => ?_)
      refine s_aload_n 0 dL_law_958 rfl rfl ?_
      refine s_iload dL_law_959 rfl ?_
      refine s_iconst (5 : Int32) dL_law_961 (by decide) ?_
      refine s_iadd dL_law_962 ?_
      refine s_sald dL_law_963 (fun v153 => ?_)
      refine s_cV5I mk_L_111 (by decide) rfl (fun v9 S9 h9 => con_X8_lots F _ _ _ _ _ _ _ v9 S9 h9) ⟨by omega, by omega⟩ (Nat.le_of_ble_eq_true rfl) dL_law_964 (fun v154 S155 => ?_)
      refine s_aload_n 2 dL_law_967 rfl rfl ?_
      refine s_aload_n 0 dL_law_968 rfl rfl ?_
      refine s_iload dL_law_969 rfl ?_
      refine s_iconst (1 : Int32) dL_law_971 (by decide) ?_
      refine s_iadd dL_law_972 ?_
      refine s_sald dL_law_973 (fun v156 => ?_)
      refine s_aload_n 0 dL_law_974 rfl rfl ?_
      refine s_iload dL_law_975 rfl ?_
      refine s_iconst (2 : Int32) dL_law_977 (by decide) ?_
      refine s_iadd dL_law_978 ?_
      refine s_sald dL_law_979 (fun v157 => ?_)
      refine s_aload_n 0 dL_law_980 rfl rfl ?_
      refine s_iload dL_law_981 rfl ?_
      refine s_iconst (3 : Int32) dL_law_983 (by decide) ?_
      refine s_iadd dL_law_984 ?_
      refine s_sald dL_law_985 (fun v158 => ?_)
      refine s_aload_n 0 dL_law_986 rfl rfl ?_
      refine s_iload dL_law_987 rfl ?_
      refine s_iconst (4 : Int32) dL_law_989 (by decide) ?_
      refine s_iadd dL_law_990 ?_
      refine s_sald dL_law_991 (fun v159 => ?_)
      refine s_aload_n 0 dL_law_992 rfl rfl ?_
      refine s_iload dL_law_993 rfl ?_
      refine s_iconst (5 : Int32) dL_law_995 (by decide) ?_
      refine s_iadd dL_law_996 ?_
      refine s_sald dL_law_997 (fun v160 => ?_)
      refine s_cV5I mk_L_115 (by decide) rfl (fun v9 S9 h9 => con_X9_lots F _ _ _ _ _ _ _ v9 S9 h9) ⟨by omega, by omega⟩ (Nat.le_of_ble_eq_true rfl) dL_law_998 (fun v161 S162 => ?_)
      refine s_icmp_eq 1084 dL_law_1001 (by decide) (fun _ => ?_) (fun _ => ?_)
      · exact s_less (t_L_law_1084 hl0 hk23 x0 x1 x2 x3 x4  S162) (And.intro rfl (And.intro rfl (And.intro rfl (And.intro rfl (And.intro rfl trivial)))))
      · refine s_iconst (0 : Int32) dL_law_1004 (by decide) ?_
        exact s_zret dL_law_1005
    refine s_ite _ (fun h20 => ?_) (fun h20 => ?_)
    · subst h20
      refine s_tsIn (off := 966) 1006 dL_law_40 (by decide) (by decide) (by decide) (by decide) ?_
      refine s_aload_n 1 dL_law_1006 rfl rfl ?_
      refine s_aload_n 0 dL_law_1007 rfl rfl ?_
      refine s_iload dL_law_1008 rfl ?_
      refine s_iconst (1 : Int32) dL_law_1010 (by decide) ?_
      refine s_iadd dL_law_1011 ?_
      refine s_sald dL_law_1012 (fun v163 => ?_)
      refine s_aload_n 0 dL_law_1013 rfl rfl ?_
      refine s_iload dL_law_1014 rfl ?_
      refine s_iconst (2 : Int32) dL_law_1016 (by decide) ?_
      refine s_iadd dL_law_1017 ?_
      refine s_sald dL_law_1018 (fun v164 => ?_)
      refine s_if_eq 1026 dL_law_1019 (by decide) (fun _ => ?_) (fun _ => ?_)
      · refine s_iconst (0 : Int32) dL_law_1026 (by decide) ?_
        exact s_less (t_L_law_1027 hl0 hk23 x0 x1 x2 x3 x4 x1 v163 (0 : Int32) S) (And.intro rfl (And.intro rfl (And.intro rfl (And.intro rfl (And.intro rfl trivial)))))
      · refine s_iconst (1 : Int32) dL_law_1022 (by decide) ?_
        refine s_goto 1027 dL_law_1023 (by decide) ?_
        exact s_less (t_L_law_1027 hl0 hk23 x0 x1 x2 x3 x4 x1 v163 (1 : Int32) S) (And.intro rfl (And.intro rfl (And.intro rfl (And.intro rfl (And.intro rfl trivial)))))
    refine s_ite _ (fun h21 => ?_) (fun h21 => ?_)
    · subst h21
      refine s_tsIn (off := 1019) 1059 dL_law_40 (by decide) (by decide) (by decide) (by decide) ?_
      refine s_aload_n 1 dL_law_1059 rfl rfl ?_
      refine s_aload_n 0 dL_law_1060 rfl rfl ?_
      refine s_iload dL_law_1061 rfl ?_
      refine s_iconst (1 : Int32) dL_law_1063 (by decide) ?_
      refine s_iadd dL_law_1064 ?_
      refine s_sald dL_law_1065 (fun v165 => ?_)
      refine s_cV1I mk_L_120 (by decide) rfl (fun v9 S9 h9 => con_X8_count F _ _ _ v9 S9 h9) ⟨by omega, by omega⟩ (Nat.le_of_ble_eq_true rfl) dL_law_1066 (fun v166 S167 => ?_)
      refine s_aload_n 2 dL_law_1069 rfl rfl ?_
      refine s_aload_n 0 dL_law_1070 rfl rfl ?_
      refine s_iload dL_law_1071 rfl ?_
      refine s_iconst (1 : Int32) dL_law_1073 (by decide) ?_
      refine s_iadd dL_law_1074 ?_
      refine s_sald dL_law_1075 (fun v168 => ?_)
      refine s_cV1I mk_L_123 (by decide) rfl (fun v9 S9 h9 => con_X9_count F _ _ _ v9 S9 h9) ⟨by omega, by omega⟩ (Nat.le_of_ble_eq_true rfl) dL_law_1076 (fun v169 S170 => ?_)
      refine s_icmp_eq 1084 dL_law_1079 (by decide) (fun _ => ?_) (fun _ => ?_)
      · exact s_less (t_L_law_1084 hl0 hk23 x0 x1 x2 x3 x4  S170) (And.intro rfl (And.intro rfl (And.intro rfl (And.intro rfl (And.intro rfl trivial)))))
      · refine s_iconst (0 : Int32) dL_law_1082 (by decide) ?_
        exact s_zret dL_law_1083
    have e0 := lv_neT (a := 0) h0 rfl
    have e1 := lv_neT (a := 1) h1 rfl
    have e2 := lv_neT (a := 2) h2 rfl
    have e3 := lv_neT (a := 3) h3 rfl
    have e4 := lv_neT (a := 4) h4 rfl
    have e5 := lv_neT (a := 5) h5 rfl
    have e6 := lv_neT (a := 6) h6 rfl
    have e7 := lv_neT (a := 7) h7 rfl
    have e8 := lv_neT (a := 8) h8 rfl
    have e9 := lv_neT (a := 9) h9 rfl
    have e10 := lv_neT (a := 10) h10 rfl
    have e11 := lv_neT (a := 11) h11 rfl
    have e12 := lv_neT (a := 12) h12 rfl
    have e13 := lv_neT (a := 13) h13 rfl
    have e14 := lv_neT (a := 14) h14 rfl
    have e15 := lv_neT (a := 15) h15 rfl
    have e16 := lv_neT (a := 16) h16 rfl
    have e17 := lv_neT (a := 17) h17 rfl
    have e18 := lv_neT (a := 18) h18 rfl
    have e19 := lv_neT (a := 19) h19 rfl
    have e20 := lv_neT (a := 20) h20 rfl
    have e21 := lv_neT (a := 21) h21 rfl
    refine s_tsOut 1084 dL_law_40 (by omega) (by decide) ?_
    exact s_less (t_L_law_1084 hl0 hk23 x0 x1 x2 x3 x4  S) (And.intro rfl (And.intro rfl (And.intro rfl (And.intro rfl (And.intro rfl trivial)))))
set_option maxRecDepth 100000 in
set_option maxHeartbeats 4000000 in
theorem sim_L_law {Γ : Cx} (F : Nat) (hl0 : (lOf Γ).stackTraces = false) (x0 : Nat) (S : Mem) : Sim cL_law RL 2048 84000 (some .boolean) false Γ rI (fn_L_law F x0 S) S 0 [some (.ref x0), none, none, none, none, none, none] [] := by
  unfold fn_L_law
  refine s_new 7 (by decide) (lw_in 102 (by decide +kernel) (by decide +kernel)) dL_law_0 (fun v1 S2 => ?_)
  refine s_dup dL_law_3 rfl ?_
  refine s_cI0V mk_L_15 (fun v9 S9 h9 => con_X8_init F _ _ v9 S9 h9) ⟨by omega, by omega⟩ (Nat.le_of_ble_eq_true rfl) dL_law_4 (fun _ S4 => ?_)
  refine s_astore_1 dL_law_7 rfl ?_
  refine s_new 8 (by decide) (lw_in 1007 (by decide +kernel) (by decide +kernel)) dL_law_8 (fun v5 S6 => ?_)
  refine s_dup dL_law_11 rfl ?_
  refine s_cI0V mk_L_18 (fun v9 S9 h9 => con_X9_init F _ _ v9 S9 h9) ⟨by omega, by omega⟩ (Nat.le_of_ble_eq_true rfl) dL_law_12 (fun _ S8 => ?_)
  refine s_astore_2 dL_law_15 rfl ?_
  refine s_iconst (1 : Int32) dL_law_16 (by decide) ?_
  refine s_newa11 (lw_in 280 (by decide +kernel) (by decide +kernel)) dL_law_17 (fun v9 S10 => ?_)
  refine s_astore_3 dL_law_19 rfl ?_
  refine s_iconst (0 : Int32) dL_law_20 (by decide) ?_
  refine s_istore_4 dL_law_21 rfl ?_
  exact s_less (t_L_law_23 hl0 F x0 v1 v5 v9 (0 : Int32) S10) (And.intro rfl (And.intro rfl (And.intro rfl (And.intro rfl (And.intro rfl trivial)))))
