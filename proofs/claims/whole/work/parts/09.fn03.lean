-- X8_fittingSets
def f_X8_fittingSets_110 (F : Nat) (k34 : Nat → Int32 → Int64 → Int32 → Mem → Option (Int64 × Mem)) (k71 : Nat → Int32 → Int64 → Int32 → Int32 → Mem → Option (Int64 × Mem)) (x0 : Nat) (x1 : Int32) (x2 : Int64) (x4 : Int32) (x5 : Int32) (S : Mem) : Option (Int64 × Mem) :=
  k71 x0 x1 x2 x4 (x5 + (1 : Int32)) S
def b_X8_fittingSets_71 (F : Nat) (k34 : Nat → Int32 → Int64 → Int32 → Mem → Option (Int64 × Mem)) (k71 : Nat → Int32 → Int64 → Int32 → Int32 → Mem → Option (Int64 × Mem)) (x0 : Nat) (x1 : Int32) (x2 : Int64) (x4 : Int32) (x5 : Int32) (S : Mem) : Option (Int64 × Mem) :=
  if x1 ≤ x5 then
    k34 x0 x1 x2 (x4 + (1 : Int32)) S
  else
    if (lg_cmp ((x2 >>> ((x5).toInt64 &&& 63)) &&& (1 : Int64)) (0 : Int64)) = 0 then
      f_X8_fittingSets_110 F k34 k71 x0 x1 x2 x4 x5  S
    else
      bd (cal S 7 x0 (fn_X8_isSeen F x0 x5 x4 S)) fun v1 S2 =>
      if v1 = 0 then
        lt ((x2 &&& (((1 : Int64) <<< ((x5).toInt64 &&& 63)) ^^^ (-1 : Int64)))) fun v3 =>
        f_X8_fittingSets_110 F k34 k71 x0 x1 v3 x4 x5  S2
      else
        f_X8_fittingSets_110 F k34 k71 x0 x1 x2 x4 x5  S2
def b_X8_fittingSets_34 (F : Nat) (k34 : Nat → Int32 → Int64 → Int32 → Mem → Option (Int64 × Mem)) (x0 : Nat) (x1 : Int32) (x2 : Int64) (x4 : Int32) (S : Mem) : Option (Int64 × Mem) :=
  (gR S 7 5 x0).bind fun v1 =>
  (gI S 2 3 v1).bind fun v2 =>
  if v2 ≤ x4 then
    some (x2, S)
  else
    (gR S 7 3 x0).bind fun v3 =>
    (gR S 7 5 x0).bind fun v4 =>
    (gR S 7 5 x0).bind fun v5 =>
    (gR S 2 7 v5).bind fun v6 =>
    (gA S 10 v6 x4).bind fun v7 =>
    bd (cal S 0 v3 (fn_X0_feel F v3 v4 v7 (0 : Int32) S)) fun _ S9 =>
    fix5 (b_X8_fittingSets_71 F k34) F x0 x1 x2 x4 (0 : Int32) S9
def f_X8_fittingSets_30 (F : Nat) (x0 : Nat) (x1 : Int32) (y0 : Int64) (S : Mem) : Option (Int64 × Mem) :=
  fix4 (b_X8_fittingSets_34 F) F x0 x1 y0 (0 : Int32) S
def fn_X8_fittingSets (F : Nat) (x0 : Nat) (S : Mem) : Option (Int64 × Mem) :=
  (gR S 7 5 x0).bind fun v1 =>
  (gR S 2 0 v1).bind fun v2 =>
  (gI S 5 0 v2).bind fun v3 =>
  lt (((1 : Int32) <<< (v3 &&& 31))) fun v4 =>
  if v4 < (64 : Int32) then
    f_X8_fittingSets_30 F x0 v4 (((1 : Int64) <<< ((v4).toInt64 &&& 63)) - (1 : Int64)) S
  else
    f_X8_fittingSets_30 F x0 v4 (-1 : Int64) S
set_option maxRecDepth 100000 in
theorem t_X8_fittingSets_110 {Γ : Cx} {F : Nat} {k34 : Nat → Int32 → Int64 → Int32 → Mem → Option (Int64 × Mem)} (hk34 : ∀ (x0 : Nat) (x1 : Int32) (x2 : Int64) (x4 : Int32) (S : Mem), Sim cX8_fittingSets RX8 5 117 (some .long) false Γ rJ (k34 x0 x1 x2 x4 S) S 34 [some (.ref x0), some (.int x1), some (.long x2), none, some (.int x4), none] []) {k71 : Nat → Int32 → Int64 → Int32 → Int32 → Mem → Option (Int64 × Mem)} (hk71 : ∀ (x0 : Nat) (x1 : Int32) (x2 : Int64) (x4 : Int32) (x5 : Int32) (S : Mem), Sim cX8_fittingSets RX8 5 117 (some .long) false Γ rJ (k71 x0 x1 x2 x4 x5 S) S 71 [some (.ref x0), some (.int x1), some (.long x2), none, some (.int x4), some (.int x5)] []) : ∀ (x0 : Nat) (x1 : Int32) (x2 : Int64) (x4 : Int32) (x5 : Int32) (S : Mem), Sim cX8_fittingSets RX8 5 117 (some .long) false Γ rJ (f_X8_fittingSets_110 F k34 k71 x0 x1 x2 x4 x5 S) S 110 [some (.ref x0), some (.int x1), some (.long x2), none, some (.int x4), some (.int x5)] [] := by
  intro x0 x1 x2 x4 x5 S
  unfold f_X8_fittingSets_110
  refine s_iinc_5 (1 : Int32) dX8_fittingSets_110 (by decide) rfl ?_
  refine s_goto 71 dX8_fittingSets_113 (by decide) ?_
  exact s_less (hk71 x0 x1 x2 x4 (x5 + (1 : Int32)) S) (And.intro rfl (And.intro rfl (And.intro rfl (And.intro rfl (And.intro rfl trivial)))))
set_option maxRecDepth 100000 in
theorem t_X8_fittingSets_71 {Γ : Cx} {F : Nat} {k34 : Nat → Int32 → Int64 → Int32 → Mem → Option (Int64 × Mem)} (hk34 : ∀ (x0 : Nat) (x1 : Int32) (x2 : Int64) (x4 : Int32) (S : Mem), Sim cX8_fittingSets RX8 5 117 (some .long) false Γ rJ (k34 x0 x1 x2 x4 S) S 34 [some (.ref x0), some (.int x1), some (.long x2), none, some (.int x4), none] []) : ∀ (f : Nat) (x0 : Nat) (x1 : Int32) (x2 : Int64) (x4 : Int32) (x5 : Int32) (S : Mem), Sim cX8_fittingSets RX8 5 117 (some .long) false Γ rJ (fix5 (b_X8_fittingSets_71 F k34) f x0 x1 x2 x4 x5 S) S 71 [some (.ref x0), some (.int x1), some (.long x2), none, some (.int x4), some (.int x5)] [] := by
  refine s_fix5 (fun (x0 : Nat) (x1 : Int32) (x2 : Int64) (x4 : Int32) (x5 : Int32) => [some (.ref x0), some (.int x1), some (.long x2), none, some (.int x4), some (.int x5)]) (fun k71 hk71 => ?_)
  intro x0 x1 x2 x4 x5 S
  unfold b_X8_fittingSets_71
  refine s_iload dX8_fittingSets_71 rfl ?_
  refine s_iload_n 1 dX8_fittingSets_73 rfl rfl ?_
  refine s_icmp_ge 116 dX8_fittingSets_74 (by decide) (fun _ => ?_) (fun _ => ?_)
  · refine s_iinc_4 (1 : Int32) dX8_fittingSets_116 (by decide) rfl ?_
    refine s_goto 34 dX8_fittingSets_119 (by decide) ?_
    exact s_less (hk34 x0 x1 x2 (x4 + (1 : Int32)) S) (And.intro rfl (And.intro rfl (And.intro rfl (And.intro rfl trivial))))
  · refine s_lload_n 2 dX8_fittingSets_77 rfl rfl ?_
    refine s_iload dX8_fittingSets_78 rfl ?_
    refine s_lshr dX8_fittingSets_80 ?_
    refine s_lconst (1 : Int64) dX8_fittingSets_81 (by decide) ?_
    refine s_land dX8_fittingSets_82 ?_
    refine s_lconst (0 : Int64) dX8_fittingSets_83 (by decide) ?_
    refine s_lcmp dX8_fittingSets_84 ?_
    refine s_if_eq 110 dX8_fittingSets_85 (by decide) (fun _ => ?_) (fun _ => ?_)
    · exact s_less (t_X8_fittingSets_110 hk34 hk71 x0 x1 x2 x4 x5  S) (And.intro rfl (And.intro rfl (And.intro rfl (And.intro rfl (And.intro rfl trivial)))))
    · refine s_aload_n 0 dX8_fittingSets_88 rfl rfl ?_
      refine s_iload dX8_fittingSets_89 rfl ?_
      refine s_iload dX8_fittingSets_91 rfl ?_
      refine s_cV2I mk_X8_266 (by decide) rfl (fun v9 S9 h9 => con_X8_isSeen F _ _ _ _ v9 S9 h9) ⟨by omega, by omega⟩ (Nat.le_of_ble_eq_true rfl) dX8_fittingSets_93 (fun v1 S2 => ?_)
      refine s_if_ne 110 dX8_fittingSets_96 (by decide) (fun _ => ?_) (fun _ => ?_)
      · exact s_less (t_X8_fittingSets_110 hk34 hk71 x0 x1 x2 x4 x5  S2) (And.intro rfl (And.intro rfl (And.intro rfl (And.intro rfl (And.intro rfl trivial)))))
      · refine s_lload_n 2 dX8_fittingSets_99 rfl rfl ?_
        refine s_lconst (1 : Int64) dX8_fittingSets_100 (by decide) ?_
        refine s_iload dX8_fittingSets_101 rfl ?_
        refine s_lshl dX8_fittingSets_103 ?_
        refine s_ldc2 (v := (-1 : Int64)) dX8_fittingSets_104 (lw_in 863 (by decide +kernel) (by decide +kernel)) ?_
        refine s_lxor dX8_fittingSets_107 ?_
        refine s_land dX8_fittingSets_108 ?_
        refine s_ltJ (fun v3 => ?_)
        refine s_lstore_2 dX8_fittingSets_109 rfl ?_
        exact s_less (t_X8_fittingSets_110 hk34 hk71 x0 x1 v3 x4 x5  S2) (And.intro rfl (And.intro rfl (And.intro rfl (And.intro rfl (And.intro rfl trivial)))))
set_option maxRecDepth 100000 in
theorem t_X8_fittingSets_34 {Γ : Cx} {F : Nat} : ∀ (f : Nat) (x0 : Nat) (x1 : Int32) (x2 : Int64) (x4 : Int32) (S : Mem), Sim cX8_fittingSets RX8 5 117 (some .long) false Γ rJ (fix4 (b_X8_fittingSets_34 F) f x0 x1 x2 x4 S) S 34 [some (.ref x0), some (.int x1), some (.long x2), none, some (.int x4), none] [] := by
  refine s_fix4 (fun (x0 : Nat) (x1 : Int32) (x2 : Int64) (x4 : Int32) => [some (.ref x0), some (.int x1), some (.long x2), none, some (.int x4), none]) (fun k34 hk34 => ?_)
  intro x0 x1 x2 x4 S
  unfold b_X8_fittingSets_34
  refine s_iload dX8_fittingSets_34 rfl ?_
  refine s_aload_n 0 dX8_fittingSets_36 rfl rfl ?_
  refine s_getR fk_X8_42 rfl dX8_fittingSets_37 (fun v1 => ?_)
  refine s_getI fk_X8_214 rfl dX8_fittingSets_40 (fun v2 => ?_)
  refine s_icmp_ge 122 dX8_fittingSets_43 (by decide) (fun _ => ?_) (fun _ => ?_)
  · refine s_lload_n 2 dX8_fittingSets_122 rfl rfl ?_
    exact s_lret dX8_fittingSets_123
  · refine s_aload_n 0 dX8_fittingSets_46 rfl rfl ?_
    refine s_getR fk_X8_28 rfl dX8_fittingSets_47 (fun v3 => ?_)
    refine s_aload_n 0 dX8_fittingSets_50 rfl rfl ?_
    refine s_getR fk_X8_42 rfl dX8_fittingSets_51 (fun v4 => ?_)
    refine s_aload_n 0 dX8_fittingSets_54 rfl rfl ?_
    refine s_getR fk_X8_42 rfl dX8_fittingSets_55 (fun v5 => ?_)
    refine s_getR fk_X8_217 rfl dX8_fittingSets_58 (fun v6 => ?_)
    refine s_iload dX8_fittingSets_61 rfl ?_
    refine s_iald dX8_fittingSets_63 (fun v7 => ?_)
    refine s_iconst (0 : Int32) dX8_fittingSets_64 (by decide) ?_
    refine s_cV3V mk_X8_86 (by decide) rfl (fun v9 S9 h9 => con_X0_feel F _ _ _ _ _ v9 S9 h9) ⟨by omega, by omega⟩ (Nat.le_of_ble_eq_true rfl) dX8_fittingSets_65 (fun _ S9 => ?_)
    refine s_iconst (0 : Int32) dX8_fittingSets_68 (by decide) ?_
    refine s_istore_5 dX8_fittingSets_69 rfl ?_
    exact s_less (t_X8_fittingSets_71 hk34 F x0 x1 x2 x4 (0 : Int32) S9) (And.intro rfl (And.intro rfl (And.intro rfl (And.intro rfl (And.intro rfl trivial)))))
set_option maxRecDepth 100000 in
theorem t_X8_fittingSets_30 {Γ : Cx} {F : Nat} : ∀ (x0 : Nat) (x1 : Int32) (y0 : Int64) (S : Mem), Sim cX8_fittingSets RX8 5 117 (some .long) false Γ rJ (f_X8_fittingSets_30 F x0 x1 y0 S) S 30 [some (.ref x0), some (.int x1), none, none, none, none] [.long y0] := by
  intro x0 x1 y0 S
  unfold f_X8_fittingSets_30
  refine s_lstore_2 dX8_fittingSets_30 rfl ?_
  refine s_iconst (0 : Int32) dX8_fittingSets_31 (by decide) ?_
  refine s_istore_4 dX8_fittingSets_32 rfl ?_
  exact s_less (t_X8_fittingSets_34 F x0 x1 y0 (0 : Int32) S) (And.intro rfl (And.intro rfl (And.intro rfl (And.intro rfl trivial))))
set_option maxRecDepth 100000 in
theorem con_X8_fittingSets {l : Launch} (F : Nat) (x0 : Nat) (S : Mem) (v : Int64) (S1 : Mem) (h : fn_X8_fittingSets F x0 S = some (v, S1)) : Con l yX8_fittingSets cX8_fittingSets 6 (some .long) 5 117 [.ref x0] S (rJ v) S1 := by
  refine con_of (ι := rJ) RX8 false [some (.ref x0), none, none, none, none, none] rfl (fun h => by cases h) (by decide) (Nat.le_of_ble_eq_true rfl) ⟨rfl, rfl⟩ (fun Γ hl => ?_) h
  unfold fn_X8_fittingSets
  refine s_iconst (1 : Int32) dX8_fittingSets_0 (by decide) ?_
  refine s_aload_n 0 dX8_fittingSets_1 rfl rfl ?_
  refine s_getR fk_X8_42 rfl dX8_fittingSets_2 (fun v1 => ?_)
  refine s_getR fk_X8_72 rfl dX8_fittingSets_5 (fun v2 => ?_)
  refine s_getI fk_X8_150 rfl dX8_fittingSets_8 (fun v3 => ?_)
  refine s_ishl dX8_fittingSets_11 ?_
  refine s_ltI (fun v4 => ?_)
  refine s_istore_1 dX8_fittingSets_12 rfl ?_
  refine s_iload_n 1 dX8_fittingSets_13 rfl rfl ?_
  refine s_bipush (64 : Int32) dX8_fittingSets_14 (by decide) ?_
  refine s_icmp_lt 25 dX8_fittingSets_16 (by decide) (fun _ => ?_) (fun _ => ?_)
  · refine s_lconst (1 : Int64) dX8_fittingSets_25 (by decide) ?_
    refine s_iload_n 1 dX8_fittingSets_26 rfl rfl ?_
    refine s_lshl dX8_fittingSets_27 ?_
    refine s_lconst (1 : Int64) dX8_fittingSets_28 (by decide) ?_
    refine s_lsub dX8_fittingSets_29 ?_
    exact s_less (t_X8_fittingSets_30 x0 v4 (((1 : Int64) <<< ((v4).toInt64 &&& 63)) - (1 : Int64)) S) (And.intro rfl (And.intro rfl trivial))
  · refine s_ldc2 (v := (-1 : Int64)) dX8_fittingSets_19 (lw_in 863 (by decide +kernel) (by decide +kernel)) ?_
    refine s_goto 30 dX8_fittingSets_22 (by decide) ?_
    exact s_less (t_X8_fittingSets_30 x0 v4 (-1 : Int64) S) (And.intro rfl (And.intro rfl trivial))
-- J13_bitCount_95d88
def fn_J13_bitCount_95d88 (F : Nat) (x0 : Int64) (S : Mem) : Option (Int32 × Mem) :=
  lt ((x0 - (((x0).toUInt64 >>> (((1 : Int32)).toInt64.toUInt64 &&& Int64.toUInt64 63)).toInt64 &&& (6148914691236517205 : Int64)))) fun v1 =>
  lt (((v1 &&& (3689348814741910323 : Int64)) + (((v1).toUInt64 >>> (((2 : Int32)).toInt64.toUInt64 &&& Int64.toUInt64 63)).toInt64 &&& (3689348814741910323 : Int64)))) fun v2 =>
  lt (((v2 + ((v2).toUInt64 >>> (((4 : Int32)).toInt64.toUInt64 &&& Int64.toUInt64 63)).toInt64) &&& (1085102592571150095 : Int64))) fun v3 =>
  lt ((v3 + ((v3).toUInt64 >>> (((8 : Int32)).toInt64.toUInt64 &&& Int64.toUInt64 63)).toInt64)) fun v4 =>
  lt ((v4 + ((v4).toUInt64 >>> (((16 : Int32)).toInt64.toUInt64 &&& Int64.toUInt64 63)).toInt64)) fun v5 =>
  lt ((v5 + ((v5).toUInt64 >>> (((32 : Int32)).toInt64.toUInt64 &&& Int64.toUInt64 63)).toInt64)) fun v6 =>
  some (((v6).toInt32 &&& (127 : Int32)), S)
set_option maxRecDepth 100000 in
theorem con_J13_bitCount_95d88 {l : Launch} (F : Nat) (x0 : Int64) (S : Mem) (v : Int32) (S1 : Mem) (h : fn_J13_bitCount_95d88 F x0 S = some (v, S1)) : Con l yJ13_bitCount_95d88 cJ13_bitCount_95d88 2 (some .int) 0 0 [.long x0] S (rI v) S1 := by
  refine con_of (ι := rI) RJ13 false [some (.long x0), none] rfl (fun h => by cases h) (by decide) (Nat.le_of_ble_eq_true rfl) ⟨rfl, rfl⟩ (fun Γ hl => ?_) h
  unfold fn_J13_bitCount_95d88
  refine s_lload_n 0 dJ13_bitCount_95d88_0 rfl rfl ?_
  refine s_lload_n 0 dJ13_bitCount_95d88_1 rfl rfl ?_
  refine s_iconst (1 : Int32) dJ13_bitCount_95d88_2 (by decide) ?_
  refine s_lushr dJ13_bitCount_95d88_3 ?_
  refine s_ldc2 (v := (6148914691236517205 : Int64)) dJ13_bitCount_95d88_4 (lw_in 907 (by decide +kernel) (by decide +kernel)) ?_
  refine s_land dJ13_bitCount_95d88_7 ?_
  refine s_lsub dJ13_bitCount_95d88_8 ?_
  refine s_ltJ (fun v1 => ?_)
  refine s_lstore_0 dJ13_bitCount_95d88_9 ?_
  refine s_lload_n 0 dJ13_bitCount_95d88_10 rfl rfl ?_
  refine s_ldc2 (v := (3689348814741910323 : Int64)) dJ13_bitCount_95d88_11 (lw_in 908 (by decide +kernel) (by decide +kernel)) ?_
  refine s_land dJ13_bitCount_95d88_14 ?_
  refine s_lload_n 0 dJ13_bitCount_95d88_15 rfl rfl ?_
  refine s_iconst (2 : Int32) dJ13_bitCount_95d88_16 (by decide) ?_
  refine s_lushr dJ13_bitCount_95d88_17 ?_
  refine s_ldc2 (v := (3689348814741910323 : Int64)) dJ13_bitCount_95d88_18 (lw_in 908 (by decide +kernel) (by decide +kernel)) ?_
  refine s_land dJ13_bitCount_95d88_21 ?_
  refine s_ladd dJ13_bitCount_95d88_22 ?_
  refine s_ltJ (fun v2 => ?_)
  refine s_lstore_0 dJ13_bitCount_95d88_23 ?_
  refine s_lload_n 0 dJ13_bitCount_95d88_24 rfl rfl ?_
  refine s_lload_n 0 dJ13_bitCount_95d88_25 rfl rfl ?_
  refine s_iconst (4 : Int32) dJ13_bitCount_95d88_26 (by decide) ?_
  refine s_lushr dJ13_bitCount_95d88_27 ?_
  refine s_ladd dJ13_bitCount_95d88_28 ?_
  refine s_ldc2 (v := (1085102592571150095 : Int64)) dJ13_bitCount_95d88_29 (lw_in 909 (by decide +kernel) (by decide +kernel)) ?_
  refine s_land dJ13_bitCount_95d88_32 ?_
  refine s_ltJ (fun v3 => ?_)
  refine s_lstore_0 dJ13_bitCount_95d88_33 ?_
  refine s_lload_n 0 dJ13_bitCount_95d88_34 rfl rfl ?_
  refine s_lload_n 0 dJ13_bitCount_95d88_35 rfl rfl ?_
  refine s_bipush (8 : Int32) dJ13_bitCount_95d88_36 (by decide) ?_
  refine s_lushr dJ13_bitCount_95d88_38 ?_
  refine s_ladd dJ13_bitCount_95d88_39 ?_
  refine s_ltJ (fun v4 => ?_)
  refine s_lstore_0 dJ13_bitCount_95d88_40 ?_
  refine s_lload_n 0 dJ13_bitCount_95d88_41 rfl rfl ?_
  refine s_lload_n 0 dJ13_bitCount_95d88_42 rfl rfl ?_
  refine s_bipush (16 : Int32) dJ13_bitCount_95d88_43 (by decide) ?_
  refine s_lushr dJ13_bitCount_95d88_45 ?_
  refine s_ladd dJ13_bitCount_95d88_46 ?_
  refine s_ltJ (fun v5 => ?_)
  refine s_lstore_0 dJ13_bitCount_95d88_47 ?_
  refine s_lload_n 0 dJ13_bitCount_95d88_48 rfl rfl ?_
  refine s_lload_n 0 dJ13_bitCount_95d88_49 rfl rfl ?_
  refine s_bipush (32 : Int32) dJ13_bitCount_95d88_50 (by decide) ?_
  refine s_lushr dJ13_bitCount_95d88_52 ?_
  refine s_ladd dJ13_bitCount_95d88_53 ?_
  refine s_ltJ (fun v6 => ?_)
  refine s_lstore_0 dJ13_bitCount_95d88_54 ?_
  refine s_lload_n 0 dJ13_bitCount_95d88_55 rfl rfl ?_
  refine s_l2i dJ13_bitCount_95d88_56 ?_
  refine s_bipush (127 : Int32) dJ13_bitCount_95d88_57 (by decide) ?_
  refine s_iand dJ13_bitCount_95d88_59 ?_
  exact s_iret dJ13_bitCount_95d88_60
-- X8_fits
def fn_X8_fits (F : Nat) (x0 : Nat) (S : Mem) : Option (Int32 × Mem) :=
  bd (cal S 7 x0 (fn_X8_fittingSets F x0 S)) fun v1 S2 =>
  bd ((fn_J13_bitCount_95d88 F v1 S2)) fun v3 S4 =>
  some (v3, S4)
set_option maxRecDepth 100000 in
theorem con_X8_fits {l : Launch} (F : Nat) (x0 : Nat) (S : Mem) (v : Int32) (S1 : Mem) (h : fn_X8_fits F x0 S = some (v, S1)) : Con l yX8_fits cX8_fits 1 (some .int) 6 142 [.ref x0] S (rI v) S1 := by
  refine con_of (ι := rI) RX8 false [some (.ref x0)] rfl (fun h => by cases h) (by decide) (Nat.le_of_ble_eq_true rfl) ⟨rfl, rfl⟩ (fun Γ hl => ?_) h
  unfold fn_X8_fits
  refine s_aload_n 0 dX8_fits_0 rfl rfl ?_
  refine s_cV0J mk_X8_226 (by decide) rfl (fun v9 S9 h9 => con_X8_fittingSets F _ _ v9 S9 h9) ⟨by omega, by omega⟩ (Nat.le_of_ble_eq_true rfl) dX8_fits_1 (fun v1 S2 => ?_)
  refine s_cS1I mk_X8_230 (fun v9 S9 h9 => con_J13_bitCount_95d88 F _ _ v9 S9 h9) ⟨by omega, by omega⟩ (Nat.le_of_ble_eq_true rfl) dX8_fits_4 (fun v3 S4 => ?_)
  exact s_iret dX8_fits_7
-- X8_fit
def f_X8_fit_41 (F : Nat) (k11 : Int32 → Int64 → Int32 → Int32 → Mem → Option (Int32 × Mem)) (x1 : Int32) (x2 : Int64) (x4 : Int32) (x5 : Int32) (S : Mem) : Option (Int32 × Mem) :=
  k11 x1 x2 x4 (x5 + (1 : Int32)) S
def b_X8_fit_11 (F : Nat) (k11 : Int32 → Int64 → Int32 → Int32 → Mem → Option (Int32 × Mem)) (x1 : Int32) (x2 : Int64) (x4 : Int32) (x5 : Int32) (S : Mem) : Option (Int32 × Mem) :=
  if (64 : Int32) ≤ x5 then
    some ((-1 : Int32), S)
  else
    if (lg_cmp ((x2 >>> ((x5).toInt64 &&& 63)) &&& (1 : Int64)) (0 : Int64)) = 0 then
      f_X8_fit_41 F k11 x1 x2 x4 x5  S
    else
      if x4 = x1 then
        some (x5, S)
      else
        f_X8_fit_41 F k11 x1 x2 (x4 + (1 : Int32)) x5  S
def fn_X8_fit (F : Nat) (x0 : Nat) (x1 : Int32) (S : Mem) : Option (Int32 × Mem) :=
  bd (cal S 7 x0 (fn_X8_fittingSets F x0 S)) fun v1 S2 =>
  fix4 (b_X8_fit_11 F) F x1 v1 (0 : Int32) (0 : Int32) S2
set_option maxRecDepth 100000 in
theorem t_X8_fit_41 {Γ : Cx} {F : Nat} {k11 : Int32 → Int64 → Int32 → Int32 → Mem → Option (Int32 × Mem)} (hk11 : ∀ (x1 : Int32) (x2 : Int64) (x4 : Int32) (x5 : Int32) (S : Mem), Sim cX8_fit RX8 6 142 (some .int) false Γ rI (k11 x1 x2 x4 x5 S) S 11 [none, some (.int x1), some (.long x2), none, some (.int x4), some (.int x5)] []) : ∀ (x1 : Int32) (x2 : Int64) (x4 : Int32) (x5 : Int32) (S : Mem), Sim cX8_fit RX8 6 142 (some .int) false Γ rI (f_X8_fit_41 F k11 x1 x2 x4 x5 S) S 41 [none, some (.int x1), some (.long x2), none, some (.int x4), some (.int x5)] [] := by
  intro x1 x2 x4 x5 S
  unfold f_X8_fit_41
  refine s_iinc_5 (1 : Int32) dX8_fit_41 (by decide) rfl ?_
  refine s_goto 11 dX8_fit_44 (by decide) ?_
  exact s_less (hk11 x1 x2 x4 (x5 + (1 : Int32)) S) (And.intro rfl (And.intro rfl (And.intro rfl (And.intro rfl trivial))))
set_option maxRecDepth 100000 in
theorem t_X8_fit_11 {Γ : Cx} {F : Nat} : ∀ (f : Nat) (x1 : Int32) (x2 : Int64) (x4 : Int32) (x5 : Int32) (S : Mem), Sim cX8_fit RX8 6 142 (some .int) false Γ rI (fix4 (b_X8_fit_11 F) f x1 x2 x4 x5 S) S 11 [none, some (.int x1), some (.long x2), none, some (.int x4), some (.int x5)] [] := by
  refine s_fix4 (fun (x1 : Int32) (x2 : Int64) (x4 : Int32) (x5 : Int32) => [none, some (.int x1), some (.long x2), none, some (.int x4), some (.int x5)]) (fun k11 hk11 => ?_)
  intro x1 x2 x4 x5 S
  unfold b_X8_fit_11
  refine s_iload dX8_fit_11 rfl ?_
  refine s_bipush (64 : Int32) dX8_fit_13 (by decide) ?_
  refine s_icmp_ge 47 dX8_fit_15 (by decide) (fun _ => ?_) (fun _ => ?_)
  · refine s_iconst (-1 : Int32) dX8_fit_47 (by decide) ?_
    exact s_iret dX8_fit_48
  · refine s_lload_n 2 dX8_fit_18 rfl rfl ?_
    refine s_iload dX8_fit_19 rfl ?_
    refine s_lshr dX8_fit_21 ?_
    refine s_lconst (1 : Int64) dX8_fit_22 (by decide) ?_
    refine s_land dX8_fit_23 ?_
    refine s_lconst (0 : Int64) dX8_fit_24 (by decide) ?_
    refine s_lcmp dX8_fit_25 ?_
    refine s_if_eq 41 dX8_fit_26 (by decide) (fun _ => ?_) (fun _ => ?_)
    · exact s_less (t_X8_fit_41 hk11 x1 x2 x4 x5  S) (And.intro rfl (And.intro rfl (And.intro rfl (And.intro rfl trivial))))
    · refine s_iload dX8_fit_29 rfl ?_
      refine s_iload_n 1 dX8_fit_31 rfl rfl ?_
      refine s_icmp_ne 38 dX8_fit_32 (by decide) (fun _ => ?_) (fun _ => ?_)
      · refine s_iinc_4 (1 : Int32) dX8_fit_38 (by decide) rfl ?_
        exact s_less (t_X8_fit_41 hk11 x1 x2 (x4 + (1 : Int32)) x5  S) (And.intro rfl (And.intro rfl (And.intro rfl (And.intro rfl trivial))))
      · refine s_iload dX8_fit_35 rfl ?_
        exact s_iret dX8_fit_37
set_option maxRecDepth 100000 in
theorem con_X8_fit {l : Launch} (F : Nat) (x0 : Nat) (x1 : Int32) (S : Mem) (v : Int32) (S1 : Mem) (h : fn_X8_fit F x0 x1 S = some (v, S1)) : Con l yX8_fit cX8_fit 6 (some .int) 6 142 [.ref x0, .int x1] S (rI v) S1 := by
  refine con_of (ι := rI) RX8 false [some (.ref x0), some (.int x1), none, none, none, none] rfl (fun h => by cases h) (by decide) (Nat.le_of_ble_eq_true rfl) ⟨rfl, rfl⟩ (fun Γ hl => ?_) h
  unfold fn_X8_fit
  refine s_aload_n 0 dX8_fit_0 rfl rfl ?_
  refine s_cV0J mk_X8_226 (by decide) rfl (fun v9 S9 h9 => con_X8_fittingSets F _ _ v9 S9 h9) ⟨by omega, by omega⟩ (Nat.le_of_ble_eq_true rfl) dX8_fit_1 (fun v1 S2 => ?_)
  refine s_lstore_2 dX8_fit_4 rfl ?_
  refine s_iconst (0 : Int32) dX8_fit_5 (by decide) ?_
  refine s_istore_4 dX8_fit_6 rfl ?_
  refine s_iconst (0 : Int32) dX8_fit_8 (by decide) ?_
  refine s_istore_5 dX8_fit_9 rfl ?_
  exact s_less (t_X8_fit_11 F x1 v1 (0 : Int32) (0 : Int32) S2) (And.intro rfl (And.intro rfl (And.intro rfl (And.intro rfl trivial))))
-- X8_gustOf
def f_X8_gustOf_31 (F : Nat) (y0 : Int32) (S : Mem) : Option (Int32 × Mem) :=
  some (y0, S)
def fn_X8_gustOf (F : Nat) (x0 : Nat) (x1 : Int64) (S : Mem) : Option (Int32 × Mem) :=
  (gR S 7 5 x0).bind fun v1 =>
  (gR S 2 0 v1).bind fun v2 =>
  (gI S 5 9 v2).bind fun v3 =>
  lt ((v3 + (1 : Int32))) fun v4 =>
  if (1 : Int32) ≤ v4 then
    lt ((v4).toInt64) fun v5 =>
    nzl v5 (
    f_X8_gustOf_31 F  ((((x1 / (65536 : Int64)) - (x1 / (65536 : Int64)) / v5 * v5)).toInt32) S)
  else
    f_X8_gustOf_31 F  (0 : Int32) S
set_option maxRecDepth 100000 in
theorem t_X8_gustOf_31 {Γ : Cx} {F : Nat} : ∀ (y0 : Int32) (S : Mem), Sim cX8_gustOf RX8 0 0 (some .int) false Γ rI (f_X8_gustOf_31 F y0 S) S 31 [none, none, none, none] [.int y0] := by
  intro y0 S
  unfold f_X8_gustOf_31
  exact s_iret dX8_gustOf_31
set_option maxRecDepth 100000 in
theorem con_X8_gustOf {l : Launch} (F : Nat) (x0 : Nat) (x1 : Int64) (S : Mem) (v : Int32) (S1 : Mem) (h : fn_X8_gustOf F x0 x1 S = some (v, S1)) : Con l yX8_gustOf cX8_gustOf 4 (some .int) 0 0 [.ref x0, .long x1] S (rI v) S1 := by
  refine con_of (ι := rI) RX8 false [some (.ref x0), some (.long x1), none, none] rfl (fun h => by cases h) (by decide) (Nat.le_of_ble_eq_true rfl) ⟨rfl, rfl⟩ (fun Γ hl => ?_) h
  unfold fn_X8_gustOf
  refine s_aload_n 0 dX8_gustOf_0 rfl rfl ?_
  refine s_getR fk_X8_42 rfl dX8_gustOf_1 (fun v1 => ?_)
  refine s_getR fk_X8_72 rfl dX8_gustOf_4 (fun v2 => ?_)
  refine s_getI fk_X8_256 rfl dX8_gustOf_7 (fun v3 => ?_)
  refine s_iconst (1 : Int32) dX8_gustOf_10 (by decide) ?_
  refine s_iadd dX8_gustOf_11 ?_
  refine s_ltI (fun v4 => ?_)
  refine s_istore_3 dX8_gustOf_12 rfl ?_
  refine s_iload_n 3 dX8_gustOf_13 rfl rfl ?_
  refine s_iconst (1 : Int32) dX8_gustOf_14 (by decide) ?_
  refine s_icmp_ge 22 dX8_gustOf_15 (by decide) (fun _ => ?_) (fun _ => ?_)
  · refine s_lload_n 1 dX8_gustOf_22 rfl rfl ?_
    refine s_ldc2 (v := (65536 : Int64)) dX8_gustOf_23 (lw_in 925 (by decide +kernel) (by decide +kernel)) ?_
    refine s_ldivc dX8_gustOf_26 (by decide) ?_
    refine s_iload_n 3 dX8_gustOf_27 rfl rfl ?_
    refine s_i2l dX8_gustOf_28 ?_
    refine s_ltJ (fun v5 => ?_)
    refine s_lrem dX8_gustOf_29 ?_
    refine s_l2i dX8_gustOf_30 ?_
    exact s_less (t_X8_gustOf_31  ((((x1 / (65536 : Int64)) - (x1 / (65536 : Int64)) / v5 * v5)).toInt32) S) trivial
  · refine s_iconst (0 : Int32) dX8_gustOf_18 (by decide) ?_
    refine s_goto 31 dX8_gustOf_19 (by decide) ?_
    exact s_less (t_X8_gustOf_31  (0 : Int32) S) trivial
-- X8_lots
def f_X8_lots_214 (F : Nat) (y0 : Int32) (S : Mem) : Option (Int32 × Mem) :=
  some (y0, S)
def f_X8_lots_162 (F : Nat) (k77 : Nat → Int32 → Int32 → Int32 → Int32 → Int64 → Int32 → Int32 → Int32 → Mem → Option (Int32 × Mem)) (k97 : Nat → Int32 → Int32 → Int32 → Int32 → Int64 → Int32 → Int32 → Int32 → Int32 → Mem → Option (Int32 × Mem)) (x0 : Nat) (x2 : Int32) (x3 : Int32) (x4 : Int32) (x5 : Int32) (x7 : Int64) (x10 : Int32) (x11 : Int32) (x12 : Int32) (y0 : Int32) (y1 : Int32) (S : Mem) : Option (Int32 × Mem) :=
  lt ((y0 + y1)) fun v1 =>
  (gR S 7 3 x0).bind fun v2 =>
  (gI S 0 5 v2).bind fun v3 =>
  lt ((mnI x10 v3)) fun v4 =>
  (gR S 7 6 x0).bind fun v5 =>
  (gR S 7 3 x0).bind fun v6 =>
  bd (cal S 2 v5 (fn_X2_passMinute F v5 v6 S)) fun _ S8 =>
  k97 x0 x2 x3 x4 x5 x7 v1 v4 x11 (x12 + (1 : Int32)) S8
def b_X8_lots_97 (F : Nat) (k77 : Nat → Int32 → Int32 → Int32 → Int32 → Int64 → Int32 → Int32 → Int32 → Mem → Option (Int32 × Mem)) (k97 : Nat → Int32 → Int32 → Int32 → Int32 → Int64 → Int32 → Int32 → Int32 → Int32 → Mem → Option (Int32 × Mem)) (x0 : Nat) (x2 : Int32) (x3 : Int32) (x4 : Int32) (x5 : Int32) (x7 : Int64) (x9 : Int32) (x10 : Int32) (x11 : Int32) (x12 : Int32) (S : Mem) : Option (Int32 × Mem) :=
  if x3 ≤ x12 then
    k77 x0 x2 x3 x4 x5 x7 x9 x10 (x11 + (1 : Int32)) S
  else
    lt ((((x7 * (1103515245 : Int64)) + (12345 : Int64)) - ((x7 * (1103515245 : Int64)) + (12345 : Int64)) / (2147483648 : Int64) * (2147483648 : Int64))) fun v1 =>
    (gR S 7 3 x0).bind fun v2 =>
    (gR S 7 6 x0).bind fun v3 =>
    (gR S 7 6 x0).bind fun v4 =>
    (gI S 2 1 v4).bind fun v5 =>
    bd (cal S 7 x0 (fn_X8_gustOf F x0 v1 S)) fun v6 S7 =>
    bd (cal S7 0 v2 (fn_X0_look F v2 v3 v5 v6 S7)) fun _ S9 =>
    (gR S9 7 3 x0).bind fun v10 =>
    (gI S9 0 5 v10).bind fun v11 =>
    if v11 < x4 then
      f_X8_lots_162 F k77 k97 x0 x2 x3 x4 x5 v1 x10 x11 x12 x9 (0 : Int32) S9
    else
      f_X8_lots_162 F k77 k97 x0 x2 x3 x4 x5 v1 x10 x11 x12 x9 (1 : Int32) S9
def b_X8_lots_77 (F : Nat) (k77 : Nat → Int32 → Int32 → Int32 → Int32 → Int64 → Int32 → Int32 → Int32 → Mem → Option (Int32 × Mem)) (x0 : Nat) (x2 : Int32) (x3 : Int32) (x4 : Int32) (x5 : Int32) (x7 : Int64) (x9 : Int32) (x10 : Int32) (x11 : Int32) (S : Mem) : Option (Int32 × Mem) :=
  if x2 ≤ x11 then
    if x5 = 0 then
      f_X8_lots_214 F  x9 S
    else
      f_X8_lots_214 F  x10 S
  else
    (gR S 7 6 x0).bind fun v1 =>
    (gR S 7 5 x0).bind fun v2 =>
    bd (cal S 2 v1 (fn_X2_take F v1 v2 S)) fun _ S4 =>
    fix10 (b_X8_lots_97 F k77) F x0 x2 x3 x4 x5 x7 x9 x10 x11 (0 : Int32) S4
def f_X8_lots_54 (F : Nat) (x0 : Nat) (x1 : Int32) (x2 : Int32) (x3 : Int32) (x4 : Int32) (x5 : Int32) (y0 : Int32) (S : Mem) : Option (Int32 × Mem) :=
  if y0 = 0 then
    some ((-1 : Int32), S)
  else
    lt ((x1).toInt64) fun v1 =>
    fix9 (b_X8_lots_77 F) F x0 x2 x3 x4 x5 v1 (0 : Int32) (40 : Int32) (0 : Int32) S
def f_X8_lots_53 (F : Nat) (x0 : Nat) (x1 : Int32) (x2 : Int32) (x3 : Int32) (x4 : Int32) (x5 : Int32) (S : Mem) : Option (Int32 × Mem) :=
  f_X8_lots_54 F x0 x1 x2 x3 x4 x5 (0 : Int32) S
def fn_X8_lots (F : Nat) (x0 : Nat) (x1 : Int32) (x2 : Int32) (x3 : Int32) (x4 : Int32) (x5 : Int32) (S : Mem) : Option (Int32 × Mem) :=
  bd ((fn_X8_isWithin F x1 (0 : Int32) (9999 : Int32) S)) fun v1 S2 =>
  if v1 = 0 then
    f_X8_lots_53 F x0 x1 x2 x3 x4 x5  S2
  else
    bd ((fn_X8_isWithin F x2 (1 : Int32) (20 : Int32) S2)) fun v3 S4 =>
    if v3 = 0 then
      f_X8_lots_53 F x0 x1 x2 x3 x4 x5  S4
    else
      bd ((fn_X8_isWithin F x3 (1 : Int32) (60 : Int32) S4)) fun v5 S6 =>
      if v5 = 0 then
        f_X8_lots_53 F x0 x1 x2 x3 x4 x5  S6
      else
        bd ((fn_X8_isHeight F x4 S6)) fun v7 S8 =>
        if v7 = 0 then
          f_X8_lots_53 F x0 x1 x2 x3 x4 x5  S8
        else
          bd ((fn_X8_isWithin F x5 (0 : Int32) (1 : Int32) S8)) fun v9 S10 =>
          if v9 = 0 then
            f_X8_lots_53 F x0 x1 x2 x3 x4 x5  S10
          else
            f_X8_lots_54 F x0 x1 x2 x3 x4 x5 (1 : Int32) S10
set_option maxRecDepth 100000 in
theorem t_X8_lots_214 {Γ : Cx} {F : Nat} : ∀ (y0 : Int32) (S : Mem), Sim cX8_lots RX8 5 118 (some .int) false Γ rI (f_X8_lots_214 F y0 S) S 214 [none, none, none, none, none, none, none, none, none, none, none, none, none] [.int y0] := by
  intro y0 S
  unfold f_X8_lots_214
  exact s_iret dX8_lots_214
set_option maxRecDepth 100000 in
theorem t_X8_lots_162 {Γ : Cx} {F : Nat} {k77 : Nat → Int32 → Int32 → Int32 → Int32 → Int64 → Int32 → Int32 → Int32 → Mem → Option (Int32 × Mem)} (hk77 : ∀ (x0 : Nat) (x2 : Int32) (x3 : Int32) (x4 : Int32) (x5 : Int32) (x7 : Int64) (x9 : Int32) (x10 : Int32) (x11 : Int32) (S : Mem), Sim cX8_lots RX8 5 118 (some .int) false Γ rI (k77 x0 x2 x3 x4 x5 x7 x9 x10 x11 S) S 77 [some (.ref x0), none, some (.int x2), some (.int x3), some (.int x4), some (.int x5), none, some (.long x7), none, some (.int x9), some (.int x10), some (.int x11), none] []) {k97 : Nat → Int32 → Int32 → Int32 → Int32 → Int64 → Int32 → Int32 → Int32 → Int32 → Mem → Option (Int32 × Mem)} (hk97 : ∀ (x0 : Nat) (x2 : Int32) (x3 : Int32) (x4 : Int32) (x5 : Int32) (x7 : Int64) (x9 : Int32) (x10 : Int32) (x11 : Int32) (x12 : Int32) (S : Mem), Sim cX8_lots RX8 5 118 (some .int) false Γ rI (k97 x0 x2 x3 x4 x5 x7 x9 x10 x11 x12 S) S 97 [some (.ref x0), none, some (.int x2), some (.int x3), some (.int x4), some (.int x5), none, some (.long x7), none, some (.int x9), some (.int x10), some (.int x11), some (.int x12)] []) : ∀ (x0 : Nat) (x2 : Int32) (x3 : Int32) (x4 : Int32) (x5 : Int32) (x7 : Int64) (x10 : Int32) (x11 : Int32) (x12 : Int32) (y0 : Int32) (y1 : Int32) (S : Mem), Sim cX8_lots RX8 5 118 (some .int) false Γ rI (f_X8_lots_162 F k77 k97 x0 x2 x3 x4 x5 x7 x10 x11 x12 y0 y1 S) S 162 [some (.ref x0), none, some (.int x2), some (.int x3), some (.int x4), some (.int x5), none, some (.long x7), none, none, some (.int x10), some (.int x11), some (.int x12)] [.int y1, .int y0] := by
  intro x0 x2 x3 x4 x5 x7 x10 x11 x12 y0 y1 S
  unfold f_X8_lots_162
  refine s_iadd dX8_lots_162 ?_
  refine s_ltI (fun v1 => ?_)
  refine s_istore_9 dX8_lots_163 rfl ?_
  refine s_iload dX8_lots_165 rfl ?_
  refine s_aload_n 0 dX8_lots_167 rfl rfl ?_
  refine s_getR fk_X8_28 rfl dX8_lots_168 (fun v2 => ?_)
  refine s_getI fk_X8_129 rfl dX8_lots_171 (fun v3 => ?_)
  refine s_mmin mm_X8_195 mm_min_s mm_i mm_min_c ⟨by omega, by simp [Value.category] <;> omega⟩ dX8_lots_174 ?_
  refine s_ltI (fun v4 => ?_)
  refine s_istore_10 dX8_lots_177 rfl ?_
  refine s_aload_n 0 dX8_lots_179 rfl rfl ?_
  refine s_getR fk_X8_46 rfl dX8_lots_180 (fun v5 => ?_)
  refine s_aload_n 0 dX8_lots_183 rfl rfl ?_
  refine s_getR fk_X8_28 rfl dX8_lots_184 (fun v6 => ?_)
  refine s_cV1V mk_X8_142 (by decide) rfl (fun v9 S9 h9 => con_X2_passMinute F _ _ _ v9 S9 h9) ⟨by omega, by omega⟩ (Nat.le_of_ble_eq_true rfl) dX8_lots_187 (fun _ S8 => ?_)
  refine s_iinc_12 (1 : Int32) dX8_lots_190 (by decide) rfl ?_
  refine s_goto 97 dX8_lots_193 (by decide) ?_
  exact s_less (hk97 x0 x2 x3 x4 x5 x7 v1 v4 x11 (x12 + (1 : Int32)) S8) (And.intro rfl (And.intro rfl (And.intro rfl (And.intro rfl (And.intro rfl (And.intro rfl (And.intro rfl (And.intro rfl (And.intro rfl (And.intro rfl trivial))))))))))
set_option maxRecDepth 100000 in
theorem t_X8_lots_97 {Γ : Cx} {F : Nat} {k77 : Nat → Int32 → Int32 → Int32 → Int32 → Int64 → Int32 → Int32 → Int32 → Mem → Option (Int32 × Mem)} (hk77 : ∀ (x0 : Nat) (x2 : Int32) (x3 : Int32) (x4 : Int32) (x5 : Int32) (x7 : Int64) (x9 : Int32) (x10 : Int32) (x11 : Int32) (S : Mem), Sim cX8_lots RX8 5 118 (some .int) false Γ rI (k77 x0 x2 x3 x4 x5 x7 x9 x10 x11 S) S 77 [some (.ref x0), none, some (.int x2), some (.int x3), some (.int x4), some (.int x5), none, some (.long x7), none, some (.int x9), some (.int x10), some (.int x11), none] []) : ∀ (f : Nat) (x0 : Nat) (x2 : Int32) (x3 : Int32) (x4 : Int32) (x5 : Int32) (x7 : Int64) (x9 : Int32) (x10 : Int32) (x11 : Int32) (x12 : Int32) (S : Mem), Sim cX8_lots RX8 5 118 (some .int) false Γ rI (fix10 (b_X8_lots_97 F k77) f x0 x2 x3 x4 x5 x7 x9 x10 x11 x12 S) S 97 [some (.ref x0), none, some (.int x2), some (.int x3), some (.int x4), some (.int x5), none, some (.long x7), none, some (.int x9), some (.int x10), some (.int x11), some (.int x12)] [] := by
  refine s_fix10 (fun (x0 : Nat) (x2 : Int32) (x3 : Int32) (x4 : Int32) (x5 : Int32) (x7 : Int64) (x9 : Int32) (x10 : Int32) (x11 : Int32) (x12 : Int32) => [some (.ref x0), none, some (.int x2), some (.int x3), some (.int x4), some (.int x5), none, some (.long x7), none, some (.int x9), some (.int x10), some (.int x11), some (.int x12)]) (fun k97 hk97 => ?_)
  intro x0 x2 x3 x4 x5 x7 x9 x10 x11 x12 S
  unfold b_X8_lots_97
  refine s_iload dX8_lots_97 rfl ?_
  refine s_iload_n 3 dX8_lots_99 rfl rfl ?_
  refine s_icmp_ge 196 dX8_lots_100 (by decide) (fun _ => ?_) (fun _ => ?_)
  · refine s_iinc_11 (1 : Int32) dX8_lots_196 (by decide) rfl ?_
    refine s_goto 77 dX8_lots_199 (by decide) ?_
    exact s_less (hk77 x0 x2 x3 x4 x5 x7 x9 x10 (x11 + (1 : Int32)) S) (And.intro rfl (And.intro rfl (And.intro rfl (And.intro rfl (And.intro rfl (And.intro rfl (And.intro rfl (And.intro rfl (And.intro rfl trivial)))))))))
  · refine s_lload dX8_lots_103 rfl ?_
    refine s_ldc2 (v := (1103515245 : Int64)) dX8_lots_105 (lw_in 918 (by decide +kernel) (by decide +kernel)) ?_
    refine s_lmul dX8_lots_108 ?_
    refine s_ldc2 (v := (12345 : Int64)) dX8_lots_109 (lw_in 919 (by decide +kernel) (by decide +kernel)) ?_
    refine s_ladd dX8_lots_112 ?_
    refine s_ldc2 (v := (2147483648 : Int64)) dX8_lots_113 (lw_in 920 (by decide +kernel) (by decide +kernel)) ?_
    refine s_lremc dX8_lots_116 (by decide) ?_
    refine s_ltJ (fun v1 => ?_)
    refine s_lstore_7 dX8_lots_117 rfl ?_
    refine s_aload_n 0 dX8_lots_119 rfl rfl ?_
    refine s_getR fk_X8_28 rfl dX8_lots_120 (fun v2 => ?_)
    refine s_aload_n 0 dX8_lots_123 rfl rfl ?_
    refine s_getR fk_X8_46 rfl dX8_lots_124 (fun v3 => ?_)
    refine s_aload_n 0 dX8_lots_127 rfl rfl ?_
    refine s_getR fk_X8_46 rfl dX8_lots_128 (fun v4 => ?_)
    refine s_getI fk_X8_83 rfl dX8_lots_131 (fun v5 => ?_)
    refine s_aload_n 0 dX8_lots_134 rfl rfl ?_
    refine s_lload dX8_lots_135 rfl ?_
    refine s_cV1I mk_X8_241 (by decide) rfl (fun v9 S9 h9 => con_X8_gustOf F _ _ _ v9 S9 h9) ⟨by omega, by omega⟩ (Nat.le_of_ble_eq_true rfl) dX8_lots_137 (fun v6 S7 => ?_)
    refine s_cV3V mk_X8_123 (by decide) rfl (fun v9 S9 h9 => con_X0_look F _ _ _ _ _ v9 S9 h9) ⟨by omega, by omega⟩ (Nat.le_of_ble_eq_true rfl) dX8_lots_140 (fun _ S9 => ?_)
    refine s_iload dX8_lots_143 rfl ?_
    refine s_aload_n 0 dX8_lots_145 rfl rfl ?_
    refine s_getR fk_X8_28 rfl dX8_lots_146 (fun v10 => ?_)
    refine s_getI fk_X8_129 rfl dX8_lots_149 (fun v11 => ?_)
    refine s_iload dX8_lots_152 rfl ?_
    refine s_icmp_lt 161 dX8_lots_154 (by decide) (fun _ => ?_) (fun _ => ?_)
    · refine s_iconst (0 : Int32) dX8_lots_161 (by decide) ?_
      exact s_less (t_X8_lots_162 hk77 hk97 x0 x2 x3 x4 x5 v1 x10 x11 x12 x9 (0 : Int32) S9) (And.intro rfl (And.intro rfl (And.intro rfl (And.intro rfl (And.intro rfl (And.intro rfl (And.intro rfl (And.intro rfl (And.intro rfl trivial)))))))))
    · refine s_iconst (1 : Int32) dX8_lots_157 (by decide) ?_
      refine s_goto 162 dX8_lots_158 (by decide) ?_
      exact s_less (t_X8_lots_162 hk77 hk97 x0 x2 x3 x4 x5 v1 x10 x11 x12 x9 (1 : Int32) S9) (And.intro rfl (And.intro rfl (And.intro rfl (And.intro rfl (And.intro rfl (And.intro rfl (And.intro rfl (And.intro rfl (And.intro rfl trivial)))))))))
set_option maxRecDepth 100000 in
theorem t_X8_lots_77 {Γ : Cx} {F : Nat} : ∀ (f : Nat) (x0 : Nat) (x2 : Int32) (x3 : Int32) (x4 : Int32) (x5 : Int32) (x7 : Int64) (x9 : Int32) (x10 : Int32) (x11 : Int32) (S : Mem), Sim cX8_lots RX8 5 118 (some .int) false Γ rI (fix9 (b_X8_lots_77 F) f x0 x2 x3 x4 x5 x7 x9 x10 x11 S) S 77 [some (.ref x0), none, some (.int x2), some (.int x3), some (.int x4), some (.int x5), none, some (.long x7), none, some (.int x9), some (.int x10), some (.int x11), none] [] := by
  refine s_fix9 (fun (x0 : Nat) (x2 : Int32) (x3 : Int32) (x4 : Int32) (x5 : Int32) (x7 : Int64) (x9 : Int32) (x10 : Int32) (x11 : Int32) => [some (.ref x0), none, some (.int x2), some (.int x3), some (.int x4), some (.int x5), none, some (.long x7), none, some (.int x9), some (.int x10), some (.int x11), none]) (fun k77 hk77 => ?_)
  intro x0 x2 x3 x4 x5 x7 x9 x10 x11 S
  unfold b_X8_lots_77
  refine s_iload dX8_lots_77 rfl ?_
  refine s_iload_n 2 dX8_lots_79 rfl rfl ?_
  refine s_icmp_ge 202 dX8_lots_80 (by decide) (fun _ => ?_) (fun _ => ?_)
  · refine s_iload dX8_lots_202 rfl ?_
    refine s_if_ne 212 dX8_lots_204 (by decide) (fun _ => ?_) (fun _ => ?_)
    · refine s_iload dX8_lots_212 rfl ?_
      exact s_less (t_X8_lots_214  x10 S) trivial
    · refine s_iload dX8_lots_207 rfl ?_
      refine s_goto 214 dX8_lots_209 (by decide) ?_
      exact s_less (t_X8_lots_214  x9 S) trivial
  · refine s_aload_n 0 dX8_lots_83 rfl rfl ?_
    refine s_getR fk_X8_46 rfl dX8_lots_84 (fun v1 => ?_)
    refine s_aload_n 0 dX8_lots_87 rfl rfl ?_
    refine s_getR fk_X8_42 rfl dX8_lots_88 (fun v2 => ?_)
    refine s_cV1V mk_X8_172 (by decide) rfl (fun v9 S9 h9 => con_X2_take F _ _ _ v9 S9 h9) ⟨by omega, by omega⟩ (Nat.le_of_ble_eq_true rfl) dX8_lots_91 (fun _ S4 => ?_)
    refine s_iconst (0 : Int32) dX8_lots_94 (by decide) ?_
    refine s_istore_12 dX8_lots_95 rfl ?_
    exact s_less (t_X8_lots_97 hk77 F x0 x2 x3 x4 x5 x7 x9 x10 x11 (0 : Int32) S4) (And.intro rfl (And.intro rfl (And.intro rfl (And.intro rfl (And.intro rfl (And.intro rfl (And.intro rfl (And.intro rfl (And.intro rfl (And.intro rfl trivial))))))))))
set_option maxRecDepth 100000 in
theorem t_X8_lots_54 {Γ : Cx} {F : Nat} : ∀ (x0 : Nat) (x1 : Int32) (x2 : Int32) (x3 : Int32) (x4 : Int32) (x5 : Int32) (y0 : Int32) (S : Mem), Sim cX8_lots RX8 5 118 (some .int) false Γ rI (f_X8_lots_54 F x0 x1 x2 x3 x4 x5 y0 S) S 54 [some (.ref x0), some (.int x1), some (.int x2), some (.int x3), some (.int x4), some (.int x5), none, none, none, none, none, none, none] [.int y0] := by
  intro x0 x1 x2 x3 x4 x5 y0 S
  unfold f_X8_lots_54
  refine s_istore_6 dX8_lots_54 rfl ?_
  refine s_iload dX8_lots_56 rfl ?_
  refine s_if_ne 63 dX8_lots_58 (by decide) (fun _ => ?_) (fun _ => ?_)
  · refine s_iload_n 1 dX8_lots_63 rfl rfl ?_
    refine s_i2l dX8_lots_64 ?_
    refine s_ltJ (fun v1 => ?_)
    refine s_lstore_7 dX8_lots_65 rfl ?_
    refine s_iconst (0 : Int32) dX8_lots_67 (by decide) ?_
    refine s_istore_9 dX8_lots_68 rfl ?_
    refine s_bipush (40 : Int32) dX8_lots_70 (by decide) ?_
    refine s_istore_10 dX8_lots_72 rfl ?_
    refine s_iconst (0 : Int32) dX8_lots_74 (by decide) ?_
    refine s_istore_11 dX8_lots_75 rfl ?_
    exact s_less (t_X8_lots_77 F x0 x2 x3 x4 x5 v1 (0 : Int32) (40 : Int32) (0 : Int32) S) (And.intro rfl (And.intro rfl (And.intro rfl (And.intro rfl (And.intro rfl (And.intro rfl (And.intro rfl (And.intro rfl (And.intro rfl trivial)))))))))
  · refine s_iconst (-1 : Int32) dX8_lots_61 (by decide) ?_
    exact s_iret dX8_lots_62
set_option maxRecDepth 100000 in
theorem t_X8_lots_53 {Γ : Cx} {F : Nat} : ∀ (x0 : Nat) (x1 : Int32) (x2 : Int32) (x3 : Int32) (x4 : Int32) (x5 : Int32) (S : Mem), Sim cX8_lots RX8 5 118 (some .int) false Γ rI (f_X8_lots_53 F x0 x1 x2 x3 x4 x5 S) S 53 [some (.ref x0), some (.int x1), some (.int x2), some (.int x3), some (.int x4), some (.int x5), none, none, none, none, none, none, none] [] := by
  intro x0 x1 x2 x3 x4 x5 S
  unfold f_X8_lots_53
  refine s_iconst (0 : Int32) dX8_lots_53 (by decide) ?_
  exact s_less (t_X8_lots_54 x0 x1 x2 x3 x4 x5 (0 : Int32) S) (And.intro rfl (And.intro rfl (And.intro rfl (And.intro rfl (And.intro rfl (And.intro rfl trivial))))))
set_option maxRecDepth 100000 in
theorem con_X8_lots {l : Launch} (F : Nat) (x0 : Nat) (x1 : Int32) (x2 : Int32) (x3 : Int32) (x4 : Int32) (x5 : Int32) (S : Mem) (v : Int32) (S1 : Mem) (h : fn_X8_lots F x0 x1 x2 x3 x4 x5 S = some (v, S1)) : Con l yX8_lots cX8_lots 13 (some .int) 5 118 [.ref x0, .int x1, .int x2, .int x3, .int x4, .int x5] S (rI v) S1 := by
  refine con_of (ι := rI) RX8 false [some (.ref x0), some (.int x1), some (.int x2), some (.int x3), some (.int x4), some (.int x5), none, none, none, none, none, none, none] rfl (fun h => by cases h) (by decide) (Nat.le_of_ble_eq_true rfl) ⟨rfl, rfl⟩ (fun Γ hl => ?_) h
  unfold fn_X8_lots
  refine s_iload_n 1 dX8_lots_0 rfl rfl ?_
  refine s_iconst (0 : Int32) dX8_lots_1 (by decide) ?_
  refine s_sipush (9999 : Int32) dX8_lots_2 (by decide) ?_
  refine s_cS3I mk_X8_112 (fun v9 S9 h9 => con_X8_isWithin F _ _ _ _ v9 S9 h9) ⟨by omega, by omega⟩ (Nat.le_of_ble_eq_true rfl) dX8_lots_5 (fun v1 S2 => ?_)
  refine s_if_eq 53 dX8_lots_8 (by decide) (fun _ => ?_) (fun _ => ?_)
  · exact s_less (t_X8_lots_53 x0 x1 x2 x3 x4 x5  S2) (And.intro rfl (And.intro rfl (And.intro rfl (And.intro rfl (And.intro rfl (And.intro rfl trivial))))))
  · refine s_iload_n 2 dX8_lots_11 rfl rfl ?_
    refine s_iconst (1 : Int32) dX8_lots_12 (by decide) ?_
    refine s_bipush (20 : Int32) dX8_lots_13 (by decide) ?_
    refine s_cS3I mk_X8_112 (fun v9 S9 h9 => con_X8_isWithin F _ _ _ _ v9 S9 h9) ⟨by omega, by omega⟩ (Nat.le_of_ble_eq_true rfl) dX8_lots_15 (fun v3 S4 => ?_)
    refine s_if_eq 53 dX8_lots_18 (by decide) (fun _ => ?_) (fun _ => ?_)
    · exact s_less (t_X8_lots_53 x0 x1 x2 x3 x4 x5  S4) (And.intro rfl (And.intro rfl (And.intro rfl (And.intro rfl (And.intro rfl (And.intro rfl trivial))))))
    · refine s_iload_n 3 dX8_lots_21 rfl rfl ?_
      refine s_iconst (1 : Int32) dX8_lots_22 (by decide) ?_
      refine s_bipush (60 : Int32) dX8_lots_23 (by decide) ?_
      refine s_cS3I mk_X8_112 (fun v9 S9 h9 => con_X8_isWithin F _ _ _ _ v9 S9 h9) ⟨by omega, by omega⟩ (Nat.le_of_ble_eq_true rfl) dX8_lots_25 (fun v5 S6 => ?_)
      refine s_if_eq 53 dX8_lots_28 (by decide) (fun _ => ?_) (fun _ => ?_)
      · exact s_less (t_X8_lots_53 x0 x1 x2 x3 x4 x5  S6) (And.intro rfl (And.intro rfl (And.intro rfl (And.intro rfl (And.intro rfl (And.intro rfl trivial))))))
      · refine s_iload dX8_lots_31 rfl ?_
        refine s_cS1I mk_X8_105 (fun v9 S9 h9 => con_X8_isHeight F _ _ v9 S9 h9) ⟨by omega, by omega⟩ (Nat.le_of_ble_eq_true rfl) dX8_lots_33 (fun v7 S8 => ?_)
        refine s_if_eq 53 dX8_lots_36 (by decide) (fun _ => ?_) (fun _ => ?_)
        · exact s_less (t_X8_lots_53 x0 x1 x2 x3 x4 x5  S8) (And.intro rfl (And.intro rfl (And.intro rfl (And.intro rfl (And.intro rfl (And.intro rfl trivial))))))
        · refine s_iload dX8_lots_39 rfl ?_
          refine s_iconst (0 : Int32) dX8_lots_41 (by decide) ?_
          refine s_iconst (1 : Int32) dX8_lots_42 (by decide) ?_
          refine s_cS3I mk_X8_112 (fun v9 S9 h9 => con_X8_isWithin F _ _ _ _ v9 S9 h9) ⟨by omega, by omega⟩ (Nat.le_of_ble_eq_true rfl) dX8_lots_43 (fun v9 S10 => ?_)
          refine s_if_eq 53 dX8_lots_46 (by decide) (fun _ => ?_) (fun _ => ?_)
          · exact s_less (t_X8_lots_53 x0 x1 x2 x3 x4 x5  S10) (And.intro rfl (And.intro rfl (And.intro rfl (And.intro rfl (And.intro rfl (And.intro rfl trivial))))))
          · refine s_iconst (1 : Int32) dX8_lots_49 (by decide) ?_
            refine s_goto 54 dX8_lots_50 (by decide) ?_
            exact s_less (t_X8_lots_54 x0 x1 x2 x3 x4 x5 (1 : Int32) S10) (And.intro rfl (And.intro rfl (And.intro rfl (And.intro rfl (And.intro rfl (And.intro rfl trivial))))))
-- X8_mark
def fn_X8_mark (F : Nat) (x0 : Nat) (x1 : Int32) (x2 : Int32) (S : Mem) : Option (Int32 × Mem) :=
  bd ((fn_X8_isWithin F x1 (0 : Int32) (3 : Int32) S)) fun v1 S2 =>
  if v1 = 0 then
    rz (0 : Int32) S2
  else
    if x2 = 0 then
      (gR S2 7 7 x0).bind fun v9 =>
      (gAR S2 v9 x1).bind fun v10 =>
      (gR S2 7 5 x0).bind fun v11 =>
      bd (cal S2 2 v10 (fn_X2_take F v10 v11 S2)) fun _ S13 =>
      (gI S13 7 8 x0).bind fun v14 =>
      (sI S13 7 8 x0 (v14 ||| ((1 : Int32) <<< (x1 &&& 31)))).bind fun S15 =>
      rz (1 : Int32) S15
    else
      (gI S2 7 8 x0).bind fun v3 =>
      if ((v3 >>> (x1 &&& 31)) &&& (1 : Int32)) = 0 then
        rz (0 : Int32) S2
      else
        (gR S2 7 5 x0).bind fun v4 =>
        (gR S2 7 7 x0).bind fun v5 =>
        (gAR S2 v5 x1).bind fun v6 =>
        bd (cal S2 2 v4 (fn_X2_take F v4 v6 S2)) fun _ S8 =>
        rz (1 : Int32) S8
set_option maxRecDepth 100000 in
theorem con_X8_mark {l : Launch} (F : Nat) (x0 : Nat) (x1 : Int32) (x2 : Int32) (S : Mem) (v : Int32) (S1 : Mem) (h : fn_X8_mark F x0 x1 x2 S = some (v, S1)) : Con l yX8_mark cX8_mark 3 (some .boolean) 2 81 [.ref x0, .int x1, .int x2] S (rI v) S1 := by
  refine con_of (ι := rI) RX8 false [some (.ref x0), some (.int x1), some (.int x2)] rfl (fun h => by cases h) (by decide) (Nat.le_of_ble_eq_true rfl) ⟨rfl, rfl⟩ (fun Γ hl => ?_) h
  unfold fn_X8_mark
  refine s_iload_n 1 dX8_mark_0 rfl rfl ?_
  refine s_iconst (0 : Int32) dX8_mark_1 (by decide) ?_
  refine s_iconst (3 : Int32) dX8_mark_2 (by decide) ?_
  refine s_cS3I mk_X8_112 (fun v9 S9 h9 => con_X8_isWithin F _ _ _ _ v9 S9 h9) ⟨by omega, by omega⟩ (Nat.le_of_ble_eq_true rfl) dX8_mark_3 (fun v1 S2 => ?_)
  refine s_if_ne 11 dX8_mark_6 (by decide) (fun _ => ?_) (fun _ => ?_)
  · refine s_iload_n 2 dX8_mark_11 rfl rfl ?_
    refine s_if_ne 42 dX8_mark_12 (by decide) (fun _ => ?_) (fun _ => ?_)
    · refine s_aload_n 0 dX8_mark_42 rfl rfl ?_
      refine s_getI fk_X8_244 rfl dX8_mark_43 (fun v3 => ?_)
      refine s_iload_n 1 dX8_mark_46 rfl rfl ?_
      refine s_ishr dX8_mark_47 ?_
      refine s_iconst (1 : Int32) dX8_mark_48 (by decide) ?_
      refine s_iand dX8_mark_49 ?_
      refine s_if_ne 55 dX8_mark_50 (by decide) (fun _ => ?_) (fun _ => ?_)
      · refine s_aload_n 0 dX8_mark_55 rfl rfl ?_
        refine s_getR fk_X8_42 rfl dX8_mark_56 (fun v4 => ?_)
        refine s_aload_n 0 dX8_mark_59 rfl rfl ?_
        refine s_getR fk_X8_49 rfl dX8_mark_60 (fun v5 => ?_)
        refine s_iload_n 1 dX8_mark_63 rfl rfl ?_
        refine s_aald dX8_mark_64 (fun v6 => ?_)
        refine s_cV1V mk_X8_172 (by decide) rfl (fun v9 S9 h9 => con_X2_take F _ _ _ v9 S9 h9) ⟨by omega, by omega⟩ (Nat.le_of_ble_eq_true rfl) dX8_mark_65 (fun _ S8 => ?_)
        refine s_iconst (1 : Int32) dX8_mark_68 (by decide) ?_
        exact s_zret dX8_mark_69
      · refine s_iconst (0 : Int32) dX8_mark_53 (by decide) ?_
        exact s_zret dX8_mark_54
    · refine s_aload_n 0 dX8_mark_15 rfl rfl ?_
      refine s_getR fk_X8_49 rfl dX8_mark_16 (fun v9 => ?_)
      refine s_iload_n 1 dX8_mark_19 rfl rfl ?_
      refine s_aald dX8_mark_20 (fun v10 => ?_)
      refine s_aload_n 0 dX8_mark_21 rfl rfl ?_
      refine s_getR fk_X8_42 rfl dX8_mark_22 (fun v11 => ?_)
      refine s_cV1V mk_X8_172 (by decide) rfl (fun v9 S9 h9 => con_X2_take F _ _ _ v9 S9 h9) ⟨by omega, by omega⟩ (Nat.le_of_ble_eq_true rfl) dX8_mark_25 (fun _ S13 => ?_)
      refine s_aload_n 0 dX8_mark_28 rfl rfl ?_
      refine s_dup dX8_mark_29 rfl ?_
      refine s_getI fk_X8_244 rfl dX8_mark_30 (fun v14 => ?_)
      refine s_iconst (1 : Int32) dX8_mark_33 (by decide) ?_
      refine s_iload_n 1 dX8_mark_34 rfl rfl ?_
      refine s_ishl dX8_mark_35 ?_
      refine s_ior dX8_mark_36 ?_
      refine s_putI fk_X8_244 (Or.inl rfl) rfl dX8_mark_37 (fun S15 => ?_)
      refine s_iconst (1 : Int32) dX8_mark_40 (by decide) ?_
      exact s_zret dX8_mark_41
  · refine s_iconst (0 : Int32) dX8_mark_9 (by decide) ?_
    exact s_zret dX8_mark_10
-- X8_count
def fn_X8_count (F : Nat) (x0 : Nat) (x1 : Int32) (S : Mem) : Option (Int32 × Mem) :=
  if x1 = (0 : Int32) then
    (gR S 7 5 x0).bind fun v1 =>
    (gR S 2 0 v1).bind fun v2 =>
    (gI S 5 0 v2).bind fun v3 =>
    some (v3, S)
  else
    if x1 = (1 : Int32) then
      (gR S 7 5 x0).bind fun v4 =>
      (gI S 2 1 v4).bind fun v5 =>
      some (v5, S)
    else
      if x1 = (2 : Int32) then
        (gR S 7 5 x0).bind fun v6 =>
        (gR S 2 0 v6).bind fun v7 =>
        (gI S 5 6 v7).bind fun v8 =>
        some (v8, S)
      else
        if x1 = (3 : Int32) then
          (gR S 7 5 x0).bind fun v9 =>
          (gR S 2 0 v9).bind fun v10 =>
          (gI S 5 7 v10).bind fun v11 =>
          some (v11, S)
        else
          if x1 = (4 : Int32) then
            (gR S 7 5 x0).bind fun v12 =>
            (gR S 2 0 v12).bind fun v13 =>
            (gI S 5 8 v13).bind fun v14 =>
            some (v14, S)
          else
            if x1 = (5 : Int32) then
              (gR S 7 5 x0).bind fun v15 =>
              (gR S 2 0 v15).bind fun v16 =>
              (gI S 5 9 v16).bind fun v17 =>
              some (v17, S)
            else
              if x1 = (6 : Int32) then
                (gR S 7 5 x0).bind fun v18 =>
                (gI S 2 2 v18).bind fun v19 =>
                bd ((fn_J6_bitCount_0f7a4 F v19 S)) fun v20 S21 =>
                some (v20, S21)
              else
                if x1 = (7 : Int32) then
                  (gR S 7 5 x0).bind fun v22 =>
                  (gI S 2 3 v22).bind fun v23 =>
                  some (v23, S)
                else
                  if x1 = (8 : Int32) then
                    (gI S 7 1 x0).bind fun v24 =>
                    some (v24, S)
                  else
                    some ((-1 : Int32), S)
set_option maxRecDepth 100000 in
theorem con_X8_count {l : Launch} (F : Nat) (x0 : Nat) (x1 : Int32) (S : Mem) (v : Int32) (S1 : Mem) (h : fn_X8_count F x0 x1 S = some (v, S1)) : Con l yX8_count cX8_count 2 (some .int) 1 20 [.ref x0, .int x1] S (rI v) S1 := by
  refine con_of (ι := rI) RX8 false [some (.ref x0), some (.int x1)] rfl (fun h => by cases h) (by decide) (Nat.le_of_ble_eq_true rfl) ⟨rfl, rfl⟩ (fun Γ hl => ?_) h
  unfold fn_X8_count
  refine s_iload_n 1 dX8_count_0 rfl rfl ?_
  refine s_ite _ (fun h0 => ?_) (fun h0 => ?_)
  · subst h0
    refine s_tsIn (off := 51) 52 dX8_count_1 (by decide) (by decide) (by decide) (by decide) ?_
    refine s_aload_n 0 dX8_count_52 rfl rfl ?_
    refine s_getR fk_X8_42 rfl dX8_count_53 (fun v1 => ?_)
    refine s_getR fk_X8_72 rfl dX8_count_56 (fun v2 => ?_)
    refine s_getI fk_X8_150 rfl dX8_count_59 (fun v3 => ?_)
    exact s_iret dX8_count_62
  refine s_ite _ (fun h1 => ?_) (fun h1 => ?_)
  · subst h1
    refine s_tsIn (off := 62) 63 dX8_count_1 (by decide) (by decide) (by decide) (by decide) ?_
    refine s_aload_n 0 dX8_count_63 rfl rfl ?_
    refine s_getR fk_X8_42 rfl dX8_count_64 (fun v4 => ?_)
    refine s_getI fk_X8_83 rfl dX8_count_67 (fun v5 => ?_)
    exact s_iret dX8_count_70
  refine s_ite _ (fun h2 => ?_) (fun h2 => ?_)
  · subst h2
    refine s_tsIn (off := 70) 71 dX8_count_1 (by decide) (by decide) (by decide) (by decide) ?_
    refine s_aload_n 0 dX8_count_71 rfl rfl ?_
    refine s_getR fk_X8_42 rfl dX8_count_72 (fun v6 => ?_)
    refine s_getR fk_X8_72 rfl dX8_count_75 (fun v7 => ?_)
    refine s_getI fk_X8_247 rfl dX8_count_78 (fun v8 => ?_)
    exact s_iret dX8_count_81
  refine s_ite _ (fun h3 => ?_) (fun h3 => ?_)
  · subst h3
    refine s_tsIn (off := 81) 82 dX8_count_1 (by decide) (by decide) (by decide) (by decide) ?_
    refine s_aload_n 0 dX8_count_82 rfl rfl ?_
    refine s_getR fk_X8_42 rfl dX8_count_83 (fun v9 => ?_)
    refine s_getR fk_X8_72 rfl dX8_count_86 (fun v10 => ?_)
    refine s_getI fk_X8_250 rfl dX8_count_89 (fun v11 => ?_)
    exact s_iret dX8_count_92
  refine s_ite _ (fun h4 => ?_) (fun h4 => ?_)
  · subst h4
    refine s_tsIn (off := 92) 93 dX8_count_1 (by decide) (by decide) (by decide) (by decide) ?_
    refine s_aload_n 0 dX8_count_93 rfl rfl ?_
    refine s_getR fk_X8_42 rfl dX8_count_94 (fun v12 => ?_)
    refine s_getR fk_X8_72 rfl dX8_count_97 (fun v13 => ?_)
    refine s_getI fk_X8_253 rfl dX8_count_100 (fun v14 => ?_)
    exact s_iret dX8_count_103
  refine s_ite _ (fun h5 => ?_) (fun h5 => ?_)
  · subst h5
    refine s_tsIn (off := 103) 104 dX8_count_1 (by decide) (by decide) (by decide) (by decide) ?_
    refine s_aload_n 0 dX8_count_104 rfl rfl ?_
    refine s_getR fk_X8_42 rfl dX8_count_105 (fun v15 => ?_)
    refine s_getR fk_X8_72 rfl dX8_count_108 (fun v16 => ?_)
    refine s_getI fk_X8_256 rfl dX8_count_111 (fun v17 => ?_)
    exact s_iret dX8_count_114
  refine s_ite _ (fun h6 => ?_) (fun h6 => ?_)
  · subst h6
    refine s_tsIn (off := 114) 115 dX8_count_1 (by decide) (by decide) (by decide) (by decide) ?_
    refine s_aload_n 0 dX8_count_115 rfl rfl ?_
    refine s_getR fk_X8_42 rfl dX8_count_116 (fun v18 => ?_)
    refine s_getI fk_X8_135 rfl dX8_count_119 (fun v19 => ?_)
    refine s_cS1I mk_X8_187 (fun v9 S9 h9 => con_J6_bitCount_0f7a4 F _ _ v9 S9 h9) ⟨by omega, by omega⟩ (Nat.le_of_ble_eq_true rfl) dX8_count_122 (fun v20 S21 => ?_)
    exact s_iret dX8_count_125
  refine s_ite _ (fun h7 => ?_) (fun h7 => ?_)
  · subst h7
    refine s_tsIn (off := 125) 126 dX8_count_1 (by decide) (by decide) (by decide) (by decide) ?_
    refine s_aload_n 0 dX8_count_126 rfl rfl ?_
    refine s_getR fk_X8_42 rfl dX8_count_127 (fun v22 => ?_)
    refine s_getI fk_X8_214 rfl dX8_count_130 (fun v23 => ?_)
    exact s_iret dX8_count_133
  refine s_ite _ (fun h8 => ?_) (fun h8 => ?_)
  · subst h8
    refine s_tsIn (off := 133) 134 dX8_count_1 (by decide) (by decide) (by decide) (by decide) ?_
    refine s_aload_n 0 dX8_count_134 rfl rfl ?_
    refine s_getI fk_X8_57 rfl dX8_count_135 (fun v24 => ?_)
    exact s_iret dX8_count_138
  have e0 := lv_neT (a := 0) h0 rfl
  have e1 := lv_neT (a := 1) h1 rfl
  have e2 := lv_neT (a := 2) h2 rfl
  have e3 := lv_neT (a := 3) h3 rfl
  have e4 := lv_neT (a := 4) h4 rfl
  have e5 := lv_neT (a := 5) h5 rfl
  have e6 := lv_neT (a := 6) h6 rfl
  have e7 := lv_neT (a := 7) h7 rfl
  have e8 := lv_neT (a := 8) h8 rfl
  refine s_tsOut 139 dX8_count_1 (by omega) (by decide) ?_
  refine s_iconst (-1 : Int32) dX8_count_139 (by decide) ?_
  exact s_iret dX8_count_140
-- X9_plain
def b_X9_plain_58 (F : Nat) (k58 : Nat → Int32 → Int32 → Mem → Option (Unit × Mem)) (x0 : Nat) (x1 : Int32) (x2 : Int32) (S : Mem) : Option (Unit × Mem) :=
  if (2 : Int32) ≤ x2 then
    some ((), S)
  else
    (gR S 8 17 x0).bind fun v1 =>
    (sA S v1 (((2 : Int32) * x1) + x2) ((1000 : Int32) * x1)).bind fun S2 =>
    (gR S2 8 18 x0).bind fun v3 =>
    (sA S2 v3 (((2 : Int32) * x1) + x2) ((1000 : Int32) * x1)).bind fun S4 =>
    k58 x0 x1 (x2 + (1 : Int32)) S4
def fn_X9_plain (F : Nat) (x0 : Nat) (x1 : Int32) (S : Mem) : Option (Unit × Mem) :=
  (gR S 8 10 x0).bind fun v1 =>
  (sA S v1 (((5 : Int32) * x1) + (0 : Int32)) (20 : Int32)).bind fun S2 =>
  (gR S2 8 10 x0).bind fun v3 =>
  (sA S2 v3 (((5 : Int32) * x1) + (1 : Int32)) (2 : Int32)).bind fun S4 =>
  (gR S4 8 10 x0).bind fun v5 =>
  (sA S4 v5 (((5 : Int32) * x1) + (2 : Int32)) (5 : Int32)).bind fun S6 =>
  (gR S6 8 10 x0).bind fun v7 =>
  (sA S6 v7 (((5 : Int32) * x1) + (3 : Int32)) (0 : Int32)).bind fun S8 =>
  (gR S8 8 10 x0).bind fun v9 =>
  (sA S8 v9 (((5 : Int32) * x1) + (4 : Int32)) (0 : Int32)).bind fun S10 =>
  fix3 (b_X9_plain_58 F) F x0 x1 (0 : Int32) S10
set_option maxRecDepth 100000 in
theorem t_X9_plain_58 {Γ : Cx} {F : Nat} : ∀ (f : Nat) (x0 : Nat) (x1 : Int32) (x2 : Int32) (S : Mem), Sim cX9_plain RX9 0 0 none false Γ rV (fix3 (b_X9_plain_58 F) f x0 x1 x2 S) S 58 [some (.ref x0), some (.int x1), some (.int x2)] [] := by
  refine s_fix3 (fun (x0 : Nat) (x1 : Int32) (x2 : Int32) => [some (.ref x0), some (.int x1), some (.int x2)]) (fun k58 hk58 => ?_)
  intro x0 x1 x2 S
  unfold b_X9_plain_58
  refine s_iload_n 2 dX9_plain_58 rfl rfl ?_
  refine s_iconst (2 : Int32) dX9_plain_59 (by decide) ?_
  refine s_icmp_ge 99 dX9_plain_60 (by decide) (fun _ => ?_) (fun _ => ?_)
  · exact s_vret dX9_plain_99
  · refine s_aload_n 0 dX9_plain_63 rfl rfl ?_
    refine s_getR fk_X9_35 rfl dX9_plain_64 (fun v1 => ?_)
    refine s_iconst (2 : Int32) dX9_plain_67 (by decide) ?_
    refine s_iload_n 1 dX9_plain_68 rfl rfl ?_
    refine s_imul dX9_plain_69 ?_
    refine s_iload_n 2 dX9_plain_70 rfl rfl ?_
    refine s_iadd dX9_plain_71 ?_
    refine s_sipush (1000 : Int32) dX9_plain_72 (by decide) ?_
    refine s_iload_n 1 dX9_plain_75 rfl rfl ?_
    refine s_imul dX9_plain_76 ?_
    refine s_iast dX9_plain_77 (fun S2 => ?_)
    refine s_aload_n 0 dX9_plain_78 rfl rfl ?_
    refine s_getR fk_X9_38 rfl dX9_plain_79 (fun v3 => ?_)
    refine s_iconst (2 : Int32) dX9_plain_82 (by decide) ?_
    refine s_iload_n 1 dX9_plain_83 rfl rfl ?_
    refine s_imul dX9_plain_84 ?_
    refine s_iload_n 2 dX9_plain_85 rfl rfl ?_
    refine s_iadd dX9_plain_86 ?_
    refine s_sipush (1000 : Int32) dX9_plain_87 (by decide) ?_
    refine s_iload_n 1 dX9_plain_90 rfl rfl ?_
    refine s_imul dX9_plain_91 ?_
    refine s_iast dX9_plain_92 (fun S4 => ?_)
    refine s_iinc_2 (1 : Int32) dX9_plain_93 (by decide) rfl ?_
    refine s_goto 58 dX9_plain_96 (by decide) ?_
    exact s_less (hk58 x0 x1 (x2 + (1 : Int32)) S4) (And.intro rfl (And.intro rfl (And.intro rfl trivial)))
set_option maxRecDepth 100000 in
theorem con_X9_plain {l : Launch} (F : Nat) (x0 : Nat) (x1 : Int32) (S : Mem) (v : Unit) (S1 : Mem) (h : fn_X9_plain F x0 x1 S = some (v, S1)) : Con l yX9_plain cX9_plain 3 none 0 0 [.ref x0, .int x1] S (rV v) S1 := by
  refine con_of (ι := rV) RX9 false [some (.ref x0), some (.int x1), none] rfl (fun h => by cases h) (by decide) (Nat.le_of_ble_eq_true rfl) ⟨rfl, rfl⟩ (fun Γ hl => ?_) h
  unfold fn_X9_plain
  refine s_aload_n 0 dX9_plain_0 rfl rfl ?_
  refine s_getR fk_X9_13 rfl dX9_plain_1 (fun v1 => ?_)
  refine s_iconst (5 : Int32) dX9_plain_4 (by decide) ?_
  refine s_iload_n 1 dX9_plain_5 rfl rfl ?_
  refine s_imul dX9_plain_6 ?_
  refine s_iconst (0 : Int32) dX9_plain_7 (by decide) ?_
  refine s_iadd dX9_plain_8 ?_
  refine s_bipush (20 : Int32) dX9_plain_9 (by decide) ?_
  refine s_iast dX9_plain_11 (fun S2 => ?_)
  refine s_aload_n 0 dX9_plain_12 rfl rfl ?_
  refine s_getR fk_X9_13 rfl dX9_plain_13 (fun v3 => ?_)
  refine s_iconst (5 : Int32) dX9_plain_16 (by decide) ?_
  refine s_iload_n 1 dX9_plain_17 rfl rfl ?_
  refine s_imul dX9_plain_18 ?_
  refine s_iconst (1 : Int32) dX9_plain_19 (by decide) ?_
  refine s_iadd dX9_plain_20 ?_
  refine s_iconst (2 : Int32) dX9_plain_21 (by decide) ?_
  refine s_iast dX9_plain_22 (fun S4 => ?_)
  refine s_aload_n 0 dX9_plain_23 rfl rfl ?_
  refine s_getR fk_X9_13 rfl dX9_plain_24 (fun v5 => ?_)
  refine s_iconst (5 : Int32) dX9_plain_27 (by decide) ?_
  refine s_iload_n 1 dX9_plain_28 rfl rfl ?_
  refine s_imul dX9_plain_29 ?_
  refine s_iconst (2 : Int32) dX9_plain_30 (by decide) ?_
  refine s_iadd dX9_plain_31 ?_
  refine s_iconst (5 : Int32) dX9_plain_32 (by decide) ?_
  refine s_iast dX9_plain_33 (fun S6 => ?_)
  refine s_aload_n 0 dX9_plain_34 rfl rfl ?_
  refine s_getR fk_X9_13 rfl dX9_plain_35 (fun v7 => ?_)
  refine s_iconst (5 : Int32) dX9_plain_38 (by decide) ?_
  refine s_iload_n 1 dX9_plain_39 rfl rfl ?_
  refine s_imul dX9_plain_40 ?_
  refine s_iconst (3 : Int32) dX9_plain_41 (by decide) ?_
  refine s_iadd dX9_plain_42 ?_
  refine s_iconst (0 : Int32) dX9_plain_43 (by decide) ?_
  refine s_iast dX9_plain_44 (fun S8 => ?_)
  refine s_aload_n 0 dX9_plain_45 rfl rfl ?_
  refine s_getR fk_X9_13 rfl dX9_plain_46 (fun v9 => ?_)
  refine s_iconst (5 : Int32) dX9_plain_49 (by decide) ?_
  refine s_iload_n 1 dX9_plain_50 rfl rfl ?_
  refine s_imul dX9_plain_51 ?_
  refine s_iconst (4 : Int32) dX9_plain_52 (by decide) ?_
  refine s_iadd dX9_plain_53 ?_
  refine s_iconst (0 : Int32) dX9_plain_54 (by decide) ?_
  refine s_iast dX9_plain_55 (fun S10 => ?_)
  refine s_iconst (0 : Int32) dX9_plain_56 (by decide) ?_
  refine s_istore_2 dX9_plain_57 rfl ?_
  exact s_less (t_X9_plain_58 F x0 x1 (0 : Int32) S10) (And.intro rfl (And.intro rfl (And.intro rfl trivial)))
-- X9_init
def fn_X9_init (F : Nat) (x0 : Nat) (S : Mem) : Option (Unit × Mem) :=
  bd (nA S 10 (1000 : Int32)) fun v1 S2 =>
  (sR S2 8 2 x0 v1).bind fun S3 =>
  bd (nA S3 10 (30 : Int32)) fun v4 S5 =>
  (sR S5 8 10 x0 v4).bind fun S6 =>
  bd (nA S6 10 (36 : Int32)) fun v7 S8 =>
  (sR S8 8 11 x0 v7).bind fun S9 =>
  bd (nA S9 10 (36 : Int32)) fun v10 S11 =>
  (sR S11 8 12 x0 v10).bind fun S12 =>
  bd (nA S12 10 (36 : Int32)) fun v13 S14 =>
  (sR S14 8 13 x0 v13).bind fun S15 =>
  bd (nA S15 10 (36 : Int32)) fun v16 S17 =>
  (sR S17 8 14 x0 v16).bind fun S18 =>
  bd (nA S18 10 (36 : Int32)) fun v19 S20 =>
  (sR S20 8 15 x0 v19).bind fun S21 =>
  bd (nA S21 11 (6 : Int32)) fun v22 S23 =>
  (sR S23 8 16 x0 v22).bind fun S24 =>
  bd (nA S24 10 (12 : Int32)) fun v25 S26 =>
  (sR S26 8 17 x0 v25).bind fun S27 =>
  bd (nA S27 10 (12 : Int32)) fun v28 S29 =>
  (sR S29 8 18 x0 v28).bind fun S30 =>
  bd (nA S30 10 (6000 : Int32)) fun v31 S32 =>
  (sR S32 8 19 x0 v31).bind fun S33 =>
  bd (nA S33 10 (7 : Int32)) fun v34 S35 =>
  (sR S35 8 23 x0 v34).bind fun S36 =>
  bd (nA S36 12 (7 : Int32)) fun v37 S38 =>
  (sR S38 8 24 x0 v37).bind fun S39 =>
  bd (nA S39 10 (7 : Int32)) fun v40 S41 =>
  (sR S41 8 25 x0 v40).bind fun S42 =>
  bd (nA S42 10 (7 : Int32)) fun v43 S44 =>
  (sR S44 8 26 x0 v43).bind fun S45 =>
  bd (nA S45 10 (7 : Int32)) fun v46 S47 =>
  (sR S47 8 27 x0 v46).bind fun S48 =>
  bd (nA S48 10 (7 : Int32)) fun v49 S50 =>
  (sR S50 8 28 x0 v49).bind fun S51 =>
  bd (nA S51 10 (7 : Int32)) fun v52 S53 =>
  (sR S53 8 29 x0 v52).bind fun S54 =>
  bd (nA S54 10 (7 : Int32)) fun v55 S56 =>
  (sR S56 8 30 x0 v55).bind fun S57 =>
  bd (nA S57 10 (7 : Int32)) fun v58 S59 =>
  (sR S59 8 31 x0 v58).bind fun S60 =>
  bd (nA S60 10 (7 : Int32)) fun v61 S62 =>
  (sR S62 8 32 x0 v61).bind fun S63 =>
  bd (nA S63 10 (7 : Int32)) fun v64 S65 =>
  (sR S65 8 33 x0 v64).bind fun S66 =>
  bd (nA S66 10 (20 : Int32)) fun v67 S68 =>
  (sR S68 8 34 x0 v67).bind fun S69 =>
  bd (nA S69 10 (64 : Int32)) fun v70 S71 =>
  (sR S71 8 36 x0 v70).bind fun S72 =>
  bd (nA S72 10 (64 : Int32)) fun v73 S74 =>
  (sR S74 8 37 x0 v73).bind fun S75 =>
  bd (nA S75 10 (256 : Int32)) fun v76 S77 =>
  (sR S77 8 38 x0 v76).bind fun S78 =>
  bd (nA S78 10 (41 : Int32)) fun v79 S80 =>
  (sR S80 8 39 x0 v79).bind fun S81 =>
  bd (nA S81 10 (6 : Int32)) fun v82 S83 =>
  (sR S83 8 40 x0 v82).bind fun S84 =>
  bd (nA S84 10 (6 : Int32)) fun v85 S86 =>
  (sR S86 8 44 x0 v85).bind fun S87 =>
  bd (nA S87 10 (6 : Int32)) fun v88 S89 =>
  (sR S89 8 49 x0 v88).bind fun S90 =>
  bd (nA S90 12 (4 : Int32)) fun v91 S92 =>
  (sR S92 8 51 x0 v91).bind fun S93 =>
  bd (cal S93 8 x0 (fn_X9_plain F x0 (0 : Int32) S93)) fun _ S95 =>
  some ((), S95)
set_option maxRecDepth 100000 in
theorem con_X9_init {l : Launch} (F : Nat) (x0 : Nat) (S : Mem) (v : Unit) (S1 : Mem) (h : fn_X9_init F x0 S = some (v, S1)) : Con l yX9_init cX9_init 1 none 1 28 [.ref x0] S (rV v) S1 := by
  refine con_of (ι := rV) RX9 true [some (.ref x0)] rfl (fun _ => rfl) (by decide) (Nat.le_of_ble_eq_true rfl) ⟨rfl, rfl⟩ (fun Γ hl => ?_) h
  unfold fn_X9_init
  refine s_aload_n 0 dX9_init_0 rfl rfl ?_
  refine s_objInit (lw_in 1012 (by decide +kernel) (by decide +kernel)) (lw_in 108 (by decide +kernel) (by decide +kernel)) (lw_in 109 (by decide +kernel) (by decide +kernel)) ⟨by omega, by show _ + 12 ≤ _; simp [Value.category] <;> omega⟩ dX9_init_1 ?_
  refine s_aload_n 0 dX9_init_4 rfl rfl ?_
  refine s_sipush (1000 : Int32) dX9_init_5 (by decide) ?_
  refine s_newa10 (lw_in 185 (by decide +kernel) (by decide +kernel)) dX9_init_8 (fun v1 S2 => ?_)
  refine s_putR fk_X9_7 (Or.inr ⟨rfl, rfl, rfl⟩) rfl dX9_init_10 (fun S3 => ?_)
  refine s_aload_n 0 dX9_init_13 rfl rfl ?_
  refine s_bipush (30 : Int32) dX9_init_14 (by decide) ?_
  refine s_newa10 (lw_in 185 (by decide +kernel) (by decide +kernel)) dX9_init_16 (fun v4 S5 => ?_)
  refine s_putR fk_X9_13 (Or.inr ⟨rfl, rfl, rfl⟩) rfl dX9_init_18 (fun S6 => ?_)
  refine s_aload_n 0 dX9_init_21 rfl rfl ?_
  refine s_bipush (36 : Int32) dX9_init_22 (by decide) ?_
  refine s_newa10 (lw_in 185 (by decide +kernel) (by decide +kernel)) dX9_init_24 (fun v7 S8 => ?_)
  refine s_putR fk_X9_16 (Or.inr ⟨rfl, rfl, rfl⟩) rfl dX9_init_26 (fun S9 => ?_)
  refine s_aload_n 0 dX9_init_29 rfl rfl ?_
  refine s_bipush (36 : Int32) dX9_init_30 (by decide) ?_
  refine s_newa10 (lw_in 185 (by decide +kernel) (by decide +kernel)) dX9_init_32 (fun v10 S11 => ?_)
  refine s_putR fk_X9_19 (Or.inr ⟨rfl, rfl, rfl⟩) rfl dX9_init_34 (fun S12 => ?_)
  refine s_aload_n 0 dX9_init_37 rfl rfl ?_
  refine s_bipush (36 : Int32) dX9_init_38 (by decide) ?_
  refine s_newa10 (lw_in 185 (by decide +kernel) (by decide +kernel)) dX9_init_40 (fun v13 S14 => ?_)
  refine s_putR fk_X9_22 (Or.inr ⟨rfl, rfl, rfl⟩) rfl dX9_init_42 (fun S15 => ?_)
  refine s_aload_n 0 dX9_init_45 rfl rfl ?_
  refine s_bipush (36 : Int32) dX9_init_46 (by decide) ?_
  refine s_newa10 (lw_in 185 (by decide +kernel) (by decide +kernel)) dX9_init_48 (fun v16 S17 => ?_)
  refine s_putR fk_X9_25 (Or.inr ⟨rfl, rfl, rfl⟩) rfl dX9_init_50 (fun S18 => ?_)
  refine s_aload_n 0 dX9_init_53 rfl rfl ?_
  refine s_bipush (36 : Int32) dX9_init_54 (by decide) ?_
  refine s_newa10 (lw_in 185 (by decide +kernel) (by decide +kernel)) dX9_init_56 (fun v19 S20 => ?_)
  refine s_putR fk_X9_28 (Or.inr ⟨rfl, rfl, rfl⟩) rfl dX9_init_58 (fun S21 => ?_)
  refine s_aload_n 0 dX9_init_61 rfl rfl ?_
  refine s_bipush (6 : Int32) dX9_init_62 (by decide) ?_
  refine s_newa11 (lw_in 280 (by decide +kernel) (by decide +kernel)) dX9_init_64 (fun v22 S23 => ?_)
  refine s_putR fk_X9_31 (Or.inr ⟨rfl, rfl, rfl⟩) rfl dX9_init_66 (fun S24 => ?_)
  refine s_aload_n 0 dX9_init_69 rfl rfl ?_
  refine s_bipush (12 : Int32) dX9_init_70 (by decide) ?_
  refine s_newa10 (lw_in 185 (by decide +kernel) (by decide +kernel)) dX9_init_72 (fun v25 S26 => ?_)
  refine s_putR fk_X9_35 (Or.inr ⟨rfl, rfl, rfl⟩) rfl dX9_init_74 (fun S27 => ?_)
  refine s_aload_n 0 dX9_init_77 rfl rfl ?_
  refine s_bipush (12 : Int32) dX9_init_78 (by decide) ?_
  refine s_newa10 (lw_in 185 (by decide +kernel) (by decide +kernel)) dX9_init_80 (fun v28 S29 => ?_)
  refine s_putR fk_X9_38 (Or.inr ⟨rfl, rfl, rfl⟩) rfl dX9_init_82 (fun S30 => ?_)
  refine s_aload_n 0 dX9_init_85 rfl rfl ?_
  refine s_sipush (6000 : Int32) dX9_init_86 (by decide) ?_
  refine s_newa10 (lw_in 185 (by decide +kernel) (by decide +kernel)) dX9_init_89 (fun v31 S32 => ?_)
  refine s_putR fk_X9_41 (Or.inr ⟨rfl, rfl, rfl⟩) rfl dX9_init_91 (fun S33 => ?_)
  refine s_aload_n 0 dX9_init_94 rfl rfl ?_
  refine s_bipush (7 : Int32) dX9_init_95 (by decide) ?_
  refine s_newa10 (lw_in 185 (by decide +kernel) (by decide +kernel)) dX9_init_97 (fun v34 S35 => ?_)
  refine s_putR fk_X9_44 (Or.inr ⟨rfl, rfl, rfl⟩) rfl dX9_init_99 (fun S36 => ?_)
  refine s_aload_n 0 dX9_init_102 rfl rfl ?_
  refine s_bipush (7 : Int32) dX9_init_103 (by decide) ?_
  refine s_newa12 (lw_in 1174 (by decide +kernel) (by decide +kernel)) dX9_init_105 (fun v37 S38 => ?_)
  refine s_putR fk_X9_47 (Or.inr ⟨rfl, rfl, rfl⟩) rfl dX9_init_107 (fun S39 => ?_)
  refine s_aload_n 0 dX9_init_110 rfl rfl ?_
  refine s_bipush (7 : Int32) dX9_init_111 (by decide) ?_
  refine s_newa10 (lw_in 185 (by decide +kernel) (by decide +kernel)) dX9_init_113 (fun v40 S41 => ?_)
  refine s_putR fk_X9_51 (Or.inr ⟨rfl, rfl, rfl⟩) rfl dX9_init_115 (fun S42 => ?_)
  refine s_aload_n 0 dX9_init_118 rfl rfl ?_
  refine s_bipush (7 : Int32) dX9_init_119 (by decide) ?_
  refine s_newa10 (lw_in 185 (by decide +kernel) (by decide +kernel)) dX9_init_121 (fun v43 S44 => ?_)
  refine s_putR fk_X9_54 (Or.inr ⟨rfl, rfl, rfl⟩) rfl dX9_init_123 (fun S45 => ?_)
  refine s_aload_n 0 dX9_init_126 rfl rfl ?_
  refine s_bipush (7 : Int32) dX9_init_127 (by decide) ?_
  refine s_newa10 (lw_in 185 (by decide +kernel) (by decide +kernel)) dX9_init_129 (fun v46 S47 => ?_)
  refine s_putR fk_X9_57 (Or.inr ⟨rfl, rfl, rfl⟩) rfl dX9_init_131 (fun S48 => ?_)
  refine s_aload_n 0 dX9_init_134 rfl rfl ?_
  refine s_bipush (7 : Int32) dX9_init_135 (by decide) ?_
  refine s_newa10 (lw_in 185 (by decide +kernel) (by decide +kernel)) dX9_init_137 (fun v49 S50 => ?_)
  refine s_putR fk_X9_60 (Or.inr ⟨rfl, rfl, rfl⟩) rfl dX9_init_139 (fun S51 => ?_)
  refine s_aload_n 0 dX9_init_142 rfl rfl ?_
  refine s_bipush (7 : Int32) dX9_init_143 (by decide) ?_
  refine s_newa10 (lw_in 185 (by decide +kernel) (by decide +kernel)) dX9_init_145 (fun v52 S53 => ?_)
  refine s_putR fk_X9_63 (Or.inr ⟨rfl, rfl, rfl⟩) rfl dX9_init_147 (fun S54 => ?_)
  refine s_aload_n 0 dX9_init_150 rfl rfl ?_
  refine s_bipush (7 : Int32) dX9_init_151 (by decide) ?_
  refine s_newa10 (lw_in 185 (by decide +kernel) (by decide +kernel)) dX9_init_153 (fun v55 S56 => ?_)
  refine s_putR fk_X9_66 (Or.inr ⟨rfl, rfl, rfl⟩) rfl dX9_init_155 (fun S57 => ?_)
  refine s_aload_n 0 dX9_init_158 rfl rfl ?_
  refine s_bipush (7 : Int32) dX9_init_159 (by decide) ?_
  refine s_newa10 (lw_in 185 (by decide +kernel) (by decide +kernel)) dX9_init_161 (fun v58 S59 => ?_)
  refine s_putR fk_X9_69 (Or.inr ⟨rfl, rfl, rfl⟩) rfl dX9_init_163 (fun S60 => ?_)
  refine s_aload_n 0 dX9_init_166 rfl rfl ?_
  refine s_bipush (7 : Int32) dX9_init_167 (by decide) ?_
  refine s_newa10 (lw_in 185 (by decide +kernel) (by decide +kernel)) dX9_init_169 (fun v61 S62 => ?_)
  refine s_putR fk_X9_72 (Or.inr ⟨rfl, rfl, rfl⟩) rfl dX9_init_171 (fun S63 => ?_)
  refine s_aload_n 0 dX9_init_174 rfl rfl ?_
  refine s_bipush (7 : Int32) dX9_init_175 (by decide) ?_
  refine s_newa10 (lw_in 185 (by decide +kernel) (by decide +kernel)) dX9_init_177 (fun v64 S65 => ?_)
  refine s_putR fk_X9_75 (Or.inr ⟨rfl, rfl, rfl⟩) rfl dX9_init_179 (fun S66 => ?_)
  refine s_aload_n 0 dX9_init_182 rfl rfl ?_
  refine s_bipush (20 : Int32) dX9_init_183 (by decide) ?_
  refine s_newa10 (lw_in 185 (by decide +kernel) (by decide +kernel)) dX9_init_185 (fun v67 S68 => ?_)
  refine s_putR fk_X9_78 (Or.inr ⟨rfl, rfl, rfl⟩) rfl dX9_init_187 (fun S69 => ?_)
  refine s_aload_n 0 dX9_init_190 rfl rfl ?_
  refine s_bipush (64 : Int32) dX9_init_191 (by decide) ?_
  refine s_newa10 (lw_in 185 (by decide +kernel) (by decide +kernel)) dX9_init_193 (fun v70 S71 => ?_)
  refine s_putR fk_X9_81 (Or.inr ⟨rfl, rfl, rfl⟩) rfl dX9_init_195 (fun S72 => ?_)
  refine s_aload_n 0 dX9_init_198 rfl rfl ?_
  refine s_bipush (64 : Int32) dX9_init_199 (by decide) ?_
  refine s_newa10 (lw_in 185 (by decide +kernel) (by decide +kernel)) dX9_init_201 (fun v73 S74 => ?_)
  refine s_putR fk_X9_84 (Or.inr ⟨rfl, rfl, rfl⟩) rfl dX9_init_203 (fun S75 => ?_)
  refine s_aload_n 0 dX9_init_206 rfl rfl ?_
  refine s_sipush (256 : Int32) dX9_init_207 (by decide) ?_
  refine s_newa10 (lw_in 185 (by decide +kernel) (by decide +kernel)) dX9_init_210 (fun v76 S77 => ?_)
  refine s_putR fk_X9_87 (Or.inr ⟨rfl, rfl, rfl⟩) rfl dX9_init_212 (fun S78 => ?_)
  refine s_aload_n 0 dX9_init_215 rfl rfl ?_
  refine s_bipush (41 : Int32) dX9_init_216 (by decide) ?_
  refine s_newa10 (lw_in 185 (by decide +kernel) (by decide +kernel)) dX9_init_218 (fun v79 S80 => ?_)
  refine s_putR fk_X9_90 (Or.inr ⟨rfl, rfl, rfl⟩) rfl dX9_init_220 (fun S81 => ?_)
  refine s_aload_n 0 dX9_init_223 rfl rfl ?_
  refine s_bipush (6 : Int32) dX9_init_224 (by decide) ?_
  refine s_newa10 (lw_in 185 (by decide +kernel) (by decide +kernel)) dX9_init_226 (fun v82 S83 => ?_)
  refine s_putR fk_X9_93 (Or.inr ⟨rfl, rfl, rfl⟩) rfl dX9_init_228 (fun S84 => ?_)
  refine s_aload_n 0 dX9_init_231 rfl rfl ?_
  refine s_bipush (6 : Int32) dX9_init_232 (by decide) ?_
  refine s_newa10 (lw_in 185 (by decide +kernel) (by decide +kernel)) dX9_init_234 (fun v85 S86 => ?_)
  refine s_putR fk_X9_96 (Or.inr ⟨rfl, rfl, rfl⟩) rfl dX9_init_236 (fun S87 => ?_)
  refine s_aload_n 0 dX9_init_239 rfl rfl ?_
  refine s_bipush (6 : Int32) dX9_init_240 (by decide) ?_
  refine s_newa10 (lw_in 185 (by decide +kernel) (by decide +kernel)) dX9_init_242 (fun v88 S89 => ?_)
  refine s_putR fk_X9_99 (Or.inr ⟨rfl, rfl, rfl⟩) rfl dX9_init_244 (fun S90 => ?_)
  refine s_aload_n 0 dX9_init_247 rfl rfl ?_
  refine s_iconst (4 : Int32) dX9_init_248 (by decide) ?_
  refine s_newa12 (lw_in 1174 (by decide +kernel) (by decide +kernel)) dX9_init_249 (fun v91 S92 => ?_)
  refine s_putR fk_X9_102 (Or.inr ⟨rfl, rfl, rfl⟩) rfl dX9_init_251 (fun S93 => ?_)
  refine s_aload_n 0 dX9_init_254 rfl rfl ?_
  refine s_iconst (0 : Int32) dX9_init_255 (by decide) ?_
  refine s_cV1V mk_X9_105 (by decide) rfl (fun v9 S9 h9 => con_X9_plain F _ _ _ v9 S9 h9) ⟨by omega, by omega⟩ (Nat.le_of_ble_eq_true rfl) dX9_init_256 (fun _ S95 => ?_)
  exact s_vret dX9_init_259
-- X9_thrown
def fn_X9_thrown (F : Nat) (x0 : Nat) (S : Mem) : Option (Int32 × Mem) :=
  (gI S 8 0 x0).bind fun v1 =>
  some (v1, S)
set_option maxRecDepth 100000 in
theorem con_X9_thrown {l : Launch} (F : Nat) (x0 : Nat) (S : Mem) (v : Int32) (S1 : Mem) (h : fn_X9_thrown F x0 S = some (v, S1)) : Con l yX9_thrown cX9_thrown 1 (some .int) 0 0 [.ref x0] S (rI v) S1 := by
  refine con_of (ι := rI) RX9 false [some (.ref x0)] rfl (fun h => by cases h) (by decide) (Nat.le_of_ble_eq_true rfl) ⟨rfl, rfl⟩ (fun Γ hl => ?_) h
  unfold fn_X9_thrown
  refine s_aload_n 0 dX9_thrown_0 rfl rfl ?_
  refine s_getI fk_X9_109 rfl dX9_thrown_1 (fun v1 => ?_)
  exact s_iret dX9_thrown_4
-- X9_within
def f_X9_within_15 (F : Nat) (y0 : Int32) (S : Mem) : Option (Int32 × Mem) :=
  rz y0 S
def f_X9_within_14 (F : Nat)  (S : Mem) : Option (Int32 × Mem) :=
  f_X9_within_15 F  (0 : Int32) S
def fn_X9_within (F : Nat) (x0 : Int32) (x1 : Int32) (x2 : Int32) (S : Mem) : Option (Int32 × Mem) :=
  if x0 < x1 then
    f_X9_within_14 F   S
  else
    if x2 < x0 then
      f_X9_within_14 F   S
    else
      f_X9_within_15 F  (1 : Int32) S
set_option maxRecDepth 100000 in
theorem t_X9_within_15 {Γ : Cx} {F : Nat} : ∀ (y0 : Int32) (S : Mem), Sim cX9_within RX9 0 0 (some .boolean) false Γ rI (f_X9_within_15 F y0 S) S 15 [none, none, none] [.int y0] := by
  intro y0 S
  unfold f_X9_within_15
  exact s_zret dX9_within_15
set_option maxRecDepth 100000 in
theorem t_X9_within_14 {Γ : Cx} {F : Nat} : ∀ (S : Mem), Sim cX9_within RX9 0 0 (some .boolean) false Γ rI (f_X9_within_14 F  S) S 14 [none, none, none] [] := by
  intro  S
  unfold f_X9_within_14
  refine s_iconst (0 : Int32) dX9_within_14 (by decide) ?_
  exact s_less (t_X9_within_15  (0 : Int32) S) trivial
set_option maxRecDepth 100000 in
theorem con_X9_within {l : Launch} (F : Nat) (x0 : Int32) (x1 : Int32) (x2 : Int32) (S : Mem) (v : Int32) (S1 : Mem) (h : fn_X9_within F x0 x1 x2 S = some (v, S1)) : Con l yX9_within cX9_within 3 (some .boolean) 0 0 [.int x0, .int x1, .int x2] S (rI v) S1 := by
  refine con_of (ι := rI) RX9 false [some (.int x0), some (.int x1), some (.int x2)] rfl (fun h => by cases h) (by decide) (Nat.le_of_ble_eq_true rfl) ⟨rfl, rfl⟩ (fun Γ hl => ?_) h
  unfold fn_X9_within
  refine s_iload_n 0 dX9_within_0 rfl rfl ?_
  refine s_iload_n 1 dX9_within_1 rfl rfl ?_
  refine s_icmp_lt 14 dX9_within_2 (by decide) (fun _ => ?_) (fun _ => ?_)
  · exact s_less (t_X9_within_14   S) trivial
  · refine s_iload_n 0 dX9_within_5 rfl rfl ?_
    refine s_iload_n 2 dX9_within_6 rfl rfl ?_
    refine s_icmp_gt 14 dX9_within_7 (by decide) (fun _ => ?_) (fun _ => ?_)
    · exact s_less (t_X9_within_14   S) trivial
    · refine s_iconst (1 : Int32) dX9_within_10 (by decide) ?_
      refine s_goto 15 dX9_within_11 (by decide) ?_
      exact s_less (t_X9_within_15  (1 : Int32) S) trivial
-- X9_between
def f_X9_between_19 (F : Nat) (y0 : Int32) (S : Mem) : Option (Int32 × Mem) :=
  some (y0, S)
def fn_X9_between (F : Nat) (x0 : Int32) (x1 : Int32) (x2 : Int32) (S : Mem) : Option (Int32 × Mem) :=
  if x1 ≤ x0 then
    if x0 ≤ x2 then
      f_X9_between_19 F  x0 S
    else
      f_X9_between_19 F  x2 S
  else
    f_X9_between_19 F  x1 S
set_option maxRecDepth 100000 in
theorem t_X9_between_19 {Γ : Cx} {F : Nat} : ∀ (y0 : Int32) (S : Mem), Sim cX9_between RX9 0 0 (some .int) false Γ rI (f_X9_between_19 F y0 S) S 19 [none, none, none] [.int y0] := by
  intro y0 S
  unfold f_X9_between_19
  exact s_iret dX9_between_19
set_option maxRecDepth 100000 in
theorem con_X9_between {l : Launch} (F : Nat) (x0 : Int32) (x1 : Int32) (x2 : Int32) (S : Mem) (v : Int32) (S1 : Mem) (h : fn_X9_between F x0 x1 x2 S = some (v, S1)) : Con l yX9_between cX9_between 3 (some .int) 0 0 [.int x0, .int x1, .int x2] S (rI v) S1 := by
  refine con_of (ι := rI) RX9 false [some (.int x0), some (.int x1), some (.int x2)] rfl (fun h => by cases h) (by decide) (Nat.le_of_ble_eq_true rfl) ⟨rfl, rfl⟩ (fun Γ hl => ?_) h
  unfold fn_X9_between
  refine s_iload_n 0 dX9_between_0 rfl rfl ?_
  refine s_iload_n 1 dX9_between_1 rfl rfl ?_
  refine s_icmp_ge 9 dX9_between_2 (by decide) (fun _ => ?_) (fun _ => ?_)
  · refine s_iload_n 0 dX9_between_9 rfl rfl ?_
    refine s_iload_n 2 dX9_between_10 rfl rfl ?_
    refine s_icmp_le 18 dX9_between_11 (by decide) (fun _ => ?_) (fun _ => ?_)
    · refine s_iload_n 0 dX9_between_18 rfl rfl ?_
      exact s_less (t_X9_between_19  x0 S) trivial
    · refine s_iload_n 2 dX9_between_14 rfl rfl ?_
      refine s_goto 19 dX9_between_15 (by decide) ?_
      exact s_less (t_X9_between_19  x2 S) trivial
  · refine s_iload_n 1 dX9_between_5 rfl rfl ?_
    refine s_goto 19 dX9_between_6 (by decide) ?_
    exact s_less (t_X9_between_19  x1 S) trivial
-- X9_away
def f_X9_away_14 (F : Nat) (y0 : Int32) (S : Mem) : Option (Int32 × Mem) :=
  some (y0, S)
def fn_X9_away (F : Nat) (x0 : Int32) (x1 : Int32) (S : Mem) : Option (Int32 × Mem) :=
  if x1 ≤ x0 then
    f_X9_away_14 F  (x0 - x1) S
  else
    f_X9_away_14 F  (x1 - x0) S
set_option maxRecDepth 100000 in
theorem t_X9_away_14 {Γ : Cx} {F : Nat} : ∀ (y0 : Int32) (S : Mem), Sim cX9_away RX9 0 0 (some .int) false Γ rI (f_X9_away_14 F y0 S) S 14 [none, none] [.int y0] := by
  intro y0 S
  unfold f_X9_away_14
  exact s_iret dX9_away_14
set_option maxRecDepth 100000 in
theorem con_X9_away {l : Launch} (F : Nat) (x0 : Int32) (x1 : Int32) (S : Mem) (v : Int32) (S1 : Mem) (h : fn_X9_away F x0 x1 S = some (v, S1)) : Con l yX9_away cX9_away 2 (some .int) 0 0 [.int x0, .int x1] S (rI v) S1 := by
  refine con_of (ι := rI) RX9 false [some (.int x0), some (.int x1)] rfl (fun h => by cases h) (by decide) (Nat.le_of_ble_eq_true rfl) ⟨rfl, rfl⟩ (fun Γ hl => ?_) h
  unfold fn_X9_away
  refine s_iload_n 0 dX9_away_0 rfl rfl ?_
  refine s_iload_n 1 dX9_away_1 rfl rfl ?_
  refine s_icmp_ge 11 dX9_away_2 (by decide) (fun _ => ?_) (fun _ => ?_)
  · refine s_iload_n 0 dX9_away_11 rfl rfl ?_
    refine s_iload_n 1 dX9_away_12 rfl rfl ?_
    refine s_isub dX9_away_13 ?_
    exact s_less (t_X9_away_14  (x0 - x1) S) trivial
  · refine s_iload_n 1 dX9_away_5 rfl rfl ?_
    refine s_iload_n 0 dX9_away_6 rfl rfl ?_
    refine s_isub dX9_away_7 ?_
    refine s_goto 14 dX9_away_8 (by decide) ?_
    exact s_less (t_X9_away_14  (x1 - x0) S) trivial
-- X9_gcd
def b_X9_gcd_6 (F : Nat) (k6 : Int64 → Int64 → Mem → Option (Int64 × Mem)) (x4 : Int64) (x6 : Int64) (S : Mem) : Option (Int64 × Mem) :=
  if (lg_cmp x6 (0 : Int64)) = 0 then
    some (x4, S)
  else
    nzl x6 (
    lt ((x4 - x4 / x6 * x6)) fun v1 =>
    k6 x6 v1 S)
def fn_X9_gcd (F : Nat) (x0 : Int64) (x2 : Int64) (S : Mem) : Option (Int64 × Mem) :=
  fix2 (b_X9_gcd_6 F) F x0 x2 S
set_option maxRecDepth 100000 in
theorem t_X9_gcd_6 {Γ : Cx} {F : Nat} : ∀ (f : Nat) (x4 : Int64) (x6 : Int64) (S : Mem), Sim cX9_gcd RX9 0 0 (some .long) false Γ rJ (fix2 (b_X9_gcd_6 F) f x4 x6 S) S 6 [none, none, none, none, some (.long x4), none, some (.long x6), none, none, none] [] := by
  refine s_fix2 (fun (x4 : Int64) (x6 : Int64) => [none, none, none, none, some (.long x4), none, some (.long x6), none, none, none]) (fun k6 hk6 => ?_)
  intro x4 x6 S
  unfold b_X9_gcd_6
  refine s_lload dX9_gcd_6 rfl ?_
  refine s_lconst (0 : Int64) dX9_gcd_8 (by decide) ?_
  refine s_lcmp dX9_gcd_9 ?_
  refine s_if_eq 31 dX9_gcd_10 (by decide) (fun _ => ?_) (fun _ => ?_)
  · refine s_lload dX9_gcd_31 rfl ?_
    exact s_lret dX9_gcd_33
  · refine s_lload dX9_gcd_13 rfl ?_
    refine s_lload dX9_gcd_15 rfl ?_
    refine s_lrem dX9_gcd_17 ?_
    refine s_ltJ (fun v1 => ?_)
    refine s_lstore_8 dX9_gcd_18 rfl ?_
    refine s_lload dX9_gcd_20 rfl ?_
    refine s_lstore_4 dX9_gcd_22 rfl ?_
    refine s_lload dX9_gcd_24 rfl ?_
    refine s_lstore_6 dX9_gcd_26 rfl ?_
    refine s_goto 6 dX9_gcd_28 (by decide) ?_
    exact s_less (hk6 x6 v1 S) (And.intro rfl (And.intro rfl trivial))
set_option maxRecDepth 100000 in
theorem con_X9_gcd {l : Launch} (F : Nat) (x0 : Int64) (x2 : Int64) (S : Mem) (v : Int64) (S1 : Mem) (h : fn_X9_gcd F x0 x2 S = some (v, S1)) : Con l yX9_gcd cX9_gcd 10 (some .long) 0 0 [.long x0, .long x2] S (rJ v) S1 := by
  refine con_of (ι := rJ) RX9 false [some (.long x0), none, some (.long x2), none, none, none, none, none, none, none] rfl (fun h => by cases h) (by decide) (Nat.le_of_ble_eq_true rfl) ⟨rfl, rfl⟩ (fun Γ hl => ?_) h
  unfold fn_X9_gcd
  refine s_lload_n 0 dX9_gcd_0 rfl rfl ?_
  refine s_lstore_4 dX9_gcd_1 rfl ?_
  refine s_lload_n 2 dX9_gcd_3 rfl rfl ?_
  refine s_lstore_6 dX9_gcd_4 rfl ?_
  exact s_less (t_X9_gcd_6 F x0 x2 S) (And.intro rfl (And.intro rfl trivial))
-- X9_feed
def f_X9_feed_114 (F : Nat) (k8 : Nat → Int64 → Int64 → Int64 → Int32 → Mem → Option (Int32 × Mem)) (x0 : Nat) (x1 : Int64) (x3 : Int64) (x5 : Int64) (x7 : Int32) (S : Mem) : Option (Int32 × Mem) :=
  k8 x0 x1 x3 x5 (x7 + (1 : Int32)) S
def f_X9_feed_93 (F : Nat) (k8 : Nat → Int64 → Int64 → Int64 → Int32 → Mem → Option (Int32 × Mem)) (x0 : Nat) (x1 : Int64) (x3 : Int64) (x5 : Int64) (x7 : Int32) (x10 : Int32) (S : Mem) : Option (Int32 × Mem) :=
  (gR S 8 2 x0).bind fun v1 =>
  (gI S 8 1 x0).bind fun v2 =>
  (sA S v1 v2 x10).bind fun S3 =>
  (gI S3 8 1 x0).bind fun v4 =>
  (sI S3 8 1 x0 (v4 + (1 : Int32))).bind fun S5 =>
  f_X9_feed_114 F k8 x0 x1 x3 x5 x7  S5
def f_X9_feed_39 (F : Nat) (k8 : Nat → Int64 → Int64 → Int64 → Int32 → Mem → Option (Int32 × Mem)) (x0 : Nat) (x1 : Int64) (x3 : Int64) (x5 : Int64) (x7 : Int32) (y0 : Int64) (S : Mem) : Option (Int32 × Mem) :=
  lt (((((y0).toUInt64 >>> ((((56 : Int32) - ((8 : Int32) * (x7 &&& (7 : Int32))))).toInt64.toUInt64 &&& Int64.toUInt64 63)).toInt64 &&& (255 : Int64))).toInt32) fun v1 =>
  (gI S 8 1 x0).bind fun v2 =>
  if (1000 : Int32) ≤ v2 then
    f_X9_feed_114 F k8 x0 x1 x3 x5 x7  S
  else
    if v1 = (10 : Int32) then
      f_X9_feed_93 F k8 x0 x1 x3 x5 x7 v1  S
    else
      if v1 < (32 : Int32) then
        f_X9_feed_114 F k8 x0 x1 x3 x5 x7  S
      else
        if (126 : Int32) < v1 then
          f_X9_feed_114 F k8 x0 x1 x3 x5 x7  S
        else
          f_X9_feed_93 F k8 x0 x1 x3 x5 x7 v1  S
def b_X9_feed_8 (F : Nat) (k8 : Nat → Int64 → Int64 → Int64 → Int32 → Mem → Option (Int32 × Mem)) (x0 : Nat) (x1 : Int64) (x3 : Int64) (x5 : Int64) (x7 : Int32) (S : Mem) : Option (Int32 × Mem) :=
  if (24 : Int32) ≤ x7 then
    (gI S 8 1 x0).bind fun v1 =>
    some (v1, S)
  else
    if (8 : Int32) ≤ x7 then
      if (16 : Int32) ≤ x7 then
        f_X9_feed_39 F k8 x0 x1 x3 x5 x7 x5 S
      else
        f_X9_feed_39 F k8 x0 x1 x3 x5 x7 x3 S
    else
      f_X9_feed_39 F k8 x0 x1 x3 x5 x7 x1 S
def fn_X9_feed (F : Nat) (x0 : Nat) (x1 : Int64) (x3 : Int64) (x5 : Int64) (S : Mem) : Option (Int32 × Mem) :=
  (sI S 8 0 x0 (0 : Int32)).bind fun S1 =>
  fix5 (b_X9_feed_8 F) F x0 x1 x3 x5 (0 : Int32) S1
set_option maxRecDepth 100000 in
theorem t_X9_feed_114 {Γ : Cx} {F : Nat} {k8 : Nat → Int64 → Int64 → Int64 → Int32 → Mem → Option (Int32 × Mem)} (hk8 : ∀ (x0 : Nat) (x1 : Int64) (x3 : Int64) (x5 : Int64) (x7 : Int32) (S : Mem), Sim cX9_feed RX9 0 0 (some .int) false Γ rI (k8 x0 x1 x3 x5 x7 S) S 8 [some (.ref x0), some (.long x1), none, some (.long x3), none, some (.long x5), none, some (.int x7), none, none, none] []) : ∀ (x0 : Nat) (x1 : Int64) (x3 : Int64) (x5 : Int64) (x7 : Int32) (S : Mem), Sim cX9_feed RX9 0 0 (some .int) false Γ rI (f_X9_feed_114 F k8 x0 x1 x3 x5 x7 S) S 114 [some (.ref x0), some (.long x1), none, some (.long x3), none, some (.long x5), none, some (.int x7), none, none, none] [] := by
  intro x0 x1 x3 x5 x7 S
  unfold f_X9_feed_114
  refine s_iinc_7 (1 : Int32) dX9_feed_114 (by decide) rfl ?_
  refine s_goto 8 dX9_feed_117 (by decide) ?_
  exact s_less (hk8 x0 x1 x3 x5 (x7 + (1 : Int32)) S) (And.intro rfl (And.intro rfl (And.intro rfl (And.intro rfl (And.intro rfl trivial)))))
set_option maxRecDepth 100000 in
theorem t_X9_feed_93 {Γ : Cx} {F : Nat} {k8 : Nat → Int64 → Int64 → Int64 → Int32 → Mem → Option (Int32 × Mem)} (hk8 : ∀ (x0 : Nat) (x1 : Int64) (x3 : Int64) (x5 : Int64) (x7 : Int32) (S : Mem), Sim cX9_feed RX9 0 0 (some .int) false Γ rI (k8 x0 x1 x3 x5 x7 S) S 8 [some (.ref x0), some (.long x1), none, some (.long x3), none, some (.long x5), none, some (.int x7), none, none, none] []) : ∀ (x0 : Nat) (x1 : Int64) (x3 : Int64) (x5 : Int64) (x7 : Int32) (x10 : Int32) (S : Mem), Sim cX9_feed RX9 0 0 (some .int) false Γ rI (f_X9_feed_93 F k8 x0 x1 x3 x5 x7 x10 S) S 93 [some (.ref x0), some (.long x1), none, some (.long x3), none, some (.long x5), none, some (.int x7), none, none, some (.int x10)] [] := by
  intro x0 x1 x3 x5 x7 x10 S
  unfold f_X9_feed_93
  refine s_aload_n 0 dX9_feed_93 rfl rfl ?_
  refine s_getR fk_X9_7 rfl dX9_feed_94 (fun v1 => ?_)
  refine s_aload_n 0 dX9_feed_97 rfl rfl ?_
  refine s_getI fk_X9_115 rfl dX9_feed_98 (fun v2 => ?_)
  refine s_iload dX9_feed_101 rfl ?_
  refine s_iast dX9_feed_103 (fun S3 => ?_)
  refine s_aload_n 0 dX9_feed_104 rfl rfl ?_
  refine s_dup dX9_feed_105 rfl ?_
  refine s_getI fk_X9_115 rfl dX9_feed_106 (fun v4 => ?_)
  refine s_iconst (1 : Int32) dX9_feed_109 (by decide) ?_
  refine s_iadd dX9_feed_110 ?_
  refine s_putI fk_X9_115 (Or.inl rfl) rfl dX9_feed_111 (fun S5 => ?_)
  exact s_less (t_X9_feed_114 hk8 x0 x1 x3 x5 x7  S5) (And.intro rfl (And.intro rfl (And.intro rfl (And.intro rfl (And.intro rfl trivial)))))
set_option maxRecDepth 100000 in
theorem t_X9_feed_39 {Γ : Cx} {F : Nat} {k8 : Nat → Int64 → Int64 → Int64 → Int32 → Mem → Option (Int32 × Mem)} (hk8 : ∀ (x0 : Nat) (x1 : Int64) (x3 : Int64) (x5 : Int64) (x7 : Int32) (S : Mem), Sim cX9_feed RX9 0 0 (some .int) false Γ rI (k8 x0 x1 x3 x5 x7 S) S 8 [some (.ref x0), some (.long x1), none, some (.long x3), none, some (.long x5), none, some (.int x7), none, none, none] []) : ∀ (x0 : Nat) (x1 : Int64) (x3 : Int64) (x5 : Int64) (x7 : Int32) (y0 : Int64) (S : Mem), Sim cX9_feed RX9 0 0 (some .int) false Γ rI (f_X9_feed_39 F k8 x0 x1 x3 x5 x7 y0 S) S 39 [some (.ref x0), some (.long x1), none, some (.long x3), none, some (.long x5), none, some (.int x7), none, none, none] [.long y0] := by
  intro x0 x1 x3 x5 x7 y0 S
  unfold f_X9_feed_39
  refine s_lstore_8 dX9_feed_39 rfl ?_
  refine s_lload dX9_feed_41 rfl ?_
  refine s_bipush (56 : Int32) dX9_feed_43 (by decide) ?_
  refine s_bipush (8 : Int32) dX9_feed_45 (by decide) ?_
  refine s_iload dX9_feed_47 rfl ?_
  refine s_bipush (7 : Int32) dX9_feed_49 (by decide) ?_
  refine s_iand dX9_feed_51 ?_
  refine s_imul dX9_feed_52 ?_
  refine s_isub dX9_feed_53 ?_
  refine s_lushr dX9_feed_54 ?_
  refine s_ldc2 (v := (255 : Int64)) dX9_feed_55 (lw_in 1183 (by decide +kernel) (by decide +kernel)) ?_
  refine s_land dX9_feed_58 ?_
  refine s_l2i dX9_feed_59 ?_
  refine s_ltI (fun v1 => ?_)
  refine s_istore_10 dX9_feed_60 rfl ?_
  refine s_aload_n 0 dX9_feed_62 rfl rfl ?_
  refine s_getI fk_X9_115 rfl dX9_feed_63 (fun v2 => ?_)
  refine s_sipush (1000 : Int32) dX9_feed_66 (by decide) ?_
  refine s_icmp_ge 114 dX9_feed_69 (by decide) (fun _ => ?_) (fun _ => ?_)
  · exact s_less (t_X9_feed_114 hk8 x0 x1 x3 x5 x7  S) (And.intro rfl (And.intro rfl (And.intro rfl (And.intro rfl (And.intro rfl trivial)))))
  · refine s_iload dX9_feed_72 rfl ?_
    refine s_bipush (10 : Int32) dX9_feed_74 (by decide) ?_
    refine s_icmp_eq 93 dX9_feed_76 (by decide) (fun _ => ?_) (fun _ => ?_)
    · exact s_less (t_X9_feed_93 hk8 x0 x1 x3 x5 x7 v1  S) (And.intro rfl (And.intro rfl (And.intro rfl (And.intro rfl (And.intro rfl (And.intro rfl trivial))))))
    · refine s_iload dX9_feed_79 rfl ?_
      refine s_bipush (32 : Int32) dX9_feed_81 (by decide) ?_
      refine s_icmp_lt 114 dX9_feed_83 (by decide) (fun _ => ?_) (fun _ => ?_)
      · exact s_less (t_X9_feed_114 hk8 x0 x1 x3 x5 x7  S) (And.intro rfl (And.intro rfl (And.intro rfl (And.intro rfl (And.intro rfl trivial)))))
      · refine s_iload dX9_feed_86 rfl ?_
        refine s_bipush (126 : Int32) dX9_feed_88 (by decide) ?_
        refine s_icmp_gt 114 dX9_feed_90 (by decide) (fun _ => ?_) (fun _ => ?_)
        · exact s_less (t_X9_feed_114 hk8 x0 x1 x3 x5 x7  S) (And.intro rfl (And.intro rfl (And.intro rfl (And.intro rfl (And.intro rfl trivial)))))
        · exact s_less (t_X9_feed_93 hk8 x0 x1 x3 x5 x7 v1  S) (And.intro rfl (And.intro rfl (And.intro rfl (And.intro rfl (And.intro rfl (And.intro rfl trivial))))))
set_option maxRecDepth 100000 in
theorem t_X9_feed_8 {Γ : Cx} {F : Nat} : ∀ (f : Nat) (x0 : Nat) (x1 : Int64) (x3 : Int64) (x5 : Int64) (x7 : Int32) (S : Mem), Sim cX9_feed RX9 0 0 (some .int) false Γ rI (fix5 (b_X9_feed_8 F) f x0 x1 x3 x5 x7 S) S 8 [some (.ref x0), some (.long x1), none, some (.long x3), none, some (.long x5), none, some (.int x7), none, none, none] [] := by
  refine s_fix5 (fun (x0 : Nat) (x1 : Int64) (x3 : Int64) (x5 : Int64) (x7 : Int32) => [some (.ref x0), some (.long x1), none, some (.long x3), none, some (.long x5), none, some (.int x7), none, none, none]) (fun k8 hk8 => ?_)
  intro x0 x1 x3 x5 x7 S
  unfold b_X9_feed_8
  refine s_iload dX9_feed_8 rfl ?_
  refine s_bipush (24 : Int32) dX9_feed_10 (by decide) ?_
  refine s_icmp_ge 120 dX9_feed_12 (by decide) (fun _ => ?_) (fun _ => ?_)
  · refine s_aload_n 0 dX9_feed_120 rfl rfl ?_
    refine s_getI fk_X9_115 rfl dX9_feed_121 (fun v1 => ?_)
    exact s_iret dX9_feed_124
  · refine s_iload dX9_feed_15 rfl ?_
    refine s_bipush (8 : Int32) dX9_feed_17 (by decide) ?_
    refine s_icmp_ge 26 dX9_feed_19 (by decide) (fun _ => ?_) (fun _ => ?_)
    · refine s_iload dX9_feed_26 rfl ?_
      refine s_bipush (16 : Int32) dX9_feed_28 (by decide) ?_
      refine s_icmp_ge 37 dX9_feed_30 (by decide) (fun _ => ?_) (fun _ => ?_)
      · refine s_lload dX9_feed_37 rfl ?_
        exact s_less (t_X9_feed_39 hk8 x0 x1 x3 x5 x7 x5 S) (And.intro rfl (And.intro rfl (And.intro rfl (And.intro rfl (And.intro rfl trivial)))))
      · refine s_lload_n 3 dX9_feed_33 rfl rfl ?_
        refine s_goto 39 dX9_feed_34 (by decide) ?_
        exact s_less (t_X9_feed_39 hk8 x0 x1 x3 x5 x7 x3 S) (And.intro rfl (And.intro rfl (And.intro rfl (And.intro rfl (And.intro rfl trivial)))))
    · refine s_lload_n 1 dX9_feed_22 rfl rfl ?_
      refine s_goto 39 dX9_feed_23 (by decide) ?_
      exact s_less (t_X9_feed_39 hk8 x0 x1 x3 x5 x7 x1 S) (And.intro rfl (And.intro rfl (And.intro rfl (And.intro rfl (And.intro rfl trivial)))))
set_option maxRecDepth 100000 in
theorem con_X9_feed {l : Launch} (F : Nat) (x0 : Nat) (x1 : Int64) (x3 : Int64) (x5 : Int64) (S : Mem) (v : Int32) (S1 : Mem) (h : fn_X9_feed F x0 x1 x3 x5 S = some (v, S1)) : Con l yX9_feed cX9_feed 11 (some .int) 0 0 [.ref x0, .long x1, .long x3, .long x5] S (rI v) S1 := by
  refine con_of (ι := rI) RX9 false [some (.ref x0), some (.long x1), none, some (.long x3), none, some (.long x5), none, none, none, none, none] rfl (fun h => by cases h) (by decide) (Nat.le_of_ble_eq_true rfl) ⟨rfl, rfl⟩ (fun Γ hl => ?_) h
  unfold fn_X9_feed
  refine s_aload_n 0 dX9_feed_0 rfl rfl ?_
  refine s_iconst (0 : Int32) dX9_feed_1 (by decide) ?_
  refine s_putI fk_X9_109 (Or.inl rfl) rfl dX9_feed_2 (fun S1 => ?_)
  refine s_iconst (0 : Int32) dX9_feed_5 (by decide) ?_
  refine s_istore_7 dX9_feed_6 rfl ?_
  exact s_less (t_X9_feed_8 F x0 x1 x3 x5 (0 : Int32) S1) (And.intro rfl (And.intro rfl (And.intro rfl (And.intro rfl (And.intro rfl trivial)))))
-- X9_signAt
def f_X9_signAt_18 (F : Nat) (y0 : Int32) (S : Mem) : Option (Int32 × Mem) :=
  some (y0, S)
def fn_X9_signAt (F : Nat) (x0 : Nat) (x1 : Int32) (S : Mem) : Option (Int32 × Mem) :=
  (gI S 8 3 x0).bind fun v1 =>
  if v1 ≤ x1 then
    f_X9_signAt_18 F  (0 : Int32) S
  else
    (gR S 8 2 x0).bind fun v2 =>
    (gA S 10 v2 x1).bind fun v3 =>
    f_X9_signAt_18 F  v3 S
set_option maxRecDepth 100000 in
theorem t_X9_signAt_18 {Γ : Cx} {F : Nat} : ∀ (y0 : Int32) (S : Mem), Sim cX9_signAt RX9 0 0 (some .int) false Γ rI (f_X9_signAt_18 F y0 S) S 18 [none, none] [.int y0] := by
  intro y0 S
  unfold f_X9_signAt_18
  exact s_iret dX9_signAt_18
set_option maxRecDepth 100000 in
theorem con_X9_signAt {l : Launch} (F : Nat) (x0 : Nat) (x1 : Int32) (S : Mem) (v : Int32) (S1 : Mem) (h : fn_X9_signAt F x0 x1 S = some (v, S1)) : Con l yX9_signAt cX9_signAt 2 (some .int) 0 0 [.ref x0, .int x1] S (rI v) S1 := by
  refine con_of (ι := rI) RX9 false [some (.ref x0), some (.int x1)] rfl (fun h => by cases h) (by decide) (Nat.le_of_ble_eq_true rfl) ⟨rfl, rfl⟩ (fun Γ hl => ?_) h
  unfold fn_X9_signAt
  refine s_iload_n 1 dX9_signAt_0 rfl rfl ?_
  refine s_aload_n 0 dX9_signAt_1 rfl rfl ?_
  refine s_getI fk_X9_118 rfl dX9_signAt_2 (fun v1 => ?_)
  refine s_icmp_ge 17 dX9_signAt_5 (by decide) (fun _ => ?_) (fun _ => ?_)
  · refine s_iconst (0 : Int32) dX9_signAt_17 (by decide) ?_
    exact s_less (t_X9_signAt_18  (0 : Int32) S) trivial
  · refine s_aload_n 0 dX9_signAt_8 rfl rfl ?_
    refine s_getR fk_X9_7 rfl dX9_signAt_9 (fun v2 => ?_)
    refine s_iload_n 1 dX9_signAt_12 rfl rfl ?_
    refine s_iald dX9_signAt_13 (fun v3 => ?_)
    refine s_goto 18 dX9_signAt_14 (by decide) ?_
    exact s_less (t_X9_signAt_18  v3 S) trivial
-- X9_nextToken
def f_X9_nextToken_368 (F : Nat) (y0 : Nat) (y1 : Int32) (S : Mem) : Option (Unit × Mem) :=
  (sI S 8 6 y0 y1).bind fun S1 =>
  some ((), S1)
def f_X9_nextToken_367 (F : Nat) (y0 : Nat) (S : Mem) : Option (Unit × Mem) :=
  f_X9_nextToken_368 F  y0 (4 : Int32) S
def f_X9_nextToken_363 (F : Nat) (y0 : Nat) (S : Mem) : Option (Unit × Mem) :=
  f_X9_nextToken_368 F  y0 (3 : Int32) S
def f_X9_nextToken_345 (F : Nat) (x1 : Int32) (y0 : Nat) (S : Mem) : Option (Unit × Mem) :=
  if x1 = (45 : Int32) then
    f_X9_nextToken_363 F  y0 S
  else
    if x1 < (59 : Int32) then
      f_X9_nextToken_367 F  y0 S
    else
      if (61 : Int32) < x1 then
        f_X9_nextToken_367 F  y0 S
      else
        f_X9_nextToken_363 F  y0 S
def f_X9_nextToken_322 (F : Nat) (x0 : Nat) (x1 : Int32) (S : Mem) : Option (Unit × Mem) :=
  (gI S 8 4 x0).bind fun v1 =>
  (sI S 8 4 x0 (v1 + (1 : Int32))).bind fun S2 =>
  if x1 < (40 : Int32) then
    f_X9_nextToken_345 F x1 x0 S2
  else
    if x1 ≤ (43 : Int32) then
      f_X9_nextToken_363 F  x0 S2
    else
      f_X9_nextToken_345 F x1 x0 S2
def f_X9_nextToken_318 (F : Nat) (y0 : Nat) (y1 : Int32) (S : Mem) : Option (Unit × Mem) :=
  (sI S 8 6 y0 y1).bind fun S1 =>
  some ((), S1)
def f_X9_nextToken_299 (F : Nat) (x0 : Nat) (S : Mem) : Option (Unit × Mem) :=
  (gI S 8 4 x0).bind fun v1 =>
  (gI S 8 5 x0).bind fun v2 =>
  if (v1 - v2) ≤ (4 : Int32) then
    f_X9_nextToken_318 F  x0 (2 : Int32) S
  else
    f_X9_nextToken_318 F  x0 (4 : Int32) S
def f_X9_nextToken_286 (F : Nat) (k224 : Nat → Mem → Option (Unit × Mem)) (x0 : Nat) (S : Mem) : Option (Unit × Mem) :=
  (gI S 8 4 x0).bind fun v1 =>
  (sI S 8 4 x0 (v1 + (1 : Int32))).bind fun S2 =>
  k224 x0 S2
def b_X9_nextToken_224 (F : Nat) (k224 : Nat → Mem → Option (Unit × Mem)) (x0 : Nat) (S : Mem) : Option (Unit × Mem) :=
  (gI S 8 4 x0).bind fun v1 =>
  bd (cal S 8 x0 (fn_X9_signAt F x0 v1 S)) fun v2 S3 =>
  if v2 < (48 : Int32) then
    f_X9_nextToken_299 F x0  S3
  else
    (gI S3 8 4 x0).bind fun v4 =>
    bd (cal S3 8 x0 (fn_X9_signAt F x0 v4 S3)) fun v5 S6 =>
    if (57 : Int32) < v5 then
      f_X9_nextToken_299 F x0  S6
    else
      (gI S6 8 4 x0).bind fun v7 =>
      (gI S6 8 5 x0).bind fun v8 =>
      if (4 : Int32) ≤ (v7 - v8) then
        f_X9_nextToken_286 F k224 x0  S6
      else
        (gI S6 8 8 x0).bind fun v9 =>
        (gI S6 8 4 x0).bind fun v10 =>
        bd (cal S6 8 x0 (fn_X9_signAt F x0 v10 S6)) fun v11 S12 =>
        (sI S12 8 8 x0 (((v9 * (10 : Int32)) + v11) - (48 : Int32))).bind fun S13 =>
        f_X9_nextToken_286 F k224 x0  S13
def f_X9_nextToken_212 (F : Nat) (x0 : Nat) (x1 : Int32) (S : Mem) : Option (Unit × Mem) :=
  if x1 < (48 : Int32) then
    f_X9_nextToken_322 F x0 x1  S
  else
    if (57 : Int32) < x1 then
      f_X9_nextToken_322 F x0 x1  S
    else
      fix1 (b_X9_nextToken_224 F) F x0 S
def f_X9_nextToken_208 (F : Nat) (y0 : Nat) (y1 : Int32) (S : Mem) : Option (Unit × Mem) :=
  (sI S 8 6 y0 y1).bind fun S1 =>
  some ((), S1)
def f_X9_nextToken_188 (F : Nat) (x0 : Nat) (S : Mem) : Option (Unit × Mem) :=
  (gI S 8 4 x0).bind fun v1 =>
  (gI S 8 5 x0).bind fun v2 =>
  if (v1 - v2) ≤ (8 : Int32) then
    f_X9_nextToken_208 F  x0 (1 : Int32) S
  else
    f_X9_nextToken_208 F  x0 (4 : Int32) S
def f_X9_nextToken_175 (F : Nat) (k109 : Nat → Mem → Option (Unit × Mem)) (x0 : Nat) (S : Mem) : Option (Unit × Mem) :=
  (gI S 8 4 x0).bind fun v1 =>
  (sI S 8 4 x0 (v1 + (1 : Int32))).bind fun S2 =>
  k109 x0 S2
def b_X9_nextToken_109 (F : Nat) (k109 : Nat → Mem → Option (Unit × Mem)) (x0 : Nat) (S : Mem) : Option (Unit × Mem) :=
  (gI S 8 4 x0).bind fun v1 =>
  bd (cal S 8 x0 (fn_X9_signAt F x0 v1 S)) fun v2 S3 =>
  if v2 < (97 : Int32) then
    f_X9_nextToken_188 F x0  S3
  else
    (gI S3 8 4 x0).bind fun v4 =>
    bd (cal S3 8 x0 (fn_X9_signAt F x0 v4 S3)) fun v5 S6 =>
    if (122 : Int32) < v5 then
      f_X9_nextToken_188 F x0  S6
    else
      (gI S6 8 4 x0).bind fun v7 =>
      (gI S6 8 5 x0).bind fun v8 =>
      if (8 : Int32) ≤ (v7 - v8) then
        f_X9_nextToken_175 F k109 x0  S6
      else
        (gJ S6 8 7 x0).bind fun v9 =>
        (gI S6 8 4 x0).bind fun v10 =>
        bd (cal S6 8 x0 (fn_X9_signAt F x0 v10 S6)) fun v11 S12 =>
        (sJ S12 8 7 x0 (((v9 * (27 : Int64)) + (v11).toInt64) - (96 : Int64))).bind fun S13 =>
        f_X9_nextToken_175 F k109 x0  S13
def f_X9_nextToken_52 (F : Nat) (x0 : Nat) (S : Mem) : Option (Unit × Mem) :=
  (gI S 8 4 x0).bind fun v1 =>
  (sI S 8 5 x0 v1).bind fun S2 =>
  (sJ S2 8 7 x0 (0 : Int64)).bind fun S3 =>
  (sI S3 8 8 x0 (0 : Int32)).bind fun S4 =>
  (gI S4 8 4 x0).bind fun v5 =>
  (gI S4 8 3 x0).bind fun v6 =>
  if v5 = v6 then
    (sI S4 8 6 x0 (0 : Int32)).bind fun S10 =>
    some ((), S10)
  else
    (gR S4 8 2 x0).bind fun v7 =>
    (gI S4 8 4 x0).bind fun v8 =>
    (gA S4 10 v7 v8).bind fun v9 =>
    if v9 < (97 : Int32) then
      f_X9_nextToken_212 F x0 v9  S4
    else
      if (122 : Int32) < v9 then
        f_X9_nextToken_212 F x0 v9  S4
      else
        fix1 (b_X9_nextToken_109 F) F x0 S4
def f_X9_nextToken_39 (F : Nat) (k0 : Nat → Mem → Option (Unit × Mem)) (x0 : Nat) (S : Mem) : Option (Unit × Mem) :=
  (gI S 8 4 x0).bind fun v1 =>
  (sI S 8 4 x0 (v1 + (1 : Int32))).bind fun S2 =>
  k0 x0 S2
def b_X9_nextToken_0 (F : Nat) (k0 : Nat → Mem → Option (Unit × Mem)) (x0 : Nat) (S : Mem) : Option (Unit × Mem) :=
  (gI S 8 4 x0).bind fun v1 =>
  (gI S 8 3 x0).bind fun v2 =>
  if v2 ≤ v1 then
    f_X9_nextToken_52 F x0  S
  else
    (gR S 8 2 x0).bind fun v3 =>
    (gI S 8 4 x0).bind fun v4 =>
    (gA S 10 v3 v4).bind fun v5 =>
    if v5 = (32 : Int32) then
      f_X9_nextToken_39 F k0 x0  S
    else
      (gR S 8 2 x0).bind fun v6 =>
      (gI S 8 4 x0).bind fun v7 =>
      (gA S 10 v6 v7).bind fun v8 =>
      if v8 = (10 : Int32) then
        f_X9_nextToken_39 F k0 x0  S
      else
        f_X9_nextToken_52 F x0  S
def fn_X9_nextToken (F : Nat) (x0 : Nat) (S : Mem) : Option (Unit × Mem) :=
  fix1 (b_X9_nextToken_0 F) F x0 S
set_option maxRecDepth 100000 in
theorem t_X9_nextToken_368 {Γ : Cx} {F : Nat} : ∀ (y0 : Nat) (y1 : Int32) (S : Mem), Sim cX9_nextToken RX9 1 21 none false Γ rV (f_X9_nextToken_368 F y0 y1 S) S 368 [none, none] [.int y1, .ref y0] := by
  intro y0 y1 S
  unfold f_X9_nextToken_368
  refine s_putI fk_X9_134 (Or.inl rfl) rfl dX9_nextToken_368 (fun S1 => ?_)
  exact s_vret dX9_nextToken_371
set_option maxRecDepth 100000 in
theorem t_X9_nextToken_367 {Γ : Cx} {F : Nat} : ∀ (y0 : Nat) (S : Mem), Sim cX9_nextToken RX9 1 21 none false Γ rV (f_X9_nextToken_367 F y0 S) S 367 [none, none] [.ref y0] := by
  intro y0 S
  unfold f_X9_nextToken_367
  refine s_iconst (4 : Int32) dX9_nextToken_367 (by decide) ?_
  exact s_less (t_X9_nextToken_368  y0 (4 : Int32) S) trivial
set_option maxRecDepth 100000 in
theorem t_X9_nextToken_363 {Γ : Cx} {F : Nat} : ∀ (y0 : Nat) (S : Mem), Sim cX9_nextToken RX9 1 21 none false Γ rV (f_X9_nextToken_363 F y0 S) S 363 [none, none] [.ref y0] := by
  intro y0 S
  unfold f_X9_nextToken_363
  refine s_iconst (3 : Int32) dX9_nextToken_363 (by decide) ?_
  refine s_goto 368 dX9_nextToken_364 (by decide) ?_
  exact s_less (t_X9_nextToken_368  y0 (3 : Int32) S) trivial
set_option maxRecDepth 100000 in
theorem t_X9_nextToken_345 {Γ : Cx} {F : Nat} : ∀ (x1 : Int32) (y0 : Nat) (S : Mem), Sim cX9_nextToken RX9 1 21 none false Γ rV (f_X9_nextToken_345 F x1 y0 S) S 345 [none, some (.int x1)] [.ref y0] := by
  intro x1 y0 S
  unfold f_X9_nextToken_345
  refine s_iload_n 1 dX9_nextToken_345 rfl rfl ?_
  refine s_bipush (45 : Int32) dX9_nextToken_346 (by decide) ?_
  refine s_icmp_eq 363 dX9_nextToken_348 (by decide) (fun _ => ?_) (fun _ => ?_)
  · exact s_less (t_X9_nextToken_363  y0 S) trivial
  · refine s_iload_n 1 dX9_nextToken_351 rfl rfl ?_
    refine s_bipush (59 : Int32) dX9_nextToken_352 (by decide) ?_
    refine s_icmp_lt 367 dX9_nextToken_354 (by decide) (fun _ => ?_) (fun _ => ?_)
    · exact s_less (t_X9_nextToken_367  y0 S) trivial
    · refine s_iload_n 1 dX9_nextToken_357 rfl rfl ?_
      refine s_bipush (61 : Int32) dX9_nextToken_358 (by decide) ?_
      refine s_icmp_gt 367 dX9_nextToken_360 (by decide) (fun _ => ?_) (fun _ => ?_)
      · exact s_less (t_X9_nextToken_367  y0 S) trivial
      · exact s_less (t_X9_nextToken_363  y0 S) trivial
set_option maxRecDepth 100000 in
theorem t_X9_nextToken_322 {Γ : Cx} {F : Nat} : ∀ (x0 : Nat) (x1 : Int32) (S : Mem), Sim cX9_nextToken RX9 1 21 none false Γ rV (f_X9_nextToken_322 F x0 x1 S) S 322 [some (.ref x0), some (.int x1)] [] := by
  intro x0 x1 S
  unfold f_X9_nextToken_322
  refine s_aload_n 0 dX9_nextToken_322 rfl rfl ?_
  refine s_dup dX9_nextToken_323 rfl ?_
  refine s_getI fk_X9_121 rfl dX9_nextToken_324 (fun v1 => ?_)
  refine s_iconst (1 : Int32) dX9_nextToken_327 (by decide) ?_
  refine s_iadd dX9_nextToken_328 ?_
  refine s_putI fk_X9_121 (Or.inl rfl) rfl dX9_nextToken_329 (fun S2 => ?_)
  refine s_aload_n 0 dX9_nextToken_332 rfl rfl ?_
  refine s_iload_n 1 dX9_nextToken_333 rfl rfl ?_
  refine s_bipush (40 : Int32) dX9_nextToken_334 (by decide) ?_
  refine s_icmp_lt 345 dX9_nextToken_336 (by decide) (fun _ => ?_) (fun _ => ?_)
  · exact s_less (t_X9_nextToken_345 x1 x0 S2) (And.intro rfl trivial)
  · refine s_iload_n 1 dX9_nextToken_339 rfl rfl ?_
    refine s_bipush (43 : Int32) dX9_nextToken_340 (by decide) ?_
    refine s_icmp_le 363 dX9_nextToken_342 (by decide) (fun _ => ?_) (fun _ => ?_)
    · exact s_less (t_X9_nextToken_363  x0 S2) trivial
    · exact s_less (t_X9_nextToken_345 x1 x0 S2) (And.intro rfl trivial)
set_option maxRecDepth 100000 in
theorem t_X9_nextToken_318 {Γ : Cx} {F : Nat} : ∀ (y0 : Nat) (y1 : Int32) (S : Mem), Sim cX9_nextToken RX9 1 21 none false Γ rV (f_X9_nextToken_318 F y0 y1 S) S 318 [none, none] [.int y1, .ref y0] := by
  intro y0 y1 S
  unfold f_X9_nextToken_318
  refine s_putI fk_X9_134 (Or.inl rfl) rfl dX9_nextToken_318 (fun S1 => ?_)
  exact s_vret dX9_nextToken_321
set_option maxRecDepth 100000 in
theorem t_X9_nextToken_299 {Γ : Cx} {F : Nat} : ∀ (x0 : Nat) (S : Mem), Sim cX9_nextToken RX9 1 21 none false Γ rV (f_X9_nextToken_299 F x0 S) S 299 [some (.ref x0), none] [] := by
  intro x0 S
  unfold f_X9_nextToken_299
  refine s_aload_n 0 dX9_nextToken_299 rfl rfl ?_
  refine s_aload_n 0 dX9_nextToken_300 rfl rfl ?_
  refine s_getI fk_X9_121 rfl dX9_nextToken_301 (fun v1 => ?_)
  refine s_aload_n 0 dX9_nextToken_304 rfl rfl ?_
  refine s_getI fk_X9_124 rfl dX9_nextToken_305 (fun v2 => ?_)
  refine s_isub dX9_nextToken_308 ?_
  refine s_iconst (4 : Int32) dX9_nextToken_309 (by decide) ?_
  refine s_icmp_le 317 dX9_nextToken_310 (by decide) (fun _ => ?_) (fun _ => ?_)
  · refine s_iconst (2 : Int32) dX9_nextToken_317 (by decide) ?_
    exact s_less (t_X9_nextToken_318  x0 (2 : Int32) S) trivial
  · refine s_iconst (4 : Int32) dX9_nextToken_313 (by decide) ?_
    refine s_goto 318 dX9_nextToken_314 (by decide) ?_
    exact s_less (t_X9_nextToken_318  x0 (4 : Int32) S) trivial
set_option maxRecDepth 100000 in
theorem t_X9_nextToken_286 {Γ : Cx} {F : Nat} {k224 : Nat → Mem → Option (Unit × Mem)} (hk224 : ∀ (x0 : Nat) (S : Mem), Sim cX9_nextToken RX9 1 21 none false Γ rV (k224 x0 S) S 224 [some (.ref x0), none] []) : ∀ (x0 : Nat) (S : Mem), Sim cX9_nextToken RX9 1 21 none false Γ rV (f_X9_nextToken_286 F k224 x0 S) S 286 [some (.ref x0), none] [] := by
  intro x0 S
  unfold f_X9_nextToken_286
  refine s_aload_n 0 dX9_nextToken_286 rfl rfl ?_
  refine s_dup dX9_nextToken_287 rfl ?_
  refine s_getI fk_X9_121 rfl dX9_nextToken_288 (fun v1 => ?_)
  refine s_iconst (1 : Int32) dX9_nextToken_291 (by decide) ?_
  refine s_iadd dX9_nextToken_292 ?_
  refine s_putI fk_X9_121 (Or.inl rfl) rfl dX9_nextToken_293 (fun S2 => ?_)
  refine s_goto 224 dX9_nextToken_296 (by decide) ?_
  exact s_less (hk224 x0 S2) (And.intro rfl trivial)
set_option maxRecDepth 100000 in
theorem t_X9_nextToken_224 {Γ : Cx} {F : Nat} : ∀ (f : Nat) (x0 : Nat) (S : Mem), Sim cX9_nextToken RX9 1 21 none false Γ rV (fix1 (b_X9_nextToken_224 F) f x0 S) S 224 [some (.ref x0), none] [] := by
  refine s_fix1 (fun (x0 : Nat) => [some (.ref x0), none]) (fun k224 hk224 => ?_)
  intro x0 S
  unfold b_X9_nextToken_224
  refine s_aload_n 0 dX9_nextToken_224 rfl rfl ?_
  refine s_aload_n 0 dX9_nextToken_225 rfl rfl ?_
  refine s_getI fk_X9_121 rfl dX9_nextToken_226 (fun v1 => ?_)
  refine s_cV1I mk_X9_137 (by decide) rfl (fun v9 S9 h9 => con_X9_signAt F _ _ _ v9 S9 h9) ⟨by omega, by omega⟩ (Nat.le_of_ble_eq_true rfl) dX9_nextToken_229 (fun v2 S3 => ?_)
  refine s_bipush (48 : Int32) dX9_nextToken_232 (by decide) ?_
  refine s_icmp_lt 299 dX9_nextToken_234 (by decide) (fun _ => ?_) (fun _ => ?_)
  · exact s_less (t_X9_nextToken_299 x0  S3) (And.intro rfl trivial)
  · refine s_aload_n 0 dX9_nextToken_237 rfl rfl ?_
    refine s_aload_n 0 dX9_nextToken_238 rfl rfl ?_
    refine s_getI fk_X9_121 rfl dX9_nextToken_239 (fun v4 => ?_)
    refine s_cV1I mk_X9_137 (by decide) rfl (fun v9 S9 h9 => con_X9_signAt F _ _ _ v9 S9 h9) ⟨by omega, by omega⟩ (Nat.le_of_ble_eq_true rfl) dX9_nextToken_242 (fun v5 S6 => ?_)
    refine s_bipush (57 : Int32) dX9_nextToken_245 (by decide) ?_
    refine s_icmp_gt 299 dX9_nextToken_247 (by decide) (fun _ => ?_) (fun _ => ?_)
    · exact s_less (t_X9_nextToken_299 x0  S6) (And.intro rfl trivial)
    · refine s_aload_n 0 dX9_nextToken_250 rfl rfl ?_
      refine s_getI fk_X9_121 rfl dX9_nextToken_251 (fun v7 => ?_)
      refine s_aload_n 0 dX9_nextToken_254 rfl rfl ?_
      refine s_getI fk_X9_124 rfl dX9_nextToken_255 (fun v8 => ?_)
      refine s_isub dX9_nextToken_258 ?_
      refine s_iconst (4 : Int32) dX9_nextToken_259 (by decide) ?_
      refine s_icmp_ge 286 dX9_nextToken_260 (by decide) (fun _ => ?_) (fun _ => ?_)
      · exact s_less (t_X9_nextToken_286 hk224 x0  S6) (And.intro rfl trivial)
      · refine s_aload_n 0 dX9_nextToken_263 rfl rfl ?_
        refine s_aload_n 0 dX9_nextToken_264 rfl rfl ?_
        refine s_getI fk_X9_131 rfl dX9_nextToken_265 (fun v9 => ?_)
        refine s_bipush (10 : Int32) dX9_nextToken_268 (by decide) ?_
        refine s_imul dX9_nextToken_270 ?_
        refine s_aload_n 0 dX9_nextToken_271 rfl rfl ?_
        refine s_aload_n 0 dX9_nextToken_272 rfl rfl ?_
        refine s_getI fk_X9_121 rfl dX9_nextToken_273 (fun v10 => ?_)
        refine s_cV1I mk_X9_137 (by decide) rfl (fun v9 S9 h9 => con_X9_signAt F _ _ _ v9 S9 h9) ⟨by omega, by omega⟩ (Nat.le_of_ble_eq_true rfl) dX9_nextToken_276 (fun v11 S12 => ?_)
        refine s_iadd dX9_nextToken_279 ?_
        refine s_bipush (48 : Int32) dX9_nextToken_280 (by decide) ?_
        refine s_isub dX9_nextToken_282 ?_
        refine s_putI fk_X9_131 (Or.inl rfl) rfl dX9_nextToken_283 (fun S13 => ?_)
        exact s_less (t_X9_nextToken_286 hk224 x0  S13) (And.intro rfl trivial)
set_option maxRecDepth 100000 in
theorem t_X9_nextToken_212 {Γ : Cx} {F : Nat} : ∀ (x0 : Nat) (x1 : Int32) (S : Mem), Sim cX9_nextToken RX9 1 21 none false Γ rV (f_X9_nextToken_212 F x0 x1 S) S 212 [some (.ref x0), some (.int x1)] [] := by
  intro x0 x1 S
  unfold f_X9_nextToken_212
  refine s_iload_n 1 dX9_nextToken_212 rfl rfl ?_
  refine s_bipush (48 : Int32) dX9_nextToken_213 (by decide) ?_
  refine s_icmp_lt 322 dX9_nextToken_215 (by decide) (fun _ => ?_) (fun _ => ?_)
  · exact s_less (t_X9_nextToken_322 x0 x1  S) (And.intro rfl (And.intro rfl trivial))
  · refine s_iload_n 1 dX9_nextToken_218 rfl rfl ?_
    refine s_bipush (57 : Int32) dX9_nextToken_219 (by decide) ?_
    refine s_icmp_gt 322 dX9_nextToken_221 (by decide) (fun _ => ?_) (fun _ => ?_)
    · exact s_less (t_X9_nextToken_322 x0 x1  S) (And.intro rfl (And.intro rfl trivial))
    · exact s_less (t_X9_nextToken_224 F x0 S) (And.intro rfl trivial)
set_option maxRecDepth 100000 in
theorem t_X9_nextToken_208 {Γ : Cx} {F : Nat} : ∀ (y0 : Nat) (y1 : Int32) (S : Mem), Sim cX9_nextToken RX9 1 21 none false Γ rV (f_X9_nextToken_208 F y0 y1 S) S 208 [none, none] [.int y1, .ref y0] := by
  intro y0 y1 S
  unfold f_X9_nextToken_208
  refine s_putI fk_X9_134 (Or.inl rfl) rfl dX9_nextToken_208 (fun S1 => ?_)
  exact s_vret dX9_nextToken_211
set_option maxRecDepth 100000 in
theorem t_X9_nextToken_188 {Γ : Cx} {F : Nat} : ∀ (x0 : Nat) (S : Mem), Sim cX9_nextToken RX9 1 21 none false Γ rV (f_X9_nextToken_188 F x0 S) S 188 [some (.ref x0), none] [] := by
  intro x0 S
  unfold f_X9_nextToken_188
  refine s_aload_n 0 dX9_nextToken_188 rfl rfl ?_
  refine s_aload_n 0 dX9_nextToken_189 rfl rfl ?_
  refine s_getI fk_X9_121 rfl dX9_nextToken_190 (fun v1 => ?_)
  refine s_aload_n 0 dX9_nextToken_193 rfl rfl ?_
  refine s_getI fk_X9_124 rfl dX9_nextToken_194 (fun v2 => ?_)
  refine s_isub dX9_nextToken_197 ?_
  refine s_bipush (8 : Int32) dX9_nextToken_198 (by decide) ?_
  refine s_icmp_le 207 dX9_nextToken_200 (by decide) (fun _ => ?_) (fun _ => ?_)
  · refine s_iconst (1 : Int32) dX9_nextToken_207 (by decide) ?_
    exact s_less (t_X9_nextToken_208  x0 (1 : Int32) S) trivial
  · refine s_iconst (4 : Int32) dX9_nextToken_203 (by decide) ?_
    refine s_goto 208 dX9_nextToken_204 (by decide) ?_
    exact s_less (t_X9_nextToken_208  x0 (4 : Int32) S) trivial
set_option maxRecDepth 100000 in
theorem t_X9_nextToken_175 {Γ : Cx} {F : Nat} {k109 : Nat → Mem → Option (Unit × Mem)} (hk109 : ∀ (x0 : Nat) (S : Mem), Sim cX9_nextToken RX9 1 21 none false Γ rV (k109 x0 S) S 109 [some (.ref x0), none] []) : ∀ (x0 : Nat) (S : Mem), Sim cX9_nextToken RX9 1 21 none false Γ rV (f_X9_nextToken_175 F k109 x0 S) S 175 [some (.ref x0), none] [] := by
  intro x0 S
  unfold f_X9_nextToken_175
  refine s_aload_n 0 dX9_nextToken_175 rfl rfl ?_
  refine s_dup dX9_nextToken_176 rfl ?_
  refine s_getI fk_X9_121 rfl dX9_nextToken_177 (fun v1 => ?_)
  refine s_iconst (1 : Int32) dX9_nextToken_180 (by decide) ?_
  refine s_iadd dX9_nextToken_181 ?_
  refine s_putI fk_X9_121 (Or.inl rfl) rfl dX9_nextToken_182 (fun S2 => ?_)
  refine s_goto 109 dX9_nextToken_185 (by decide) ?_
  exact s_less (hk109 x0 S2) (And.intro rfl trivial)
set_option maxRecDepth 100000 in
theorem t_X9_nextToken_109 {Γ : Cx} {F : Nat} : ∀ (f : Nat) (x0 : Nat) (S : Mem), Sim cX9_nextToken RX9 1 21 none false Γ rV (fix1 (b_X9_nextToken_109 F) f x0 S) S 109 [some (.ref x0), none] [] := by
  refine s_fix1 (fun (x0 : Nat) => [some (.ref x0), none]) (fun k109 hk109 => ?_)
  intro x0 S
  unfold b_X9_nextToken_109
  refine s_aload_n 0 dX9_nextToken_109 rfl rfl ?_
  refine s_aload_n 0 dX9_nextToken_110 rfl rfl ?_
  refine s_getI fk_X9_121 rfl dX9_nextToken_111 (fun v1 => ?_)
  refine s_cV1I mk_X9_137 (by decide) rfl (fun v9 S9 h9 => con_X9_signAt F _ _ _ v9 S9 h9) ⟨by omega, by omega⟩ (Nat.le_of_ble_eq_true rfl) dX9_nextToken_114 (fun v2 S3 => ?_)
  refine s_bipush (97 : Int32) dX9_nextToken_117 (by decide) ?_
  refine s_icmp_lt 188 dX9_nextToken_119 (by decide) (fun _ => ?_) (fun _ => ?_)
  · exact s_less (t_X9_nextToken_188 x0  S3) (And.intro rfl trivial)
  · refine s_aload_n 0 dX9_nextToken_122 rfl rfl ?_
    refine s_aload_n 0 dX9_nextToken_123 rfl rfl ?_
    refine s_getI fk_X9_121 rfl dX9_nextToken_124 (fun v4 => ?_)
    refine s_cV1I mk_X9_137 (by decide) rfl (fun v9 S9 h9 => con_X9_signAt F _ _ _ v9 S9 h9) ⟨by omega, by omega⟩ (Nat.le_of_ble_eq_true rfl) dX9_nextToken_127 (fun v5 S6 => ?_)
    refine s_bipush (122 : Int32) dX9_nextToken_130 (by decide) ?_
    refine s_icmp_gt 188 dX9_nextToken_132 (by decide) (fun _ => ?_) (fun _ => ?_)
    · exact s_less (t_X9_nextToken_188 x0  S6) (And.intro rfl trivial)
    · refine s_aload_n 0 dX9_nextToken_135 rfl rfl ?_
      refine s_getI fk_X9_121 rfl dX9_nextToken_136 (fun v7 => ?_)
      refine s_aload_n 0 dX9_nextToken_139 rfl rfl ?_
      refine s_getI fk_X9_124 rfl dX9_nextToken_140 (fun v8 => ?_)
      refine s_isub dX9_nextToken_143 ?_
      refine s_bipush (8 : Int32) dX9_nextToken_144 (by decide) ?_
      refine s_icmp_ge 175 dX9_nextToken_146 (by decide) (fun _ => ?_) (fun _ => ?_)
      · exact s_less (t_X9_nextToken_175 hk109 x0  S6) (And.intro rfl trivial)
      · refine s_aload_n 0 dX9_nextToken_149 rfl rfl ?_
        refine s_aload_n 0 dX9_nextToken_150 rfl rfl ?_
        refine s_getJ fk_X9_127 rfl dX9_nextToken_151 (fun v9 => ?_)
        refine s_ldc2 (v := (27 : Int64)) dX9_nextToken_154 (lw_in 1200 (by decide +kernel) (by decide +kernel)) ?_
        refine s_lmul dX9_nextToken_157 ?_
        refine s_aload_n 0 dX9_nextToken_158 rfl rfl ?_
        refine s_aload_n 0 dX9_nextToken_159 rfl rfl ?_
        refine s_getI fk_X9_121 rfl dX9_nextToken_160 (fun v10 => ?_)
        refine s_cV1I mk_X9_137 (by decide) rfl (fun v9 S9 h9 => con_X9_signAt F _ _ _ v9 S9 h9) ⟨by omega, by omega⟩ (Nat.le_of_ble_eq_true rfl) dX9_nextToken_163 (fun v11 S12 => ?_)
        refine s_i2l dX9_nextToken_166 ?_
        refine s_ladd dX9_nextToken_167 ?_
        refine s_ldc2 (v := (96 : Int64)) dX9_nextToken_168 (lw_in 1201 (by decide +kernel) (by decide +kernel)) ?_
        refine s_lsub dX9_nextToken_171 ?_
        refine s_putJ fk_X9_127 (Or.inl rfl) rfl dX9_nextToken_172 (fun S13 => ?_)
        exact s_less (t_X9_nextToken_175 hk109 x0  S13) (And.intro rfl trivial)
set_option maxRecDepth 100000 in
theorem t_X9_nextToken_52 {Γ : Cx} {F : Nat} : ∀ (x0 : Nat) (S : Mem), Sim cX9_nextToken RX9 1 21 none false Γ rV (f_X9_nextToken_52 F x0 S) S 52 [some (.ref x0), none] [] := by
  intro x0 S
  unfold f_X9_nextToken_52
  refine s_aload_n 0 dX9_nextToken_52 rfl rfl ?_
  refine s_aload_n 0 dX9_nextToken_53 rfl rfl ?_
  refine s_getI fk_X9_121 rfl dX9_nextToken_54 (fun v1 => ?_)
  refine s_putI fk_X9_124 (Or.inl rfl) rfl dX9_nextToken_57 (fun S2 => ?_)
  refine s_aload_n 0 dX9_nextToken_60 rfl rfl ?_
  refine s_lconst (0 : Int64) dX9_nextToken_61 (by decide) ?_
  refine s_putJ fk_X9_127 (Or.inl rfl) rfl dX9_nextToken_62 (fun S3 => ?_)
  refine s_aload_n 0 dX9_nextToken_65 rfl rfl ?_
  refine s_iconst (0 : Int32) dX9_nextToken_66 (by decide) ?_
  refine s_putI fk_X9_131 (Or.inl rfl) rfl dX9_nextToken_67 (fun S4 => ?_)
  refine s_aload_n 0 dX9_nextToken_70 rfl rfl ?_
  refine s_getI fk_X9_121 rfl dX9_nextToken_71 (fun v5 => ?_)
  refine s_aload_n 0 dX9_nextToken_74 rfl rfl ?_
  refine s_getI fk_X9_118 rfl dX9_nextToken_75 (fun v6 => ?_)
  refine s_icmp_ne 87 dX9_nextToken_78 (by decide) (fun _ => ?_) (fun _ => ?_)
  · refine s_aload_n 0 dX9_nextToken_87 rfl rfl ?_
    refine s_getR fk_X9_7 rfl dX9_nextToken_88 (fun v7 => ?_)
    refine s_aload_n 0 dX9_nextToken_91 rfl rfl ?_
    refine s_getI fk_X9_121 rfl dX9_nextToken_92 (fun v8 => ?_)
    refine s_iald dX9_nextToken_95 (fun v9 => ?_)
    refine s_istore_1 dX9_nextToken_96 rfl ?_
    refine s_iload_n 1 dX9_nextToken_97 rfl rfl ?_
    refine s_bipush (97 : Int32) dX9_nextToken_98 (by decide) ?_
    refine s_icmp_lt 212 dX9_nextToken_100 (by decide) (fun _ => ?_) (fun _ => ?_)
    · exact s_less (t_X9_nextToken_212 x0 v9  S4) (And.intro rfl (And.intro rfl trivial))
    · refine s_iload_n 1 dX9_nextToken_103 rfl rfl ?_
      refine s_bipush (122 : Int32) dX9_nextToken_104 (by decide) ?_
      refine s_icmp_gt 212 dX9_nextToken_106 (by decide) (fun _ => ?_) (fun _ => ?_)
      · exact s_less (t_X9_nextToken_212 x0 v9  S4) (And.intro rfl (And.intro rfl trivial))
      · exact s_less (t_X9_nextToken_109 F x0 S4) (And.intro rfl trivial)
  · refine s_aload_n 0 dX9_nextToken_81 rfl rfl ?_
    refine s_iconst (0 : Int32) dX9_nextToken_82 (by decide) ?_
    refine s_putI fk_X9_134 (Or.inl rfl) rfl dX9_nextToken_83 (fun S10 => ?_)
    exact s_vret dX9_nextToken_86
set_option maxRecDepth 100000 in
theorem t_X9_nextToken_39 {Γ : Cx} {F : Nat} {k0 : Nat → Mem → Option (Unit × Mem)} (hk0 : ∀ (x0 : Nat) (S : Mem), Sim cX9_nextToken RX9 1 21 none false Γ rV (k0 x0 S) S 0 [some (.ref x0), none] []) : ∀ (x0 : Nat) (S : Mem), Sim cX9_nextToken RX9 1 21 none false Γ rV (f_X9_nextToken_39 F k0 x0 S) S 39 [some (.ref x0), none] [] := by
  intro x0 S
  unfold f_X9_nextToken_39
  refine s_aload_n 0 dX9_nextToken_39 rfl rfl ?_
  refine s_dup dX9_nextToken_40 rfl ?_
  refine s_getI fk_X9_121 rfl dX9_nextToken_41 (fun v1 => ?_)
  refine s_iconst (1 : Int32) dX9_nextToken_44 (by decide) ?_
  refine s_iadd dX9_nextToken_45 ?_
  refine s_putI fk_X9_121 (Or.inl rfl) rfl dX9_nextToken_46 (fun S2 => ?_)
  refine s_goto 0 dX9_nextToken_49 (by decide) ?_
  exact s_less (hk0 x0 S2) (And.intro rfl trivial)
set_option maxRecDepth 100000 in
theorem t_X9_nextToken_0 {Γ : Cx} {F : Nat} : ∀ (f : Nat) (x0 : Nat) (S : Mem), Sim cX9_nextToken RX9 1 21 none false Γ rV (fix1 (b_X9_nextToken_0 F) f x0 S) S 0 [some (.ref x0), none] [] := by
  refine s_fix1 (fun (x0 : Nat) => [some (.ref x0), none]) (fun k0 hk0 => ?_)
  intro x0 S
  unfold b_X9_nextToken_0
  refine s_aload_n 0 dX9_nextToken_0 rfl rfl ?_
  refine s_getI fk_X9_121 rfl dX9_nextToken_1 (fun v1 => ?_)
  refine s_aload_n 0 dX9_nextToken_4 rfl rfl ?_
  refine s_getI fk_X9_118 rfl dX9_nextToken_5 (fun v2 => ?_)
  refine s_icmp_ge 52 dX9_nextToken_8 (by decide) (fun _ => ?_) (fun _ => ?_)
  · exact s_less (t_X9_nextToken_52 x0  S) (And.intro rfl trivial)
  · refine s_aload_n 0 dX9_nextToken_11 rfl rfl ?_
    refine s_getR fk_X9_7 rfl dX9_nextToken_12 (fun v3 => ?_)
    refine s_aload_n 0 dX9_nextToken_15 rfl rfl ?_
    refine s_getI fk_X9_121 rfl dX9_nextToken_16 (fun v4 => ?_)
    refine s_iald dX9_nextToken_19 (fun v5 => ?_)
    refine s_bipush (32 : Int32) dX9_nextToken_20 (by decide) ?_
    refine s_icmp_eq 39 dX9_nextToken_22 (by decide) (fun _ => ?_) (fun _ => ?_)
    · exact s_less (t_X9_nextToken_39 hk0 x0  S) (And.intro rfl trivial)
    · refine s_aload_n 0 dX9_nextToken_25 rfl rfl ?_
      refine s_getR fk_X9_7 rfl dX9_nextToken_26 (fun v6 => ?_)
      refine s_aload_n 0 dX9_nextToken_29 rfl rfl ?_
      refine s_getI fk_X9_121 rfl dX9_nextToken_30 (fun v7 => ?_)
      refine s_iald dX9_nextToken_33 (fun v8 => ?_)
      refine s_bipush (10 : Int32) dX9_nextToken_34 (by decide) ?_
      refine s_icmp_ne 52 dX9_nextToken_36 (by decide) (fun _ => ?_) (fun _ => ?_)
      · exact s_less (t_X9_nextToken_52 x0  S) (And.intro rfl trivial)
      · exact s_less (t_X9_nextToken_39 hk0 x0  S) (And.intro rfl trivial)
set_option maxRecDepth 100000 in
theorem con_X9_nextToken {l : Launch} (F : Nat) (x0 : Nat) (S : Mem) (v : Unit) (S1 : Mem) (h : fn_X9_nextToken F x0 S = some (v, S1)) : Con l yX9_nextToken cX9_nextToken 2 none 1 21 [.ref x0] S (rV v) S1 := by
  refine con_of (ι := rV) RX9 false [some (.ref x0), none] rfl (fun h => by cases h) (by decide) (Nat.le_of_ble_eq_true rfl) ⟨rfl, rfl⟩ (fun Γ hl => ?_) h
  unfold fn_X9_nextToken
  exact s_less (t_X9_nextToken_0 F x0 S) (And.intro rfl trivial)
-- X9_isWord
def f_X9_isWord_22 (F : Nat) (y0 : Int32) (S : Mem) : Option (Int32 × Mem) :=
  rz y0 S
def f_X9_isWord_21 (F : Nat)  (S : Mem) : Option (Int32 × Mem) :=
  f_X9_isWord_22 F  (0 : Int32) S
def fn_X9_isWord (F : Nat) (x0 : Nat) (x1 : Int64) (S : Mem) : Option (Int32 × Mem) :=
  (gI S 8 6 x0).bind fun v1 =>
  if v1 = (1 : Int32) then
    (gJ S 8 7 x0).bind fun v2 =>
    if (lg_cmp v2 x1) = 0 then
      f_X9_isWord_22 F  (1 : Int32) S
    else
      f_X9_isWord_21 F   S
  else
    f_X9_isWord_21 F   S
set_option maxRecDepth 100000 in
theorem t_X9_isWord_22 {Γ : Cx} {F : Nat} : ∀ (y0 : Int32) (S : Mem), Sim cX9_isWord RX9 0 0 (some .boolean) false Γ rI (f_X9_isWord_22 F y0 S) S 22 [none, none, none] [.int y0] := by
  intro y0 S
  unfold f_X9_isWord_22
  exact s_zret dX9_isWord_22
set_option maxRecDepth 100000 in
theorem t_X9_isWord_21 {Γ : Cx} {F : Nat} : ∀ (S : Mem), Sim cX9_isWord RX9 0 0 (some .boolean) false Γ rI (f_X9_isWord_21 F  S) S 21 [none, none, none] [] := by
  intro  S
  unfold f_X9_isWord_21
  refine s_iconst (0 : Int32) dX9_isWord_21 (by decide) ?_
  exact s_less (t_X9_isWord_22  (0 : Int32) S) trivial
set_option maxRecDepth 100000 in
theorem con_X9_isWord {l : Launch} (F : Nat) (x0 : Nat) (x1 : Int64) (S : Mem) (v : Int32) (S1 : Mem) (h : fn_X9_isWord F x0 x1 S = some (v, S1)) : Con l yX9_isWord cX9_isWord 3 (some .boolean) 0 0 [.ref x0, .long x1] S (rI v) S1 := by
  refine con_of (ι := rI) RX9 false [some (.ref x0), some (.long x1), none] rfl (fun h => by cases h) (by decide) (Nat.le_of_ble_eq_true rfl) ⟨rfl, rfl⟩ (fun Γ hl => ?_) h
  unfold fn_X9_isWord
  refine s_aload_n 0 dX9_isWord_0 rfl rfl ?_
  refine s_getI fk_X9_134 rfl dX9_isWord_1 (fun v1 => ?_)
  refine s_iconst (1 : Int32) dX9_isWord_4 (by decide) ?_
  refine s_icmp_ne 21 dX9_isWord_5 (by decide) (fun _ => ?_) (fun _ => ?_)
  · exact s_less (t_X9_isWord_21   S) trivial
  · refine s_aload_n 0 dX9_isWord_8 rfl rfl ?_
    refine s_getJ fk_X9_127 rfl dX9_isWord_9 (fun v2 => ?_)
    refine s_lload_n 1 dX9_isWord_12 rfl rfl ?_
    refine s_lcmp dX9_isWord_13 ?_
    refine s_if_ne 21 dX9_isWord_14 (by decide) (fun _ => ?_) (fun _ => ?_)
    · exact s_less (t_X9_isWord_21   S) trivial
    · refine s_iconst (1 : Int32) dX9_isWord_17 (by decide) ?_
      refine s_goto 22 dX9_isWord_18 (by decide) ?_
      exact s_less (t_X9_isWord_22  (1 : Int32) S) trivial
-- X9_isSign
def f_X9_isSign_26 (F : Nat) (y0 : Int32) (S : Mem) : Option (Int32 × Mem) :=
  rz y0 S
def f_X9_isSign_25 (F : Nat)  (S : Mem) : Option (Int32 × Mem) :=
  f_X9_isSign_26 F  (0 : Int32) S
def fn_X9_isSign (F : Nat) (x0 : Nat) (x1 : Int32) (S : Mem) : Option (Int32 × Mem) :=
  (gI S 8 6 x0).bind fun v1 =>
  if v1 = (3 : Int32) then
    (gR S 8 2 x0).bind fun v2 =>
    (gI S 8 5 x0).bind fun v3 =>
    (gA S 10 v2 v3).bind fun v4 =>
    if v4 = x1 then
      f_X9_isSign_26 F  (1 : Int32) S
    else
      f_X9_isSign_25 F   S
  else
    f_X9_isSign_25 F   S
set_option maxRecDepth 100000 in
theorem t_X9_isSign_26 {Γ : Cx} {F : Nat} : ∀ (y0 : Int32) (S : Mem), Sim cX9_isSign RX9 0 0 (some .boolean) false Γ rI (f_X9_isSign_26 F y0 S) S 26 [none, none] [.int y0] := by
  intro y0 S
  unfold f_X9_isSign_26
  exact s_zret dX9_isSign_26
set_option maxRecDepth 100000 in
theorem t_X9_isSign_25 {Γ : Cx} {F : Nat} : ∀ (S : Mem), Sim cX9_isSign RX9 0 0 (some .boolean) false Γ rI (f_X9_isSign_25 F  S) S 25 [none, none] [] := by
  intro  S
  unfold f_X9_isSign_25
  refine s_iconst (0 : Int32) dX9_isSign_25 (by decide) ?_
  exact s_less (t_X9_isSign_26  (0 : Int32) S) trivial
set_option maxRecDepth 100000 in
theorem con_X9_isSign {l : Launch} (F : Nat) (x0 : Nat) (x1 : Int32) (S : Mem) (v : Int32) (S1 : Mem) (h : fn_X9_isSign F x0 x1 S = some (v, S1)) : Con l yX9_isSign cX9_isSign 2 (some .boolean) 0 0 [.ref x0, .int x1] S (rI v) S1 := by
  refine con_of (ι := rI) RX9 false [some (.ref x0), some (.int x1)] rfl (fun h => by cases h) (by decide) (Nat.le_of_ble_eq_true rfl) ⟨rfl, rfl⟩ (fun Γ hl => ?_) h
  unfold fn_X9_isSign
  refine s_aload_n 0 dX9_isSign_0 rfl rfl ?_
  refine s_getI fk_X9_134 rfl dX9_isSign_1 (fun v1 => ?_)
  refine s_iconst (3 : Int32) dX9_isSign_4 (by decide) ?_
  refine s_icmp_ne 25 dX9_isSign_5 (by decide) (fun _ => ?_) (fun _ => ?_)
  · exact s_less (t_X9_isSign_25   S) trivial
  · refine s_aload_n 0 dX9_isSign_8 rfl rfl ?_
    refine s_getR fk_X9_7 rfl dX9_isSign_9 (fun v2 => ?_)
    refine s_aload_n 0 dX9_isSign_12 rfl rfl ?_
    refine s_getI fk_X9_124 rfl dX9_isSign_13 (fun v3 => ?_)
    refine s_iald dX9_isSign_16 (fun v4 => ?_)
    refine s_iload_n 1 dX9_isSign_17 rfl rfl ?_
    refine s_icmp_ne 25 dX9_isSign_18 (by decide) (fun _ => ?_) (fun _ => ?_)
    · exact s_less (t_X9_isSign_25   S) trivial
    · refine s_iconst (1 : Int32) dX9_isSign_21 (by decide) ?_
      refine s_goto 26 dX9_isSign_22 (by decide) ?_
      exact s_less (t_X9_isSign_26  (1 : Int32) S) trivial
-- X9_fails
def fn_X9_fails (F : Nat) (x0 : Nat) (x1 : Int32) (S : Mem) : Option (Int32 × Mem) :=
  (gI S 8 5 x0).bind fun v1 =>
  (sI S 8 9 x0 (x1 + ((16 : Int32) * v1))).bind fun S2 =>
  rz (0 : Int32) S2
set_option maxRecDepth 100000 in
theorem con_X9_fails {l : Launch} (F : Nat) (x0 : Nat) (x1 : Int32) (S : Mem) (v : Int32) (S1 : Mem) (h : fn_X9_fails F x0 x1 S = some (v, S1)) : Con l yX9_fails cX9_fails 2 (some .boolean) 0 0 [.ref x0, .int x1] S (rI v) S1 := by
  refine con_of (ι := rI) RX9 false [some (.ref x0), some (.int x1)] rfl (fun h => by cases h) (by decide) (Nat.le_of_ble_eq_true rfl) ⟨rfl, rfl⟩ (fun Γ hl => ?_) h
  unfold fn_X9_fails
  refine s_aload_n 0 dX9_fails_0 rfl rfl ?_
  refine s_iload_n 1 dX9_fails_1 rfl rfl ?_
  refine s_bipush (16 : Int32) dX9_fails_2 (by decide) ?_
  refine s_aload_n 0 dX9_fails_4 rfl rfl ?_
  refine s_getI fk_X9_124 rfl dX9_fails_5 (fun v1 => ?_)
  refine s_imul dX9_fails_8 ?_
  refine s_iadd dX9_fails_9 ?_
  refine s_putI fk_X9_145 (Or.inl rfl) rfl dX9_fails_10 (fun S2 => ?_)
  refine s_iconst (0 : Int32) dX9_fails_13 (by decide) ?_
  exact s_zret dX9_fails_14
-- X9_puts
def fn_X9_puts (F : Nat) (x0 : Nat) (x1 : Int32) (S : Mem) : Option (Unit × Mem) :=
  (gR S 8 19 x0).bind fun v1 =>
  (gI S 8 20 x0).bind fun v2 =>
  (sA S v1 v2 x1).bind fun S3 =>
  (gI S3 8 20 x0).bind fun v4 =>
  (sI S3 8 20 x0 (v4 + (1 : Int32))).bind fun S5 =>
  some ((), S5)
set_option maxRecDepth 100000 in
theorem con_X9_puts {l : Launch} (F : Nat) (x0 : Nat) (x1 : Int32) (S : Mem) (v : Unit) (S1 : Mem) (h : fn_X9_puts F x0 x1 S = some (v, S1)) : Con l yX9_puts cX9_puts 2 none 0 0 [.ref x0, .int x1] S (rV v) S1 := by
  refine con_of (ι := rV) RX9 false [some (.ref x0), some (.int x1)] rfl (fun h => by cases h) (by decide) (Nat.le_of_ble_eq_true rfl) ⟨rfl, rfl⟩ (fun Γ hl => ?_) h
  unfold fn_X9_puts
  refine s_aload_n 0 dX9_puts_0 rfl rfl ?_
  refine s_getR fk_X9_41 rfl dX9_puts_1 (fun v1 => ?_)
  refine s_aload_n 0 dX9_puts_4 rfl rfl ?_
  refine s_getI fk_X9_148 rfl dX9_puts_5 (fun v2 => ?_)
  refine s_iload_n 1 dX9_puts_8 rfl rfl ?_
  refine s_iast dX9_puts_9 (fun S3 => ?_)
  refine s_aload_n 0 dX9_puts_10 rfl rfl ?_
  refine s_dup dX9_puts_11 rfl ?_
  refine s_getI fk_X9_148 rfl dX9_puts_12 (fun v4 => ?_)
  refine s_iconst (1 : Int32) dX9_puts_15 (by decide) ?_
  refine s_iadd dX9_puts_16 ?_
  refine s_putI fk_X9_148 (Or.inl rfl) rfl dX9_puts_17 (fun S5 => ?_)
  exact s_vret dX9_puts_20
-- X9_fact
def fn_X9_fact (F : Nat) (x0 : Nat) (S : Mem) : Option (Int32 × Mem) :=
  (gI S 8 6 x0).bind fun v1 =>
  if v1 = (1 : Int32) then
    (gI S 8 22 x0).bind fun v2 =>
    if v2 = 0 then
      (gJ S 8 7 x0).bind fun v3 =>
      if (lg_cmp v3 (164222 : Int64)) = 0 then
        some ((1 : Int32), S)
      else
        (gJ S 8 7 x0).bind fun v4 =>
        if (lg_cmp v4 (191610176 : Int64)) = 0 then
          some ((2 : Int32), S)
        else
          (gJ S 8 7 x0).bind fun v5 =>
          if (lg_cmp v5 (153623 : Int64)) = 0 then
            some ((3 : Int32), S)
          else
            some ((0 : Int32), S)
    else
      (gJ S 8 7 x0).bind fun v6 =>
      if (lg_cmp v6 (247516 : Int64)) = 0 then
        some ((1 : Int32), S)
      else
        (gJ S 8 7 x0).bind fun v7 =>
        if (lg_cmp v7 (330573 : Int64)) = 0 then
          some ((2 : Int32), S)
        else
          (gJ S 8 7 x0).bind fun v8 =>
          if (lg_cmp v8 (164222 : Int64)) = 0 then
            some ((3 : Int32), S)
          else
            (gJ S 8 7 x0).bind fun v9 =>
            if (lg_cmp v9 (239882 : Int64)) = 0 then
              some ((4 : Int32), S)
            else
              (gJ S 8 7 x0).bind fun v10 =>
              if (lg_cmp v10 (459652 : Int64)) = 0 then
                some ((5 : Int32), S)
              else
                (gJ S 8 7 x0).bind fun v11 =>
                if (lg_cmp v11 (191610176 : Int64)) = 0 then
                  some ((6 : Int32), S)
                else
                  some ((0 : Int32), S)
  else
    some ((0 : Int32), S)
set_option maxRecDepth 100000 in
theorem con_X9_fact {l : Launch} (F : Nat) (x0 : Nat) (S : Mem) (v : Int32) (S1 : Mem) (h : fn_X9_fact F x0 S = some (v, S1)) : Con l yX9_fact cX9_fact 1 (some .int) 0 0 [.ref x0] S (rI v) S1 := by
  refine con_of (ι := rI) RX9 false [some (.ref x0)] rfl (fun h => by cases h) (by decide) (Nat.le_of_ble_eq_true rfl) ⟨rfl, rfl⟩ (fun Γ hl => ?_) h
  unfold fn_X9_fact
  refine s_aload_n 0 dX9_fact_0 rfl rfl ?_
  refine s_getI fk_X9_134 rfl dX9_fact_1 (fun v1 => ?_)
  refine s_iconst (1 : Int32) dX9_fact_4 (by decide) ?_
  refine s_icmp_eq 10 dX9_fact_5 (by decide) (fun _ => ?_) (fun _ => ?_)
  · refine s_aload_n 0 dX9_fact_10 rfl rfl ?_
    refine s_getI fk_X9_151 rfl dX9_fact_11 (fun v2 => ?_)
    refine s_if_eq 98 dX9_fact_14 (by decide) (fun _ => ?_) (fun _ => ?_)
    · refine s_aload_n 0 dX9_fact_98 rfl rfl ?_
      refine s_getJ fk_X9_127 rfl dX9_fact_99 (fun v3 => ?_)
      refine s_ldc2 (v := (164222 : Int64)) dX9_fact_102 (lw_in 1225 (by decide +kernel) (by decide +kernel)) ?_
      refine s_lcmp dX9_fact_105 ?_
      refine s_if_ne 111 dX9_fact_106 (by decide) (fun _ => ?_) (fun _ => ?_)
      · refine s_aload_n 0 dX9_fact_111 rfl rfl ?_
        refine s_getJ fk_X9_127 rfl dX9_fact_112 (fun v4 => ?_)
        refine s_ldc2 (v := (191610176 : Int64)) dX9_fact_115 (lw_in 1227 (by decide +kernel) (by decide +kernel)) ?_
        refine s_lcmp dX9_fact_118 ?_
        refine s_if_ne 124 dX9_fact_119 (by decide) (fun _ => ?_) (fun _ => ?_)
        · refine s_aload_n 0 dX9_fact_124 rfl rfl ?_
          refine s_getJ fk_X9_127 rfl dX9_fact_125 (fun v5 => ?_)
          refine s_ldc2 (v := (153623 : Int64)) dX9_fact_128 (lw_in 1228 (by decide +kernel) (by decide +kernel)) ?_
          refine s_lcmp dX9_fact_131 ?_
          refine s_if_ne 137 dX9_fact_132 (by decide) (fun _ => ?_) (fun _ => ?_)
          · refine s_iconst (0 : Int32) dX9_fact_137 (by decide) ?_
            exact s_iret dX9_fact_138
          · refine s_iconst (3 : Int32) dX9_fact_135 (by decide) ?_
            exact s_iret dX9_fact_136
        · refine s_iconst (2 : Int32) dX9_fact_122 (by decide) ?_
          exact s_iret dX9_fact_123
      · refine s_iconst (1 : Int32) dX9_fact_109 (by decide) ?_
        exact s_iret dX9_fact_110
    · refine s_aload_n 0 dX9_fact_17 rfl rfl ?_
      refine s_getJ fk_X9_127 rfl dX9_fact_18 (fun v6 => ?_)
      refine s_ldc2 (v := (247516 : Int64)) dX9_fact_21 (lw_in 1223 (by decide +kernel) (by decide +kernel)) ?_
      refine s_lcmp dX9_fact_24 ?_
      refine s_if_ne 30 dX9_fact_25 (by decide) (fun _ => ?_) (fun _ => ?_)
      · refine s_aload_n 0 dX9_fact_30 rfl rfl ?_
        refine s_getJ fk_X9_127 rfl dX9_fact_31 (fun v7 => ?_)
        refine s_ldc2 (v := (330573 : Int64)) dX9_fact_34 (lw_in 1224 (by decide +kernel) (by decide +kernel)) ?_
        refine s_lcmp dX9_fact_37 ?_
        refine s_if_ne 43 dX9_fact_38 (by decide) (fun _ => ?_) (fun _ => ?_)
        · refine s_aload_n 0 dX9_fact_43 rfl rfl ?_
          refine s_getJ fk_X9_127 rfl dX9_fact_44 (fun v8 => ?_)
          refine s_ldc2 (v := (164222 : Int64)) dX9_fact_47 (lw_in 1225 (by decide +kernel) (by decide +kernel)) ?_
          refine s_lcmp dX9_fact_50 ?_
          refine s_if_ne 56 dX9_fact_51 (by decide) (fun _ => ?_) (fun _ => ?_)
          · refine s_aload_n 0 dX9_fact_56 rfl rfl ?_
            refine s_getJ fk_X9_127 rfl dX9_fact_57 (fun v9 => ?_)
            refine s_ldc2 (v := (239882 : Int64)) dX9_fact_60 (lw_in 1226 (by decide +kernel) (by decide +kernel)) ?_
            refine s_lcmp dX9_fact_63 ?_
            refine s_if_ne 69 dX9_fact_64 (by decide) (fun _ => ?_) (fun _ => ?_)
            · refine s_aload_n 0 dX9_fact_69 rfl rfl ?_
              refine s_getJ fk_X9_127 rfl dX9_fact_70 (fun v10 => ?_)
              refine s_ldc2 (v := (459652 : Int64)) dX9_fact_73 (lw_in 1202 (by decide +kernel) (by decide +kernel)) ?_
              refine s_lcmp dX9_fact_76 ?_
              refine s_if_ne 82 dX9_fact_77 (by decide) (fun _ => ?_) (fun _ => ?_)
              · refine s_aload_n 0 dX9_fact_82 rfl rfl ?_
                refine s_getJ fk_X9_127 rfl dX9_fact_83 (fun v11 => ?_)
                refine s_ldc2 (v := (191610176 : Int64)) dX9_fact_86 (lw_in 1227 (by decide +kernel) (by decide +kernel)) ?_
                refine s_lcmp dX9_fact_89 ?_
                refine s_if_ne 96 dX9_fact_90 (by decide) (fun _ => ?_) (fun _ => ?_)
                · refine s_iconst (0 : Int32) dX9_fact_96 (by decide) ?_
                  exact s_iret dX9_fact_97
                · refine s_bipush (6 : Int32) dX9_fact_93 (by decide) ?_
                  exact s_iret dX9_fact_95
              · refine s_iconst (5 : Int32) dX9_fact_80 (by decide) ?_
                exact s_iret dX9_fact_81
            · refine s_iconst (4 : Int32) dX9_fact_67 (by decide) ?_
              exact s_iret dX9_fact_68
          · refine s_iconst (3 : Int32) dX9_fact_54 (by decide) ?_
            exact s_iret dX9_fact_55
        · refine s_iconst (2 : Int32) dX9_fact_41 (by decide) ?_
          exact s_iret dX9_fact_42
      · refine s_iconst (1 : Int32) dX9_fact_28 (by decide) ?_
        exact s_iret dX9_fact_29
  · refine s_iconst (0 : Int32) dX9_fact_8 (by decide) ?_
    exact s_iret dX9_fact_9
-- X9_reads
def f_X9_reads_424 (F : Nat) (k11 : Nat → Int32 → Int32 → Mem → Option (Int32 × Mem)) (x0 : Nat) (x1 : Int32) (x2 : Int32) (S : Mem) : Option (Int32 × Mem) :=
  bd (cal S 8 x0 (fn_X9_nextToken F x0 S)) fun _ S2 =>
  k11 x0 x1 x2 S2
def f_X9_reads_418 (F : Nat) (x0 : Nat) (S : Mem) : Option (Int32 × Mem) :=
  bd (cal S 8 x0 (fn_X9_fails F x0 (1 : Int32) S)) fun v1 S2 =>
  rz v1 S2
def f_X9_reads_399 (F : Nat) (x0 : Nat) (x1 : Int32) (S : Mem) : Option (Int32 × Mem) :=
  if x1 = 0 then
    bd (cal S 8 x0 (fn_X9_isSign F x0 (59 : Int32) S)) fun v1 S2 =>
    if v1 = 0 then
      f_X9_reads_418 F x0  S2
    else
      bd (cal S2 8 x0 (fn_X9_nextToken F x0 S2)) fun _ S4 =>
      rz (1 : Int32) S4
  else
    f_X9_reads_418 F x0  S
def b_X9_reads_379 (F : Nat) (k11 : Nat → Int32 → Int32 → Mem → Option (Int32 × Mem)) (k379 : Nat → Int32 → Int32 → Mem → Option (Int32 × Mem)) (x0 : Nat) (x1 : Int32) (x2 : Int32) (S : Mem) : Option (Int32 × Mem) :=
  if x1 ≤ 0 then
    f_X9_reads_424 F k11 x0 x1 x2  S
  else
    (gR S 8 23 x0).bind fun v1 =>
    (gA S 10 v1 x1).bind fun v2 =>
    if v2 = (1 : Int32) then
      k379 x0 (x1 + (-1 : Int32)) x2 S
    else
      f_X9_reads_424 F k11 x0 x1 x2  S
def f_X9_reads_342 (F : Nat) (k11 : Nat → Int32 → Int32 → Mem → Option (Int32 × Mem)) (x0 : Nat) (x1 : Int32) (y0 : Nat) (y1 : Int32) (S : Mem) : Option (Int32 × Mem) :=
  bd (cal S 8 y0 (fn_X9_puts F y0 y1 S)) fun _ S2 =>
  (gR S2 8 24 x0).bind fun v3 =>
  (sAZ S2 v3 x1 (0 : Int32)).bind fun S4 =>
  f_X9_reads_424 F k11 x0 x1 (1 : Int32)  S4
def f_X9_reads_324 (F : Nat) (k11 : Nat → Int32 → Int32 → Mem → Option (Int32 × Mem)) (x0 : Nat) (x1 : Int32) (S : Mem) : Option (Int32 × Mem) :=
  bd (cal S 8 x0 (fn_X9_isWord F x0 (1111 : Int64) S)) fun v1 S2 =>
  if v1 = 0 then
    f_X9_reads_342 F k11 x0 x1 x0 (27 : Int32) S2
  else
    f_X9_reads_342 F k11 x0 x1 x0 (26 : Int32) S2
def f_X9_reads_304 (F : Nat) (k11 : Nat → Int32 → Int32 → Mem → Option (Int32 × Mem)) (x0 : Nat) (x1 : Int32) (x2 : Int32) (S : Mem) : Option (Int32 × Mem) :=
  bd (cal S 8 x0 (fn_X9_isWord F x0 (1111 : Int64) S)) fun v1 S2 =>
  if v1 = 0 then
    bd (cal S2 8 x0 (fn_X9_isWord F x0 (423 : Int64) S2)) fun v3 S4 =>
    if v3 = 0 then
      bd (cal S4 8 x0 (fn_X9_isSign F x0 (41 : Int32) S4)) fun v5 S6 =>
      if v5 = 0 then
        f_X9_reads_399 F x0 x1  S6
      else
        if x1 ≤ 0 then
          f_X9_reads_399 F x0 x1  S6
        else
          bd (cal S6 8 x0 (fn_X9_puts F x0 (29 : Int32) S6)) fun _ S8 =>
          fix3 (b_X9_reads_379 F k11) F x0 (x1 + (-1 : Int32)) x2 S8
    else
      f_X9_reads_324 F k11 x0 x1  S4
  else
    f_X9_reads_324 F k11 x0 x1  S2
def f_X9_reads_289 (F : Nat) (k11 : Nat → Int32 → Int32 → Mem → Option (Int32 × Mem)) (x0 : Nat) (x1 : Int32) (y0 : Nat) (y1 : Int32) (S : Mem) : Option (Int32 × Mem) :=
  bd (cal S 8 y0 (fn_X9_puts F y0 y1 S)) fun _ S2 =>
  (gR S2 8 24 x0).bind fun v3 =>
  (sAZ S2 v3 x1 (1 : Int32)).bind fun S4 =>
  f_X9_reads_424 F k11 x0 x1 (1 : Int32)  S4
def f_X9_reads_263 (F : Nat) (k11 : Nat → Int32 → Int32 → Mem → Option (Int32 × Mem)) (x0 : Nat) (x1 : Int32) (x2 : Int32) (S : Mem) : Option (Int32 × Mem) :=
  (gR S 8 24 x0).bind fun v1 =>
  (gA S 12 v1 x1).bind fun v2 =>
  if v2 = 0 then
    bd (cal S 8 x0 (fn_X9_isSign F x0 (60 : Int32) S)) fun v3 S4 =>
    if v3 = 0 then
      f_X9_reads_289 F k11 x0 x1 x0 (25 : Int32) S4
    else
      f_X9_reads_289 F k11 x0 x1 x0 (24 : Int32) S4
  else
    f_X9_reads_304 F k11 x0 x1 x2  S
def f_X9_reads_237 (F : Nat) (k11 : Nat → Int32 → Int32 → Mem → Option (Int32 × Mem)) (x0 : Nat) (x1 : Int32) (y0 : Nat) (y1 : Int32) (S : Mem) : Option (Int32 × Mem) :=
  bd (cal S 8 y0 (fn_X9_puts F y0 y1 S)) fun _ S2 =>
  f_X9_reads_424 F k11 x0 x1 (1 : Int32)  S2
def f_X9_reads_206 (F : Nat) (k11 : Nat → Int32 → Int32 → Mem → Option (Int32 × Mem)) (x0 : Nat) (x1 : Int32) (S : Mem) : Option (Int32 × Mem) :=
  bd (cal S 8 x0 (fn_X9_isSign F x0 (43 : Int32) S)) fun v1 S2 =>
  if v1 = 0 then
    bd (cal S2 8 x0 (fn_X9_isSign F x0 (45 : Int32) S2)) fun v3 S4 =>
    if v3 = 0 then
      f_X9_reads_237 F k11 x0 x1 x0 (22 : Int32) S4
    else
      f_X9_reads_237 F k11 x0 x1 x0 (21 : Int32) S4
  else
    f_X9_reads_237 F k11 x0 x1 x0 (20 : Int32) S2
def f_X9_reads_172 (F : Nat) (k11 : Nat → Int32 → Int32 → Mem → Option (Int32 × Mem)) (x0 : Nat) (x1 : Int32) (x2 : Int32) (S : Mem) : Option (Int32 × Mem) :=
  bd (cal S 8 x0 (fn_X9_nextToken F x0 S)) fun _ S2 =>
  k11 x0 x1 x2 S2
def b_X9_reads_152 (F : Nat) (k11 : Nat → Int32 → Int32 → Mem → Option (Int32 × Mem)) (k152 : Nat → Int32 → Int32 → Mem → Option (Int32 × Mem)) (x0 : Nat) (x1 : Int32) (x2 : Int32) (S : Mem) : Option (Int32 × Mem) :=
  if x1 ≤ 0 then
    f_X9_reads_172 F k11 x0 x1 x2  S
  else
    (gR S 8 23 x0).bind fun v1 =>
    (gA S 10 v1 x1).bind fun v2 =>
    if v2 = (1 : Int32) then
      k152 x0 (x1 + (-1 : Int32)) x2 S
    else
      f_X9_reads_172 F k11 x0 x1 x2  S
def f_X9_reads_147 (F : Nat) (k11 : Nat → Int32 → Int32 → Mem → Option (Int32 × Mem)) (x0 : Nat) (x1 : Int32) (y0 : Nat) (y1 : Int32) (S : Mem) : Option (Int32 × Mem) :=
  bd (cal S 8 y0 (fn_X9_puts F y0 y1 S)) fun _ S2 =>
  fix3 (b_X9_reads_152 F k11) F x0 x1 (0 : Int32) S2
def f_X9_reads_120 (F : Nat) (k11 : Nat → Int32 → Int32 → Mem → Option (Int32 × Mem)) (x0 : Nat) (x1 : Int32) (x2 : Int32) (y0 : Nat) (y1 : Int32) (y2 : Int32) (S : Mem) : Option (Int32 × Mem) :=
  (sA S y0 y1 y2).bind fun S1 =>
  (gR S1 8 24 x0).bind fun v2 =>
  (sAZ S1 v2 x1 (0 : Int32)).bind fun S3 =>
  f_X9_reads_172 F k11 x0 x1 x2  S3
def f_X9_reads_99 (F : Nat) (k11 : Nat → Int32 → Int32 → Mem → Option (Int32 × Mem)) (x0 : Nat) (x1 : Int32) (x2 : Int32) (x4 : Int32) (y0 : Nat) (y1 : Int32) (S : Mem) : Option (Int32 × Mem) :=
  bd (cal S 8 y0 (fn_X9_puts F y0 y1 S)) fun _ S2 =>
  (gR S2 8 23 x0).bind fun v3 =>
  if x4 = 0 then
    f_X9_reads_120 F k11 x0 (x1 + (1 : Int32)) x2 v3 (x1 + (1 : Int32)) (2 : Int32) S2
  else
    f_X9_reads_120 F k11 x0 (x1 + (1 : Int32)) x2 v3 (x1 + (1 : Int32)) (1 : Int32) S2
def f_X9_reads_86 (F : Nat) (k11 : Nat → Int32 → Int32 → Mem → Option (Int32 × Mem)) (x0 : Nat) (x1 : Int32) (x2 : Int32) (x4 : Int32) (S : Mem) : Option (Int32 × Mem) :=
  if x4 = 0 then
    f_X9_reads_99 F k11 x0 x1 x2 x4 x0 (28 : Int32) S
  else
    f_X9_reads_99 F k11 x0 x1 x2 x4 x0 (30 : Int32) S
def f_X9_reads_65 (F : Nat) (k11 : Nat → Int32 → Int32 → Mem → Option (Int32 × Mem)) (x0 : Nat) (x1 : Int32) (x2 : Int32) (x3 : Int32) (x4 : Int32) (x5 : Int32) (S : Mem) : Option (Int32 × Mem) :=
  if x1 = (5 : Int32) then
    bd (cal S 8 x0 (fn_X9_fails F x0 (5 : Int32) S)) fun v2 S3 =>
    rz v2 S3
  else
    if x4 = 0 then
      if x5 = 0 then
        if x3 ≤ 0 then
          (gI S 8 8 x0).bind fun v1 =>
          f_X9_reads_147 F k11 x0 x1 x0 ((100 : Int32) + v1) S
        else
          f_X9_reads_147 F k11 x0 x1 x0 x3 S
      else
        f_X9_reads_86 F k11 x0 x1 x2 x4  S
    else
      f_X9_reads_86 F k11 x0 x1 x2 x4  S
def b_X9_reads_11 (F : Nat) (k11 : Nat → Int32 → Int32 → Mem → Option (Int32 × Mem)) (x0 : Nat) (x1 : Int32) (x2 : Int32) (S : Mem) : Option (Int32 × Mem) :=
  if x2 = 0 then
    bd (cal S 8 x0 (fn_X9_isSign F x0 (43 : Int32) S)) fun v1 S2 =>
    if v1 = 0 then
      bd (cal S2 8 x0 (fn_X9_isSign F x0 (45 : Int32) S2)) fun v3 S4 =>
      if v3 = 0 then
        bd (cal S4 8 x0 (fn_X9_isSign F x0 (42 : Int32) S4)) fun v5 S6 =>
        if v5 = 0 then
          bd (cal S6 8 x0 (fn_X9_isSign F x0 (60 : Int32) S6)) fun v7 S8 =>
          if v7 = 0 then
            bd (cal S8 8 x0 (fn_X9_isSign F x0 (61 : Int32) S8)) fun v9 S10 =>
            if v9 = 0 then
              f_X9_reads_304 F k11 x0 x1 x2  S10
            else
              f_X9_reads_263 F k11 x0 x1 x2  S10
          else
            f_X9_reads_263 F k11 x0 x1 x2  S8
        else
          f_X9_reads_206 F k11 x0 x1  S6
      else
        f_X9_reads_206 F k11 x0 x1  S4
    else
      f_X9_reads_206 F k11 x0 x1  S2
  else
    bd (cal S 8 x0 (fn_X9_fact F x0 S)) fun v11 S12 =>
    bd (cal S12 8 x0 (fn_X9_isWord F x0 (10631 : Int64) S12)) fun v13 S14 =>
    bd (cal S14 8 x0 (fn_X9_isSign F x0 (40 : Int32) S14)) fun v15 S16 =>
    if v11 = 0 then
      if v13 = 0 then
        if v15 = 0 then
          (gI S16 8 6 x0).bind fun v17 =>
          if v17 = (2 : Int32) then
            f_X9_reads_65 F k11 x0 x1 x2 v11 v13 v15  S16
          else
            bd (cal S16 8 x0 (fn_X9_fails F x0 (1 : Int32) S16)) fun v18 S19 =>
            rz v18 S19
        else
          f_X9_reads_65 F k11 x0 x1 x2 v11 v13 v15  S16
      else
        f_X9_reads_65 F k11 x0 x1 x2 v11 v13 v15  S16
    else
      f_X9_reads_65 F k11 x0 x1 x2 v11 v13 v15  S16
def fn_X9_reads (F : Nat) (x0 : Nat) (S : Mem) : Option (Int32 × Mem) :=
  (gR S 8 24 x0).bind fun v1 =>
  (sAZ S v1 (0 : Int32) (0 : Int32)).bind fun S2 =>
  fix3 (b_X9_reads_11 F) F x0 (0 : Int32) (1 : Int32) S2
set_option maxRecDepth 100000 in
theorem t_X9_reads_424 {Γ : Cx} {F : Nat} {k11 : Nat → Int32 → Int32 → Mem → Option (Int32 × Mem)} (hk11 : ∀ (x0 : Nat) (x1 : Int32) (x2 : Int32) (S : Mem), Sim cX9_reads RX9 2 42 (some .boolean) false Γ rI (k11 x0 x1 x2 S) S 11 [some (.ref x0), some (.int x1), some (.int x2), none, none, none] []) : ∀ (x0 : Nat) (x1 : Int32) (x2 : Int32) (S : Mem), Sim cX9_reads RX9 2 42 (some .boolean) false Γ rI (f_X9_reads_424 F k11 x0 x1 x2 S) S 424 [some (.ref x0), some (.int x1), some (.int x2), none, none, none] [] := by
  intro x0 x1 x2 S
  unfold f_X9_reads_424
  refine s_aload_n 0 dX9_reads_424 rfl rfl ?_
  refine s_cV0V mk_X9_189 (by decide) rfl (fun v9 S9 h9 => con_X9_nextToken F _ _ v9 S9 h9) ⟨by omega, by omega⟩ (Nat.le_of_ble_eq_true rfl) dX9_reads_425 (fun _ S2 => ?_)
  refine s_goto 11 dX9_reads_428 (by decide) ?_
  exact s_less (hk11 x0 x1 x2 S2) (And.intro rfl (And.intro rfl (And.intro rfl trivial)))
set_option maxRecDepth 100000 in
theorem t_X9_reads_418 {Γ : Cx} {F : Nat} : ∀ (x0 : Nat) (S : Mem), Sim cX9_reads RX9 2 42 (some .boolean) false Γ rI (f_X9_reads_418 F x0 S) S 418 [some (.ref x0), none, none, none, none, none] [] := by
  intro x0 S
  unfold f_X9_reads_418
  refine s_aload_n 0 dX9_reads_418 rfl rfl ?_
  refine s_iconst (1 : Int32) dX9_reads_419 (by decide) ?_
  refine s_cV1I mk_X9_183 (by decide) rfl (fun v9 S9 h9 => con_X9_fails F _ _ _ v9 S9 h9) ⟨by omega, by omega⟩ (Nat.le_of_ble_eq_true rfl) dX9_reads_420 (fun v1 S2 => ?_)
  exact s_zret dX9_reads_423
set_option maxRecDepth 100000 in
theorem t_X9_reads_399 {Γ : Cx} {F : Nat} : ∀ (x0 : Nat) (x1 : Int32) (S : Mem), Sim cX9_reads RX9 2 42 (some .boolean) false Γ rI (f_X9_reads_399 F x0 x1 S) S 399 [some (.ref x0), some (.int x1), none, none, none, none] [] := by
  intro x0 x1 S
  unfold f_X9_reads_399
  refine s_iload_n 1 dX9_reads_399 rfl rfl ?_
  refine s_if_ne 418 dX9_reads_400 (by decide) (fun _ => ?_) (fun _ => ?_)
  · exact s_less (t_X9_reads_418 x0  S) (And.intro rfl trivial)
  · refine s_aload_n 0 dX9_reads_403 rfl rfl ?_
    refine s_bipush (59 : Int32) dX9_reads_404 (by decide) ?_
    refine s_cV1I mk_X9_179 (by decide) rfl (fun v9 S9 h9 => con_X9_isSign F _ _ _ v9 S9 h9) ⟨by omega, by omega⟩ (Nat.le_of_ble_eq_true rfl) dX9_reads_406 (fun v1 S2 => ?_)
    refine s_if_eq 418 dX9_reads_409 (by decide) (fun _ => ?_) (fun _ => ?_)
    · exact s_less (t_X9_reads_418 x0  S2) (And.intro rfl trivial)
    · refine s_aload_n 0 dX9_reads_412 rfl rfl ?_
      refine s_cV0V mk_X9_189 (by decide) rfl (fun v9 S9 h9 => con_X9_nextToken F _ _ v9 S9 h9) ⟨by omega, by omega⟩ (Nat.le_of_ble_eq_true rfl) dX9_reads_413 (fun _ S4 => ?_)
      refine s_iconst (1 : Int32) dX9_reads_416 (by decide) ?_
      exact s_zret dX9_reads_417
set_option maxRecDepth 100000 in
theorem t_X9_reads_379 {Γ : Cx} {F : Nat} {k11 : Nat → Int32 → Int32 → Mem → Option (Int32 × Mem)} (hk11 : ∀ (x0 : Nat) (x1 : Int32) (x2 : Int32) (S : Mem), Sim cX9_reads RX9 2 42 (some .boolean) false Γ rI (k11 x0 x1 x2 S) S 11 [some (.ref x0), some (.int x1), some (.int x2), none, none, none] []) : ∀ (f : Nat) (x0 : Nat) (x1 : Int32) (x2 : Int32) (S : Mem), Sim cX9_reads RX9 2 42 (some .boolean) false Γ rI (fix3 (b_X9_reads_379 F k11) f x0 x1 x2 S) S 379 [some (.ref x0), some (.int x1), some (.int x2), none, none, none] [] := by
  refine s_fix3 (fun (x0 : Nat) (x1 : Int32) (x2 : Int32) => [some (.ref x0), some (.int x1), some (.int x2), none, none, none]) (fun k379 hk379 => ?_)
  intro x0 x1 x2 S
  unfold b_X9_reads_379
  refine s_iload_n 1 dX9_reads_379 rfl rfl ?_
  refine s_if_le 424 dX9_reads_380 (by decide) (fun _ => ?_) (fun _ => ?_)
  · exact s_less (t_X9_reads_424 hk11 x0 x1 x2  S) (And.intro rfl (And.intro rfl (And.intro rfl trivial)))
  · refine s_aload_n 0 dX9_reads_383 rfl rfl ?_
    refine s_getR fk_X9_44 rfl dX9_reads_384 (fun v1 => ?_)
    refine s_iload_n 1 dX9_reads_387 rfl rfl ?_
    refine s_iald dX9_reads_388 (fun v2 => ?_)
    refine s_iconst (1 : Int32) dX9_reads_389 (by decide) ?_
    refine s_icmp_ne 424 dX9_reads_390 (by decide) (fun _ => ?_) (fun _ => ?_)
    · exact s_less (t_X9_reads_424 hk11 x0 x1 x2  S) (And.intro rfl (And.intro rfl (And.intro rfl trivial)))
    · refine s_iinc_1 (-1 : Int32) dX9_reads_393 (by decide) rfl ?_
      refine s_goto 379 dX9_reads_396 (by decide) ?_
      exact s_less (hk379 x0 (x1 + (-1 : Int32)) x2 S) (And.intro rfl (And.intro rfl (And.intro rfl trivial)))
set_option maxRecDepth 100000 in
theorem t_X9_reads_342 {Γ : Cx} {F : Nat} {k11 : Nat → Int32 → Int32 → Mem → Option (Int32 × Mem)} (hk11 : ∀ (x0 : Nat) (x1 : Int32) (x2 : Int32) (S : Mem), Sim cX9_reads RX9 2 42 (some .boolean) false Γ rI (k11 x0 x1 x2 S) S 11 [some (.ref x0), some (.int x1), some (.int x2), none, none, none] []) : ∀ (x0 : Nat) (x1 : Int32) (y0 : Nat) (y1 : Int32) (S : Mem), Sim cX9_reads RX9 2 42 (some .boolean) false Γ rI (f_X9_reads_342 F k11 x0 x1 y0 y1 S) S 342 [some (.ref x0), some (.int x1), none, none, none, none] [.int y1, .ref y0] := by
  intro x0 x1 y0 y1 S
  unfold f_X9_reads_342
  refine s_cV1V mk_X9_186 (by decide) rfl (fun v9 S9 h9 => con_X9_puts F _ _ _ v9 S9 h9) ⟨by omega, by omega⟩ (Nat.le_of_ble_eq_true rfl) dX9_reads_342 (fun _ S2 => ?_)
  refine s_aload_n 0 dX9_reads_345 rfl rfl ?_
  refine s_getR fk_X9_47 rfl dX9_reads_346 (fun v3 => ?_)
  refine s_iload_n 1 dX9_reads_349 rfl rfl ?_
  refine s_iconst (0 : Int32) dX9_reads_350 (by decide) ?_
  refine s_zast dX9_reads_351 (fun S4 => ?_)
  refine s_iconst (1 : Int32) dX9_reads_352 (by decide) ?_
  refine s_istore_2 dX9_reads_353 rfl ?_
  refine s_goto 424 dX9_reads_354 (by decide) ?_
  exact s_less (t_X9_reads_424 hk11 x0 x1 (1 : Int32)  S4) (And.intro rfl (And.intro rfl (And.intro rfl trivial)))
set_option maxRecDepth 100000 in
theorem t_X9_reads_324 {Γ : Cx} {F : Nat} {k11 : Nat → Int32 → Int32 → Mem → Option (Int32 × Mem)} (hk11 : ∀ (x0 : Nat) (x1 : Int32) (x2 : Int32) (S : Mem), Sim cX9_reads RX9 2 42 (some .boolean) false Γ rI (k11 x0 x1 x2 S) S 11 [some (.ref x0), some (.int x1), some (.int x2), none, none, none] []) : ∀ (x0 : Nat) (x1 : Int32) (S : Mem), Sim cX9_reads RX9 2 42 (some .boolean) false Γ rI (f_X9_reads_324 F k11 x0 x1 S) S 324 [some (.ref x0), some (.int x1), none, none, none, none] [] := by
  intro x0 x1 S
  unfold f_X9_reads_324
  refine s_aload_n 0 dX9_reads_324 rfl rfl ?_
  refine s_aload_n 0 dX9_reads_325 rfl rfl ?_
  refine s_ldc2 (v := (1111 : Int64)) dX9_reads_326 (lw_in 1238 (by decide +kernel) (by decide +kernel)) ?_
  refine s_cV1I mk_X9_175 (by decide) rfl (fun v9 S9 h9 => con_X9_isWord F _ _ _ v9 S9 h9) ⟨by omega, by omega⟩ (Nat.le_of_ble_eq_true rfl) dX9_reads_329 (fun v1 S2 => ?_)
  refine s_if_eq 340 dX9_reads_332 (by decide) (fun _ => ?_) (fun _ => ?_)
  · refine s_bipush (27 : Int32) dX9_reads_340 (by decide) ?_
    exact s_less (t_X9_reads_342 hk11 x0 x1 x0 (27 : Int32) S2) (And.intro rfl (And.intro rfl trivial))
  · refine s_bipush (26 : Int32) dX9_reads_335 (by decide) ?_
    refine s_goto 342 dX9_reads_337 (by decide) ?_
    exact s_less (t_X9_reads_342 hk11 x0 x1 x0 (26 : Int32) S2) (And.intro rfl (And.intro rfl trivial))
set_option maxRecDepth 100000 in
theorem t_X9_reads_304 {Γ : Cx} {F : Nat} {k11 : Nat → Int32 → Int32 → Mem → Option (Int32 × Mem)} (hk11 : ∀ (x0 : Nat) (x1 : Int32) (x2 : Int32) (S : Mem), Sim cX9_reads RX9 2 42 (some .boolean) false Γ rI (k11 x0 x1 x2 S) S 11 [some (.ref x0), some (.int x1), some (.int x2), none, none, none] []) : ∀ (x0 : Nat) (x1 : Int32) (x2 : Int32) (S : Mem), Sim cX9_reads RX9 2 42 (some .boolean) false Γ rI (f_X9_reads_304 F k11 x0 x1 x2 S) S 304 [some (.ref x0), some (.int x1), some (.int x2), none, none, none] [] := by
  intro x0 x1 x2 S
  unfold f_X9_reads_304
  refine s_aload_n 0 dX9_reads_304 rfl rfl ?_
  refine s_ldc2 (v := (1111 : Int64)) dX9_reads_305 (lw_in 1238 (by decide +kernel) (by decide +kernel)) ?_
  refine s_cV1I mk_X9_175 (by decide) rfl (fun v9 S9 h9 => con_X9_isWord F _ _ _ v9 S9 h9) ⟨by omega, by omega⟩ (Nat.le_of_ble_eq_true rfl) dX9_reads_308 (fun v1 S2 => ?_)
  refine s_if_ne 324 dX9_reads_311 (by decide) (fun _ => ?_) (fun _ => ?_)
  · exact s_less (t_X9_reads_324 hk11 x0 x1  S2) (And.intro rfl (And.intro rfl trivial))
  · refine s_aload_n 0 dX9_reads_314 rfl rfl ?_
    refine s_ldc2 (v := (423 : Int64)) dX9_reads_315 (lw_in 1239 (by decide +kernel) (by decide +kernel)) ?_
    refine s_cV1I mk_X9_175 (by decide) rfl (fun v9 S9 h9 => con_X9_isWord F _ _ _ v9 S9 h9) ⟨by omega, by omega⟩ (Nat.le_of_ble_eq_true rfl) dX9_reads_318 (fun v3 S4 => ?_)
    refine s_if_eq 357 dX9_reads_321 (by decide) (fun _ => ?_) (fun _ => ?_)
    · refine s_aload_n 0 dX9_reads_357 rfl rfl ?_
      refine s_bipush (41 : Int32) dX9_reads_358 (by decide) ?_
      refine s_cV1I mk_X9_179 (by decide) rfl (fun v9 S9 h9 => con_X9_isSign F _ _ _ v9 S9 h9) ⟨by omega, by omega⟩ (Nat.le_of_ble_eq_true rfl) dX9_reads_360 (fun v5 S6 => ?_)
      refine s_if_eq 399 dX9_reads_363 (by decide) (fun _ => ?_) (fun _ => ?_)
      · exact s_less (t_X9_reads_399 x0 x1  S6) (And.intro rfl (And.intro rfl trivial))
      · refine s_iload_n 1 dX9_reads_366 rfl rfl ?_
        refine s_if_le 399 dX9_reads_367 (by decide) (fun _ => ?_) (fun _ => ?_)
        · exact s_less (t_X9_reads_399 x0 x1  S6) (And.intro rfl (And.intro rfl trivial))
        · refine s_aload_n 0 dX9_reads_370 rfl rfl ?_
          refine s_bipush (29 : Int32) dX9_reads_371 (by decide) ?_
          refine s_cV1V mk_X9_186 (by decide) rfl (fun v9 S9 h9 => con_X9_puts F _ _ _ v9 S9 h9) ⟨by omega, by omega⟩ (Nat.le_of_ble_eq_true rfl) dX9_reads_373 (fun _ S8 => ?_)
          refine s_iinc_1 (-1 : Int32) dX9_reads_376 (by decide) rfl ?_
          exact s_less (t_X9_reads_379 hk11 F x0 (x1 + (-1 : Int32)) x2 S8) (And.intro rfl (And.intro rfl (And.intro rfl trivial)))
    · exact s_less (t_X9_reads_324 hk11 x0 x1  S4) (And.intro rfl (And.intro rfl trivial))
set_option maxRecDepth 100000 in
theorem t_X9_reads_289 {Γ : Cx} {F : Nat} {k11 : Nat → Int32 → Int32 → Mem → Option (Int32 × Mem)} (hk11 : ∀ (x0 : Nat) (x1 : Int32) (x2 : Int32) (S : Mem), Sim cX9_reads RX9 2 42 (some .boolean) false Γ rI (k11 x0 x1 x2 S) S 11 [some (.ref x0), some (.int x1), some (.int x2), none, none, none] []) : ∀ (x0 : Nat) (x1 : Int32) (y0 : Nat) (y1 : Int32) (S : Mem), Sim cX9_reads RX9 2 42 (some .boolean) false Γ rI (f_X9_reads_289 F k11 x0 x1 y0 y1 S) S 289 [some (.ref x0), some (.int x1), none, none, none, none] [.int y1, .ref y0] := by
  intro x0 x1 y0 y1 S
  unfold f_X9_reads_289
  refine s_cV1V mk_X9_186 (by decide) rfl (fun v9 S9 h9 => con_X9_puts F _ _ _ v9 S9 h9) ⟨by omega, by omega⟩ (Nat.le_of_ble_eq_true rfl) dX9_reads_289 (fun _ S2 => ?_)
  refine s_aload_n 0 dX9_reads_292 rfl rfl ?_
  refine s_getR fk_X9_47 rfl dX9_reads_293 (fun v3 => ?_)
  refine s_iload_n 1 dX9_reads_296 rfl rfl ?_
  refine s_iconst (1 : Int32) dX9_reads_297 (by decide) ?_
  refine s_zast dX9_reads_298 (fun S4 => ?_)
  refine s_iconst (1 : Int32) dX9_reads_299 (by decide) ?_
  refine s_istore_2 dX9_reads_300 rfl ?_
  refine s_goto 424 dX9_reads_301 (by decide) ?_
  exact s_less (t_X9_reads_424 hk11 x0 x1 (1 : Int32)  S4) (And.intro rfl (And.intro rfl (And.intro rfl trivial)))
set_option maxRecDepth 100000 in
theorem t_X9_reads_263 {Γ : Cx} {F : Nat} {k11 : Nat → Int32 → Int32 → Mem → Option (Int32 × Mem)} (hk11 : ∀ (x0 : Nat) (x1 : Int32) (x2 : Int32) (S : Mem), Sim cX9_reads RX9 2 42 (some .boolean) false Γ rI (k11 x0 x1 x2 S) S 11 [some (.ref x0), some (.int x1), some (.int x2), none, none, none] []) : ∀ (x0 : Nat) (x1 : Int32) (x2 : Int32) (S : Mem), Sim cX9_reads RX9 2 42 (some .boolean) false Γ rI (f_X9_reads_263 F k11 x0 x1 x2 S) S 263 [some (.ref x0), some (.int x1), some (.int x2), none, none, none] [] := by
  intro x0 x1 x2 S
  unfold f_X9_reads_263
  refine s_aload_n 0 dX9_reads_263 rfl rfl ?_
  refine s_getR fk_X9_47 rfl dX9_reads_264 (fun v1 => ?_)
  refine s_iload_n 1 dX9_reads_267 rfl rfl ?_
  refine s_zald dX9_reads_268 (fun v2 => ?_)
  refine s_if_ne 304 dX9_reads_269 (by decide) (fun _ => ?_) (fun _ => ?_)
  · exact s_less (t_X9_reads_304 hk11 x0 x1 x2  S) (And.intro rfl (And.intro rfl (And.intro rfl trivial)))
  · refine s_aload_n 0 dX9_reads_272 rfl rfl ?_
    refine s_aload_n 0 dX9_reads_273 rfl rfl ?_
    refine s_bipush (60 : Int32) dX9_reads_274 (by decide) ?_
    refine s_cV1I mk_X9_179 (by decide) rfl (fun v9 S9 h9 => con_X9_isSign F _ _ _ v9 S9 h9) ⟨by omega, by omega⟩ (Nat.le_of_ble_eq_true rfl) dX9_reads_276 (fun v3 S4 => ?_)
    refine s_if_eq 287 dX9_reads_279 (by decide) (fun _ => ?_) (fun _ => ?_)
    · refine s_bipush (25 : Int32) dX9_reads_287 (by decide) ?_
      exact s_less (t_X9_reads_289 hk11 x0 x1 x0 (25 : Int32) S4) (And.intro rfl (And.intro rfl trivial))
    · refine s_bipush (24 : Int32) dX9_reads_282 (by decide) ?_
      refine s_goto 289 dX9_reads_284 (by decide) ?_
      exact s_less (t_X9_reads_289 hk11 x0 x1 x0 (24 : Int32) S4) (And.intro rfl (And.intro rfl trivial))
set_option maxRecDepth 100000 in
theorem t_X9_reads_237 {Γ : Cx} {F : Nat} {k11 : Nat → Int32 → Int32 → Mem → Option (Int32 × Mem)} (hk11 : ∀ (x0 : Nat) (x1 : Int32) (x2 : Int32) (S : Mem), Sim cX9_reads RX9 2 42 (some .boolean) false Γ rI (k11 x0 x1 x2 S) S 11 [some (.ref x0), some (.int x1), some (.int x2), none, none, none] []) : ∀ (x0 : Nat) (x1 : Int32) (y0 : Nat) (y1 : Int32) (S : Mem), Sim cX9_reads RX9 2 42 (some .boolean) false Γ rI (f_X9_reads_237 F k11 x0 x1 y0 y1 S) S 237 [some (.ref x0), some (.int x1), none, none, none, none] [.int y1, .ref y0] := by
  intro x0 x1 y0 y1 S
  unfold f_X9_reads_237
  refine s_cV1V mk_X9_186 (by decide) rfl (fun v9 S9 h9 => con_X9_puts F _ _ _ v9 S9 h9) ⟨by omega, by omega⟩ (Nat.le_of_ble_eq_true rfl) dX9_reads_237 (fun _ S2 => ?_)
  refine s_iconst (1 : Int32) dX9_reads_240 (by decide) ?_
  refine s_istore_2 dX9_reads_241 rfl ?_
  refine s_goto 424 dX9_reads_242 (by decide) ?_
  exact s_less (t_X9_reads_424 hk11 x0 x1 (1 : Int32)  S2) (And.intro rfl (And.intro rfl (And.intro rfl trivial)))
set_option maxRecDepth 100000 in
theorem t_X9_reads_206 {Γ : Cx} {F : Nat} {k11 : Nat → Int32 → Int32 → Mem → Option (Int32 × Mem)} (hk11 : ∀ (x0 : Nat) (x1 : Int32) (x2 : Int32) (S : Mem), Sim cX9_reads RX9 2 42 (some .boolean) false Γ rI (k11 x0 x1 x2 S) S 11 [some (.ref x0), some (.int x1), some (.int x2), none, none, none] []) : ∀ (x0 : Nat) (x1 : Int32) (S : Mem), Sim cX9_reads RX9 2 42 (some .boolean) false Γ rI (f_X9_reads_206 F k11 x0 x1 S) S 206 [some (.ref x0), some (.int x1), none, none, none, none] [] := by
  intro x0 x1 S
  unfold f_X9_reads_206
  refine s_aload_n 0 dX9_reads_206 rfl rfl ?_
  refine s_aload_n 0 dX9_reads_207 rfl rfl ?_
  refine s_bipush (43 : Int32) dX9_reads_208 (by decide) ?_
  refine s_cV1I mk_X9_179 (by decide) rfl (fun v9 S9 h9 => con_X9_isSign F _ _ _ v9 S9 h9) ⟨by omega, by omega⟩ (Nat.le_of_ble_eq_true rfl) dX9_reads_210 (fun v1 S2 => ?_)
  refine s_if_eq 221 dX9_reads_213 (by decide) (fun _ => ?_) (fun _ => ?_)
  · refine s_aload_n 0 dX9_reads_221 rfl rfl ?_
    refine s_bipush (45 : Int32) dX9_reads_222 (by decide) ?_
    refine s_cV1I mk_X9_179 (by decide) rfl (fun v9 S9 h9 => con_X9_isSign F _ _ _ v9 S9 h9) ⟨by omega, by omega⟩ (Nat.le_of_ble_eq_true rfl) dX9_reads_224 (fun v3 S4 => ?_)
    refine s_if_eq 235 dX9_reads_227 (by decide) (fun _ => ?_) (fun _ => ?_)
    · refine s_bipush (22 : Int32) dX9_reads_235 (by decide) ?_
      exact s_less (t_X9_reads_237 hk11 x0 x1 x0 (22 : Int32) S4) (And.intro rfl (And.intro rfl trivial))
    · refine s_bipush (21 : Int32) dX9_reads_230 (by decide) ?_
      refine s_goto 237 dX9_reads_232 (by decide) ?_
      exact s_less (t_X9_reads_237 hk11 x0 x1 x0 (21 : Int32) S4) (And.intro rfl (And.intro rfl trivial))
  · refine s_bipush (20 : Int32) dX9_reads_216 (by decide) ?_
    refine s_goto 237 dX9_reads_218 (by decide) ?_
    exact s_less (t_X9_reads_237 hk11 x0 x1 x0 (20 : Int32) S2) (And.intro rfl (And.intro rfl trivial))
set_option maxRecDepth 100000 in
theorem t_X9_reads_172 {Γ : Cx} {F : Nat} {k11 : Nat → Int32 → Int32 → Mem → Option (Int32 × Mem)} (hk11 : ∀ (x0 : Nat) (x1 : Int32) (x2 : Int32) (S : Mem), Sim cX9_reads RX9 2 42 (some .boolean) false Γ rI (k11 x0 x1 x2 S) S 11 [some (.ref x0), some (.int x1), some (.int x2), none, none, none] []) : ∀ (x0 : Nat) (x1 : Int32) (x2 : Int32) (S : Mem), Sim cX9_reads RX9 2 42 (some .boolean) false Γ rI (f_X9_reads_172 F k11 x0 x1 x2 S) S 172 [some (.ref x0), some (.int x1), some (.int x2), none, none, none] [] := by
  intro x0 x1 x2 S
  unfold f_X9_reads_172
  refine s_aload_n 0 dX9_reads_172 rfl rfl ?_
  refine s_cV0V mk_X9_189 (by decide) rfl (fun v9 S9 h9 => con_X9_nextToken F _ _ v9 S9 h9) ⟨by omega, by omega⟩ (Nat.le_of_ble_eq_true rfl) dX9_reads_173 (fun _ S2 => ?_)
  refine s_goto 11 dX9_reads_176 (by decide) ?_
  exact s_less (hk11 x0 x1 x2 S2) (And.intro rfl (And.intro rfl (And.intro rfl trivial)))
set_option maxRecDepth 100000 in
theorem t_X9_reads_152 {Γ : Cx} {F : Nat} {k11 : Nat → Int32 → Int32 → Mem → Option (Int32 × Mem)} (hk11 : ∀ (x0 : Nat) (x1 : Int32) (x2 : Int32) (S : Mem), Sim cX9_reads RX9 2 42 (some .boolean) false Γ rI (k11 x0 x1 x2 S) S 11 [some (.ref x0), some (.int x1), some (.int x2), none, none, none] []) : ∀ (f : Nat) (x0 : Nat) (x1 : Int32) (x2 : Int32) (S : Mem), Sim cX9_reads RX9 2 42 (some .boolean) false Γ rI (fix3 (b_X9_reads_152 F k11) f x0 x1 x2 S) S 152 [some (.ref x0), some (.int x1), some (.int x2), none, none, none] [] := by
  refine s_fix3 (fun (x0 : Nat) (x1 : Int32) (x2 : Int32) => [some (.ref x0), some (.int x1), some (.int x2), none, none, none]) (fun k152 hk152 => ?_)
  intro x0 x1 x2 S
  unfold b_X9_reads_152
  refine s_iload_n 1 dX9_reads_152 rfl rfl ?_
  refine s_if_le 172 dX9_reads_153 (by decide) (fun _ => ?_) (fun _ => ?_)
  · exact s_less (t_X9_reads_172 hk11 x0 x1 x2  S) (And.intro rfl (And.intro rfl (And.intro rfl trivial)))
  · refine s_aload_n 0 dX9_reads_156 rfl rfl ?_
    refine s_getR fk_X9_44 rfl dX9_reads_157 (fun v1 => ?_)
    refine s_iload_n 1 dX9_reads_160 rfl rfl ?_
    refine s_iald dX9_reads_161 (fun v2 => ?_)
    refine s_iconst (1 : Int32) dX9_reads_162 (by decide) ?_
    refine s_icmp_ne 172 dX9_reads_163 (by decide) (fun _ => ?_) (fun _ => ?_)
    · exact s_less (t_X9_reads_172 hk11 x0 x1 x2  S) (And.intro rfl (And.intro rfl (And.intro rfl trivial)))
    · refine s_iinc_1 (-1 : Int32) dX9_reads_166 (by decide) rfl ?_
      refine s_goto 152 dX9_reads_169 (by decide) ?_
      exact s_less (hk152 x0 (x1 + (-1 : Int32)) x2 S) (And.intro rfl (And.intro rfl (And.intro rfl trivial)))
set_option maxRecDepth 100000 in
theorem t_X9_reads_147 {Γ : Cx} {F : Nat} {k11 : Nat → Int32 → Int32 → Mem → Option (Int32 × Mem)} (hk11 : ∀ (x0 : Nat) (x1 : Int32) (x2 : Int32) (S : Mem), Sim cX9_reads RX9 2 42 (some .boolean) false Γ rI (k11 x0 x1 x2 S) S 11 [some (.ref x0), some (.int x1), some (.int x2), none, none, none] []) : ∀ (x0 : Nat) (x1 : Int32) (y0 : Nat) (y1 : Int32) (S : Mem), Sim cX9_reads RX9 2 42 (some .boolean) false Γ rI (f_X9_reads_147 F k11 x0 x1 y0 y1 S) S 147 [some (.ref x0), some (.int x1), none, none, none, none] [.int y1, .ref y0] := by
  intro x0 x1 y0 y1 S
  unfold f_X9_reads_147
  refine s_cV1V mk_X9_186 (by decide) rfl (fun v9 S9 h9 => con_X9_puts F _ _ _ v9 S9 h9) ⟨by omega, by omega⟩ (Nat.le_of_ble_eq_true rfl) dX9_reads_147 (fun _ S2 => ?_)
  refine s_iconst (0 : Int32) dX9_reads_150 (by decide) ?_
  refine s_istore_2 dX9_reads_151 rfl ?_
  exact s_less (t_X9_reads_152 hk11 F x0 x1 (0 : Int32) S2) (And.intro rfl (And.intro rfl (And.intro rfl trivial)))
set_option maxRecDepth 100000 in
theorem t_X9_reads_120 {Γ : Cx} {F : Nat} {k11 : Nat → Int32 → Int32 → Mem → Option (Int32 × Mem)} (hk11 : ∀ (x0 : Nat) (x1 : Int32) (x2 : Int32) (S : Mem), Sim cX9_reads RX9 2 42 (some .boolean) false Γ rI (k11 x0 x1 x2 S) S 11 [some (.ref x0), some (.int x1), some (.int x2), none, none, none] []) : ∀ (x0 : Nat) (x1 : Int32) (x2 : Int32) (y0 : Nat) (y1 : Int32) (y2 : Int32) (S : Mem), Sim cX9_reads RX9 2 42 (some .boolean) false Γ rI (f_X9_reads_120 F k11 x0 x1 x2 y0 y1 y2 S) S 120 [some (.ref x0), some (.int x1), some (.int x2), none, none, none] [.int y2, .int y1, .ref y0] := by
  intro x0 x1 x2 y0 y1 y2 S
  unfold f_X9_reads_120
  refine s_iast dX9_reads_120 (fun S1 => ?_)
  refine s_aload_n 0 dX9_reads_121 rfl rfl ?_
  refine s_getR fk_X9_47 rfl dX9_reads_122 (fun v2 => ?_)
  refine s_iload_n 1 dX9_reads_125 rfl rfl ?_
  refine s_iconst (0 : Int32) dX9_reads_126 (by decide) ?_
  refine s_zast dX9_reads_127 (fun S3 => ?_)
  refine s_goto 172 dX9_reads_128 (by decide) ?_
  exact s_less (t_X9_reads_172 hk11 x0 x1 x2  S3) (And.intro rfl (And.intro rfl (And.intro rfl trivial)))
set_option maxRecDepth 100000 in
theorem t_X9_reads_99 {Γ : Cx} {F : Nat} {k11 : Nat → Int32 → Int32 → Mem → Option (Int32 × Mem)} (hk11 : ∀ (x0 : Nat) (x1 : Int32) (x2 : Int32) (S : Mem), Sim cX9_reads RX9 2 42 (some .boolean) false Γ rI (k11 x0 x1 x2 S) S 11 [some (.ref x0), some (.int x1), some (.int x2), none, none, none] []) : ∀ (x0 : Nat) (x1 : Int32) (x2 : Int32) (x4 : Int32) (y0 : Nat) (y1 : Int32) (S : Mem), Sim cX9_reads RX9 2 42 (some .boolean) false Γ rI (f_X9_reads_99 F k11 x0 x1 x2 x4 y0 y1 S) S 99 [some (.ref x0), some (.int x1), some (.int x2), none, some (.int x4), none] [.int y1, .ref y0] := by
  intro x0 x1 x2 x4 y0 y1 S
  unfold f_X9_reads_99
  refine s_cV1V mk_X9_186 (by decide) rfl (fun v9 S9 h9 => con_X9_puts F _ _ _ v9 S9 h9) ⟨by omega, by omega⟩ (Nat.le_of_ble_eq_true rfl) dX9_reads_99 (fun _ S2 => ?_)
  refine s_iinc_1 (1 : Int32) dX9_reads_102 (by decide) rfl ?_
  refine s_aload_n 0 dX9_reads_105 rfl rfl ?_
  refine s_getR fk_X9_44 rfl dX9_reads_106 (fun v3 => ?_)
  refine s_iload_n 1 dX9_reads_109 rfl rfl ?_
  refine s_iload dX9_reads_110 rfl ?_
  refine s_if_eq 119 dX9_reads_112 (by decide) (fun _ => ?_) (fun _ => ?_)
  · refine s_iconst (2 : Int32) dX9_reads_119 (by decide) ?_
    exact s_less (t_X9_reads_120 hk11 x0 (x1 + (1 : Int32)) x2 v3 (x1 + (1 : Int32)) (2 : Int32) S2) (And.intro rfl (And.intro rfl (And.intro rfl trivial)))
  · refine s_iconst (1 : Int32) dX9_reads_115 (by decide) ?_
    refine s_goto 120 dX9_reads_116 (by decide) ?_
    exact s_less (t_X9_reads_120 hk11 x0 (x1 + (1 : Int32)) x2 v3 (x1 + (1 : Int32)) (1 : Int32) S2) (And.intro rfl (And.intro rfl (And.intro rfl trivial)))
set_option maxRecDepth 100000 in
theorem t_X9_reads_86 {Γ : Cx} {F : Nat} {k11 : Nat → Int32 → Int32 → Mem → Option (Int32 × Mem)} (hk11 : ∀ (x0 : Nat) (x1 : Int32) (x2 : Int32) (S : Mem), Sim cX9_reads RX9 2 42 (some .boolean) false Γ rI (k11 x0 x1 x2 S) S 11 [some (.ref x0), some (.int x1), some (.int x2), none, none, none] []) : ∀ (x0 : Nat) (x1 : Int32) (x2 : Int32) (x4 : Int32) (S : Mem), Sim cX9_reads RX9 2 42 (some .boolean) false Γ rI (f_X9_reads_86 F k11 x0 x1 x2 x4 S) S 86 [some (.ref x0), some (.int x1), some (.int x2), none, some (.int x4), none] [] := by
  intro x0 x1 x2 x4 S
  unfold f_X9_reads_86
  refine s_aload_n 0 dX9_reads_86 rfl rfl ?_
  refine s_iload dX9_reads_87 rfl ?_
  refine s_if_eq 97 dX9_reads_89 (by decide) (fun _ => ?_) (fun _ => ?_)
  · refine s_bipush (28 : Int32) dX9_reads_97 (by decide) ?_
    exact s_less (t_X9_reads_99 hk11 x0 x1 x2 x4 x0 (28 : Int32) S) (And.intro rfl (And.intro rfl (And.intro rfl (And.intro rfl trivial))))
  · refine s_bipush (30 : Int32) dX9_reads_92 (by decide) ?_
    refine s_goto 99 dX9_reads_94 (by decide) ?_
    exact s_less (t_X9_reads_99 hk11 x0 x1 x2 x4 x0 (30 : Int32) S) (And.intro rfl (And.intro rfl (And.intro rfl (And.intro rfl trivial))))
set_option maxRecDepth 100000 in
theorem t_X9_reads_65 {Γ : Cx} {F : Nat} {k11 : Nat → Int32 → Int32 → Mem → Option (Int32 × Mem)} (hk11 : ∀ (x0 : Nat) (x1 : Int32) (x2 : Int32) (S : Mem), Sim cX9_reads RX9 2 42 (some .boolean) false Γ rI (k11 x0 x1 x2 S) S 11 [some (.ref x0), some (.int x1), some (.int x2), none, none, none] []) : ∀ (x0 : Nat) (x1 : Int32) (x2 : Int32) (x3 : Int32) (x4 : Int32) (x5 : Int32) (S : Mem), Sim cX9_reads RX9 2 42 (some .boolean) false Γ rI (f_X9_reads_65 F k11 x0 x1 x2 x3 x4 x5 S) S 65 [some (.ref x0), some (.int x1), some (.int x2), some (.int x3), some (.int x4), some (.int x5)] [] := by
  intro x0 x1 x2 x3 x4 x5 S
  unfold f_X9_reads_65
  refine s_iload_n 1 dX9_reads_65 rfl rfl ?_
  refine s_iconst (5 : Int32) dX9_reads_66 (by decide) ?_
  refine s_icmp_ne 76 dX9_reads_67 (by decide) (fun _ => ?_) (fun _ => ?_)
  · refine s_iload dX9_reads_76 rfl ?_
    refine s_if_ne 86 dX9_reads_78 (by decide) (fun _ => ?_) (fun _ => ?_)
    · exact s_less (t_X9_reads_86 hk11 x0 x1 x2 x4  S) (And.intro rfl (And.intro rfl (And.intro rfl (And.intro rfl trivial))))
    · refine s_iload dX9_reads_81 rfl ?_
      refine s_if_eq 131 dX9_reads_83 (by decide) (fun _ => ?_) (fun _ => ?_)
      · refine s_aload_n 0 dX9_reads_131 rfl rfl ?_
        refine s_iload_n 3 dX9_reads_132 rfl rfl ?_
        refine s_if_le 140 dX9_reads_133 (by decide) (fun _ => ?_) (fun _ => ?_)
        · refine s_bipush (100 : Int32) dX9_reads_140 (by decide) ?_
          refine s_aload_n 0 dX9_reads_142 rfl rfl ?_
          refine s_getI fk_X9_131 rfl dX9_reads_143 (fun v1 => ?_)
          refine s_iadd dX9_reads_146 ?_
          exact s_less (t_X9_reads_147 hk11 x0 x1 x0 ((100 : Int32) + v1) S) (And.intro rfl (And.intro rfl trivial))
        · refine s_iload_n 3 dX9_reads_136 rfl rfl ?_
          refine s_goto 147 dX9_reads_137 (by decide) ?_
          exact s_less (t_X9_reads_147 hk11 x0 x1 x0 x3 S) (And.intro rfl (And.intro rfl trivial))
      · exact s_less (t_X9_reads_86 hk11 x0 x1 x2 x4  S) (And.intro rfl (And.intro rfl (And.intro rfl (And.intro rfl trivial))))
  · refine s_aload_n 0 dX9_reads_70 rfl rfl ?_
    refine s_iconst (5 : Int32) dX9_reads_71 (by decide) ?_
    refine s_cV1I mk_X9_183 (by decide) rfl (fun v9 S9 h9 => con_X9_fails F _ _ _ v9 S9 h9) ⟨by omega, by omega⟩ (Nat.le_of_ble_eq_true rfl) dX9_reads_72 (fun v2 S3 => ?_)
    exact s_zret dX9_reads_75
set_option maxRecDepth 100000 in
theorem t_X9_reads_11 {Γ : Cx} {F : Nat} : ∀ (f : Nat) (x0 : Nat) (x1 : Int32) (x2 : Int32) (S : Mem), Sim cX9_reads RX9 2 42 (some .boolean) false Γ rI (fix3 (b_X9_reads_11 F) f x0 x1 x2 S) S 11 [some (.ref x0), some (.int x1), some (.int x2), none, none, none] [] := by
  refine s_fix3 (fun (x0 : Nat) (x1 : Int32) (x2 : Int32) => [some (.ref x0), some (.int x1), some (.int x2), none, none, none]) (fun k11 hk11 => ?_)
  intro x0 x1 x2 S
  unfold b_X9_reads_11
  refine s_iload_n 2 dX9_reads_11 rfl rfl ?_
  refine s_if_eq 179 dX9_reads_12 (by decide) (fun _ => ?_) (fun _ => ?_)
  · refine s_aload_n 0 dX9_reads_179 rfl rfl ?_
    refine s_bipush (43 : Int32) dX9_reads_180 (by decide) ?_
    refine s_cV1I mk_X9_179 (by decide) rfl (fun v9 S9 h9 => con_X9_isSign F _ _ _ v9 S9 h9) ⟨by omega, by omega⟩ (Nat.le_of_ble_eq_true rfl) dX9_reads_182 (fun v1 S2 => ?_)
    refine s_if_ne 206 dX9_reads_185 (by decide) (fun _ => ?_) (fun _ => ?_)
    · exact s_less (t_X9_reads_206 hk11 x0 x1  S2) (And.intro rfl (And.intro rfl trivial))
    · refine s_aload_n 0 dX9_reads_188 rfl rfl ?_
      refine s_bipush (45 : Int32) dX9_reads_189 (by decide) ?_
      refine s_cV1I mk_X9_179 (by decide) rfl (fun v9 S9 h9 => con_X9_isSign F _ _ _ v9 S9 h9) ⟨by omega, by omega⟩ (Nat.le_of_ble_eq_true rfl) dX9_reads_191 (fun v3 S4 => ?_)
      refine s_if_ne 206 dX9_reads_194 (by decide) (fun _ => ?_) (fun _ => ?_)
      · exact s_less (t_X9_reads_206 hk11 x0 x1  S4) (And.intro rfl (And.intro rfl trivial))
      · refine s_aload_n 0 dX9_reads_197 rfl rfl ?_
        refine s_bipush (42 : Int32) dX9_reads_198 (by decide) ?_
        refine s_cV1I mk_X9_179 (by decide) rfl (fun v9 S9 h9 => con_X9_isSign F _ _ _ v9 S9 h9) ⟨by omega, by omega⟩ (Nat.le_of_ble_eq_true rfl) dX9_reads_200 (fun v5 S6 => ?_)
        refine s_if_eq 245 dX9_reads_203 (by decide) (fun _ => ?_) (fun _ => ?_)
        · refine s_aload_n 0 dX9_reads_245 rfl rfl ?_
          refine s_bipush (60 : Int32) dX9_reads_246 (by decide) ?_
          refine s_cV1I mk_X9_179 (by decide) rfl (fun v9 S9 h9 => con_X9_isSign F _ _ _ v9 S9 h9) ⟨by omega, by omega⟩ (Nat.le_of_ble_eq_true rfl) dX9_reads_248 (fun v7 S8 => ?_)
          refine s_if_ne 263 dX9_reads_251 (by decide) (fun _ => ?_) (fun _ => ?_)
          · exact s_less (t_X9_reads_263 hk11 x0 x1 x2  S8) (And.intro rfl (And.intro rfl (And.intro rfl trivial)))
          · refine s_aload_n 0 dX9_reads_254 rfl rfl ?_
            refine s_bipush (61 : Int32) dX9_reads_255 (by decide) ?_
            refine s_cV1I mk_X9_179 (by decide) rfl (fun v9 S9 h9 => con_X9_isSign F _ _ _ v9 S9 h9) ⟨by omega, by omega⟩ (Nat.le_of_ble_eq_true rfl) dX9_reads_257 (fun v9 S10 => ?_)
            refine s_if_eq 304 dX9_reads_260 (by decide) (fun _ => ?_) (fun _ => ?_)
            · exact s_less (t_X9_reads_304 hk11 x0 x1 x2  S10) (And.intro rfl (And.intro rfl (And.intro rfl trivial)))
            · exact s_less (t_X9_reads_263 hk11 x0 x1 x2  S10) (And.intro rfl (And.intro rfl (And.intro rfl trivial)))
        · exact s_less (t_X9_reads_206 hk11 x0 x1  S6) (And.intro rfl (And.intro rfl trivial))
  · refine s_aload_n 0 dX9_reads_15 rfl rfl ?_
    refine s_cV0I mk_X9_169 (by decide) rfl (fun v9 S9 h9 => con_X9_fact F _ _ v9 S9 h9) ⟨by omega, by omega⟩ (Nat.le_of_ble_eq_true rfl) dX9_reads_16 (fun v11 S12 => ?_)
    refine s_istore_3 dX9_reads_19 rfl ?_
    refine s_aload_n 0 dX9_reads_20 rfl rfl ?_
    refine s_ldc2 (v := (10631 : Int64)) dX9_reads_21 (lw_in 1229 (by decide +kernel) (by decide +kernel)) ?_
    refine s_cV1I mk_X9_175 (by decide) rfl (fun v9 S9 h9 => con_X9_isWord F _ _ _ v9 S9 h9) ⟨by omega, by omega⟩ (Nat.le_of_ble_eq_true rfl) dX9_reads_24 (fun v13 S14 => ?_)
    refine s_istore_4 dX9_reads_27 rfl ?_
    refine s_aload_n 0 dX9_reads_29 rfl rfl ?_
    refine s_bipush (40 : Int32) dX9_reads_30 (by decide) ?_
    refine s_cV1I mk_X9_179 (by decide) rfl (fun v9 S9 h9 => con_X9_isSign F _ _ _ v9 S9 h9) ⟨by omega, by omega⟩ (Nat.le_of_ble_eq_true rfl) dX9_reads_32 (fun v15 S16 => ?_)
    refine s_istore_5 dX9_reads_35 rfl ?_
    refine s_iload_n 3 dX9_reads_37 rfl rfl ?_
    refine s_if_ne 65 dX9_reads_38 (by decide) (fun _ => ?_) (fun _ => ?_)
    · exact s_less (t_X9_reads_65 hk11 x0 x1 x2 v11 v13 v15  S16) (And.intro rfl (And.intro rfl (And.intro rfl (And.intro rfl (And.intro rfl (And.intro rfl trivial))))))
    · refine s_iload dX9_reads_41 rfl ?_
      refine s_if_ne 65 dX9_reads_43 (by decide) (fun _ => ?_) (fun _ => ?_)
      · exact s_less (t_X9_reads_65 hk11 x0 x1 x2 v11 v13 v15  S16) (And.intro rfl (And.intro rfl (And.intro rfl (And.intro rfl (And.intro rfl (And.intro rfl trivial))))))
      · refine s_iload dX9_reads_46 rfl ?_
        refine s_if_ne 65 dX9_reads_48 (by decide) (fun _ => ?_) (fun _ => ?_)
        · exact s_less (t_X9_reads_65 hk11 x0 x1 x2 v11 v13 v15  S16) (And.intro rfl (And.intro rfl (And.intro rfl (And.intro rfl (And.intro rfl (And.intro rfl trivial))))))
        · refine s_aload_n 0 dX9_reads_51 rfl rfl ?_
          refine s_getI fk_X9_134 rfl dX9_reads_52 (fun v17 => ?_)
          refine s_iconst (2 : Int32) dX9_reads_55 (by decide) ?_
          refine s_icmp_eq 65 dX9_reads_56 (by decide) (fun _ => ?_) (fun _ => ?_)
          · exact s_less (t_X9_reads_65 hk11 x0 x1 x2 v11 v13 v15  S16) (And.intro rfl (And.intro rfl (And.intro rfl (And.intro rfl (And.intro rfl (And.intro rfl trivial))))))
          · refine s_aload_n 0 dX9_reads_59 rfl rfl ?_
            refine s_iconst (1 : Int32) dX9_reads_60 (by decide) ?_
            refine s_cV1I mk_X9_183 (by decide) rfl (fun v9 S9 h9 => con_X9_fails F _ _ _ v9 S9 h9) ⟨by omega, by omega⟩ (Nat.le_of_ble_eq_true rfl) dX9_reads_61 (fun v18 S19 => ?_)
            exact s_zret dX9_reads_64
set_option maxRecDepth 100000 in
theorem con_X9_reads {l : Launch} (F : Nat) (x0 : Nat) (S : Mem) (v : Int32) (S1 : Mem) (h : fn_X9_reads F x0 S = some (v, S1)) : Con l yX9_reads cX9_reads 6 (some .boolean) 2 42 [.ref x0] S (rI v) S1 := by
  refine con_of (ι := rI) RX9 false [some (.ref x0), none, none, none, none, none] rfl (fun h => by cases h) (by decide) (Nat.le_of_ble_eq_true rfl) ⟨rfl, rfl⟩ (fun Γ hl => ?_) h
  unfold fn_X9_reads
  refine s_iconst (0 : Int32) dX9_reads_0 (by decide) ?_
  refine s_istore_1 dX9_reads_1 rfl ?_
  refine s_iconst (1 : Int32) dX9_reads_2 (by decide) ?_
  refine s_istore_2 dX9_reads_3 rfl ?_
  refine s_aload_n 0 dX9_reads_4 rfl rfl ?_
  refine s_getR fk_X9_47 rfl dX9_reads_5 (fun v1 => ?_)
  refine s_iconst (0 : Int32) dX9_reads_8 (by decide) ?_
  refine s_iconst (0 : Int32) dX9_reads_9 (by decide) ?_
  refine s_zast dX9_reads_10 (fun S2 => ?_)
  exact s_less (t_X9_reads_11 F x0 (0 : Int32) (1 : Int32) S2) (And.intro rfl (And.intro rfl (And.intro rfl trivial)))
-- X9_opens
def fn_X9_opens (F : Nat) (x0 : Nat) (x1 : Int32) (S : Mem) : Option (Unit × Mem) :=
  (gR S 8 26 x0).bind fun v1 =>
  (sA S v1 x1 (0 : Int32)).bind fun S2 =>
  (gR S2 8 28 x0).bind fun v3 =>
  (sA S2 v3 x1 (0 : Int32)).bind fun S4 =>
  (gR S4 8 29 x0).bind fun v5 =>
  (sA S4 v5 x1 (0 : Int32)).bind fun S6 =>
  (gR S6 8 30 x0).bind fun v7 =>
  (sA S6 v7 x1 (20 : Int32)).bind fun S8 =>
  (gR S8 8 32 x0).bind fun v9 =>
  (sA S8 v9 x1 (0 : Int32)).bind fun S10 =>
  some ((), S10)
set_option maxRecDepth 100000 in
theorem con_X9_opens {l : Launch} (F : Nat) (x0 : Nat) (x1 : Int32) (S : Mem) (v : Unit) (S1 : Mem) (h : fn_X9_opens F x0 x1 S = some (v, S1)) : Con l yX9_opens cX9_opens 2 none 0 0 [.ref x0, .int x1] S (rV v) S1 := by
  refine con_of (ι := rV) RX9 false [some (.ref x0), some (.int x1)] rfl (fun h => by cases h) (by decide) (Nat.le_of_ble_eq_true rfl) ⟨rfl, rfl⟩ (fun Γ hl => ?_) h
  unfold fn_X9_opens
  refine s_aload_n 0 dX9_opens_0 rfl rfl ?_
  refine s_getR fk_X9_54 rfl dX9_opens_1 (fun v1 => ?_)
  refine s_iload_n 1 dX9_opens_4 rfl rfl ?_
  refine s_iconst (0 : Int32) dX9_opens_5 (by decide) ?_
  refine s_iast dX9_opens_6 (fun S2 => ?_)
  refine s_aload_n 0 dX9_opens_7 rfl rfl ?_
  refine s_getR fk_X9_60 rfl dX9_opens_8 (fun v3 => ?_)
  refine s_iload_n 1 dX9_opens_11 rfl rfl ?_
  refine s_iconst (0 : Int32) dX9_opens_12 (by decide) ?_
  refine s_iast dX9_opens_13 (fun S4 => ?_)
  refine s_aload_n 0 dX9_opens_14 rfl rfl ?_
  refine s_getR fk_X9_63 rfl dX9_opens_15 (fun v5 => ?_)
  refine s_iload_n 1 dX9_opens_18 rfl rfl ?_
  refine s_iconst (0 : Int32) dX9_opens_19 (by decide) ?_
  refine s_iast dX9_opens_20 (fun S6 => ?_)
  refine s_aload_n 0 dX9_opens_21 rfl rfl ?_
  refine s_getR fk_X9_66 rfl dX9_opens_22 (fun v7 => ?_)
  refine s_iload_n 1 dX9_opens_25 rfl rfl ?_
  refine s_bipush (20 : Int32) dX9_opens_26 (by decide) ?_
  refine s_iast dX9_opens_28 (fun S8 => ?_)
  refine s_aload_n 0 dX9_opens_29 rfl rfl ?_
  refine s_getR fk_X9_72 rfl dX9_opens_30 (fun v9 => ?_)
  refine s_iload_n 1 dX9_opens_33 rfl rfl ?_
  refine s_iconst (0 : Int32) dX9_opens_34 (by decide) ?_
  refine s_iast dX9_opens_35 (fun S10 => ?_)
  exact s_vret dX9_opens_36
-- X9_sums
def f_X9_sums_45 (F : Nat) (x0 : Nat) (x1 : Int32) (y0 : Nat) (y1 : Int32) (y2 : Int32) (S : Mem) : Option (Unit × Mem) :=
  (sA S y0 y1 y2).bind fun S1 =>
  (gR S1 8 32 x0).bind fun v2 =>
  (sA S1 v2 x1 (0 : Int32)).bind fun S3 =>
  some ((), S3)
def fn_X9_sums (F : Nat) (x0 : Nat) (x1 : Int32) (S : Mem) : Option (Unit × Mem) :=
  (gR S 8 29 x0).bind fun v1 =>
  (gR S 8 30 x0).bind fun v2 =>
  (gA S 10 v2 x1).bind fun v3 =>
  if v3 = (21 : Int32) then
    (gR S 8 29 x0).bind fun v8 =>
    (gA S 10 v8 x1).bind fun v9 =>
    (gR S 8 31 x0).bind fun v10 =>
    (gA S 10 v10 x1).bind fun v11 =>
    f_X9_sums_45 F x0 x1 v1 x1 (v9 - v11) S
  else
    (gR S 8 29 x0).bind fun v4 =>
    (gA S 10 v4 x1).bind fun v5 =>
    (gR S 8 31 x0).bind fun v6 =>
    (gA S 10 v6 x1).bind fun v7 =>
    f_X9_sums_45 F x0 x1 v1 x1 (v5 + v7) S
set_option maxRecDepth 100000 in
theorem t_X9_sums_45 {Γ : Cx} {F : Nat} : ∀ (x0 : Nat) (x1 : Int32) (y0 : Nat) (y1 : Int32) (y2 : Int32) (S : Mem), Sim cX9_sums RX9 0 0 none false Γ rV (f_X9_sums_45 F x0 x1 y0 y1 y2 S) S 45 [some (.ref x0), some (.int x1)] [.int y2, .int y1, .ref y0] := by
  intro x0 x1 y0 y1 y2 S
  unfold f_X9_sums_45
  refine s_iast dX9_sums_45 (fun S1 => ?_)
  refine s_aload_n 0 dX9_sums_46 rfl rfl ?_
  refine s_getR fk_X9_72 rfl dX9_sums_47 (fun v2 => ?_)
  refine s_iload_n 1 dX9_sums_50 rfl rfl ?_
  refine s_iconst (0 : Int32) dX9_sums_51 (by decide) ?_
  refine s_iast dX9_sums_52 (fun S3 => ?_)
  exact s_vret dX9_sums_53
set_option maxRecDepth 100000 in
theorem con_X9_sums {l : Launch} (F : Nat) (x0 : Nat) (x1 : Int32) (S : Mem) (v : Unit) (S1 : Mem) (h : fn_X9_sums F x0 x1 S = some (v, S1)) : Con l yX9_sums cX9_sums 2 none 0 0 [.ref x0, .int x1] S (rV v) S1 := by
  refine con_of (ι := rV) RX9 false [some (.ref x0), some (.int x1)] rfl (fun h => by cases h) (by decide) (Nat.le_of_ble_eq_true rfl) ⟨rfl, rfl⟩ (fun Γ hl => ?_) h
  unfold fn_X9_sums
  refine s_aload_n 0 dX9_sums_0 rfl rfl ?_
  refine s_getR fk_X9_63 rfl dX9_sums_1 (fun v1 => ?_)
  refine s_iload_n 1 dX9_sums_4 rfl rfl ?_
  refine s_aload_n 0 dX9_sums_5 rfl rfl ?_
  refine s_getR fk_X9_66 rfl dX9_sums_6 (fun v2 => ?_)
  refine s_iload_n 1 dX9_sums_9 rfl rfl ?_
  refine s_iald dX9_sums_10 (fun v3 => ?_)
  refine s_bipush (21 : Int32) dX9_sums_11 (by decide) ?_
  refine s_icmp_ne 32 dX9_sums_13 (by decide) (fun _ => ?_) (fun _ => ?_)
  · refine s_aload_n 0 dX9_sums_32 rfl rfl ?_
    refine s_getR fk_X9_63 rfl dX9_sums_33 (fun v4 => ?_)
    refine s_iload_n 1 dX9_sums_36 rfl rfl ?_
    refine s_iald dX9_sums_37 (fun v5 => ?_)
    refine s_aload_n 0 dX9_sums_38 rfl rfl ?_
    refine s_getR fk_X9_69 rfl dX9_sums_39 (fun v6 => ?_)
    refine s_iload_n 1 dX9_sums_42 rfl rfl ?_
    refine s_iald dX9_sums_43 (fun v7 => ?_)
    refine s_iadd dX9_sums_44 ?_
    exact s_less (t_X9_sums_45 x0 x1 v1 x1 (v5 + v7) S) (And.intro rfl (And.intro rfl trivial))
  · refine s_aload_n 0 dX9_sums_16 rfl rfl ?_
    refine s_getR fk_X9_63 rfl dX9_sums_17 (fun v8 => ?_)
    refine s_iload_n 1 dX9_sums_20 rfl rfl ?_
    refine s_iald dX9_sums_21 (fun v9 => ?_)
    refine s_aload_n 0 dX9_sums_22 rfl rfl ?_
    refine s_getR fk_X9_69 rfl dX9_sums_23 (fun v10 => ?_)
    refine s_iload_n 1 dX9_sums_26 rfl rfl ?_
    refine s_iald dX9_sums_27 (fun v11 => ?_)
    refine s_isub dX9_sums_28 ?_
    refine s_goto 45 dX9_sums_29 (by decide) ?_
    exact s_less (t_X9_sums_45 x0 x1 v1 x1 (v9 - v11) S) (And.intro rfl (And.intro rfl trivial))
-- X9_tests
def f_X9_tests_136 (F : Nat) (x0 : Nat) (x1 : Int32) (x2 : Int32) (S : Mem) : Option (Unit × Mem) :=
  (gR S 8 25 x0).bind fun v1 =>
  (sA S v1 x1 x2).bind fun S2 =>
  (gR S2 8 28 x0).bind fun v3 =>
  (sA S2 v3 x1 (0 : Int32)).bind fun S4 =>
  (gR S4 8 29 x0).bind fun v5 =>
  (sA S4 v5 x1 (0 : Int32)).bind fun S6 =>
  (gR S6 8 30 x0).bind fun v7 =>
  (sA S6 v7 x1 (20 : Int32)).bind fun S8 =>
  some ((), S8)
def f_X9_tests_135 (F : Nat) (x0 : Nat) (x1 : Int32) (y0 : Int32) (S : Mem) : Option (Unit × Mem) :=
  f_X9_tests_136 F x0 x1 y0  S
def f_X9_tests_130 (F : Nat) (x0 : Nat) (x1 : Int32) (S : Mem) : Option (Unit × Mem) :=
  f_X9_tests_135 F x0 x1 (1 : Int32) S
def f_X9_tests_106 (F : Nat) (x0 : Nat) (x1 : Int32) (x2 : Int32) (S : Mem) : Option (Unit × Mem) :=
  (gR S 8 26 x0).bind fun v1 =>
  (gA S 10 v1 x1).bind fun v2 =>
  if v2 = (27 : Int32) then
    (gR S 8 25 x0).bind fun v3 =>
    (gA S 10 v3 x1).bind fun v4 =>
    if v4 = 0 then
      if x2 = 0 then
        f_X9_tests_135 F x0 x1 (0 : Int32) S
      else
        f_X9_tests_130 F x0 x1  S
    else
      f_X9_tests_130 F x0 x1  S
  else
    f_X9_tests_136 F x0 x1 x2  S
def f_X9_tests_105 (F : Nat) (x0 : Nat) (x1 : Int32) (y0 : Int32) (S : Mem) : Option (Unit × Mem) :=
  f_X9_tests_106 F x0 x1 y0  S
def f_X9_tests_104 (F : Nat) (x0 : Nat) (x1 : Int32) (S : Mem) : Option (Unit × Mem) :=
  f_X9_tests_105 F x0 x1 (0 : Int32) S
def f_X9_tests_76 (F : Nat) (x0 : Nat) (x1 : Int32) (x2 : Int32) (S : Mem) : Option (Unit × Mem) :=
  (gR S 8 26 x0).bind fun v1 =>
  (gA S 10 v1 x1).bind fun v2 =>
  if v2 = (26 : Int32) then
    (gR S 8 25 x0).bind fun v3 =>
    (gA S 10 v3 x1).bind fun v4 =>
    if v4 = 0 then
      f_X9_tests_104 F x0 x1  S
    else
      if x2 = 0 then
        f_X9_tests_104 F x0 x1  S
      else
        f_X9_tests_105 F x0 x1 (1 : Int32) S
  else
    f_X9_tests_106 F x0 x1 x2  S
def f_X9_tests_75 (F : Nat) (x0 : Nat) (x1 : Int32) (y0 : Int32) (S : Mem) : Option (Unit × Mem) :=
  f_X9_tests_76 F x0 x1 y0  S
def f_X9_tests_44 (F : Nat) (x0 : Nat) (x1 : Int32) (x2 : Int32) (S : Mem) : Option (Unit × Mem) :=
  (gR S 8 28 x0).bind fun v1 =>
  (gA S 10 v1 x1).bind fun v2 =>
  if v2 = (25 : Int32) then
    (gR S 8 27 x0).bind fun v3 =>
    (gA S 10 v3 x1).bind fun v4 =>
    (gR S 8 29 x0).bind fun v5 =>
    (gA S 10 v5 x1).bind fun v6 =>
    if v4 = v6 then
      f_X9_tests_75 F x0 x1 (1 : Int32) S
    else
      f_X9_tests_75 F x0 x1 (0 : Int32) S
  else
    f_X9_tests_76 F x0 x1 x2  S
def f_X9_tests_43 (F : Nat) (x0 : Nat) (x1 : Int32) (y0 : Int32) (S : Mem) : Option (Unit × Mem) :=
  f_X9_tests_44 F x0 x1 y0  S
def fn_X9_tests (F : Nat) (x0 : Nat) (x1 : Int32) (S : Mem) : Option (Unit × Mem) :=
  bd (cal S 8 x0 (fn_X9_sums F x0 x1 S)) fun _ S2 =>
  (gR S2 8 29 x0).bind fun v3 =>
  (gA S2 10 v3 x1).bind fun v4 =>
  (gR S2 8 28 x0).bind fun v5 =>
  (gA S2 10 v5 x1).bind fun v6 =>
  if v6 = (24 : Int32) then
    (gR S2 8 27 x0).bind fun v7 =>
    (gA S2 10 v7 x1).bind fun v8 =>
    (gR S2 8 29 x0).bind fun v9 =>
    (gA S2 10 v9 x1).bind fun v10 =>
    if v10 ≤ v8 then
      f_X9_tests_43 F x0 x1 (0 : Int32) S2
    else
      f_X9_tests_43 F x0 x1 (1 : Int32) S2
  else
    f_X9_tests_44 F x0 x1 v4  S2
set_option maxRecDepth 100000 in
theorem t_X9_tests_136 {Γ : Cx} {F : Nat} : ∀ (x0 : Nat) (x1 : Int32) (x2 : Int32) (S : Mem), Sim cX9_tests RX9 1 21 none false Γ rV (f_X9_tests_136 F x0 x1 x2 S) S 136 [some (.ref x0), some (.int x1), some (.int x2)] [] := by
  intro x0 x1 x2 S
  unfold f_X9_tests_136
  refine s_aload_n 0 dX9_tests_136 rfl rfl ?_
  refine s_getR fk_X9_51 rfl dX9_tests_137 (fun v1 => ?_)
  refine s_iload_n 1 dX9_tests_140 rfl rfl ?_
  refine s_iload_n 2 dX9_tests_141 rfl rfl ?_
  refine s_iast dX9_tests_142 (fun S2 => ?_)
  refine s_aload_n 0 dX9_tests_143 rfl rfl ?_
  refine s_getR fk_X9_60 rfl dX9_tests_144 (fun v3 => ?_)
  refine s_iload_n 1 dX9_tests_147 rfl rfl ?_
  refine s_iconst (0 : Int32) dX9_tests_148 (by decide) ?_
  refine s_iast dX9_tests_149 (fun S4 => ?_)
  refine s_aload_n 0 dX9_tests_150 rfl rfl ?_
  refine s_getR fk_X9_63 rfl dX9_tests_151 (fun v5 => ?_)
  refine s_iload_n 1 dX9_tests_154 rfl rfl ?_
  refine s_iconst (0 : Int32) dX9_tests_155 (by decide) ?_
  refine s_iast dX9_tests_156 (fun S6 => ?_)
  refine s_aload_n 0 dX9_tests_157 rfl rfl ?_
  refine s_getR fk_X9_66 rfl dX9_tests_158 (fun v7 => ?_)
  refine s_iload_n 1 dX9_tests_161 rfl rfl ?_
  refine s_bipush (20 : Int32) dX9_tests_162 (by decide) ?_
  refine s_iast dX9_tests_164 (fun S8 => ?_)
  exact s_vret dX9_tests_165
set_option maxRecDepth 100000 in
theorem t_X9_tests_135 {Γ : Cx} {F : Nat} : ∀ (x0 : Nat) (x1 : Int32) (y0 : Int32) (S : Mem), Sim cX9_tests RX9 1 21 none false Γ rV (f_X9_tests_135 F x0 x1 y0 S) S 135 [some (.ref x0), some (.int x1), none] [.int y0] := by
  intro x0 x1 y0 S
  unfold f_X9_tests_135
  refine s_istore_2 dX9_tests_135 rfl ?_
  exact s_less (t_X9_tests_136 x0 x1 y0  S) (And.intro rfl (And.intro rfl (And.intro rfl trivial)))
set_option maxRecDepth 100000 in
theorem t_X9_tests_130 {Γ : Cx} {F : Nat} : ∀ (x0 : Nat) (x1 : Int32) (S : Mem), Sim cX9_tests RX9 1 21 none false Γ rV (f_X9_tests_130 F x0 x1 S) S 130 [some (.ref x0), some (.int x1), none] [] := by
  intro x0 x1 S
  unfold f_X9_tests_130
  refine s_iconst (1 : Int32) dX9_tests_130 (by decide) ?_
  refine s_goto 135 dX9_tests_131 (by decide) ?_
  exact s_less (t_X9_tests_135 x0 x1 (1 : Int32) S) (And.intro rfl (And.intro rfl trivial))
set_option maxRecDepth 100000 in
theorem t_X9_tests_106 {Γ : Cx} {F : Nat} : ∀ (x0 : Nat) (x1 : Int32) (x2 : Int32) (S : Mem), Sim cX9_tests RX9 1 21 none false Γ rV (f_X9_tests_106 F x0 x1 x2 S) S 106 [some (.ref x0), some (.int x1), some (.int x2)] [] := by
  intro x0 x1 x2 S
  unfold f_X9_tests_106
  refine s_aload_n 0 dX9_tests_106 rfl rfl ?_
  refine s_getR fk_X9_54 rfl dX9_tests_107 (fun v1 => ?_)
  refine s_iload_n 1 dX9_tests_110 rfl rfl ?_
  refine s_iald dX9_tests_111 (fun v2 => ?_)
  refine s_bipush (27 : Int32) dX9_tests_112 (by decide) ?_
  refine s_icmp_ne 136 dX9_tests_114 (by decide) (fun _ => ?_) (fun _ => ?_)
  · exact s_less (t_X9_tests_136 x0 x1 x2  S) (And.intro rfl (And.intro rfl (And.intro rfl trivial)))
  · refine s_aload_n 0 dX9_tests_117 rfl rfl ?_
    refine s_getR fk_X9_51 rfl dX9_tests_118 (fun v3 => ?_)
    refine s_iload_n 1 dX9_tests_121 rfl rfl ?_
    refine s_iald dX9_tests_122 (fun v4 => ?_)
    refine s_if_ne 130 dX9_tests_123 (by decide) (fun _ => ?_) (fun _ => ?_)
    · exact s_less (t_X9_tests_130 x0 x1  S) (And.intro rfl (And.intro rfl trivial))
    · refine s_iload_n 2 dX9_tests_126 rfl rfl ?_
      refine s_if_eq 134 dX9_tests_127 (by decide) (fun _ => ?_) (fun _ => ?_)
      · refine s_iconst (0 : Int32) dX9_tests_134 (by decide) ?_
        exact s_less (t_X9_tests_135 x0 x1 (0 : Int32) S) (And.intro rfl (And.intro rfl trivial))
      · exact s_less (t_X9_tests_130 x0 x1  S) (And.intro rfl (And.intro rfl trivial))
set_option maxRecDepth 100000 in
theorem t_X9_tests_105 {Γ : Cx} {F : Nat} : ∀ (x0 : Nat) (x1 : Int32) (y0 : Int32) (S : Mem), Sim cX9_tests RX9 1 21 none false Γ rV (f_X9_tests_105 F x0 x1 y0 S) S 105 [some (.ref x0), some (.int x1), none] [.int y0] := by
  intro x0 x1 y0 S
  unfold f_X9_tests_105
  refine s_istore_2 dX9_tests_105 rfl ?_
  exact s_less (t_X9_tests_106 x0 x1 y0  S) (And.intro rfl (And.intro rfl (And.intro rfl trivial)))
set_option maxRecDepth 100000 in
theorem t_X9_tests_104 {Γ : Cx} {F : Nat} : ∀ (x0 : Nat) (x1 : Int32) (S : Mem), Sim cX9_tests RX9 1 21 none false Γ rV (f_X9_tests_104 F x0 x1 S) S 104 [some (.ref x0), some (.int x1), none] [] := by
  intro x0 x1 S
  unfold f_X9_tests_104
  refine s_iconst (0 : Int32) dX9_tests_104 (by decide) ?_
  exact s_less (t_X9_tests_105 x0 x1 (0 : Int32) S) (And.intro rfl (And.intro rfl trivial))
set_option maxRecDepth 100000 in
theorem t_X9_tests_76 {Γ : Cx} {F : Nat} : ∀ (x0 : Nat) (x1 : Int32) (x2 : Int32) (S : Mem), Sim cX9_tests RX9 1 21 none false Γ rV (f_X9_tests_76 F x0 x1 x2 S) S 76 [some (.ref x0), some (.int x1), some (.int x2)] [] := by
  intro x0 x1 x2 S
  unfold f_X9_tests_76
  refine s_aload_n 0 dX9_tests_76 rfl rfl ?_
  refine s_getR fk_X9_54 rfl dX9_tests_77 (fun v1 => ?_)
  refine s_iload_n 1 dX9_tests_80 rfl rfl ?_
  refine s_iald dX9_tests_81 (fun v2 => ?_)
  refine s_bipush (26 : Int32) dX9_tests_82 (by decide) ?_
  refine s_icmp_ne 106 dX9_tests_84 (by decide) (fun _ => ?_) (fun _ => ?_)
  · exact s_less (t_X9_tests_106 x0 x1 x2  S) (And.intro rfl (And.intro rfl (And.intro rfl trivial)))
  · refine s_aload_n 0 dX9_tests_87 rfl rfl ?_
    refine s_getR fk_X9_51 rfl dX9_tests_88 (fun v3 => ?_)
    refine s_iload_n 1 dX9_tests_91 rfl rfl ?_
    refine s_iald dX9_tests_92 (fun v4 => ?_)
    refine s_if_eq 104 dX9_tests_93 (by decide) (fun _ => ?_) (fun _ => ?_)
    · exact s_less (t_X9_tests_104 x0 x1  S) (And.intro rfl (And.intro rfl trivial))
    · refine s_iload_n 2 dX9_tests_96 rfl rfl ?_
      refine s_if_eq 104 dX9_tests_97 (by decide) (fun _ => ?_) (fun _ => ?_)
      · exact s_less (t_X9_tests_104 x0 x1  S) (And.intro rfl (And.intro rfl trivial))
      · refine s_iconst (1 : Int32) dX9_tests_100 (by decide) ?_
        refine s_goto 105 dX9_tests_101 (by decide) ?_
        exact s_less (t_X9_tests_105 x0 x1 (1 : Int32) S) (And.intro rfl (And.intro rfl trivial))
set_option maxRecDepth 100000 in
theorem t_X9_tests_75 {Γ : Cx} {F : Nat} : ∀ (x0 : Nat) (x1 : Int32) (y0 : Int32) (S : Mem), Sim cX9_tests RX9 1 21 none false Γ rV (f_X9_tests_75 F x0 x1 y0 S) S 75 [some (.ref x0), some (.int x1), none] [.int y0] := by
  intro x0 x1 y0 S
  unfold f_X9_tests_75
  refine s_istore_2 dX9_tests_75 rfl ?_
  exact s_less (t_X9_tests_76 x0 x1 y0  S) (And.intro rfl (And.intro rfl (And.intro rfl trivial)))
set_option maxRecDepth 100000 in
theorem t_X9_tests_44 {Γ : Cx} {F : Nat} : ∀ (x0 : Nat) (x1 : Int32) (x2 : Int32) (S : Mem), Sim cX9_tests RX9 1 21 none false Γ rV (f_X9_tests_44 F x0 x1 x2 S) S 44 [some (.ref x0), some (.int x1), some (.int x2)] [] := by
  intro x0 x1 x2 S
  unfold f_X9_tests_44
  refine s_aload_n 0 dX9_tests_44 rfl rfl ?_
  refine s_getR fk_X9_60 rfl dX9_tests_45 (fun v1 => ?_)
  refine s_iload_n 1 dX9_tests_48 rfl rfl ?_
  refine s_iald dX9_tests_49 (fun v2 => ?_)
  refine s_bipush (25 : Int32) dX9_tests_50 (by decide) ?_
  refine s_icmp_ne 76 dX9_tests_52 (by decide) (fun _ => ?_) (fun _ => ?_)
  · exact s_less (t_X9_tests_76 x0 x1 x2  S) (And.intro rfl (And.intro rfl (And.intro rfl trivial)))
  · refine s_aload_n 0 dX9_tests_55 rfl rfl ?_
    refine s_getR fk_X9_57 rfl dX9_tests_56 (fun v3 => ?_)
    refine s_iload_n 1 dX9_tests_59 rfl rfl ?_
    refine s_iald dX9_tests_60 (fun v4 => ?_)
    refine s_aload_n 0 dX9_tests_61 rfl rfl ?_
    refine s_getR fk_X9_63 rfl dX9_tests_62 (fun v5 => ?_)
    refine s_iload_n 1 dX9_tests_65 rfl rfl ?_
    refine s_iald dX9_tests_66 (fun v6 => ?_)
    refine s_icmp_ne 74 dX9_tests_67 (by decide) (fun _ => ?_) (fun _ => ?_)
    · refine s_iconst (0 : Int32) dX9_tests_74 (by decide) ?_
      exact s_less (t_X9_tests_75 x0 x1 (0 : Int32) S) (And.intro rfl (And.intro rfl trivial))
    · refine s_iconst (1 : Int32) dX9_tests_70 (by decide) ?_
      refine s_goto 75 dX9_tests_71 (by decide) ?_
      exact s_less (t_X9_tests_75 x0 x1 (1 : Int32) S) (And.intro rfl (And.intro rfl trivial))
set_option maxRecDepth 100000 in
theorem t_X9_tests_43 {Γ : Cx} {F : Nat} : ∀ (x0 : Nat) (x1 : Int32) (y0 : Int32) (S : Mem), Sim cX9_tests RX9 1 21 none false Γ rV (f_X9_tests_43 F x0 x1 y0 S) S 43 [some (.ref x0), some (.int x1), none] [.int y0] := by
  intro x0 x1 y0 S
  unfold f_X9_tests_43
  refine s_istore_2 dX9_tests_43 rfl ?_
  exact s_less (t_X9_tests_44 x0 x1 y0  S) (And.intro rfl (And.intro rfl (And.intro rfl trivial)))
set_option maxRecDepth 100000 in
theorem con_X9_tests {l : Launch} (F : Nat) (x0 : Nat) (x1 : Int32) (S : Mem) (v : Unit) (S1 : Mem) (h : fn_X9_tests F x0 x1 S = some (v, S1)) : Con l yX9_tests cX9_tests 3 none 1 21 [.ref x0, .int x1] S (rV v) S1 := by
  refine con_of (ι := rV) RX9 false [some (.ref x0), some (.int x1), none] rfl (fun h => by cases h) (by decide) (Nat.le_of_ble_eq_true rfl) ⟨rfl, rfl⟩ (fun Γ hl => ?_) h
  unfold fn_X9_tests
  refine s_aload_n 0 dX9_tests_0 rfl rfl ?_
  refine s_iload_n 1 dX9_tests_1 rfl rfl ?_
  refine s_cV1V mk_X9_196 (by decide) rfl (fun v9 S9 h9 => con_X9_sums F _ _ _ v9 S9 h9) ⟨by omega, by omega⟩ (Nat.le_of_ble_eq_true rfl) dX9_tests_2 (fun _ S2 => ?_)
  refine s_aload_n 0 dX9_tests_5 rfl rfl ?_
  refine s_getR fk_X9_63 rfl dX9_tests_6 (fun v3 => ?_)
  refine s_iload_n 1 dX9_tests_9 rfl rfl ?_
  refine s_iald dX9_tests_10 (fun v4 => ?_)
  refine s_istore_2 dX9_tests_11 rfl ?_
  refine s_aload_n 0 dX9_tests_12 rfl rfl ?_
  refine s_getR fk_X9_60 rfl dX9_tests_13 (fun v5 => ?_)
  refine s_iload_n 1 dX9_tests_16 rfl rfl ?_
  refine s_iald dX9_tests_17 (fun v6 => ?_)
  refine s_bipush (24 : Int32) dX9_tests_18 (by decide) ?_
  refine s_icmp_ne 44 dX9_tests_20 (by decide) (fun _ => ?_) (fun _ => ?_)
  · exact s_less (t_X9_tests_44 x0 x1 v4  S2) (And.intro rfl (And.intro rfl (And.intro rfl trivial)))
  · refine s_aload_n 0 dX9_tests_23 rfl rfl ?_
    refine s_getR fk_X9_57 rfl dX9_tests_24 (fun v7 => ?_)
    refine s_iload_n 1 dX9_tests_27 rfl rfl ?_
    refine s_iald dX9_tests_28 (fun v8 => ?_)
    refine s_aload_n 0 dX9_tests_29 rfl rfl ?_
    refine s_getR fk_X9_63 rfl dX9_tests_30 (fun v9 => ?_)
    refine s_iload_n 1 dX9_tests_33 rfl rfl ?_
    refine s_iald dX9_tests_34 (fun v10 => ?_)
    refine s_icmp_ge 42 dX9_tests_35 (by decide) (fun _ => ?_) (fun _ => ?_)
    · refine s_iconst (0 : Int32) dX9_tests_42 (by decide) ?_
      exact s_less (t_X9_tests_43 x0 x1 (0 : Int32) S2) (And.intro rfl (And.intro rfl trivial))
    · refine s_iconst (1 : Int32) dX9_tests_38 (by decide) ?_
      refine s_goto 43 dX9_tests_39 (by decide) ?_
      exact s_less (t_X9_tests_43 x0 x1 (1 : Int32) S2) (And.intro rfl (And.intro rfl trivial))
-- X9_worked
def f_X9_worked_329 (F : Nat) (k14 : Nat → Int32 → Int32 → Int32 → Mem → Option (Int32 × Mem)) (x0 : Nat) (x1 : Int32) (x2 : Int32) (x3 : Int32) (S : Mem) : Option (Int32 × Mem) :=
  k14 x0 x1 x2 (x3 + (1 : Int32)) S
def f_X9_worked_328 (F : Nat) (k14 : Nat → Int32 → Int32 → Int32 → Mem → Option (Int32 × Mem)) (x0 : Nat) (x1 : Int32) (x2 : Int32) (x3 : Int32) (y0 : Nat) (y1 : Int32) (y2 : Int32) (S : Mem) : Option (Int32 × Mem) :=
  (sA S y0 y1 y2).bind fun S1 =>
  f_X9_worked_329 F k14 x0 x1 x2 x3  S1
def f_X9_worked_300 (F : Nat) (k14 : Nat → Int32 → Int32 → Int32 → Mem → Option (Int32 × Mem)) (x0 : Nat) (x1 : Int32) (x2 : Int32) (x3 : Int32) (x5 : Int32) (S : Mem) : Option (Int32 × Mem) :=
  (gR S 8 31 x0).bind fun v1 =>
  (gR S 8 32 x0).bind fun v2 =>
  (gA S 10 v2 x2).bind fun v3 =>
  if v3 = 0 then
    f_X9_worked_328 F k14 x0 x1 x2 x3 v1 x2 x5 S
  else
    (gR S 8 31 x0).bind fun v4 =>
    (gA S 10 v4 x2).bind fun v5 =>
    f_X9_worked_328 F k14 x0 x1 x2 x3 v1 x2 (v5 * x5) S
def f_X9_worked_292 (F : Nat) (k14 : Nat → Int32 → Int32 → Int32 → Mem → Option (Int32 × Mem)) (k268 : Nat → Int32 → Int32 → Int32 → Int32 → Mem → Option (Int32 × Mem)) (x0 : Nat) (x1 : Int32) (x2 : Int32) (x3 : Int32) (y0 : Int32) (S : Mem) : Option (Int32 × Mem) :=
  k268 x0 x1 (x2 + (-1 : Int32)) x3 y0 S
def b_X9_worked_268 (F : Nat) (k14 : Nat → Int32 → Int32 → Int32 → Mem → Option (Int32 × Mem)) (k268 : Nat → Int32 → Int32 → Int32 → Int32 → Mem → Option (Int32 × Mem)) (x0 : Nat) (x1 : Int32) (x2 : Int32) (x3 : Int32) (x5 : Int32) (S : Mem) : Option (Int32 × Mem) :=
  if x2 ≤ 0 then
    f_X9_worked_300 F k14 x0 x1 x2 x3 x5  S
  else
    (gR S 8 33 x0).bind fun v1 =>
    (gA S 10 v1 x2).bind fun v2 =>
    if v2 = (1 : Int32) then
      if x5 = 0 then
        f_X9_worked_292 F k14 k268 x0 x1 x2 x3 (1 : Int32) S
      else
        f_X9_worked_292 F k14 k268 x0 x1 x2 x3 (0 : Int32) S
    else
      f_X9_worked_300 F k14 x0 x1 x2 x3 x5  S
def f_X9_worked_243 (F : Nat) (k14 : Nat → Int32 → Int32 → Int32 → Mem → Option (Int32 × Mem)) (x0 : Nat) (x1 : Int32) (x2 : Int32) (x3 : Int32) (x4 : Int32) (y0 : Int32) (S : Mem) : Option (Int32 × Mem) :=
  if x4 = (29 : Int32) then
    bd (cal S 8 x0 (fn_X9_tests F x0 x2 S)) fun _ S2 =>
    (gR S2 8 25 x0).bind fun v3 =>
    (gA S2 10 v3 x2).bind fun v4 =>
    fix5 (b_X9_worked_268 F k14) F x0 x1 (x2 + (-1 : Int32)) x3 v4 S2
  else
    fix5 (b_X9_worked_268 F k14) F x0 x1 x2 x3 y0 S
def f_X9_worked_194 (F : Nat) (k14 : Nat → Int32 → Int32 → Int32 → Mem → Option (Int32 × Mem)) (x0 : Nat) (x1 : Int32) (x2 : Int32) (x3 : Int32) (x4 : Int32) (S : Mem) : Option (Int32 × Mem) :=
  bd (cal S 8 x0 (fn_X9_tests F x0 x2 S)) fun _ S2 =>
  (gR S2 8 26 x0).bind fun v3 =>
  (sA S2 v3 x2 x4).bind fun S4 =>
  f_X9_worked_329 F k14 x0 x1 x2 x3  S4
def f_X9_worked_137 (F : Nat) (k14 : Nat → Int32 → Int32 → Int32 → Mem → Option (Int32 × Mem)) (x0 : Nat) (x1 : Int32) (x2 : Int32) (x3 : Int32) (x4 : Int32) (S : Mem) : Option (Int32 × Mem) :=
  bd (cal S 8 x0 (fn_X9_sums F x0 x2 S)) fun _ S2 =>
  (gR S2 8 27 x0).bind fun v3 =>
  (gR S2 8 29 x0).bind fun v4 =>
  (gA S2 10 v4 x2).bind fun v5 =>
  (sA S2 v3 x2 v5).bind fun S6 =>
  (gR S6 8 28 x0).bind fun v7 =>
  (sA S6 v7 x2 x4).bind fun S8 =>
  (gR S8 8 29 x0).bind fun v9 =>
  (sA S8 v9 x2 (0 : Int32)).bind fun S10 =>
  (gR S10 8 30 x0).bind fun v11 =>
  (sA S10 v11 x2 (20 : Int32)).bind fun S12 =>
  f_X9_worked_329 F k14 x0 x1 x2 x3  S12
def f_X9_worked_89 (F : Nat) (k14 : Nat → Int32 → Int32 → Int32 → Mem → Option (Int32 × Mem)) (x0 : Nat) (x1 : Int32) (x2 : Int32) (x3 : Int32) (x4 : Int32) (S : Mem) : Option (Int32 × Mem) :=
  bd (cal S 8 x0 (fn_X9_sums F x0 x2 S)) fun _ S2 =>
  (gR S2 8 30 x0).bind fun v3 =>
  (sA S2 v3 x2 x4).bind fun S4 =>
  f_X9_worked_329 F k14 x0 x1 x2 x3  S4
def f_X9_worked_66 (F : Nat) (k14 : Nat → Int32 → Int32 → Int32 → Mem → Option (Int32 × Mem)) (x0 : Nat) (x1 : Int32) (x2 : Int32) (x3 : Int32) (y0 : Nat) (y1 : Int32) (y2 : Int32) (S : Mem) : Option (Int32 × Mem) :=
  (sA S y0 y1 y2).bind fun S1 =>
  bd (cal S1 8 x0 (fn_X9_opens F x0 x2 S1)) fun _ S3 =>
  f_X9_worked_329 F k14 x0 x1 x2 x3  S3
def f_X9_worked_46 (F : Nat) (k14 : Nat → Int32 → Int32 → Int32 → Mem → Option (Int32 × Mem)) (x0 : Nat) (x1 : Int32) (x2 : Int32) (x3 : Int32) (x4 : Int32) (S : Mem) : Option (Int32 × Mem) :=
  (gR S 8 33 x0).bind fun v1 =>
  if x4 = (30 : Int32) then
    f_X9_worked_66 F k14 x0 x1 (x2 + (1 : Int32)) x3 v1 (x2 + (1 : Int32)) (1 : Int32) S
  else
    f_X9_worked_66 F k14 x0 x1 (x2 + (1 : Int32)) x3 v1 (x2 + (1 : Int32)) (0 : Int32) S
def b_X9_worked_14 (F : Nat) (k14 : Nat → Int32 → Int32 → Int32 → Mem → Option (Int32 × Mem)) (x0 : Nat) (x1 : Int32) (x2 : Int32) (x3 : Int32) (S : Mem) : Option (Int32 × Mem) :=
  (gR S 8 18 x0).bind fun v1 =>
  (gA S 10 v1 x1).bind fun v2 =>
  if v2 ≤ x3 then
    bd (cal S 8 x0 (fn_X9_tests F x0 (0 : Int32) S)) fun _ S4 =>
    (gR S4 8 25 x0).bind fun v5 =>
    (gA S4 10 v5 (0 : Int32)).bind fun v6 =>
    some (v6, S4)
  else
    (gR S 8 19 x0).bind fun v7 =>
    (gA S 10 v7 x3).bind fun v8 =>
    if v8 = (28 : Int32) then
      f_X9_worked_46 F k14 x0 x1 x2 x3 v8  S
    else
      if v8 = (30 : Int32) then
        f_X9_worked_46 F k14 x0 x1 x2 x3 v8  S
      else
        if v8 = (20 : Int32) then
          f_X9_worked_89 F k14 x0 x1 x2 x3 v8  S
        else
          if v8 = (21 : Int32) then
            f_X9_worked_89 F k14 x0 x1 x2 x3 v8  S
          else
            if v8 = (22 : Int32) then
              (gR S 8 32 x0).bind fun v11 =>
              (sA S v11 x2 v8).bind fun S12 =>
              f_X9_worked_329 F k14 x0 x1 x2 x3  S12
            else
              if v8 = (24 : Int32) then
                f_X9_worked_137 F k14 x0 x1 x2 x3 v8  S
              else
                if v8 = (25 : Int32) then
                  f_X9_worked_137 F k14 x0 x1 x2 x3 v8  S
                else
                  if v8 = (26 : Int32) then
                    f_X9_worked_194 F k14 x0 x1 x2 x3 v8  S
                  else
                    if v8 = (27 : Int32) then
                      f_X9_worked_194 F k14 x0 x1 x2 x3 v8  S
                    else
                      if v8 < (100 : Int32) then
                        if (20 : Int32) ≤ v8 then
                          f_X9_worked_243 F k14 x0 x1 x2 x3 v8 (0 : Int32) S
                        else
                          (gR S 8 34 x0).bind fun v9 =>
                          (gA S 10 v9 v8).bind fun v10 =>
                          f_X9_worked_243 F k14 x0 x1 x2 x3 v8 v10 S
                      else
                        f_X9_worked_243 F k14 x0 x1 x2 x3 v8 (v8 - (100 : Int32)) S
def fn_X9_worked (F : Nat) (x0 : Nat) (x1 : Int32) (S : Mem) : Option (Int32 × Mem) :=
  bd (cal S 8 x0 (fn_X9_opens F x0 (0 : Int32) S)) fun _ S2 =>
  (gR S2 8 17 x0).bind fun v3 =>
  (gA S2 10 v3 x1).bind fun v4 =>
  fix4 (b_X9_worked_14 F) F x0 x1 (0 : Int32) v4 S2
set_option maxRecDepth 100000 in
theorem t_X9_worked_329 {Γ : Cx} {F : Nat} {k14 : Nat → Int32 → Int32 → Int32 → Mem → Option (Int32 × Mem)} (hk14 : ∀ (x0 : Nat) (x1 : Int32) (x2 : Int32) (x3 : Int32) (S : Mem), Sim cX9_worked RX9 2 43 (some .int) false Γ rI (k14 x0 x1 x2 x3 S) S 14 [some (.ref x0), some (.int x1), some (.int x2), some (.int x3), none, none] []) : ∀ (x0 : Nat) (x1 : Int32) (x2 : Int32) (x3 : Int32) (S : Mem), Sim cX9_worked RX9 2 43 (some .int) false Γ rI (f_X9_worked_329 F k14 x0 x1 x2 x3 S) S 329 [some (.ref x0), some (.int x1), some (.int x2), some (.int x3), none, none] [] := by
  intro x0 x1 x2 x3 S
  unfold f_X9_worked_329
  refine s_iinc_3 (1 : Int32) dX9_worked_329 (by decide) rfl ?_
  refine s_goto 14 dX9_worked_332 (by decide) ?_
  exact s_less (hk14 x0 x1 x2 (x3 + (1 : Int32)) S) (And.intro rfl (And.intro rfl (And.intro rfl (And.intro rfl trivial))))
set_option maxRecDepth 100000 in
theorem t_X9_worked_328 {Γ : Cx} {F : Nat} {k14 : Nat → Int32 → Int32 → Int32 → Mem → Option (Int32 × Mem)} (hk14 : ∀ (x0 : Nat) (x1 : Int32) (x2 : Int32) (x3 : Int32) (S : Mem), Sim cX9_worked RX9 2 43 (some .int) false Γ rI (k14 x0 x1 x2 x3 S) S 14 [some (.ref x0), some (.int x1), some (.int x2), some (.int x3), none, none] []) : ∀ (x0 : Nat) (x1 : Int32) (x2 : Int32) (x3 : Int32) (y0 : Nat) (y1 : Int32) (y2 : Int32) (S : Mem), Sim cX9_worked RX9 2 43 (some .int) false Γ rI (f_X9_worked_328 F k14 x0 x1 x2 x3 y0 y1 y2 S) S 328 [some (.ref x0), some (.int x1), some (.int x2), some (.int x3), none, none] [.int y2, .int y1, .ref y0] := by
  intro x0 x1 x2 x3 y0 y1 y2 S
  unfold f_X9_worked_328
  refine s_iast dX9_worked_328 (fun S1 => ?_)
  exact s_less (t_X9_worked_329 hk14 x0 x1 x2 x3  S1) (And.intro rfl (And.intro rfl (And.intro rfl (And.intro rfl trivial))))
set_option maxRecDepth 100000 in
theorem t_X9_worked_300 {Γ : Cx} {F : Nat} {k14 : Nat → Int32 → Int32 → Int32 → Mem → Option (Int32 × Mem)} (hk14 : ∀ (x0 : Nat) (x1 : Int32) (x2 : Int32) (x3 : Int32) (S : Mem), Sim cX9_worked RX9 2 43 (some .int) false Γ rI (k14 x0 x1 x2 x3 S) S 14 [some (.ref x0), some (.int x1), some (.int x2), some (.int x3), none, none] []) : ∀ (x0 : Nat) (x1 : Int32) (x2 : Int32) (x3 : Int32) (x5 : Int32) (S : Mem), Sim cX9_worked RX9 2 43 (some .int) false Γ rI (f_X9_worked_300 F k14 x0 x1 x2 x3 x5 S) S 300 [some (.ref x0), some (.int x1), some (.int x2), some (.int x3), none, some (.int x5)] [] := by
  intro x0 x1 x2 x3 x5 S
  unfold f_X9_worked_300
  refine s_aload_n 0 dX9_worked_300 rfl rfl ?_
  refine s_getR fk_X9_69 rfl dX9_worked_301 (fun v1 => ?_)
  refine s_iload_n 2 dX9_worked_304 rfl rfl ?_
  refine s_aload_n 0 dX9_worked_305 rfl rfl ?_
  refine s_getR fk_X9_72 rfl dX9_worked_306 (fun v2 => ?_)
  refine s_iload_n 2 dX9_worked_309 rfl rfl ?_
  refine s_iald dX9_worked_310 (fun v3 => ?_)
  refine s_if_ne 319 dX9_worked_311 (by decide) (fun _ => ?_) (fun _ => ?_)
  · refine s_aload_n 0 dX9_worked_319 rfl rfl ?_
    refine s_getR fk_X9_69 rfl dX9_worked_320 (fun v4 => ?_)
    refine s_iload_n 2 dX9_worked_323 rfl rfl ?_
    refine s_iald dX9_worked_324 (fun v5 => ?_)
    refine s_iload dX9_worked_325 rfl ?_
    refine s_imul dX9_worked_327 ?_
    exact s_less (t_X9_worked_328 hk14 x0 x1 x2 x3 v1 x2 (v5 * x5) S) (And.intro rfl (And.intro rfl (And.intro rfl (And.intro rfl trivial))))
  · refine s_iload dX9_worked_314 rfl ?_
    refine s_goto 328 dX9_worked_316 (by decide) ?_
    exact s_less (t_X9_worked_328 hk14 x0 x1 x2 x3 v1 x2 x5 S) (And.intro rfl (And.intro rfl (And.intro rfl (And.intro rfl trivial))))
set_option maxRecDepth 100000 in
theorem t_X9_worked_292 {Γ : Cx} {F : Nat} {k14 : Nat → Int32 → Int32 → Int32 → Mem → Option (Int32 × Mem)} (hk14 : ∀ (x0 : Nat) (x1 : Int32) (x2 : Int32) (x3 : Int32) (S : Mem), Sim cX9_worked RX9 2 43 (some .int) false Γ rI (k14 x0 x1 x2 x3 S) S 14 [some (.ref x0), some (.int x1), some (.int x2), some (.int x3), none, none] []) {k268 : Nat → Int32 → Int32 → Int32 → Int32 → Mem → Option (Int32 × Mem)} (hk268 : ∀ (x0 : Nat) (x1 : Int32) (x2 : Int32) (x3 : Int32) (x5 : Int32) (S : Mem), Sim cX9_worked RX9 2 43 (some .int) false Γ rI (k268 x0 x1 x2 x3 x5 S) S 268 [some (.ref x0), some (.int x1), some (.int x2), some (.int x3), none, some (.int x5)] []) : ∀ (x0 : Nat) (x1 : Int32) (x2 : Int32) (x3 : Int32) (y0 : Int32) (S : Mem), Sim cX9_worked RX9 2 43 (some .int) false Γ rI (f_X9_worked_292 F k14 k268 x0 x1 x2 x3 y0 S) S 292 [some (.ref x0), some (.int x1), some (.int x2), some (.int x3), none, none] [.int y0] := by
  intro x0 x1 x2 x3 y0 S
  unfold f_X9_worked_292
  refine s_istore_5 dX9_worked_292 rfl ?_
  refine s_iinc_2 (-1 : Int32) dX9_worked_294 (by decide) rfl ?_
  refine s_goto 268 dX9_worked_297 (by decide) ?_
  exact s_less (hk268 x0 x1 (x2 + (-1 : Int32)) x3 y0 S) (And.intro rfl (And.intro rfl (And.intro rfl (And.intro rfl (And.intro rfl trivial)))))
set_option maxRecDepth 100000 in
theorem t_X9_worked_268 {Γ : Cx} {F : Nat} {k14 : Nat → Int32 → Int32 → Int32 → Mem → Option (Int32 × Mem)} (hk14 : ∀ (x0 : Nat) (x1 : Int32) (x2 : Int32) (x3 : Int32) (S : Mem), Sim cX9_worked RX9 2 43 (some .int) false Γ rI (k14 x0 x1 x2 x3 S) S 14 [some (.ref x0), some (.int x1), some (.int x2), some (.int x3), none, none] []) : ∀ (f : Nat) (x0 : Nat) (x1 : Int32) (x2 : Int32) (x3 : Int32) (x5 : Int32) (S : Mem), Sim cX9_worked RX9 2 43 (some .int) false Γ rI (fix5 (b_X9_worked_268 F k14) f x0 x1 x2 x3 x5 S) S 268 [some (.ref x0), some (.int x1), some (.int x2), some (.int x3), none, some (.int x5)] [] := by
  refine s_fix5 (fun (x0 : Nat) (x1 : Int32) (x2 : Int32) (x3 : Int32) (x5 : Int32) => [some (.ref x0), some (.int x1), some (.int x2), some (.int x3), none, some (.int x5)]) (fun k268 hk268 => ?_)
  intro x0 x1 x2 x3 x5 S
  unfold b_X9_worked_268
  refine s_iload_n 2 dX9_worked_268 rfl rfl ?_
  refine s_if_le 300 dX9_worked_269 (by decide) (fun _ => ?_) (fun _ => ?_)
  · exact s_less (t_X9_worked_300 hk14 x0 x1 x2 x3 x5  S) (And.intro rfl (And.intro rfl (And.intro rfl (And.intro rfl (And.intro rfl trivial)))))
  · refine s_aload_n 0 dX9_worked_272 rfl rfl ?_
    refine s_getR fk_X9_75 rfl dX9_worked_273 (fun v1 => ?_)
    refine s_iload_n 2 dX9_worked_276 rfl rfl ?_
    refine s_iald dX9_worked_277 (fun v2 => ?_)
    refine s_iconst (1 : Int32) dX9_worked_278 (by decide) ?_
    refine s_icmp_ne 300 dX9_worked_279 (by decide) (fun _ => ?_) (fun _ => ?_)
    · exact s_less (t_X9_worked_300 hk14 x0 x1 x2 x3 x5  S) (And.intro rfl (And.intro rfl (And.intro rfl (And.intro rfl (And.intro rfl trivial)))))
    · refine s_iload dX9_worked_282 rfl ?_
      refine s_if_ne 291 dX9_worked_284 (by decide) (fun _ => ?_) (fun _ => ?_)
      · refine s_iconst (0 : Int32) dX9_worked_291 (by decide) ?_
        exact s_less (t_X9_worked_292 hk14 hk268 x0 x1 x2 x3 (0 : Int32) S) (And.intro rfl (And.intro rfl (And.intro rfl (And.intro rfl trivial))))
      · refine s_iconst (1 : Int32) dX9_worked_287 (by decide) ?_
        refine s_goto 292 dX9_worked_288 (by decide) ?_
        exact s_less (t_X9_worked_292 hk14 hk268 x0 x1 x2 x3 (1 : Int32) S) (And.intro rfl (And.intro rfl (And.intro rfl (And.intro rfl trivial))))
set_option maxRecDepth 100000 in
theorem t_X9_worked_243 {Γ : Cx} {F : Nat} {k14 : Nat → Int32 → Int32 → Int32 → Mem → Option (Int32 × Mem)} (hk14 : ∀ (x0 : Nat) (x1 : Int32) (x2 : Int32) (x3 : Int32) (S : Mem), Sim cX9_worked RX9 2 43 (some .int) false Γ rI (k14 x0 x1 x2 x3 S) S 14 [some (.ref x0), some (.int x1), some (.int x2), some (.int x3), none, none] []) : ∀ (x0 : Nat) (x1 : Int32) (x2 : Int32) (x3 : Int32) (x4 : Int32) (y0 : Int32) (S : Mem), Sim cX9_worked RX9 2 43 (some .int) false Γ rI (f_X9_worked_243 F k14 x0 x1 x2 x3 x4 y0 S) S 243 [some (.ref x0), some (.int x1), some (.int x2), some (.int x3), some (.int x4), none] [.int y0] := by
  intro x0 x1 x2 x3 x4 y0 S
  unfold f_X9_worked_243
  refine s_istore_5 dX9_worked_243 rfl ?_
  refine s_iload dX9_worked_245 rfl ?_
  refine s_bipush (29 : Int32) dX9_worked_247 (by decide) ?_
  refine s_icmp_ne 268 dX9_worked_249 (by decide) (fun _ => ?_) (fun _ => ?_)
  · exact s_less (t_X9_worked_268 hk14 F x0 x1 x2 x3 y0 S) (And.intro rfl (And.intro rfl (And.intro rfl (And.intro rfl (And.intro rfl trivial)))))
  · refine s_aload_n 0 dX9_worked_252 rfl rfl ?_
    refine s_iload_n 2 dX9_worked_253 rfl rfl ?_
    refine s_cV1V mk_X9_202 (by decide) rfl (fun v9 S9 h9 => con_X9_tests F _ _ _ v9 S9 h9) ⟨by omega, by omega⟩ (Nat.le_of_ble_eq_true rfl) dX9_worked_254 (fun _ S2 => ?_)
    refine s_aload_n 0 dX9_worked_257 rfl rfl ?_
    refine s_getR fk_X9_51 rfl dX9_worked_258 (fun v3 => ?_)
    refine s_iload_n 2 dX9_worked_261 rfl rfl ?_
    refine s_iald dX9_worked_262 (fun v4 => ?_)
    refine s_istore_5 dX9_worked_263 rfl ?_
    refine s_iinc_2 (-1 : Int32) dX9_worked_265 (by decide) rfl ?_
    exact s_less (t_X9_worked_268 hk14 F x0 x1 (x2 + (-1 : Int32)) x3 v4 S2) (And.intro rfl (And.intro rfl (And.intro rfl (And.intro rfl (And.intro rfl trivial)))))
set_option maxRecDepth 100000 in
theorem t_X9_worked_194 {Γ : Cx} {F : Nat} {k14 : Nat → Int32 → Int32 → Int32 → Mem → Option (Int32 × Mem)} (hk14 : ∀ (x0 : Nat) (x1 : Int32) (x2 : Int32) (x3 : Int32) (S : Mem), Sim cX9_worked RX9 2 43 (some .int) false Γ rI (k14 x0 x1 x2 x3 S) S 14 [some (.ref x0), some (.int x1), some (.int x2), some (.int x3), none, none] []) : ∀ (x0 : Nat) (x1 : Int32) (x2 : Int32) (x3 : Int32) (x4 : Int32) (S : Mem), Sim cX9_worked RX9 2 43 (some .int) false Γ rI (f_X9_worked_194 F k14 x0 x1 x2 x3 x4 S) S 194 [some (.ref x0), some (.int x1), some (.int x2), some (.int x3), some (.int x4), none] [] := by
  intro x0 x1 x2 x3 x4 S
  unfold f_X9_worked_194
  refine s_aload_n 0 dX9_worked_194 rfl rfl ?_
  refine s_iload_n 2 dX9_worked_195 rfl rfl ?_
  refine s_cV1V mk_X9_202 (by decide) rfl (fun v9 S9 h9 => con_X9_tests F _ _ _ v9 S9 h9) ⟨by omega, by omega⟩ (Nat.le_of_ble_eq_true rfl) dX9_worked_196 (fun _ S2 => ?_)
  refine s_aload_n 0 dX9_worked_199 rfl rfl ?_
  refine s_getR fk_X9_54 rfl dX9_worked_200 (fun v3 => ?_)
  refine s_iload_n 2 dX9_worked_203 rfl rfl ?_
  refine s_iload dX9_worked_204 rfl ?_
  refine s_iast dX9_worked_206 (fun S4 => ?_)
  refine s_goto 329 dX9_worked_207 (by decide) ?_
  exact s_less (t_X9_worked_329 hk14 x0 x1 x2 x3  S4) (And.intro rfl (And.intro rfl (And.intro rfl (And.intro rfl trivial))))
set_option maxRecDepth 100000 in
theorem t_X9_worked_137 {Γ : Cx} {F : Nat} {k14 : Nat → Int32 → Int32 → Int32 → Mem → Option (Int32 × Mem)} (hk14 : ∀ (x0 : Nat) (x1 : Int32) (x2 : Int32) (x3 : Int32) (S : Mem), Sim cX9_worked RX9 2 43 (some .int) false Γ rI (k14 x0 x1 x2 x3 S) S 14 [some (.ref x0), some (.int x1), some (.int x2), some (.int x3), none, none] []) : ∀ (x0 : Nat) (x1 : Int32) (x2 : Int32) (x3 : Int32) (x4 : Int32) (S : Mem), Sim cX9_worked RX9 2 43 (some .int) false Γ rI (f_X9_worked_137 F k14 x0 x1 x2 x3 x4 S) S 137 [some (.ref x0), some (.int x1), some (.int x2), some (.int x3), some (.int x4), none] [] := by
  intro x0 x1 x2 x3 x4 S
  unfold f_X9_worked_137
  refine s_aload_n 0 dX9_worked_137 rfl rfl ?_
  refine s_iload_n 2 dX9_worked_138 rfl rfl ?_
  refine s_cV1V mk_X9_196 (by decide) rfl (fun v9 S9 h9 => con_X9_sums F _ _ _ v9 S9 h9) ⟨by omega, by omega⟩ (Nat.le_of_ble_eq_true rfl) dX9_worked_139 (fun _ S2 => ?_)
  refine s_aload_n 0 dX9_worked_142 rfl rfl ?_
  refine s_getR fk_X9_57 rfl dX9_worked_143 (fun v3 => ?_)
  refine s_iload_n 2 dX9_worked_146 rfl rfl ?_
  refine s_aload_n 0 dX9_worked_147 rfl rfl ?_
  refine s_getR fk_X9_63 rfl dX9_worked_148 (fun v4 => ?_)
  refine s_iload_n 2 dX9_worked_151 rfl rfl ?_
  refine s_iald dX9_worked_152 (fun v5 => ?_)
  refine s_iast dX9_worked_153 (fun S6 => ?_)
  refine s_aload_n 0 dX9_worked_154 rfl rfl ?_
  refine s_getR fk_X9_60 rfl dX9_worked_155 (fun v7 => ?_)
  refine s_iload_n 2 dX9_worked_158 rfl rfl ?_
  refine s_iload dX9_worked_159 rfl ?_
  refine s_iast dX9_worked_161 (fun S8 => ?_)
  refine s_aload_n 0 dX9_worked_162 rfl rfl ?_
  refine s_getR fk_X9_63 rfl dX9_worked_163 (fun v9 => ?_)
  refine s_iload_n 2 dX9_worked_166 rfl rfl ?_
  refine s_iconst (0 : Int32) dX9_worked_167 (by decide) ?_
  refine s_iast dX9_worked_168 (fun S10 => ?_)
  refine s_aload_n 0 dX9_worked_169 rfl rfl ?_
  refine s_getR fk_X9_66 rfl dX9_worked_170 (fun v11 => ?_)
  refine s_iload_n 2 dX9_worked_173 rfl rfl ?_
  refine s_bipush (20 : Int32) dX9_worked_174 (by decide) ?_
  refine s_iast dX9_worked_176 (fun S12 => ?_)
  refine s_goto 329 dX9_worked_177 (by decide) ?_
  exact s_less (t_X9_worked_329 hk14 x0 x1 x2 x3  S12) (And.intro rfl (And.intro rfl (And.intro rfl (And.intro rfl trivial))))
set_option maxRecDepth 100000 in
theorem t_X9_worked_89 {Γ : Cx} {F : Nat} {k14 : Nat → Int32 → Int32 → Int32 → Mem → Option (Int32 × Mem)} (hk14 : ∀ (x0 : Nat) (x1 : Int32) (x2 : Int32) (x3 : Int32) (S : Mem), Sim cX9_worked RX9 2 43 (some .int) false Γ rI (k14 x0 x1 x2 x3 S) S 14 [some (.ref x0), some (.int x1), some (.int x2), some (.int x3), none, none] []) : ∀ (x0 : Nat) (x1 : Int32) (x2 : Int32) (x3 : Int32) (x4 : Int32) (S : Mem), Sim cX9_worked RX9 2 43 (some .int) false Γ rI (f_X9_worked_89 F k14 x0 x1 x2 x3 x4 S) S 89 [some (.ref x0), some (.int x1), some (.int x2), some (.int x3), some (.int x4), none] [] := by
  intro x0 x1 x2 x3 x4 S
  unfold f_X9_worked_89
  refine s_aload_n 0 dX9_worked_89 rfl rfl ?_
  refine s_iload_n 2 dX9_worked_90 rfl rfl ?_
  refine s_cV1V mk_X9_196 (by decide) rfl (fun v9 S9 h9 => con_X9_sums F _ _ _ v9 S9 h9) ⟨by omega, by omega⟩ (Nat.le_of_ble_eq_true rfl) dX9_worked_91 (fun _ S2 => ?_)
  refine s_aload_n 0 dX9_worked_94 rfl rfl ?_
  refine s_getR fk_X9_66 rfl dX9_worked_95 (fun v3 => ?_)
  refine s_iload_n 2 dX9_worked_98 rfl rfl ?_
  refine s_iload dX9_worked_99 rfl ?_
  refine s_iast dX9_worked_101 (fun S4 => ?_)
  refine s_goto 329 dX9_worked_102 (by decide) ?_
  exact s_less (t_X9_worked_329 hk14 x0 x1 x2 x3  S4) (And.intro rfl (And.intro rfl (And.intro rfl (And.intro rfl trivial))))
set_option maxRecDepth 100000 in
theorem t_X9_worked_66 {Γ : Cx} {F : Nat} {k14 : Nat → Int32 → Int32 → Int32 → Mem → Option (Int32 × Mem)} (hk14 : ∀ (x0 : Nat) (x1 : Int32) (x2 : Int32) (x3 : Int32) (S : Mem), Sim cX9_worked RX9 2 43 (some .int) false Γ rI (k14 x0 x1 x2 x3 S) S 14 [some (.ref x0), some (.int x1), some (.int x2), some (.int x3), none, none] []) : ∀ (x0 : Nat) (x1 : Int32) (x2 : Int32) (x3 : Int32) (y0 : Nat) (y1 : Int32) (y2 : Int32) (S : Mem), Sim cX9_worked RX9 2 43 (some .int) false Γ rI (f_X9_worked_66 F k14 x0 x1 x2 x3 y0 y1 y2 S) S 66 [some (.ref x0), some (.int x1), some (.int x2), some (.int x3), none, none] [.int y2, .int y1, .ref y0] := by
  intro x0 x1 x2 x3 y0 y1 y2 S
  unfold f_X9_worked_66
  refine s_iast dX9_worked_66 (fun S1 => ?_)
  refine s_aload_n 0 dX9_worked_67 rfl rfl ?_
  refine s_iload_n 2 dX9_worked_68 rfl rfl ?_
  refine s_cV1V mk_X9_199 (by decide) rfl (fun v9 S9 h9 => con_X9_opens F _ _ _ v9 S9 h9) ⟨by omega, by omega⟩ (Nat.le_of_ble_eq_true rfl) dX9_worked_69 (fun _ S3 => ?_)
  refine s_goto 329 dX9_worked_72 (by decide) ?_
  exact s_less (t_X9_worked_329 hk14 x0 x1 x2 x3  S3) (And.intro rfl (And.intro rfl (And.intro rfl (And.intro rfl trivial))))
set_option maxRecDepth 100000 in
theorem t_X9_worked_46 {Γ : Cx} {F : Nat} {k14 : Nat → Int32 → Int32 → Int32 → Mem → Option (Int32 × Mem)} (hk14 : ∀ (x0 : Nat) (x1 : Int32) (x2 : Int32) (x3 : Int32) (S : Mem), Sim cX9_worked RX9 2 43 (some .int) false Γ rI (k14 x0 x1 x2 x3 S) S 14 [some (.ref x0), some (.int x1), some (.int x2), some (.int x3), none, none] []) : ∀ (x0 : Nat) (x1 : Int32) (x2 : Int32) (x3 : Int32) (x4 : Int32) (S : Mem), Sim cX9_worked RX9 2 43 (some .int) false Γ rI (f_X9_worked_46 F k14 x0 x1 x2 x3 x4 S) S 46 [some (.ref x0), some (.int x1), some (.int x2), some (.int x3), some (.int x4), none] [] := by
  intro x0 x1 x2 x3 x4 S
  unfold f_X9_worked_46
  refine s_iinc_2 (1 : Int32) dX9_worked_46 (by decide) rfl ?_
  refine s_aload_n 0 dX9_worked_49 rfl rfl ?_
  refine s_getR fk_X9_75 rfl dX9_worked_50 (fun v1 => ?_)
  refine s_iload_n 2 dX9_worked_53 rfl rfl ?_
  refine s_iload dX9_worked_54 rfl ?_
  refine s_bipush (30 : Int32) dX9_worked_56 (by decide) ?_
  refine s_icmp_ne 65 dX9_worked_58 (by decide) (fun _ => ?_) (fun _ => ?_)
  · refine s_iconst (0 : Int32) dX9_worked_65 (by decide) ?_
    exact s_less (t_X9_worked_66 hk14 x0 x1 (x2 + (1 : Int32)) x3 v1 (x2 + (1 : Int32)) (0 : Int32) S) (And.intro rfl (And.intro rfl (And.intro rfl (And.intro rfl trivial))))
  · refine s_iconst (1 : Int32) dX9_worked_61 (by decide) ?_
    refine s_goto 66 dX9_worked_62 (by decide) ?_
    exact s_less (t_X9_worked_66 hk14 x0 x1 (x2 + (1 : Int32)) x3 v1 (x2 + (1 : Int32)) (1 : Int32) S) (And.intro rfl (And.intro rfl (And.intro rfl (And.intro rfl trivial))))
set_option maxRecDepth 100000 in
theorem t_X9_worked_14 {Γ : Cx} {F : Nat} : ∀ (f : Nat) (x0 : Nat) (x1 : Int32) (x2 : Int32) (x3 : Int32) (S : Mem), Sim cX9_worked RX9 2 43 (some .int) false Γ rI (fix4 (b_X9_worked_14 F) f x0 x1 x2 x3 S) S 14 [some (.ref x0), some (.int x1), some (.int x2), some (.int x3), none, none] [] := by
  refine s_fix4 (fun (x0 : Nat) (x1 : Int32) (x2 : Int32) (x3 : Int32) => [some (.ref x0), some (.int x1), some (.int x2), some (.int x3), none, none]) (fun k14 hk14 => ?_)
  intro x0 x1 x2 x3 S
  unfold b_X9_worked_14
  refine s_iload_n 3 dX9_worked_14 rfl rfl ?_
  refine s_aload_n 0 dX9_worked_15 rfl rfl ?_
  refine s_getR fk_X9_38 rfl dX9_worked_16 (fun v1 => ?_)
  refine s_iload_n 1 dX9_worked_19 rfl rfl ?_
  refine s_iald dX9_worked_20 (fun v2 => ?_)
  refine s_icmp_ge 335 dX9_worked_21 (by decide) (fun _ => ?_) (fun _ => ?_)
  · refine s_aload_n 0 dX9_worked_335 rfl rfl ?_
    refine s_iconst (0 : Int32) dX9_worked_336 (by decide) ?_
    refine s_cV1V mk_X9_202 (by decide) rfl (fun v9 S9 h9 => con_X9_tests F _ _ _ v9 S9 h9) ⟨by omega, by omega⟩ (Nat.le_of_ble_eq_true rfl) dX9_worked_337 (fun _ S4 => ?_)
    refine s_aload_n 0 dX9_worked_340 rfl rfl ?_
    refine s_getR fk_X9_51 rfl dX9_worked_341 (fun v5 => ?_)
    refine s_iconst (0 : Int32) dX9_worked_344 (by decide) ?_
    refine s_iald dX9_worked_345 (fun v6 => ?_)
    exact s_iret dX9_worked_346
  · refine s_aload_n 0 dX9_worked_24 rfl rfl ?_
    refine s_getR fk_X9_41 rfl dX9_worked_25 (fun v7 => ?_)
    refine s_iload_n 3 dX9_worked_28 rfl rfl ?_
    refine s_iald dX9_worked_29 (fun v8 => ?_)
    refine s_istore_4 dX9_worked_30 rfl ?_
    refine s_iload dX9_worked_32 rfl ?_
    refine s_bipush (28 : Int32) dX9_worked_34 (by decide) ?_
    refine s_icmp_eq 46 dX9_worked_36 (by decide) (fun _ => ?_) (fun _ => ?_)
    · exact s_less (t_X9_worked_46 hk14 x0 x1 x2 x3 v8  S) (And.intro rfl (And.intro rfl (And.intro rfl (And.intro rfl (And.intro rfl trivial)))))
    · refine s_iload dX9_worked_39 rfl ?_
      refine s_bipush (30 : Int32) dX9_worked_41 (by decide) ?_
      refine s_icmp_ne 75 dX9_worked_43 (by decide) (fun _ => ?_) (fun _ => ?_)
      · refine s_iload dX9_worked_75 rfl ?_
        refine s_bipush (20 : Int32) dX9_worked_77 (by decide) ?_
        refine s_icmp_eq 89 dX9_worked_79 (by decide) (fun _ => ?_) (fun _ => ?_)
        · exact s_less (t_X9_worked_89 hk14 x0 x1 x2 x3 v8  S) (And.intro rfl (And.intro rfl (And.intro rfl (And.intro rfl (And.intro rfl trivial)))))
        · refine s_iload dX9_worked_82 rfl ?_
          refine s_bipush (21 : Int32) dX9_worked_84 (by decide) ?_
          refine s_icmp_ne 105 dX9_worked_86 (by decide) (fun _ => ?_) (fun _ => ?_)
          · refine s_iload dX9_worked_105 rfl ?_
            refine s_bipush (22 : Int32) dX9_worked_107 (by decide) ?_
            refine s_icmp_ne 123 dX9_worked_109 (by decide) (fun _ => ?_) (fun _ => ?_)
            · refine s_iload dX9_worked_123 rfl ?_
              refine s_bipush (24 : Int32) dX9_worked_125 (by decide) ?_
              refine s_icmp_eq 137 dX9_worked_127 (by decide) (fun _ => ?_) (fun _ => ?_)
              · exact s_less (t_X9_worked_137 hk14 x0 x1 x2 x3 v8  S) (And.intro rfl (And.intro rfl (And.intro rfl (And.intro rfl (And.intro rfl trivial)))))
              · refine s_iload dX9_worked_130 rfl ?_
                refine s_bipush (25 : Int32) dX9_worked_132 (by decide) ?_
                refine s_icmp_ne 180 dX9_worked_134 (by decide) (fun _ => ?_) (fun _ => ?_)
                · refine s_iload dX9_worked_180 rfl ?_
                  refine s_bipush (26 : Int32) dX9_worked_182 (by decide) ?_
                  refine s_icmp_eq 194 dX9_worked_184 (by decide) (fun _ => ?_) (fun _ => ?_)
                  · exact s_less (t_X9_worked_194 hk14 x0 x1 x2 x3 v8  S) (And.intro rfl (And.intro rfl (And.intro rfl (And.intro rfl (And.intro rfl trivial)))))
                  · refine s_iload dX9_worked_187 rfl ?_
                    refine s_bipush (27 : Int32) dX9_worked_189 (by decide) ?_
                    refine s_icmp_ne 210 dX9_worked_191 (by decide) (fun _ => ?_) (fun _ => ?_)
                    · refine s_iload dX9_worked_210 rfl ?_
                      refine s_bipush (100 : Int32) dX9_worked_212 (by decide) ?_
                      refine s_icmp_lt 225 dX9_worked_214 (by decide) (fun _ => ?_) (fun _ => ?_)
                      · refine s_iload dX9_worked_225 rfl ?_
                        refine s_bipush (20 : Int32) dX9_worked_227 (by decide) ?_
                        refine s_icmp_ge 242 dX9_worked_229 (by decide) (fun _ => ?_) (fun _ => ?_)
                        · refine s_iconst (0 : Int32) dX9_worked_242 (by decide) ?_
                          exact s_less (t_X9_worked_243 hk14 x0 x1 x2 x3 v8 (0 : Int32) S) (And.intro rfl (And.intro rfl (And.intro rfl (And.intro rfl (And.intro rfl trivial)))))
                        · refine s_aload_n 0 dX9_worked_232 rfl rfl ?_
                          refine s_getR fk_X9_78 rfl dX9_worked_233 (fun v9 => ?_)
                          refine s_iload dX9_worked_236 rfl ?_
                          refine s_iald dX9_worked_238 (fun v10 => ?_)
                          refine s_goto 243 dX9_worked_239 (by decide) ?_
                          exact s_less (t_X9_worked_243 hk14 x0 x1 x2 x3 v8 v10 S) (And.intro rfl (And.intro rfl (And.intro rfl (And.intro rfl (And.intro rfl trivial)))))
                      · refine s_iload dX9_worked_217 rfl ?_
                        refine s_bipush (100 : Int32) dX9_worked_219 (by decide) ?_
                        refine s_isub dX9_worked_221 ?_
                        refine s_goto 243 dX9_worked_222 (by decide) ?_
                        exact s_less (t_X9_worked_243 hk14 x0 x1 x2 x3 v8 (v8 - (100 : Int32)) S) (And.intro rfl (And.intro rfl (And.intro rfl (And.intro rfl (And.intro rfl trivial)))))
                    · exact s_less (t_X9_worked_194 hk14 x0 x1 x2 x3 v8  S) (And.intro rfl (And.intro rfl (And.intro rfl (And.intro rfl (And.intro rfl trivial)))))
                · exact s_less (t_X9_worked_137 hk14 x0 x1 x2 x3 v8  S) (And.intro rfl (And.intro rfl (And.intro rfl (And.intro rfl (And.intro rfl trivial)))))
            · refine s_aload_n 0 dX9_worked_112 rfl rfl ?_
              refine s_getR fk_X9_72 rfl dX9_worked_113 (fun v11 => ?_)
              refine s_iload_n 2 dX9_worked_116 rfl rfl ?_
              refine s_iload dX9_worked_117 rfl ?_
              refine s_iast dX9_worked_119 (fun S12 => ?_)
              refine s_goto 329 dX9_worked_120 (by decide) ?_
              exact s_less (t_X9_worked_329 hk14 x0 x1 x2 x3  S12) (And.intro rfl (And.intro rfl (And.intro rfl (And.intro rfl trivial))))
          · exact s_less (t_X9_worked_89 hk14 x0 x1 x2 x3 v8  S) (And.intro rfl (And.intro rfl (And.intro rfl (And.intro rfl (And.intro rfl trivial)))))
      · exact s_less (t_X9_worked_46 hk14 x0 x1 x2 x3 v8  S) (And.intro rfl (And.intro rfl (And.intro rfl (And.intro rfl (And.intro rfl trivial)))))
set_option maxRecDepth 100000 in
theorem con_X9_worked {l : Launch} (F : Nat) (x0 : Nat) (x1 : Int32) (S : Mem) (v : Int32) (S1 : Mem) (h : fn_X9_worked F x0 x1 S = some (v, S1)) : Con l yX9_worked cX9_worked 6 (some .int) 2 43 [.ref x0, .int x1] S (rI v) S1 := by
  refine con_of (ι := rI) RX9 false [some (.ref x0), some (.int x1), none, none, none, none] rfl (fun h => by cases h) (by decide) (Nat.le_of_ble_eq_true rfl) ⟨rfl, rfl⟩ (fun Γ hl => ?_) h
  unfold fn_X9_worked
  refine s_iconst (0 : Int32) dX9_worked_0 (by decide) ?_
  refine s_istore_2 dX9_worked_1 rfl ?_
  refine s_aload_n 0 dX9_worked_2 rfl rfl ?_
  refine s_iconst (0 : Int32) dX9_worked_3 (by decide) ?_
  refine s_cV1V mk_X9_199 (by decide) rfl (fun v9 S9 h9 => con_X9_opens F _ _ _ v9 S9 h9) ⟨by omega, by omega⟩ (Nat.le_of_ble_eq_true rfl) dX9_worked_4 (fun _ S2 => ?_)
  refine s_aload_n 0 dX9_worked_7 rfl rfl ?_
  refine s_getR fk_X9_35 rfl dX9_worked_8 (fun v3 => ?_)
  refine s_iload_n 1 dX9_worked_11 rfl rfl ?_
  refine s_iald dX9_worked_12 (fun v4 => ?_)
  refine s_istore_3 dX9_worked_13 rfl ?_
  exact s_less (t_X9_worked_14 F x0 x1 (0 : Int32) v4 S2) (And.intro rfl (And.intro rfl (And.intro rfl (And.intro rfl trivial))))
-- X9_isKept
def f_X9_isKept_235 (F : Nat) (y0 : Int32) (S : Mem) : Option (Int32 × Mem) :=
  rz y0 S
def f_X9_isKept_230 (F : Nat)  (S : Mem) : Option (Int32 × Mem) :=
  f_X9_isKept_235 F  (1 : Int32) S
def fn_X9_isKept (F : Nat) (x0 : Nat) (S : Mem) : Option (Int32 × Mem) :=
  (gI S 8 6 x0).bind fun v1 =>
  if v1 = (1 : Int32) then
    (gJ S 8 7 x0).bind fun v2 =>
    if (lg_cmp v2 (459652 : Int64)) = 0 then
      f_X9_isKept_230 F   S
    else
      (gJ S 8 7 x0).bind fun v3 =>
      if (lg_cmp v3 (369932 : Int64)) = 0 then
        f_X9_isKept_230 F   S
      else
        (gJ S 8 7 x0).bind fun v4 =>
        if (lg_cmp v4 (237292 : Int64)) = 0 then
          f_X9_isKept_230 F   S
        else
          (gJ S 8 7 x0).bind fun v5 =>
          if (lg_cmp v5 (158772 : Int64)) = 0 then
            f_X9_isKept_230 F   S
          else
            (gJ S 8 7 x0).bind fun v6 =>
            if (lg_cmp v6 (10819228 : Int64)) = 0 then
              f_X9_isKept_230 F   S
            else
              (gJ S 8 7 x0).bind fun v7 =>
              if (lg_cmp v7 (4147840 : Int64)) = 0 then
                f_X9_isKept_230 F   S
              else
                (gJ S 8 7 x0).bind fun v8 =>
                if (lg_cmp v8 (223619 : Int64)) = 0 then
                  f_X9_isKept_230 F   S
                else
                  (gJ S 8 7 x0).bind fun v9 =>
                  if (lg_cmp v9 (47 : Int64)) = 0 then
                    f_X9_isKept_230 F   S
                  else
                    (gJ S 8 7 x0).bind fun v10 =>
                    if (lg_cmp v10 (242939 : Int64)) = 0 then
                      f_X9_isKept_230 F   S
                    else
                      (gJ S 8 7 x0).bind fun v11 =>
                      if (lg_cmp v11 (6476969 : Int64)) = 0 then
                        f_X9_isKept_230 F   S
                      else
                        (gJ S 8 7 x0).bind fun v12 =>
                        if (lg_cmp v12 (247516 : Int64)) = 0 then
                          f_X9_isKept_230 F   S
                        else
                          (gJ S 8 7 x0).bind fun v13 =>
                          if (lg_cmp v13 (8740238 : Int64)) = 0 then
                            f_X9_isKept_230 F   S
                          else
                            (gJ S 8 7 x0).bind fun v14 =>
                            if (lg_cmp v14 (1887 : Int64)) = 0 then
                              f_X9_isKept_230 F   S
                            else
                              (gJ S 8 7 x0).bind fun v15 =>
                              if (lg_cmp v15 (394644 : Int64)) = 0 then
                                f_X9_isKept_230 F   S
                              else
                                (gJ S 8 7 x0).bind fun v16 =>
                                if (lg_cmp v16 (4351291 : Int64)) = 0 then
                                  f_X9_isKept_230 F   S
                                else
                                  (gJ S 8 7 x0).bind fun v17 =>
                                  if (lg_cmp v17 (82410 : Int64)) = 0 then
                                    f_X9_isKept_230 F   S
                                  else
                                    (gJ S 8 7 x0).bind fun v18 =>
                                    if (lg_cmp v18 (237652 : Int64)) = 0 then
                                      f_X9_isKept_230 F   S
                                    else
                                      (gJ S 8 7 x0).bind fun v19 =>
                                      if (lg_cmp v19 (10631 : Int64)) = 0 then
                                        f_X9_isKept_230 F   S
                                      else
                                        (gJ S 8 7 x0).bind fun v20 =>
                                        if (lg_cmp v20 (1111 : Int64)) = 0 then
                                          f_X9_isKept_230 F   S
                                        else
                                          (gJ S 8 7 x0).bind fun v21 =>
                                          if (lg_cmp v21 (423 : Int64)) = 0 then
                                            f_X9_isKept_230 F   S
                                          else
                                            f_X9_isKept_235 F  (0 : Int32) S
  else
    rz (1 : Int32) S
set_option maxRecDepth 100000 in
theorem t_X9_isKept_235 {Γ : Cx} {F : Nat} : ∀ (y0 : Int32) (S : Mem), Sim cX9_isKept RX9 0 0 (some .boolean) false Γ rI (f_X9_isKept_235 F y0 S) S 235 [none] [.int y0] := by
  intro y0 S
  unfold f_X9_isKept_235
  exact s_zret dX9_isKept_235
set_option maxRecDepth 100000 in
theorem t_X9_isKept_230 {Γ : Cx} {F : Nat} : ∀ (S : Mem), Sim cX9_isKept RX9 0 0 (some .boolean) false Γ rI (f_X9_isKept_230 F  S) S 230 [none] [] := by
  intro  S
  unfold f_X9_isKept_230
  refine s_iconst (1 : Int32) dX9_isKept_230 (by decide) ?_
  refine s_goto 235 dX9_isKept_231 (by decide) ?_
  exact s_less (t_X9_isKept_235  (1 : Int32) S) trivial
set_option maxRecDepth 100000 in
theorem con_X9_isKept {l : Launch} (F : Nat) (x0 : Nat) (S : Mem) (v : Int32) (S1 : Mem) (h : fn_X9_isKept F x0 S = some (v, S1)) : Con l yX9_isKept cX9_isKept 1 (some .boolean) 0 0 [.ref x0] S (rI v) S1 := by
  refine con_of (ι := rI) RX9 false [some (.ref x0)] rfl (fun h => by cases h) (by decide) (Nat.le_of_ble_eq_true rfl) ⟨rfl, rfl⟩ (fun Γ hl => ?_) h
  unfold fn_X9_isKept
  refine s_aload_n 0 dX9_isKept_0 rfl rfl ?_
  refine s_getI fk_X9_134 rfl dX9_isKept_1 (fun v1 => ?_)
  refine s_iconst (1 : Int32) dX9_isKept_4 (by decide) ?_
  refine s_icmp_eq 10 dX9_isKept_5 (by decide) (fun _ => ?_) (fun _ => ?_)
  · refine s_aload_n 0 dX9_isKept_10 rfl rfl ?_
    refine s_getJ fk_X9_127 rfl dX9_isKept_11 (fun v2 => ?_)
    refine s_ldc2 (v := (459652 : Int64)) dX9_isKept_14 (lw_in 1202 (by decide +kernel) (by decide +kernel)) ?_
    refine s_lcmp dX9_isKept_17 ?_
    refine s_if_eq 230 dX9_isKept_18 (by decide) (fun _ => ?_) (fun _ => ?_)
    · exact s_less (t_X9_isKept_230   S) trivial
    · refine s_aload_n 0 dX9_isKept_21 rfl rfl ?_
      refine s_getJ fk_X9_127 rfl dX9_isKept_22 (fun v3 => ?_)
      refine s_ldc2 (v := (369932 : Int64)) dX9_isKept_25 (lw_in 1240 (by decide +kernel) (by decide +kernel)) ?_
      refine s_lcmp dX9_isKept_28 ?_
      refine s_if_eq 230 dX9_isKept_29 (by decide) (fun _ => ?_) (fun _ => ?_)
      · exact s_less (t_X9_isKept_230   S) trivial
      · refine s_aload_n 0 dX9_isKept_32 rfl rfl ?_
        refine s_getJ fk_X9_127 rfl dX9_isKept_33 (fun v4 => ?_)
        refine s_ldc2 (v := (237292 : Int64)) dX9_isKept_36 (lw_in 1241 (by decide +kernel) (by decide +kernel)) ?_
        refine s_lcmp dX9_isKept_39 ?_
        refine s_if_eq 230 dX9_isKept_40 (by decide) (fun _ => ?_) (fun _ => ?_)
        · exact s_less (t_X9_isKept_230   S) trivial
        · refine s_aload_n 0 dX9_isKept_43 rfl rfl ?_
          refine s_getJ fk_X9_127 rfl dX9_isKept_44 (fun v5 => ?_)
          refine s_ldc2 (v := (158772 : Int64)) dX9_isKept_47 (lw_in 1257 (by decide +kernel) (by decide +kernel)) ?_
          refine s_lcmp dX9_isKept_50 ?_
          refine s_if_eq 230 dX9_isKept_51 (by decide) (fun _ => ?_) (fun _ => ?_)
          · exact s_less (t_X9_isKept_230   S) trivial
          · refine s_aload_n 0 dX9_isKept_54 rfl rfl ?_
            refine s_getJ fk_X9_127 rfl dX9_isKept_55 (fun v6 => ?_)
            refine s_ldc2 (v := (10819228 : Int64)) dX9_isKept_58 (lw_in 1258 (by decide +kernel) (by decide +kernel)) ?_
            refine s_lcmp dX9_isKept_61 ?_
            refine s_if_eq 230 dX9_isKept_62 (by decide) (fun _ => ?_) (fun _ => ?_)
            · exact s_less (t_X9_isKept_230   S) trivial
            · refine s_aload_n 0 dX9_isKept_65 rfl rfl ?_
              refine s_getJ fk_X9_127 rfl dX9_isKept_66 (fun v7 => ?_)
              refine s_ldc2 (v := (4147840 : Int64)) dX9_isKept_69 (lw_in 1259 (by decide +kernel) (by decide +kernel)) ?_
              refine s_lcmp dX9_isKept_72 ?_
              refine s_if_eq 230 dX9_isKept_73 (by decide) (fun _ => ?_) (fun _ => ?_)
              · exact s_less (t_X9_isKept_230   S) trivial
              · refine s_aload_n 0 dX9_isKept_76 rfl rfl ?_
                refine s_getJ fk_X9_127 rfl dX9_isKept_77 (fun v8 => ?_)
                refine s_ldc2 (v := (223619 : Int64)) dX9_isKept_80 (lw_in 1260 (by decide +kernel) (by decide +kernel)) ?_
                refine s_lcmp dX9_isKept_83 ?_
                refine s_if_eq 230 dX9_isKept_84 (by decide) (fun _ => ?_) (fun _ => ?_)
                · exact s_less (t_X9_isKept_230   S) trivial
                · refine s_aload_n 0 dX9_isKept_87 rfl rfl ?_
                  refine s_getJ fk_X9_127 rfl dX9_isKept_88 (fun v9 => ?_)
                  refine s_ldc2 (v := (47 : Int64)) dX9_isKept_91 (lw_in 1269 (by decide +kernel) (by decide +kernel)) ?_
                  refine s_lcmp dX9_isKept_94 ?_
                  refine s_if_eq 230 dX9_isKept_95 (by decide) (fun _ => ?_) (fun _ => ?_)
                  · exact s_less (t_X9_isKept_230   S) trivial
                  · refine s_aload_n 0 dX9_isKept_98 rfl rfl ?_
                    refine s_getJ fk_X9_127 rfl dX9_isKept_99 (fun v10 => ?_)
                    refine s_ldc2 (v := (242939 : Int64)) dX9_isKept_102 (lw_in 1270 (by decide +kernel) (by decide +kernel)) ?_
                    refine s_lcmp dX9_isKept_105 ?_
                    refine s_if_eq 230 dX9_isKept_106 (by decide) (fun _ => ?_) (fun _ => ?_)
                    · exact s_less (t_X9_isKept_230   S) trivial
                    · refine s_aload_n 0 dX9_isKept_109 rfl rfl ?_
                      refine s_getJ fk_X9_127 rfl dX9_isKept_110 (fun v11 => ?_)
                      refine s_ldc2 (v := (6476969 : Int64)) dX9_isKept_113 (lw_in 1271 (by decide +kernel) (by decide +kernel)) ?_
                      refine s_lcmp dX9_isKept_116 ?_
                      refine s_if_eq 230 dX9_isKept_117 (by decide) (fun _ => ?_) (fun _ => ?_)
                      · exact s_less (t_X9_isKept_230   S) trivial
                      · refine s_aload_n 0 dX9_isKept_120 rfl rfl ?_
                        refine s_getJ fk_X9_127 rfl dX9_isKept_121 (fun v12 => ?_)
                        refine s_ldc2 (v := (247516 : Int64)) dX9_isKept_124 (lw_in 1223 (by decide +kernel) (by decide +kernel)) ?_
                        refine s_lcmp dX9_isKept_127 ?_
                        refine s_if_eq 230 dX9_isKept_128 (by decide) (fun _ => ?_) (fun _ => ?_)
                        · exact s_less (t_X9_isKept_230   S) trivial
                        · refine s_aload_n 0 dX9_isKept_131 rfl rfl ?_
                          refine s_getJ fk_X9_127 rfl dX9_isKept_132 (fun v13 => ?_)
                          refine s_ldc2 (v := (8740238 : Int64)) dX9_isKept_135 (lw_in 1272 (by decide +kernel) (by decide +kernel)) ?_
                          refine s_lcmp dX9_isKept_138 ?_
                          refine s_if_eq 230 dX9_isKept_139 (by decide) (fun _ => ?_) (fun _ => ?_)
                          · exact s_less (t_X9_isKept_230   S) trivial
                          · refine s_aload_n 0 dX9_isKept_142 rfl rfl ?_
                            refine s_getJ fk_X9_127 rfl dX9_isKept_143 (fun v14 => ?_)
                            refine s_ldc2 (v := (1887 : Int64)) dX9_isKept_146 (lw_in 1273 (by decide +kernel) (by decide +kernel)) ?_
                            refine s_lcmp dX9_isKept_149 ?_
                            refine s_if_eq 230 dX9_isKept_150 (by decide) (fun _ => ?_) (fun _ => ?_)
                            · exact s_less (t_X9_isKept_230   S) trivial
                            · refine s_aload_n 0 dX9_isKept_153 rfl rfl ?_
                              refine s_getJ fk_X9_127 rfl dX9_isKept_154 (fun v15 => ?_)
                              refine s_ldc2 (v := (394644 : Int64)) dX9_isKept_157 (lw_in 1274 (by decide +kernel) (by decide +kernel)) ?_
                              refine s_lcmp dX9_isKept_160 ?_
                              refine s_if_eq 230 dX9_isKept_161 (by decide) (fun _ => ?_) (fun _ => ?_)
                              · exact s_less (t_X9_isKept_230   S) trivial
                              · refine s_aload_n 0 dX9_isKept_164 rfl rfl ?_
                                refine s_getJ fk_X9_127 rfl dX9_isKept_165 (fun v16 => ?_)
                                refine s_ldc2 (v := (4351291 : Int64)) dX9_isKept_168 (lw_in 1275 (by decide +kernel) (by decide +kernel)) ?_
                                refine s_lcmp dX9_isKept_171 ?_
                                refine s_if_eq 230 dX9_isKept_172 (by decide) (fun _ => ?_) (fun _ => ?_)
                                · exact s_less (t_X9_isKept_230   S) trivial
                                · refine s_aload_n 0 dX9_isKept_175 rfl rfl ?_
                                  refine s_getJ fk_X9_127 rfl dX9_isKept_176 (fun v17 => ?_)
                                  refine s_ldc2 (v := (82410 : Int64)) dX9_isKept_179 (lw_in 1276 (by decide +kernel) (by decide +kernel)) ?_
                                  refine s_lcmp dX9_isKept_182 ?_
                                  refine s_if_eq 230 dX9_isKept_183 (by decide) (fun _ => ?_) (fun _ => ?_)
                                  · exact s_less (t_X9_isKept_230   S) trivial
                                  · refine s_aload_n 0 dX9_isKept_186 rfl rfl ?_
                                    refine s_getJ fk_X9_127 rfl dX9_isKept_187 (fun v18 => ?_)
                                    refine s_ldc2 (v := (237652 : Int64)) dX9_isKept_190 (lw_in 1277 (by decide +kernel) (by decide +kernel)) ?_
                                    refine s_lcmp dX9_isKept_193 ?_
                                    refine s_if_eq 230 dX9_isKept_194 (by decide) (fun _ => ?_) (fun _ => ?_)
                                    · exact s_less (t_X9_isKept_230   S) trivial
                                    · refine s_aload_n 0 dX9_isKept_197 rfl rfl ?_
                                      refine s_getJ fk_X9_127 rfl dX9_isKept_198 (fun v19 => ?_)
                                      refine s_ldc2 (v := (10631 : Int64)) dX9_isKept_201 (lw_in 1229 (by decide +kernel) (by decide +kernel)) ?_
                                      refine s_lcmp dX9_isKept_204 ?_
                                      refine s_if_eq 230 dX9_isKept_205 (by decide) (fun _ => ?_) (fun _ => ?_)
                                      · exact s_less (t_X9_isKept_230   S) trivial
                                      · refine s_aload_n 0 dX9_isKept_208 rfl rfl ?_
                                        refine s_getJ fk_X9_127 rfl dX9_isKept_209 (fun v20 => ?_)
                                        refine s_ldc2 (v := (1111 : Int64)) dX9_isKept_212 (lw_in 1238 (by decide +kernel) (by decide +kernel)) ?_
                                        refine s_lcmp dX9_isKept_215 ?_
                                        refine s_if_eq 230 dX9_isKept_216 (by decide) (fun _ => ?_) (fun _ => ?_)
                                        · exact s_less (t_X9_isKept_230   S) trivial
                                        · refine s_aload_n 0 dX9_isKept_219 rfl rfl ?_
                                          refine s_getJ fk_X9_127 rfl dX9_isKept_220 (fun v21 => ?_)
                                          refine s_ldc2 (v := (423 : Int64)) dX9_isKept_223 (lw_in 1239 (by decide +kernel) (by decide +kernel)) ?_
                                          refine s_lcmp dX9_isKept_226 ?_
                                          refine s_if_ne 234 dX9_isKept_227 (by decide) (fun _ => ?_) (fun _ => ?_)
                                          · refine s_iconst (0 : Int32) dX9_isKept_234 (by decide) ?_
                                            exact s_less (t_X9_isKept_235  (0 : Int32) S) trivial
                                          · exact s_less (t_X9_isKept_230   S) trivial
  · refine s_iconst (1 : Int32) dX9_isKept_8 (by decide) ?_
    exact s_zret dX9_isKept_9
-- X9_needsNumber
def fn_X9_needsNumber (F : Nat) (x0 : Nat) (x1 : Int32) (x2 : Int32) (S : Mem) : Option (Int32 × Mem) :=
  (gI S 8 6 x0).bind fun v1 =>
  if v1 = (2 : Int32) then
    (gI S 8 8 x0).bind fun v2 =>
    bd ((fn_X9_within F v2 x1 x2 S)) fun v3 S4 =>
    if v3 = 0 then
      bd (cal S4 8 x0 (fn_X9_fails F x0 (4 : Int32) S4)) fun v9 S10 =>
      rz v9 S10
    else
      (gI S4 8 8 x0).bind fun v5 =>
      (sI S4 8 35 x0 v5).bind fun S6 =>
      bd (cal S6 8 x0 (fn_X9_nextToken F x0 S6)) fun _ S8 =>
      rz (1 : Int32) S8
  else
    bd (cal S 8 x0 (fn_X9_fails F x0 (1 : Int32) S)) fun v11 S12 =>
    rz v11 S12
set_option maxRecDepth 100000 in
theorem con_X9_needsNumber {l : Launch} (F : Nat) (x0 : Nat) (x1 : Int32) (x2 : Int32) (S : Mem) (v : Int32) (S1 : Mem) (h : fn_X9_needsNumber F x0 x1 x2 S = some (v, S1)) : Con l yX9_needsNumber cX9_needsNumber 3 (some .boolean) 2 42 [.ref x0, .int x1, .int x2] S (rI v) S1 := by
  refine con_of (ι := rI) RX9 false [some (.ref x0), some (.int x1), some (.int x2)] rfl (fun h => by cases h) (by decide) (Nat.le_of_ble_eq_true rfl) ⟨rfl, rfl⟩ (fun Γ hl => ?_) h
  unfold fn_X9_needsNumber
  refine s_aload_n 0 dX9_needsNumber_0 rfl rfl ?_
  refine s_getI fk_X9_134 rfl dX9_needsNumber_1 (fun v1 => ?_)
  refine s_iconst (2 : Int32) dX9_needsNumber_4 (by decide) ?_
  refine s_icmp_eq 14 dX9_needsNumber_5 (by decide) (fun _ => ?_) (fun _ => ?_)
  · refine s_aload_n 0 dX9_needsNumber_14 rfl rfl ?_
    refine s_getI fk_X9_131 rfl dX9_needsNumber_15 (fun v2 => ?_)
    refine s_iload_n 1 dX9_needsNumber_18 rfl rfl ?_
    refine s_iload_n 2 dX9_needsNumber_19 rfl rfl ?_
    refine s_cS3I mk_X9_235 (fun v9 S9 h9 => con_X9_within F _ _ _ _ v9 S9 h9) ⟨by omega, by omega⟩ (Nat.le_of_ble_eq_true rfl) dX9_needsNumber_20 (fun v3 S4 => ?_)
    refine s_if_ne 32 dX9_needsNumber_23 (by decide) (fun _ => ?_) (fun _ => ?_)
    · refine s_aload_n 0 dX9_needsNumber_32 rfl rfl ?_
      refine s_aload_n 0 dX9_needsNumber_33 rfl rfl ?_
      refine s_getI fk_X9_131 rfl dX9_needsNumber_34 (fun v5 => ?_)
      refine s_putI fk_X9_239 (Or.inl rfl) rfl dX9_needsNumber_37 (fun S6 => ?_)
      refine s_aload_n 0 dX9_needsNumber_40 rfl rfl ?_
      refine s_cV0V mk_X9_189 (by decide) rfl (fun v9 S9 h9 => con_X9_nextToken F _ _ v9 S9 h9) ⟨by omega, by omega⟩ (Nat.le_of_ble_eq_true rfl) dX9_needsNumber_41 (fun _ S8 => ?_)
      refine s_iconst (1 : Int32) dX9_needsNumber_44 (by decide) ?_
      exact s_zret dX9_needsNumber_45
    · refine s_aload_n 0 dX9_needsNumber_26 rfl rfl ?_
      refine s_iconst (4 : Int32) dX9_needsNumber_27 (by decide) ?_
      refine s_cV1I mk_X9_183 (by decide) rfl (fun v9 S9 h9 => con_X9_fails F _ _ _ v9 S9 h9) ⟨by omega, by omega⟩ (Nat.le_of_ble_eq_true rfl) dX9_needsNumber_28 (fun v9 S10 => ?_)
      exact s_zret dX9_needsNumber_31
  · refine s_aload_n 0 dX9_needsNumber_8 rfl rfl ?_
    refine s_iconst (1 : Int32) dX9_needsNumber_9 (by decide) ?_
    refine s_cV1I mk_X9_183 (by decide) rfl (fun v9 S9 h9 => con_X9_fails F _ _ _ v9 S9 h9) ⟨by omega, by omega⟩ (Nat.le_of_ble_eq_true rfl) dX9_needsNumber_10 (fun v11 S12 => ?_)
    exact s_zret dX9_needsNumber_13
-- X9_needsWord
def fn_X9_needsWord (F : Nat) (x0 : Nat) (x1 : Int64) (S : Mem) : Option (Int32 × Mem) :=
  bd (cal S 8 x0 (fn_X9_isWord F x0 x1 S)) fun v1 S2 =>
  if v1 = 0 then
    bd (cal S2 8 x0 (fn_X9_fails F x0 (1 : Int32) S2)) fun v5 S6 =>
    rz v5 S6
  else
    bd (cal S2 8 x0 (fn_X9_nextToken F x0 S2)) fun _ S4 =>
    rz (1 : Int32) S4
set_option maxRecDepth 100000 in
theorem con_X9_needsWord {l : Launch} (F : Nat) (x0 : Nat) (x1 : Int64) (S : Mem) (v : Int32) (S1 : Mem) (h : fn_X9_needsWord F x0 x1 S = some (v, S1)) : Con l yX9_needsWord cX9_needsWord 3 (some .boolean) 2 42 [.ref x0, .long x1] S (rI v) S1 := by
  refine con_of (ι := rI) RX9 false [some (.ref x0), some (.long x1), none] rfl (fun h => by cases h) (by decide) (Nat.le_of_ble_eq_true rfl) ⟨rfl, rfl⟩ (fun Γ hl => ?_) h
  unfold fn_X9_needsWord
  refine s_aload_n 0 dX9_needsWord_0 rfl rfl ?_
  refine s_lload_n 1 dX9_needsWord_1 rfl rfl ?_
  refine s_cV1I mk_X9_175 (by decide) rfl (fun v9 S9 h9 => con_X9_isWord F _ _ _ v9 S9 h9) ⟨by omega, by omega⟩ (Nat.le_of_ble_eq_true rfl) dX9_needsWord_2 (fun v1 S2 => ?_)
  refine s_if_ne 14 dX9_needsWord_5 (by decide) (fun _ => ?_) (fun _ => ?_)
  · refine s_aload_n 0 dX9_needsWord_14 rfl rfl ?_
    refine s_cV0V mk_X9_189 (by decide) rfl (fun v9 S9 h9 => con_X9_nextToken F _ _ v9 S9 h9) ⟨by omega, by omega⟩ (Nat.le_of_ble_eq_true rfl) dX9_needsWord_15 (fun _ S4 => ?_)
    refine s_iconst (1 : Int32) dX9_needsWord_18 (by decide) ?_
    exact s_zret dX9_needsWord_19
  · refine s_aload_n 0 dX9_needsWord_8 rfl rfl ?_
    refine s_iconst (1 : Int32) dX9_needsWord_9 (by decide) ?_
    refine s_cV1I mk_X9_183 (by decide) rfl (fun v9 S9 h9 => con_X9_fails F _ _ _ v9 S9 h9) ⟨by omega, by omega⟩ (Nat.le_of_ble_eq_true rfl) dX9_needsWord_10 (fun v5 S6 => ?_)
    exact s_zret dX9_needsWord_13
-- X9_ends
def fn_X9_ends (F : Nat) (x0 : Nat) (S : Mem) : Option (Int32 × Mem) :=
  bd (cal S 8 x0 (fn_X9_isSign F x0 (59 : Int32) S)) fun v1 S2 =>
  if v1 = 0 then
    bd (cal S2 8 x0 (fn_X9_fails F x0 (1 : Int32) S2)) fun v5 S6 =>
    rz v5 S6
  else
    bd (cal S2 8 x0 (fn_X9_nextToken F x0 S2)) fun _ S4 =>
    rz (1 : Int32) S4
set_option maxRecDepth 100000 in
theorem con_X9_ends {l : Launch} (F : Nat) (x0 : Nat) (S : Mem) (v : Int32) (S1 : Mem) (h : fn_X9_ends F x0 S = some (v, S1)) : Con l yX9_ends cX9_ends 1 (some .boolean) 2 42 [.ref x0] S (rI v) S1 := by
  refine con_of (ι := rI) RX9 false [some (.ref x0)] rfl (fun h => by cases h) (by decide) (Nat.le_of_ble_eq_true rfl) ⟨rfl, rfl⟩ (fun Γ hl => ?_) h
  unfold fn_X9_ends
  refine s_aload_n 0 dX9_ends_0 rfl rfl ?_
  refine s_bipush (59 : Int32) dX9_ends_1 (by decide) ?_
  refine s_cV1I mk_X9_179 (by decide) rfl (fun v9 S9 h9 => con_X9_isSign F _ _ _ v9 S9 h9) ⟨by omega, by omega⟩ (Nat.le_of_ble_eq_true rfl) dX9_ends_3 (fun v1 S2 => ?_)
  refine s_if_ne 15 dX9_ends_6 (by decide) (fun _ => ?_) (fun _ => ?_)
  · refine s_aload_n 0 dX9_ends_15 rfl rfl ?_
    refine s_cV0V mk_X9_189 (by decide) rfl (fun v9 S9 h9 => con_X9_nextToken F _ _ v9 S9 h9) ⟨by omega, by omega⟩ (Nat.le_of_ble_eq_true rfl) dX9_ends_16 (fun _ S4 => ?_)
    refine s_iconst (1 : Int32) dX9_ends_19 (by decide) ?_
    exact s_zret dX9_ends_20
  · refine s_aload_n 0 dX9_ends_9 rfl rfl ?_
    refine s_iconst (1 : Int32) dX9_ends_10 (by decide) ?_
    refine s_cV1I mk_X9_183 (by decide) rfl (fun v9 S9 h9 => con_X9_fails F _ _ _ v9 S9 h9) ⟨by omega, by omega⟩ (Nat.le_of_ble_eq_true rfl) dX9_ends_11 (fun v5 S6 => ?_)
    exact s_zret dX9_ends_14
-- X9_readsOne
def fn_X9_readsOne (F : Nat) (x0 : Nat) (x1 : Int32) (x2 : Int32) (x3 : Int32) (S : Mem) : Option (Int32 × Mem) :=
  (gI S 8 21 x0).bind fun v1 =>
  if ((v1 >>> (x1 &&& 31)) &&& (1 : Int32)) = (1 : Int32) then
    bd (cal S 8 x0 (fn_X9_fails F x0 (3 : Int32) S)) fun v13 S14 =>
    rz v13 S14
  else
    (gI S 8 21 x0).bind fun v2 =>
    (sI S 8 21 x0 (v2 ||| ((1 : Int32) <<< (x1 &&& 31)))).bind fun S3 =>
    bd (cal S3 8 x0 (fn_X9_nextToken F x0 S3)) fun _ S5 =>
    bd (cal S5 8 x0 (fn_X9_needsNumber F x0 x2 x3 S5)) fun v6 S7 =>
    if v6 = 0 then
      rz (0 : Int32) S7
    else
      (gR S7 8 10 x0).bind fun v8 =>
      (gI S7 8 35 x0).bind fun v9 =>
      (sA S7 v8 ((5 : Int32) + x1) v9).bind fun S10 =>
      bd (cal S10 8 x0 (fn_X9_ends F x0 S10)) fun v11 S12 =>
      rz v11 S12
set_option maxRecDepth 100000 in
theorem con_X9_readsOne {l : Launch} (F : Nat) (x0 : Nat) (x1 : Int32) (x2 : Int32) (x3 : Int32) (S : Mem) (v : Int32) (S1 : Mem) (h : fn_X9_readsOne F x0 x1 x2 x3 S = some (v, S1)) : Con l yX9_readsOne cX9_readsOne 4 (some .boolean) 3 64 [.ref x0, .int x1, .int x2, .int x3] S (rI v) S1 := by
  refine con_of (ι := rI) RX9 false [some (.ref x0), some (.int x1), some (.int x2), some (.int x3)] rfl (fun h => by cases h) (by decide) (Nat.le_of_ble_eq_true rfl) ⟨rfl, rfl⟩ (fun Γ hl => ?_) h
  unfold fn_X9_readsOne
  refine s_aload_n 0 dX9_readsOne_0 rfl rfl ?_
  refine s_getI fk_X9_242 rfl dX9_readsOne_1 (fun v1 => ?_)
  refine s_iload_n 1 dX9_readsOne_4 rfl rfl ?_
  refine s_ishr dX9_readsOne_5 ?_
  refine s_iconst (1 : Int32) dX9_readsOne_6 (by decide) ?_
  refine s_iand dX9_readsOne_7 ?_
  refine s_iconst (1 : Int32) dX9_readsOne_8 (by decide) ?_
  refine s_icmp_ne 18 dX9_readsOne_9 (by decide) (fun _ => ?_) (fun _ => ?_)
  · refine s_aload_n 0 dX9_readsOne_18 rfl rfl ?_
    refine s_dup dX9_readsOne_19 rfl ?_
    refine s_getI fk_X9_242 rfl dX9_readsOne_20 (fun v2 => ?_)
    refine s_iconst (1 : Int32) dX9_readsOne_23 (by decide) ?_
    refine s_iload_n 1 dX9_readsOne_24 rfl rfl ?_
    refine s_ishl dX9_readsOne_25 ?_
    refine s_ior dX9_readsOne_26 ?_
    refine s_putI fk_X9_242 (Or.inl rfl) rfl dX9_readsOne_27 (fun S3 => ?_)
    refine s_aload_n 0 dX9_readsOne_30 rfl rfl ?_
    refine s_cV0V mk_X9_189 (by decide) rfl (fun v9 S9 h9 => con_X9_nextToken F _ _ v9 S9 h9) ⟨by omega, by omega⟩ (Nat.le_of_ble_eq_true rfl) dX9_readsOne_31 (fun _ S5 => ?_)
    refine s_aload_n 0 dX9_readsOne_34 rfl rfl ?_
    refine s_iload_n 2 dX9_readsOne_35 rfl rfl ?_
    refine s_iload_n 3 dX9_readsOne_36 rfl rfl ?_
    refine s_cV2I mk_X9_245 (by decide) rfl (fun v9 S9 h9 => con_X9_needsNumber F _ _ _ _ v9 S9 h9) ⟨by omega, by omega⟩ (Nat.le_of_ble_eq_true rfl) dX9_readsOne_37 (fun v6 S7 => ?_)
    refine s_if_ne 45 dX9_readsOne_40 (by decide) (fun _ => ?_) (fun _ => ?_)
    · refine s_aload_n 0 dX9_readsOne_45 rfl rfl ?_
      refine s_getR fk_X9_13 rfl dX9_readsOne_46 (fun v8 => ?_)
      refine s_iconst (5 : Int32) dX9_readsOne_49 (by decide) ?_
      refine s_iload_n 1 dX9_readsOne_50 rfl rfl ?_
      refine s_iadd dX9_readsOne_51 ?_
      refine s_aload_n 0 dX9_readsOne_52 rfl rfl ?_
      refine s_getI fk_X9_239 rfl dX9_readsOne_53 (fun v9 => ?_)
      refine s_iast dX9_readsOne_56 (fun S10 => ?_)
      refine s_aload_n 0 dX9_readsOne_57 rfl rfl ?_
      refine s_cV0I mk_X9_249 (by decide) rfl (fun v9 S9 h9 => con_X9_ends F _ _ v9 S9 h9) ⟨by omega, by omega⟩ (Nat.le_of_ble_eq_true rfl) dX9_readsOne_58 (fun v11 S12 => ?_)
      exact s_zret dX9_readsOne_61
    · refine s_iconst (0 : Int32) dX9_readsOne_43 (by decide) ?_
      exact s_zret dX9_readsOne_44
  · refine s_aload_n 0 dX9_readsOne_12 rfl rfl ?_
    refine s_iconst (3 : Int32) dX9_readsOne_13 (by decide) ?_
    refine s_cV1I mk_X9_183 (by decide) rfl (fun v9 S9 h9 => con_X9_fails F _ _ _ v9 S9 h9) ⟨by omega, by omega⟩ (Nat.le_of_ble_eq_true rfl) dX9_readsOne_14 (fun v13 S14 => ?_)
    exact s_zret dX9_readsOne_17
