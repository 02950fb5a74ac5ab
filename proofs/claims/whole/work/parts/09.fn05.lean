-- X9_mean
def f_X9_mean_149 (F : Nat) (x1 : Int32) (x3 : Int64) (y0 : Int64) (S : Mem) : Option (Int64 × Mem) :=
  bd ((fn_X9_gcd F x3 ((x1).toInt64) S)) fun v1 S2 =>
  nzl v1 (
  some ((y0 / v1), S2))
def f_X9_mean_138 (F : Nat) (y0 : Int64) (S : Mem) : Option (Int64 × Mem) :=
  some (y0, S)
def b_X9_mean_55 (F : Nat) (k55 : Nat → Int32 → Int32 → Int64 → Int32 → Int32 → Int32 → Mem → Option (Int64 × Mem)) (x0 : Nat) (x1 : Int32) (x2 : Int32) (x3 : Int64) (x5 : Int32) (x6 : Int32) (x7 : Int32) (S : Mem) : Option (Int64 × Mem) :=
  if x1 ≤ x7 then
    (gR S 8 37 x0).bind fun v1 =>
    (gR S 8 36 x0).bind fun v2 =>
    bd ((fn_X9_copies F v1 (0 : Int32) v2 (0 : Int32) S)) fun _ S4 =>
    if x2 ≤ (1 : Int32) then
      if x2 = 0 then
        f_X9_mean_149 F x1 x3 x3 S4
      else
        f_X9_mean_149 F x1 x3 ((x1).toInt64) S4
    else
      if x2 = (2 : Int32) then
        f_X9_mean_138 F  ((x5).toInt64) S4
      else
        f_X9_mean_138 F  ((x6).toInt64) S4
  else
    bd (cal S 8 x0 (fn_X9_looksNow F x0 S)) fun _ S6 =>
    (gI S6 8 43 x0).bind fun v7 =>
    lt ((x3 + (v7).toInt64)) fun v8 =>
    (gI S6 8 43 x0).bind fun v9 =>
    lt ((mnI x5 v9)) fun v10 =>
    (gI S6 8 43 x0).bind fun v11 =>
    lt ((mxI x6 v11)) fun v12 =>
    bd (cal S6 8 x0 (fn_X9_passes F x0 (0 : Int32) S6)) fun _ S14 =>
    k55 x0 x1 x2 v8 v10 v12 (x7 + (1 : Int32)) S14
def f_X9_mean_25 (F : Nat)  (S : Mem) : Option (Int64 × Mem) :=
  some ((-1 : Int64), S)
def fn_X9_mean (F : Nat) (x0 : Nat) (x1 : Int32) (x2 : Int32) (S : Mem) : Option (Int64 × Mem) :=
  (sI S 8 0 x0 (0 : Int32)).bind fun S1 =>
  bd ((fn_X9_within F x1 (1 : Int32) (240 : Int32) S1)) fun v2 S3 =>
  if v2 = 0 then
    f_X9_mean_25 F   S3
  else
    bd ((fn_X9_within F x2 (0 : Int32) (3 : Int32) S3)) fun v4 S5 =>
    if v4 = 0 then
      f_X9_mean_25 F   S5
    else
      (gR S5 8 36 x0).bind fun v6 =>
      (gR S5 8 37 x0).bind fun v7 =>
      bd ((fn_X9_copies F v6 (0 : Int32) v7 (0 : Int32) S5)) fun _ S9 =>
      fix7 (b_X9_mean_55 F) F x0 x1 x2 (0 : Int64) (100000 : Int32) (0 : Int32) (0 : Int32) S9
set_option maxRecDepth 100000 in
theorem t_X9_mean_149 {Γ : Cx} {F : Nat} : ∀ (x1 : Int32) (x3 : Int64) (y0 : Int64) (S : Mem), Sim cX9_mean RX9 6 135 (some .long) false Γ rJ (f_X9_mean_149 F x1 x3 y0 S) S 149 [none, some (.int x1), none, some (.long x3), none, none, none, none] [.long y0] := by
  intro x1 x3 y0 S
  unfold f_X9_mean_149
  refine s_lload_n 3 dX9_mean_149 rfl rfl ?_
  refine s_iload_n 1 dX9_mean_150 rfl rfl ?_
  refine s_i2l dX9_mean_151 ?_
  refine s_cS2J mk_X9_394 (fun v9 S9 h9 => con_X9_gcd F _ _ _ v9 S9 h9) ⟨by omega, by omega⟩ (Nat.le_of_ble_eq_true rfl) dX9_mean_152 (fun v1 S2 => ?_)
  refine s_ldiv dX9_mean_155 ?_
  exact s_lret dX9_mean_156
set_option maxRecDepth 100000 in
theorem t_X9_mean_138 {Γ : Cx} {F : Nat} : ∀ (y0 : Int64) (S : Mem), Sim cX9_mean RX9 6 135 (some .long) false Γ rJ (f_X9_mean_138 F y0 S) S 138 [none, none, none, none, none, none, none, none] [.long y0] := by
  intro y0 S
  unfold f_X9_mean_138
  exact s_lret dX9_mean_138
set_option maxRecDepth 100000 in
theorem t_X9_mean_55 {Γ : Cx} {F : Nat} : ∀ (f : Nat) (x0 : Nat) (x1 : Int32) (x2 : Int32) (x3 : Int64) (x5 : Int32) (x6 : Int32) (x7 : Int32) (S : Mem), Sim cX9_mean RX9 6 135 (some .long) false Γ rJ (fix7 (b_X9_mean_55 F) f x0 x1 x2 x3 x5 x6 x7 S) S 55 [some (.ref x0), some (.int x1), some (.int x2), some (.long x3), none, some (.int x5), some (.int x6), some (.int x7)] [] := by
  refine s_fix7 (fun (x0 : Nat) (x1 : Int32) (x2 : Int32) (x3 : Int64) (x5 : Int32) (x6 : Int32) (x7 : Int32) => [some (.ref x0), some (.int x1), some (.int x2), some (.long x3), none, some (.int x5), some (.int x6), some (.int x7)]) (fun k55 hk55 => ?_)
  intro x0 x1 x2 x3 x5 x6 x7 S
  unfold b_X9_mean_55
  refine s_iload dX9_mean_55 rfl ?_
  refine s_iload_n 1 dX9_mean_57 rfl rfl ?_
  refine s_icmp_ge 106 dX9_mean_58 (by decide) (fun _ => ?_) (fun _ => ?_)
  · refine s_aload_n 0 dX9_mean_106 rfl rfl ?_
    refine s_getR fk_X9_84 rfl dX9_mean_107 (fun v1 => ?_)
    refine s_iconst (0 : Int32) dX9_mean_110 (by decide) ?_
    refine s_aload_n 0 dX9_mean_111 rfl rfl ?_
    refine s_getR fk_X9_81 rfl dX9_mean_112 (fun v2 => ?_)
    refine s_iconst (0 : Int32) dX9_mean_115 (by decide) ?_
    refine s_cS4V mk_X9_381 (fun v9 S9 h9 => con_X9_copies F _ _ _ _ _ v9 S9 h9) ⟨by omega, by omega⟩ (Nat.le_of_ble_eq_true rfl) dX9_mean_116 (fun _ S4 => ?_)
    refine s_iload_n 2 dX9_mean_119 rfl rfl ?_
    refine s_iconst (1 : Int32) dX9_mean_120 (by decide) ?_
    refine s_icmp_le 139 dX9_mean_121 (by decide) (fun _ => ?_) (fun _ => ?_)
    · refine s_iload_n 2 dX9_mean_139 rfl rfl ?_
      refine s_if_ne 147 dX9_mean_140 (by decide) (fun _ => ?_) (fun _ => ?_)
      · refine s_iload_n 1 dX9_mean_147 rfl rfl ?_
        refine s_i2l dX9_mean_148 ?_
        exact s_less (t_X9_mean_149 x1 x3 ((x1).toInt64) S4) (And.intro rfl (And.intro rfl trivial))
      · refine s_lload_n 3 dX9_mean_143 rfl rfl ?_
        refine s_goto 149 dX9_mean_144 (by decide) ?_
        exact s_less (t_X9_mean_149 x1 x3 x3 S4) (And.intro rfl (And.intro rfl trivial))
    · refine s_iload_n 2 dX9_mean_124 rfl rfl ?_
      refine s_iconst (2 : Int32) dX9_mean_125 (by decide) ?_
      refine s_icmp_ne 135 dX9_mean_126 (by decide) (fun _ => ?_) (fun _ => ?_)
      · refine s_iload dX9_mean_135 rfl ?_
        refine s_i2l dX9_mean_137 ?_
        exact s_less (t_X9_mean_138  ((x6).toInt64) S4) trivial
      · refine s_iload dX9_mean_129 rfl ?_
        refine s_i2l dX9_mean_131 ?_
        refine s_goto 138 dX9_mean_132 (by decide) ?_
        exact s_less (t_X9_mean_138  ((x5).toInt64) S4) trivial
  · refine s_aload_n 0 dX9_mean_61 rfl rfl ?_
    refine s_cV0V mk_X9_331 (by decide) rfl (fun v9 S9 h9 => con_X9_looksNow F _ _ v9 S9 h9) ⟨by omega, by omega⟩ (Nat.le_of_ble_eq_true rfl) dX9_mean_62 (fun _ S6 => ?_)
    refine s_lload_n 3 dX9_mean_65 rfl rfl ?_
    refine s_aload_n 0 dX9_mean_66 rfl rfl ?_
    refine s_getI fk_X9_316 rfl dX9_mean_67 (fun v7 => ?_)
    refine s_i2l dX9_mean_70 ?_
    refine s_ladd dX9_mean_71 ?_
    refine s_ltJ (fun v8 => ?_)
    refine s_lstore_3 dX9_mean_72 rfl ?_
    refine s_iload dX9_mean_73 rfl ?_
    refine s_aload_n 0 dX9_mean_75 rfl rfl ?_
    refine s_getI fk_X9_316 rfl dX9_mean_76 (fun v9 => ?_)
    refine s_mmin mm_X9_378 mm_min_s mm_i mm_min_c ⟨by omega, by simp [Value.category] <;> omega⟩ dX9_mean_79 ?_
    refine s_ltI (fun v10 => ?_)
    refine s_istore_5 dX9_mean_82 rfl ?_
    refine s_iload dX9_mean_84 rfl ?_
    refine s_aload_n 0 dX9_mean_86 rfl rfl ?_
    refine s_getI fk_X9_316 rfl dX9_mean_87 (fun v11 => ?_)
    refine s_mmax mm_X9_298 mm_max_s mm_i mm_max_c ⟨by omega, by simp [Value.category] <;> omega⟩ dX9_mean_90 ?_
    refine s_ltI (fun v12 => ?_)
    refine s_istore_6 dX9_mean_93 rfl ?_
    refine s_aload_n 0 dX9_mean_95 rfl rfl ?_
    refine s_iconst (0 : Int32) dX9_mean_96 (by decide) ?_
    refine s_cV1V mk_X9_346 (by decide) rfl (fun v9 S9 h9 => con_X9_passes F _ _ _ v9 S9 h9) ⟨by omega, by omega⟩ (Nat.le_of_ble_eq_true rfl) dX9_mean_97 (fun _ S14 => ?_)
    refine s_iinc_7 (1 : Int32) dX9_mean_100 (by decide) rfl ?_
    refine s_goto 55 dX9_mean_103 (by decide) ?_
    exact s_less (hk55 x0 x1 x2 v8 v10 v12 (x7 + (1 : Int32)) S14) (And.intro rfl (And.intro rfl (And.intro rfl (And.intro rfl (And.intro rfl (And.intro rfl (And.intro rfl trivial)))))))
set_option maxRecDepth 100000 in
theorem t_X9_mean_25 {Γ : Cx} {F : Nat} : ∀ (S : Mem), Sim cX9_mean RX9 6 135 (some .long) false Γ rJ (f_X9_mean_25 F  S) S 25 [none, none, none, none, none, none, none, none] [] := by
  intro  S
  unfold f_X9_mean_25
  refine s_ldc2 (v := (-1 : Int64)) dX9_mean_25 (lw_in 1445 (by decide +kernel) (by decide +kernel)) ?_
  exact s_lret dX9_mean_28
set_option maxRecDepth 100000 in
theorem con_X9_mean {l : Launch} (F : Nat) (x0 : Nat) (x1 : Int32) (x2 : Int32) (S : Mem) (v : Int64) (S1 : Mem) (h : fn_X9_mean F x0 x1 x2 S = some (v, S1)) : Con l yX9_mean cX9_mean 8 (some .long) 6 135 [.ref x0, .int x1, .int x2] S (rJ v) S1 := by
  refine con_of (ι := rJ) RX9 false [some (.ref x0), some (.int x1), some (.int x2), none, none, none, none, none] rfl (fun h => by cases h) (by decide) (Nat.le_of_ble_eq_true rfl) ⟨rfl, rfl⟩ (fun Γ hl => ?_) h
  unfold fn_X9_mean
  refine s_aload_n 0 dX9_mean_0 rfl rfl ?_
  refine s_iconst (0 : Int32) dX9_mean_1 (by decide) ?_
  refine s_putI fk_X9_109 (Or.inl rfl) rfl dX9_mean_2 (fun S1 => ?_)
  refine s_iload_n 1 dX9_mean_5 rfl rfl ?_
  refine s_iconst (1 : Int32) dX9_mean_6 (by decide) ?_
  refine s_sipush (240 : Int32) dX9_mean_7 (by decide) ?_
  refine s_cS3I mk_X9_235 (fun v9 S9 h9 => con_X9_within F _ _ _ _ v9 S9 h9) ⟨by omega, by omega⟩ (Nat.le_of_ble_eq_true rfl) dX9_mean_10 (fun v2 S3 => ?_)
  refine s_if_eq 25 dX9_mean_13 (by decide) (fun _ => ?_) (fun _ => ?_)
  · exact s_less (t_X9_mean_25   S3) trivial
  · refine s_iload_n 2 dX9_mean_16 rfl rfl ?_
    refine s_iconst (0 : Int32) dX9_mean_17 (by decide) ?_
    refine s_iconst (3 : Int32) dX9_mean_18 (by decide) ?_
    refine s_cS3I mk_X9_235 (fun v9 S9 h9 => con_X9_within F _ _ _ _ v9 S9 h9) ⟨by omega, by omega⟩ (Nat.le_of_ble_eq_true rfl) dX9_mean_19 (fun v4 S5 => ?_)
    refine s_if_ne 29 dX9_mean_22 (by decide) (fun _ => ?_) (fun _ => ?_)
    · refine s_aload_n 0 dX9_mean_29 rfl rfl ?_
      refine s_getR fk_X9_81 rfl dX9_mean_30 (fun v6 => ?_)
      refine s_iconst (0 : Int32) dX9_mean_33 (by decide) ?_
      refine s_aload_n 0 dX9_mean_34 rfl rfl ?_
      refine s_getR fk_X9_84 rfl dX9_mean_35 (fun v7 => ?_)
      refine s_iconst (0 : Int32) dX9_mean_38 (by decide) ?_
      refine s_cS4V mk_X9_381 (fun v9 S9 h9 => con_X9_copies F _ _ _ _ _ v9 S9 h9) ⟨by omega, by omega⟩ (Nat.le_of_ble_eq_true rfl) dX9_mean_39 (fun _ S9 => ?_)
      refine s_lconst (0 : Int64) dX9_mean_42 (by decide) ?_
      refine s_lstore_3 dX9_mean_43 rfl ?_
      refine s_ldcw (v := (100000 : Int32)) dX9_mean_44 (lw_in 1446 (by decide +kernel) (by decide +kernel)) ?_
      refine s_istore_5 dX9_mean_47 rfl ?_
      refine s_iconst (0 : Int32) dX9_mean_49 (by decide) ?_
      refine s_istore_6 dX9_mean_50 rfl ?_
      refine s_iconst (0 : Int32) dX9_mean_52 (by decide) ?_
      refine s_istore_7 dX9_mean_53 rfl ?_
      exact s_less (t_X9_mean_55 F x0 x1 x2 (0 : Int64) (100000 : Int32) (0 : Int32) (0 : Int32) S9) (And.intro rfl (And.intro rfl (And.intro rfl (And.intro rfl (And.intro rfl (And.intro rfl (And.intro rfl trivial)))))))
    · exact s_less (t_X9_mean_25   S5) trivial
-- X9_down
def f_X9_down_119 (F : Nat) (k20 : Nat → Int32 → Mem → Option (Int32 × Mem)) (k70 : Nat → Int32 → Int32 → Mem → Option (Int32 × Mem)) (x0 : Nat) (x1 : Int32) (x3 : Int32) (y0 : Nat) (y1 : Int32) (y2 : Int32) (S : Mem) : Option (Int32 × Mem) :=
  (sA S y0 y1 y2).bind fun S1 =>
  k70 x0 x1 (x3 + (1 : Int32)) S1
def b_X9_down_70 (F : Nat) (k20 : Nat → Int32 → Mem → Option (Int32 × Mem)) (k70 : Nat → Int32 → Int32 → Mem → Option (Int32 × Mem)) (x0 : Nat) (x1 : Int32) (x3 : Int32) (S : Mem) : Option (Int32 × Mem) :=
  (gR S 8 10 x0).bind fun v1 =>
  (gA S 10 v1 (4 : Int32)).bind fun v2 =>
  if v2 ≤ x3 then
    bd (cal S 8 x0 (fn_X9_changes F x0 S)) fun _ S4 =>
    k20 x0 (x1 + (1 : Int32)) S4
  else
    (gR S 8 44 x0).bind fun v5 =>
    bd (cal S 8 x0 (fn_X9_rests F x0 x3 S)) fun v6 S7 =>
    if v6 = 0 then
      (gR S7 8 36 x0).bind fun v8 =>
      (gA S7 10 v8 x3).bind fun v9 =>
      (gR S7 8 10 x0).bind fun v10 =>
      (gA S7 10 v10 (1 : Int32)).bind fun v11 =>
      f_X9_down_119 F k20 k70 x0 x1 x3 v5 x3 (mxI (0 : Int32) (v9 - v11)) S7
    else
      (gR S7 8 36 x0).bind fun v12 =>
      (gA S7 10 v12 x3).bind fun v13 =>
      f_X9_down_119 F k20 k70 x0 x1 x3 v5 x3 v13 S7
def f_X9_down_53 (F : Nat) (k20 : Nat → Int32 → Mem → Option (Int32 × Mem)) (k24 : Nat → Int32 → Int32 → Int32 → Mem → Option (Int32 × Mem)) (x0 : Nat) (x1 : Int32) (x3 : Int32) (y0 : Int32) (y1 : Int32) (S : Mem) : Option (Int32 × Mem) :=
  lt ((y0 + y1)) fun v1 =>
  k24 x0 x1 v1 (x3 + (1 : Int32)) S
def b_X9_down_24 (F : Nat) (k20 : Nat → Int32 → Mem → Option (Int32 × Mem)) (k24 : Nat → Int32 → Int32 → Int32 → Mem → Option (Int32 × Mem)) (x0 : Nat) (x1 : Int32) (x2 : Int32) (x3 : Int32) (S : Mem) : Option (Int32 × Mem) :=
  (gR S 8 10 x0).bind fun v1 =>
  (gA S 10 v1 (4 : Int32)).bind fun v2 =>
  if v2 ≤ x3 then
    if x2 = 0 then
      (gR S 8 37 x0).bind fun v3 =>
      (gR S 8 36 x0).bind fun v4 =>
      bd ((fn_X9_copies F v3 (0 : Int32) v4 (0 : Int32) S)) fun _ S6 =>
      some (x1, S6)
    else
      fix3 (b_X9_down_70 F k20) F x0 x1 (0 : Int32) S
  else
    bd (cal S 8 x0 (fn_X9_isLost F x0 x3 S)) fun v7 S8 =>
    if v7 = 0 then
      (gR S8 8 36 x0).bind fun v9 =>
      (gA S8 10 v9 x3).bind fun v10 =>
      f_X9_down_53 F k20 k24 x0 x1 x3 x2 v10 S8
    else
      f_X9_down_53 F k20 k24 x0 x1 x3 x2 (0 : Int32) S8
def b_X9_down_20 (F : Nat) (k20 : Nat → Int32 → Mem → Option (Int32 × Mem)) (x0 : Nat) (x1 : Int32) (S : Mem) : Option (Int32 × Mem) :=
  fix4 (b_X9_down_24 F k20) F x0 x1 (0 : Int32) (0 : Int32) S
def fn_X9_down (F : Nat) (x0 : Nat) (S : Mem) : Option (Int32 × Mem) :=
  (sI S 8 0 x0 (0 : Int32)).bind fun S1 =>
  (gR S1 8 36 x0).bind fun v2 =>
  (gR S1 8 37 x0).bind fun v3 =>
  bd ((fn_X9_copies F v2 (0 : Int32) v3 (0 : Int32) S1)) fun _ S5 =>
  fix2 (b_X9_down_20 F) F x0 (0 : Int32) S5
set_option maxRecDepth 100000 in
theorem t_X9_down_119 {Γ : Cx} {F : Nat} {k20 : Nat → Int32 → Mem → Option (Int32 × Mem)} (hk20 : ∀ (x0 : Nat) (x1 : Int32) (S : Mem), Sim cX9_down RX9 2 42 (some .int) false Γ rI (k20 x0 x1 S) S 20 [some (.ref x0), some (.int x1), none, none] []) {k70 : Nat → Int32 → Int32 → Mem → Option (Int32 × Mem)} (hk70 : ∀ (x0 : Nat) (x1 : Int32) (x3 : Int32) (S : Mem), Sim cX9_down RX9 2 42 (some .int) false Γ rI (k70 x0 x1 x3 S) S 70 [some (.ref x0), some (.int x1), none, some (.int x3)] []) : ∀ (x0 : Nat) (x1 : Int32) (x3 : Int32) (y0 : Nat) (y1 : Int32) (y2 : Int32) (S : Mem), Sim cX9_down RX9 2 42 (some .int) false Γ rI (f_X9_down_119 F k20 k70 x0 x1 x3 y0 y1 y2 S) S 119 [some (.ref x0), some (.int x1), none, some (.int x3)] [.int y2, .int y1, .ref y0] := by
  intro x0 x1 x3 y0 y1 y2 S
  unfold f_X9_down_119
  refine s_iast dX9_down_119 (fun S1 => ?_)
  refine s_iinc_3 (1 : Int32) dX9_down_120 (by decide) rfl ?_
  refine s_goto 70 dX9_down_123 (by decide) ?_
  exact s_less (hk70 x0 x1 (x3 + (1 : Int32)) S1) (And.intro rfl (And.intro rfl (And.intro rfl trivial)))
set_option maxRecDepth 100000 in
theorem t_X9_down_70 {Γ : Cx} {F : Nat} {k20 : Nat → Int32 → Mem → Option (Int32 × Mem)} (hk20 : ∀ (x0 : Nat) (x1 : Int32) (S : Mem), Sim cX9_down RX9 2 42 (some .int) false Γ rI (k20 x0 x1 S) S 20 [some (.ref x0), some (.int x1), none, none] []) : ∀ (f : Nat) (x0 : Nat) (x1 : Int32) (x3 : Int32) (S : Mem), Sim cX9_down RX9 2 42 (some .int) false Γ rI (fix3 (b_X9_down_70 F k20) f x0 x1 x3 S) S 70 [some (.ref x0), some (.int x1), none, some (.int x3)] [] := by
  refine s_fix3 (fun (x0 : Nat) (x1 : Int32) (x3 : Int32) => [some (.ref x0), some (.int x1), none, some (.int x3)]) (fun k70 hk70 => ?_)
  intro x0 x1 x3 S
  unfold b_X9_down_70
  refine s_iload_n 3 dX9_down_70 rfl rfl ?_
  refine s_aload_n 0 dX9_down_71 rfl rfl ?_
  refine s_getR fk_X9_13 rfl dX9_down_72 (fun v1 => ?_)
  refine s_iconst (4 : Int32) dX9_down_75 (by decide) ?_
  refine s_iald dX9_down_76 (fun v2 => ?_)
  refine s_icmp_ge 126 dX9_down_77 (by decide) (fun _ => ?_) (fun _ => ?_)
  · refine s_aload_n 0 dX9_down_126 rfl rfl ?_
    refine s_cV0V mk_X9_343 (by decide) rfl (fun v9 S9 h9 => con_X9_changes F _ _ v9 S9 h9) ⟨by omega, by omega⟩ (Nat.le_of_ble_eq_true rfl) dX9_down_127 (fun _ S4 => ?_)
    refine s_iinc_1 (1 : Int32) dX9_down_130 (by decide) rfl ?_
    refine s_goto 20 dX9_down_133 (by decide) ?_
    exact s_less (hk20 x0 (x1 + (1 : Int32)) S4) (And.intro rfl (And.intro rfl trivial))
  · refine s_aload_n 0 dX9_down_80 rfl rfl ?_
    refine s_getR fk_X9_96 rfl dX9_down_81 (fun v5 => ?_)
    refine s_iload_n 3 dX9_down_84 rfl rfl ?_
    refine s_aload_n 0 dX9_down_85 rfl rfl ?_
    refine s_iload_n 3 dX9_down_86 rfl rfl ?_
    refine s_cV1I mk_X9_337 (by decide) rfl (fun v9 S9 h9 => con_X9_rests F _ _ _ v9 S9 h9) ⟨by omega, by omega⟩ (Nat.le_of_ble_eq_true rfl) dX9_down_87 (fun v6 S7 => ?_)
    refine s_if_eq 102 dX9_down_90 (by decide) (fun _ => ?_) (fun _ => ?_)
    · refine s_iconst (0 : Int32) dX9_down_102 (by decide) ?_
      refine s_aload_n 0 dX9_down_103 rfl rfl ?_
      refine s_getR fk_X9_81 rfl dX9_down_104 (fun v8 => ?_)
      refine s_iload_n 3 dX9_down_107 rfl rfl ?_
      refine s_iald dX9_down_108 (fun v9 => ?_)
      refine s_aload_n 0 dX9_down_109 rfl rfl ?_
      refine s_getR fk_X9_13 rfl dX9_down_110 (fun v10 => ?_)
      refine s_iconst (1 : Int32) dX9_down_113 (by decide) ?_
      refine s_iald dX9_down_114 (fun v11 => ?_)
      refine s_isub dX9_down_115 ?_
      refine s_mmax mm_X9_298 mm_max_s mm_i mm_max_c ⟨by omega, by simp [Value.category] <;> omega⟩ dX9_down_116 ?_
      exact s_less (t_X9_down_119 hk20 hk70 x0 x1 x3 v5 x3 (mxI (0 : Int32) (v9 - v11)) S7) (And.intro rfl (And.intro rfl (And.intro rfl trivial)))
    · refine s_aload_n 0 dX9_down_93 rfl rfl ?_
      refine s_getR fk_X9_81 rfl dX9_down_94 (fun v12 => ?_)
      refine s_iload_n 3 dX9_down_97 rfl rfl ?_
      refine s_iald dX9_down_98 (fun v13 => ?_)
      refine s_goto 119 dX9_down_99 (by decide) ?_
      exact s_less (t_X9_down_119 hk20 hk70 x0 x1 x3 v5 x3 v13 S7) (And.intro rfl (And.intro rfl (And.intro rfl trivial)))
set_option maxRecDepth 100000 in
theorem t_X9_down_53 {Γ : Cx} {F : Nat} {k20 : Nat → Int32 → Mem → Option (Int32 × Mem)} (hk20 : ∀ (x0 : Nat) (x1 : Int32) (S : Mem), Sim cX9_down RX9 2 42 (some .int) false Γ rI (k20 x0 x1 S) S 20 [some (.ref x0), some (.int x1), none, none] []) {k24 : Nat → Int32 → Int32 → Int32 → Mem → Option (Int32 × Mem)} (hk24 : ∀ (x0 : Nat) (x1 : Int32) (x2 : Int32) (x3 : Int32) (S : Mem), Sim cX9_down RX9 2 42 (some .int) false Γ rI (k24 x0 x1 x2 x3 S) S 24 [some (.ref x0), some (.int x1), some (.int x2), some (.int x3)] []) : ∀ (x0 : Nat) (x1 : Int32) (x3 : Int32) (y0 : Int32) (y1 : Int32) (S : Mem), Sim cX9_down RX9 2 42 (some .int) false Γ rI (f_X9_down_53 F k20 k24 x0 x1 x3 y0 y1 S) S 53 [some (.ref x0), some (.int x1), none, some (.int x3)] [.int y1, .int y0] := by
  intro x0 x1 x3 y0 y1 S
  unfold f_X9_down_53
  refine s_iadd dX9_down_53 ?_
  refine s_ltI (fun v1 => ?_)
  refine s_istore_2 dX9_down_54 rfl ?_
  refine s_iinc_3 (1 : Int32) dX9_down_55 (by decide) rfl ?_
  refine s_goto 24 dX9_down_58 (by decide) ?_
  exact s_less (hk24 x0 x1 v1 (x3 + (1 : Int32)) S) (And.intro rfl (And.intro rfl (And.intro rfl (And.intro rfl trivial))))
set_option maxRecDepth 100000 in
theorem t_X9_down_24 {Γ : Cx} {F : Nat} {k20 : Nat → Int32 → Mem → Option (Int32 × Mem)} (hk20 : ∀ (x0 : Nat) (x1 : Int32) (S : Mem), Sim cX9_down RX9 2 42 (some .int) false Γ rI (k20 x0 x1 S) S 20 [some (.ref x0), some (.int x1), none, none] []) : ∀ (f : Nat) (x0 : Nat) (x1 : Int32) (x2 : Int32) (x3 : Int32) (S : Mem), Sim cX9_down RX9 2 42 (some .int) false Γ rI (fix4 (b_X9_down_24 F k20) f x0 x1 x2 x3 S) S 24 [some (.ref x0), some (.int x1), some (.int x2), some (.int x3)] [] := by
  refine s_fix4 (fun (x0 : Nat) (x1 : Int32) (x2 : Int32) (x3 : Int32) => [some (.ref x0), some (.int x1), some (.int x2), some (.int x3)]) (fun k24 hk24 => ?_)
  intro x0 x1 x2 x3 S
  unfold b_X9_down_24
  refine s_iload_n 3 dX9_down_24 rfl rfl ?_
  refine s_aload_n 0 dX9_down_25 rfl rfl ?_
  refine s_getR fk_X9_13 rfl dX9_down_26 (fun v1 => ?_)
  refine s_iconst (4 : Int32) dX9_down_29 (by decide) ?_
  refine s_iald dX9_down_30 (fun v2 => ?_)
  refine s_icmp_ge 61 dX9_down_31 (by decide) (fun _ => ?_) (fun _ => ?_)
  · refine s_iload_n 2 dX9_down_61 rfl rfl ?_
    refine s_if_ne 68 dX9_down_62 (by decide) (fun _ => ?_) (fun _ => ?_)
    · refine s_iconst (0 : Int32) dX9_down_68 (by decide) ?_
      refine s_istore_3 dX9_down_69 rfl ?_
      exact s_less (t_X9_down_70 hk20 F x0 x1 (0 : Int32) S) (And.intro rfl (And.intro rfl (And.intro rfl trivial)))
    · refine s_goto 136 dX9_down_65 (by decide) ?_
      refine s_aload_n 0 dX9_down_136 rfl rfl ?_
      refine s_getR fk_X9_84 rfl dX9_down_137 (fun v3 => ?_)
      refine s_iconst (0 : Int32) dX9_down_140 (by decide) ?_
      refine s_aload_n 0 dX9_down_141 rfl rfl ?_
      refine s_getR fk_X9_81 rfl dX9_down_142 (fun v4 => ?_)
      refine s_iconst (0 : Int32) dX9_down_145 (by decide) ?_
      refine s_cS4V mk_X9_381 (fun v9 S9 h9 => con_X9_copies F _ _ _ _ _ v9 S9 h9) ⟨by omega, by omega⟩ (Nat.le_of_ble_eq_true rfl) dX9_down_146 (fun _ S6 => ?_)
      refine s_iload_n 1 dX9_down_149 rfl rfl ?_
      exact s_iret dX9_down_150
  · refine s_iload_n 2 dX9_down_34 rfl rfl ?_
    refine s_aload_n 0 dX9_down_35 rfl rfl ?_
    refine s_iload_n 3 dX9_down_36 rfl rfl ?_
    refine s_cV1I mk_X9_292 (by decide) rfl (fun v9 S9 h9 => con_X9_isLost F _ _ _ v9 S9 h9) ⟨by omega, by omega⟩ (Nat.le_of_ble_eq_true rfl) dX9_down_37 (fun v7 S8 => ?_)
    refine s_if_eq 47 dX9_down_40 (by decide) (fun _ => ?_) (fun _ => ?_)
    · refine s_aload_n 0 dX9_down_47 rfl rfl ?_
      refine s_getR fk_X9_81 rfl dX9_down_48 (fun v9 => ?_)
      refine s_iload_n 3 dX9_down_51 rfl rfl ?_
      refine s_iald dX9_down_52 (fun v10 => ?_)
      exact s_less (t_X9_down_53 hk20 hk24 x0 x1 x3 x2 v10 S8) (And.intro rfl (And.intro rfl (And.intro rfl trivial)))
    · refine s_iconst (0 : Int32) dX9_down_43 (by decide) ?_
      refine s_goto 53 dX9_down_44 (by decide) ?_
      exact s_less (t_X9_down_53 hk20 hk24 x0 x1 x3 x2 (0 : Int32) S8) (And.intro rfl (And.intro rfl (And.intro rfl trivial)))
set_option maxRecDepth 100000 in
theorem t_X9_down_20 {Γ : Cx} {F : Nat} : ∀ (f : Nat) (x0 : Nat) (x1 : Int32) (S : Mem), Sim cX9_down RX9 2 42 (some .int) false Γ rI (fix2 (b_X9_down_20 F) f x0 x1 S) S 20 [some (.ref x0), some (.int x1), none, none] [] := by
  refine s_fix2 (fun (x0 : Nat) (x1 : Int32) => [some (.ref x0), some (.int x1), none, none]) (fun k20 hk20 => ?_)
  intro x0 x1 S
  unfold b_X9_down_20
  refine s_iconst (0 : Int32) dX9_down_20 (by decide) ?_
  refine s_istore_2 dX9_down_21 rfl ?_
  refine s_iconst (0 : Int32) dX9_down_22 (by decide) ?_
  refine s_istore_3 dX9_down_23 rfl ?_
  exact s_less (t_X9_down_24 hk20 F x0 x1 (0 : Int32) (0 : Int32) S) (And.intro rfl (And.intro rfl (And.intro rfl (And.intro rfl trivial))))
set_option maxRecDepth 100000 in
theorem con_X9_down {l : Launch} (F : Nat) (x0 : Nat) (S : Mem) (v : Int32) (S1 : Mem) (h : fn_X9_down F x0 S = some (v, S1)) : Con l yX9_down cX9_down 4 (some .int) 2 42 [.ref x0] S (rI v) S1 := by
  refine con_of (ι := rI) RX9 false [some (.ref x0), none, none, none] rfl (fun h => by cases h) (by decide) (Nat.le_of_ble_eq_true rfl) ⟨rfl, rfl⟩ (fun Γ hl => ?_) h
  unfold fn_X9_down
  refine s_aload_n 0 dX9_down_0 rfl rfl ?_
  refine s_iconst (0 : Int32) dX9_down_1 (by decide) ?_
  refine s_putI fk_X9_109 (Or.inl rfl) rfl dX9_down_2 (fun S1 => ?_)
  refine s_aload_n 0 dX9_down_5 rfl rfl ?_
  refine s_getR fk_X9_81 rfl dX9_down_6 (fun v2 => ?_)
  refine s_iconst (0 : Int32) dX9_down_9 (by decide) ?_
  refine s_aload_n 0 dX9_down_10 rfl rfl ?_
  refine s_getR fk_X9_84 rfl dX9_down_11 (fun v3 => ?_)
  refine s_iconst (0 : Int32) dX9_down_14 (by decide) ?_
  refine s_cS4V mk_X9_381 (fun v9 S9 h9 => con_X9_copies F _ _ _ _ _ v9 S9 h9) ⟨by omega, by omega⟩ (Nat.le_of_ble_eq_true rfl) dX9_down_15 (fun _ S5 => ?_)
  refine s_iconst (0 : Int32) dX9_down_18 (by decide) ?_
  refine s_istore_1 dX9_down_19 rfl ?_
  exact s_less (t_X9_down_20 F x0 (0 : Int32) S5) (And.intro rfl (And.intro rfl trivial))
-- X9_note
def f_X9_note_36 (F : Nat)  (S : Mem) : Option (Int32 × Mem) :=
  some ((-1 : Int32), S)
def fn_X9_note (F : Nat) (x0 : Nat) (x1 : Int32) (x2 : Int32) (x3 : Int32) (S : Mem) : Option (Int32 × Mem) :=
  (sI S 8 0 x0 (0 : Int32)).bind fun S1 =>
  bd ((fn_X9_within F x1 (0 : Int32) (9999 : Int32) S1)) fun v2 S3 =>
  if v2 = 0 then
    f_X9_note_36 F   S3
  else
    bd ((fn_X9_isWanted F x2 x3 S3)) fun v4 S5 =>
    if v4 = 0 then
      f_X9_note_36 F   S5
    else
      (gR S5 8 36 x0).bind fun v6 =>
      (gA S5 10 v6 (20 : Int32)).bind fun v7 =>
      if v7 = (10 : Int32) then
        f_X9_note_36 F   S5
      else
        (gR S5 8 36 x0).bind fun v8 =>
        (gA S5 10 v8 (20 : Int32)).bind fun v9 =>
        lt (((21 : Int32) + ((3 : Int32) * v9))) fun v10 =>
        (gR S5 8 36 x0).bind fun v11 =>
        (sA S5 v11 v10 x1).bind fun S12 =>
        (gR S12 8 36 x0).bind fun v13 =>
        (sA S12 v13 (v10 + (1 : Int32)) x2).bind fun S14 =>
        (gR S14 8 36 x0).bind fun v15 =>
        (sA S14 v15 (v10 + (2 : Int32)) x3).bind fun S16 =>
        (gR S16 8 36 x0).bind fun v17 =>
        (gA S16 10 v17 (20 : Int32)).bind fun v18 =>
        (sA S16 v17 (20 : Int32) (v18 + (1 : Int32))).bind fun S19 =>
        (gR S19 8 36 x0).bind fun v20 =>
        (gA S19 10 v20 (20 : Int32)).bind fun v21 =>
        some (v21, S19)
set_option maxRecDepth 100000 in
theorem t_X9_note_36 {Γ : Cx} {F : Nat} : ∀ (S : Mem), Sim cX9_note RX9 2 43 (some .int) false Γ rI (f_X9_note_36 F  S) S 36 [none, none, none, none, none] [] := by
  intro  S
  unfold f_X9_note_36
  refine s_iconst (-1 : Int32) dX9_note_36 (by decide) ?_
  exact s_iret dX9_note_37
set_option maxRecDepth 100000 in
theorem con_X9_note {l : Launch} (F : Nat) (x0 : Nat) (x1 : Int32) (x2 : Int32) (x3 : Int32) (S : Mem) (v : Int32) (S1 : Mem) (h : fn_X9_note F x0 x1 x2 x3 S = some (v, S1)) : Con l yX9_note cX9_note 5 (some .int) 2 43 [.ref x0, .int x1, .int x2, .int x3] S (rI v) S1 := by
  refine con_of (ι := rI) RX9 false [some (.ref x0), some (.int x1), some (.int x2), some (.int x3), none] rfl (fun h => by cases h) (by decide) (Nat.le_of_ble_eq_true rfl) ⟨rfl, rfl⟩ (fun Γ hl => ?_) h
  unfold fn_X9_note
  refine s_aload_n 0 dX9_note_0 rfl rfl ?_
  refine s_iconst (0 : Int32) dX9_note_1 (by decide) ?_
  refine s_putI fk_X9_109 (Or.inl rfl) rfl dX9_note_2 (fun S1 => ?_)
  refine s_iload_n 1 dX9_note_5 rfl rfl ?_
  refine s_iconst (0 : Int32) dX9_note_6 (by decide) ?_
  refine s_sipush (9999 : Int32) dX9_note_7 (by decide) ?_
  refine s_cS3I mk_X9_235 (fun v9 S9 h9 => con_X9_within F _ _ _ _ v9 S9 h9) ⟨by omega, by omega⟩ (Nat.le_of_ble_eq_true rfl) dX9_note_10 (fun v2 S3 => ?_)
  refine s_if_eq 36 dX9_note_13 (by decide) (fun _ => ?_) (fun _ => ?_)
  · exact s_less (t_X9_note_36   S3) trivial
  · refine s_iload_n 2 dX9_note_16 rfl rfl ?_
    refine s_iload_n 3 dX9_note_17 rfl rfl ?_
    refine s_cS2I mk_X9_371 (fun v9 S9 h9 => con_X9_isWanted F _ _ _ v9 S9 h9) ⟨by omega, by omega⟩ (Nat.le_of_ble_eq_true rfl) dX9_note_18 (fun v4 S5 => ?_)
    refine s_if_eq 36 dX9_note_21 (by decide) (fun _ => ?_) (fun _ => ?_)
    · exact s_less (t_X9_note_36   S5) trivial
    · refine s_aload_n 0 dX9_note_24 rfl rfl ?_
      refine s_getR fk_X9_81 rfl dX9_note_25 (fun v6 => ?_)
      refine s_bipush (20 : Int32) dX9_note_28 (by decide) ?_
      refine s_iald dX9_note_30 (fun v7 => ?_)
      refine s_bipush (10 : Int32) dX9_note_31 (by decide) ?_
      refine s_icmp_ne 38 dX9_note_33 (by decide) (fun _ => ?_) (fun _ => ?_)
      · refine s_bipush (21 : Int32) dX9_note_38 (by decide) ?_
        refine s_iconst (3 : Int32) dX9_note_40 (by decide) ?_
        refine s_aload_n 0 dX9_note_41 rfl rfl ?_
        refine s_getR fk_X9_81 rfl dX9_note_42 (fun v8 => ?_)
        refine s_bipush (20 : Int32) dX9_note_45 (by decide) ?_
        refine s_iald dX9_note_47 (fun v9 => ?_)
        refine s_imul dX9_note_48 ?_
        refine s_iadd dX9_note_49 ?_
        refine s_ltI (fun v10 => ?_)
        refine s_istore_4 dX9_note_50 rfl ?_
        refine s_aload_n 0 dX9_note_52 rfl rfl ?_
        refine s_getR fk_X9_81 rfl dX9_note_53 (fun v11 => ?_)
        refine s_iload dX9_note_56 rfl ?_
        refine s_iload_n 1 dX9_note_58 rfl rfl ?_
        refine s_iast dX9_note_59 (fun S12 => ?_)
        refine s_aload_n 0 dX9_note_60 rfl rfl ?_
        refine s_getR fk_X9_81 rfl dX9_note_61 (fun v13 => ?_)
        refine s_iload dX9_note_64 rfl ?_
        refine s_iconst (1 : Int32) dX9_note_66 (by decide) ?_
        refine s_iadd dX9_note_67 ?_
        refine s_iload_n 2 dX9_note_68 rfl rfl ?_
        refine s_iast dX9_note_69 (fun S14 => ?_)
        refine s_aload_n 0 dX9_note_70 rfl rfl ?_
        refine s_getR fk_X9_81 rfl dX9_note_71 (fun v15 => ?_)
        refine s_iload dX9_note_74 rfl ?_
        refine s_iconst (2 : Int32) dX9_note_76 (by decide) ?_
        refine s_iadd dX9_note_77 ?_
        refine s_iload_n 3 dX9_note_78 rfl rfl ?_
        refine s_iast dX9_note_79 (fun S16 => ?_)
        refine s_aload_n 0 dX9_note_80 rfl rfl ?_
        refine s_getR fk_X9_81 rfl dX9_note_81 (fun v17 => ?_)
        refine s_bipush (20 : Int32) dX9_note_84 (by decide) ?_
        refine s_dup2 dX9_note_86 rfl rfl ?_
        refine s_iald dX9_note_87 (fun v18 => ?_)
        refine s_iconst (1 : Int32) dX9_note_88 (by decide) ?_
        refine s_iadd dX9_note_89 ?_
        refine s_iast dX9_note_90 (fun S19 => ?_)
        refine s_aload_n 0 dX9_note_91 rfl rfl ?_
        refine s_getR fk_X9_81 rfl dX9_note_92 (fun v20 => ?_)
        refine s_bipush (20 : Int32) dX9_note_95 (by decide) ?_
        refine s_iald dX9_note_97 (fun v21 => ?_)
        exact s_iret dX9_note_98
      · exact s_less (t_X9_note_36   S5) trivial
-- X9_clear
def fn_X9_clear (F : Nat) (x0 : Nat) (S : Mem) : Option (Int32 × Mem) :=
  (sI S 8 0 x0 (0 : Int32)).bind fun S1 =>
  (gR S1 8 36 x0).bind fun v2 =>
  (sA S1 v2 (20 : Int32) (0 : Int32)).bind fun S3 =>
  rz (1 : Int32) S3
set_option maxRecDepth 100000 in
theorem con_X9_clear {l : Launch} (F : Nat) (x0 : Nat) (S : Mem) (v : Int32) (S1 : Mem) (h : fn_X9_clear F x0 S = some (v, S1)) : Con l yX9_clear cX9_clear 1 (some .boolean) 0 0 [.ref x0] S (rI v) S1 := by
  refine con_of (ι := rI) RX9 false [some (.ref x0)] rfl (fun h => by cases h) (by decide) (Nat.le_of_ble_eq_true rfl) ⟨rfl, rfl⟩ (fun Γ hl => ?_) h
  unfold fn_X9_clear
  refine s_aload_n 0 dX9_clear_0 rfl rfl ?_
  refine s_iconst (0 : Int32) dX9_clear_1 (by decide) ?_
  refine s_putI fk_X9_109 (Or.inl rfl) rfl dX9_clear_2 (fun S1 => ?_)
  refine s_aload_n 0 dX9_clear_5 rfl rfl ?_
  refine s_getR fk_X9_81 rfl dX9_clear_6 (fun v2 => ?_)
  refine s_bipush (20 : Int32) dX9_clear_9 (by decide) ?_
  refine s_iconst (0 : Int32) dX9_clear_11 (by decide) ?_
  refine s_iast dX9_clear_12 (fun S3 => ?_)
  refine s_iconst (1 : Int32) dX9_clear_13 (by decide) ?_
  exact s_zret dX9_clear_14
-- X9_isSo
def f_X9_isSo_108 (F : Nat) (x0 : Nat) (x2 : Int32) (x3 : Int32) (S : Mem) : Option (Int32 × Mem) :=
  (gR S 8 36 x0).bind fun v1 =>
  (sA S v1 (18 : Int32) x2).bind fun S2 =>
  rz x3 S2
def f_X9_isSo_101 (F : Nat) (k21 : Nat → Int32 → Int32 → Int32 → Mem → Option (Int32 × Mem)) (x0 : Nat) (x2 : Int32) (x4 : Int32) (y0 : Int32) (S : Mem) : Option (Int32 × Mem) :=
  k21 x0 x2 y0 (x4 + (1 : Int32)) S
def f_X9_isSo_100 (F : Nat) (k21 : Nat → Int32 → Int32 → Int32 → Mem → Option (Int32 × Mem)) (x0 : Nat) (x2 : Int32) (x4 : Int32) (S : Mem) : Option (Int32 × Mem) :=
  f_X9_isSo_101 F k21 x0 x2 x4 (0 : Int32) S
def b_X9_isSo_21 (F : Nat) (k21 : Nat → Int32 → Int32 → Int32 → Mem → Option (Int32 × Mem)) (x0 : Nat) (x2 : Int32) (x3 : Int32) (x4 : Int32) (S : Mem) : Option (Int32 × Mem) :=
  (gR S 8 36 x0).bind fun v1 =>
  (gA S 10 v1 (20 : Int32)).bind fun v2 =>
  if v2 ≤ x4 then
    f_X9_isSo_108 F x0 x2 x3  S
  else
    if x3 = 0 then
      f_X9_isSo_108 F x0 x2 x3  S
    else
      (gR S 8 36 x0).bind fun v3 =>
      (gA S 10 v3 ((21 : Int32) + ((3 : Int32) * x4))).bind fun v4 =>
      bd (cal S 8 x0 (fn_X9_looks F x0 v4 (0 : Int32) S)) fun _ S6 =>
      (gI S6 8 43 x0).bind fun v7 =>
      (gR S6 8 36 x0).bind fun v8 =>
      (gA S6 10 v8 (((21 : Int32) + ((3 : Int32) * x4)) + (1 : Int32))).bind fun v9 =>
      if v7 = v9 then
        (gI S6 8 42 x0).bind fun v10 =>
        (gR S6 8 36 x0).bind fun v11 =>
        (gA S6 10 v11 (((21 : Int32) + ((3 : Int32) * x4)) + (2 : Int32))).bind fun v12 =>
        if v10 = v12 then
          f_X9_isSo_101 F k21 x0 x2 x4 (1 : Int32) S6
        else
          f_X9_isSo_100 F k21 x0 x2 x4  S6
      else
        f_X9_isSo_100 F k21 x0 x2 x4  S6
def fn_X9_isSo (F : Nat) (x0 : Nat) (x1 : Int32) (S : Mem) : Option (Int32 × Mem) :=
  (gR S 8 36 x0).bind fun v1 =>
  (gA S 10 v1 (18 : Int32)).bind fun v2 =>
  (gR S 8 36 x0).bind fun v3 =>
  (sA S v3 (18 : Int32) x1).bind fun S4 =>
  fix4 (b_X9_isSo_21 F) F x0 v2 (1 : Int32) (0 : Int32) S4
set_option maxRecDepth 100000 in
theorem t_X9_isSo_108 {Γ : Cx} {F : Nat} : ∀ (x0 : Nat) (x2 : Int32) (x3 : Int32) (S : Mem), Sim cX9_isSo RX9 5 113 (some .boolean) false Γ rI (f_X9_isSo_108 F x0 x2 x3 S) S 108 [some (.ref x0), none, some (.int x2), some (.int x3), none] [] := by
  intro x0 x2 x3 S
  unfold f_X9_isSo_108
  refine s_aload_n 0 dX9_isSo_108 rfl rfl ?_
  refine s_getR fk_X9_81 rfl dX9_isSo_109 (fun v1 => ?_)
  refine s_bipush (18 : Int32) dX9_isSo_112 (by decide) ?_
  refine s_iload_n 2 dX9_isSo_114 rfl rfl ?_
  refine s_iast dX9_isSo_115 (fun S2 => ?_)
  refine s_iload_n 3 dX9_isSo_116 rfl rfl ?_
  exact s_zret dX9_isSo_117
set_option maxRecDepth 100000 in
theorem t_X9_isSo_101 {Γ : Cx} {F : Nat} {k21 : Nat → Int32 → Int32 → Int32 → Mem → Option (Int32 × Mem)} (hk21 : ∀ (x0 : Nat) (x2 : Int32) (x3 : Int32) (x4 : Int32) (S : Mem), Sim cX9_isSo RX9 5 113 (some .boolean) false Γ rI (k21 x0 x2 x3 x4 S) S 21 [some (.ref x0), none, some (.int x2), some (.int x3), some (.int x4)] []) : ∀ (x0 : Nat) (x2 : Int32) (x4 : Int32) (y0 : Int32) (S : Mem), Sim cX9_isSo RX9 5 113 (some .boolean) false Γ rI (f_X9_isSo_101 F k21 x0 x2 x4 y0 S) S 101 [some (.ref x0), none, some (.int x2), none, some (.int x4)] [.int y0] := by
  intro x0 x2 x4 y0 S
  unfold f_X9_isSo_101
  refine s_istore_3 dX9_isSo_101 rfl ?_
  refine s_iinc_4 (1 : Int32) dX9_isSo_102 (by decide) rfl ?_
  refine s_goto 21 dX9_isSo_105 (by decide) ?_
  exact s_less (hk21 x0 x2 y0 (x4 + (1 : Int32)) S) (And.intro rfl (And.intro rfl (And.intro rfl (And.intro rfl trivial))))
set_option maxRecDepth 100000 in
theorem t_X9_isSo_100 {Γ : Cx} {F : Nat} {k21 : Nat → Int32 → Int32 → Int32 → Mem → Option (Int32 × Mem)} (hk21 : ∀ (x0 : Nat) (x2 : Int32) (x3 : Int32) (x4 : Int32) (S : Mem), Sim cX9_isSo RX9 5 113 (some .boolean) false Γ rI (k21 x0 x2 x3 x4 S) S 21 [some (.ref x0), none, some (.int x2), some (.int x3), some (.int x4)] []) : ∀ (x0 : Nat) (x2 : Int32) (x4 : Int32) (S : Mem), Sim cX9_isSo RX9 5 113 (some .boolean) false Γ rI (f_X9_isSo_100 F k21 x0 x2 x4 S) S 100 [some (.ref x0), none, some (.int x2), none, some (.int x4)] [] := by
  intro x0 x2 x4 S
  unfold f_X9_isSo_100
  refine s_iconst (0 : Int32) dX9_isSo_100 (by decide) ?_
  exact s_less (t_X9_isSo_101 hk21 x0 x2 x4 (0 : Int32) S) (And.intro rfl (And.intro rfl (And.intro rfl trivial)))
set_option maxRecDepth 100000 in
theorem t_X9_isSo_21 {Γ : Cx} {F : Nat} : ∀ (f : Nat) (x0 : Nat) (x2 : Int32) (x3 : Int32) (x4 : Int32) (S : Mem), Sim cX9_isSo RX9 5 113 (some .boolean) false Γ rI (fix4 (b_X9_isSo_21 F) f x0 x2 x3 x4 S) S 21 [some (.ref x0), none, some (.int x2), some (.int x3), some (.int x4)] [] := by
  refine s_fix4 (fun (x0 : Nat) (x2 : Int32) (x3 : Int32) (x4 : Int32) => [some (.ref x0), none, some (.int x2), some (.int x3), some (.int x4)]) (fun k21 hk21 => ?_)
  intro x0 x2 x3 x4 S
  unfold b_X9_isSo_21
  refine s_iload dX9_isSo_21 rfl ?_
  refine s_aload_n 0 dX9_isSo_23 rfl rfl ?_
  refine s_getR fk_X9_81 rfl dX9_isSo_24 (fun v1 => ?_)
  refine s_bipush (20 : Int32) dX9_isSo_27 (by decide) ?_
  refine s_iald dX9_isSo_29 (fun v2 => ?_)
  refine s_icmp_ge 108 dX9_isSo_30 (by decide) (fun _ => ?_) (fun _ => ?_)
  · exact s_less (t_X9_isSo_108 x0 x2 x3  S) (And.intro rfl (And.intro rfl (And.intro rfl trivial)))
  · refine s_iload_n 3 dX9_isSo_33 rfl rfl ?_
    refine s_if_eq 108 dX9_isSo_34 (by decide) (fun _ => ?_) (fun _ => ?_)
    · exact s_less (t_X9_isSo_108 x0 x2 x3  S) (And.intro rfl (And.intro rfl (And.intro rfl trivial)))
    · refine s_aload_n 0 dX9_isSo_37 rfl rfl ?_
      refine s_aload_n 0 dX9_isSo_38 rfl rfl ?_
      refine s_getR fk_X9_81 rfl dX9_isSo_39 (fun v3 => ?_)
      refine s_bipush (21 : Int32) dX9_isSo_42 (by decide) ?_
      refine s_iconst (3 : Int32) dX9_isSo_44 (by decide) ?_
      refine s_iload dX9_isSo_45 rfl ?_
      refine s_imul dX9_isSo_47 ?_
      refine s_iadd dX9_isSo_48 ?_
      refine s_iald dX9_isSo_49 (fun v4 => ?_)
      refine s_iconst (0 : Int32) dX9_isSo_50 (by decide) ?_
      refine s_cV2V mk_X9_325 (by decide) rfl (fun v9 S9 h9 => con_X9_looks F _ _ _ _ v9 S9 h9) ⟨by omega, by omega⟩ (Nat.le_of_ble_eq_true rfl) dX9_isSo_51 (fun _ S6 => ?_)
      refine s_aload_n 0 dX9_isSo_54 rfl rfl ?_
      refine s_getI fk_X9_316 rfl dX9_isSo_55 (fun v7 => ?_)
      refine s_aload_n 0 dX9_isSo_58 rfl rfl ?_
      refine s_getR fk_X9_81 rfl dX9_isSo_59 (fun v8 => ?_)
      refine s_bipush (21 : Int32) dX9_isSo_62 (by decide) ?_
      refine s_iconst (3 : Int32) dX9_isSo_64 (by decide) ?_
      refine s_iload dX9_isSo_65 rfl ?_
      refine s_imul dX9_isSo_67 ?_
      refine s_iadd dX9_isSo_68 ?_
      refine s_iconst (1 : Int32) dX9_isSo_69 (by decide) ?_
      refine s_iadd dX9_isSo_70 ?_
      refine s_iald dX9_isSo_71 (fun v9 => ?_)
      refine s_icmp_ne 100 dX9_isSo_72 (by decide) (fun _ => ?_) (fun _ => ?_)
      · exact s_less (t_X9_isSo_100 hk21 x0 x2 x4  S6) (And.intro rfl (And.intro rfl (And.intro rfl trivial)))
      · refine s_aload_n 0 dX9_isSo_75 rfl rfl ?_
        refine s_getI fk_X9_313 rfl dX9_isSo_76 (fun v10 => ?_)
        refine s_aload_n 0 dX9_isSo_79 rfl rfl ?_
        refine s_getR fk_X9_81 rfl dX9_isSo_80 (fun v11 => ?_)
        refine s_bipush (21 : Int32) dX9_isSo_83 (by decide) ?_
        refine s_iconst (3 : Int32) dX9_isSo_85 (by decide) ?_
        refine s_iload dX9_isSo_86 rfl ?_
        refine s_imul dX9_isSo_88 ?_
        refine s_iadd dX9_isSo_89 ?_
        refine s_iconst (2 : Int32) dX9_isSo_90 (by decide) ?_
        refine s_iadd dX9_isSo_91 ?_
        refine s_iald dX9_isSo_92 (fun v12 => ?_)
        refine s_icmp_ne 100 dX9_isSo_93 (by decide) (fun _ => ?_) (fun _ => ?_)
        · exact s_less (t_X9_isSo_100 hk21 x0 x2 x4  S6) (And.intro rfl (And.intro rfl (And.intro rfl trivial)))
        · refine s_iconst (1 : Int32) dX9_isSo_96 (by decide) ?_
          refine s_goto 101 dX9_isSo_97 (by decide) ?_
          exact s_less (t_X9_isSo_101 hk21 x0 x2 x4 (1 : Int32) S6) (And.intro rfl (And.intro rfl (And.intro rfl trivial)))
set_option maxRecDepth 100000 in
theorem con_X9_isSo {l : Launch} (F : Nat) (x0 : Nat) (x1 : Int32) (S : Mem) (v : Int32) (S1 : Mem) (h : fn_X9_isSo F x0 x1 S = some (v, S1)) : Con l yX9_isSo cX9_isSo 5 (some .boolean) 5 113 [.ref x0, .int x1] S (rI v) S1 := by
  refine con_of (ι := rI) RX9 false [some (.ref x0), some (.int x1), none, none, none] rfl (fun h => by cases h) (by decide) (Nat.le_of_ble_eq_true rfl) ⟨rfl, rfl⟩ (fun Γ hl => ?_) h
  unfold fn_X9_isSo
  refine s_aload_n 0 dX9_isSo_0 rfl rfl ?_
  refine s_getR fk_X9_81 rfl dX9_isSo_1 (fun v1 => ?_)
  refine s_bipush (18 : Int32) dX9_isSo_4 (by decide) ?_
  refine s_iald dX9_isSo_6 (fun v2 => ?_)
  refine s_istore_2 dX9_isSo_7 rfl ?_
  refine s_aload_n 0 dX9_isSo_8 rfl rfl ?_
  refine s_getR fk_X9_81 rfl dX9_isSo_9 (fun v3 => ?_)
  refine s_bipush (18 : Int32) dX9_isSo_12 (by decide) ?_
  refine s_iload_n 1 dX9_isSo_14 rfl rfl ?_
  refine s_iast dX9_isSo_15 (fun S4 => ?_)
  refine s_iconst (1 : Int32) dX9_isSo_16 (by decide) ?_
  refine s_istore_3 dX9_isSo_17 rfl ?_
  refine s_iconst (0 : Int32) dX9_isSo_18 (by decide) ?_
  refine s_istore_4 dX9_isSo_19 rfl ?_
  exact s_less (t_X9_isSo_21 F x0 v2 (1 : Int32) (0 : Int32) S4) (And.intro rfl (And.intro rfl (And.intro rfl (And.intro rfl trivial))))
-- X9_fits
def f_X9_fits_35 (F : Nat) (k9 : Nat → Int32 → Int32 → Mem → Option (Int32 × Mem)) (x0 : Nat) (x2 : Int32) (y0 : Int32) (y1 : Int32) (S : Mem) : Option (Int32 × Mem) :=
  lt ((y0 + y1)) fun v1 =>
  k9 x0 v1 (x2 + (1 : Int32)) S
def b_X9_fits_9 (F : Nat) (k9 : Nat → Int32 → Int32 → Mem → Option (Int32 × Mem)) (x0 : Nat) (x1 : Int32) (x2 : Int32) (S : Mem) : Option (Int32 × Mem) :=
  (gR S 8 10 x0).bind fun v1 =>
  (gA S 10 v1 (4 : Int32)).bind fun v2 =>
  if ((1 : Int32) <<< (v2 &&& 31)) ≤ x2 then
    some (x1, S)
  else
    bd (cal S 8 x0 (fn_X9_isSo F x0 x2 S)) fun v3 S4 =>
    if v3 = 0 then
      f_X9_fits_35 F k9 x0 x2 x1 (0 : Int32) S4
    else
      f_X9_fits_35 F k9 x0 x2 x1 (1 : Int32) S4
def fn_X9_fits (F : Nat) (x0 : Nat) (S : Mem) : Option (Int32 × Mem) :=
  (sI S 8 0 x0 (0 : Int32)).bind fun S1 =>
  fix3 (b_X9_fits_9 F) F x0 (0 : Int32) (0 : Int32) S1
set_option maxRecDepth 100000 in
theorem t_X9_fits_35 {Γ : Cx} {F : Nat} {k9 : Nat → Int32 → Int32 → Mem → Option (Int32 × Mem)} (hk9 : ∀ (x0 : Nat) (x1 : Int32) (x2 : Int32) (S : Mem), Sim cX9_fits RX9 6 137 (some .int) false Γ rI (k9 x0 x1 x2 S) S 9 [some (.ref x0), some (.int x1), some (.int x2)] []) : ∀ (x0 : Nat) (x2 : Int32) (y0 : Int32) (y1 : Int32) (S : Mem), Sim cX9_fits RX9 6 137 (some .int) false Γ rI (f_X9_fits_35 F k9 x0 x2 y0 y1 S) S 35 [some (.ref x0), none, some (.int x2)] [.int y1, .int y0] := by
  intro x0 x2 y0 y1 S
  unfold f_X9_fits_35
  refine s_iadd dX9_fits_35 ?_
  refine s_ltI (fun v1 => ?_)
  refine s_istore_1 dX9_fits_36 rfl ?_
  refine s_iinc_2 (1 : Int32) dX9_fits_37 (by decide) rfl ?_
  refine s_goto 9 dX9_fits_40 (by decide) ?_
  exact s_less (hk9 x0 v1 (x2 + (1 : Int32)) S) (And.intro rfl (And.intro rfl (And.intro rfl trivial)))
set_option maxRecDepth 100000 in
theorem t_X9_fits_9 {Γ : Cx} {F : Nat} : ∀ (f : Nat) (x0 : Nat) (x1 : Int32) (x2 : Int32) (S : Mem), Sim cX9_fits RX9 6 137 (some .int) false Γ rI (fix3 (b_X9_fits_9 F) f x0 x1 x2 S) S 9 [some (.ref x0), some (.int x1), some (.int x2)] [] := by
  refine s_fix3 (fun (x0 : Nat) (x1 : Int32) (x2 : Int32) => [some (.ref x0), some (.int x1), some (.int x2)]) (fun k9 hk9 => ?_)
  intro x0 x1 x2 S
  unfold b_X9_fits_9
  refine s_iload_n 2 dX9_fits_9 rfl rfl ?_
  refine s_iconst (1 : Int32) dX9_fits_10 (by decide) ?_
  refine s_aload_n 0 dX9_fits_11 rfl rfl ?_
  refine s_getR fk_X9_13 rfl dX9_fits_12 (fun v1 => ?_)
  refine s_iconst (4 : Int32) dX9_fits_15 (by decide) ?_
  refine s_iald dX9_fits_16 (fun v2 => ?_)
  refine s_ishl dX9_fits_17 ?_
  refine s_icmp_ge 43 dX9_fits_18 (by decide) (fun _ => ?_) (fun _ => ?_)
  · refine s_iload_n 1 dX9_fits_43 rfl rfl ?_
    exact s_iret dX9_fits_44
  · refine s_iload_n 1 dX9_fits_21 rfl rfl ?_
    refine s_aload_n 0 dX9_fits_22 rfl rfl ?_
    refine s_iload_n 2 dX9_fits_23 rfl rfl ?_
    refine s_cV1I mk_X9_398 (by decide) rfl (fun v9 S9 h9 => con_X9_isSo F _ _ _ v9 S9 h9) ⟨by omega, by omega⟩ (Nat.le_of_ble_eq_true rfl) dX9_fits_24 (fun v3 S4 => ?_)
    refine s_if_eq 34 dX9_fits_27 (by decide) (fun _ => ?_) (fun _ => ?_)
    · refine s_iconst (0 : Int32) dX9_fits_34 (by decide) ?_
      exact s_less (t_X9_fits_35 hk9 x0 x2 x1 (0 : Int32) S4) (And.intro rfl (And.intro rfl trivial))
    · refine s_iconst (1 : Int32) dX9_fits_30 (by decide) ?_
      refine s_goto 35 dX9_fits_31 (by decide) ?_
      exact s_less (t_X9_fits_35 hk9 x0 x2 x1 (1 : Int32) S4) (And.intro rfl (And.intro rfl trivial))
set_option maxRecDepth 100000 in
theorem con_X9_fits {l : Launch} (F : Nat) (x0 : Nat) (S : Mem) (v : Int32) (S1 : Mem) (h : fn_X9_fits F x0 S = some (v, S1)) : Con l yX9_fits cX9_fits 3 (some .int) 6 137 [.ref x0] S (rI v) S1 := by
  refine con_of (ι := rI) RX9 false [some (.ref x0), none, none] rfl (fun h => by cases h) (by decide) (Nat.le_of_ble_eq_true rfl) ⟨rfl, rfl⟩ (fun Γ hl => ?_) h
  unfold fn_X9_fits
  refine s_aload_n 0 dX9_fits_0 rfl rfl ?_
  refine s_iconst (0 : Int32) dX9_fits_1 (by decide) ?_
  refine s_putI fk_X9_109 (Or.inl rfl) rfl dX9_fits_2 (fun S1 => ?_)
  refine s_iconst (0 : Int32) dX9_fits_5 (by decide) ?_
  refine s_istore_1 dX9_fits_6 rfl ?_
  refine s_iconst (0 : Int32) dX9_fits_7 (by decide) ?_
  refine s_istore_2 dX9_fits_8 rfl ?_
  exact s_less (t_X9_fits_9 F x0 (0 : Int32) (0 : Int32) S1) (And.intro rfl (And.intro rfl (And.intro rfl trivial)))
-- X9_fit
def f_X9_fit_42 (F : Nat) (k9 : Nat → Int32 → Int32 → Int32 → Mem → Option (Int32 × Mem)) (x0 : Nat) (x1 : Int32) (x2 : Int32) (x3 : Int32) (S : Mem) : Option (Int32 × Mem) :=
  k9 x0 x1 x2 (x3 + (1 : Int32)) S
def b_X9_fit_9 (F : Nat) (k9 : Nat → Int32 → Int32 → Int32 → Mem → Option (Int32 × Mem)) (x0 : Nat) (x1 : Int32) (x2 : Int32) (x3 : Int32) (S : Mem) : Option (Int32 × Mem) :=
  (gR S 8 10 x0).bind fun v1 =>
  (gA S 10 v1 (4 : Int32)).bind fun v2 =>
  if ((1 : Int32) <<< (v2 &&& 31)) ≤ x3 then
    some ((-1 : Int32), S)
  else
    bd (cal S 8 x0 (fn_X9_isSo F x0 x3 S)) fun v3 S4 =>
    if v3 = 0 then
      f_X9_fit_42 F k9 x0 x1 x2 x3  S4
    else
      if x2 = x1 then
        some (x3, S4)
      else
        f_X9_fit_42 F k9 x0 x1 (x2 + (1 : Int32)) x3  S4
def fn_X9_fit (F : Nat) (x0 : Nat) (x1 : Int32) (S : Mem) : Option (Int32 × Mem) :=
  (sI S 8 0 x0 (0 : Int32)).bind fun S1 =>
  fix4 (b_X9_fit_9 F) F x0 x1 (0 : Int32) (0 : Int32) S1
set_option maxRecDepth 100000 in
theorem t_X9_fit_42 {Γ : Cx} {F : Nat} {k9 : Nat → Int32 → Int32 → Int32 → Mem → Option (Int32 × Mem)} (hk9 : ∀ (x0 : Nat) (x1 : Int32) (x2 : Int32) (x3 : Int32) (S : Mem), Sim cX9_fit RX9 6 137 (some .int) false Γ rI (k9 x0 x1 x2 x3 S) S 9 [some (.ref x0), some (.int x1), some (.int x2), some (.int x3)] []) : ∀ (x0 : Nat) (x1 : Int32) (x2 : Int32) (x3 : Int32) (S : Mem), Sim cX9_fit RX9 6 137 (some .int) false Γ rI (f_X9_fit_42 F k9 x0 x1 x2 x3 S) S 42 [some (.ref x0), some (.int x1), some (.int x2), some (.int x3)] [] := by
  intro x0 x1 x2 x3 S
  unfold f_X9_fit_42
  refine s_iinc_3 (1 : Int32) dX9_fit_42 (by decide) rfl ?_
  refine s_goto 9 dX9_fit_45 (by decide) ?_
  exact s_less (hk9 x0 x1 x2 (x3 + (1 : Int32)) S) (And.intro rfl (And.intro rfl (And.intro rfl (And.intro rfl trivial))))
set_option maxRecDepth 100000 in
theorem t_X9_fit_9 {Γ : Cx} {F : Nat} : ∀ (f : Nat) (x0 : Nat) (x1 : Int32) (x2 : Int32) (x3 : Int32) (S : Mem), Sim cX9_fit RX9 6 137 (some .int) false Γ rI (fix4 (b_X9_fit_9 F) f x0 x1 x2 x3 S) S 9 [some (.ref x0), some (.int x1), some (.int x2), some (.int x3)] [] := by
  refine s_fix4 (fun (x0 : Nat) (x1 : Int32) (x2 : Int32) (x3 : Int32) => [some (.ref x0), some (.int x1), some (.int x2), some (.int x3)]) (fun k9 hk9 => ?_)
  intro x0 x1 x2 x3 S
  unfold b_X9_fit_9
  refine s_iload_n 3 dX9_fit_9 rfl rfl ?_
  refine s_iconst (1 : Int32) dX9_fit_10 (by decide) ?_
  refine s_aload_n 0 dX9_fit_11 rfl rfl ?_
  refine s_getR fk_X9_13 rfl dX9_fit_12 (fun v1 => ?_)
  refine s_iconst (4 : Int32) dX9_fit_15 (by decide) ?_
  refine s_iald dX9_fit_16 (fun v2 => ?_)
  refine s_ishl dX9_fit_17 ?_
  refine s_icmp_ge 48 dX9_fit_18 (by decide) (fun _ => ?_) (fun _ => ?_)
  · refine s_iconst (-1 : Int32) dX9_fit_48 (by decide) ?_
    exact s_iret dX9_fit_49
  · refine s_aload_n 0 dX9_fit_21 rfl rfl ?_
    refine s_iload_n 3 dX9_fit_22 rfl rfl ?_
    refine s_cV1I mk_X9_398 (by decide) rfl (fun v9 S9 h9 => con_X9_isSo F _ _ _ v9 S9 h9) ⟨by omega, by omega⟩ (Nat.le_of_ble_eq_true rfl) dX9_fit_23 (fun v3 S4 => ?_)
    refine s_if_ne 32 dX9_fit_26 (by decide) (fun _ => ?_) (fun _ => ?_)
    · refine s_iload_n 2 dX9_fit_32 rfl rfl ?_
      refine s_iload_n 1 dX9_fit_33 rfl rfl ?_
      refine s_icmp_ne 39 dX9_fit_34 (by decide) (fun _ => ?_) (fun _ => ?_)
      · refine s_iinc_2 (1 : Int32) dX9_fit_39 (by decide) rfl ?_
        exact s_less (t_X9_fit_42 hk9 x0 x1 (x2 + (1 : Int32)) x3  S4) (And.intro rfl (And.intro rfl (And.intro rfl (And.intro rfl trivial))))
      · refine s_iload_n 3 dX9_fit_37 rfl rfl ?_
        exact s_iret dX9_fit_38
    · refine s_goto 42 dX9_fit_29 (by decide) ?_
      exact s_less (t_X9_fit_42 hk9 x0 x1 x2 x3  S4) (And.intro rfl (And.intro rfl (And.intro rfl (And.intro rfl trivial))))
set_option maxRecDepth 100000 in
theorem con_X9_fit {l : Launch} (F : Nat) (x0 : Nat) (x1 : Int32) (S : Mem) (v : Int32) (S1 : Mem) (h : fn_X9_fit F x0 x1 S = some (v, S1)) : Con l yX9_fit cX9_fit 4 (some .int) 6 137 [.ref x0, .int x1] S (rI v) S1 := by
  refine con_of (ι := rI) RX9 false [some (.ref x0), some (.int x1), none, none] rfl (fun h => by cases h) (by decide) (Nat.le_of_ble_eq_true rfl) ⟨rfl, rfl⟩ (fun Γ hl => ?_) h
  unfold fn_X9_fit
  refine s_aload_n 0 dX9_fit_0 rfl rfl ?_
  refine s_iconst (0 : Int32) dX9_fit_1 (by decide) ?_
  refine s_putI fk_X9_109 (Or.inl rfl) rfl dX9_fit_2 (fun S1 => ?_)
  refine s_iconst (0 : Int32) dX9_fit_5 (by decide) ?_
  refine s_istore_2 dX9_fit_6 rfl ?_
  refine s_iconst (0 : Int32) dX9_fit_7 (by decide) ?_
  refine s_istore_3 dX9_fit_8 rfl ?_
  exact s_less (t_X9_fit_9 F x0 x1 (0 : Int32) (0 : Int32) S1) (And.intro rfl (And.intro rfl (And.intro rfl (And.intro rfl trivial))))
-- X9_draws
def fn_X9_draws (F : Nat) (x0 : Nat) (x1 : Int32) (S : Mem) : Option (Int32 × Mem) :=
  (gJ S 8 50 x0).bind fun v1 =>
  (sJ S 8 50 x0 (((v1 * (1103515245 : Int64)) + (12345 : Int64)) - ((v1 * (1103515245 : Int64)) + (12345 : Int64)) / (2147483648 : Int64) * (2147483648 : Int64))).bind fun S2 =>
  (gJ S2 8 50 x0).bind fun v3 =>
  lt ((x1).toInt64) fun v4 =>
  nzl v4 (
  some ((((v3 / (65536 : Int64)) - (v3 / (65536 : Int64)) / v4 * v4)).toInt32, S2))
set_option maxRecDepth 100000 in
theorem con_X9_draws {l : Launch} (F : Nat) (x0 : Nat) (x1 : Int32) (S : Mem) (v : Int32) (S1 : Mem) (h : fn_X9_draws F x0 x1 S = some (v, S1)) : Con l yX9_draws cX9_draws 2 (some .int) 0 0 [.ref x0, .int x1] S (rI v) S1 := by
  refine con_of (ι := rI) RX9 false [some (.ref x0), some (.int x1)] rfl (fun h => by cases h) (by decide) (Nat.le_of_ble_eq_true rfl) ⟨rfl, rfl⟩ (fun Γ hl => ?_) h
  unfold fn_X9_draws
  refine s_aload_n 0 dX9_draws_0 rfl rfl ?_
  refine s_aload_n 0 dX9_draws_1 rfl rfl ?_
  refine s_getJ fk_X9_401 rfl dX9_draws_2 (fun v1 => ?_)
  refine s_ldc2 (v := (1103515245 : Int64)) dX9_draws_5 (lw_in 1482 (by decide +kernel) (by decide +kernel)) ?_
  refine s_lmul dX9_draws_8 ?_
  refine s_ldc2 (v := (12345 : Int64)) dX9_draws_9 (lw_in 1483 (by decide +kernel) (by decide +kernel)) ?_
  refine s_ladd dX9_draws_12 ?_
  refine s_ldc2 (v := (2147483648 : Int64)) dX9_draws_13 (lw_in 1484 (by decide +kernel) (by decide +kernel)) ?_
  refine s_lremc dX9_draws_16 (by decide) ?_
  refine s_putJ fk_X9_401 (Or.inl rfl) rfl dX9_draws_17 (fun S2 => ?_)
  refine s_aload_n 0 dX9_draws_20 rfl rfl ?_
  refine s_getJ fk_X9_401 rfl dX9_draws_21 (fun v3 => ?_)
  refine s_ldc2 (v := (65536 : Int64)) dX9_draws_24 (lw_in 1485 (by decide +kernel) (by decide +kernel)) ?_
  refine s_ldivc dX9_draws_27 (by decide) ?_
  refine s_iload_n 1 dX9_draws_28 rfl rfl ?_
  refine s_i2l dX9_draws_29 ?_
  refine s_ltJ (fun v4 => ?_)
  refine s_lrem dX9_draws_30 ?_
  refine s_l2i dX9_draws_31 ?_
  exact s_iret dX9_draws_32
-- X9_lots
def f_X9_lots_200 (F : Nat) (y0 : Int32) (S : Mem) : Option (Int32 × Mem) :=
  some (y0, S)
def f_X9_lots_143 (F : Nat) (k85 : Nat → Int32 → Int32 → Int32 → Int32 → Int32 → Int32 → Int32 → Mem → Option (Int32 × Mem)) (k94 : Nat → Int32 → Int32 → Int32 → Int32 → Int32 → Int32 → Int32 → Int32 → Mem → Option (Int32 × Mem)) (x0 : Nat) (x2 : Int32) (x3 : Int32) (x4 : Int32) (x5 : Int32) (x7 : Int32) (x8 : Int32) (x9 : Int32) (x10 : Int32) (y0 : Int32) (y1 : Int32) (S : Mem) : Option (Int32 × Mem) :=
  lt ((y0 + y1)) fun v1 =>
  (gI S 8 42 x0).bind fun v2 =>
  lt ((mnI x7 v2)) fun v3 =>
  bd (cal S 8 x0 (fn_X9_passes F x0 x10 S)) fun _ S5 =>
  k94 x0 x2 x3 x4 x5 v1 v3 x8 (x9 + (1 : Int32)) S5
def b_X9_lots_94 (F : Nat) (k85 : Nat → Int32 → Int32 → Int32 → Int32 → Int32 → Int32 → Int32 → Mem → Option (Int32 × Mem)) (k94 : Nat → Int32 → Int32 → Int32 → Int32 → Int32 → Int32 → Int32 → Int32 → Mem → Option (Int32 × Mem)) (x0 : Nat) (x2 : Int32) (x3 : Int32) (x4 : Int32) (x5 : Int32) (x6 : Int32) (x7 : Int32) (x8 : Int32) (x9 : Int32) (S : Mem) : Option (Int32 × Mem) :=
  if x3 ≤ x9 then
    (gR S 8 37 x0).bind fun v1 =>
    (gR S 8 36 x0).bind fun v2 =>
    bd ((fn_X9_copies F v1 (0 : Int32) v2 (0 : Int32) S)) fun _ S4 =>
    k85 x0 x2 x3 x4 x5 x6 x7 (x8 + (1 : Int32)) S4
  else
    (gR S 8 10 x0).bind fun v5 =>
    (gA S 10 v5 (3 : Int32)).bind fun v6 =>
    bd (cal S 8 x0 (fn_X9_draws F x0 (v6 + (1 : Int32)) S)) fun v7 S8 =>
    (gR S8 8 36 x0).bind fun v9 =>
    (gA S8 10 v9 (19 : Int32)).bind fun v10 =>
    bd (cal S8 8 x0 (fn_X9_looks F x0 v10 v7 S8)) fun _ S12 =>
    (gI S12 8 42 x0).bind fun v13 =>
    if v13 < x4 then
      f_X9_lots_143 F k85 k94 x0 x2 x3 x4 x5 x7 x8 x9 v7 x6 (0 : Int32) S12
    else
      f_X9_lots_143 F k85 k94 x0 x2 x3 x4 x5 x7 x8 x9 v7 x6 (1 : Int32) S12
def b_X9_lots_85 (F : Nat) (k85 : Nat → Int32 → Int32 → Int32 → Int32 → Int32 → Int32 → Int32 → Mem → Option (Int32 × Mem)) (x0 : Nat) (x2 : Int32) (x3 : Int32) (x4 : Int32) (x5 : Int32) (x6 : Int32) (x7 : Int32) (x8 : Int32) (S : Mem) : Option (Int32 × Mem) :=
  if x2 ≤ x8 then
    if x5 = 0 then
      f_X9_lots_200 F  x6 S
    else
      f_X9_lots_200 F  x7 S
  else
    fix9 (b_X9_lots_94 F k85) F x0 x2 x3 x4 x5 x6 x7 x8 (0 : Int32) S
def f_X9_lots_54 (F : Nat)  (S : Mem) : Option (Int32 × Mem) :=
  some ((-1 : Int32), S)
def fn_X9_lots (F : Nat) (x0 : Nat) (x1 : Int32) (x2 : Int32) (x3 : Int32) (x4 : Int32) (x5 : Int32) (S : Mem) : Option (Int32 × Mem) :=
  (sI S 8 0 x0 (0 : Int32)).bind fun S1 =>
  bd ((fn_X9_within F x1 (0 : Int32) (9999 : Int32) S1)) fun v2 S3 =>
  if v2 = 0 then
    f_X9_lots_54 F   S3
  else
    bd ((fn_X9_within F x2 (1 : Int32) (20 : Int32) S3)) fun v4 S5 =>
    if v4 = 0 then
      f_X9_lots_54 F   S5
    else
      bd ((fn_X9_within F x3 (1 : Int32) (60 : Int32) S5)) fun v6 S7 =>
      if v6 = 0 then
        f_X9_lots_54 F   S7
      else
        bd ((fn_X9_isHigh F x4 S7)) fun v8 S9 =>
        if v8 = 0 then
          f_X9_lots_54 F   S9
        else
          bd ((fn_X9_within F x5 (0 : Int32) (1 : Int32) S9)) fun v10 S11 =>
          if v10 = 0 then
            f_X9_lots_54 F   S11
          else
            (sJ S11 8 50 x0 ((x1).toInt64)).bind fun S12 =>
            (gR S12 8 36 x0).bind fun v13 =>
            (gR S12 8 37 x0).bind fun v14 =>
            bd ((fn_X9_copies F v13 (0 : Int32) v14 (0 : Int32) S12)) fun _ S16 =>
            fix8 (b_X9_lots_85 F) F x0 x2 x3 x4 x5 (0 : Int32) (40 : Int32) (0 : Int32) S16
set_option maxRecDepth 100000 in
theorem t_X9_lots_200 {Γ : Cx} {F : Nat} : ∀ (y0 : Int32) (S : Mem), Sim cX9_lots RX9 6 135 (some .int) false Γ rI (f_X9_lots_200 F y0 S) S 200 [none, none, none, none, none, none, none, none, none, none, none] [.int y0] := by
  intro y0 S
  unfold f_X9_lots_200
  exact s_iret dX9_lots_200
set_option maxRecDepth 100000 in
theorem t_X9_lots_143 {Γ : Cx} {F : Nat} {k85 : Nat → Int32 → Int32 → Int32 → Int32 → Int32 → Int32 → Int32 → Mem → Option (Int32 × Mem)} (hk85 : ∀ (x0 : Nat) (x2 : Int32) (x3 : Int32) (x4 : Int32) (x5 : Int32) (x6 : Int32) (x7 : Int32) (x8 : Int32) (S : Mem), Sim cX9_lots RX9 6 135 (some .int) false Γ rI (k85 x0 x2 x3 x4 x5 x6 x7 x8 S) S 85 [some (.ref x0), none, some (.int x2), some (.int x3), some (.int x4), some (.int x5), some (.int x6), some (.int x7), some (.int x8), none, none] []) {k94 : Nat → Int32 → Int32 → Int32 → Int32 → Int32 → Int32 → Int32 → Int32 → Mem → Option (Int32 × Mem)} (hk94 : ∀ (x0 : Nat) (x2 : Int32) (x3 : Int32) (x4 : Int32) (x5 : Int32) (x6 : Int32) (x7 : Int32) (x8 : Int32) (x9 : Int32) (S : Mem), Sim cX9_lots RX9 6 135 (some .int) false Γ rI (k94 x0 x2 x3 x4 x5 x6 x7 x8 x9 S) S 94 [some (.ref x0), none, some (.int x2), some (.int x3), some (.int x4), some (.int x5), some (.int x6), some (.int x7), some (.int x8), some (.int x9), none] []) : ∀ (x0 : Nat) (x2 : Int32) (x3 : Int32) (x4 : Int32) (x5 : Int32) (x7 : Int32) (x8 : Int32) (x9 : Int32) (x10 : Int32) (y0 : Int32) (y1 : Int32) (S : Mem), Sim cX9_lots RX9 6 135 (some .int) false Γ rI (f_X9_lots_143 F k85 k94 x0 x2 x3 x4 x5 x7 x8 x9 x10 y0 y1 S) S 143 [some (.ref x0), none, some (.int x2), some (.int x3), some (.int x4), some (.int x5), none, some (.int x7), some (.int x8), some (.int x9), some (.int x10)] [.int y1, .int y0] := by
  intro x0 x2 x3 x4 x5 x7 x8 x9 x10 y0 y1 S
  unfold f_X9_lots_143
  refine s_iadd dX9_lots_143 ?_
  refine s_ltI (fun v1 => ?_)
  refine s_istore_6 dX9_lots_144 rfl ?_
  refine s_iload dX9_lots_146 rfl ?_
  refine s_aload_n 0 dX9_lots_148 rfl rfl ?_
  refine s_getI fk_X9_313 rfl dX9_lots_149 (fun v2 => ?_)
  refine s_mmin mm_X9_378 mm_min_s mm_i mm_min_c ⟨by omega, by simp [Value.category] <;> omega⟩ dX9_lots_152 ?_
  refine s_ltI (fun v3 => ?_)
  refine s_istore_7 dX9_lots_155 rfl ?_
  refine s_aload_n 0 dX9_lots_157 rfl rfl ?_
  refine s_iload dX9_lots_158 rfl ?_
  refine s_cV1V mk_X9_346 (by decide) rfl (fun v9 S9 h9 => con_X9_passes F _ _ _ v9 S9 h9) ⟨by omega, by omega⟩ (Nat.le_of_ble_eq_true rfl) dX9_lots_160 (fun _ S5 => ?_)
  refine s_iinc_9 (1 : Int32) dX9_lots_163 (by decide) rfl ?_
  refine s_goto 94 dX9_lots_166 (by decide) ?_
  exact s_less (hk94 x0 x2 x3 x4 x5 v1 v3 x8 (x9 + (1 : Int32)) S5) (And.intro rfl (And.intro rfl (And.intro rfl (And.intro rfl (And.intro rfl (And.intro rfl (And.intro rfl (And.intro rfl (And.intro rfl trivial)))))))))
set_option maxRecDepth 100000 in
theorem t_X9_lots_94 {Γ : Cx} {F : Nat} {k85 : Nat → Int32 → Int32 → Int32 → Int32 → Int32 → Int32 → Int32 → Mem → Option (Int32 × Mem)} (hk85 : ∀ (x0 : Nat) (x2 : Int32) (x3 : Int32) (x4 : Int32) (x5 : Int32) (x6 : Int32) (x7 : Int32) (x8 : Int32) (S : Mem), Sim cX9_lots RX9 6 135 (some .int) false Γ rI (k85 x0 x2 x3 x4 x5 x6 x7 x8 S) S 85 [some (.ref x0), none, some (.int x2), some (.int x3), some (.int x4), some (.int x5), some (.int x6), some (.int x7), some (.int x8), none, none] []) : ∀ (f : Nat) (x0 : Nat) (x2 : Int32) (x3 : Int32) (x4 : Int32) (x5 : Int32) (x6 : Int32) (x7 : Int32) (x8 : Int32) (x9 : Int32) (S : Mem), Sim cX9_lots RX9 6 135 (some .int) false Γ rI (fix9 (b_X9_lots_94 F k85) f x0 x2 x3 x4 x5 x6 x7 x8 x9 S) S 94 [some (.ref x0), none, some (.int x2), some (.int x3), some (.int x4), some (.int x5), some (.int x6), some (.int x7), some (.int x8), some (.int x9), none] [] := by
  refine s_fix9 (fun (x0 : Nat) (x2 : Int32) (x3 : Int32) (x4 : Int32) (x5 : Int32) (x6 : Int32) (x7 : Int32) (x8 : Int32) (x9 : Int32) => [some (.ref x0), none, some (.int x2), some (.int x3), some (.int x4), some (.int x5), some (.int x6), some (.int x7), some (.int x8), some (.int x9), none]) (fun k94 hk94 => ?_)
  intro x0 x2 x3 x4 x5 x6 x7 x8 x9 S
  unfold b_X9_lots_94
  refine s_iload dX9_lots_94 rfl ?_
  refine s_iload_n 3 dX9_lots_96 rfl rfl ?_
  refine s_icmp_ge 169 dX9_lots_97 (by decide) (fun _ => ?_) (fun _ => ?_)
  · refine s_aload_n 0 dX9_lots_169 rfl rfl ?_
    refine s_getR fk_X9_84 rfl dX9_lots_170 (fun v1 => ?_)
    refine s_iconst (0 : Int32) dX9_lots_173 (by decide) ?_
    refine s_aload_n 0 dX9_lots_174 rfl rfl ?_
    refine s_getR fk_X9_81 rfl dX9_lots_175 (fun v2 => ?_)
    refine s_iconst (0 : Int32) dX9_lots_178 (by decide) ?_
    refine s_cS4V mk_X9_381 (fun v9 S9 h9 => con_X9_copies F _ _ _ _ _ v9 S9 h9) ⟨by omega, by omega⟩ (Nat.le_of_ble_eq_true rfl) dX9_lots_179 (fun _ S4 => ?_)
    refine s_iinc_8 (1 : Int32) dX9_lots_182 (by decide) rfl ?_
    refine s_goto 85 dX9_lots_185 (by decide) ?_
    exact s_less (hk85 x0 x2 x3 x4 x5 x6 x7 (x8 + (1 : Int32)) S4) (And.intro rfl (And.intro rfl (And.intro rfl (And.intro rfl (And.intro rfl (And.intro rfl (And.intro rfl (And.intro rfl trivial))))))))
  · refine s_aload_n 0 dX9_lots_100 rfl rfl ?_
    refine s_aload_n 0 dX9_lots_101 rfl rfl ?_
    refine s_getR fk_X9_13 rfl dX9_lots_102 (fun v5 => ?_)
    refine s_iconst (3 : Int32) dX9_lots_105 (by decide) ?_
    refine s_iald dX9_lots_106 (fun v6 => ?_)
    refine s_iconst (1 : Int32) dX9_lots_107 (by decide) ?_
    refine s_iadd dX9_lots_108 ?_
    refine s_cV1I mk_X9_412 (by decide) rfl (fun v9 S9 h9 => con_X9_draws F _ _ _ v9 S9 h9) ⟨by omega, by omega⟩ (Nat.le_of_ble_eq_true rfl) dX9_lots_109 (fun v7 S8 => ?_)
    refine s_istore_10 dX9_lots_112 rfl ?_
    refine s_aload_n 0 dX9_lots_114 rfl rfl ?_
    refine s_aload_n 0 dX9_lots_115 rfl rfl ?_
    refine s_getR fk_X9_81 rfl dX9_lots_116 (fun v9 => ?_)
    refine s_bipush (19 : Int32) dX9_lots_119 (by decide) ?_
    refine s_iald dX9_lots_121 (fun v10 => ?_)
    refine s_iload dX9_lots_122 rfl ?_
    refine s_cV2V mk_X9_325 (by decide) rfl (fun v9 S9 h9 => con_X9_looks F _ _ _ _ v9 S9 h9) ⟨by omega, by omega⟩ (Nat.le_of_ble_eq_true rfl) dX9_lots_124 (fun _ S12 => ?_)
    refine s_iload dX9_lots_127 rfl ?_
    refine s_aload_n 0 dX9_lots_129 rfl rfl ?_
    refine s_getI fk_X9_313 rfl dX9_lots_130 (fun v13 => ?_)
    refine s_iload dX9_lots_133 rfl ?_
    refine s_icmp_lt 142 dX9_lots_135 (by decide) (fun _ => ?_) (fun _ => ?_)
    · refine s_iconst (0 : Int32) dX9_lots_142 (by decide) ?_
      exact s_less (t_X9_lots_143 hk85 hk94 x0 x2 x3 x4 x5 x7 x8 x9 v7 x6 (0 : Int32) S12) (And.intro rfl (And.intro rfl (And.intro rfl (And.intro rfl (And.intro rfl (And.intro rfl (And.intro rfl (And.intro rfl (And.intro rfl trivial)))))))))
    · refine s_iconst (1 : Int32) dX9_lots_138 (by decide) ?_
      refine s_goto 143 dX9_lots_139 (by decide) ?_
      exact s_less (t_X9_lots_143 hk85 hk94 x0 x2 x3 x4 x5 x7 x8 x9 v7 x6 (1 : Int32) S12) (And.intro rfl (And.intro rfl (And.intro rfl (And.intro rfl (And.intro rfl (And.intro rfl (And.intro rfl (And.intro rfl (And.intro rfl trivial)))))))))
set_option maxRecDepth 100000 in
theorem t_X9_lots_85 {Γ : Cx} {F : Nat} : ∀ (f : Nat) (x0 : Nat) (x2 : Int32) (x3 : Int32) (x4 : Int32) (x5 : Int32) (x6 : Int32) (x7 : Int32) (x8 : Int32) (S : Mem), Sim cX9_lots RX9 6 135 (some .int) false Γ rI (fix8 (b_X9_lots_85 F) f x0 x2 x3 x4 x5 x6 x7 x8 S) S 85 [some (.ref x0), none, some (.int x2), some (.int x3), some (.int x4), some (.int x5), some (.int x6), some (.int x7), some (.int x8), none, none] [] := by
  refine s_fix8 (fun (x0 : Nat) (x2 : Int32) (x3 : Int32) (x4 : Int32) (x5 : Int32) (x6 : Int32) (x7 : Int32) (x8 : Int32) => [some (.ref x0), none, some (.int x2), some (.int x3), some (.int x4), some (.int x5), some (.int x6), some (.int x7), some (.int x8), none, none]) (fun k85 hk85 => ?_)
  intro x0 x2 x3 x4 x5 x6 x7 x8 S
  unfold b_X9_lots_85
  refine s_iload dX9_lots_85 rfl ?_
  refine s_iload_n 2 dX9_lots_87 rfl rfl ?_
  refine s_icmp_ge 188 dX9_lots_88 (by decide) (fun _ => ?_) (fun _ => ?_)
  · refine s_iload dX9_lots_188 rfl ?_
    refine s_if_ne 198 dX9_lots_190 (by decide) (fun _ => ?_) (fun _ => ?_)
    · refine s_iload dX9_lots_198 rfl ?_
      exact s_less (t_X9_lots_200  x7 S) trivial
    · refine s_iload dX9_lots_193 rfl ?_
      refine s_goto 200 dX9_lots_195 (by decide) ?_
      exact s_less (t_X9_lots_200  x6 S) trivial
  · refine s_iconst (0 : Int32) dX9_lots_91 (by decide) ?_
    refine s_istore_9 dX9_lots_92 rfl ?_
    exact s_less (t_X9_lots_94 hk85 F x0 x2 x3 x4 x5 x6 x7 x8 (0 : Int32) S) (And.intro rfl (And.intro rfl (And.intro rfl (And.intro rfl (And.intro rfl (And.intro rfl (And.intro rfl (And.intro rfl (And.intro rfl trivial)))))))))
set_option maxRecDepth 100000 in
theorem t_X9_lots_54 {Γ : Cx} {F : Nat} : ∀ (S : Mem), Sim cX9_lots RX9 6 135 (some .int) false Γ rI (f_X9_lots_54 F  S) S 54 [none, none, none, none, none, none, none, none, none, none, none] [] := by
  intro  S
  unfold f_X9_lots_54
  refine s_iconst (-1 : Int32) dX9_lots_54 (by decide) ?_
  exact s_iret dX9_lots_55
set_option maxRecDepth 100000 in
theorem con_X9_lots {l : Launch} (F : Nat) (x0 : Nat) (x1 : Int32) (x2 : Int32) (x3 : Int32) (x4 : Int32) (x5 : Int32) (S : Mem) (v : Int32) (S1 : Mem) (h : fn_X9_lots F x0 x1 x2 x3 x4 x5 S = some (v, S1)) : Con l yX9_lots cX9_lots 11 (some .int) 6 135 [.ref x0, .int x1, .int x2, .int x3, .int x4, .int x5] S (rI v) S1 := by
  refine con_of (ι := rI) RX9 false [some (.ref x0), some (.int x1), some (.int x2), some (.int x3), some (.int x4), some (.int x5), none, none, none, none, none] rfl (fun h => by cases h) (by decide) (Nat.le_of_ble_eq_true rfl) ⟨rfl, rfl⟩ (fun Γ hl => ?_) h
  unfold fn_X9_lots
  refine s_aload_n 0 dX9_lots_0 rfl rfl ?_
  refine s_iconst (0 : Int32) dX9_lots_1 (by decide) ?_
  refine s_putI fk_X9_109 (Or.inl rfl) rfl dX9_lots_2 (fun S1 => ?_)
  refine s_iload_n 1 dX9_lots_5 rfl rfl ?_
  refine s_iconst (0 : Int32) dX9_lots_6 (by decide) ?_
  refine s_sipush (9999 : Int32) dX9_lots_7 (by decide) ?_
  refine s_cS3I mk_X9_235 (fun v9 S9 h9 => con_X9_within F _ _ _ _ v9 S9 h9) ⟨by omega, by omega⟩ (Nat.le_of_ble_eq_true rfl) dX9_lots_10 (fun v2 S3 => ?_)
  refine s_if_eq 54 dX9_lots_13 (by decide) (fun _ => ?_) (fun _ => ?_)
  · exact s_less (t_X9_lots_54   S3) trivial
  · refine s_iload_n 2 dX9_lots_16 rfl rfl ?_
    refine s_iconst (1 : Int32) dX9_lots_17 (by decide) ?_
    refine s_bipush (20 : Int32) dX9_lots_18 (by decide) ?_
    refine s_cS3I mk_X9_235 (fun v9 S9 h9 => con_X9_within F _ _ _ _ v9 S9 h9) ⟨by omega, by omega⟩ (Nat.le_of_ble_eq_true rfl) dX9_lots_20 (fun v4 S5 => ?_)
    refine s_if_eq 54 dX9_lots_23 (by decide) (fun _ => ?_) (fun _ => ?_)
    · exact s_less (t_X9_lots_54   S5) trivial
    · refine s_iload_n 3 dX9_lots_26 rfl rfl ?_
      refine s_iconst (1 : Int32) dX9_lots_27 (by decide) ?_
      refine s_bipush (60 : Int32) dX9_lots_28 (by decide) ?_
      refine s_cS3I mk_X9_235 (fun v9 S9 h9 => con_X9_within F _ _ _ _ v9 S9 h9) ⟨by omega, by omega⟩ (Nat.le_of_ble_eq_true rfl) dX9_lots_30 (fun v6 S7 => ?_)
      refine s_if_eq 54 dX9_lots_33 (by decide) (fun _ => ?_) (fun _ => ?_)
      · exact s_less (t_X9_lots_54   S7) trivial
      · refine s_iload dX9_lots_36 rfl ?_
        refine s_cS1I mk_X9_334 (fun v9 S9 h9 => con_X9_isHigh F _ _ v9 S9 h9) ⟨by omega, by omega⟩ (Nat.le_of_ble_eq_true rfl) dX9_lots_38 (fun v8 S9 => ?_)
        refine s_if_eq 54 dX9_lots_41 (by decide) (fun _ => ?_) (fun _ => ?_)
        · exact s_less (t_X9_lots_54   S9) trivial
        · refine s_iload dX9_lots_44 rfl ?_
          refine s_iconst (0 : Int32) dX9_lots_46 (by decide) ?_
          refine s_iconst (1 : Int32) dX9_lots_47 (by decide) ?_
          refine s_cS3I mk_X9_235 (fun v9 S9 h9 => con_X9_within F _ _ _ _ v9 S9 h9) ⟨by omega, by omega⟩ (Nat.le_of_ble_eq_true rfl) dX9_lots_48 (fun v10 S11 => ?_)
          refine s_if_ne 56 dX9_lots_51 (by decide) (fun _ => ?_) (fun _ => ?_)
          · refine s_aload_n 0 dX9_lots_56 rfl rfl ?_
            refine s_iload_n 1 dX9_lots_57 rfl rfl ?_
            refine s_i2l dX9_lots_58 ?_
            refine s_putJ fk_X9_401 (Or.inl rfl) rfl dX9_lots_59 (fun S12 => ?_)
            refine s_aload_n 0 dX9_lots_62 rfl rfl ?_
            refine s_getR fk_X9_81 rfl dX9_lots_63 (fun v13 => ?_)
            refine s_iconst (0 : Int32) dX9_lots_66 (by decide) ?_
            refine s_aload_n 0 dX9_lots_67 rfl rfl ?_
            refine s_getR fk_X9_84 rfl dX9_lots_68 (fun v14 => ?_)
            refine s_iconst (0 : Int32) dX9_lots_71 (by decide) ?_
            refine s_cS4V mk_X9_381 (fun v9 S9 h9 => con_X9_copies F _ _ _ _ _ v9 S9 h9) ⟨by omega, by omega⟩ (Nat.le_of_ble_eq_true rfl) dX9_lots_72 (fun _ S16 => ?_)
            refine s_iconst (0 : Int32) dX9_lots_75 (by decide) ?_
            refine s_istore_6 dX9_lots_76 rfl ?_
            refine s_bipush (40 : Int32) dX9_lots_78 (by decide) ?_
            refine s_istore_7 dX9_lots_80 rfl ?_
            refine s_iconst (0 : Int32) dX9_lots_82 (by decide) ?_
            refine s_istore_8 dX9_lots_83 rfl ?_
            exact s_less (t_X9_lots_85 F x0 x2 x3 x4 x5 (0 : Int32) (40 : Int32) (0 : Int32) S16) (And.intro rfl (And.intro rfl (And.intro rfl (And.intro rfl (And.intro rfl (And.intro rfl (And.intro rfl (And.intro rfl trivial))))))))
          · exact s_less (t_X9_lots_54   S11) trivial
-- X9_mark
def f_X9_mark_29 (F : Nat) (x0 : Nat) (x1 : Int32) (x2 : Int32) (S : Mem) : Option (Int32 × Mem) :=
  (gR S 8 51 x0).bind fun v1 =>
  (sAZ S v1 x1 (1 : Int32)).bind fun S2 =>
  if x2 = 0 then
    bd (cal S2 8 x0 (fn_X9_lays F x0 (0 : Int32) ((2 : Int32) + x1) S2)) fun _ S4 =>
    (gR S4 8 36 x0).bind fun v5 =>
    (gR S4 8 38 x0).bind fun v6 =>
    bd ((fn_X9_copies F v5 (0 : Int32) v6 ((64 : Int32) * x1) S4)) fun _ S8 =>
    rz (1 : Int32) S8
  else
    bd (cal S2 8 x0 (fn_X9_lays F x0 ((2 : Int32) + x1) (0 : Int32) S2)) fun _ S10 =>
    (gR S10 8 38 x0).bind fun v11 =>
    (gR S10 8 36 x0).bind fun v12 =>
    bd ((fn_X9_copies F v11 ((64 : Int32) * x1) v12 (0 : Int32) S10)) fun _ S14 =>
    rz (1 : Int32) S14
def f_X9_mark_27 (F : Nat)  (S : Mem) : Option (Int32 × Mem) :=
  rz (0 : Int32) S
def fn_X9_mark (F : Nat) (x0 : Nat) (x1 : Int32) (x2 : Int32) (S : Mem) : Option (Int32 × Mem) :=
  (sI S 8 0 x0 (0 : Int32)).bind fun S1 =>
  bd ((fn_X9_within F x1 (0 : Int32) (3 : Int32) S1)) fun v2 S3 =>
  if v2 = 0 then
    f_X9_mark_27 F   S3
  else
    if x2 = 0 then
      f_X9_mark_29 F x0 x1 x2  S3
    else
      (gR S3 8 51 x0).bind fun v4 =>
      (gA S3 12 v4 x1).bind fun v5 =>
      if v5 = 0 then
        f_X9_mark_27 F   S3
      else
        f_X9_mark_29 F x0 x1 x2  S3
set_option maxRecDepth 100000 in
theorem t_X9_mark_29 {Γ : Cx} {F : Nat} : ∀ (x0 : Nat) (x1 : Int32) (x2 : Int32) (S : Mem), Sim cX9_mark RX9 2 47 (some .boolean) false Γ rI (f_X9_mark_29 F x0 x1 x2 S) S 29 [some (.ref x0), some (.int x1), some (.int x2)] [] := by
  intro x0 x1 x2 S
  unfold f_X9_mark_29
  refine s_aload_n 0 dX9_mark_29 rfl rfl ?_
  refine s_getR fk_X9_102 rfl dX9_mark_30 (fun v1 => ?_)
  refine s_iload_n 1 dX9_mark_33 rfl rfl ?_
  refine s_iconst (1 : Int32) dX9_mark_34 (by decide) ?_
  refine s_zast dX9_mark_35 (fun S2 => ?_)
  refine s_iload_n 2 dX9_mark_36 rfl rfl ?_
  refine s_if_eq 66 dX9_mark_37 (by decide) (fun _ => ?_) (fun _ => ?_)
  · refine s_aload_n 0 dX9_mark_66 rfl rfl ?_
    refine s_iconst (0 : Int32) dX9_mark_67 (by decide) ?_
    refine s_iconst (2 : Int32) dX9_mark_68 (by decide) ?_
    refine s_iload_n 1 dX9_mark_69 rfl rfl ?_
    refine s_iadd dX9_mark_70 ?_
    refine s_cV2V mk_X9_281 (by decide) rfl (fun v9 S9 h9 => con_X9_lays F _ _ _ _ v9 S9 h9) ⟨by omega, by omega⟩ (Nat.le_of_ble_eq_true rfl) dX9_mark_71 (fun _ S4 => ?_)
    refine s_aload_n 0 dX9_mark_74 rfl rfl ?_
    refine s_getR fk_X9_81 rfl dX9_mark_75 (fun v5 => ?_)
    refine s_iconst (0 : Int32) dX9_mark_78 (by decide) ?_
    refine s_aload_n 0 dX9_mark_79 rfl rfl ?_
    refine s_getR fk_X9_87 rfl dX9_mark_80 (fun v6 => ?_)
    refine s_bipush (64 : Int32) dX9_mark_83 (by decide) ?_
    refine s_iload_n 1 dX9_mark_85 rfl rfl ?_
    refine s_imul dX9_mark_86 ?_
    refine s_cS4V mk_X9_381 (fun v9 S9 h9 => con_X9_copies F _ _ _ _ _ v9 S9 h9) ⟨by omega, by omega⟩ (Nat.le_of_ble_eq_true rfl) dX9_mark_87 (fun _ S8 => ?_)
    refine s_iconst (1 : Int32) dX9_mark_90 (by decide) ?_
    exact s_zret dX9_mark_91
  · refine s_aload_n 0 dX9_mark_40 rfl rfl ?_
    refine s_iconst (2 : Int32) dX9_mark_41 (by decide) ?_
    refine s_iload_n 1 dX9_mark_42 rfl rfl ?_
    refine s_iadd dX9_mark_43 ?_
    refine s_iconst (0 : Int32) dX9_mark_44 (by decide) ?_
    refine s_cV2V mk_X9_281 (by decide) rfl (fun v9 S9 h9 => con_X9_lays F _ _ _ _ v9 S9 h9) ⟨by omega, by omega⟩ (Nat.le_of_ble_eq_true rfl) dX9_mark_45 (fun _ S10 => ?_)
    refine s_aload_n 0 dX9_mark_48 rfl rfl ?_
    refine s_getR fk_X9_87 rfl dX9_mark_49 (fun v11 => ?_)
    refine s_bipush (64 : Int32) dX9_mark_52 (by decide) ?_
    refine s_iload_n 1 dX9_mark_54 rfl rfl ?_
    refine s_imul dX9_mark_55 ?_
    refine s_aload_n 0 dX9_mark_56 rfl rfl ?_
    refine s_getR fk_X9_81 rfl dX9_mark_57 (fun v12 => ?_)
    refine s_iconst (0 : Int32) dX9_mark_60 (by decide) ?_
    refine s_cS4V mk_X9_381 (fun v9 S9 h9 => con_X9_copies F _ _ _ _ _ v9 S9 h9) ⟨by omega, by omega⟩ (Nat.le_of_ble_eq_true rfl) dX9_mark_61 (fun _ S14 => ?_)
    refine s_iconst (1 : Int32) dX9_mark_64 (by decide) ?_
    exact s_zret dX9_mark_65
set_option maxRecDepth 100000 in
theorem t_X9_mark_27 {Γ : Cx} {F : Nat} : ∀ (S : Mem), Sim cX9_mark RX9 2 47 (some .boolean) false Γ rI (f_X9_mark_27 F  S) S 27 [none, none, none] [] := by
  intro  S
  unfold f_X9_mark_27
  refine s_iconst (0 : Int32) dX9_mark_27 (by decide) ?_
  exact s_zret dX9_mark_28
set_option maxRecDepth 100000 in
theorem con_X9_mark {l : Launch} (F : Nat) (x0 : Nat) (x1 : Int32) (x2 : Int32) (S : Mem) (v : Int32) (S1 : Mem) (h : fn_X9_mark F x0 x1 x2 S = some (v, S1)) : Con l yX9_mark cX9_mark 3 (some .boolean) 2 47 [.ref x0, .int x1, .int x2] S (rI v) S1 := by
  refine con_of (ι := rI) RX9 false [some (.ref x0), some (.int x1), some (.int x2)] rfl (fun h => by cases h) (by decide) (Nat.le_of_ble_eq_true rfl) ⟨rfl, rfl⟩ (fun Γ hl => ?_) h
  unfold fn_X9_mark
  refine s_aload_n 0 dX9_mark_0 rfl rfl ?_
  refine s_iconst (0 : Int32) dX9_mark_1 (by decide) ?_
  refine s_putI fk_X9_109 (Or.inl rfl) rfl dX9_mark_2 (fun S1 => ?_)
  refine s_iload_n 1 dX9_mark_5 rfl rfl ?_
  refine s_iconst (0 : Int32) dX9_mark_6 (by decide) ?_
  refine s_iconst (3 : Int32) dX9_mark_7 (by decide) ?_
  refine s_cS3I mk_X9_235 (fun v9 S9 h9 => con_X9_within F _ _ _ _ v9 S9 h9) ⟨by omega, by omega⟩ (Nat.le_of_ble_eq_true rfl) dX9_mark_8 (fun v2 S3 => ?_)
  refine s_if_eq 27 dX9_mark_11 (by decide) (fun _ => ?_) (fun _ => ?_)
  · exact s_less (t_X9_mark_27   S3) trivial
  · refine s_iload_n 2 dX9_mark_14 rfl rfl ?_
    refine s_if_eq 29 dX9_mark_15 (by decide) (fun _ => ?_) (fun _ => ?_)
    · exact s_less (t_X9_mark_29 x0 x1 x2  S3) (And.intro rfl (And.intro rfl (And.intro rfl trivial)))
    · refine s_aload_n 0 dX9_mark_18 rfl rfl ?_
      refine s_getR fk_X9_102 rfl dX9_mark_19 (fun v4 => ?_)
      refine s_iload_n 1 dX9_mark_22 rfl rfl ?_
      refine s_zald dX9_mark_23 (fun v5 => ?_)
      refine s_if_ne 29 dX9_mark_24 (by decide) (fun _ => ?_) (fun _ => ?_)
      · exact s_less (t_X9_mark_29 x0 x1 x2  S3) (And.intro rfl (And.intro rfl (And.intro rfl trivial)))
      · exact s_less (t_X9_mark_27   S3) trivial
-- X9_count
def f_X9_count_99 (F : Nat) (y0 : Int32) (S : Mem) : Option (Int32 × Mem) :=
  some (y0, S)
def f_X9_count_42 (F : Nat) (y0 : Int32) (S : Mem) : Option (Int32 × Mem) :=
  some (y0, S)
def fn_X9_count (F : Nat) (x0 : Nat) (x1 : Int32) (S : Mem) : Option (Int32 × Mem) :=
  (sI S 8 0 x0 (0 : Int32)).bind fun S1 =>
  bd ((fn_X9_within F x1 (0 : Int32) (8 : Int32) S1)) fun v2 S3 =>
  if v2 = 0 then
    some ((-1 : Int32), S3)
  else
    if (2 : Int32) ≤ x1 then
      if (6 : Int32) ≤ x1 then
        if x1 = (6 : Int32) then
          (gR S3 8 36 x0).bind fun v7 =>
          (gA S3 10 v7 (18 : Int32)).bind fun v8 =>
          bd ((fn_X9_bits F v8 S3)) fun v9 S10 =>
          f_X9_count_99 F  v9 S10
        else
          if x1 = (7 : Int32) then
            (gR S3 8 36 x0).bind fun v5 =>
            (gA S3 10 v5 (20 : Int32)).bind fun v6 =>
            f_X9_count_99 F  v6 S3
          else
            (gI S3 8 1 x0).bind fun v4 =>
            f_X9_count_99 F  v4 S3
      else
        (gR S3 8 10 x0).bind fun v11 =>
        (gA S3 10 v11 (x1 - (2 : Int32))).bind fun v12 =>
        f_X9_count_99 F  v12 S3
    else
      if x1 = 0 then
        (gR S3 8 10 x0).bind fun v15 =>
        (gA S3 10 v15 (4 : Int32)).bind fun v16 =>
        f_X9_count_42 F  v16 S3
      else
        (gR S3 8 36 x0).bind fun v13 =>
        (gA S3 10 v13 (19 : Int32)).bind fun v14 =>
        f_X9_count_42 F  v14 S3
set_option maxRecDepth 100000 in
theorem t_X9_count_99 {Γ : Cx} {F : Nat} : ∀ (y0 : Int32) (S : Mem), Sim cX9_count RX9 1 22 (some .int) false Γ rI (f_X9_count_99 F y0 S) S 99 [none, none] [.int y0] := by
  intro y0 S
  unfold f_X9_count_99
  exact s_iret dX9_count_99
set_option maxRecDepth 100000 in
theorem t_X9_count_42 {Γ : Cx} {F : Nat} : ∀ (y0 : Int32) (S : Mem), Sim cX9_count RX9 1 22 (some .int) false Γ rI (f_X9_count_42 F y0 S) S 42 [none, none] [.int y0] := by
  intro y0 S
  unfold f_X9_count_42
  exact s_iret dX9_count_42
set_option maxRecDepth 100000 in
theorem con_X9_count {l : Launch} (F : Nat) (x0 : Nat) (x1 : Int32) (S : Mem) (v : Int32) (S1 : Mem) (h : fn_X9_count F x0 x1 S = some (v, S1)) : Con l yX9_count cX9_count 2 (some .int) 1 22 [.ref x0, .int x1] S (rI v) S1 := by
  refine con_of (ι := rI) RX9 false [some (.ref x0), some (.int x1)] rfl (fun h => by cases h) (by decide) (Nat.le_of_ble_eq_true rfl) ⟨rfl, rfl⟩ (fun Γ hl => ?_) h
  unfold fn_X9_count
  refine s_aload_n 0 dX9_count_0 rfl rfl ?_
  refine s_iconst (0 : Int32) dX9_count_1 (by decide) ?_
  refine s_putI fk_X9_109 (Or.inl rfl) rfl dX9_count_2 (fun S1 => ?_)
  refine s_iload_n 1 dX9_count_5 rfl rfl ?_
  refine s_iconst (0 : Int32) dX9_count_6 (by decide) ?_
  refine s_bipush (8 : Int32) dX9_count_7 (by decide) ?_
  refine s_cS3I mk_X9_235 (fun v9 S9 h9 => con_X9_within F _ _ _ _ v9 S9 h9) ⟨by omega, by omega⟩ (Nat.le_of_ble_eq_true rfl) dX9_count_9 (fun v2 S3 => ?_)
  refine s_if_ne 17 dX9_count_12 (by decide) (fun _ => ?_) (fun _ => ?_)
  · refine s_iload_n 1 dX9_count_17 rfl rfl ?_
    refine s_iconst (2 : Int32) dX9_count_18 (by decide) ?_
    refine s_icmp_ge 43 dX9_count_19 (by decide) (fun _ => ?_) (fun _ => ?_)
    · refine s_iload_n 1 dX9_count_43 rfl rfl ?_
      refine s_bipush (6 : Int32) dX9_count_44 (by decide) ?_
      refine s_icmp_ge 60 dX9_count_46 (by decide) (fun _ => ?_) (fun _ => ?_)
      · refine s_iload_n 1 dX9_count_60 rfl rfl ?_
        refine s_bipush (6 : Int32) dX9_count_61 (by decide) ?_
        refine s_icmp_ne 79 dX9_count_63 (by decide) (fun _ => ?_) (fun _ => ?_)
        · refine s_iload_n 1 dX9_count_79 rfl rfl ?_
          refine s_bipush (7 : Int32) dX9_count_80 (by decide) ?_
          refine s_icmp_ne 95 dX9_count_82 (by decide) (fun _ => ?_) (fun _ => ?_)
          · refine s_aload_n 0 dX9_count_95 rfl rfl ?_
            refine s_getI fk_X9_115 rfl dX9_count_96 (fun v4 => ?_)
            exact s_less (t_X9_count_99  v4 S3) trivial
          · refine s_aload_n 0 dX9_count_85 rfl rfl ?_
            refine s_getR fk_X9_81 rfl dX9_count_86 (fun v5 => ?_)
            refine s_bipush (20 : Int32) dX9_count_89 (by decide) ?_
            refine s_iald dX9_count_91 (fun v6 => ?_)
            refine s_goto 99 dX9_count_92 (by decide) ?_
            exact s_less (t_X9_count_99  v6 S3) trivial
        · refine s_aload_n 0 dX9_count_66 rfl rfl ?_
          refine s_getR fk_X9_81 rfl dX9_count_67 (fun v7 => ?_)
          refine s_bipush (18 : Int32) dX9_count_70 (by decide) ?_
          refine s_iald dX9_count_72 (fun v8 => ?_)
          refine s_cS1I mk_X9_388 (fun v9 S9 h9 => con_X9_bits F _ _ v9 S9 h9) ⟨by omega, by omega⟩ (Nat.le_of_ble_eq_true rfl) dX9_count_73 (fun v9 S10 => ?_)
          refine s_goto 99 dX9_count_76 (by decide) ?_
          exact s_less (t_X9_count_99  v9 S10) trivial
      · refine s_aload_n 0 dX9_count_49 rfl rfl ?_
        refine s_getR fk_X9_13 rfl dX9_count_50 (fun v11 => ?_)
        refine s_iload_n 1 dX9_count_53 rfl rfl ?_
        refine s_iconst (2 : Int32) dX9_count_54 (by decide) ?_
        refine s_isub dX9_count_55 ?_
        refine s_iald dX9_count_56 (fun v12 => ?_)
        refine s_goto 99 dX9_count_57 (by decide) ?_
        exact s_less (t_X9_count_99  v12 S3) trivial
    · refine s_iload_n 1 dX9_count_22 rfl rfl ?_
      refine s_if_ne 35 dX9_count_23 (by decide) (fun _ => ?_) (fun _ => ?_)
      · refine s_aload_n 0 dX9_count_35 rfl rfl ?_
        refine s_getR fk_X9_81 rfl dX9_count_36 (fun v13 => ?_)
        refine s_bipush (19 : Int32) dX9_count_39 (by decide) ?_
        refine s_iald dX9_count_41 (fun v14 => ?_)
        exact s_less (t_X9_count_42  v14 S3) trivial
      · refine s_aload_n 0 dX9_count_26 rfl rfl ?_
        refine s_getR fk_X9_13 rfl dX9_count_27 (fun v15 => ?_)
        refine s_iconst (4 : Int32) dX9_count_30 (by decide) ?_
        refine s_iald dX9_count_31 (fun v16 => ?_)
        refine s_goto 42 dX9_count_32 (by decide) ?_
        exact s_less (t_X9_count_42  v16 S3) trivial
  · refine s_iconst (-1 : Int32) dX9_count_15 (by decide) ?_
    exact s_iret dX9_count_16
