-- X4_seek
def b_X4_seek_137 (F : Nat) (k137 : Nat → Int32 → Mem → Option (Unit × Mem)) (x0 : Nat) (x6 : Int32) (S : Mem) : Option (Unit × Mem) :=
  if x6 < 0 then
    some ((), S)
  else
    (sI S 4 14 x0 x6).bind fun S1 =>
    bd (cal S1 4 x0 (fn_X4_reckonReach F x0 S1)) fun _ S3 =>
    bd (cal S3 4 x0 (fn_X4_choose F 8 x0 (0 : Int32) (0 : Int32) (0 : Int32) (0 : Int32) (0 : Int32) (0 : Int32) (0 : Int64) S3)) fun _ S5 =>
    k137 x0 (x6 + (-1 : Int32)) S5
def b_X4_seek_105 (F : Nat) (k105 : Nat → Nat → Int32 → Int32 → Mem → Option (Unit × Mem)) (x0 : Nat) (x1 : Nat) (x5 : Int32) (x6 : Int32) (S : Mem) : Option (Unit × Mem) :=
  (gI S 4 7 x0).bind fun v1 =>
  if v1 ≤ x6 then
    bd (cal S 4 x0 (fn_X4_reckonGap F x0 S)) fun _ S3 =>
    fix2 (b_X4_seek_137 F) F x0 (40 : Int32) S3
  else
    bd (cal S 4 x0 (fn_X4_spread F x0 x1 x6 x5 S)) fun _ S5 =>
    k105 x0 x1 x5 (x6 + (1 : Int32)) S5
def b_X4_seek_67 (F : Nat) (k67 : Nat → Nat → Nat → Int32 → Int32 → Mem → Option (Unit × Mem)) (x0 : Nat) (x1 : Nat) (x2 : Nat) (x5 : Int32) (x6 : Int32) (S : Mem) : Option (Unit × Mem) :=
  if (40 : Int32) < x6 then
    fix4 (b_X4_seek_105 F) F x0 x1 x5 (0 : Int32) S
  else
    (gR S 4 0 x0).bind fun v1 =>
    (gR S 2 0 x1).bind fun v2 =>
    (gI S 2 1 x1).bind fun v3 =>
    bd (cal S 0 x2 (fn_X0_windAt F x2 v2 x6 v3 (0 : Int32) S)) fun v4 S5 =>
    (sA S5 v1 x6 v4).bind fun S6 =>
    k67 x0 x1 x2 x5 (x6 + (1 : Int32)) S6
def fn_X4_seek (F : Nat) (x0 : Nat) (x1 : Nat) (x2 : Nat) (x3 : Int32) (x4 : Int32) (x5 : Int32) (S : Mem) : Option (Unit × Mem) :=
  (gR S 2 0 x1).bind fun v1 =>
  (gI S 5 0 v1).bind fun v2 =>
  (sI S 4 7 x0 (mnI v2 (6 : Int32))).bind fun S3 =>
  (gR S3 2 0 x1).bind fun v4 =>
  (gI S3 5 6 v4).bind fun v5 =>
  (sI S3 4 8 x0 v5).bind fun S6 =>
  (gR S6 2 4 x1).bind fun v7 =>
  (sR S6 4 5 x0 v7).bind fun S8 =>
  (gR S8 2 0 x1).bind fun v9 =>
  (gR S8 5 2 v9).bind fun v10 =>
  (sR S8 4 6 x0 v10).bind fun S11 =>
  (sI S11 4 9 x0 x3).bind fun S12 =>
  (sI S12 4 10 x0 x4).bind fun S13 =>
  (sJ S13 4 15 x0 (9223372036854775807 : Int64)).bind fun S14 =>
  fix5 (b_X4_seek_67 F) F x0 x1 x2 x5 (0 : Int32) S14
set_option maxRecDepth 100000 in
theorem t_X4_seek_137 {Γ : Cx} {F : Nat} : ∀ (f : Nat) (x0 : Nat) (x6 : Int32) (S : Mem), Sim cX4_seek RX4 25 655 none false Γ rV (fix2 (b_X4_seek_137 F) f x0 x6 S) S 137 [some (.ref x0), none, none, none, none, none, some (.int x6)] [] := by
  refine s_fix2 (fun (x0 : Nat) (x6 : Int32) => [some (.ref x0), none, none, none, none, none, some (.int x6)]) (fun k137 hk137 => ?_)
  intro x0 x6 S
  unfold b_X4_seek_137
  refine s_iload dX4_seek_137 rfl ?_
  refine s_if_lt 169 dX4_seek_139 (by decide) (fun _ => ?_) (fun _ => ?_)
  · exact s_vret dX4_seek_169
  · refine s_aload_n 0 dX4_seek_142 rfl rfl ?_
    refine s_iload dX4_seek_143 rfl ?_
    refine s_putI fk_X4_106 (Or.inl rfl) rfl dX4_seek_145 (fun S1 => ?_)
    refine s_aload_n 0 dX4_seek_148 rfl rfl ?_
    refine s_cV0V mk_X4_109 (by decide) rfl (fun v9 S9 h9 => con_X4_reckonReach F _ _ v9 S9 h9) ⟨by omega, by omega⟩ (Nat.le_of_ble_eq_true rfl) dX4_seek_149 (fun _ S3 => ?_)
    refine s_aload_n 0 dX4_seek_152 rfl rfl ?_
    refine s_iconst (0 : Int32) dX4_seek_153 (by decide) ?_
    refine s_iconst (0 : Int32) dX4_seek_154 (by decide) ?_
    refine s_iconst (0 : Int32) dX4_seek_155 (by decide) ?_
    refine s_iconst (0 : Int32) dX4_seek_156 (by decide) ?_
    refine s_iconst (0 : Int32) dX4_seek_157 (by decide) ?_
    refine s_iconst (0 : Int32) dX4_seek_158 (by decide) ?_
    refine s_lconst (0 : Int64) dX4_seek_159 (by decide) ?_
    refine s_cV7V mk_X4_112 (by decide) rfl (fun v9 S9 h9 => con_X4_choose F 8 _ _ _ _ _ _ _ _ _ v9 S9 h9) ⟨by omega, by omega⟩ (Nat.le_of_ble_eq_true rfl) dX4_seek_160 (fun _ S5 => ?_)
    refine s_iinc_6 (-1 : Int32) dX4_seek_163 (by decide) rfl ?_
    refine s_goto 137 dX4_seek_166 (by decide) ?_
    exact s_less (hk137 x0 (x6 + (-1 : Int32)) S5) (And.intro rfl (And.intro rfl trivial))
set_option maxRecDepth 100000 in
theorem t_X4_seek_105 {Γ : Cx} {F : Nat} : ∀ (f : Nat) (x0 : Nat) (x1 : Nat) (x5 : Int32) (x6 : Int32) (S : Mem), Sim cX4_seek RX4 25 655 none false Γ rV (fix4 (b_X4_seek_105 F) f x0 x1 x5 x6 S) S 105 [some (.ref x0), some (.ref x1), none, none, none, some (.int x5), some (.int x6)] [] := by
  refine s_fix4 (fun (x0 : Nat) (x1 : Nat) (x5 : Int32) (x6 : Int32) => [some (.ref x0), some (.ref x1), none, none, none, some (.int x5), some (.int x6)]) (fun k105 hk105 => ?_)
  intro x0 x1 x5 x6 S
  unfold b_X4_seek_105
  refine s_iload dX4_seek_105 rfl ?_
  refine s_aload_n 0 dX4_seek_107 rfl rfl ?_
  refine s_getI fk_X4_58 rfl dX4_seek_108 (fun v1 => ?_)
  refine s_icmp_ge 129 dX4_seek_111 (by decide) (fun _ => ?_) (fun _ => ?_)
  · refine s_aload_n 0 dX4_seek_129 rfl rfl ?_
    refine s_cV0V mk_X4_103 (by decide) rfl (fun v9 S9 h9 => con_X4_reckonGap F _ _ v9 S9 h9) ⟨by omega, by omega⟩ (Nat.le_of_ble_eq_true rfl) dX4_seek_130 (fun _ S3 => ?_)
    refine s_bipush (40 : Int32) dX4_seek_133 (by decide) ?_
    refine s_istore_6 dX4_seek_135 rfl ?_
    exact s_less (t_X4_seek_137 F x0 (40 : Int32) S3) (And.intro rfl (And.intro rfl trivial))
  · refine s_aload_n 0 dX4_seek_114 rfl rfl ?_
    refine s_aload_n 1 dX4_seek_115 rfl rfl ?_
    refine s_iload dX4_seek_116 rfl ?_
    refine s_iload dX4_seek_118 rfl ?_
    refine s_cV3V mk_X4_99 (by decide) rfl (fun v9 S9 h9 => con_X4_spread F _ _ _ _ _ v9 S9 h9) ⟨by omega, by omega⟩ (Nat.le_of_ble_eq_true rfl) dX4_seek_120 (fun _ S5 => ?_)
    refine s_iinc_6 (1 : Int32) dX4_seek_123 (by decide) rfl ?_
    refine s_goto 105 dX4_seek_126 (by decide) ?_
    exact s_less (hk105 x0 x1 x5 (x6 + (1 : Int32)) S5) (And.intro rfl (And.intro rfl (And.intro rfl (And.intro rfl trivial))))
set_option maxRecDepth 100000 in
theorem t_X4_seek_67 {Γ : Cx} {F : Nat} : ∀ (f : Nat) (x0 : Nat) (x1 : Nat) (x2 : Nat) (x5 : Int32) (x6 : Int32) (S : Mem), Sim cX4_seek RX4 25 655 none false Γ rV (fix5 (b_X4_seek_67 F) f x0 x1 x2 x5 x6 S) S 67 [some (.ref x0), some (.ref x1), some (.ref x2), none, none, some (.int x5), some (.int x6)] [] := by
  refine s_fix5 (fun (x0 : Nat) (x1 : Nat) (x2 : Nat) (x5 : Int32) (x6 : Int32) => [some (.ref x0), some (.ref x1), some (.ref x2), none, none, some (.int x5), some (.int x6)]) (fun k67 hk67 => ?_)
  intro x0 x1 x2 x5 x6 S
  unfold b_X4_seek_67
  refine s_iload dX4_seek_67 rfl ?_
  refine s_bipush (40 : Int32) dX4_seek_69 (by decide) ?_
  refine s_icmp_gt 102 dX4_seek_71 (by decide) (fun _ => ?_) (fun _ => ?_)
  · refine s_iconst (0 : Int32) dX4_seek_102 (by decide) ?_
    refine s_istore_6 dX4_seek_103 rfl ?_
    exact s_less (t_X4_seek_105 F x0 x1 x5 (0 : Int32) S) (And.intro rfl (And.intro rfl (And.intro rfl (And.intro rfl trivial))))
  · refine s_aload_n 0 dX4_seek_74 rfl rfl ?_
    refine s_getR fk_X4_11 rfl dX4_seek_75 (fun v1 => ?_)
    refine s_iload dX4_seek_78 rfl ?_
    refine s_aload_n 2 dX4_seek_80 rfl rfl ?_
    refine s_aload_n 1 dX4_seek_81 rfl rfl ?_
    refine s_getR fk_X4_63 rfl dX4_seek_82 (fun v2 => ?_)
    refine s_iload dX4_seek_85 rfl ?_
    refine s_aload_n 1 dX4_seek_87 rfl rfl ?_
    refine s_getI fk_X4_90 rfl dX4_seek_88 (fun v3 => ?_)
    refine s_iconst (0 : Int32) dX4_seek_91 (by decide) ?_
    refine s_cV4I mk_X4_93 (by decide) rfl (fun v9 S9 h9 => con_X0_windAt F _ _ _ _ _ _ v9 S9 h9) ⟨by omega, by omega⟩ (Nat.le_of_ble_eq_true rfl) dX4_seek_92 (fun v4 S5 => ?_)
    refine s_iast dX4_seek_95 (fun S6 => ?_)
    refine s_iinc_6 (1 : Int32) dX4_seek_96 (by decide) rfl ?_
    refine s_goto 67 dX4_seek_99 (by decide) ?_
    exact s_less (hk67 x0 x1 x2 x5 (x6 + (1 : Int32)) S6) (And.intro rfl (And.intro rfl (And.intro rfl (And.intro rfl (And.intro rfl trivial)))))
set_option maxRecDepth 100000 in
theorem con_X4_seek {l : Launch} (F : Nat) (x0 : Nat) (x1 : Nat) (x2 : Nat) (x3 : Int32) (x4 : Int32) (x5 : Int32) (S : Mem) (v : Unit) (S1 : Mem) (h : fn_X4_seek F x0 x1 x2 x3 x4 x5 S = some (v, S1)) : Con l yX4_seek cX4_seek 7 none 25 655 [.ref x0, .ref x1, .ref x2, .int x3, .int x4, .int x5] S (rV v) S1 := by
  refine con_of (ι := rV) RX4 false [some (.ref x0), some (.ref x1), some (.ref x2), some (.int x3), some (.int x4), some (.int x5), none] rfl (fun h => by cases h) (by decide) (Nat.le_of_ble_eq_true rfl) ⟨rfl, rfl⟩ (fun Γ hl => ?_) h
  unfold fn_X4_seek
  refine s_aload_n 0 dX4_seek_0 rfl rfl ?_
  refine s_aload_n 1 dX4_seek_1 rfl rfl ?_
  refine s_getR fk_X4_63 rfl dX4_seek_2 (fun v1 => ?_)
  refine s_getI fk_X4_69 rfl dX4_seek_5 (fun v2 => ?_)
  refine s_bipush (6 : Int32) dX4_seek_8 (by decide) ?_
  refine s_mmin mm_X4_72 mm_min_s mm_i mm_min_c ⟨by omega, by simp [Value.category] <;> omega⟩ dX4_seek_10 ?_
  refine s_putI fk_X4_58 (Or.inl rfl) rfl dX4_seek_13 (fun S3 => ?_)
  refine s_aload_n 0 dX4_seek_16 rfl rfl ?_
  refine s_aload_n 1 dX4_seek_17 rfl rfl ?_
  refine s_getR fk_X4_63 rfl dX4_seek_18 (fun v4 => ?_)
  refine s_getI fk_X4_78 rfl dX4_seek_21 (fun v5 => ?_)
  refine s_putI fk_X4_81 (Or.inl rfl) rfl dX4_seek_24 (fun S6 => ?_)
  refine s_aload_n 0 dX4_seek_27 rfl rfl ?_
  refine s_aload_n 1 dX4_seek_28 rfl rfl ?_
  refine s_getR fk_X4_82 rfl dX4_seek_29 (fun v7 => ?_)
  refine s_putR fk_X4_27 (Or.inl rfl) rfl dX4_seek_32 (fun S8 => ?_)
  refine s_aload_n 0 dX4_seek_35 rfl rfl ?_
  refine s_aload_n 1 dX4_seek_36 rfl rfl ?_
  refine s_getR fk_X4_63 rfl dX4_seek_37 (fun v9 => ?_)
  refine s_getR fk_X4_83 rfl dX4_seek_40 (fun v10 => ?_)
  refine s_putR fk_X4_30 (Or.inl rfl) rfl dX4_seek_43 (fun S11 => ?_)
  refine s_aload_n 0 dX4_seek_46 rfl rfl ?_
  refine s_iload_n 3 dX4_seek_47 rfl rfl ?_
  refine s_putI fk_X4_84 (Or.inl rfl) rfl dX4_seek_48 (fun S12 => ?_)
  refine s_aload_n 0 dX4_seek_51 rfl rfl ?_
  refine s_iload dX4_seek_52 rfl ?_
  refine s_putI fk_X4_87 (Or.inl rfl) rfl dX4_seek_54 (fun S13 => ?_)
  refine s_aload_n 0 dX4_seek_57 rfl rfl ?_
  refine s_ldc2 (v := (9223372036854775807 : Int64)) dX4_seek_58 (lw_in 777 (by decide +kernel) (by decide +kernel)) ?_
  refine s_putJ fk_X4_48 (Or.inl rfl) rfl dX4_seek_61 (fun S14 => ?_)
  refine s_iconst (0 : Int32) dX4_seek_64 (by decide) ?_
  refine s_istore_6 dX4_seek_65 rfl ?_
  exact s_less (t_X4_seek_67 F x0 x1 x2 x5 (0 : Int32) S14) (And.intro rfl (And.intro rfl (And.intro rfl (And.intro rfl (And.intro rfl trivial)))))
-- X4_seekNearest
def fn_X4_seekNearest (F : Nat) (x0 : Nat) (x1 : Nat) (x2 : Nat) (x3 : Int32) (x4 : Int32) (S : Mem) : Option (Unit × Mem) :=
  (sZ S 4 12 x0 (1 : Int32)).bind fun S1 =>
  (sI S1 4 13 x0 (2147483647 : Int32)).bind fun S2 =>
  bd (cal S2 4 x0 (fn_X4_seek F x0 x1 x2 x3 x4 (2 : Int32) S2)) fun _ S4 =>
  some ((), S4)
set_option maxRecDepth 100000 in
theorem con_X4_seekNearest {l : Launch} (F : Nat) (x0 : Nat) (x1 : Nat) (x2 : Nat) (x3 : Int32) (x4 : Int32) (S : Mem) (v : Unit) (S1 : Mem) (h : fn_X4_seekNearest F x0 x1 x2 x3 x4 S = some (v, S1)) : Con l yX4_seekNearest cX4_seekNearest 5 none 26 681 [.ref x0, .ref x1, .ref x2, .int x3, .int x4] S (rV v) S1 := by
  refine con_of (ι := rV) RX4 false [some (.ref x0), some (.ref x1), some (.ref x2), some (.int x3), some (.int x4)] rfl (fun h => by cases h) (by decide) (Nat.le_of_ble_eq_true rfl) ⟨rfl, rfl⟩ (fun Γ hl => ?_) h
  unfold fn_X4_seekNearest
  refine s_aload_n 0 dX4_seekNearest_0 rfl rfl ?_
  refine s_iconst (1 : Int32) dX4_seekNearest_1 (by decide) ?_
  refine s_putZ fk_X4_33 (Or.inl rfl) rfl dX4_seekNearest_2 (fun S1 => ?_)
  refine s_aload_n 0 dX4_seekNearest_5 rfl rfl ?_
  refine s_ldc (v := (2147483647 : Int32)) dX4_seekNearest_6 (lw_in 771 (by decide +kernel) (by decide +kernel)) ?_
  refine s_putI fk_X4_40 (Or.inl rfl) rfl dX4_seekNearest_8 (fun S2 => ?_)
  refine s_aload_n 0 dX4_seekNearest_11 rfl rfl ?_
  refine s_aload_n 1 dX4_seekNearest_12 rfl rfl ?_
  refine s_aload_n 2 dX4_seekNearest_13 rfl rfl ?_
  refine s_iload_n 3 dX4_seekNearest_14 rfl rfl ?_
  refine s_iload dX4_seekNearest_15 rfl ?_
  refine s_iconst (2 : Int32) dX4_seekNearest_17 (by decide) ?_
  refine s_cV5V mk_X4_44 (by decide) rfl (fun v9 S9 h9 => con_X4_seek F _ _ _ _ _ _ _ v9 S9 h9) ⟨by omega, by omega⟩ (Nat.le_of_ble_eq_true rfl) dX4_seekNearest_18 (fun _ S4 => ?_)
  exact s_vret dX4_seekNearest_21
-- X4_seekFewest
def f_X4_seekFewest_38 (F : Nat) (y0 : Int32) (S : Mem) : Option (Int32 × Mem) :=
  rz y0 S
def fn_X4_seekFewest (F : Nat) (x0 : Nat) (x1 : Nat) (x2 : Nat) (x3 : Int32) (x4 : Int32) (x5 : Int32) (x6 : Int32) (S : Mem) : Option (Int32 × Mem) :=
  (sZ S 4 12 x0 (0 : Int32)).bind fun S1 =>
  (sI S1 4 13 x0 x5).bind fun S2 =>
  bd (cal S2 4 x0 (fn_X4_seek F x0 x1 x2 x3 x4 x6 S2)) fun _ S4 =>
  (gJ S4 4 15 x0).bind fun v5 =>
  if (lg_cmp v5 (9223372036854775807 : Int64)) = 0 then
    f_X4_seekFewest_38 F  (0 : Int32) S4
  else
    f_X4_seekFewest_38 F  (1 : Int32) S4
set_option maxRecDepth 100000 in
theorem t_X4_seekFewest_38 {Γ : Cx} {F : Nat} : ∀ (y0 : Int32) (S : Mem), Sim cX4_seekFewest RX4 26 681 (some .boolean) false Γ rI (f_X4_seekFewest_38 F y0 S) S 38 [none, none, none, none, none, none, none] [.int y0] := by
  intro y0 S
  unfold f_X4_seekFewest_38
  exact s_zret dX4_seekFewest_38
set_option maxRecDepth 100000 in
theorem con_X4_seekFewest {l : Launch} (F : Nat) (x0 : Nat) (x1 : Nat) (x2 : Nat) (x3 : Int32) (x4 : Int32) (x5 : Int32) (x6 : Int32) (S : Mem) (v : Int32) (S1 : Mem) (h : fn_X4_seekFewest F x0 x1 x2 x3 x4 x5 x6 S = some (v, S1)) : Con l yX4_seekFewest cX4_seekFewest 7 (some .boolean) 26 681 [.ref x0, .ref x1, .ref x2, .int x3, .int x4, .int x5, .int x6] S (rI v) S1 := by
  refine con_of (ι := rI) RX4 false [some (.ref x0), some (.ref x1), some (.ref x2), some (.int x3), some (.int x4), some (.int x5), some (.int x6)] rfl (fun h => by cases h) (by decide) (Nat.le_of_ble_eq_true rfl) ⟨rfl, rfl⟩ (fun Γ hl => ?_) h
  unfold fn_X4_seekFewest
  refine s_aload_n 0 dX4_seekFewest_0 rfl rfl ?_
  refine s_iconst (0 : Int32) dX4_seekFewest_1 (by decide) ?_
  refine s_putZ fk_X4_33 (Or.inl rfl) rfl dX4_seekFewest_2 (fun S1 => ?_)
  refine s_aload_n 0 dX4_seekFewest_5 rfl rfl ?_
  refine s_iload dX4_seekFewest_6 rfl ?_
  refine s_putI fk_X4_40 (Or.inl rfl) rfl dX4_seekFewest_8 (fun S2 => ?_)
  refine s_aload_n 0 dX4_seekFewest_11 rfl rfl ?_
  refine s_aload_n 1 dX4_seekFewest_12 rfl rfl ?_
  refine s_aload_n 2 dX4_seekFewest_13 rfl rfl ?_
  refine s_iload_n 3 dX4_seekFewest_14 rfl rfl ?_
  refine s_iload dX4_seekFewest_15 rfl ?_
  refine s_iload dX4_seekFewest_17 rfl ?_
  refine s_cV5V mk_X4_44 (by decide) rfl (fun v9 S9 h9 => con_X4_seek F _ _ _ _ _ _ _ v9 S9 h9) ⟨by omega, by omega⟩ (Nat.le_of_ble_eq_true rfl) dX4_seekFewest_19 (fun _ S4 => ?_)
  refine s_aload_n 0 dX4_seekFewest_22 rfl rfl ?_
  refine s_getJ fk_X4_48 rfl dX4_seekFewest_23 (fun v5 => ?_)
  refine s_ldc2 (v := (9223372036854775807 : Int64)) dX4_seekFewest_26 (lw_in 777 (by decide +kernel) (by decide +kernel)) ?_
  refine s_lcmp dX4_seekFewest_29 ?_
  refine s_if_eq 37 dX4_seekFewest_30 (by decide) (fun _ => ?_) (fun _ => ?_)
  · refine s_iconst (0 : Int32) dX4_seekFewest_37 (by decide) ?_
    exact s_less (t_X4_seekFewest_38  (0 : Int32) S4) trivial
  · refine s_iconst (1 : Int32) dX4_seekFewest_33 (by decide) ?_
    refine s_goto 38 dX4_seekFewest_34 (by decide) ?_
    exact s_less (t_X4_seekFewest_38  (1 : Int32) S4) trivial
-- X4_bestAway
def fn_X4_bestAway (F : Nat) (x0 : Nat) (S : Mem) : Option (Int32 × Mem) :=
  (gJ S 4 15 x0).bind fun v1 =>
  some (((v1 >>> (((39 : Int32)).toInt64 &&& 63))).toInt32, S)
set_option maxRecDepth 100000 in
theorem con_X4_bestAway {l : Launch} (F : Nat) (x0 : Nat) (S : Mem) (v : Int32) (S1 : Mem) (h : fn_X4_bestAway F x0 S = some (v, S1)) : Con l yX4_bestAway cX4_bestAway 1 (some .int) 0 0 [.ref x0] S (rI v) S1 := by
  refine con_of (ι := rI) RX4 false [some (.ref x0)] rfl (fun h => by cases h) (by decide) (Nat.le_of_ble_eq_true rfl) ⟨rfl, rfl⟩ (fun Γ hl => ?_) h
  unfold fn_X4_bestAway
  refine s_aload_n 0 dX4_bestAway_0 rfl rfl ?_
  refine s_getJ fk_X4_48 rfl dX4_bestAway_1 (fun v1 => ?_)
  refine s_bipush (39 : Int32) dX4_bestAway_4 (by decide) ?_
  refine s_lshr dX4_bestAway_6 ?_
  refine s_l2i dX4_bestAway_7 ?_
  exact s_iret dX4_bestAway_8
-- X4_bestLength
def fn_X4_bestLength (F : Nat) (x0 : Nat) (x1 : Int32) (S : Mem) : Option (Int32 × Mem) :=
  (gJ S 4 15 x0).bind fun v1 =>
  (gI S 4 7 x0).bind fun v2 =>
  some ((((v1 >>> ((((6 : Int32) * ((v2 - (1 : Int32)) - x1))).toInt64 &&& 63)) &&& (63 : Int64))).toInt32, S)
set_option maxRecDepth 100000 in
theorem con_X4_bestLength {l : Launch} (F : Nat) (x0 : Nat) (x1 : Int32) (S : Mem) (v : Int32) (S1 : Mem) (h : fn_X4_bestLength F x0 x1 S = some (v, S1)) : Con l yX4_bestLength cX4_bestLength 2 (some .int) 0 0 [.ref x0, .int x1] S (rI v) S1 := by
  refine con_of (ι := rI) RX4 false [some (.ref x0), some (.int x1)] rfl (fun h => by cases h) (by decide) (Nat.le_of_ble_eq_true rfl) ⟨rfl, rfl⟩ (fun Γ hl => ?_) h
  unfold fn_X4_bestLength
  refine s_aload_n 0 dX4_bestLength_0 rfl rfl ?_
  refine s_getJ fk_X4_48 rfl dX4_bestLength_1 (fun v1 => ?_)
  refine s_bipush (6 : Int32) dX4_bestLength_4 (by decide) ?_
  refine s_aload_n 0 dX4_bestLength_6 rfl rfl ?_
  refine s_getI fk_X4_58 rfl dX4_bestLength_7 (fun v2 => ?_)
  refine s_iconst (1 : Int32) dX4_bestLength_10 (by decide) ?_
  refine s_isub dX4_bestLength_11 ?_
  refine s_iload_n 1 dX4_bestLength_12 rfl rfl ?_
  refine s_isub dX4_bestLength_13 ?_
  refine s_imul dX4_bestLength_14 ?_
  refine s_lshr dX4_bestLength_15 ?_
  refine s_ldc2 (v := (63 : Int64)) dX4_bestLength_16 (lw_in 827 (by decide +kernel) (by decide +kernel)) ?_
  refine s_land dX4_bestLength_19 ?_
  refine s_l2i dX4_bestLength_20 ?_
  exact s_iret dX4_bestLength_21
-- X5_init
def fn_X5_init (F : Nat) (x0 : Nat) (S : Mem) : Option (Unit × Mem) :=
  bd (nA S 10 (6 : Int32)) fun v1 S2 =>
  (sR S2 5 1 x0 v1).bind fun S3 =>
  bd (nA S3 10 (6 : Int32)) fun v4 S5 =>
  (sR S5 5 2 x0 v4).bind fun S6 =>
  bd (nA S6 10 (6 : Int32)) fun v7 S8 =>
  (sR S8 5 3 x0 v7).bind fun S9 =>
  bd (nA S9 10 (6 : Int32)) fun v10 S11 =>
  (sR S11 5 4 x0 v10).bind fun S12 =>
  bd (nA S12 10 (6 : Int32)) fun v13 S14 =>
  (sR S14 5 5 x0 v13).bind fun S15 =>
  (sI S15 5 6 x0 (20 : Int32)).bind fun S16 =>
  (sI S16 5 7 x0 (2 : Int32)).bind fun S17 =>
  (sI S17 5 8 x0 (5 : Int32)).bind fun S18 =>
  (sI S18 5 9 x0 (0 : Int32)).bind fun S19 =>
  (sR S19 5 10 x0 (mU S19)).bind fun S20 =>
  (sR S20 5 11 x0 (mU S20)).bind fun S21 =>
  some ((), S21)
set_option maxRecDepth 100000 in
theorem con_X5_init {l : Launch} (F : Nat) (x0 : Nat) (S : Mem) (v : Unit) (S1 : Mem) (h : fn_X5_init F x0 S = some (v, S1)) : Con l yX5_init cX5_init 1 none 1 28 [.ref x0] S (rV v) S1 := by
  refine con_of (ι := rV) RX5 true [some (.ref x0)] rfl (fun _ => rfl) (by decide) (Nat.le_of_ble_eq_true rfl) ⟨rfl, rfl⟩ (fun Γ hl => ?_) h
  unfold fn_X5_init
  refine s_aload_n 0 dX5_init_0 rfl rfl ?_
  refine s_objInit (lw_in 115 (by decide +kernel) (by decide +kernel)) (lw_in 108 (by decide +kernel) (by decide +kernel)) (lw_in 109 (by decide +kernel) (by decide +kernel)) ⟨by omega, by show _ + 12 ≤ _; simp [Value.category] <;> omega⟩ dX5_init_1 ?_
  refine s_aload_n 0 dX5_init_4 rfl rfl ?_
  refine s_bipush (6 : Int32) dX5_init_5 (by decide) ?_
  refine s_newa10 (lw_in 185 (by decide +kernel) (by decide +kernel)) dX5_init_7 (fun v1 S2 => ?_)
  refine s_putR fk_X5_9 (Or.inr ⟨rfl, rfl, rfl⟩) rfl dX5_init_9 (fun S3 => ?_)
  refine s_aload_n 0 dX5_init_12 rfl rfl ?_
  refine s_bipush (6 : Int32) dX5_init_13 (by decide) ?_
  refine s_newa10 (lw_in 185 (by decide +kernel) (by decide +kernel)) dX5_init_15 (fun v4 S5 => ?_)
  refine s_putR fk_X5_15 (Or.inr ⟨rfl, rfl, rfl⟩) rfl dX5_init_17 (fun S6 => ?_)
  refine s_aload_n 0 dX5_init_20 rfl rfl ?_
  refine s_bipush (6 : Int32) dX5_init_21 (by decide) ?_
  refine s_newa10 (lw_in 185 (by decide +kernel) (by decide +kernel)) dX5_init_23 (fun v7 S8 => ?_)
  refine s_putR fk_X5_18 (Or.inr ⟨rfl, rfl, rfl⟩) rfl dX5_init_25 (fun S9 => ?_)
  refine s_aload_n 0 dX5_init_28 rfl rfl ?_
  refine s_bipush (6 : Int32) dX5_init_29 (by decide) ?_
  refine s_newa10 (lw_in 185 (by decide +kernel) (by decide +kernel)) dX5_init_31 (fun v10 S11 => ?_)
  refine s_putR fk_X5_21 (Or.inr ⟨rfl, rfl, rfl⟩) rfl dX5_init_33 (fun S12 => ?_)
  refine s_aload_n 0 dX5_init_36 rfl rfl ?_
  refine s_bipush (6 : Int32) dX5_init_37 (by decide) ?_
  refine s_newa10 (lw_in 185 (by decide +kernel) (by decide +kernel)) dX5_init_39 (fun v13 S14 => ?_)
  refine s_putR fk_X5_24 (Or.inr ⟨rfl, rfl, rfl⟩) rfl dX5_init_41 (fun S15 => ?_)
  refine s_aload_n 0 dX5_init_44 rfl rfl ?_
  refine s_bipush (20 : Int32) dX5_init_45 (by decide) ?_
  refine s_putI fk_X5_27 (Or.inl rfl) rfl dX5_init_47 (fun S16 => ?_)
  refine s_aload_n 0 dX5_init_50 rfl rfl ?_
  refine s_iconst (2 : Int32) dX5_init_51 (by decide) ?_
  refine s_putI fk_X5_31 (Or.inl rfl) rfl dX5_init_52 (fun S17 => ?_)
  refine s_aload_n 0 dX5_init_55 rfl rfl ?_
  refine s_iconst (5 : Int32) dX5_init_56 (by decide) ?_
  refine s_putI fk_X5_34 (Or.inl rfl) rfl dX5_init_57 (fun S18 => ?_)
  refine s_aload_n 0 dX5_init_60 rfl rfl ?_
  refine s_iconst (0 : Int32) dX5_init_61 (by decide) ?_
  refine s_putI fk_X5_37 (Or.inl rfl) rfl dX5_init_62 (fun S19 => ?_)
  refine s_aload_n 0 dX5_init_65 rfl rfl ?_
  refine s_getU (lw_in 116 (by decide +kernel) (by decide +kernel)) dX5_init_66 ?_
  refine s_putR fk_X5_43 (Or.inl rfl) rfl dX5_init_69 (fun S20 => ?_)
  refine s_aload_n 0 dX5_init_72 rfl rfl ?_
  refine s_getU (lw_in 116 (by decide +kernel) (by decide +kernel)) dX5_init_73 ?_
  refine s_putR fk_X5_46 (Or.inl rfl) rfl dX5_init_76 (fun S21 => ?_)
  exact s_vret dX5_init_79
-- X6_init
def fn_X6_init (F : Nat) (x0 : Nat) (x1 : Nat) (S : Mem) : Option (Unit × Mem) :=
  bd (nO S 1) fun v1 S2 =>
  bd ((fn_X1_init F v1 S2)) fun _ S4 =>
  (sR S4 6 0 x0 v1).bind fun S5 =>
  bd (nA S5 11 (6 : Int32)) fun v6 S7 =>
  (sR S7 6 1 x0 v6).bind fun S8 =>
  bd (nA S8 10 (1000 : Int32)) fun v9 S10 =>
  (sR S10 6 2 x0 v9).bind fun S11 =>
  (sR S11 6 7 x0 x1).bind fun S12 =>
  some ((), S12)
set_option maxRecDepth 100000 in
theorem con_X6_init {l : Launch} (F : Nat) (x0 : Nat) (x1 : Nat) (S : Mem) (v : Unit) (S1 : Mem) (h : fn_X6_init F x0 x1 S = some (v, S1)) : Con l yX6_init cX6_init 2 none 18 786 [.ref x0, .ref x1] S (rV v) S1 := by
  refine con_of (ι := rV) RX6 true [some (.ref x0), some (.ref x1)] rfl (fun _ => rfl) (by decide) (Nat.le_of_ble_eq_true rfl) ⟨rfl, rfl⟩ (fun Γ hl => ?_) h
  unfold fn_X6_init
  refine s_aload_n 0 dX6_init_0 rfl rfl ?_
  refine s_objInit (lw_in 191 (by decide +kernel) (by decide +kernel)) (lw_in 108 (by decide +kernel) (by decide +kernel)) (lw_in 109 (by decide +kernel) (by decide +kernel)) ⟨by omega, by show _ + 12 ≤ _; simp [Value.category] <;> omega⟩ dX6_init_1 ?_
  refine s_aload_n 0 dX6_init_4 rfl rfl ?_
  refine s_new 1 (by decide) (lw_in 192 (by decide +kernel) (by decide +kernel)) dX6_init_5 (fun v1 S2 => ?_)
  refine s_dup dX6_init_8 rfl ?_
  refine s_cI0V mk_X6_11 (fun v9 S9 h9 => con_X1_init F _ _ v9 S9 h9) ⟨by omega, by omega⟩ (Nat.le_of_ble_eq_true rfl) dX6_init_9 (fun _ S4 => ?_)
  refine s_putR fk_X6_12 (Or.inr ⟨rfl, rfl, rfl⟩) rfl dX6_init_12 (fun S5 => ?_)
  refine s_aload_n 0 dX6_init_15 rfl rfl ?_
  refine s_bipush (6 : Int32) dX6_init_16 (by decide) ?_
  refine s_newa11 (lw_in 280 (by decide +kernel) (by decide +kernel)) dX6_init_18 (fun v6 S7 => ?_)
  refine s_putR fk_X6_18 (Or.inr ⟨rfl, rfl, rfl⟩) rfl dX6_init_20 (fun S8 => ?_)
  refine s_aload_n 0 dX6_init_23 rfl rfl ?_
  refine s_sipush (1000 : Int32) dX6_init_24 (by decide) ?_
  refine s_newa10 (lw_in 185 (by decide +kernel) (by decide +kernel)) dX6_init_27 (fun v9 S10 => ?_)
  refine s_putR fk_X6_22 (Or.inr ⟨rfl, rfl, rfl⟩) rfl dX6_init_29 (fun S11 => ?_)
  refine s_aload_n 0 dX6_init_32 rfl rfl ?_
  refine s_aload_n 1 dX6_init_33 rfl rfl ?_
  refine s_putR fk_X6_26 (Or.inl rfl) rfl dX6_init_34 (fun S12 => ?_)
  exact s_vret dX6_init_37
-- X6_fail
def f_X6_fail_23 (F : Nat) (x0 : Nat) (S : Mem) : Option (Unit × Mem) :=
  (gR S 6 0 x0).bind fun v1 =>
  bd (cal S 1 v1 (fn_X1_close F v1 S)) fun _ S3 =>
  some ((), S3)
def fn_X6_fail (F : Nat) (x0 : Nat) (x1 : Int32) (S : Mem) : Option (Unit × Mem) :=
  (gI S 6 3 x0).bind fun v1 =>
  if v1 = 0 then
    (gR S 6 0 x0).bind fun v2 =>
    (gI S 1 4 v2).bind fun v3 =>
    (sI S 6 3 x0 (x1 + ((16 : Int32) * v3))).bind fun S4 =>
    f_X6_fail_23 F x0  S4
  else
    f_X6_fail_23 F x0  S
set_option maxRecDepth 100000 in
theorem t_X6_fail_23 {Γ : Cx} {F : Nat} : ∀ (x0 : Nat) (S : Mem), Sim cX6_fail RX6 1 20 none false Γ rV (f_X6_fail_23 F x0 S) S 23 [some (.ref x0), none] [] := by
  intro x0 S
  unfold f_X6_fail_23
  refine s_aload_n 0 dX6_fail_23 rfl rfl ?_
  refine s_getR fk_X6_12 rfl dX6_fail_24 (fun v1 => ?_)
  refine s_cV0V mk_X6_174 (by decide) rfl (fun v9 S9 h9 => con_X1_close F _ _ v9 S9 h9) ⟨by omega, by omega⟩ (Nat.le_of_ble_eq_true rfl) dX6_fail_27 (fun _ S3 => ?_)
  exact s_vret dX6_fail_30
set_option maxRecDepth 100000 in
theorem con_X6_fail {l : Launch} (F : Nat) (x0 : Nat) (x1 : Int32) (S : Mem) (v : Unit) (S1 : Mem) (h : fn_X6_fail F x0 x1 S = some (v, S1)) : Con l yX6_fail cX6_fail 2 none 1 20 [.ref x0, .int x1] S (rV v) S1 := by
  refine con_of (ι := rV) RX6 false [some (.ref x0), some (.int x1)] rfl (fun h => by cases h) (by decide) (Nat.le_of_ble_eq_true rfl) ⟨rfl, rfl⟩ (fun Γ hl => ?_) h
  unfold fn_X6_fail
  refine s_aload_n 0 dX6_fail_0 rfl rfl ?_
  refine s_getI fk_X6_30 rfl dX6_fail_1 (fun v1 => ?_)
  refine s_if_ne 23 dX6_fail_4 (by decide) (fun _ => ?_) (fun _ => ?_)
  · exact s_less (t_X6_fail_23 x0  S) (And.intro rfl trivial)
  · refine s_aload_n 0 dX6_fail_7 rfl rfl ?_
    refine s_iload_n 1 dX6_fail_8 rfl rfl ?_
    refine s_bipush (16 : Int32) dX6_fail_9 (by decide) ?_
    refine s_aload_n 0 dX6_fail_11 rfl rfl ?_
    refine s_getR fk_X6_12 rfl dX6_fail_12 (fun v2 => ?_)
    refine s_getI fk_X6_171 rfl dX6_fail_15 (fun v3 => ?_)
    refine s_imul dX6_fail_18 ?_
    refine s_iadd dX6_fail_19 ?_
    refine s_putI fk_X6_30 (Or.inl rfl) rfl dX6_fail_20 (fun S4 => ?_)
    exact s_less (t_X6_fail_23 x0  S4) (And.intro rfl trivial)
-- X7_isName
def f_X7_isName_17 (F : Nat) (y0 : Int32) (S : Mem) : Option (Int32 × Mem) :=
  rz y0 S
def f_X7_isName_16 (F : Nat)  (S : Mem) : Option (Int32 × Mem) :=
  f_X7_isName_17 F  (0 : Int32) S
def fn_X7_isName (F : Nat) (x0 : Int32) (S : Mem) : Option (Int32 × Mem) :=
  if x0 ≤ (19 : Int32) then
    f_X7_isName_16 F   S
  else
    if (25 : Int32) < x0 then
      f_X7_isName_16 F   S
    else
      f_X7_isName_17 F  (1 : Int32) S
set_option maxRecDepth 100000 in
theorem t_X7_isName_17 {Γ : Cx} {F : Nat} : ∀ (y0 : Int32) (S : Mem), Sim cX7_isName RX7 0 0 (some .boolean) false Γ rI (f_X7_isName_17 F y0 S) S 17 [none] [.int y0] := by
  intro y0 S
  unfold f_X7_isName_17
  exact s_zret dX7_isName_17
set_option maxRecDepth 100000 in
theorem t_X7_isName_16 {Γ : Cx} {F : Nat} : ∀ (S : Mem), Sim cX7_isName RX7 0 0 (some .boolean) false Γ rI (f_X7_isName_16 F  S) S 16 [none] [] := by
  intro  S
  unfold f_X7_isName_16
  refine s_iconst (0 : Int32) dX7_isName_16 (by decide) ?_
  exact s_less (t_X7_isName_17  (0 : Int32) S) trivial
set_option maxRecDepth 100000 in
theorem con_X7_isName {l : Launch} (F : Nat) (x0 : Int32) (S : Mem) (v : Int32) (S1 : Mem) (h : fn_X7_isName F x0 S = some (v, S1)) : Con l yX7_isName cX7_isName 1 (some .boolean) 0 0 [.int x0] S (rI v) S1 := by
  refine con_of (ι := rI) RX7 false [some (.int x0)] rfl (fun h => by cases h) (by decide) (Nat.le_of_ble_eq_true rfl) ⟨rfl, rfl⟩ (fun Γ hl => ?_) h
  unfold fn_X7_isName
  refine s_iload_n 0 dX7_isName_0 rfl rfl ?_
  refine s_bipush (19 : Int32) dX7_isName_1 (by decide) ?_
  refine s_icmp_le 16 dX7_isName_3 (by decide) (fun _ => ?_) (fun _ => ?_)
  · exact s_less (t_X7_isName_16   S) trivial
  · refine s_iload_n 0 dX7_isName_6 rfl rfl ?_
    refine s_bipush (25 : Int32) dX7_isName_7 (by decide) ?_
    refine s_icmp_gt 16 dX7_isName_9 (by decide) (fun _ => ?_) (fun _ => ?_)
    · exact s_less (t_X7_isName_16   S) trivial
    · refine s_iconst (1 : Int32) dX7_isName_12 (by decide) ?_
      refine s_goto 17 dX7_isName_13 (by decide) ?_
      exact s_less (t_X7_isName_17  (1 : Int32) S) trivial
-- X6_readName
def f_X6_readName_52 (F : Nat) (k29 : Nat → Int32 → Int64 → Int32 → Mem → Option (Int64 × Mem)) (x0 : Nat) (x1 : Int32) (x2 : Int64) (x4 : Int32) (S : Mem) : Option (Int64 × Mem) :=
  k29 x0 x1 x2 (x4 + (1 : Int32)) S
def b_X6_readName_29 (F : Nat) (k29 : Nat → Int32 → Int64 → Int32 → Mem → Option (Int64 × Mem)) (x0 : Nat) (x1 : Int32) (x2 : Int64) (x4 : Int32) (S : Mem) : Option (Int64 × Mem) :=
  if x1 ≤ x4 then
    (gR S 6 0 x0).bind fun v1 =>
    bd (cal S 1 v1 (fn_X1_step F v1 S)) fun _ S3 =>
    some (x2, S3)
  else
    (gR S 6 1 x0).bind fun v4 =>
    (gAJ S v4 x4).bind fun v5 =>
    if (lg_cmp v5 x2) = 0 then
      bd (cal S 6 x0 (fn_X6_fail F x0 (3 : Int32) S)) fun _ S7 =>
      f_X6_readName_52 F k29 x0 x1 x2 x4  S7
    else
      f_X6_readName_52 F k29 x0 x1 x2 x4  S
def f_X6_readName_18 (F : Nat) (x0 : Nat) (x1 : Int32) (S : Mem) : Option (Int64 × Mem) :=
  (gR S 6 0 x0).bind fun v1 =>
  (gJ S 1 7 v1).bind fun v2 =>
  fix4 (b_X6_readName_29 F) F x0 x1 v2 (0 : Int32) S
def fn_X6_readName (F : Nat) (x0 : Nat) (x1 : Int32) (S : Mem) : Option (Int64 × Mem) :=
  (gR S 6 0 x0).bind fun v1 =>
  (gI S 1 5 v1).bind fun v2 =>
  bd ((fn_X7_isName F v2 S)) fun v3 S4 =>
  if v3 = 0 then
    bd (cal S4 6 x0 (fn_X6_fail F x0 (1 : Int32) S4)) fun _ S6 =>
    f_X6_readName_18 F x0 x1  S6
  else
    f_X6_readName_18 F x0 x1  S4
set_option maxRecDepth 100000 in
theorem t_X6_readName_52 {Γ : Cx} {F : Nat} {k29 : Nat → Int32 → Int64 → Int32 → Mem → Option (Int64 × Mem)} (hk29 : ∀ (x0 : Nat) (x1 : Int32) (x2 : Int64) (x4 : Int32) (S : Mem), Sim cX6_readName RX6 3 63 (some .long) false Γ rJ (k29 x0 x1 x2 x4 S) S 29 [some (.ref x0), some (.int x1), some (.long x2), none, some (.int x4)] []) : ∀ (x0 : Nat) (x1 : Int32) (x2 : Int64) (x4 : Int32) (S : Mem), Sim cX6_readName RX6 3 63 (some .long) false Γ rJ (f_X6_readName_52 F k29 x0 x1 x2 x4 S) S 52 [some (.ref x0), some (.int x1), some (.long x2), none, some (.int x4)] [] := by
  intro x0 x1 x2 x4 S
  unfold f_X6_readName_52
  refine s_iinc_4 (1 : Int32) dX6_readName_52 (by decide) rfl ?_
  refine s_goto 29 dX6_readName_55 (by decide) ?_
  exact s_less (hk29 x0 x1 x2 (x4 + (1 : Int32)) S) (And.intro rfl (And.intro rfl (And.intro rfl (And.intro rfl trivial))))
set_option maxRecDepth 100000 in
theorem t_X6_readName_29 {Γ : Cx} {F : Nat} : ∀ (f : Nat) (x0 : Nat) (x1 : Int32) (x2 : Int64) (x4 : Int32) (S : Mem), Sim cX6_readName RX6 3 63 (some .long) false Γ rJ (fix4 (b_X6_readName_29 F) f x0 x1 x2 x4 S) S 29 [some (.ref x0), some (.int x1), some (.long x2), none, some (.int x4)] [] := by
  refine s_fix4 (fun (x0 : Nat) (x1 : Int32) (x2 : Int64) (x4 : Int32) => [some (.ref x0), some (.int x1), some (.long x2), none, some (.int x4)]) (fun k29 hk29 => ?_)
  intro x0 x1 x2 x4 S
  unfold b_X6_readName_29
  refine s_iload dX6_readName_29 rfl ?_
  refine s_iload_n 1 dX6_readName_31 rfl rfl ?_
  refine s_icmp_ge 58 dX6_readName_32 (by decide) (fun _ => ?_) (fun _ => ?_)
  · refine s_aload_n 0 dX6_readName_58 rfl rfl ?_
    refine s_getR fk_X6_12 rfl dX6_readName_59 (fun v1 => ?_)
    refine s_cV0V mk_X6_59 (by decide) rfl (fun v9 S9 h9 => con_X1_step F _ _ v9 S9 h9) ⟨by omega, by omega⟩ (Nat.le_of_ble_eq_true rfl) dX6_readName_62 (fun _ S3 => ?_)
    refine s_lload_n 2 dX6_readName_65 rfl rfl ?_
    exact s_lret dX6_readName_66
  · refine s_aload_n 0 dX6_readName_35 rfl rfl ?_
    refine s_getR fk_X6_18 rfl dX6_readName_36 (fun v4 => ?_)
    refine s_iload dX6_readName_39 rfl ?_
    refine s_lald dX6_readName_41 (fun v5 => ?_)
    refine s_lload_n 2 dX6_readName_42 rfl rfl ?_
    refine s_lcmp dX6_readName_43 ?_
    refine s_if_ne 52 dX6_readName_44 (by decide) (fun _ => ?_) (fun _ => ?_)
    · exact s_less (t_X6_readName_52 hk29 x0 x1 x2 x4  S) (And.intro rfl (And.intro rfl (And.intro rfl (And.intro rfl trivial))))
    · refine s_aload_n 0 dX6_readName_47 rfl rfl ?_
      refine s_iconst (3 : Int32) dX6_readName_48 (by decide) ?_
      refine s_cV1V mk_X6_53 (by decide) rfl (fun v9 S9 h9 => con_X6_fail F _ _ _ v9 S9 h9) ⟨by omega, by omega⟩ (Nat.le_of_ble_eq_true rfl) dX6_readName_49 (fun _ S7 => ?_)
      exact s_less (t_X6_readName_52 hk29 x0 x1 x2 x4  S7) (And.intro rfl (And.intro rfl (And.intro rfl (And.intro rfl trivial))))
set_option maxRecDepth 100000 in
theorem t_X6_readName_18 {Γ : Cx} {F : Nat} : ∀ (x0 : Nat) (x1 : Int32) (S : Mem), Sim cX6_readName RX6 3 63 (some .long) false Γ rJ (f_X6_readName_18 F x0 x1 S) S 18 [some (.ref x0), some (.int x1), none, none, none] [] := by
  intro x0 x1 S
  unfold f_X6_readName_18
  refine s_aload_n 0 dX6_readName_18 rfl rfl ?_
  refine s_getR fk_X6_12 rfl dX6_readName_19 (fun v1 => ?_)
  refine s_getJ fk_X6_120 rfl dX6_readName_22 (fun v2 => ?_)
  refine s_lstore_2 dX6_readName_25 rfl ?_
  refine s_iconst (0 : Int32) dX6_readName_26 (by decide) ?_
  refine s_istore_4 dX6_readName_27 rfl ?_
  exact s_less (t_X6_readName_29 F x0 x1 v2 (0 : Int32) S) (And.intro rfl (And.intro rfl (And.intro rfl (And.intro rfl trivial))))
set_option maxRecDepth 100000 in
theorem con_X6_readName {l : Launch} (F : Nat) (x0 : Nat) (x1 : Int32) (S : Mem) (v : Int64) (S1 : Mem) (h : fn_X6_readName F x0 x1 S = some (v, S1)) : Con l yX6_readName cX6_readName 5 (some .long) 3 63 [.ref x0, .int x1] S (rJ v) S1 := by
  refine con_of (ι := rJ) RX6 false [some (.ref x0), some (.int x1), none, none, none] rfl (fun h => by cases h) (by decide) (Nat.le_of_ble_eq_true rfl) ⟨rfl, rfl⟩ (fun Γ hl => ?_) h
  unfold fn_X6_readName
  refine s_aload_n 0 dX6_readName_0 rfl rfl ?_
  refine s_getR fk_X6_12 rfl dX6_readName_1 (fun v1 => ?_)
  refine s_getI fk_X6_41 rfl dX6_readName_4 (fun v2 => ?_)
  refine s_cS1I mk_X6_116 (fun v9 S9 h9 => con_X7_isName F _ _ v9 S9 h9) ⟨by omega, by omega⟩ (Nat.le_of_ble_eq_true rfl) dX6_readName_7 (fun v3 S4 => ?_)
  refine s_if_ne 18 dX6_readName_10 (by decide) (fun _ => ?_) (fun _ => ?_)
  · exact s_less (t_X6_readName_18 x0 x1  S4) (And.intro rfl (And.intro rfl trivial))
  · refine s_aload_n 0 dX6_readName_13 rfl rfl ?_
    refine s_iconst (1 : Int32) dX6_readName_14 (by decide) ?_
    refine s_cV1V mk_X6_53 (by decide) rfl (fun v9 S9 h9 => con_X6_fail F _ _ _ v9 S9 h9) ⟨by omega, by omega⟩ (Nat.le_of_ble_eq_true rfl) dX6_readName_15 (fun _ S6 => ?_)
    exact s_less (t_X6_readName_18 x0 x1  S6) (And.intro rfl (And.intro rfl trivial))
-- X8_isWithin
def f_X8_isWithin_15 (F : Nat) (y0 : Int32) (S : Mem) : Option (Int32 × Mem) :=
  rz y0 S
def f_X8_isWithin_14 (F : Nat)  (S : Mem) : Option (Int32 × Mem) :=
  f_X8_isWithin_15 F  (0 : Int32) S
def fn_X8_isWithin (F : Nat) (x0 : Int32) (x1 : Int32) (x2 : Int32) (S : Mem) : Option (Int32 × Mem) :=
  if x0 < x1 then
    f_X8_isWithin_14 F   S
  else
    if x2 < x0 then
      f_X8_isWithin_14 F   S
    else
      f_X8_isWithin_15 F  (1 : Int32) S
set_option maxRecDepth 100000 in
theorem t_X8_isWithin_15 {Γ : Cx} {F : Nat} : ∀ (y0 : Int32) (S : Mem), Sim cX8_isWithin RX8 0 0 (some .boolean) false Γ rI (f_X8_isWithin_15 F y0 S) S 15 [none, none, none] [.int y0] := by
  intro y0 S
  unfold f_X8_isWithin_15
  exact s_zret dX8_isWithin_15
set_option maxRecDepth 100000 in
theorem t_X8_isWithin_14 {Γ : Cx} {F : Nat} : ∀ (S : Mem), Sim cX8_isWithin RX8 0 0 (some .boolean) false Γ rI (f_X8_isWithin_14 F  S) S 14 [none, none, none] [] := by
  intro  S
  unfold f_X8_isWithin_14
  refine s_iconst (0 : Int32) dX8_isWithin_14 (by decide) ?_
  exact s_less (t_X8_isWithin_15  (0 : Int32) S) trivial
set_option maxRecDepth 100000 in
theorem con_X8_isWithin {l : Launch} (F : Nat) (x0 : Int32) (x1 : Int32) (x2 : Int32) (S : Mem) (v : Int32) (S1 : Mem) (h : fn_X8_isWithin F x0 x1 x2 S = some (v, S1)) : Con l yX8_isWithin cX8_isWithin 3 (some .boolean) 0 0 [.int x0, .int x1, .int x2] S (rI v) S1 := by
  refine con_of (ι := rI) RX8 false [some (.int x0), some (.int x1), some (.int x2)] rfl (fun h => by cases h) (by decide) (Nat.le_of_ble_eq_true rfl) ⟨rfl, rfl⟩ (fun Γ hl => ?_) h
  unfold fn_X8_isWithin
  refine s_iload_n 0 dX8_isWithin_0 rfl rfl ?_
  refine s_iload_n 1 dX8_isWithin_1 rfl rfl ?_
  refine s_icmp_lt 14 dX8_isWithin_2 (by decide) (fun _ => ?_) (fun _ => ?_)
  · exact s_less (t_X8_isWithin_14   S) trivial
  · refine s_iload_n 0 dX8_isWithin_5 rfl rfl ?_
    refine s_iload_n 2 dX8_isWithin_6 rfl rfl ?_
    refine s_icmp_gt 14 dX8_isWithin_7 (by decide) (fun _ => ?_) (fun _ => ?_)
    · exact s_less (t_X8_isWithin_14   S) trivial
    · refine s_iconst (1 : Int32) dX8_isWithin_10 (by decide) ?_
      refine s_goto 15 dX8_isWithin_11 (by decide) ?_
      exact s_less (t_X8_isWithin_15  (1 : Int32) S) trivial
-- X6_readKind
def f_X6_readKind_33 (F : Nat) (x0 : Nat) (x1 : Int32) (S : Mem) : Option (Int32 × Mem) :=
  (gR S 6 0 x0).bind fun v1 =>
  bd (cal S 1 v1 (fn_X1_step F v1 S)) fun _ S3 =>
  some (x1, S3)
def fn_X6_readKind (F : Nat) (x0 : Nat) (S : Mem) : Option (Int32 × Mem) :=
  (gR S 6 0 x0).bind fun v1 =>
  (gI S 1 5 v1).bind fun v2 =>
  lt ((v2 - (11 : Int32))) fun v3 =>
  (gR S 6 0 x0).bind fun v4 =>
  (gI S 1 5 v4).bind fun v5 =>
  bd ((fn_X8_isWithin F v5 (11 : Int32) (16 : Int32) S)) fun v6 S7 =>
  if v6 = 0 then
    bd (cal S7 6 x0 (fn_X6_fail F x0 (1 : Int32) S7)) fun _ S9 =>
    f_X6_readKind_33 F x0 v3  S9
  else
    f_X6_readKind_33 F x0 v3  S7
set_option maxRecDepth 100000 in
theorem t_X6_readKind_33 {Γ : Cx} {F : Nat} : ∀ (x0 : Nat) (x1 : Int32) (S : Mem), Sim cX6_readKind RX6 3 63 (some .int) false Γ rI (f_X6_readKind_33 F x0 x1 S) S 33 [some (.ref x0), some (.int x1)] [] := by
  intro x0 x1 S
  unfold f_X6_readKind_33
  refine s_aload_n 0 dX6_readKind_33 rfl rfl ?_
  refine s_getR fk_X6_12 rfl dX6_readKind_34 (fun v1 => ?_)
  refine s_cV0V mk_X6_59 (by decide) rfl (fun v9 S9 h9 => con_X1_step F _ _ v9 S9 h9) ⟨by omega, by omega⟩ (Nat.le_of_ble_eq_true rfl) dX6_readKind_37 (fun _ S3 => ?_)
  refine s_iload_n 1 dX6_readKind_40 rfl rfl ?_
  exact s_iret dX6_readKind_41
set_option maxRecDepth 100000 in
theorem con_X6_readKind {l : Launch} (F : Nat) (x0 : Nat) (S : Mem) (v : Int32) (S1 : Mem) (h : fn_X6_readKind F x0 S = some (v, S1)) : Con l yX6_readKind cX6_readKind 2 (some .int) 3 63 [.ref x0] S (rI v) S1 := by
  refine con_of (ι := rI) RX6 false [some (.ref x0), none] rfl (fun h => by cases h) (by decide) (Nat.le_of_ble_eq_true rfl) ⟨rfl, rfl⟩ (fun Γ hl => ?_) h
  unfold fn_X6_readKind
  refine s_aload_n 0 dX6_readKind_0 rfl rfl ?_
  refine s_getR fk_X6_12 rfl dX6_readKind_1 (fun v1 => ?_)
  refine s_getI fk_X6_41 rfl dX6_readKind_4 (fun v2 => ?_)
  refine s_bipush (11 : Int32) dX6_readKind_7 (by decide) ?_
  refine s_isub dX6_readKind_9 ?_
  refine s_ltI (fun v3 => ?_)
  refine s_istore_1 dX6_readKind_10 rfl ?_
  refine s_aload_n 0 dX6_readKind_11 rfl rfl ?_
  refine s_getR fk_X6_12 rfl dX6_readKind_12 (fun v4 => ?_)
  refine s_getI fk_X6_41 rfl dX6_readKind_15 (fun v5 => ?_)
  refine s_bipush (11 : Int32) dX6_readKind_18 (by decide) ?_
  refine s_bipush (16 : Int32) dX6_readKind_20 (by decide) ?_
  refine s_cSN3I mk_X6_124 (fun v9 S9 h9 => con_X8_isWithin F _ _ _ _ v9 S9 h9) ⟨by omega, by omega⟩ (Nat.le_of_ble_eq_true rfl) dX6_readKind_22 (fun v6 S7 => ?_)
  refine s_if_ne 33 dX6_readKind_25 (by decide) (fun _ => ?_) (fun _ => ?_)
  · exact s_less (t_X6_readKind_33 x0 v3  S7) (And.intro rfl (And.intro rfl trivial))
  · refine s_aload_n 0 dX6_readKind_28 rfl rfl ?_
    refine s_iconst (1 : Int32) dX6_readKind_29 (by decide) ?_
    refine s_cV1V mk_X6_53 (by decide) rfl (fun v9 S9 h9 => con_X6_fail F _ _ _ v9 S9 h9) ⟨by omega, by omega⟩ (Nat.le_of_ble_eq_true rfl) dX6_readKind_30 (fun _ S9 => ?_)
    exact s_less (t_X6_readKind_33 x0 v3  S9) (And.intro rfl (And.intro rfl trivial))
-- X6_expect
def f_X6_expect_16 (F : Nat) (x0 : Nat) (S : Mem) : Option (Unit × Mem) :=
  (gR S 6 0 x0).bind fun v1 =>
  bd (cal S 1 v1 (fn_X1_step F v1 S)) fun _ S3 =>
  some ((), S3)
def fn_X6_expect (F : Nat) (x0 : Nat) (x1 : Int32) (S : Mem) : Option (Unit × Mem) :=
  (gR S 6 0 x0).bind fun v1 =>
  (gI S 1 5 v1).bind fun v2 =>
  if v2 = x1 then
    f_X6_expect_16 F x0  S
  else
    bd (cal S 6 x0 (fn_X6_fail F x0 (1 : Int32) S)) fun _ S4 =>
    f_X6_expect_16 F x0  S4
set_option maxRecDepth 100000 in
theorem t_X6_expect_16 {Γ : Cx} {F : Nat} : ∀ (x0 : Nat) (S : Mem), Sim cX6_expect RX6 3 63 none false Γ rV (f_X6_expect_16 F x0 S) S 16 [some (.ref x0), none] [] := by
  intro x0 S
  unfold f_X6_expect_16
  refine s_aload_n 0 dX6_expect_16 rfl rfl ?_
  refine s_getR fk_X6_12 rfl dX6_expect_17 (fun v1 => ?_)
  refine s_cV0V mk_X6_59 (by decide) rfl (fun v9 S9 h9 => con_X1_step F _ _ v9 S9 h9) ⟨by omega, by omega⟩ (Nat.le_of_ble_eq_true rfl) dX6_expect_20 (fun _ S3 => ?_)
  exact s_vret dX6_expect_23
set_option maxRecDepth 100000 in
theorem con_X6_expect {l : Launch} (F : Nat) (x0 : Nat) (x1 : Int32) (S : Mem) (v : Unit) (S1 : Mem) (h : fn_X6_expect F x0 x1 S = some (v, S1)) : Con l yX6_expect cX6_expect 2 none 3 63 [.ref x0, .int x1] S (rV v) S1 := by
  refine con_of (ι := rV) RX6 false [some (.ref x0), some (.int x1)] rfl (fun h => by cases h) (by decide) (Nat.le_of_ble_eq_true rfl) ⟨rfl, rfl⟩ (fun Γ hl => ?_) h
  unfold fn_X6_expect
  refine s_aload_n 0 dX6_expect_0 rfl rfl ?_
  refine s_getR fk_X6_12 rfl dX6_expect_1 (fun v1 => ?_)
  refine s_getI fk_X6_41 rfl dX6_expect_4 (fun v2 => ?_)
  refine s_iload_n 1 dX6_expect_7 rfl rfl ?_
  refine s_icmp_eq 16 dX6_expect_8 (by decide) (fun _ => ?_) (fun _ => ?_)
  · exact s_less (t_X6_expect_16 x0  S) (And.intro rfl trivial)
  · refine s_aload_n 0 dX6_expect_11 rfl rfl ?_
    refine s_iconst (1 : Int32) dX6_expect_12 (by decide) ?_
    refine s_cV1V mk_X6_53 (by decide) rfl (fun v9 S9 h9 => con_X6_fail F _ _ _ v9 S9 h9) ⟨by omega, by omega⟩ (Nat.le_of_ble_eq_true rfl) dX6_expect_13 (fun _ S4 => ?_)
    exact s_less (t_X6_expect_16 x0  S4) (And.intro rfl trivial)
-- X6_readNumber
def f_X6_readNumber_40 (F : Nat) (x0 : Nat) (S : Mem) : Option (Int32 × Mem) :=
  (gR S 6 0 x0).bind fun v1 =>
  (gI S 1 6 v1).bind fun v2 =>
  (gR S 6 0 x0).bind fun v3 =>
  bd (cal S 1 v3 (fn_X1_step F v3 S)) fun _ S5 =>
  some (v2, S5)
def fn_X6_readNumber (F : Nat) (x0 : Nat) (x1 : Int32) (x2 : Int32) (S : Mem) : Option (Int32 × Mem) :=
  (gR S 6 0 x0).bind fun v1 =>
  (gI S 1 5 v1).bind fun v2 =>
  if v2 = (26 : Int32) then
    (gR S 6 0 x0).bind fun v3 =>
    (gI S 1 6 v3).bind fun v4 =>
    bd ((fn_X8_isWithin F v4 x1 x2 S)) fun v5 S6 =>
    if v5 = 0 then
      bd (cal S6 6 x0 (fn_X6_fail F x0 (4 : Int32) S6)) fun _ S8 =>
      f_X6_readNumber_40 F x0  S8
    else
      f_X6_readNumber_40 F x0  S6
  else
    bd (cal S 6 x0 (fn_X6_fail F x0 (1 : Int32) S)) fun _ S10 =>
    f_X6_readNumber_40 F x0  S10
set_option maxRecDepth 100000 in
theorem t_X6_readNumber_40 {Γ : Cx} {F : Nat} : ∀ (x0 : Nat) (S : Mem), Sim cX6_readNumber RX6 3 63 (some .int) false Γ rI (f_X6_readNumber_40 F x0 S) S 40 [some (.ref x0), none, none, none] [] := by
  intro x0 S
  unfold f_X6_readNumber_40
  refine s_aload_n 0 dX6_readNumber_40 rfl rfl ?_
  refine s_getR fk_X6_12 rfl dX6_readNumber_41 (fun v1 => ?_)
  refine s_getI fk_X6_128 rfl dX6_readNumber_44 (fun v2 => ?_)
  refine s_istore_3 dX6_readNumber_47 rfl ?_
  refine s_aload_n 0 dX6_readNumber_48 rfl rfl ?_
  refine s_getR fk_X6_12 rfl dX6_readNumber_49 (fun v3 => ?_)
  refine s_cV0V mk_X6_59 (by decide) rfl (fun v9 S9 h9 => con_X1_step F _ _ v9 S9 h9) ⟨by omega, by omega⟩ (Nat.le_of_ble_eq_true rfl) dX6_readNumber_52 (fun _ S5 => ?_)
  refine s_iload_n 3 dX6_readNumber_55 rfl rfl ?_
  exact s_iret dX6_readNumber_56
set_option maxRecDepth 100000 in
theorem con_X6_readNumber {l : Launch} (F : Nat) (x0 : Nat) (x1 : Int32) (x2 : Int32) (S : Mem) (v : Int32) (S1 : Mem) (h : fn_X6_readNumber F x0 x1 x2 S = some (v, S1)) : Con l yX6_readNumber cX6_readNumber 4 (some .int) 3 63 [.ref x0, .int x1, .int x2] S (rI v) S1 := by
  refine con_of (ι := rI) RX6 false [some (.ref x0), some (.int x1), some (.int x2), none] rfl (fun h => by cases h) (by decide) (Nat.le_of_ble_eq_true rfl) ⟨rfl, rfl⟩ (fun Γ hl => ?_) h
  unfold fn_X6_readNumber
  refine s_aload_n 0 dX6_readNumber_0 rfl rfl ?_
  refine s_getR fk_X6_12 rfl dX6_readNumber_1 (fun v1 => ?_)
  refine s_getI fk_X6_41 rfl dX6_readNumber_4 (fun v2 => ?_)
  refine s_bipush (26 : Int32) dX6_readNumber_7 (by decide) ?_
  refine s_icmp_eq 20 dX6_readNumber_9 (by decide) (fun _ => ?_) (fun _ => ?_)
  · refine s_aload_n 0 dX6_readNumber_20 rfl rfl ?_
    refine s_getR fk_X6_12 rfl dX6_readNumber_21 (fun v3 => ?_)
    refine s_getI fk_X6_128 rfl dX6_readNumber_24 (fun v4 => ?_)
    refine s_iload_n 1 dX6_readNumber_27 rfl rfl ?_
    refine s_iload_n 2 dX6_readNumber_28 rfl rfl ?_
    refine s_cSN3I mk_X6_124 (fun v9 S9 h9 => con_X8_isWithin F _ _ _ _ v9 S9 h9) ⟨by omega, by omega⟩ (Nat.le_of_ble_eq_true rfl) dX6_readNumber_29 (fun v5 S6 => ?_)
    refine s_if_ne 40 dX6_readNumber_32 (by decide) (fun _ => ?_) (fun _ => ?_)
    · exact s_less (t_X6_readNumber_40 x0  S6) (And.intro rfl trivial)
    · refine s_aload_n 0 dX6_readNumber_35 rfl rfl ?_
      refine s_iconst (4 : Int32) dX6_readNumber_36 (by decide) ?_
      refine s_cV1V mk_X6_53 (by decide) rfl (fun v9 S9 h9 => con_X6_fail F _ _ _ v9 S9 h9) ⟨by omega, by omega⟩ (Nat.le_of_ble_eq_true rfl) dX6_readNumber_37 (fun _ S8 => ?_)
      exact s_less (t_X6_readNumber_40 x0  S8) (And.intro rfl trivial)
  · refine s_aload_n 0 dX6_readNumber_12 rfl rfl ?_
    refine s_iconst (1 : Int32) dX6_readNumber_13 (by decide) ?_
    refine s_cV1V mk_X6_53 (by decide) rfl (fun v9 S9 h9 => con_X6_fail F _ _ _ v9 S9 h9) ⟨by omega, by omega⟩ (Nat.le_of_ble_eq_true rfl) dX6_readNumber_14 (fun _ S10 => ?_)
    refine s_goto 40 dX6_readNumber_17 (by decide) ?_
    exact s_less (t_X6_readNumber_40 x0  S10) (And.intro rfl trivial)
-- X6_readKite
def fn_X6_readKite (F : Nat) (x0 : Nat) (S : Mem) : Option (Unit × Mem) :=
  (gR S 6 7 x0).bind fun v1 =>
  (gI S 5 0 v1).bind fun v2 =>
  if v2 < (6 : Int32) then
    (gR S 6 0 x0).bind fun v3 =>
    bd (cal S 1 v3 (fn_X1_step F v3 S)) fun _ S5 =>
    (gR S5 6 1 x0).bind fun v6 =>
    bd (cal S5 6 x0 (fn_X6_readName F x0 v2 S5)) fun v7 S8 =>
    (sAJ S8 v6 v2 v7).bind fun S9 =>
    (gR S9 6 7 x0).bind fun v10 =>
    (gR S9 5 1 v10).bind fun v11 =>
    bd (cal S9 6 x0 (fn_X6_readKind F x0 S9)) fun v12 S13 =>
    (sA S13 v11 v2 v12).bind fun S14 =>
    bd (cal S14 6 x0 (fn_X6_expect F x0 (7 : Int32) S14)) fun _ S16 =>
    (gR S16 6 7 x0).bind fun v17 =>
    (gR S16 5 2 v17).bind fun v18 =>
    bd (cal S16 6 x0 (fn_X6_readNumber F x0 (0 : Int32) (99 : Int32) S16)) fun v19 S20 =>
    (sA S20 v18 v2 v19).bind fun S21 =>
    bd (cal S21 6 x0 (fn_X6_expect F x0 (8 : Int32) S21)) fun _ S23 =>
    (gR S23 6 7 x0).bind fun v24 =>
    (gR S23 5 3 v24).bind fun v25 =>
    bd (cal S23 6 x0 (fn_X6_readNumber F x0 (1 : Int32) (20 : Int32) S23)) fun v26 S27 =>
    (sA S27 v25 v2 v26).bind fun S28 =>
    bd (cal S28 6 x0 (fn_X6_expect F x0 (9 : Int32) S28)) fun _ S30 =>
    (gR S30 6 7 x0).bind fun v31 =>
    (gR S30 5 4 v31).bind fun v32 =>
    bd (cal S30 6 x0 (fn_X6_readNumber F x0 (0 : Int32) (99 : Int32) S30)) fun v33 S34 =>
    (sA S34 v32 v2 v33).bind fun S35 =>
    bd (cal S35 6 x0 (fn_X6_expect F x0 (10 : Int32) S35)) fun _ S37 =>
    (gR S37 6 7 x0).bind fun v38 =>
    (gR S37 5 5 v38).bind fun v39 =>
    bd (cal S37 6 x0 (fn_X6_readNumber F x0 (0 : Int32) (40 : Int32) S37)) fun v40 S41 =>
    (sA S41 v39 v2 v40).bind fun S42 =>
    (gR S42 6 7 x0).bind fun v43 =>
    (sI S42 5 0 v43 (v2 + (1 : Int32))).bind fun S44 =>
    some ((), S44)
  else
    bd (cal S 6 x0 (fn_X6_fail F x0 (5 : Int32) S)) fun _ S46 =>
    some ((), S46)
set_option maxRecDepth 100000 in
theorem con_X6_readKite {l : Launch} (F : Nat) (x0 : Nat) (S : Mem) (v : Unit) (S1 : Mem) (h : fn_X6_readKite F x0 S = some (v, S1)) : Con l yX6_readKite cX6_readKite 2 none 4 87 [.ref x0] S (rV v) S1 := by
  refine con_of (ι := rV) RX6 false [some (.ref x0), none] rfl (fun h => by cases h) (by decide) (Nat.le_of_ble_eq_true rfl) ⟨rfl, rfl⟩ (fun Γ hl => ?_) h
  unfold fn_X6_readKite
  refine s_aload_n 0 dX6_readKite_0 rfl rfl ?_
  refine s_getR fk_X6_26 rfl dX6_readKite_1 (fun v1 => ?_)
  refine s_getI fk_X6_90 rfl dX6_readKite_4 (fun v2 => ?_)
  refine s_istore_1 dX6_readKite_7 rfl ?_
  refine s_iload_n 1 dX6_readKite_8 rfl rfl ?_
  refine s_bipush (6 : Int32) dX6_readKite_9 (by decide) ?_
  refine s_icmp_lt 20 dX6_readKite_11 (by decide) (fun _ => ?_) (fun _ => ?_)
  · refine s_aload_n 0 dX6_readKite_20 rfl rfl ?_
    refine s_getR fk_X6_12 rfl dX6_readKite_21 (fun v3 => ?_)
    refine s_cV0V mk_X6_59 (by decide) rfl (fun v9 S9 h9 => con_X1_step F _ _ v9 S9 h9) ⟨by omega, by omega⟩ (Nat.le_of_ble_eq_true rfl) dX6_readKite_24 (fun _ S5 => ?_)
    refine s_aload_n 0 dX6_readKite_27 rfl rfl ?_
    refine s_getR fk_X6_18 rfl dX6_readKite_28 (fun v6 => ?_)
    refine s_iload_n 1 dX6_readKite_31 rfl rfl ?_
    refine s_aload_n 0 dX6_readKite_32 rfl rfl ?_
    refine s_iload_n 1 dX6_readKite_33 rfl rfl ?_
    refine s_cV1J mk_X6_93 (by decide) rfl (fun v9 S9 h9 => con_X6_readName F _ _ _ v9 S9 h9) ⟨by omega, by omega⟩ (Nat.le_of_ble_eq_true rfl) dX6_readKite_34 (fun v7 S8 => ?_)
    refine s_last dX6_readKite_37 (fun S9 => ?_)
    refine s_aload_n 0 dX6_readKite_38 rfl rfl ?_
    refine s_getR fk_X6_26 rfl dX6_readKite_39 (fun v10 => ?_)
    refine s_getR fk_X6_97 rfl dX6_readKite_42 (fun v11 => ?_)
    refine s_iload_n 1 dX6_readKite_45 rfl rfl ?_
    refine s_aload_n 0 dX6_readKite_46 rfl rfl ?_
    refine s_cV0I mk_X6_100 (by decide) rfl (fun v9 S9 h9 => con_X6_readKind F _ _ v9 S9 h9) ⟨by omega, by omega⟩ (Nat.le_of_ble_eq_true rfl) dX6_readKite_47 (fun v12 S13 => ?_)
    refine s_iast dX6_readKite_50 (fun S14 => ?_)
    refine s_aload_n 0 dX6_readKite_51 rfl rfl ?_
    refine s_bipush (7 : Int32) dX6_readKite_52 (by decide) ?_
    refine s_cV1V mk_X6_56 (by decide) rfl (fun v9 S9 h9 => con_X6_expect F _ _ _ v9 S9 h9) ⟨by omega, by omega⟩ (Nat.le_of_ble_eq_true rfl) dX6_readKite_54 (fun _ S16 => ?_)
    refine s_aload_n 0 dX6_readKite_57 rfl rfl ?_
    refine s_getR fk_X6_26 rfl dX6_readKite_58 (fun v17 => ?_)
    refine s_getR fk_X6_104 rfl dX6_readKite_61 (fun v18 => ?_)
    refine s_iload_n 1 dX6_readKite_64 rfl rfl ?_
    refine s_aload_n 0 dX6_readKite_65 rfl rfl ?_
    refine s_iconst (0 : Int32) dX6_readKite_66 (by decide) ?_
    refine s_bipush (99 : Int32) dX6_readKite_67 (by decide) ?_
    refine s_cV2I mk_X6_74 (by decide) rfl (fun v9 S9 h9 => con_X6_readNumber F _ _ _ _ v9 S9 h9) ⟨by omega, by omega⟩ (Nat.le_of_ble_eq_true rfl) dX6_readKite_69 (fun v19 S20 => ?_)
    refine s_iast dX6_readKite_72 (fun S21 => ?_)
    refine s_aload_n 0 dX6_readKite_73 rfl rfl ?_
    refine s_bipush (8 : Int32) dX6_readKite_74 (by decide) ?_
    refine s_cV1V mk_X6_56 (by decide) rfl (fun v9 S9 h9 => con_X6_expect F _ _ _ v9 S9 h9) ⟨by omega, by omega⟩ (Nat.le_of_ble_eq_true rfl) dX6_readKite_76 (fun _ S23 => ?_)
    refine s_aload_n 0 dX6_readKite_79 rfl rfl ?_
    refine s_getR fk_X6_26 rfl dX6_readKite_80 (fun v24 => ?_)
    refine s_getR fk_X6_107 rfl dX6_readKite_83 (fun v25 => ?_)
    refine s_iload_n 1 dX6_readKite_86 rfl rfl ?_
    refine s_aload_n 0 dX6_readKite_87 rfl rfl ?_
    refine s_iconst (1 : Int32) dX6_readKite_88 (by decide) ?_
    refine s_bipush (20 : Int32) dX6_readKite_89 (by decide) ?_
    refine s_cV2I mk_X6_74 (by decide) rfl (fun v9 S9 h9 => con_X6_readNumber F _ _ _ _ v9 S9 h9) ⟨by omega, by omega⟩ (Nat.le_of_ble_eq_true rfl) dX6_readKite_91 (fun v26 S27 => ?_)
    refine s_iast dX6_readKite_94 (fun S28 => ?_)
    refine s_aload_n 0 dX6_readKite_95 rfl rfl ?_
    refine s_bipush (9 : Int32) dX6_readKite_96 (by decide) ?_
    refine s_cV1V mk_X6_56 (by decide) rfl (fun v9 S9 h9 => con_X6_expect F _ _ _ v9 S9 h9) ⟨by omega, by omega⟩ (Nat.le_of_ble_eq_true rfl) dX6_readKite_98 (fun _ S30 => ?_)
    refine s_aload_n 0 dX6_readKite_101 rfl rfl ?_
    refine s_getR fk_X6_26 rfl dX6_readKite_102 (fun v31 => ?_)
    refine s_getR fk_X6_110 rfl dX6_readKite_105 (fun v32 => ?_)
    refine s_iload_n 1 dX6_readKite_108 rfl rfl ?_
    refine s_aload_n 0 dX6_readKite_109 rfl rfl ?_
    refine s_iconst (0 : Int32) dX6_readKite_110 (by decide) ?_
    refine s_bipush (99 : Int32) dX6_readKite_111 (by decide) ?_
    refine s_cV2I mk_X6_74 (by decide) rfl (fun v9 S9 h9 => con_X6_readNumber F _ _ _ _ v9 S9 h9) ⟨by omega, by omega⟩ (Nat.le_of_ble_eq_true rfl) dX6_readKite_113 (fun v33 S34 => ?_)
    refine s_iast dX6_readKite_116 (fun S35 => ?_)
    refine s_aload_n 0 dX6_readKite_117 rfl rfl ?_
    refine s_bipush (10 : Int32) dX6_readKite_118 (by decide) ?_
    refine s_cV1V mk_X6_56 (by decide) rfl (fun v9 S9 h9 => con_X6_expect F _ _ _ v9 S9 h9) ⟨by omega, by omega⟩ (Nat.le_of_ble_eq_true rfl) dX6_readKite_120 (fun _ S37 => ?_)
    refine s_aload_n 0 dX6_readKite_123 rfl rfl ?_
    refine s_getR fk_X6_26 rfl dX6_readKite_124 (fun v38 => ?_)
    refine s_getR fk_X6_113 rfl dX6_readKite_127 (fun v39 => ?_)
    refine s_iload_n 1 dX6_readKite_130 rfl rfl ?_
    refine s_aload_n 0 dX6_readKite_131 rfl rfl ?_
    refine s_iconst (0 : Int32) dX6_readKite_132 (by decide) ?_
    refine s_bipush (40 : Int32) dX6_readKite_133 (by decide) ?_
    refine s_cV2I mk_X6_74 (by decide) rfl (fun v9 S9 h9 => con_X6_readNumber F _ _ _ _ v9 S9 h9) ⟨by omega, by omega⟩ (Nat.le_of_ble_eq_true rfl) dX6_readKite_135 (fun v40 S41 => ?_)
    refine s_iast dX6_readKite_138 (fun S42 => ?_)
    refine s_aload_n 0 dX6_readKite_139 rfl rfl ?_
    refine s_getR fk_X6_26 rfl dX6_readKite_140 (fun v43 => ?_)
    refine s_iload_n 1 dX6_readKite_143 rfl rfl ?_
    refine s_iconst (1 : Int32) dX6_readKite_144 (by decide) ?_
    refine s_iadd dX6_readKite_145 ?_
    refine s_putI fk_X6_90 (Or.inl rfl) rfl dX6_readKite_146 (fun S44 => ?_)
    exact s_vret dX6_readKite_149
  · refine s_aload_n 0 dX6_readKite_14 rfl rfl ?_
    refine s_iconst (5 : Int32) dX6_readKite_15 (by decide) ?_
    refine s_cV1V mk_X6_53 (by decide) rfl (fun v9 S9 h9 => con_X6_fail F _ _ _ v9 S9 h9) ⟨by omega, by omega⟩ (Nat.le_of_ble_eq_true rfl) dX6_readKite_16 (fun _ S46 => ?_)
    exact s_vret dX6_readKite_19
-- X6_put
def f_X6_put_32 (F : Nat)  (S : Mem) : Option (Unit × Mem) :=
  some ((), S)
def fn_X6_put (F : Nat) (x0 : Nat) (x1 : Int32) (S : Mem) : Option (Unit × Mem) :=
  (gI S 6 5 x0).bind fun v1 =>
  (gR S 6 2 x0).bind fun v2 =>
  (gLen S v2).bind fun v3 =>
  if v3 ≤ v1 then
    f_X6_put_32 F   S
  else
    (gR S 6 2 x0).bind fun v4 =>
    (gI S 6 5 x0).bind fun v5 =>
    (sA S v4 v5 x1).bind fun S6 =>
    (gI S6 6 5 x0).bind fun v7 =>
    (sI S6 6 5 x0 (v7 + (1 : Int32))).bind fun S8 =>
    f_X6_put_32 F   S8
set_option maxRecDepth 100000 in
theorem t_X6_put_32 {Γ : Cx} {F : Nat} : ∀ (S : Mem), Sim cX6_put RX6 0 0 none false Γ rV (f_X6_put_32 F  S) S 32 [none, none] [] := by
  intro  S
  unfold f_X6_put_32
  exact s_vret dX6_put_32
set_option maxRecDepth 100000 in
theorem con_X6_put {l : Launch} (F : Nat) (x0 : Nat) (x1 : Int32) (S : Mem) (v : Unit) (S1 : Mem) (h : fn_X6_put F x0 x1 S = some (v, S1)) : Con l yX6_put cX6_put 2 none 0 0 [.ref x0, .int x1] S (rV v) S1 := by
  refine con_of (ι := rV) RX6 false [some (.ref x0), some (.int x1)] rfl (fun h => by cases h) (by decide) (Nat.le_of_ble_eq_true rfl) ⟨rfl, rfl⟩ (fun Γ hl => ?_) h
  unfold fn_X6_put
  refine s_aload_n 0 dX6_put_0 rfl rfl ?_
  refine s_getI fk_X6_134 rfl dX6_put_1 (fun v1 => ?_)
  refine s_aload_n 0 dX6_put_4 rfl rfl ?_
  refine s_getR fk_X6_22 rfl dX6_put_5 (fun v2 => ?_)
  refine s_alen dX6_put_8 (fun v3 => ?_)
  refine s_icmp_ge 32 dX6_put_9 (by decide) (fun _ => ?_) (fun _ => ?_)
  · exact s_less (t_X6_put_32   S) trivial
  · refine s_aload_n 0 dX6_put_12 rfl rfl ?_
    refine s_getR fk_X6_22 rfl dX6_put_13 (fun v4 => ?_)
    refine s_aload_n 0 dX6_put_16 rfl rfl ?_
    refine s_getI fk_X6_134 rfl dX6_put_17 (fun v5 => ?_)
    refine s_iload_n 1 dX6_put_20 rfl rfl ?_
    refine s_iast dX6_put_21 (fun S6 => ?_)
    refine s_aload_n 0 dX6_put_22 rfl rfl ?_
    refine s_dup dX6_put_23 rfl ?_
    refine s_getI fk_X6_134 rfl dX6_put_24 (fun v7 => ?_)
    refine s_iconst (1 : Int32) dX6_put_27 (by decide) ?_
    refine s_iadd dX6_put_28 ?_
    refine s_putI fk_X6_134 (Or.inl rfl) rfl dX6_put_29 (fun S8 => ?_)
    exact s_less (t_X6_put_32   S8) trivial
-- X6_readProduct
def f_X6_readProduct_51 (F : Nat) (rp : Nat → Int32 → Mem → Option (Unit × Mem))  (S : Mem) : Option (Unit × Mem) :=
  some ((), S)
def b_X6_readProduct_7 (F : Nat) (rp : Nat → Int32 → Mem → Option (Unit × Mem)) (k7 : Nat → Int32 → Int32 → Mem → Option (Unit × Mem)) (x0 : Nat) (x1 : Int32) (x2 : Int32) (S : Mem) : Option (Unit × Mem) :=
  if (1000 : Int32) ≤ x2 then
    f_X6_readProduct_51 F rp   S
  else
    (gR S 6 0 x0).bind fun v1 =>
    (gI S 1 5 v1).bind fun v2 =>
    if v2 = (33 : Int32) then
      (gR S 6 0 x0).bind fun v3 =>
      bd (cal S 1 v3 (fn_X1_step F v3 S)) fun _ S5 =>
      bd (cal S5 6 x0 (rp x0 x1 S5)) fun _ S7 =>
      bd (cal S7 6 x0 (fn_X6_put F x0 (10033 : Int32) S7)) fun _ S9 =>
      k7 x0 x1 (x2 + (1 : Int32)) S9
    else
      f_X6_readProduct_51 F rp   S
def fn_X6_readProduct (F : Nat) (rp : Nat → Int32 → Mem → Option (Unit × Mem)) (x0 : Nat) (x1 : Int32) (S : Mem) : Option (Unit × Mem) :=
  bd (cal S 6 x0 (rp x0 x1 S)) fun _ S2 =>
  fix3 (b_X6_readProduct_7 F rp) F x0 x1 (0 : Int32) S2
set_option maxRecDepth 100000 in
theorem t_X6_readProduct_51 {Γ : Cx} {F : Nat} {rp : Nat → Int32 → Mem → Option (Unit × Mem)} {frR loR : Nat} (hrp : ∀ (z0 : Nat) (z1 : Int32) (S : Mem) (v : Unit) (S1 : Mem), rp z0 z1 S = some (v, S1) → Con (lOf Γ) yX6_readPart cX6_readPart 3 none frR loR [.ref z0, .int z1] S (rV v) S1) : ∀ (S : Mem), Sim cX6_readProduct RX6 (frR + 3) (loR + 63) none false Γ rV (f_X6_readProduct_51 F rp  S) S 51 [none, none, none] [] := by
  intro  S
  unfold f_X6_readProduct_51
  exact s_vret dX6_readProduct_51
set_option maxRecDepth 100000 in
theorem t_X6_readProduct_7 {Γ : Cx} {F : Nat} {rp : Nat → Int32 → Mem → Option (Unit × Mem)} {frR loR : Nat} (hrp : ∀ (z0 : Nat) (z1 : Int32) (S : Mem) (v : Unit) (S1 : Mem), rp z0 z1 S = some (v, S1) → Con (lOf Γ) yX6_readPart cX6_readPart 3 none frR loR [.ref z0, .int z1] S (rV v) S1) : ∀ (f : Nat) (x0 : Nat) (x1 : Int32) (x2 : Int32) (S : Mem), Sim cX6_readProduct RX6 (frR + 3) (loR + 63) none false Γ rV (fix3 (b_X6_readProduct_7 F rp) f x0 x1 x2 S) S 7 [some (.ref x0), some (.int x1), some (.int x2)] [] := by
  refine s_fix3 (fun (x0 : Nat) (x1 : Int32) (x2 : Int32) => [some (.ref x0), some (.int x1), some (.int x2)]) (fun k7 hk7 => ?_)
  intro x0 x1 x2 S
  unfold b_X6_readProduct_7
  refine s_iload_n 2 dX6_readProduct_7 rfl rfl ?_
  refine s_sipush (1000 : Int32) dX6_readProduct_8 (by decide) ?_
  refine s_icmp_ge 51 dX6_readProduct_11 (by decide) (fun _ => ?_) (fun _ => ?_)
  · exact s_less (t_X6_readProduct_51 hrp   S) trivial
  · refine s_aload_n 0 dX6_readProduct_14 rfl rfl ?_
    refine s_getR fk_X6_12 rfl dX6_readProduct_15 (fun v1 => ?_)
    refine s_getI fk_X6_41 rfl dX6_readProduct_18 (fun v2 => ?_)
    refine s_bipush (33 : Int32) dX6_readProduct_21 (by decide) ?_
    refine s_icmp_ne 51 dX6_readProduct_23 (by decide) (fun _ => ?_) (fun _ => ?_)
    · exact s_less (t_X6_readProduct_51 hrp   S) trivial
    · refine s_aload_n 0 dX6_readProduct_26 rfl rfl ?_
      refine s_getR fk_X6_12 rfl dX6_readProduct_27 (fun v3 => ?_)
      refine s_cV0V mk_X6_59 (by decide) rfl (fun v9 S9 h9 => con_X1_step F _ _ v9 S9 h9) ⟨by omega, by omega⟩ (Nat.le_of_ble_eq_true rfl) dX6_readProduct_30 (fun _ S5 => ?_)
      refine s_aload_n 0 dX6_readProduct_33 rfl rfl ?_
      refine s_iload_n 1 dX6_readProduct_34 rfl rfl ?_
      refine s_cV1V mk_X6_160 (by decide) rfl (fun v9 S9 h9 => hrp _ _ _ v9 S9 h9) ⟨by omega, by omega⟩ (Nat.le_of_ble_eq_true rfl) dX6_readProduct_35 (fun _ S7 => ?_)
      refine s_aload_n 0 dX6_readProduct_38 rfl rfl ?_
      refine s_sipush (10033 : Int32) dX6_readProduct_39 (by decide) ?_
      refine s_cV1V mk_X6_151 (by decide) rfl (fun v9 S9 h9 => con_X6_put F _ _ _ v9 S9 h9) ⟨by omega, by omega⟩ (Nat.le_of_ble_eq_true rfl) dX6_readProduct_42 (fun _ S9 => ?_)
      refine s_iinc_2 (1 : Int32) dX6_readProduct_45 (by decide) rfl ?_
      refine s_goto 7 dX6_readProduct_48 (by decide) ?_
      exact s_less (hk7 x0 x1 (x2 + (1 : Int32)) S9) (And.intro rfl (And.intro rfl (And.intro rfl trivial)))
set_option maxRecDepth 100000 in
theorem con_X6_readProduct {l : Launch} (F : Nat) (rp : Nat → Int32 → Mem → Option (Unit × Mem)) {frR loR : Nat} (hrp : ∀ (z0 : Nat) (z1 : Int32) (S : Mem) (v : Unit) (S1 : Mem), rp z0 z1 S = some (v, S1) → Con l yX6_readPart cX6_readPart 3 none frR loR [.ref z0, .int z1] S (rV v) S1) (x0 : Nat) (x1 : Int32) (S : Mem) (v : Unit) (S1 : Mem) (h : fn_X6_readProduct F rp x0 x1 S = some (v, S1)) : Con l yX6_readProduct cX6_readProduct 3 none (frR + 3) (loR + 63) [.ref x0, .int x1] S (rV v) S1 := by
  refine con_of (ι := rV) RX6 false [some (.ref x0), some (.int x1), none] rfl (fun h => by cases h) (by decide) (Nat.le_of_ble_eq_true rfl) ⟨rfl, rfl⟩ (fun Γ hl => ?_) h
  subst hl
  unfold fn_X6_readProduct
  refine s_aload_n 0 dX6_readProduct_0 rfl rfl ?_
  refine s_iload_n 1 dX6_readProduct_1 rfl rfl ?_
  refine s_cV1V mk_X6_160 (by decide) rfl (fun v9 S9 h9 => hrp _ _ _ v9 S9 h9) ⟨by omega, by omega⟩ (Nat.le_of_ble_eq_true rfl) dX6_readProduct_2 (fun _ S2 => ?_)
  refine s_iconst (0 : Int32) dX6_readProduct_5 (by decide) ?_
  refine s_istore_2 dX6_readProduct_6 rfl ?_
  exact s_less (t_X6_readProduct_7 hrp F x0 x1 (0 : Int32) S2) (And.intro rfl (And.intro rfl (And.intro rfl trivial)))
-- X6_readSum
def f_X6_readSum_73 (F : Nat) (rp : Nat → Int32 → Mem → Option (Unit × Mem))  (S : Mem) : Option (Unit × Mem) :=
  some ((), S)
def f_X6_readSum_38 (F : Nat) (rp : Nat → Int32 → Mem → Option (Unit × Mem)) (k7 : Nat → Int32 → Int32 → Mem → Option (Unit × Mem)) (x0 : Nat) (x1 : Int32) (x2 : Int32) (S : Mem) : Option (Unit × Mem) :=
  (gR S 6 0 x0).bind fun v1 =>
  (gI S 1 5 v1).bind fun v2 =>
  (gR S 6 0 x0).bind fun v3 =>
  bd (cal S 1 v3 (fn_X1_step F v3 S)) fun _ S5 =>
  bd (cal S5 6 x0 (fn_X6_readProduct F rp x0 x1 S5)) fun _ S7 =>
  bd (cal S7 6 x0 (fn_X6_put F x0 ((10000 : Int32) + v2) S7)) fun _ S9 =>
  k7 x0 x1 (x2 + (1 : Int32)) S9
def b_X6_readSum_7 (F : Nat) (rp : Nat → Int32 → Mem → Option (Unit × Mem)) (k7 : Nat → Int32 → Int32 → Mem → Option (Unit × Mem)) (x0 : Nat) (x1 : Int32) (x2 : Int32) (S : Mem) : Option (Unit × Mem) :=
  if (1000 : Int32) ≤ x2 then
    f_X6_readSum_73 F rp   S
  else
    (gR S 6 0 x0).bind fun v1 =>
    (gI S 1 5 v1).bind fun v2 =>
    if v2 = (31 : Int32) then
      f_X6_readSum_38 F rp k7 x0 x1 x2  S
    else
      (gR S 6 0 x0).bind fun v3 =>
      (gI S 1 5 v3).bind fun v4 =>
      if v4 = (32 : Int32) then
        f_X6_readSum_38 F rp k7 x0 x1 x2  S
      else
        f_X6_readSum_73 F rp   S
def fn_X6_readSum (F : Nat) (rp : Nat → Int32 → Mem → Option (Unit × Mem)) (x0 : Nat) (x1 : Int32) (S : Mem) : Option (Unit × Mem) :=
  bd (cal S 6 x0 (fn_X6_readProduct F rp x0 x1 S)) fun _ S2 =>
  fix3 (b_X6_readSum_7 F rp) F x0 x1 (0 : Int32) S2
set_option maxRecDepth 100000 in
theorem t_X6_readSum_73 {Γ : Cx} {F : Nat} {rp : Nat → Int32 → Mem → Option (Unit × Mem)} {frR loR : Nat} (hrp : ∀ (z0 : Nat) (z1 : Int32) (S : Mem) (v : Unit) (S1 : Mem), rp z0 z1 S = some (v, S1) → Con (lOf Γ) yX6_readPart cX6_readPart 3 none frR loR [.ref z0, .int z1] S (rV v) S1) : ∀ (S : Mem), Sim cX6_readSum RX6 (frR + 4) (loR + 85) none false Γ rV (f_X6_readSum_73 F rp  S) S 73 [none, none, none, none] [] := by
  intro  S
  unfold f_X6_readSum_73
  exact s_vret dX6_readSum_73
set_option maxRecDepth 100000 in
theorem t_X6_readSum_38 {Γ : Cx} {F : Nat} {rp : Nat → Int32 → Mem → Option (Unit × Mem)} {frR loR : Nat} (hrp : ∀ (z0 : Nat) (z1 : Int32) (S : Mem) (v : Unit) (S1 : Mem), rp z0 z1 S = some (v, S1) → Con (lOf Γ) yX6_readPart cX6_readPart 3 none frR loR [.ref z0, .int z1] S (rV v) S1) {k7 : Nat → Int32 → Int32 → Mem → Option (Unit × Mem)} (hk7 : ∀ (x0 : Nat) (x1 : Int32) (x2 : Int32) (S : Mem), Sim cX6_readSum RX6 (frR + 4) (loR + 85) none false Γ rV (k7 x0 x1 x2 S) S 7 [some (.ref x0), some (.int x1), some (.int x2), none] []) : ∀ (x0 : Nat) (x1 : Int32) (x2 : Int32) (S : Mem), Sim cX6_readSum RX6 (frR + 4) (loR + 85) none false Γ rV (f_X6_readSum_38 F rp k7 x0 x1 x2 S) S 38 [some (.ref x0), some (.int x1), some (.int x2), none] [] := by
  intro x0 x1 x2 S
  unfold f_X6_readSum_38
  refine s_aload_n 0 dX6_readSum_38 rfl rfl ?_
  refine s_getR fk_X6_12 rfl dX6_readSum_39 (fun v1 => ?_)
  refine s_getI fk_X6_41 rfl dX6_readSum_42 (fun v2 => ?_)
  refine s_istore_3 dX6_readSum_45 rfl ?_
  refine s_aload_n 0 dX6_readSum_46 rfl rfl ?_
  refine s_getR fk_X6_12 rfl dX6_readSum_47 (fun v3 => ?_)
  refine s_cV0V mk_X6_59 (by decide) rfl (fun v9 S9 h9 => con_X1_step F _ _ v9 S9 h9) ⟨by omega, by omega⟩ (Nat.le_of_ble_eq_true rfl) dX6_readSum_50 (fun _ S5 => ?_)
  refine s_aload_n 0 dX6_readSum_53 rfl rfl ?_
  refine s_iload_n 1 dX6_readSum_54 rfl rfl ?_
  refine s_cV1V mk_X6_157 (by decide) rfl (fun v9 S9 h9 => con_X6_readProduct F rp hrp _ _ _ v9 S9 h9) ⟨by omega, by omega⟩ (Nat.le_of_ble_eq_true rfl) dX6_readSum_55 (fun _ S7 => ?_)
  refine s_aload_n 0 dX6_readSum_58 rfl rfl ?_
  refine s_sipush (10000 : Int32) dX6_readSum_59 (by decide) ?_
  refine s_iload_n 3 dX6_readSum_62 rfl rfl ?_
  refine s_iadd dX6_readSum_63 ?_
  refine s_cV1V mk_X6_151 (by decide) rfl (fun v9 S9 h9 => con_X6_put F _ _ _ v9 S9 h9) ⟨by omega, by omega⟩ (Nat.le_of_ble_eq_true rfl) dX6_readSum_64 (fun _ S9 => ?_)
  refine s_iinc_2 (1 : Int32) dX6_readSum_67 (by decide) rfl ?_
  refine s_goto 7 dX6_readSum_70 (by decide) ?_
  exact s_less (hk7 x0 x1 (x2 + (1 : Int32)) S9) (And.intro rfl (And.intro rfl (And.intro rfl trivial)))
set_option maxRecDepth 100000 in
theorem t_X6_readSum_7 {Γ : Cx} {F : Nat} {rp : Nat → Int32 → Mem → Option (Unit × Mem)} {frR loR : Nat} (hrp : ∀ (z0 : Nat) (z1 : Int32) (S : Mem) (v : Unit) (S1 : Mem), rp z0 z1 S = some (v, S1) → Con (lOf Γ) yX6_readPart cX6_readPart 3 none frR loR [.ref z0, .int z1] S (rV v) S1) : ∀ (f : Nat) (x0 : Nat) (x1 : Int32) (x2 : Int32) (S : Mem), Sim cX6_readSum RX6 (frR + 4) (loR + 85) none false Γ rV (fix3 (b_X6_readSum_7 F rp) f x0 x1 x2 S) S 7 [some (.ref x0), some (.int x1), some (.int x2), none] [] := by
  refine s_fix3 (fun (x0 : Nat) (x1 : Int32) (x2 : Int32) => [some (.ref x0), some (.int x1), some (.int x2), none]) (fun k7 hk7 => ?_)
  intro x0 x1 x2 S
  unfold b_X6_readSum_7
  refine s_iload_n 2 dX6_readSum_7 rfl rfl ?_
  refine s_sipush (1000 : Int32) dX6_readSum_8 (by decide) ?_
  refine s_icmp_ge 73 dX6_readSum_11 (by decide) (fun _ => ?_) (fun _ => ?_)
  · exact s_less (t_X6_readSum_73 hrp   S) trivial
  · refine s_aload_n 0 dX6_readSum_14 rfl rfl ?_
    refine s_getR fk_X6_12 rfl dX6_readSum_15 (fun v1 => ?_)
    refine s_getI fk_X6_41 rfl dX6_readSum_18 (fun v2 => ?_)
    refine s_bipush (31 : Int32) dX6_readSum_21 (by decide) ?_
    refine s_icmp_eq 38 dX6_readSum_23 (by decide) (fun _ => ?_) (fun _ => ?_)
    · exact s_less (t_X6_readSum_38 hrp hk7 x0 x1 x2  S) (And.intro rfl (And.intro rfl (And.intro rfl trivial)))
    · refine s_aload_n 0 dX6_readSum_26 rfl rfl ?_
      refine s_getR fk_X6_12 rfl dX6_readSum_27 (fun v3 => ?_)
      refine s_getI fk_X6_41 rfl dX6_readSum_30 (fun v4 => ?_)
      refine s_bipush (32 : Int32) dX6_readSum_33 (by decide) ?_
      refine s_icmp_ne 73 dX6_readSum_35 (by decide) (fun _ => ?_) (fun _ => ?_)
      · exact s_less (t_X6_readSum_73 hrp   S) trivial
      · exact s_less (t_X6_readSum_38 hrp hk7 x0 x1 x2  S) (And.intro rfl (And.intro rfl (And.intro rfl trivial)))
set_option maxRecDepth 100000 in
theorem con_X6_readSum {l : Launch} (F : Nat) (rp : Nat → Int32 → Mem → Option (Unit × Mem)) {frR loR : Nat} (hrp : ∀ (z0 : Nat) (z1 : Int32) (S : Mem) (v : Unit) (S1 : Mem), rp z0 z1 S = some (v, S1) → Con l yX6_readPart cX6_readPart 3 none frR loR [.ref z0, .int z1] S (rV v) S1) (x0 : Nat) (x1 : Int32) (S : Mem) (v : Unit) (S1 : Mem) (h : fn_X6_readSum F rp x0 x1 S = some (v, S1)) : Con l yX6_readSum cX6_readSum 4 none (frR + 4) (loR + 85) [.ref x0, .int x1] S (rV v) S1 := by
  refine con_of (ι := rV) RX6 false [some (.ref x0), some (.int x1), none, none] rfl (fun h => by cases h) (by decide) (Nat.le_of_ble_eq_true rfl) ⟨rfl, rfl⟩ (fun Γ hl => ?_) h
  subst hl
  unfold fn_X6_readSum
  refine s_aload_n 0 dX6_readSum_0 rfl rfl ?_
  refine s_iload_n 1 dX6_readSum_1 rfl rfl ?_
  refine s_cV1V mk_X6_157 (by decide) rfl (fun v9 S9 h9 => con_X6_readProduct F rp hrp _ _ _ v9 S9 h9) ⟨by omega, by omega⟩ (Nat.le_of_ble_eq_true rfl) dX6_readSum_2 (fun _ S2 => ?_)
  refine s_iconst (0 : Int32) dX6_readSum_5 (by decide) ?_
  refine s_istore_2 dX6_readSum_6 rfl ?_
  exact s_less (t_X6_readSum_7 hrp F x0 x1 (0 : Int32) S2) (And.intro rfl (And.intro rfl (And.intro rfl trivial)))
-- X6_readTest
def f_X6_readTest_58 (F : Nat) (rp : Nat → Int32 → Mem → Option (Unit × Mem))  (S : Mem) : Option (Unit × Mem) :=
  some ((), S)
def f_X6_readTest_29 (F : Nat) (rp : Nat → Int32 → Mem → Option (Unit × Mem)) (x0 : Nat) (x1 : Int32) (S : Mem) : Option (Unit × Mem) :=
  (gR S 6 0 x0).bind fun v1 =>
  (gI S 1 5 v1).bind fun v2 =>
  (gR S 6 0 x0).bind fun v3 =>
  bd (cal S 1 v3 (fn_X1_step F v3 S)) fun _ S5 =>
  bd (cal S5 6 x0 (fn_X6_readSum F rp x0 x1 S5)) fun _ S7 =>
  bd (cal S7 6 x0 (fn_X6_put F x0 ((10000 : Int32) + v2) S7)) fun _ S9 =>
  f_X6_readTest_58 F rp   S9
def fn_X6_readTest (F : Nat) (rp : Nat → Int32 → Mem → Option (Unit × Mem)) (x0 : Nat) (x1 : Int32) (S : Mem) : Option (Unit × Mem) :=
  bd (cal S 6 x0 (fn_X6_readSum F rp x0 x1 S)) fun _ S2 =>
  (gR S2 6 0 x0).bind fun v3 =>
  (gI S2 1 5 v3).bind fun v4 =>
  if v4 = (29 : Int32) then
    f_X6_readTest_29 F rp x0 x1  S2
  else
    (gR S2 6 0 x0).bind fun v5 =>
    (gI S2 1 5 v5).bind fun v6 =>
    if v6 = (30 : Int32) then
      f_X6_readTest_29 F rp x0 x1  S2
    else
      f_X6_readTest_58 F rp   S2
set_option maxRecDepth 100000 in
theorem t_X6_readTest_58 {Γ : Cx} {F : Nat} {rp : Nat → Int32 → Mem → Option (Unit × Mem)} {frR loR : Nat} (hrp : ∀ (z0 : Nat) (z1 : Int32) (S : Mem) (v : Unit) (S1 : Mem), rp z0 z1 S = some (v, S1) → Con (lOf Γ) yX6_readPart cX6_readPart 3 none frR loR [.ref z0, .int z1] S (rV v) S1) : ∀ (S : Mem), Sim cX6_readTest RX6 (frR + 5) (loR + 108) none false Γ rV (f_X6_readTest_58 F rp  S) S 58 [none, none, none] [] := by
  intro  S
  unfold f_X6_readTest_58
  exact s_vret dX6_readTest_58
set_option maxRecDepth 100000 in
theorem t_X6_readTest_29 {Γ : Cx} {F : Nat} {rp : Nat → Int32 → Mem → Option (Unit × Mem)} {frR loR : Nat} (hrp : ∀ (z0 : Nat) (z1 : Int32) (S : Mem) (v : Unit) (S1 : Mem), rp z0 z1 S = some (v, S1) → Con (lOf Γ) yX6_readPart cX6_readPart 3 none frR loR [.ref z0, .int z1] S (rV v) S1) : ∀ (x0 : Nat) (x1 : Int32) (S : Mem), Sim cX6_readTest RX6 (frR + 5) (loR + 108) none false Γ rV (f_X6_readTest_29 F rp x0 x1 S) S 29 [some (.ref x0), some (.int x1), none] [] := by
  intro x0 x1 S
  unfold f_X6_readTest_29
  refine s_aload_n 0 dX6_readTest_29 rfl rfl ?_
  refine s_getR fk_X6_12 rfl dX6_readTest_30 (fun v1 => ?_)
  refine s_getI fk_X6_41 rfl dX6_readTest_33 (fun v2 => ?_)
  refine s_istore_2 dX6_readTest_36 rfl ?_
  refine s_aload_n 0 dX6_readTest_37 rfl rfl ?_
  refine s_getR fk_X6_12 rfl dX6_readTest_38 (fun v3 => ?_)
  refine s_cV0V mk_X6_59 (by decide) rfl (fun v9 S9 h9 => con_X1_step F _ _ v9 S9 h9) ⟨by omega, by omega⟩ (Nat.le_of_ble_eq_true rfl) dX6_readTest_41 (fun _ S5 => ?_)
  refine s_aload_n 0 dX6_readTest_44 rfl rfl ?_
  refine s_iload_n 1 dX6_readTest_45 rfl rfl ?_
  refine s_cV1V mk_X6_154 (by decide) rfl (fun v9 S9 h9 => con_X6_readSum F rp hrp _ _ _ v9 S9 h9) ⟨by omega, by omega⟩ (Nat.le_of_ble_eq_true rfl) dX6_readTest_46 (fun _ S7 => ?_)
  refine s_aload_n 0 dX6_readTest_49 rfl rfl ?_
  refine s_sipush (10000 : Int32) dX6_readTest_50 (by decide) ?_
  refine s_iload_n 2 dX6_readTest_53 rfl rfl ?_
  refine s_iadd dX6_readTest_54 ?_
  refine s_cV1V mk_X6_151 (by decide) rfl (fun v9 S9 h9 => con_X6_put F _ _ _ v9 S9 h9) ⟨by omega, by omega⟩ (Nat.le_of_ble_eq_true rfl) dX6_readTest_55 (fun _ S9 => ?_)
  exact s_less (t_X6_readTest_58 hrp   S9) trivial
set_option maxRecDepth 100000 in
theorem con_X6_readTest {l : Launch} (F : Nat) (rp : Nat → Int32 → Mem → Option (Unit × Mem)) {frR loR : Nat} (hrp : ∀ (z0 : Nat) (z1 : Int32) (S : Mem) (v : Unit) (S1 : Mem), rp z0 z1 S = some (v, S1) → Con l yX6_readPart cX6_readPart 3 none frR loR [.ref z0, .int z1] S (rV v) S1) (x0 : Nat) (x1 : Int32) (S : Mem) (v : Unit) (S1 : Mem) (h : fn_X6_readTest F rp x0 x1 S = some (v, S1)) : Con l yX6_readTest cX6_readTest 3 none (frR + 5) (loR + 108) [.ref x0, .int x1] S (rV v) S1 := by
  refine con_of (ι := rV) RX6 false [some (.ref x0), some (.int x1), none] rfl (fun h => by cases h) (by decide) (Nat.le_of_ble_eq_true rfl) ⟨rfl, rfl⟩ (fun Γ hl => ?_) h
  subst hl
  unfold fn_X6_readTest
  refine s_aload_n 0 dX6_readTest_0 rfl rfl ?_
  refine s_iload_n 1 dX6_readTest_1 rfl rfl ?_
  refine s_cV1V mk_X6_154 (by decide) rfl (fun v9 S9 h9 => con_X6_readSum F rp hrp _ _ _ v9 S9 h9) ⟨by omega, by omega⟩ (Nat.le_of_ble_eq_true rfl) dX6_readTest_2 (fun _ S2 => ?_)
  refine s_aload_n 0 dX6_readTest_5 rfl rfl ?_
  refine s_getR fk_X6_12 rfl dX6_readTest_6 (fun v3 => ?_)
  refine s_getI fk_X6_41 rfl dX6_readTest_9 (fun v4 => ?_)
  refine s_bipush (29 : Int32) dX6_readTest_12 (by decide) ?_
  refine s_icmp_eq 29 dX6_readTest_14 (by decide) (fun _ => ?_) (fun _ => ?_)
  · exact s_less (t_X6_readTest_29 hrp x0 x1  S2) (And.intro rfl (And.intro rfl trivial))
  · refine s_aload_n 0 dX6_readTest_17 rfl rfl ?_
    refine s_getR fk_X6_12 rfl dX6_readTest_18 (fun v5 => ?_)
    refine s_getI fk_X6_41 rfl dX6_readTest_21 (fun v6 => ?_)
    refine s_bipush (30 : Int32) dX6_readTest_24 (by decide) ?_
    refine s_icmp_ne 58 dX6_readTest_26 (by decide) (fun _ => ?_) (fun _ => ?_)
    · exact s_less (t_X6_readTest_58 hrp   S2) trivial
    · exact s_less (t_X6_readTest_29 hrp x0 x1  S2) (And.intro rfl (And.intro rfl trivial))
-- X6_readTests
def f_X6_readTests_73 (F : Nat) (rp : Nat → Int32 → Mem → Option (Unit × Mem))  (S : Mem) : Option (Unit × Mem) :=
  some ((), S)
def f_X6_readTests_38 (F : Nat) (rp : Nat → Int32 → Mem → Option (Unit × Mem)) (k7 : Nat → Int32 → Int32 → Mem → Option (Unit × Mem)) (x0 : Nat) (x1 : Int32) (x2 : Int32) (S : Mem) : Option (Unit × Mem) :=
  (gR S 6 0 x0).bind fun v1 =>
  (gI S 1 5 v1).bind fun v2 =>
  (gR S 6 0 x0).bind fun v3 =>
  bd (cal S 1 v3 (fn_X1_step F v3 S)) fun _ S5 =>
  bd (cal S5 6 x0 (fn_X6_readTest F rp x0 x1 S5)) fun _ S7 =>
  bd (cal S7 6 x0 (fn_X6_put F x0 ((10000 : Int32) + v2) S7)) fun _ S9 =>
  k7 x0 x1 (x2 + (1 : Int32)) S9
def b_X6_readTests_7 (F : Nat) (rp : Nat → Int32 → Mem → Option (Unit × Mem)) (k7 : Nat → Int32 → Int32 → Mem → Option (Unit × Mem)) (x0 : Nat) (x1 : Int32) (x2 : Int32) (S : Mem) : Option (Unit × Mem) :=
  if (1000 : Int32) ≤ x2 then
    f_X6_readTests_73 F rp   S
  else
    (gR S 6 0 x0).bind fun v1 =>
    (gI S 1 5 v1).bind fun v2 =>
    if v2 = (18 : Int32) then
      f_X6_readTests_38 F rp k7 x0 x1 x2  S
    else
      (gR S 6 0 x0).bind fun v3 =>
      (gI S 1 5 v3).bind fun v4 =>
      if v4 = (19 : Int32) then
        f_X6_readTests_38 F rp k7 x0 x1 x2  S
      else
        f_X6_readTests_73 F rp   S
def fn_X6_readTests (F : Nat) (rp : Nat → Int32 → Mem → Option (Unit × Mem)) (x0 : Nat) (x1 : Int32) (S : Mem) : Option (Unit × Mem) :=
  bd (cal S 6 x0 (fn_X6_readTest F rp x0 x1 S)) fun _ S2 =>
  fix3 (b_X6_readTests_7 F rp) F x0 x1 (0 : Int32) S2
set_option maxRecDepth 100000 in
theorem t_X6_readTests_73 {Γ : Cx} {F : Nat} {rp : Nat → Int32 → Mem → Option (Unit × Mem)} {frR loR : Nat} (hrp : ∀ (z0 : Nat) (z1 : Int32) (S : Mem) (v : Unit) (S1 : Mem), rp z0 z1 S = some (v, S1) → Con (lOf Γ) yX6_readPart cX6_readPart 3 none frR loR [.ref z0, .int z1] S (rV v) S1) : ∀ (S : Mem), Sim cX6_readTests RX6 (frR + 6) (loR + 130) none false Γ rV (f_X6_readTests_73 F rp  S) S 73 [none, none, none, none] [] := by
  intro  S
  unfold f_X6_readTests_73
  exact s_vret dX6_readTests_73
set_option maxRecDepth 100000 in
theorem t_X6_readTests_38 {Γ : Cx} {F : Nat} {rp : Nat → Int32 → Mem → Option (Unit × Mem)} {frR loR : Nat} (hrp : ∀ (z0 : Nat) (z1 : Int32) (S : Mem) (v : Unit) (S1 : Mem), rp z0 z1 S = some (v, S1) → Con (lOf Γ) yX6_readPart cX6_readPart 3 none frR loR [.ref z0, .int z1] S (rV v) S1) {k7 : Nat → Int32 → Int32 → Mem → Option (Unit × Mem)} (hk7 : ∀ (x0 : Nat) (x1 : Int32) (x2 : Int32) (S : Mem), Sim cX6_readTests RX6 (frR + 6) (loR + 130) none false Γ rV (k7 x0 x1 x2 S) S 7 [some (.ref x0), some (.int x1), some (.int x2), none] []) : ∀ (x0 : Nat) (x1 : Int32) (x2 : Int32) (S : Mem), Sim cX6_readTests RX6 (frR + 6) (loR + 130) none false Γ rV (f_X6_readTests_38 F rp k7 x0 x1 x2 S) S 38 [some (.ref x0), some (.int x1), some (.int x2), none] [] := by
  intro x0 x1 x2 S
  unfold f_X6_readTests_38
  refine s_aload_n 0 dX6_readTests_38 rfl rfl ?_
  refine s_getR fk_X6_12 rfl dX6_readTests_39 (fun v1 => ?_)
  refine s_getI fk_X6_41 rfl dX6_readTests_42 (fun v2 => ?_)
  refine s_istore_3 dX6_readTests_45 rfl ?_
  refine s_aload_n 0 dX6_readTests_46 rfl rfl ?_
  refine s_getR fk_X6_12 rfl dX6_readTests_47 (fun v3 => ?_)
  refine s_cV0V mk_X6_59 (by decide) rfl (fun v9 S9 h9 => con_X1_step F _ _ v9 S9 h9) ⟨by omega, by omega⟩ (Nat.le_of_ble_eq_true rfl) dX6_readTests_50 (fun _ S5 => ?_)
  refine s_aload_n 0 dX6_readTests_53 rfl rfl ?_
  refine s_iload_n 1 dX6_readTests_54 rfl rfl ?_
  refine s_cV1V mk_X6_146 (by decide) rfl (fun v9 S9 h9 => con_X6_readTest F rp hrp _ _ _ v9 S9 h9) ⟨by omega, by omega⟩ (Nat.le_of_ble_eq_true rfl) dX6_readTests_55 (fun _ S7 => ?_)
  refine s_aload_n 0 dX6_readTests_58 rfl rfl ?_
  refine s_sipush (10000 : Int32) dX6_readTests_59 (by decide) ?_
  refine s_iload_n 3 dX6_readTests_62 rfl rfl ?_
  refine s_iadd dX6_readTests_63 ?_
  refine s_cV1V mk_X6_151 (by decide) rfl (fun v9 S9 h9 => con_X6_put F _ _ _ v9 S9 h9) ⟨by omega, by omega⟩ (Nat.le_of_ble_eq_true rfl) dX6_readTests_64 (fun _ S9 => ?_)
  refine s_iinc_2 (1 : Int32) dX6_readTests_67 (by decide) rfl ?_
  refine s_goto 7 dX6_readTests_70 (by decide) ?_
  exact s_less (hk7 x0 x1 (x2 + (1 : Int32)) S9) (And.intro rfl (And.intro rfl (And.intro rfl trivial)))
set_option maxRecDepth 100000 in
theorem t_X6_readTests_7 {Γ : Cx} {F : Nat} {rp : Nat → Int32 → Mem → Option (Unit × Mem)} {frR loR : Nat} (hrp : ∀ (z0 : Nat) (z1 : Int32) (S : Mem) (v : Unit) (S1 : Mem), rp z0 z1 S = some (v, S1) → Con (lOf Γ) yX6_readPart cX6_readPart 3 none frR loR [.ref z0, .int z1] S (rV v) S1) : ∀ (f : Nat) (x0 : Nat) (x1 : Int32) (x2 : Int32) (S : Mem), Sim cX6_readTests RX6 (frR + 6) (loR + 130) none false Γ rV (fix3 (b_X6_readTests_7 F rp) f x0 x1 x2 S) S 7 [some (.ref x0), some (.int x1), some (.int x2), none] [] := by
  refine s_fix3 (fun (x0 : Nat) (x1 : Int32) (x2 : Int32) => [some (.ref x0), some (.int x1), some (.int x2), none]) (fun k7 hk7 => ?_)
  intro x0 x1 x2 S
  unfold b_X6_readTests_7
  refine s_iload_n 2 dX6_readTests_7 rfl rfl ?_
  refine s_sipush (1000 : Int32) dX6_readTests_8 (by decide) ?_
  refine s_icmp_ge 73 dX6_readTests_11 (by decide) (fun _ => ?_) (fun _ => ?_)
  · exact s_less (t_X6_readTests_73 hrp   S) trivial
  · refine s_aload_n 0 dX6_readTests_14 rfl rfl ?_
    refine s_getR fk_X6_12 rfl dX6_readTests_15 (fun v1 => ?_)
    refine s_getI fk_X6_41 rfl dX6_readTests_18 (fun v2 => ?_)
    refine s_bipush (18 : Int32) dX6_readTests_21 (by decide) ?_
    refine s_icmp_eq 38 dX6_readTests_23 (by decide) (fun _ => ?_) (fun _ => ?_)
    · exact s_less (t_X6_readTests_38 hrp hk7 x0 x1 x2  S) (And.intro rfl (And.intro rfl (And.intro rfl trivial)))
    · refine s_aload_n 0 dX6_readTests_26 rfl rfl ?_
      refine s_getR fk_X6_12 rfl dX6_readTests_27 (fun v3 => ?_)
      refine s_getI fk_X6_41 rfl dX6_readTests_30 (fun v4 => ?_)
      refine s_bipush (19 : Int32) dX6_readTests_33 (by decide) ?_
      refine s_icmp_ne 73 dX6_readTests_35 (by decide) (fun _ => ?_) (fun _ => ?_)
      · exact s_less (t_X6_readTests_73 hrp   S) trivial
      · exact s_less (t_X6_readTests_38 hrp hk7 x0 x1 x2  S) (And.intro rfl (And.intro rfl (And.intro rfl trivial)))
set_option maxRecDepth 100000 in
theorem con_X6_readTests {l : Launch} (F : Nat) (rp : Nat → Int32 → Mem → Option (Unit × Mem)) {frR loR : Nat} (hrp : ∀ (z0 : Nat) (z1 : Int32) (S : Mem) (v : Unit) (S1 : Mem), rp z0 z1 S = some (v, S1) → Con l yX6_readPart cX6_readPart 3 none frR loR [.ref z0, .int z1] S (rV v) S1) (x0 : Nat) (x1 : Int32) (S : Mem) (v : Unit) (S1 : Mem) (h : fn_X6_readTests F rp x0 x1 S = some (v, S1)) : Con l yX6_readTests cX6_readTests 4 none (frR + 6) (loR + 130) [.ref x0, .int x1] S (rV v) S1 := by
  refine con_of (ι := rV) RX6 false [some (.ref x0), some (.int x1), none, none] rfl (fun h => by cases h) (by decide) (Nat.le_of_ble_eq_true rfl) ⟨rfl, rfl⟩ (fun Γ hl => ?_) h
  subst hl
  unfold fn_X6_readTests
  refine s_aload_n 0 dX6_readTests_0 rfl rfl ?_
  refine s_iload_n 1 dX6_readTests_1 rfl rfl ?_
  refine s_cV1V mk_X6_146 (by decide) rfl (fun v9 S9 h9 => con_X6_readTest F rp hrp _ _ _ v9 S9 h9) ⟨by omega, by omega⟩ (Nat.le_of_ble_eq_true rfl) dX6_readTests_2 (fun _ S2 => ?_)
  refine s_iconst (0 : Int32) dX6_readTests_5 (by decide) ?_
  refine s_istore_2 dX6_readTests_6 rfl ?_
  exact s_less (t_X6_readTests_7 hrp F x0 x1 (0 : Int32) S2) (And.intro rfl (And.intro rfl (And.intro rfl trivial)))
-- X7_isFact
def f_X7_isFact_57 (F : Nat) (y0 : Int32) (S : Mem) : Option (Int32 × Mem) :=
  rz y0 S
def f_X7_isFact_52 (F : Nat)  (S : Mem) : Option (Int32 × Mem) :=
  f_X7_isFact_57 F  (1 : Int32) S
def f_X7_isFact_29 (F : Nat) (y0 : Int32) (S : Mem) : Option (Int32 × Mem) :=
  rz y0 S
def f_X7_isFact_12 (F : Nat)  (S : Mem) : Option (Int32 × Mem) :=
  rz (1 : Int32) S
def fn_X7_isFact (F : Nat) (x0 : Int32) (x1 : Int32) (S : Mem) : Option (Int32 × Mem) :=
  if x0 = (20 : Int32) then
    f_X7_isFact_12 F   S
  else
    if x0 = (21 : Int32) then
      f_X7_isFact_12 F   S
    else
      if x1 = 0 then
        if x0 = (22 : Int32) then
          f_X7_isFact_29 F  (1 : Int32) S
        else
          f_X7_isFact_29 F  (0 : Int32) S
      else
        if x0 = (10 : Int32) then
          f_X7_isFact_52 F   S
        else
          if x0 = (23 : Int32) then
            f_X7_isFact_52 F   S
          else
            if x0 = (24 : Int32) then
              f_X7_isFact_52 F   S
            else
              if x0 = 0 then
                f_X7_isFact_52 F   S
              else
                f_X7_isFact_57 F  (0 : Int32) S
set_option maxRecDepth 100000 in
theorem t_X7_isFact_57 {Γ : Cx} {F : Nat} : ∀ (y0 : Int32) (S : Mem), Sim cX7_isFact RX7 0 0 (some .boolean) false Γ rI (f_X7_isFact_57 F y0 S) S 57 [none, none] [.int y0] := by
  intro y0 S
  unfold f_X7_isFact_57
  exact s_zret dX7_isFact_57
set_option maxRecDepth 100000 in
theorem t_X7_isFact_52 {Γ : Cx} {F : Nat} : ∀ (S : Mem), Sim cX7_isFact RX7 0 0 (some .boolean) false Γ rI (f_X7_isFact_52 F  S) S 52 [none, none] [] := by
  intro  S
  unfold f_X7_isFact_52
  refine s_iconst (1 : Int32) dX7_isFact_52 (by decide) ?_
  refine s_goto 57 dX7_isFact_53 (by decide) ?_
  exact s_less (t_X7_isFact_57  (1 : Int32) S) trivial
set_option maxRecDepth 100000 in
theorem t_X7_isFact_29 {Γ : Cx} {F : Nat} : ∀ (y0 : Int32) (S : Mem), Sim cX7_isFact RX7 0 0 (some .boolean) false Γ rI (f_X7_isFact_29 F y0 S) S 29 [none, none] [.int y0] := by
  intro y0 S
  unfold f_X7_isFact_29
  exact s_zret dX7_isFact_29
set_option maxRecDepth 100000 in
theorem t_X7_isFact_12 {Γ : Cx} {F : Nat} : ∀ (S : Mem), Sim cX7_isFact RX7 0 0 (some .boolean) false Γ rI (f_X7_isFact_12 F  S) S 12 [none, none] [] := by
  intro  S
  unfold f_X7_isFact_12
  refine s_iconst (1 : Int32) dX7_isFact_12 (by decide) ?_
  exact s_zret dX7_isFact_13
set_option maxRecDepth 100000 in
theorem con_X7_isFact {l : Launch} (F : Nat) (x0 : Int32) (x1 : Int32) (S : Mem) (v : Int32) (S1 : Mem) (h : fn_X7_isFact F x0 x1 S = some (v, S1)) : Con l yX7_isFact cX7_isFact 2 (some .boolean) 0 0 [.int x0, .int x1] S (rI v) S1 := by
  refine con_of (ι := rI) RX7 false [some (.int x0), some (.int x1)] rfl (fun h => by cases h) (by decide) (Nat.le_of_ble_eq_true rfl) ⟨rfl, rfl⟩ (fun Γ hl => ?_) h
  unfold fn_X7_isFact
  refine s_iload_n 0 dX7_isFact_0 rfl rfl ?_
  refine s_bipush (20 : Int32) dX7_isFact_1 (by decide) ?_
  refine s_icmp_eq 12 dX7_isFact_3 (by decide) (fun _ => ?_) (fun _ => ?_)
  · exact s_less (t_X7_isFact_12   S) trivial
  · refine s_iload_n 0 dX7_isFact_6 rfl rfl ?_
    refine s_bipush (21 : Int32) dX7_isFact_7 (by decide) ?_
    refine s_icmp_ne 14 dX7_isFact_9 (by decide) (fun _ => ?_) (fun _ => ?_)
    · refine s_iload_n 1 dX7_isFact_14 rfl rfl ?_
      refine s_if_ne 30 dX7_isFact_15 (by decide) (fun _ => ?_) (fun _ => ?_)
      · refine s_iload_n 0 dX7_isFact_30 rfl rfl ?_
        refine s_bipush (10 : Int32) dX7_isFact_31 (by decide) ?_
        refine s_icmp_eq 52 dX7_isFact_33 (by decide) (fun _ => ?_) (fun _ => ?_)
        · exact s_less (t_X7_isFact_52   S) trivial
        · refine s_iload_n 0 dX7_isFact_36 rfl rfl ?_
          refine s_bipush (23 : Int32) dX7_isFact_37 (by decide) ?_
          refine s_icmp_eq 52 dX7_isFact_39 (by decide) (fun _ => ?_) (fun _ => ?_)
          · exact s_less (t_X7_isFact_52   S) trivial
          · refine s_iload_n 0 dX7_isFact_42 rfl rfl ?_
            refine s_bipush (24 : Int32) dX7_isFact_43 (by decide) ?_
            refine s_icmp_eq 52 dX7_isFact_45 (by decide) (fun _ => ?_) (fun _ => ?_)
            · exact s_less (t_X7_isFact_52   S) trivial
            · refine s_iload_n 0 dX7_isFact_48 rfl rfl ?_
              refine s_if_ne 56 dX7_isFact_49 (by decide) (fun _ => ?_) (fun _ => ?_)
              · refine s_iconst (0 : Int32) dX7_isFact_56 (by decide) ?_
                exact s_less (t_X7_isFact_57  (0 : Int32) S) trivial
              · exact s_less (t_X7_isFact_52   S) trivial
      · refine s_iload_n 0 dX7_isFact_18 rfl rfl ?_
        refine s_bipush (22 : Int32) dX7_isFact_19 (by decide) ?_
        refine s_icmp_ne 28 dX7_isFact_21 (by decide) (fun _ => ?_) (fun _ => ?_)
        · refine s_iconst (0 : Int32) dX7_isFact_28 (by decide) ?_
          exact s_less (t_X7_isFact_29  (0 : Int32) S) trivial
        · refine s_iconst (1 : Int32) dX7_isFact_24 (by decide) ?_
          refine s_goto 29 dX7_isFact_25 (by decide) ?_
          exact s_less (t_X7_isFact_29  (1 : Int32) S) trivial
    · exact s_less (t_X7_isFact_12   S) trivial
-- X6_readPart
def f_X6_readPart_182 (F : Nat) (rp : Nat → Int32 → Mem → Option (Unit × Mem))  (S : Mem) : Option (Unit × Mem) :=
  some ((), S)
def f_X6_readPart_172 (F : Nat) (rp : Nat → Int32 → Mem → Option (Unit × Mem)) (x0 : Nat) (y0 : Nat) (y1 : Int32) (S : Mem) : Option (Unit × Mem) :=
  bd (cal S 6 y0 (fn_X6_put F y0 y1 S)) fun _ S2 =>
  (gR S2 6 0 x0).bind fun v3 =>
  bd (cal S2 1 v3 (fn_X1_step F v3 S2)) fun _ S5 =>
  f_X6_readPart_182 F rp   S5
def f_X6_readPart_63 (F : Nat) (rp : Nat → Int32 → Mem → Option (Unit × Mem)) (x0 : Nat) (x1 : Int32) (x2 : Int32) (S : Mem) : Option (Unit × Mem) :=
  if x1 < (5 : Int32) then
    (gR S 6 0 x0).bind fun v1 =>
    (gI S 1 5 v1).bind fun v2 =>
    if v2 = (17 : Int32) then
      (gR S 6 0 x0).bind fun v18 =>
      bd (cal S 1 v18 (fn_X1_step F v18 S)) fun _ S20 =>
      bd (cal S20 6 x0 (rp x0 (x1 + (1 : Int32)) S20)) fun _ S22 =>
      bd (cal S22 6 x0 (fn_X6_put F x0 (10017 : Int32) S22)) fun _ S24 =>
      f_X6_readPart_182 F rp   S24
    else
      (gR S 6 0 x0).bind fun v3 =>
      (gI S 1 5 v3).bind fun v4 =>
      if v4 = (27 : Int32) then
        (gR S 6 0 x0).bind fun v11 =>
        bd (cal S 1 v11 (fn_X1_step F v11 S)) fun _ S13 =>
        bd (cal S13 6 x0 (fn_X6_readTests F rp x0 (x1 + (1 : Int32)) S13)) fun _ S15 =>
        bd (cal S15 6 x0 (fn_X6_expect F x0 (28 : Int32) S15)) fun _ S17 =>
        f_X6_readPart_182 F rp   S17
      else
        if x2 = 0 then
          (gR S 6 0 x0).bind fun v5 =>
          (gI S 1 6 v5).bind fun v6 =>
          f_X6_readPart_172 F rp x0 x0 v6 S
        else
          (gR S 6 0 x0).bind fun v7 =>
          (gI S 1 5 v7).bind fun v8 =>
          bd ((fn_X3_factCode F v8 S)) fun v9 S10 =>
          f_X6_readPart_172 F rp x0 x0 v9 S10
  else
    bd (cal S 6 x0 (fn_X6_fail F x0 (5 : Int32) S)) fun _ S26 =>
    f_X6_readPart_182 F rp   S26
def fb_X6_readPart (F : Nat) (rp : Nat → Int32 → Mem → Option (Unit × Mem)) (x0 : Nat) (x1 : Int32) (S : Mem) : Option (Unit × Mem) :=
  (gR S 6 0 x0).bind fun v1 =>
  (gI S 1 5 v1).bind fun v2 =>
  (gI S 6 6 x0).bind fun v3 =>
  bd ((fn_X7_isFact F v2 v3 S)) fun v4 S5 =>
  if v4 = 0 then
    (gR S5 6 0 x0).bind fun v6 =>
    (gI S5 1 5 v6).bind fun v7 =>
    if v7 = (26 : Int32) then
      f_X6_readPart_63 F rp x0 x1 v4  S5
    else
      (gR S5 6 0 x0).bind fun v8 =>
      (gI S5 1 5 v8).bind fun v9 =>
      if v9 = (17 : Int32) then
        f_X6_readPart_63 F rp x0 x1 v4  S5
      else
        (gR S5 6 0 x0).bind fun v10 =>
        (gI S5 1 5 v10).bind fun v11 =>
        if v11 = (27 : Int32) then
          f_X6_readPart_63 F rp x0 x1 v4  S5
        else
          bd (cal S5 6 x0 (fn_X6_fail F x0 (1 : Int32) S5)) fun _ S13 =>
          f_X6_readPart_182 F rp   S13
  else
    f_X6_readPart_63 F rp x0 x1 v4  S5
def fn_X6_readPart (F : Nat) : Nat → Nat → Int32 → Mem → Option (Unit × Mem)
  | 0 => fun _ _ _ => none
  | d + 1 => fb_X6_readPart F (fn_X6_readPart F d)
set_option maxRecDepth 100000 in
theorem t_X6_readPart_182 {Γ : Cx} {F : Nat} {rp : Nat → Int32 → Mem → Option (Unit × Mem)} {frR loR : Nat} (hrp : ∀ (z0 : Nat) (z1 : Int32) (S : Mem) (v : Unit) (S1 : Mem), rp z0 z1 S = some (v, S1) → Con (lOf Γ) yX6_readPart cX6_readPart 3 none frR loR [.ref z0, .int z1] S (rV v) S1) : ∀ (S : Mem), Sim cX6_readPart RX6 (frR + 7) (loR + 153) none false Γ rV (f_X6_readPart_182 F rp  S) S 182 [none, none, none] [] := by
  intro  S
  unfold f_X6_readPart_182
  exact s_vret dX6_readPart_182
set_option maxRecDepth 100000 in
theorem t_X6_readPart_172 {Γ : Cx} {F : Nat} {rp : Nat → Int32 → Mem → Option (Unit × Mem)} {frR loR : Nat} (hrp : ∀ (z0 : Nat) (z1 : Int32) (S : Mem) (v : Unit) (S1 : Mem), rp z0 z1 S = some (v, S1) → Con (lOf Γ) yX6_readPart cX6_readPart 3 none frR loR [.ref z0, .int z1] S (rV v) S1) : ∀ (x0 : Nat) (y0 : Nat) (y1 : Int32) (S : Mem), Sim cX6_readPart RX6 (frR + 7) (loR + 153) none false Γ rV (f_X6_readPart_172 F rp x0 y0 y1 S) S 172 [some (.ref x0), none, none] [.int y1, .ref y0] := by
  intro x0 y0 y1 S
  unfold f_X6_readPart_172
  refine s_cV1V mk_X6_151 (by decide) rfl (fun v9 S9 h9 => con_X6_put F _ _ _ v9 S9 h9) ⟨by omega, by omega⟩ (Nat.le_of_ble_eq_true rfl) dX6_readPart_172 (fun _ S2 => ?_)
  refine s_aload_n 0 dX6_readPart_175 rfl rfl ?_
  refine s_getR fk_X6_12 rfl dX6_readPart_176 (fun v3 => ?_)
  refine s_cV0V mk_X6_59 (by decide) rfl (fun v9 S9 h9 => con_X1_step F _ _ v9 S9 h9) ⟨by omega, by omega⟩ (Nat.le_of_ble_eq_true rfl) dX6_readPart_179 (fun _ S5 => ?_)
  exact s_less (t_X6_readPart_182 hrp   S5) trivial
set_option maxRecDepth 100000 in
theorem t_X6_readPart_63 {Γ : Cx} {F : Nat} {rp : Nat → Int32 → Mem → Option (Unit × Mem)} {frR loR : Nat} (hrp : ∀ (z0 : Nat) (z1 : Int32) (S : Mem) (v : Unit) (S1 : Mem), rp z0 z1 S = some (v, S1) → Con (lOf Γ) yX6_readPart cX6_readPart 3 none frR loR [.ref z0, .int z1] S (rV v) S1) : ∀ (x0 : Nat) (x1 : Int32) (x2 : Int32) (S : Mem), Sim cX6_readPart RX6 (frR + 7) (loR + 153) none false Γ rV (f_X6_readPart_63 F rp x0 x1 x2 S) S 63 [some (.ref x0), some (.int x1), some (.int x2)] [] := by
  intro x0 x1 x2 S
  unfold f_X6_readPart_63
  refine s_iload_n 1 dX6_readPart_63 rfl rfl ?_
  refine s_iconst (5 : Int32) dX6_readPart_64 (by decide) ?_
  refine s_icmp_lt 76 dX6_readPart_65 (by decide) (fun _ => ?_) (fun _ => ?_)
  · refine s_aload_n 0 dX6_readPart_76 rfl rfl ?_
    refine s_getR fk_X6_12 rfl dX6_readPart_77 (fun v1 => ?_)
    refine s_getI fk_X6_41 rfl dX6_readPart_80 (fun v2 => ?_)
    refine s_bipush (17 : Int32) dX6_readPart_83 (by decide) ?_
    refine s_icmp_ne 112 dX6_readPart_85 (by decide) (fun _ => ?_) (fun _ => ?_)
    · refine s_aload_n 0 dX6_readPart_112 rfl rfl ?_
      refine s_getR fk_X6_12 rfl dX6_readPart_113 (fun v3 => ?_)
      refine s_getI fk_X6_41 rfl dX6_readPart_116 (fun v4 => ?_)
      refine s_bipush (27 : Int32) dX6_readPart_119 (by decide) ?_
      refine s_icmp_ne 147 dX6_readPart_121 (by decide) (fun _ => ?_) (fun _ => ?_)
      · refine s_aload_n 0 dX6_readPart_147 rfl rfl ?_
        refine s_iload_n 2 dX6_readPart_148 rfl rfl ?_
        refine s_if_eq 165 dX6_readPart_149 (by decide) (fun _ => ?_) (fun _ => ?_)
        · refine s_aload_n 0 dX6_readPart_165 rfl rfl ?_
          refine s_getR fk_X6_12 rfl dX6_readPart_166 (fun v5 => ?_)
          refine s_getI fk_X6_128 rfl dX6_readPart_169 (fun v6 => ?_)
          exact s_less (t_X6_readPart_172 hrp x0 x0 v6 S) (And.intro rfl trivial)
        · refine s_aload_n 0 dX6_readPart_152 rfl rfl ?_
          refine s_getR fk_X6_12 rfl dX6_readPart_153 (fun v7 => ?_)
          refine s_getI fk_X6_41 rfl dX6_readPart_156 (fun v8 => ?_)
          refine s_cS1I mk_X6_167 (fun v9 S9 h9 => con_X3_factCode F _ _ v9 S9 h9) ⟨by omega, by omega⟩ (Nat.le_of_ble_eq_true rfl) dX6_readPart_159 (fun v9 S10 => ?_)
          refine s_goto 172 dX6_readPart_162 (by decide) ?_
          exact s_less (t_X6_readPart_172 hrp x0 x0 v9 S10) (And.intro rfl trivial)
      · refine s_aload_n 0 dX6_readPart_124 rfl rfl ?_
        refine s_getR fk_X6_12 rfl dX6_readPart_125 (fun v11 => ?_)
        refine s_cV0V mk_X6_59 (by decide) rfl (fun v9 S9 h9 => con_X1_step F _ _ v9 S9 h9) ⟨by omega, by omega⟩ (Nat.le_of_ble_eq_true rfl) dX6_readPart_128 (fun _ S13 => ?_)
        refine s_aload_n 0 dX6_readPart_131 rfl rfl ?_
        refine s_iload_n 1 dX6_readPart_132 rfl rfl ?_
        refine s_iconst (1 : Int32) dX6_readPart_133 (by decide) ?_
        refine s_iadd dX6_readPart_134 ?_
        refine s_cV1V mk_X6_137 (by decide) rfl (fun v9 S9 h9 => con_X6_readTests F rp hrp _ _ _ v9 S9 h9) ⟨by omega, by omega⟩ (Nat.le_of_ble_eq_true rfl) dX6_readPart_135 (fun _ S15 => ?_)
        refine s_aload_n 0 dX6_readPart_138 rfl rfl ?_
        refine s_bipush (28 : Int32) dX6_readPart_139 (by decide) ?_
        refine s_cV1V mk_X6_56 (by decide) rfl (fun v9 S9 h9 => con_X6_expect F _ _ _ v9 S9 h9) ⟨by omega, by omega⟩ (Nat.le_of_ble_eq_true rfl) dX6_readPart_141 (fun _ S17 => ?_)
        refine s_goto 182 dX6_readPart_144 (by decide) ?_
        exact s_less (t_X6_readPart_182 hrp   S17) trivial
    · refine s_aload_n 0 dX6_readPart_88 rfl rfl ?_
      refine s_getR fk_X6_12 rfl dX6_readPart_89 (fun v18 => ?_)
      refine s_cV0V mk_X6_59 (by decide) rfl (fun v9 S9 h9 => con_X1_step F _ _ v9 S9 h9) ⟨by omega, by omega⟩ (Nat.le_of_ble_eq_true rfl) dX6_readPart_92 (fun _ S20 => ?_)
      refine s_aload_n 0 dX6_readPart_95 rfl rfl ?_
      refine s_iload_n 1 dX6_readPart_96 rfl rfl ?_
      refine s_iconst (1 : Int32) dX6_readPart_97 (by decide) ?_
      refine s_iadd dX6_readPart_98 ?_
      refine s_cV1V mk_X6_160 (by decide) rfl (fun v9 S9 h9 => hrp _ _ _ v9 S9 h9) ⟨by omega, by omega⟩ (Nat.le_of_ble_eq_true rfl) dX6_readPart_99 (fun _ S22 => ?_)
      refine s_aload_n 0 dX6_readPart_102 rfl rfl ?_
      refine s_sipush (10017 : Int32) dX6_readPart_103 (by decide) ?_
      refine s_cV1V mk_X6_151 (by decide) rfl (fun v9 S9 h9 => con_X6_put F _ _ _ v9 S9 h9) ⟨by omega, by omega⟩ (Nat.le_of_ble_eq_true rfl) dX6_readPart_106 (fun _ S24 => ?_)
      refine s_goto 182 dX6_readPart_109 (by decide) ?_
      exact s_less (t_X6_readPart_182 hrp   S24) trivial
  · refine s_aload_n 0 dX6_readPart_68 rfl rfl ?_
    refine s_iconst (5 : Int32) dX6_readPart_69 (by decide) ?_
    refine s_cV1V mk_X6_53 (by decide) rfl (fun v9 S9 h9 => con_X6_fail F _ _ _ v9 S9 h9) ⟨by omega, by omega⟩ (Nat.le_of_ble_eq_true rfl) dX6_readPart_70 (fun _ S26 => ?_)
    refine s_goto 182 dX6_readPart_73 (by decide) ?_
    exact s_less (t_X6_readPart_182 hrp   S26) trivial
set_option maxRecDepth 100000 in
theorem cob_X6_readPart {l : Launch} (F : Nat) (rp : Nat → Int32 → Mem → Option (Unit × Mem)) {frR loR : Nat} (hrp : ∀ (z0 : Nat) (z1 : Int32) (S : Mem) (v : Unit) (S1 : Mem), rp z0 z1 S = some (v, S1) → Con l yX6_readPart cX6_readPart 3 none frR loR [.ref z0, .int z1] S (rV v) S1) (x0 : Nat) (x1 : Int32) (S : Mem) (v : Unit) (S1 : Mem) (h : fb_X6_readPart F rp x0 x1 S = some (v, S1)) : Con l yX6_readPart cX6_readPart 3 none (frR + 7) (loR + 153) [.ref x0, .int x1] S (rV v) S1 := by
  refine con_of (ι := rV) RX6 false [some (.ref x0), some (.int x1), none] rfl (fun h => by cases h) (by decide) (Nat.le_of_ble_eq_true rfl) ⟨rfl, rfl⟩ (fun Γ hl => ?_) h
  subst hl
  unfold fb_X6_readPart
  refine s_aload_n 0 dX6_readPart_0 rfl rfl ?_
  refine s_getR fk_X6_12 rfl dX6_readPart_1 (fun v1 => ?_)
  refine s_getI fk_X6_41 rfl dX6_readPart_4 (fun v2 => ?_)
  refine s_aload_n 0 dX6_readPart_7 rfl rfl ?_
  refine s_getI fk_X6_131 rfl dX6_readPart_8 (fun v3 => ?_)
  refine s_cS2I mk_X6_163 (fun v9 S9 h9 => con_X7_isFact F _ _ _ v9 S9 h9) ⟨by omega, by omega⟩ (Nat.le_of_ble_eq_true rfl) dX6_readPart_11 (fun v4 S5 => ?_)
  refine s_istore_2 dX6_readPart_14 rfl ?_
  refine s_iload_n 2 dX6_readPart_15 rfl rfl ?_
  refine s_if_ne 63 dX6_readPart_16 (by decide) (fun _ => ?_) (fun _ => ?_)
  · exact s_less (t_X6_readPart_63 hrp x0 x1 v4  S5) (And.intro rfl (And.intro rfl (And.intro rfl trivial)))
  · refine s_aload_n 0 dX6_readPart_19 rfl rfl ?_
    refine s_getR fk_X6_12 rfl dX6_readPart_20 (fun v6 => ?_)
    refine s_getI fk_X6_41 rfl dX6_readPart_23 (fun v7 => ?_)
    refine s_bipush (26 : Int32) dX6_readPart_26 (by decide) ?_
    refine s_icmp_eq 63 dX6_readPart_28 (by decide) (fun _ => ?_) (fun _ => ?_)
    · exact s_less (t_X6_readPart_63 hrp x0 x1 v4  S5) (And.intro rfl (And.intro rfl (And.intro rfl trivial)))
    · refine s_aload_n 0 dX6_readPart_31 rfl rfl ?_
      refine s_getR fk_X6_12 rfl dX6_readPart_32 (fun v8 => ?_)
      refine s_getI fk_X6_41 rfl dX6_readPart_35 (fun v9 => ?_)
      refine s_bipush (17 : Int32) dX6_readPart_38 (by decide) ?_
      refine s_icmp_eq 63 dX6_readPart_40 (by decide) (fun _ => ?_) (fun _ => ?_)
      · exact s_less (t_X6_readPart_63 hrp x0 x1 v4  S5) (And.intro rfl (And.intro rfl (And.intro rfl trivial)))
      · refine s_aload_n 0 dX6_readPart_43 rfl rfl ?_
        refine s_getR fk_X6_12 rfl dX6_readPart_44 (fun v10 => ?_)
        refine s_getI fk_X6_41 rfl dX6_readPart_47 (fun v11 => ?_)
        refine s_bipush (27 : Int32) dX6_readPart_50 (by decide) ?_
        refine s_icmp_eq 63 dX6_readPart_52 (by decide) (fun _ => ?_) (fun _ => ?_)
        · exact s_less (t_X6_readPart_63 hrp x0 x1 v4  S5) (And.intro rfl (And.intro rfl (And.intro rfl trivial)))
        · refine s_aload_n 0 dX6_readPart_55 rfl rfl ?_
          refine s_iconst (1 : Int32) dX6_readPart_56 (by decide) ?_
          refine s_cV1V mk_X6_53 (by decide) rfl (fun v9 S9 h9 => con_X6_fail F _ _ _ v9 S9 h9) ⟨by omega, by omega⟩ (Nat.le_of_ble_eq_true rfl) dX6_readPart_57 (fun _ S13 => ?_)
          refine s_goto 182 dX6_readPart_60 (by decide) ?_
          exact s_less (t_X6_readPart_182 hrp   S13) trivial
theorem con_X6_readPart {l : Launch} (F : Nat) : ∀ (d : Nat) (x0 : Nat) (x1 : Int32) (S : Mem) (v : Unit) (S1 : Mem), fn_X6_readPart F d x0 x1 S = some (v, S1) → Con l yX6_readPart cX6_readPart 3 none (7 * d) (153 * d) [.ref x0, .int x1] S (rV v) S1
  | 0 => fun _ _ _ _ _ h => by cases h
  | d + 1 => fun x0 x1 S v S1 h => cob_X6_readPart F (fn_X6_readPart F d) (con_X6_readPart F d) x0 x1 S v S1 h
-- J7_copyOf_59c91
def fn_J7_copyOf_59c91 (F : Nat) (x0 : Nat) (x1 : Int32) (S : Mem) : Option (Nat × Mem) :=
  (gLen S x0).bind fun v1 =>
  if x1 = v1 then
    none
  else
    bd (nA S 10 x1) fun v2 S3 =>
    (gLen S3 x0).bind fun v4 =>
    (acp S3 x0 (0 : Int32) v2 (0 : Int32) (mnI v4 x1)).bind fun S5 =>
    some (v2, S5)
set_option maxRecDepth 100000 in
theorem con_J7_copyOf_59c91 {l : Launch} (F : Nat) (x0 : Nat) (x1 : Int32) (S : Mem) (v : Nat) (S1 : Mem) (h : fn_J7_copyOf_59c91 F x0 x1 S = some (v, S1)) : Con l yJ7_copyOf_59c91 cJ7_copyOf_59c91 3 (some (.array .int)) 1 60 [.ref x0, .int x1] S (rA v) S1 := by
  refine con_of (ι := rA) RJ7 false [some (.ref x0), some (.int x1), none] rfl (fun h => by cases h) (by decide) (Nat.le_of_ble_eq_true rfl) ⟨rfl, rfl⟩ (fun Γ hl => ?_) h
  unfold fn_J7_copyOf_59c91
  refine s_iload_n 1 dJ7_copyOf_59c91_0 rfl rfl ?_
  refine s_aload_n 0 dJ7_copyOf_59c91_1 rfl rfl ?_
  refine s_alen dJ7_copyOf_59c91_2 (fun v1 => ?_)
  refine s_icmp_ne 14 dJ7_copyOf_59c91_3 (by decide) (fun _ => ?_) (fun _ => ?_)
  · refine s_iload_n 1 dJ7_copyOf_59c91_14 rfl rfl ?_
    refine s_newa10 (lw_in 185 (by decide +kernel) (by decide +kernel)) dJ7_copyOf_59c91_15 (fun v2 S3 => ?_)
    refine s_astore_2 dJ7_copyOf_59c91_17 rfl ?_
    refine s_aload_n 0 dJ7_copyOf_59c91_18 rfl rfl ?_
    refine s_iconst (0 : Int32) dJ7_copyOf_59c91_19 (by decide) ?_
    refine s_aload_n 2 dJ7_copyOf_59c91_20 rfl rfl ?_
    refine s_iconst (0 : Int32) dJ7_copyOf_59c91_21 (by decide) ?_
    refine s_aload_n 0 dJ7_copyOf_59c91_22 rfl rfl ?_
    refine s_alen dJ7_copyOf_59c91_23 (fun v4 => ?_)
    refine s_iload_n 1 dJ7_copyOf_59c91_24 rfl rfl ?_
    refine s_mmin mm_J7_304 mm_min_s mm_i mm_min_c ⟨by omega, by simp [Value.category] <;> omega⟩ dJ7_copyOf_59c91_25 ?_
    refine s_acopy (lw_in 631 (by decide +kernel) (by decide +kernel)) (lw_in 633 (by decide +kernel) (by decide +kernel)) (lw_in 632 (by decide +kernel) (by decide +kernel)) (lw_in 95 (by decide +kernel) (by decide +kernel)) ⟨by omega, by simp [Value.category] <;> omega⟩ dJ7_copyOf_59c91_28 (fun S5 => ?_)
    refine s_aload_n 2 dJ7_copyOf_59c91_31 rfl rfl ?_
    exact s_aret dJ7_copyOf_59c91_32
  · refine s_aload_n 0 dJ7_copyOf_59c91_6 rfl rfl ?_
    exact s_none (K := True)
-- X6_readLaw
def fn_X6_readLaw (F : Nat) (x0 : Nat) (x1 : Int32) (S : Mem) : Option (Nat × Mem) :=
  (sI S 6 6 x0 x1).bind fun S1 =>
  (sI S1 6 5 x0 (0 : Int32)).bind fun S2 =>
  bd (cal S2 6 x0 (fn_X6_readTests F (fn_X6_readPart F 8) x0 (0 : Int32) S2)) fun _ S4 =>
  (gR S4 6 2 x0).bind fun v5 =>
  (gI S4 6 5 x0).bind fun v6 =>
  bd ((fn_J7_copyOf_59c91 F v5 v6 S4)) fun v7 S8 =>
  some (v7, S8)
set_option maxRecDepth 100000 in
theorem con_X6_readLaw {l : Launch} (F : Nat) (x0 : Nat) (x1 : Int32) (S : Mem) (v : Nat) (S1 : Mem) (h : fn_X6_readLaw F x0 x1 S = some (v, S1)) : Con l yX6_readLaw cX6_readLaw 2 (some (.array .int)) 63 1377 [.ref x0, .int x1] S (rA v) S1 := by
  refine con_of (ι := rA) RX6 false [some (.ref x0), some (.int x1)] rfl (fun h => by cases h) (by decide) (Nat.le_of_ble_eq_true rfl) ⟨rfl, rfl⟩ (fun Γ hl => ?_) h
  unfold fn_X6_readLaw
  refine s_aload_n 0 dX6_readLaw_0 rfl rfl ?_
  refine s_iload_n 1 dX6_readLaw_1 rfl rfl ?_
  refine s_putI fk_X6_131 (Or.inl rfl) rfl dX6_readLaw_2 (fun S1 => ?_)
  refine s_aload_n 0 dX6_readLaw_5 rfl rfl ?_
  refine s_iconst (0 : Int32) dX6_readLaw_6 (by decide) ?_
  refine s_putI fk_X6_134 (Or.inl rfl) rfl dX6_readLaw_7 (fun S2 => ?_)
  refine s_aload_n 0 dX6_readLaw_10 rfl rfl ?_
  refine s_iconst (0 : Int32) dX6_readLaw_11 (by decide) ?_
  refine s_cV1V mk_X6_137 (by decide) rfl (fun v9 S9 h9 => con_X6_readTests F (fn_X6_readPart F 8) (con_X6_readPart F 8) _ _ _ v9 S9 h9) ⟨by omega, by omega⟩ (Nat.le_of_ble_eq_true rfl) dX6_readLaw_12 (fun _ S4 => ?_)
  refine s_aload_n 0 dX6_readLaw_15 rfl rfl ?_
  refine s_getR fk_X6_22 rfl dX6_readLaw_16 (fun v5 => ?_)
  refine s_aload_n 0 dX6_readLaw_19 rfl rfl ?_
  refine s_getI fk_X6_134 rfl dX6_readLaw_20 (fun v6 => ?_)
  refine s_cS2A mk_X6_140 (fun v9 S9 h9 => con_J7_copyOf_59c91 F _ _ _ v9 S9 h9) ⟨by omega, by omega⟩ (Nat.le_of_ble_eq_true rfl) dX6_readLaw_23 (fun v7 S8 => ?_)
  exact s_aret dX6_readLaw_26
-- X6_readOnce
def f_X6_readOnce_167 (F : Nat)  (S : Mem) : Option (Unit × Mem) :=
  some ((), S)
def fn_X6_readOnce (F : Nat) (x0 : Nat) (x1 : Int32) (S : Mem) : Option (Unit × Mem) :=
  (gI S 6 4 x0).bind fun v1 =>
  if ((v1 >>> (x1 &&& 31)) &&& (1 : Int32)) = 0 then
    (gI S 6 4 x0).bind fun v2 =>
    (sI S 6 4 x0 (v2 ||| ((1 : Int32) <<< (x1 &&& 31)))).bind fun S3 =>
    (gR S3 6 0 x0).bind fun v4 =>
    bd (cal S3 1 v4 (fn_X1_step F v4 S3)) fun _ S6 =>
    if x1 = (0 : Int32) then
      (gR S6 6 7 x0).bind fun v7 =>
      bd (cal S6 6 x0 (fn_X6_readLaw F x0 x1 S6)) fun v8 S9 =>
      (sR S9 5 10 v7 v8).bind fun S10 =>
      f_X6_readOnce_167 F   S10
    else
      if x1 = (1 : Int32) then
        (gR S6 6 7 x0).bind fun v11 =>
        bd (cal S6 6 x0 (fn_X6_readLaw F x0 x1 S6)) fun v12 S13 =>
        (sR S13 5 11 v11 v12).bind fun S14 =>
        f_X6_readOnce_167 F   S14
      else
        if x1 = (2 : Int32) then
          (gR S6 6 7 x0).bind fun v15 =>
          bd (cal S6 6 x0 (fn_X6_readNumber F x0 (0 : Int32) (999 : Int32) S6)) fun v16 S17 =>
          (sI S17 5 6 v15 v16).bind fun S18 =>
          f_X6_readOnce_167 F   S18
        else
          if x1 = (3 : Int32) then
            (gR S6 6 7 x0).bind fun v19 =>
            bd (cal S6 6 x0 (fn_X6_readNumber F x0 (1 : Int32) (5 : Int32) S6)) fun v20 S21 =>
            (sI S21 5 7 v19 v20).bind fun S22 =>
            f_X6_readOnce_167 F   S22
          else
            if x1 = (4 : Int32) then
              (gR S6 6 7 x0).bind fun v23 =>
              bd (cal S6 6 x0 (fn_X6_readNumber F x0 (1 : Int32) (20 : Int32) S6)) fun v24 S25 =>
              (sI S25 5 8 v23 v24).bind fun S26 =>
              f_X6_readOnce_167 F   S26
            else
              (gR S6 6 7 x0).bind fun v27 =>
              bd (cal S6 6 x0 (fn_X6_readNumber F x0 (0 : Int32) (50 : Int32) S6)) fun v28 S29 =>
              (sI S29 5 9 v27 v28).bind fun S30 =>
              f_X6_readOnce_167 F   S30
  else
    bd (cal S 6 x0 (fn_X6_fail F x0 (3 : Int32) S)) fun _ S32 =>
    some ((), S32)
set_option maxRecDepth 100000 in
theorem t_X6_readOnce_167 {Γ : Cx} {F : Nat} : ∀ (S : Mem), Sim cX6_readOnce RX6 64 1398 none false Γ rV (f_X6_readOnce_167 F  S) S 167 [none, none] [] := by
  intro  S
  unfold f_X6_readOnce_167
  exact s_vret dX6_readOnce_167
set_option maxRecDepth 100000 in
theorem con_X6_readOnce {l : Launch} (F : Nat) (x0 : Nat) (x1 : Int32) (S : Mem) (v : Unit) (S1 : Mem) (h : fn_X6_readOnce F x0 x1 S = some (v, S1)) : Con l yX6_readOnce cX6_readOnce 2 none 64 1398 [.ref x0, .int x1] S (rV v) S1 := by
  refine con_of (ι := rV) RX6 false [some (.ref x0), some (.int x1)] rfl (fun h => by cases h) (by decide) (Nat.le_of_ble_eq_true rfl) ⟨rfl, rfl⟩ (fun Γ hl => ?_) h
  unfold fn_X6_readOnce
  refine s_aload_n 0 dX6_readOnce_0 rfl rfl ?_
  refine s_getI fk_X6_34 rfl dX6_readOnce_1 (fun v1 => ?_)
  refine s_iload_n 1 dX6_readOnce_4 rfl rfl ?_
  refine s_ishr dX6_readOnce_5 ?_
  refine s_iconst (1 : Int32) dX6_readOnce_6 (by decide) ?_
  refine s_iand dX6_readOnce_7 ?_
  refine s_if_eq 17 dX6_readOnce_8 (by decide) (fun _ => ?_) (fun _ => ?_)
  · refine s_aload_n 0 dX6_readOnce_17 rfl rfl ?_
    refine s_dup dX6_readOnce_18 rfl ?_
    refine s_getI fk_X6_34 rfl dX6_readOnce_19 (fun v2 => ?_)
    refine s_iconst (1 : Int32) dX6_readOnce_22 (by decide) ?_
    refine s_iload_n 1 dX6_readOnce_23 rfl rfl ?_
    refine s_ishl dX6_readOnce_24 ?_
    refine s_ior dX6_readOnce_25 ?_
    refine s_putI fk_X6_34 (Or.inl rfl) rfl dX6_readOnce_26 (fun S3 => ?_)
    refine s_aload_n 0 dX6_readOnce_29 rfl rfl ?_
    refine s_getR fk_X6_12 rfl dX6_readOnce_30 (fun v4 => ?_)
    refine s_cV0V mk_X6_59 (by decide) rfl (fun v9 S9 h9 => con_X1_step F _ _ v9 S9 h9) ⟨by omega, by omega⟩ (Nat.le_of_ble_eq_true rfl) dX6_readOnce_33 (fun _ S6 => ?_)
    refine s_iload_n 1 dX6_readOnce_36 rfl rfl ?_
    refine s_ite _ (fun h0 => ?_) (fun h0 => ?_)
    · subst h0
      refine s_tsIn (off := 35) 72 dX6_readOnce_37 (by decide) (by decide) (by decide) (by decide) ?_
      refine s_aload_n 0 dX6_readOnce_72 rfl rfl ?_
      refine s_getR fk_X6_26 rfl dX6_readOnce_73 (fun v7 => ?_)
      refine s_aload_n 0 dX6_readOnce_76 rfl rfl ?_
      refine s_iload_n 1 dX6_readOnce_77 rfl rfl ?_
      refine s_cV1A mk_X6_62 (by decide) rfl (fun v9 S9 h9 => con_X6_readLaw F _ _ _ v9 S9 h9) ⟨by omega, by omega⟩ (Nat.le_of_ble_eq_true rfl) dX6_readOnce_78 (fun v8 S9 => ?_)
      refine s_putR fk_X6_66 (Or.inl rfl) rfl dX6_readOnce_81 (fun S10 => ?_)
      refine s_goto 167 dX6_readOnce_84 (by decide) ?_
      exact s_less (t_X6_readOnce_167   S10) trivial
    refine s_ite _ (fun h1 => ?_) (fun h1 => ?_)
    · subst h1
      refine s_tsIn (off := 50) 87 dX6_readOnce_37 (by decide) (by decide) (by decide) (by decide) ?_
      refine s_aload_n 0 dX6_readOnce_87 rfl rfl ?_
      refine s_getR fk_X6_26 rfl dX6_readOnce_88 (fun v11 => ?_)
      refine s_aload_n 0 dX6_readOnce_91 rfl rfl ?_
      refine s_iload_n 1 dX6_readOnce_92 rfl rfl ?_
      refine s_cV1A mk_X6_62 (by decide) rfl (fun v9 S9 h9 => con_X6_readLaw F _ _ _ v9 S9 h9) ⟨by omega, by omega⟩ (Nat.le_of_ble_eq_true rfl) dX6_readOnce_93 (fun v12 S13 => ?_)
      refine s_putR fk_X6_71 (Or.inl rfl) rfl dX6_readOnce_96 (fun S14 => ?_)
      refine s_goto 167 dX6_readOnce_99 (by decide) ?_
      exact s_less (t_X6_readOnce_167   S14) trivial
    refine s_ite _ (fun h2 => ?_) (fun h2 => ?_)
    · subst h2
      refine s_tsIn (off := 65) 102 dX6_readOnce_37 (by decide) (by decide) (by decide) (by decide) ?_
      refine s_aload_n 0 dX6_readOnce_102 rfl rfl ?_
      refine s_getR fk_X6_26 rfl dX6_readOnce_103 (fun v15 => ?_)
      refine s_aload_n 0 dX6_readOnce_106 rfl rfl ?_
      refine s_iconst (0 : Int32) dX6_readOnce_107 (by decide) ?_
      refine s_sipush (999 : Int32) dX6_readOnce_108 (by decide) ?_
      refine s_cV2I mk_X6_74 (by decide) rfl (fun v9 S9 h9 => con_X6_readNumber F _ _ _ _ v9 S9 h9) ⟨by omega, by omega⟩ (Nat.le_of_ble_eq_true rfl) dX6_readOnce_111 (fun v16 S17 => ?_)
      refine s_putI fk_X6_78 (Or.inl rfl) rfl dX6_readOnce_114 (fun S18 => ?_)
      refine s_goto 167 dX6_readOnce_117 (by decide) ?_
      exact s_less (t_X6_readOnce_167   S18) trivial
    refine s_ite _ (fun h3 => ?_) (fun h3 => ?_)
    · subst h3
      refine s_tsIn (off := 83) 120 dX6_readOnce_37 (by decide) (by decide) (by decide) (by decide) ?_
      refine s_aload_n 0 dX6_readOnce_120 rfl rfl ?_
      refine s_getR fk_X6_26 rfl dX6_readOnce_121 (fun v19 => ?_)
      refine s_aload_n 0 dX6_readOnce_124 rfl rfl ?_
      refine s_iconst (1 : Int32) dX6_readOnce_125 (by decide) ?_
      refine s_iconst (5 : Int32) dX6_readOnce_126 (by decide) ?_
      refine s_cV2I mk_X6_74 (by decide) rfl (fun v9 S9 h9 => con_X6_readNumber F _ _ _ _ v9 S9 h9) ⟨by omega, by omega⟩ (Nat.le_of_ble_eq_true rfl) dX6_readOnce_127 (fun v20 S21 => ?_)
      refine s_putI fk_X6_81 (Or.inl rfl) rfl dX6_readOnce_130 (fun S22 => ?_)
      refine s_goto 167 dX6_readOnce_133 (by decide) ?_
      exact s_less (t_X6_readOnce_167   S22) trivial
    refine s_ite _ (fun h4 => ?_) (fun h4 => ?_)
    · subst h4
      refine s_tsIn (off := 99) 136 dX6_readOnce_37 (by decide) (by decide) (by decide) (by decide) ?_
      refine s_aload_n 0 dX6_readOnce_136 rfl rfl ?_
      refine s_getR fk_X6_26 rfl dX6_readOnce_137 (fun v23 => ?_)
      refine s_aload_n 0 dX6_readOnce_140 rfl rfl ?_
      refine s_iconst (1 : Int32) dX6_readOnce_141 (by decide) ?_
      refine s_bipush (20 : Int32) dX6_readOnce_142 (by decide) ?_
      refine s_cV2I mk_X6_74 (by decide) rfl (fun v9 S9 h9 => con_X6_readNumber F _ _ _ _ v9 S9 h9) ⟨by omega, by omega⟩ (Nat.le_of_ble_eq_true rfl) dX6_readOnce_144 (fun v24 S25 => ?_)
      refine s_putI fk_X6_84 (Or.inl rfl) rfl dX6_readOnce_147 (fun S26 => ?_)
      refine s_goto 167 dX6_readOnce_150 (by decide) ?_
      exact s_less (t_X6_readOnce_167   S26) trivial
    have e0 := lv_neT (a := 0) h0 rfl
    have e1 := lv_neT (a := 1) h1 rfl
    have e2 := lv_neT (a := 2) h2 rfl
    have e3 := lv_neT (a := 3) h3 rfl
    have e4 := lv_neT (a := 4) h4 rfl
    refine s_tsOut 153 dX6_readOnce_37 (by omega) (by decide) ?_
    refine s_aload_n 0 dX6_readOnce_153 rfl rfl ?_
    refine s_getR fk_X6_26 rfl dX6_readOnce_154 (fun v27 => ?_)
    refine s_aload_n 0 dX6_readOnce_157 rfl rfl ?_
    refine s_iconst (0 : Int32) dX6_readOnce_158 (by decide) ?_
    refine s_bipush (50 : Int32) dX6_readOnce_159 (by decide) ?_
    refine s_cV2I mk_X6_74 (by decide) rfl (fun v9 S9 h9 => con_X6_readNumber F _ _ _ _ v9 S9 h9) ⟨by omega, by omega⟩ (Nat.le_of_ble_eq_true rfl) dX6_readOnce_161 (fun v28 S29 => ?_)
    refine s_putI fk_X6_87 (Or.inl rfl) rfl dX6_readOnce_164 (fun S30 => ?_)
    exact s_less (t_X6_readOnce_167   S30) trivial
  · refine s_aload_n 0 dX6_readOnce_11 rfl rfl ?_
    refine s_iconst (3 : Int32) dX6_readOnce_12 (by decide) ?_
    refine s_cV1V mk_X6_53 (by decide) rfl (fun v9 S9 h9 => con_X6_fail F _ _ _ v9 S9 h9) ⟨by omega, by omega⟩ (Nat.le_of_ble_eq_true rfl) dX6_readOnce_13 (fun _ S32 => ?_)
    exact s_vret dX6_readOnce_16
-- X6_read
def f_X6_read_108 (F : Nat) (x0 : Nat) (S : Mem) : Option (Int32 × Mem) :=
  (gI S 6 3 x0).bind fun v1 =>
  some (v1, S)
def f_X6_read_96 (F : Nat) (k27 : Nat → Int32 → Mem → Option (Int32 × Mem)) (x0 : Nat) (x4 : Int32) (S : Mem) : Option (Int32 × Mem) :=
  bd (cal S 6 x0 (fn_X6_expect F x0 (34 : Int32) S)) fun _ S2 =>
  k27 x0 (x4 + (1 : Int32)) S2
def b_X6_read_27 (F : Nat) (k27 : Nat → Int32 → Mem → Option (Int32 × Mem)) (x0 : Nat) (x4 : Int32) (S : Mem) : Option (Int32 × Mem) :=
  if (1000 : Int32) < x4 then
    f_X6_read_108 F x0  S
  else
    (gR S 6 0 x0).bind fun v1 =>
    (gI S 1 5 v1).bind fun v2 =>
    if v2 = (35 : Int32) then
      f_X6_read_108 F x0  S
    else
      (gR S 6 0 x0).bind fun v3 =>
      (gI S 1 5 v3).bind fun v4 =>
      if v4 = (6 : Int32) then
        bd (cal S 6 x0 (fn_X6_readKite F x0 S)) fun _ S14 =>
        f_X6_read_96 F k27 x0 x4  S14
      else
        (gR S 6 0 x0).bind fun v5 =>
        (gI S 1 5 v5).bind fun v6 =>
        if (5 : Int32) < v6 then
          bd (cal S 6 x0 (fn_X6_fail F x0 (1 : Int32) S)) fun _ S8 =>
          f_X6_read_96 F k27 x0 x4  S8
        else
          (gR S 6 0 x0).bind fun v9 =>
          (gI S 1 5 v9).bind fun v10 =>
          bd (cal S 6 x0 (fn_X6_readOnce F x0 v10 S)) fun _ S12 =>
          f_X6_read_96 F k27 x0 x4  S12
def fn_X6_read (F : Nat) (x0 : Nat) (x1 : Nat) (x2 : Int32) (x3 : Nat) (S : Mem) : Option (Int32 × Mem) :=
  (sI S 6 3 x0 (0 : Int32)).bind fun S1 =>
  (sI S1 6 4 x0 (0 : Int32)).bind fun S2 =>
  (sR S2 6 7 x0 x3).bind fun S3 =>
  (gR S3 6 0 x0).bind fun v4 =>
  bd (cal S3 1 v4 (fn_X1_open F v4 x1 x2 S3)) fun _ S6 =>
  fix2 (b_X6_read_27 F) F x0 (0 : Int32) S6
set_option maxRecDepth 100000 in
theorem t_X6_read_108 {Γ : Cx} {F : Nat} : ∀ (x0 : Nat) (S : Mem), Sim cX6_read RX6 65 1419 (some .int) false Γ rI (f_X6_read_108 F x0 S) S 108 [some (.ref x0), none, none, none, none] [] := by
  intro x0 S
  unfold f_X6_read_108
  refine s_aload_n 0 dX6_read_108 rfl rfl ?_
  refine s_getI fk_X6_30 rfl dX6_read_109 (fun v1 => ?_)
  exact s_iret dX6_read_112
set_option maxRecDepth 100000 in
theorem t_X6_read_96 {Γ : Cx} {F : Nat} {k27 : Nat → Int32 → Mem → Option (Int32 × Mem)} (hk27 : ∀ (x0 : Nat) (x4 : Int32) (S : Mem), Sim cX6_read RX6 65 1419 (some .int) false Γ rI (k27 x0 x4 S) S 27 [some (.ref x0), none, none, none, some (.int x4)] []) : ∀ (x0 : Nat) (x4 : Int32) (S : Mem), Sim cX6_read RX6 65 1419 (some .int) false Γ rI (f_X6_read_96 F k27 x0 x4 S) S 96 [some (.ref x0), none, none, none, some (.int x4)] [] := by
  intro x0 x4 S
  unfold f_X6_read_96
  refine s_aload_n 0 dX6_read_96 rfl rfl ?_
  refine s_bipush (34 : Int32) dX6_read_97 (by decide) ?_
  refine s_cV1V mk_X6_56 (by decide) rfl (fun v9 S9 h9 => con_X6_expect F _ _ _ v9 S9 h9) ⟨by omega, by omega⟩ (Nat.le_of_ble_eq_true rfl) dX6_read_99 (fun _ S2 => ?_)
  refine s_iinc_4 (1 : Int32) dX6_read_102 (by decide) rfl ?_
  refine s_goto 27 dX6_read_105 (by decide) ?_
  exact s_less (hk27 x0 (x4 + (1 : Int32)) S2) (And.intro rfl (And.intro rfl trivial))
set_option maxRecDepth 100000 in
theorem t_X6_read_27 {Γ : Cx} {F : Nat} : ∀ (f : Nat) (x0 : Nat) (x4 : Int32) (S : Mem), Sim cX6_read RX6 65 1419 (some .int) false Γ rI (fix2 (b_X6_read_27 F) f x0 x4 S) S 27 [some (.ref x0), none, none, none, some (.int x4)] [] := by
  refine s_fix2 (fun (x0 : Nat) (x4 : Int32) => [some (.ref x0), none, none, none, some (.int x4)]) (fun k27 hk27 => ?_)
  intro x0 x4 S
  unfold b_X6_read_27
  refine s_iload dX6_read_27 rfl ?_
  refine s_sipush (1000 : Int32) dX6_read_29 (by decide) ?_
  refine s_icmp_gt 108 dX6_read_32 (by decide) (fun _ => ?_) (fun _ => ?_)
  · exact s_less (t_X6_read_108 x0  S) (And.intro rfl trivial)
  · refine s_aload_n 0 dX6_read_35 rfl rfl ?_
    refine s_getR fk_X6_12 rfl dX6_read_36 (fun v1 => ?_)
    refine s_getI fk_X6_41 rfl dX6_read_39 (fun v2 => ?_)
    refine s_bipush (35 : Int32) dX6_read_42 (by decide) ?_
    refine s_icmp_eq 108 dX6_read_44 (by decide) (fun _ => ?_) (fun _ => ?_)
    · exact s_less (t_X6_read_108 x0  S) (And.intro rfl trivial)
    · refine s_aload_n 0 dX6_read_47 rfl rfl ?_
      refine s_getR fk_X6_12 rfl dX6_read_48 (fun v3 => ?_)
      refine s_getI fk_X6_41 rfl dX6_read_51 (fun v4 => ?_)
      refine s_bipush (6 : Int32) dX6_read_54 (by decide) ?_
      refine s_icmp_ne 66 dX6_read_56 (by decide) (fun _ => ?_) (fun _ => ?_)
      · refine s_aload_n 0 dX6_read_66 rfl rfl ?_
        refine s_getR fk_X6_12 rfl dX6_read_67 (fun v5 => ?_)
        refine s_getI fk_X6_41 rfl dX6_read_70 (fun v6 => ?_)
        refine s_iconst (5 : Int32) dX6_read_73 (by decide) ?_
        refine s_icmp_gt 91 dX6_read_74 (by decide) (fun _ => ?_) (fun _ => ?_)
        · refine s_aload_n 0 dX6_read_91 rfl rfl ?_
          refine s_iconst (1 : Int32) dX6_read_92 (by decide) ?_
          refine s_cV1V mk_X6_53 (by decide) rfl (fun v9 S9 h9 => con_X6_fail F _ _ _ v9 S9 h9) ⟨by omega, by omega⟩ (Nat.le_of_ble_eq_true rfl) dX6_read_93 (fun _ S8 => ?_)
          exact s_less (t_X6_read_96 hk27 x0 x4  S8) (And.intro rfl (And.intro rfl trivial))
        · refine s_aload_n 0 dX6_read_77 rfl rfl ?_
          refine s_aload_n 0 dX6_read_78 rfl rfl ?_
          refine s_getR fk_X6_12 rfl dX6_read_79 (fun v9 => ?_)
          refine s_getI fk_X6_41 rfl dX6_read_82 (fun v10 => ?_)
          refine s_cV1V mk_X6_49 (by decide) rfl (fun v9 S9 h9 => con_X6_readOnce F _ _ _ v9 S9 h9) ⟨by omega, by omega⟩ (Nat.le_of_ble_eq_true rfl) dX6_read_85 (fun _ S12 => ?_)
          refine s_goto 96 dX6_read_88 (by decide) ?_
          exact s_less (t_X6_read_96 hk27 x0 x4  S12) (And.intro rfl (And.intro rfl trivial))
      · refine s_aload_n 0 dX6_read_59 rfl rfl ?_
        refine s_cV0V mk_X6_46 (by decide) rfl (fun v9 S9 h9 => con_X6_readKite F _ _ v9 S9 h9) ⟨by omega, by omega⟩ (Nat.le_of_ble_eq_true rfl) dX6_read_60 (fun _ S14 => ?_)
        refine s_goto 96 dX6_read_63 (by decide) ?_
        exact s_less (t_X6_read_96 hk27 x0 x4  S14) (And.intro rfl (And.intro rfl trivial))
set_option maxRecDepth 100000 in
theorem con_X6_read {l : Launch} (F : Nat) (x0 : Nat) (x1 : Nat) (x2 : Int32) (x3 : Nat) (S : Mem) (v : Int32) (S1 : Mem) (h : fn_X6_read F x0 x1 x2 x3 S = some (v, S1)) : Con l yX6_read cX6_read 5 (some .int) 65 1419 [.ref x0, .ref x1, .int x2, .ref x3] S (rI v) S1 := by
  refine con_of (ι := rI) RX6 false [some (.ref x0), some (.ref x1), some (.int x2), some (.ref x3), none] rfl (fun h => by cases h) (by decide) (Nat.le_of_ble_eq_true rfl) ⟨rfl, rfl⟩ (fun Γ hl => ?_) h
  unfold fn_X6_read
  refine s_aload_n 0 dX6_read_0 rfl rfl ?_
  refine s_iconst (0 : Int32) dX6_read_1 (by decide) ?_
  refine s_putI fk_X6_30 (Or.inl rfl) rfl dX6_read_2 (fun S1 => ?_)
  refine s_aload_n 0 dX6_read_5 rfl rfl ?_
  refine s_iconst (0 : Int32) dX6_read_6 (by decide) ?_
  refine s_putI fk_X6_34 (Or.inl rfl) rfl dX6_read_7 (fun S2 => ?_)
  refine s_aload_n 0 dX6_read_10 rfl rfl ?_
  refine s_aload_n 3 dX6_read_11 rfl rfl ?_
  refine s_putR fk_X6_26 (Or.inl rfl) rfl dX6_read_12 (fun S3 => ?_)
  refine s_aload_n 0 dX6_read_15 rfl rfl ?_
  refine s_getR fk_X6_12 rfl dX6_read_16 (fun v4 => ?_)
  refine s_aload_n 1 dX6_read_19 rfl rfl ?_
  refine s_iload_n 2 dX6_read_20 rfl rfl ?_
  refine s_cV2V mk_X6_37 (by decide) rfl (fun v9 S9 h9 => con_X1_open F _ _ _ _ v9 S9 h9) ⟨by omega, by omega⟩ (Nat.le_of_ble_eq_true rfl) dX6_read_21 (fun _ S6 => ?_)
  refine s_iconst (0 : Int32) dX6_read_24 (by decide) ?_
  refine s_istore_4 dX6_read_25 rfl ?_
  exact s_less (t_X6_read_27 F x0 (0 : Int32) S6) (And.intro rfl (And.intro rfl trivial))
-- X8_init
def fn_X8_init (F : Nat) (x0 : Nat) (S : Mem) : Option (Unit × Mem) :=
  bd (nO S 5) fun v1 S2 =>
  bd ((fn_X5_init F v1 S2)) fun _ S4 =>
  bd (nA S4 9 (1000 : Int32)) fun v5 S6 =>
  (sR S6 7 0 x0 v5).bind fun S7 =>
  bd (nO S7 6) fun v8 S9 =>
  bd ((fn_X6_init F v8 v1 S9)) fun _ S11 =>
  (sR S11 7 2 x0 v8).bind fun S12 =>
  bd (nO S12 0) fun v13 S14 =>
  bd ((fn_X0_init F v13 v1 S14)) fun _ S16 =>
  (sR S16 7 3 x0 v13).bind fun S17 =>
  bd (nO S17 4) fun v18 S19 =>
  bd ((fn_X4_init F v18 S19)) fun _ S21 =>
  (sR S21 7 4 x0 v18).bind fun S22 =>
  bd (nO S22 2) fun v23 S24 =>
  bd ((fn_X2_init F v23 v1 S24)) fun _ S26 =>
  (sR S26 7 5 x0 v23).bind fun S27 =>
  bd (nO S27 2) fun v28 S29 =>
  bd ((fn_X2_init F v28 v1 S29)) fun _ S31 =>
  (sR S31 7 6 x0 v28).bind fun S32 =>
  bd (nA S32 13 (4 : Int32)) fun v33 S34 =>
  (sR S34 7 7 x0 v33).bind fun S35 =>
  (gR S35 7 7 x0).bind fun v36 =>
  bd (nO S35 2) fun v37 S38 =>
  bd ((fn_X2_init F v37 v1 S38)) fun _ S40 =>
  (sAR S40 2 v36 (0 : Int32) v37).bind fun S41 =>
  (gR S41 7 7 x0).bind fun v42 =>
  bd (nO S41 2) fun v43 S44 =>
  bd ((fn_X2_init F v43 v1 S44)) fun _ S46 =>
  (sAR S46 2 v42 (1 : Int32) v43).bind fun S47 =>
  (gR S47 7 7 x0).bind fun v48 =>
  bd (nO S47 2) fun v49 S50 =>
  bd ((fn_X2_init F v49 v1 S50)) fun _ S52 =>
  (sAR S52 2 v48 (2 : Int32) v49).bind fun S53 =>
  (gR S53 7 7 x0).bind fun v54 =>
  bd (nO S53 2) fun v55 S56 =>
  bd ((fn_X2_init F v55 v1 S56)) fun _ S58 =>
  (sAR S58 2 v54 (3 : Int32) v55).bind fun S59 =>
  some ((), S59)
set_option maxRecDepth 100000 in
theorem con_X8_init {l : Launch} (F : Nat) (x0 : Nat) (S : Mem) (v : Unit) (S1 : Mem) (h : fn_X8_init F x0 S = some (v, S1)) : Con l yX8_init cX8_init 3 none 19 807 [.ref x0] S (rV v) S1 := by
  refine con_of (ι := rV) RX8 true [some (.ref x0), none, none] rfl (fun _ => rfl) (by decide) (Nat.le_of_ble_eq_true rfl) ⟨rfl, rfl⟩ (fun Γ hl => ?_) h
  unfold fn_X8_init
  refine s_aload_n 0 dX8_init_0 rfl rfl ?_
  refine s_objInit (lw_in 107 (by decide +kernel) (by decide +kernel)) (lw_in 108 (by decide +kernel) (by decide +kernel)) (lw_in 109 (by decide +kernel) (by decide +kernel)) ⟨by omega, by show _ + 12 ≤ _; simp [Value.category] <;> omega⟩ dX8_init_1 ?_
  refine s_new 5 (by decide) (lw_in 110 (by decide +kernel) (by decide +kernel)) dX8_init_4 (fun v1 S2 => ?_)
  refine s_dup dX8_init_7 rfl ?_
  refine s_cIN0V mk_X8_11 (fun v9 S9 h9 => con_X5_init F _ _ v9 S9 h9) ⟨by omega, by omega⟩ (Nat.le_of_ble_eq_true rfl) dX8_init_8 (fun _ S4 => ?_)
  refine s_astore_1 dX8_init_11 rfl ?_
  refine s_aload_n 0 dX8_init_12 rfl rfl ?_
  refine s_sipush (1000 : Int32) dX8_init_13 (by decide) ?_
  refine s_newa9 (lw_in 279 (by decide +kernel) (by decide +kernel)) dX8_init_16 (fun v5 S6 => ?_)
  refine s_putR fk_X8_12 (Or.inr ⟨rfl, rfl, rfl⟩) rfl dX8_init_18 (fun S7 => ?_)
  refine s_aload_n 0 dX8_init_21 rfl rfl ?_
  refine s_new 6 (by decide) (lw_in 186 (by decide +kernel) (by decide +kernel)) dX8_init_22 (fun v8 S9 => ?_)
  refine s_dup dX8_init_25 rfl ?_
  refine s_aload_n 1 dX8_init_26 rfl rfl ?_
  refine s_cI1V mk_X8_18 (fun v9 S9 h9 => con_X6_init F _ _ _ v9 S9 h9) ⟨by omega, by omega⟩ (Nat.le_of_ble_eq_true rfl) dX8_init_27 (fun _ S11 => ?_)
  refine s_putR fk_X8_21 (Or.inr ⟨rfl, rfl, rfl⟩) rfl dX8_init_30 (fun S12 => ?_)
  refine s_aload_n 0 dX8_init_33 rfl rfl ?_
  refine s_new 0 (by decide) (lw_in 306 (by decide +kernel) (by decide +kernel)) dX8_init_34 (fun v13 S14 => ?_)
  refine s_dup dX8_init_37 rfl ?_
  refine s_aload_n 1 dX8_init_38 rfl rfl ?_
  refine s_cI1V mk_X8_27 (fun v9 S9 h9 => con_X0_init F _ _ _ v9 S9 h9) ⟨by omega, by omega⟩ (Nat.le_of_ble_eq_true rfl) dX8_init_39 (fun _ S16 => ?_)
  refine s_putR fk_X8_28 (Or.inr ⟨rfl, rfl, rfl⟩) rfl dX8_init_42 (fun S17 => ?_)
  refine s_aload_n 0 dX8_init_45 rfl rfl ?_
  refine s_new 4 (by decide) (lw_in 362 (by decide +kernel) (by decide +kernel)) dX8_init_46 (fun v18 S19 => ?_)
  refine s_dup dX8_init_49 rfl ?_
  refine s_cIN0V mk_X8_34 (fun v9 S9 h9 => con_X4_init F _ _ v9 S9 h9) ⟨by omega, by omega⟩ (Nat.le_of_ble_eq_true rfl) dX8_init_50 (fun _ S21 => ?_)
  refine s_putR fk_X8_35 (Or.inr ⟨rfl, rfl, rfl⟩) rfl dX8_init_53 (fun S22 => ?_)
  refine s_aload_n 0 dX8_init_56 rfl rfl ?_
  refine s_new 2 (by decide) (lw_in 417 (by decide +kernel) (by decide +kernel)) dX8_init_57 (fun v23 S24 => ?_)
  refine s_dup dX8_init_60 rfl ?_
  refine s_aload_n 1 dX8_init_61 rfl rfl ?_
  refine s_cI1V mk_X8_41 (fun v9 S9 h9 => con_X2_init F _ _ _ v9 S9 h9) ⟨by omega, by omega⟩ (Nat.le_of_ble_eq_true rfl) dX8_init_62 (fun _ S26 => ?_)
  refine s_putR fk_X8_42 (Or.inr ⟨rfl, rfl, rfl⟩) rfl dX8_init_65 (fun S27 => ?_)
  refine s_aload_n 0 dX8_init_68 rfl rfl ?_
  refine s_new 2 (by decide) (lw_in 417 (by decide +kernel) (by decide +kernel)) dX8_init_69 (fun v28 S29 => ?_)
  refine s_dup dX8_init_72 rfl ?_
  refine s_aload_n 1 dX8_init_73 rfl rfl ?_
  refine s_cI1V mk_X8_41 (fun v9 S9 h9 => con_X2_init F _ _ _ v9 S9 h9) ⟨by omega, by omega⟩ (Nat.le_of_ble_eq_true rfl) dX8_init_74 (fun _ S31 => ?_)
  refine s_putR fk_X8_46 (Or.inr ⟨rfl, rfl, rfl⟩) rfl dX8_init_77 (fun S32 => ?_)
  refine s_aload_n 0 dX8_init_80 rfl rfl ?_
  refine s_iconst (4 : Int32) dX8_init_81 (by decide) ?_
  refine s_anew (lw_in 417 (by decide +kernel) (by decide +kernel)) dX8_init_82 (fun v33 S34 => ?_)
  refine s_putR fk_X8_49 (Or.inr ⟨rfl, rfl, rfl⟩) rfl dX8_init_85 (fun S35 => ?_)
  refine s_iconst (0 : Int32) dX8_init_88 (by decide) ?_
  refine s_istore_2 dX8_init_89 rfl ?_
  refine s_iload_n 2 dX8_init_90 rfl rfl ?_
  refine s_iconst (4 : Int32) dX8_init_91 (by decide) ?_
  refine s_icmp_geF 115 dX8_init_92 (by decide) (by decide) ?_
  refine s_aload_n 0 dX8_init_95 rfl rfl ?_
  refine s_getR fk_X8_49 rfl dX8_init_96 (fun v36 => ?_)
  refine s_iload_n 2 dX8_init_99 rfl rfl ?_
  refine s_new 2 (by decide) (lw_in 417 (by decide +kernel) (by decide +kernel)) dX8_init_100 (fun v37 S38 => ?_)
  refine s_dup dX8_init_103 rfl ?_
  refine s_aload_n 1 dX8_init_104 rfl rfl ?_
  refine s_cI1V mk_X8_41 (fun v9 S9 h9 => con_X2_init F _ _ _ v9 S9 h9) ⟨by omega, by omega⟩ (Nat.le_of_ble_eq_true rfl) dX8_init_105 (fun _ S40 => ?_)
  refine s_aast dX8_init_108 (fun S41 => ?_)
  refine s_iinc_2 (1 : Int32) dX8_init_109 (by decide) rfl ?_
  refine s_goto 90 dX8_init_112 (by decide) ?_
  refine s_iload_n 2 dX8_init_90 rfl rfl ?_
  refine s_iconst (4 : Int32) dX8_init_91 (by decide) ?_
  refine s_icmp_geF 115 dX8_init_92 (by decide) (by decide) ?_
  refine s_aload_n 0 dX8_init_95 rfl rfl ?_
  refine s_getR fk_X8_49 rfl dX8_init_96 (fun v42 => ?_)
  refine s_iload_n 2 dX8_init_99 rfl rfl ?_
  refine s_new 2 (by decide) (lw_in 417 (by decide +kernel) (by decide +kernel)) dX8_init_100 (fun v43 S44 => ?_)
  refine s_dup dX8_init_103 rfl ?_
  refine s_aload_n 1 dX8_init_104 rfl rfl ?_
  refine s_cI1V mk_X8_41 (fun v9 S9 h9 => con_X2_init F _ _ _ v9 S9 h9) ⟨by omega, by omega⟩ (Nat.le_of_ble_eq_true rfl) dX8_init_105 (fun _ S46 => ?_)
  refine s_aast dX8_init_108 (fun S47 => ?_)
  refine s_iinc_2 (1 : Int32) dX8_init_109 (by decide) rfl ?_
  refine s_goto 90 dX8_init_112 (by decide) ?_
  refine s_iload_n 2 dX8_init_90 rfl rfl ?_
  refine s_iconst (4 : Int32) dX8_init_91 (by decide) ?_
  refine s_icmp_geF 115 dX8_init_92 (by decide) (by decide) ?_
  refine s_aload_n 0 dX8_init_95 rfl rfl ?_
  refine s_getR fk_X8_49 rfl dX8_init_96 (fun v48 => ?_)
  refine s_iload_n 2 dX8_init_99 rfl rfl ?_
  refine s_new 2 (by decide) (lw_in 417 (by decide +kernel) (by decide +kernel)) dX8_init_100 (fun v49 S50 => ?_)
  refine s_dup dX8_init_103 rfl ?_
  refine s_aload_n 1 dX8_init_104 rfl rfl ?_
  refine s_cI1V mk_X8_41 (fun v9 S9 h9 => con_X2_init F _ _ _ v9 S9 h9) ⟨by omega, by omega⟩ (Nat.le_of_ble_eq_true rfl) dX8_init_105 (fun _ S52 => ?_)
  refine s_aast dX8_init_108 (fun S53 => ?_)
  refine s_iinc_2 (1 : Int32) dX8_init_109 (by decide) rfl ?_
  refine s_goto 90 dX8_init_112 (by decide) ?_
  refine s_iload_n 2 dX8_init_90 rfl rfl ?_
  refine s_iconst (4 : Int32) dX8_init_91 (by decide) ?_
  refine s_icmp_geF 115 dX8_init_92 (by decide) (by decide) ?_
  refine s_aload_n 0 dX8_init_95 rfl rfl ?_
  refine s_getR fk_X8_49 rfl dX8_init_96 (fun v54 => ?_)
  refine s_iload_n 2 dX8_init_99 rfl rfl ?_
  refine s_new 2 (by decide) (lw_in 417 (by decide +kernel) (by decide +kernel)) dX8_init_100 (fun v55 S56 => ?_)
  refine s_dup dX8_init_103 rfl ?_
  refine s_aload_n 1 dX8_init_104 rfl rfl ?_
  refine s_cI1V mk_X8_41 (fun v9 S9 h9 => con_X2_init F _ _ _ v9 S9 h9) ⟨by omega, by omega⟩ (Nat.le_of_ble_eq_true rfl) dX8_init_105 (fun _ S58 => ?_)
  refine s_aast dX8_init_108 (fun S59 => ?_)
  refine s_iinc_2 (1 : Int32) dX8_init_109 (by decide) rfl ?_
  refine s_goto 90 dX8_init_112 (by decide) ?_
  refine s_iload_n 2 dX8_init_90 rfl rfl ?_
  refine s_iconst (4 : Int32) dX8_init_91 (by decide) ?_
  refine s_icmp_geT 115 dX8_init_92 (by decide) (by decide) ?_
  exact s_vret dX8_init_115
-- X8_feedEight
def f_X8_feedEight_68 (F : Nat) (k3 : Nat → Int64 → Int32 → Mem → Option (Unit × Mem)) (x0 : Nat) (x1 : Int64) (x3 : Int32) (S : Mem) : Option (Unit × Mem) :=
  k3 x0 x1 (x3 + (-8 : Int32)) S
def f_X8_feedEight_36 (F : Nat) (k3 : Nat → Int64 → Int32 → Mem → Option (Unit × Mem)) (x0 : Nat) (x1 : Int64) (x3 : Int32) (x4 : Int32) (S : Mem) : Option (Unit × Mem) :=
  (gI S 7 1 x0).bind fun v1 =>
  if (1000 : Int32) ≤ v1 then
    f_X8_feedEight_68 F k3 x0 x1 x3  S
  else
    (gR S 7 0 x0).bind fun v2 =>
    (gI S 7 1 x0).bind fun v3 =>
    (sAB S v2 v3 ((x4).toInt8.toInt32)).bind fun S4 =>
    (gI S4 7 1 x0).bind fun v5 =>
    (sI S4 7 1 x0 (v5 + (1 : Int32))).bind fun S6 =>
    f_X8_feedEight_68 F k3 x0 x1 x3  S6
def b_X8_feedEight_3 (F : Nat) (k3 : Nat → Int64 → Int32 → Mem → Option (Unit × Mem)) (x0 : Nat) (x1 : Int64) (x3 : Int32) (S : Mem) : Option (Unit × Mem) :=
  if x3 < 0 then
    some ((), S)
  else
    lt ((((x1 >>> ((x3).toInt64 &&& 63)) &&& (255 : Int64))).toInt32) fun v1 =>
    if v1 = (10 : Int32) then
      f_X8_feedEight_36 F k3 x0 x1 x3 v1  S
    else
      bd ((fn_X8_isWithin F v1 (32 : Int32) (126 : Int32) S)) fun v2 S3 =>
      if v2 = 0 then
        f_X8_feedEight_68 F k3 x0 x1 x3  S3
      else
        f_X8_feedEight_36 F k3 x0 x1 x3 v1  S3
def fn_X8_feedEight (F : Nat) (x0 : Nat) (x1 : Int64) (S : Mem) : Option (Unit × Mem) :=
  fix3 (b_X8_feedEight_3 F) F x0 x1 (56 : Int32) S
set_option maxRecDepth 100000 in
theorem t_X8_feedEight_68 {Γ : Cx} {F : Nat} {k3 : Nat → Int64 → Int32 → Mem → Option (Unit × Mem)} (hk3 : ∀ (x0 : Nat) (x1 : Int64) (x3 : Int32) (S : Mem), Sim cX8_feedEight RX8 1 22 none false Γ rV (k3 x0 x1 x3 S) S 3 [some (.ref x0), some (.long x1), none, some (.int x3), none] []) : ∀ (x0 : Nat) (x1 : Int64) (x3 : Int32) (S : Mem), Sim cX8_feedEight RX8 1 22 none false Γ rV (f_X8_feedEight_68 F k3 x0 x1 x3 S) S 68 [some (.ref x0), some (.long x1), none, some (.int x3), none] [] := by
  intro x0 x1 x3 S
  unfold f_X8_feedEight_68
  refine s_iinc_3 (-8 : Int32) dX8_feedEight_68 (by decide) rfl ?_
  refine s_goto 3 dX8_feedEight_71 (by decide) ?_
  exact s_less (hk3 x0 x1 (x3 + (-8 : Int32)) S) (And.intro rfl (And.intro rfl (And.intro rfl trivial)))
set_option maxRecDepth 100000 in
theorem t_X8_feedEight_36 {Γ : Cx} {F : Nat} {k3 : Nat → Int64 → Int32 → Mem → Option (Unit × Mem)} (hk3 : ∀ (x0 : Nat) (x1 : Int64) (x3 : Int32) (S : Mem), Sim cX8_feedEight RX8 1 22 none false Γ rV (k3 x0 x1 x3 S) S 3 [some (.ref x0), some (.long x1), none, some (.int x3), none] []) : ∀ (x0 : Nat) (x1 : Int64) (x3 : Int32) (x4 : Int32) (S : Mem), Sim cX8_feedEight RX8 1 22 none false Γ rV (f_X8_feedEight_36 F k3 x0 x1 x3 x4 S) S 36 [some (.ref x0), some (.long x1), none, some (.int x3), some (.int x4)] [] := by
  intro x0 x1 x3 x4 S
  unfold f_X8_feedEight_36
  refine s_aload_n 0 dX8_feedEight_36 rfl rfl ?_
  refine s_getI fk_X8_57 rfl dX8_feedEight_37 (fun v1 => ?_)
  refine s_sipush (1000 : Int32) dX8_feedEight_40 (by decide) ?_
  refine s_icmp_ge 68 dX8_feedEight_43 (by decide) (fun _ => ?_) (fun _ => ?_)
  · exact s_less (t_X8_feedEight_68 hk3 x0 x1 x3  S) (And.intro rfl (And.intro rfl (And.intro rfl trivial)))
  · refine s_aload_n 0 dX8_feedEight_46 rfl rfl ?_
    refine s_getR fk_X8_12 rfl dX8_feedEight_47 (fun v2 => ?_)
    refine s_aload_n 0 dX8_feedEight_50 rfl rfl ?_
    refine s_getI fk_X8_57 rfl dX8_feedEight_51 (fun v3 => ?_)
    refine s_iload dX8_feedEight_54 rfl ?_
    refine s_i2b dX8_feedEight_56 ?_
    refine s_bast dX8_feedEight_57 (fun S4 => ?_)
    refine s_aload_n 0 dX8_feedEight_58 rfl rfl ?_
    refine s_dup dX8_feedEight_59 rfl ?_
    refine s_getI fk_X8_57 rfl dX8_feedEight_60 (fun v5 => ?_)
    refine s_iconst (1 : Int32) dX8_feedEight_63 (by decide) ?_
    refine s_iadd dX8_feedEight_64 ?_
    refine s_putI fk_X8_57 (Or.inl rfl) rfl dX8_feedEight_65 (fun S6 => ?_)
    exact s_less (t_X8_feedEight_68 hk3 x0 x1 x3  S6) (And.intro rfl (And.intro rfl (And.intro rfl trivial)))
set_option maxRecDepth 100000 in
theorem t_X8_feedEight_3 {Γ : Cx} {F : Nat} : ∀ (f : Nat) (x0 : Nat) (x1 : Int64) (x3 : Int32) (S : Mem), Sim cX8_feedEight RX8 1 22 none false Γ rV (fix3 (b_X8_feedEight_3 F) f x0 x1 x3 S) S 3 [some (.ref x0), some (.long x1), none, some (.int x3), none] [] := by
  refine s_fix3 (fun (x0 : Nat) (x1 : Int64) (x3 : Int32) => [some (.ref x0), some (.long x1), none, some (.int x3), none]) (fun k3 hk3 => ?_)
  intro x0 x1 x3 S
  unfold b_X8_feedEight_3
  refine s_iload_n 3 dX8_feedEight_3 rfl rfl ?_
  refine s_if_lt 74 dX8_feedEight_4 (by decide) (fun _ => ?_) (fun _ => ?_)
  · exact s_vret dX8_feedEight_74
  · refine s_lload_n 1 dX8_feedEight_7 rfl rfl ?_
    refine s_iload_n 3 dX8_feedEight_8 rfl rfl ?_
    refine s_lshr dX8_feedEight_9 ?_
    refine s_ldc2 (v := (255 : Int64)) dX8_feedEight_10 (lw_in 507 (by decide +kernel) (by decide +kernel)) ?_
    refine s_land dX8_feedEight_13 ?_
    refine s_l2i dX8_feedEight_14 ?_
    refine s_ltI (fun v1 => ?_)
    refine s_istore_4 dX8_feedEight_15 rfl ?_
    refine s_iload dX8_feedEight_17 rfl ?_
    refine s_bipush (10 : Int32) dX8_feedEight_19 (by decide) ?_
    refine s_icmp_eq 36 dX8_feedEight_21 (by decide) (fun _ => ?_) (fun _ => ?_)
    · exact s_less (t_X8_feedEight_36 hk3 x0 x1 x3 v1  S) (And.intro rfl (And.intro rfl (And.intro rfl (And.intro rfl trivial))))
    · refine s_iload dX8_feedEight_24 rfl ?_
      refine s_bipush (32 : Int32) dX8_feedEight_26 (by decide) ?_
      refine s_bipush (126 : Int32) dX8_feedEight_28 (by decide) ?_
      refine s_cS3I mk_X8_112 (fun v9 S9 h9 => con_X8_isWithin F _ _ _ _ v9 S9 h9) ⟨by omega, by omega⟩ (Nat.le_of_ble_eq_true rfl) dX8_feedEight_30 (fun v2 S3 => ?_)
      refine s_if_eq 68 dX8_feedEight_33 (by decide) (fun _ => ?_) (fun _ => ?_)
      · exact s_less (t_X8_feedEight_68 hk3 x0 x1 x3  S3) (And.intro rfl (And.intro rfl (And.intro rfl trivial)))
      · exact s_less (t_X8_feedEight_36 hk3 x0 x1 x3 v1  S3) (And.intro rfl (And.intro rfl (And.intro rfl (And.intro rfl trivial))))
set_option maxRecDepth 100000 in
theorem con_X8_feedEight {l : Launch} (F : Nat) (x0 : Nat) (x1 : Int64) (S : Mem) (v : Unit) (S1 : Mem) (h : fn_X8_feedEight F x0 x1 S = some (v, S1)) : Con l yX8_feedEight cX8_feedEight 5 none 1 22 [.ref x0, .long x1] S (rV v) S1 := by
  refine con_of (ι := rV) RX8 false [some (.ref x0), some (.long x1), none, none, none] rfl (fun h => by cases h) (by decide) (Nat.le_of_ble_eq_true rfl) ⟨rfl, rfl⟩ (fun Γ hl => ?_) h
  unfold fn_X8_feedEight
  refine s_bipush (56 : Int32) dX8_feedEight_0 (by decide) ?_
  refine s_istore_3 dX8_feedEight_2 rfl ?_
  exact s_less (t_X8_feedEight_3 F x0 x1 (56 : Int32) S) (And.intro rfl (And.intro rfl (And.intro rfl trivial)))
-- X8_feed
def fn_X8_feed (F : Nat) (x0 : Nat) (x1 : Int64) (x3 : Int64) (x5 : Int64) (S : Mem) : Option (Int32 × Mem) :=
  bd (cal S 7 x0 (fn_X8_feedEight F x0 x1 S)) fun _ S2 =>
  bd (cal S2 7 x0 (fn_X8_feedEight F x0 x3 S2)) fun _ S4 =>
  bd (cal S4 7 x0 (fn_X8_feedEight F x0 x5 S4)) fun _ S6 =>
  (gI S6 7 1 x0).bind fun v7 =>
  some (v7, S6)
set_option maxRecDepth 100000 in
theorem con_X8_feed {l : Launch} (F : Nat) (x0 : Nat) (x1 : Int64) (x3 : Int64) (x5 : Int64) (S : Mem) (v : Int32) (S1 : Mem) (h : fn_X8_feed F x0 x1 x3 x5 S = some (v, S1)) : Con l yX8_feed cX8_feed 7 (some .int) 2 46 [.ref x0, .long x1, .long x3, .long x5] S (rI v) S1 := by
  refine con_of (ι := rI) RX8 false [some (.ref x0), some (.long x1), none, some (.long x3), none, some (.long x5), none] rfl (fun h => by cases h) (by decide) (Nat.le_of_ble_eq_true rfl) ⟨rfl, rfl⟩ (fun Γ hl => ?_) h
  unfold fn_X8_feed
  refine s_aload_n 0 dX8_feed_0 rfl rfl ?_
  refine s_lload_n 1 dX8_feed_1 rfl rfl ?_
  refine s_cV1V mk_X8_53 (by decide) rfl (fun v9 S9 h9 => con_X8_feedEight F _ _ _ v9 S9 h9) ⟨by omega, by omega⟩ (Nat.le_of_ble_eq_true rfl) dX8_feed_2 (fun _ S2 => ?_)
  refine s_aload_n 0 dX8_feed_5 rfl rfl ?_
  refine s_lload_n 3 dX8_feed_6 rfl rfl ?_
  refine s_cV1V mk_X8_53 (by decide) rfl (fun v9 S9 h9 => con_X8_feedEight F _ _ _ v9 S9 h9) ⟨by omega, by omega⟩ (Nat.le_of_ble_eq_true rfl) dX8_feed_7 (fun _ S4 => ?_)
  refine s_aload_n 0 dX8_feed_10 rfl rfl ?_
  refine s_lload dX8_feed_11 rfl ?_
  refine s_cV1V mk_X8_53 (by decide) rfl (fun v9 S9 h9 => con_X8_feedEight F _ _ _ v9 S9 h9) ⟨by omega, by omega⟩ (Nat.le_of_ble_eq_true rfl) dX8_feed_13 (fun _ S6 => ?_)
  refine s_aload_n 0 dX8_feed_16 rfl rfl ?_
  refine s_getI fk_X8_57 rfl dX8_feed_17 (fun v7 => ?_)
  exact s_iret dX8_feed_20
-- X8_sky
def f_X8_sky_42 (F : Nat) (x2 : Int32) (S : Mem) : Option (Int32 × Mem) :=
  some (x2, S)
def fn_X8_sky (F : Nat) (x0 : Nat) (S : Mem) : Option (Int32 × Mem) :=
  bd (nO S 5) fun v1 S2 =>
  bd ((fn_X5_init F v1 S2)) fun _ S4 =>
  (gR S4 7 2 x0).bind fun v5 =>
  (gR S4 7 0 x0).bind fun v6 =>
  (gI S4 7 1 x0).bind fun v7 =>
  bd (cal S4 6 v5 (fn_X6_read F v5 v6 v7 v1 S4)) fun v8 S9 =>
  (sI S9 7 1 x0 (0 : Int32)).bind fun S10 =>
  if v8 = 0 then
    (gR S10 7 5 x0).bind fun v11 =>
    bd (cal S10 2 v11 (fn_X2_begin F v11 v1 S10)) fun _ S13 =>
    f_X8_sky_42 F v8  S13
  else
    f_X8_sky_42 F v8  S10
set_option maxRecDepth 100000 in
theorem t_X8_sky_42 {Γ : Cx} {F : Nat} : ∀ (x2 : Int32) (S : Mem), Sim cX8_sky RX8 66 1443 (some .int) false Γ rI (f_X8_sky_42 F x2 S) S 42 [none, none, some (.int x2)] [] := by
  intro x2 S
  unfold f_X8_sky_42
  refine s_iload_n 2 dX8_sky_42 rfl rfl ?_
  exact s_iret dX8_sky_43
set_option maxRecDepth 100000 in
theorem con_X8_sky {l : Launch} (F : Nat) (x0 : Nat) (S : Mem) (v : Int32) (S1 : Mem) (h : fn_X8_sky F x0 S = some (v, S1)) : Con l yX8_sky cX8_sky 3 (some .int) 66 1443 [.ref x0] S (rI v) S1 := by
  refine con_of (ι := rI) RX8 false [some (.ref x0), none, none] rfl (fun h => by cases h) (by decide) (Nat.le_of_ble_eq_true rfl) ⟨rfl, rfl⟩ (fun Γ hl => ?_) h
  unfold fn_X8_sky
  refine s_new 5 (by decide) (lw_in 110 (by decide +kernel) (by decide +kernel)) dX8_sky_0 (fun v1 S2 => ?_)
  refine s_dup dX8_sky_3 rfl ?_
  refine s_cIN0V mk_X8_11 (fun v9 S9 h9 => con_X5_init F _ _ v9 S9 h9) ⟨by omega, by omega⟩ (Nat.le_of_ble_eq_true rfl) dX8_sky_4 (fun _ S4 => ?_)
  refine s_astore_1 dX8_sky_7 rfl ?_
  refine s_aload_n 0 dX8_sky_8 rfl rfl ?_
  refine s_getR fk_X8_21 rfl dX8_sky_9 (fun v5 => ?_)
  refine s_aload_n 0 dX8_sky_12 rfl rfl ?_
  refine s_getR fk_X8_12 rfl dX8_sky_13 (fun v6 => ?_)
  refine s_aload_n 0 dX8_sky_16 rfl rfl ?_
  refine s_getI fk_X8_57 rfl dX8_sky_17 (fun v7 => ?_)
  refine s_aload_n 1 dX8_sky_20 rfl rfl ?_
  refine s_cV3I mk_X8_61 (by decide) rfl (fun v9 S9 h9 => con_X6_read F _ _ _ _ _ v9 S9 h9) ⟨by omega, by omega⟩ (Nat.le_of_ble_eq_true rfl) dX8_sky_21 (fun v8 S9 => ?_)
  refine s_istore_2 dX8_sky_24 rfl ?_
  refine s_aload_n 0 dX8_sky_25 rfl rfl ?_
  refine s_iconst (0 : Int32) dX8_sky_26 (by decide) ?_
  refine s_putI fk_X8_57 (Or.inl rfl) rfl dX8_sky_27 (fun S10 => ?_)
  refine s_iload_n 2 dX8_sky_30 rfl rfl ?_
  refine s_if_ne 42 dX8_sky_31 (by decide) (fun _ => ?_) (fun _ => ?_)
  · exact s_less (t_X8_sky_42 v8  S10) (And.intro rfl trivial)
  · refine s_aload_n 0 dX8_sky_34 rfl rfl ?_
    refine s_getR fk_X8_42 rfl dX8_sky_35 (fun v11 => ?_)
    refine s_aload_n 1 dX8_sky_38 rfl rfl ?_
    refine s_cV1V mk_X8_65 (by decide) rfl (fun v9 S9 h9 => con_X2_begin F _ _ _ v9 S9 h9) ⟨by omega, by omega⟩ (Nat.le_of_ble_eq_true rfl) dX8_sky_39 (fun _ S13 => ?_)
    exact s_less (t_X8_sky_42 v8  S13) (And.intro rfl trivial)
-- X8_isKite
def fn_X8_isKite (F : Nat) (x0 : Nat) (x1 : Int32) (S : Mem) : Option (Int32 × Mem) :=
  (gR S 7 5 x0).bind fun v1 =>
  (gR S 2 0 v1).bind fun v2 =>
  (gI S 5 0 v2).bind fun v3 =>
  bd ((fn_X8_isWithin F x1 (0 : Int32) (v3 - (1 : Int32)) S)) fun v4 S5 =>
  rz v4 S5
set_option maxRecDepth 100000 in
theorem con_X8_isKite {l : Launch} (F : Nat) (x0 : Nat) (x1 : Int32) (S : Mem) (v : Int32) (S1 : Mem) (h : fn_X8_isKite F x0 x1 S = some (v, S1)) : Con l yX8_isKite cX8_isKite 2 (some .boolean) 1 22 [.ref x0, .int x1] S (rI v) S1 := by
  refine con_of (ι := rI) RX8 false [some (.ref x0), some (.int x1)] rfl (fun h => by cases h) (by decide) (Nat.le_of_ble_eq_true rfl) ⟨rfl, rfl⟩ (fun Γ hl => ?_) h
  unfold fn_X8_isKite
  refine s_iload_n 1 dX8_isKite_0 rfl rfl ?_
  refine s_iconst (0 : Int32) dX8_isKite_1 (by decide) ?_
  refine s_aload_n 0 dX8_isKite_2 rfl rfl ?_
  refine s_getR fk_X8_42 rfl dX8_isKite_3 (fun v1 => ?_)
  refine s_getR fk_X8_72 rfl dX8_isKite_6 (fun v2 => ?_)
  refine s_getI fk_X8_150 rfl dX8_isKite_9 (fun v3 => ?_)
  refine s_iconst (1 : Int32) dX8_isKite_12 (by decide) ?_
  refine s_isub dX8_isKite_13 ?_
  refine s_cS3I mk_X8_112 (fun v9 S9 h9 => con_X8_isWithin F _ _ _ _ v9 S9 h9) ⟨by omega, by omega⟩ (Nat.le_of_ble_eq_true rfl) dX8_isKite_14 (fun v4 S5 => ?_)
  exact s_zret dX8_isKite_17
-- X8_kite
def f_X8_kite_160 (F : Nat) (y0 : Int32) (S : Mem) : Option (Int32 × Mem) :=
  some (y0, S)
def f_X8_kite_114 (F : Nat) (y0 : Int32) (S : Mem) : Option (Int32 × Mem) :=
  some (y0, S)
def fn_X8_kite (F : Nat) (x0 : Nat) (x1 : Int32) (x2 : Int32) (S : Mem) : Option (Int32 × Mem) :=
  bd (cal S 7 x0 (fn_X8_isKite F x0 x1 S)) fun v1 S2 =>
  if v1 = 0 then
    some ((-1 : Int32), S2)
  else
    if x2 = (0 : Int32) then
      (gR S2 7 5 x0).bind fun v3 =>
      (gR S2 2 0 v3).bind fun v4 =>
      (gR S2 5 1 v4).bind fun v5 =>
      (gA S2 10 v5 x1).bind fun v6 =>
      some (v6, S2)
    else
      if x2 = (1 : Int32) then
        (gR S2 7 5 x0).bind fun v7 =>
        (gR S2 2 4 v7).bind fun v8 =>
        (gA S2 10 v8 x1).bind fun v9 =>
        some (v9, S2)
      else
        if x2 = (2 : Int32) then
          (gR S2 7 3 x0).bind fun v10 =>
          (gR S2 7 5 x0).bind fun v11 =>
          (gR S2 7 5 x0).bind fun v12 =>
          (gI S2 2 1 v12).bind fun v13 =>
          bd (cal S2 0 v10 (fn_X0_feel F v10 v11 v13 (0 : Int32) S2)) fun _ S15 =>
          (gR S15 7 5 x0).bind fun v16 =>
          bd (cal S15 2 v16 (fn_X2_isLost F v16 x1 S15)) fun v17 S18 =>
          if v17 = 0 then
            (gR S18 7 3 x0).bind fun v19 =>
            (gR S18 0 2 v19).bind fun v20 =>
            (gA S18 10 v20 x1).bind fun v21 =>
            f_X8_kite_114 F  v21 S18
          else
            f_X8_kite_114 F  (0 : Int32) S18
        else
          if x2 = (3 : Int32) then
            (gR S2 7 3 x0).bind fun v22 =>
            (gR S2 7 5 x0).bind fun v23 =>
            (gR S2 7 5 x0).bind fun v24 =>
            (gI S2 2 1 v24).bind fun v25 =>
            bd (cal S2 0 v22 (fn_X0_feel F v22 v23 v25 (0 : Int32) S2)) fun _ S27 =>
            (gR S27 7 5 x0).bind fun v28 =>
            bd (cal S27 2 v28 (fn_X2_isLost F v28 x1 S27)) fun v29 S30 =>
            if v29 = 0 then
              (gR S30 7 3 x0).bind fun v31 =>
              (gI S30 0 3 v31).bind fun v32 =>
              f_X8_kite_160 F  ((v32 >>> (x1 &&& 31)) &&& (1 : Int32)) S30
            else
              f_X8_kite_160 F  (2 : Int32) S30
          else
            if x2 = (4 : Int32) then
              (gR S2 7 5 x0).bind fun v33 =>
              (gR S2 2 5 v33).bind fun v34 =>
              (gA S2 10 v34 x1).bind fun v35 =>
              some (v35, S2)
            else
              if x2 = (5 : Int32) then
                (gR S2 7 5 x0).bind fun v36 =>
                (gR S2 2 6 v36).bind fun v37 =>
                (gA S2 10 v37 x1).bind fun v38 =>
                some (v38, S2)
              else
                some ((-1 : Int32), S2)
set_option maxRecDepth 100000 in
theorem t_X8_kite_160 {Γ : Cx} {F : Nat} : ∀ (y0 : Int32) (S : Mem), Sim cX8_kite RX8 4 95 (some .int) false Γ rI (f_X8_kite_160 F y0 S) S 160 [none, none, none] [.int y0] := by
  intro y0 S
  unfold f_X8_kite_160
  exact s_iret dX8_kite_160
set_option maxRecDepth 100000 in
theorem t_X8_kite_114 {Γ : Cx} {F : Nat} : ∀ (y0 : Int32) (S : Mem), Sim cX8_kite RX8 4 95 (some .int) false Γ rI (f_X8_kite_114 F y0 S) S 114 [none, none, none] [.int y0] := by
  intro y0 S
  unfold f_X8_kite_114
  exact s_iret dX8_kite_114
set_option maxRecDepth 100000 in
theorem con_X8_kite {l : Launch} (F : Nat) (x0 : Nat) (x1 : Int32) (x2 : Int32) (S : Mem) (v : Int32) (S1 : Mem) (h : fn_X8_kite F x0 x1 x2 S = some (v, S1)) : Con l yX8_kite cX8_kite 3 (some .int) 4 95 [.ref x0, .int x1, .int x2] S (rI v) S1 := by
  refine con_of (ι := rI) RX8 false [some (.ref x0), some (.int x1), some (.int x2)] rfl (fun h => by cases h) (by decide) (Nat.le_of_ble_eq_true rfl) ⟨rfl, rfl⟩ (fun Γ hl => ?_) h
  unfold fn_X8_kite
  refine s_aload_n 0 dX8_kite_0 rfl rfl ?_
  refine s_iload_n 1 dX8_kite_1 rfl rfl ?_
  refine s_cV1I mk_X8_68 (by decide) rfl (fun v9 S9 h9 => con_X8_isKite F _ _ _ v9 S9 h9) ⟨by omega, by omega⟩ (Nat.le_of_ble_eq_true rfl) dX8_kite_2 (fun v1 S2 => ?_)
  refine s_if_ne 10 dX8_kite_5 (by decide) (fun _ => ?_) (fun _ => ?_)
  · refine s_iload_n 2 dX8_kite_10 rfl rfl ?_
    refine s_ite _ (fun h0 => ?_) (fun h0 => ?_)
    · subst h0
      refine s_tsIn (off := 37) 48 dX8_kite_11 (by decide) (by decide) (by decide) (by decide) ?_
      refine s_aload_n 0 dX8_kite_48 rfl rfl ?_
      refine s_getR fk_X8_42 rfl dX8_kite_49 (fun v3 => ?_)
      refine s_getR fk_X8_72 rfl dX8_kite_52 (fun v4 => ?_)
      refine s_getR fk_X8_76 rfl dX8_kite_55 (fun v5 => ?_)
      refine s_iload_n 1 dX8_kite_58 rfl rfl ?_
      refine s_iald dX8_kite_59 (fun v6 => ?_)
      exact s_iret dX8_kite_60
    refine s_ite _ (fun h1 => ?_) (fun h1 => ?_)
    · subst h1
      refine s_tsIn (off := 50) 61 dX8_kite_11 (by decide) (by decide) (by decide) (by decide) ?_
      refine s_aload_n 0 dX8_kite_61 rfl rfl ?_
      refine s_getR fk_X8_42 rfl dX8_kite_62 (fun v7 => ?_)
      refine s_getR fk_X8_80 rfl dX8_kite_65 (fun v8 => ?_)
      refine s_iload_n 1 dX8_kite_68 rfl rfl ?_
      refine s_iald dX8_kite_69 (fun v9 => ?_)
      exact s_iret dX8_kite_70
    refine s_ite _ (fun h2 => ?_) (fun h2 => ?_)
    · subst h2
      refine s_tsIn (off := 60) 71 dX8_kite_11 (by decide) (by decide) (by decide) (by decide) ?_
      refine s_aload_n 0 dX8_kite_71 rfl rfl ?_
      refine s_getR fk_X8_28 rfl dX8_kite_72 (fun v10 => ?_)
      refine s_aload_n 0 dX8_kite_75 rfl rfl ?_
      refine s_getR fk_X8_42 rfl dX8_kite_76 (fun v11 => ?_)
      refine s_aload_n 0 dX8_kite_79 rfl rfl ?_
      refine s_getR fk_X8_42 rfl dX8_kite_80 (fun v12 => ?_)
      refine s_getI fk_X8_83 rfl dX8_kite_83 (fun v13 => ?_)
      refine s_iconst (0 : Int32) dX8_kite_86 (by decide) ?_
      refine s_cV3V mk_X8_86 (by decide) rfl (fun v9 S9 h9 => con_X0_feel F _ _ _ _ _ v9 S9 h9) ⟨by omega, by omega⟩ (Nat.le_of_ble_eq_true rfl) dX8_kite_87 (fun _ S15 => ?_)
      refine s_aload_n 0 dX8_kite_90 rfl rfl ?_
      refine s_getR fk_X8_42 rfl dX8_kite_91 (fun v16 => ?_)
      refine s_iload_n 1 dX8_kite_94 rfl rfl ?_
      refine s_cV1I mk_X8_90 (by decide) rfl (fun v9 S9 h9 => con_X2_isLost F _ _ _ v9 S9 h9) ⟨by omega, by omega⟩ (Nat.le_of_ble_eq_true rfl) dX8_kite_95 (fun v17 S18 => ?_)
      refine s_if_eq 105 dX8_kite_98 (by decide) (fun _ => ?_) (fun _ => ?_)
      · refine s_aload_n 0 dX8_kite_105 rfl rfl ?_
        refine s_getR fk_X8_28 rfl dX8_kite_106 (fun v19 => ?_)
        refine s_getR fk_X8_93 rfl dX8_kite_109 (fun v20 => ?_)
        refine s_iload_n 1 dX8_kite_112 rfl rfl ?_
        refine s_iald dX8_kite_113 (fun v21 => ?_)
        exact s_less (t_X8_kite_114  v21 S18) trivial
      · refine s_iconst (0 : Int32) dX8_kite_101 (by decide) ?_
        refine s_goto 114 dX8_kite_102 (by decide) ?_
        exact s_less (t_X8_kite_114  (0 : Int32) S18) trivial
    refine s_ite _ (fun h3 => ?_) (fun h3 => ?_)
    · subst h3
      refine s_tsIn (off := 104) 115 dX8_kite_11 (by decide) (by decide) (by decide) (by decide) ?_
      refine s_aload_n 0 dX8_kite_115 rfl rfl ?_
      refine s_getR fk_X8_28 rfl dX8_kite_116 (fun v22 => ?_)
      refine s_aload_n 0 dX8_kite_119 rfl rfl ?_
      refine s_getR fk_X8_42 rfl dX8_kite_120 (fun v23 => ?_)
      refine s_aload_n 0 dX8_kite_123 rfl rfl ?_
      refine s_getR fk_X8_42 rfl dX8_kite_124 (fun v24 => ?_)
      refine s_getI fk_X8_83 rfl dX8_kite_127 (fun v25 => ?_)
      refine s_iconst (0 : Int32) dX8_kite_130 (by decide) ?_
      refine s_cV3V mk_X8_86 (by decide) rfl (fun v9 S9 h9 => con_X0_feel F _ _ _ _ _ v9 S9 h9) ⟨by omega, by omega⟩ (Nat.le_of_ble_eq_true rfl) dX8_kite_131 (fun _ S27 => ?_)
      refine s_aload_n 0 dX8_kite_134 rfl rfl ?_
      refine s_getR fk_X8_42 rfl dX8_kite_135 (fun v28 => ?_)
      refine s_iload_n 1 dX8_kite_138 rfl rfl ?_
      refine s_cV1I mk_X8_90 (by decide) rfl (fun v9 S9 h9 => con_X2_isLost F _ _ _ v9 S9 h9) ⟨by omega, by omega⟩ (Nat.le_of_ble_eq_true rfl) dX8_kite_139 (fun v29 S30 => ?_)
      refine s_if_eq 149 dX8_kite_142 (by decide) (fun _ => ?_) (fun _ => ?_)
      · refine s_aload_n 0 dX8_kite_149 rfl rfl ?_
        refine s_getR fk_X8_28 rfl dX8_kite_150 (fun v31 => ?_)
        refine s_getI fk_X8_96 rfl dX8_kite_153 (fun v32 => ?_)
        refine s_iload_n 1 dX8_kite_156 rfl rfl ?_
        refine s_ishr dX8_kite_157 ?_
        refine s_iconst (1 : Int32) dX8_kite_158 (by decide) ?_
        refine s_iand dX8_kite_159 ?_
        exact s_less (t_X8_kite_160  ((v32 >>> (x1 &&& 31)) &&& (1 : Int32)) S30) trivial
      · refine s_iconst (2 : Int32) dX8_kite_145 (by decide) ?_
        refine s_goto 160 dX8_kite_146 (by decide) ?_
        exact s_less (t_X8_kite_160  (2 : Int32) S30) trivial
    refine s_ite _ (fun h4 => ?_) (fun h4 => ?_)
    · subst h4
      refine s_tsIn (off := 150) 161 dX8_kite_11 (by decide) (by decide) (by decide) (by decide) ?_
      refine s_aload_n 0 dX8_kite_161 rfl rfl ?_
      refine s_getR fk_X8_42 rfl dX8_kite_162 (fun v33 => ?_)
      refine s_getR fk_X8_99 rfl dX8_kite_165 (fun v34 => ?_)
      refine s_iload_n 1 dX8_kite_168 rfl rfl ?_
      refine s_iald dX8_kite_169 (fun v35 => ?_)
      exact s_iret dX8_kite_170
    refine s_ite _ (fun h5 => ?_) (fun h5 => ?_)
    · subst h5
      refine s_tsIn (off := 160) 171 dX8_kite_11 (by decide) (by decide) (by decide) (by decide) ?_
      refine s_aload_n 0 dX8_kite_171 rfl rfl ?_
      refine s_getR fk_X8_42 rfl dX8_kite_172 (fun v36 => ?_)
      refine s_getR fk_X8_102 rfl dX8_kite_175 (fun v37 => ?_)
      refine s_iload_n 1 dX8_kite_178 rfl rfl ?_
      refine s_iald dX8_kite_179 (fun v38 => ?_)
      exact s_iret dX8_kite_180
    have e0 := lv_neT (a := 0) h0 rfl
    have e1 := lv_neT (a := 1) h1 rfl
    have e2 := lv_neT (a := 2) h2 rfl
    have e3 := lv_neT (a := 3) h3 rfl
    have e4 := lv_neT (a := 4) h4 rfl
    have e5 := lv_neT (a := 5) h5 rfl
    refine s_tsOut 181 dX8_kite_11 (by omega) (by decide) ?_
    refine s_iconst (-1 : Int32) dX8_kite_181 (by decide) ?_
    exact s_iret dX8_kite_182
  · refine s_iconst (-1 : Int32) dX8_kite_8 (by decide) ?_
    exact s_iret dX8_kite_9
-- X8_isHeight
def fn_X8_isHeight (F : Nat) (x0 : Int32) (S : Mem) : Option (Int32 × Mem) :=
  bd ((fn_X8_isWithin F x0 (0 : Int32) (40 : Int32) S)) fun v1 S2 =>
  rz v1 S2
set_option maxRecDepth 100000 in
theorem con_X8_isHeight {l : Launch} (F : Nat) (x0 : Int32) (S : Mem) (v : Int32) (S1 : Mem) (h : fn_X8_isHeight F x0 S = some (v, S1)) : Con l yX8_isHeight cX8_isHeight 1 (some .boolean) 1 22 [.int x0] S (rI v) S1 := by
  refine con_of (ι := rI) RX8 false [some (.int x0)] rfl (fun h => by cases h) (by decide) (Nat.le_of_ble_eq_true rfl) ⟨rfl, rfl⟩ (fun Γ hl => ?_) h
  unfold fn_X8_isHeight
  refine s_iload_n 0 dX8_isHeight_0 rfl rfl ?_
  refine s_iconst (0 : Int32) dX8_isHeight_1 (by decide) ?_
  refine s_bipush (40 : Int32) dX8_isHeight_2 (by decide) ?_
  refine s_cS3I mk_X8_112 (fun v9 S9 h9 => con_X8_isWithin F _ _ _ _ v9 S9 h9) ⟨by omega, by omega⟩ (Nat.le_of_ble_eq_true rfl) dX8_isHeight_4 (fun v1 S2 => ?_)
  exact s_zret dX8_isHeight_7
-- X8_wind
def fn_X8_wind (F : Nat) (x0 : Nat) (x1 : Int32) (S : Mem) : Option (Int32 × Mem) :=
  bd ((fn_X8_isHeight F x1 S)) fun v1 S2 =>
  if v1 = 0 then
    some ((-1 : Int32), S2)
  else
    (gR S2 7 3 x0).bind fun v3 =>
    (gR S2 7 5 x0).bind fun v4 =>
    (gR S2 2 0 v4).bind fun v5 =>
    (gR S2 7 5 x0).bind fun v6 =>
    (gI S2 2 1 v6).bind fun v7 =>
    bd (cal S2 0 v3 (fn_X0_windAt F v3 v5 x1 v7 (0 : Int32) S2)) fun v8 S9 =>
    some (v8, S9)
set_option maxRecDepth 100000 in
theorem con_X8_wind {l : Launch} (F : Nat) (x0 : Nat) (x1 : Int32) (S : Mem) (v : Int32) (S1 : Mem) (h : fn_X8_wind F x0 x1 S = some (v, S1)) : Con l yX8_wind cX8_wind 2 (some .int) 3 70 [.ref x0, .int x1] S (rI v) S1 := by
  refine con_of (ι := rI) RX8 false [some (.ref x0), some (.int x1)] rfl (fun h => by cases h) (by decide) (Nat.le_of_ble_eq_true rfl) ⟨rfl, rfl⟩ (fun Γ hl => ?_) h
  unfold fn_X8_wind
  refine s_iload_n 1 dX8_wind_0 rfl rfl ?_
  refine s_cS1I mk_X8_105 (fun v9 S9 h9 => con_X8_isHeight F _ _ v9 S9 h9) ⟨by omega, by omega⟩ (Nat.le_of_ble_eq_true rfl) dX8_wind_1 (fun v1 S2 => ?_)
  refine s_if_ne 9 dX8_wind_4 (by decide) (fun _ => ?_) (fun _ => ?_)
  · refine s_aload_n 0 dX8_wind_9 rfl rfl ?_
    refine s_getR fk_X8_28 rfl dX8_wind_10 (fun v3 => ?_)
    refine s_aload_n 0 dX8_wind_13 rfl rfl ?_
    refine s_getR fk_X8_42 rfl dX8_wind_14 (fun v4 => ?_)
    refine s_getR fk_X8_72 rfl dX8_wind_17 (fun v5 => ?_)
    refine s_iload_n 1 dX8_wind_20 rfl rfl ?_
    refine s_aload_n 0 dX8_wind_21 rfl rfl ?_
    refine s_getR fk_X8_42 rfl dX8_wind_22 (fun v6 => ?_)
    refine s_getI fk_X8_83 rfl dX8_wind_25 (fun v7 => ?_)
    refine s_iconst (0 : Int32) dX8_wind_28 (by decide) ?_
    refine s_cV4I mk_X8_108 (by decide) rfl (fun v9 S9 h9 => con_X0_windAt F _ _ _ _ _ _ v9 S9 h9) ⟨by omega, by omega⟩ (Nat.le_of_ble_eq_true rfl) dX8_wind_29 (fun v8 S9 => ?_)
    exact s_iret dX8_wind_32
  · refine s_iconst (-1 : Int32) dX8_wind_7 (by decide) ?_
    exact s_iret dX8_wind_8
-- X8_lamp
def f_X8_lamp_79 (F : Nat) (y0 : Int32) (S : Mem) : Option (Int32 × Mem) :=
  some (y0, S)
def f_X8_lamp_20 (F : Nat)  (S : Mem) : Option (Int32 × Mem) :=
  none
def fn_X8_lamp (F : Nat) (x0 : Nat) (x1 : Int32) (x2 : Int32) (S : Mem) : Option (Int32 × Mem) :=
  bd ((fn_X8_isWithin F x1 (0 : Int32) (9999 : Int32) S)) fun v1 S2 =>
  if v1 = 0 then
    f_X8_lamp_20 F   S2
  else
    bd ((fn_X8_isWithin F x2 (0 : Int32) (2 : Int32) S2)) fun v3 S4 =>
    if v3 = 0 then
      f_X8_lamp_20 F   S4
    else
      (gR S4 7 3 x0).bind fun v5 =>
      (gR S4 7 5 x0).bind fun v6 =>
      bd (cal S4 0 v5 (fn_X0_look F v5 v6 x1 (0 : Int32) S4)) fun _ S8 =>
      if x2 = 0 then
        (gR S8 7 3 x0).bind fun v13 =>
        (gI S8 0 6 v13).bind fun v14 =>
        f_X8_lamp_79 F  v14 S8
      else
        if x2 = (1 : Int32) then
          (gR S8 7 3 x0).bind fun v11 =>
          (gI S8 0 5 v11).bind fun v12 =>
          f_X8_lamp_79 F  v12 S8
        else
          (gR S8 7 3 x0).bind fun v9 =>
          (gI S8 0 4 v9).bind fun v10 =>
          f_X8_lamp_79 F  v10 S8
set_option maxRecDepth 100000 in
theorem t_X8_lamp_79 {Γ : Cx} {F : Nat} : ∀ (y0 : Int32) (S : Mem), Sim cX8_lamp RX8 5 118 (some .int) false Γ rI (f_X8_lamp_79 F y0 S) S 79 [none, none, none] [.int y0] := by
  intro y0 S
  unfold f_X8_lamp_79
  exact s_iret dX8_lamp_79
set_option maxRecDepth 100000 in
theorem t_X8_lamp_20 {Γ : Cx} {F : Nat} : ∀ (S : Mem), Sim cX8_lamp RX8 5 118 (some .int) false Γ rI (f_X8_lamp_20 F  S) S 20 [none, none, none] [] := by
  intro  S
  unfold f_X8_lamp_20
  exact s_none (K := True)
set_option maxRecDepth 100000 in
theorem con_X8_lamp {l : Launch} (F : Nat) (x0 : Nat) (x1 : Int32) (x2 : Int32) (S : Mem) (v : Int32) (S1 : Mem) (h : fn_X8_lamp F x0 x1 x2 S = some (v, S1)) : Con l yX8_lamp cX8_lamp 3 (some .int) 5 118 [.ref x0, .int x1, .int x2] S (rI v) S1 := by
  refine con_of (ι := rI) RX8 false [some (.ref x0), some (.int x1), some (.int x2)] rfl (fun h => by cases h) (by decide) (Nat.le_of_ble_eq_true rfl) ⟨rfl, rfl⟩ (fun Γ hl => ?_) h
  unfold fn_X8_lamp
  refine s_iload_n 1 dX8_lamp_0 rfl rfl ?_
  refine s_iconst (0 : Int32) dX8_lamp_1 (by decide) ?_
  refine s_sipush (9999 : Int32) dX8_lamp_2 (by decide) ?_
  refine s_cS3I mk_X8_112 (fun v9 S9 h9 => con_X8_isWithin F _ _ _ _ v9 S9 h9) ⟨by omega, by omega⟩ (Nat.le_of_ble_eq_true rfl) dX8_lamp_5 (fun v1 S2 => ?_)
  refine s_if_eq 20 dX8_lamp_8 (by decide) (fun _ => ?_) (fun _ => ?_)
  · exact s_less (t_X8_lamp_20   S2) trivial
  · refine s_iload_n 2 dX8_lamp_11 rfl rfl ?_
    refine s_iconst (0 : Int32) dX8_lamp_12 (by decide) ?_
    refine s_iconst (2 : Int32) dX8_lamp_13 (by decide) ?_
    refine s_cS3I mk_X8_112 (fun v9 S9 h9 => con_X8_isWithin F _ _ _ _ v9 S9 h9) ⟨by omega, by omega⟩ (Nat.le_of_ble_eq_true rfl) dX8_lamp_14 (fun v3 S4 => ?_)
    refine s_if_ne 30 dX8_lamp_17 (by decide) (fun _ => ?_) (fun _ => ?_)
    · refine s_aload_n 0 dX8_lamp_30 rfl rfl ?_
      refine s_getR fk_X8_28 rfl dX8_lamp_31 (fun v5 => ?_)
      refine s_aload_n 0 dX8_lamp_34 rfl rfl ?_
      refine s_getR fk_X8_42 rfl dX8_lamp_35 (fun v6 => ?_)
      refine s_iload_n 1 dX8_lamp_38 rfl rfl ?_
      refine s_iconst (0 : Int32) dX8_lamp_39 (by decide) ?_
      refine s_cV3V mk_X8_123 (by decide) rfl (fun v9 S9 h9 => con_X0_look F _ _ _ _ _ v9 S9 h9) ⟨by omega, by omega⟩ (Nat.le_of_ble_eq_true rfl) dX8_lamp_40 (fun _ S8 => ?_)
      refine s_iload_n 2 dX8_lamp_43 rfl rfl ?_
      refine s_if_ne 57 dX8_lamp_44 (by decide) (fun _ => ?_) (fun _ => ?_)
      · refine s_iload_n 2 dX8_lamp_57 rfl rfl ?_
        refine s_iconst (1 : Int32) dX8_lamp_58 (by decide) ?_
        refine s_icmp_ne 72 dX8_lamp_59 (by decide) (fun _ => ?_) (fun _ => ?_)
        · refine s_aload_n 0 dX8_lamp_72 rfl rfl ?_
          refine s_getR fk_X8_28 rfl dX8_lamp_73 (fun v9 => ?_)
          refine s_getI fk_X8_132 rfl dX8_lamp_76 (fun v10 => ?_)
          exact s_less (t_X8_lamp_79  v10 S8) trivial
        · refine s_aload_n 0 dX8_lamp_62 rfl rfl ?_
          refine s_getR fk_X8_28 rfl dX8_lamp_63 (fun v11 => ?_)
          refine s_getI fk_X8_129 rfl dX8_lamp_66 (fun v12 => ?_)
          refine s_goto 79 dX8_lamp_69 (by decide) ?_
          exact s_less (t_X8_lamp_79  v12 S8) trivial
      · refine s_aload_n 0 dX8_lamp_47 rfl rfl ?_
        refine s_getR fk_X8_28 rfl dX8_lamp_48 (fun v13 => ?_)
        refine s_getI fk_X8_126 rfl dX8_lamp_51 (fun v14 => ?_)
        refine s_goto 79 dX8_lamp_54 (by decide) ?_
        exact s_less (t_X8_lamp_79  v14 S8) trivial
    · exact s_less (t_X8_lamp_20   S4) trivial
-- X8_whistle
def f_X8_whistle_70 (F : Nat) (y0 : Nat) (y1 : Int32) (y2 : Int32) (S : Mem) : Option (Int32 × Mem) :=
  (sA S y0 y1 y2).bind fun S1 =>
  rz (1 : Int32) S1
def f_X8_whistle_42 (F : Nat)  (S : Mem) : Option (Int32 × Mem) :=
  rz (0 : Int32) S
def fn_X8_whistle (F : Nat) (x0 : Nat) (x1 : Int32) (x2 : Int32) (S : Mem) : Option (Int32 × Mem) :=
  bd (cal S 7 x0 (fn_X8_isKite F x0 x1 S)) fun v1 S2 =>
  if v1 = 0 then
    f_X8_whistle_42 F   S2
  else
    bd ((fn_X8_isHeight F x2 S2)) fun v3 S4 =>
    if v3 = 0 then
      f_X8_whistle_42 F   S4
    else
      (gR S4 7 5 x0).bind fun v5 =>
      bd (cal S4 2 v5 (fn_X2_isLost F v5 x1 S4)) fun v6 S7 =>
      if v6 = 0 then
        (gR S7 7 5 x0).bind fun v8 =>
        (gR S7 2 0 v8).bind fun v9 =>
        (gR S7 5 1 v9).bind fun v10 =>
        (gA S7 10 v10 x1).bind fun v11 =>
        if v11 = (4 : Int32) then
          f_X8_whistle_42 F   S7
        else
          (gR S7 7 5 x0).bind fun v12 =>
          (gR S7 2 5 v12).bind fun v13 =>
          (gR S7 7 5 x0).bind fun v14 =>
          (gR S7 2 4 v14).bind fun v15 =>
          (gA S7 10 v15 x1).bind fun v16 =>
          if v16 = x2 then
            f_X8_whistle_70 F  v13 x1 (-1 : Int32) S7
          else
            f_X8_whistle_70 F  v13 x1 x2 S7
      else
        f_X8_whistle_42 F   S7
set_option maxRecDepth 100000 in
theorem t_X8_whistle_70 {Γ : Cx} {F : Nat} : ∀ (y0 : Nat) (y1 : Int32) (y2 : Int32) (S : Mem), Sim cX8_whistle RX8 2 43 (some .boolean) false Γ rI (f_X8_whistle_70 F y0 y1 y2 S) S 70 [none, none, none] [.int y2, .int y1, .ref y0] := by
  intro y0 y1 y2 S
  unfold f_X8_whistle_70
  refine s_iast dX8_whistle_70 (fun S1 => ?_)
  refine s_iconst (1 : Int32) dX8_whistle_71 (by decide) ?_
  exact s_zret dX8_whistle_72
set_option maxRecDepth 100000 in
theorem t_X8_whistle_42 {Γ : Cx} {F : Nat} : ∀ (S : Mem), Sim cX8_whistle RX8 2 43 (some .boolean) false Γ rI (f_X8_whistle_42 F  S) S 42 [none, none, none] [] := by
  intro  S
  unfold f_X8_whistle_42
  refine s_iconst (0 : Int32) dX8_whistle_42 (by decide) ?_
  exact s_zret dX8_whistle_43
set_option maxRecDepth 100000 in
theorem con_X8_whistle {l : Launch} (F : Nat) (x0 : Nat) (x1 : Int32) (x2 : Int32) (S : Mem) (v : Int32) (S1 : Mem) (h : fn_X8_whistle F x0 x1 x2 S = some (v, S1)) : Con l yX8_whistle cX8_whistle 3 (some .boolean) 2 43 [.ref x0, .int x1, .int x2] S (rI v) S1 := by
  refine con_of (ι := rI) RX8 false [some (.ref x0), some (.int x1), some (.int x2)] rfl (fun h => by cases h) (by decide) (Nat.le_of_ble_eq_true rfl) ⟨rfl, rfl⟩ (fun Γ hl => ?_) h
  unfold fn_X8_whistle
  refine s_aload_n 0 dX8_whistle_0 rfl rfl ?_
  refine s_iload_n 1 dX8_whistle_1 rfl rfl ?_
  refine s_cV1I mk_X8_68 (by decide) rfl (fun v9 S9 h9 => con_X8_isKite F _ _ _ v9 S9 h9) ⟨by omega, by omega⟩ (Nat.le_of_ble_eq_true rfl) dX8_whistle_2 (fun v1 S2 => ?_)
  refine s_if_eq 42 dX8_whistle_5 (by decide) (fun _ => ?_) (fun _ => ?_)
  · exact s_less (t_X8_whistle_42   S2) trivial
  · refine s_iload_n 2 dX8_whistle_8 rfl rfl ?_
    refine s_cS1I mk_X8_105 (fun v9 S9 h9 => con_X8_isHeight F _ _ v9 S9 h9) ⟨by omega, by omega⟩ (Nat.le_of_ble_eq_true rfl) dX8_whistle_9 (fun v3 S4 => ?_)
    refine s_if_eq 42 dX8_whistle_12 (by decide) (fun _ => ?_) (fun _ => ?_)
    · exact s_less (t_X8_whistle_42   S4) trivial
    · refine s_aload_n 0 dX8_whistle_15 rfl rfl ?_
      refine s_getR fk_X8_42 rfl dX8_whistle_16 (fun v5 => ?_)
      refine s_iload_n 1 dX8_whistle_19 rfl rfl ?_
      refine s_cV1I mk_X8_90 (by decide) rfl (fun v9 S9 h9 => con_X2_isLost F _ _ _ v9 S9 h9) ⟨by omega, by omega⟩ (Nat.le_of_ble_eq_true rfl) dX8_whistle_20 (fun v6 S7 => ?_)
      refine s_if_ne 42 dX8_whistle_23 (by decide) (fun _ => ?_) (fun _ => ?_)
      · exact s_less (t_X8_whistle_42   S7) trivial
      · refine s_aload_n 0 dX8_whistle_26 rfl rfl ?_
        refine s_getR fk_X8_42 rfl dX8_whistle_27 (fun v8 => ?_)
        refine s_getR fk_X8_72 rfl dX8_whistle_30 (fun v9 => ?_)
        refine s_getR fk_X8_76 rfl dX8_whistle_33 (fun v10 => ?_)
        refine s_iload_n 1 dX8_whistle_36 rfl rfl ?_
        refine s_iald dX8_whistle_37 (fun v11 => ?_)
        refine s_iconst (4 : Int32) dX8_whistle_38 (by decide) ?_
        refine s_icmp_ne 44 dX8_whistle_39 (by decide) (fun _ => ?_) (fun _ => ?_)
        · refine s_aload_n 0 dX8_whistle_44 rfl rfl ?_
          refine s_getR fk_X8_42 rfl dX8_whistle_45 (fun v12 => ?_)
          refine s_getR fk_X8_99 rfl dX8_whistle_48 (fun v13 => ?_)
          refine s_iload_n 1 dX8_whistle_51 rfl rfl ?_
          refine s_aload_n 0 dX8_whistle_52 rfl rfl ?_
          refine s_getR fk_X8_42 rfl dX8_whistle_53 (fun v14 => ?_)
          refine s_getR fk_X8_80 rfl dX8_whistle_56 (fun v15 => ?_)
          refine s_iload_n 1 dX8_whistle_59 rfl rfl ?_
          refine s_iald dX8_whistle_60 (fun v16 => ?_)
          refine s_iload_n 2 dX8_whistle_61 rfl rfl ?_
          refine s_icmp_ne 69 dX8_whistle_62 (by decide) (fun _ => ?_) (fun _ => ?_)
          · refine s_iload_n 2 dX8_whistle_69 rfl rfl ?_
            exact s_less (t_X8_whistle_70  v13 x1 x2 S7) trivial
          · refine s_iconst (-1 : Int32) dX8_whistle_65 (by decide) ?_
            refine s_goto 70 dX8_whistle_66 (by decide) ?_
            exact s_less (t_X8_whistle_70  v13 x1 (-1 : Int32) S7) trivial
        · exact s_less (t_X8_whistle_42   S7) trivial
-- X8_lose
def f_X8_lose_71 (F : Nat)  (S : Mem) : Option (Int32 × Mem) :=
  rz (1 : Int32) S
def f_X8_lose_20 (F : Nat)  (S : Mem) : Option (Int32 × Mem) :=
  rz (0 : Int32) S
def fn_X8_lose (F : Nat) (x0 : Nat) (x1 : Int32) (x2 : Int32) (S : Mem) : Option (Int32 × Mem) :=
  bd (cal S 7 x0 (fn_X8_isKite F x0 x1 S)) fun v1 S2 =>
  if v1 = 0 then
    f_X8_lose_20 F   S2
  else
    (gR S2 7 5 x0).bind fun v3 =>
    bd (cal S2 2 v3 (fn_X2_isLost F v3 x1 S2)) fun v4 S5 =>
    if v4 = x2 then
      (gR S5 7 5 x0).bind fun v6 =>
      (gI S5 2 2 v6).bind fun v7 =>
      (sI S5 2 2 v6 (v7 ^^^ ((1 : Int32) <<< (x1 &&& 31)))).bind fun S8 =>
      (gR S8 7 5 x0).bind fun v9 =>
      (gR S8 2 5 v9).bind fun v10 =>
      (sA S8 v10 x1 (-1 : Int32)).bind fun S11 =>
      (gR S11 7 5 x0).bind fun v12 =>
      (gR S11 2 6 v12).bind fun v13 =>
      (sA S11 v13 x1 (0 : Int32)).bind fun S14 =>
      if x2 = 0 then
        f_X8_lose_71 F   S14
      else
        (gR S14 7 5 x0).bind fun v15 =>
        (gR S14 2 4 v15).bind fun v16 =>
        (sA S14 v16 x1 (0 : Int32)).bind fun S17 =>
        f_X8_lose_71 F   S17
    else
      f_X8_lose_20 F   S5
set_option maxRecDepth 100000 in
theorem t_X8_lose_71 {Γ : Cx} {F : Nat} : ∀ (S : Mem), Sim cX8_lose RX8 2 43 (some .boolean) false Γ rI (f_X8_lose_71 F  S) S 71 [none, none, none] [] := by
  intro  S
  unfold f_X8_lose_71
  refine s_iconst (1 : Int32) dX8_lose_71 (by decide) ?_
  exact s_zret dX8_lose_72
set_option maxRecDepth 100000 in
theorem t_X8_lose_20 {Γ : Cx} {F : Nat} : ∀ (S : Mem), Sim cX8_lose RX8 2 43 (some .boolean) false Γ rI (f_X8_lose_20 F  S) S 20 [none, none, none] [] := by
  intro  S
  unfold f_X8_lose_20
  refine s_iconst (0 : Int32) dX8_lose_20 (by decide) ?_
  exact s_zret dX8_lose_21
set_option maxRecDepth 100000 in
theorem con_X8_lose {l : Launch} (F : Nat) (x0 : Nat) (x1 : Int32) (x2 : Int32) (S : Mem) (v : Int32) (S1 : Mem) (h : fn_X8_lose F x0 x1 x2 S = some (v, S1)) : Con l yX8_lose cX8_lose 3 (some .boolean) 2 43 [.ref x0, .int x1, .int x2] S (rI v) S1 := by
  refine con_of (ι := rI) RX8 false [some (.ref x0), some (.int x1), some (.int x2)] rfl (fun h => by cases h) (by decide) (Nat.le_of_ble_eq_true rfl) ⟨rfl, rfl⟩ (fun Γ hl => ?_) h
  unfold fn_X8_lose
  refine s_aload_n 0 dX8_lose_0 rfl rfl ?_
  refine s_iload_n 1 dX8_lose_1 rfl rfl ?_
  refine s_cV1I mk_X8_68 (by decide) rfl (fun v9 S9 h9 => con_X8_isKite F _ _ _ v9 S9 h9) ⟨by omega, by omega⟩ (Nat.le_of_ble_eq_true rfl) dX8_lose_2 (fun v1 S2 => ?_)
  refine s_if_eq 20 dX8_lose_5 (by decide) (fun _ => ?_) (fun _ => ?_)
  · exact s_less (t_X8_lose_20   S2) trivial
  · refine s_aload_n 0 dX8_lose_8 rfl rfl ?_
    refine s_getR fk_X8_42 rfl dX8_lose_9 (fun v3 => ?_)
    refine s_iload_n 1 dX8_lose_12 rfl rfl ?_
    refine s_cV1I mk_X8_90 (by decide) rfl (fun v9 S9 h9 => con_X2_isLost F _ _ _ v9 S9 h9) ⟨by omega, by omega⟩ (Nat.le_of_ble_eq_true rfl) dX8_lose_13 (fun v4 S5 => ?_)
    refine s_iload_n 2 dX8_lose_16 rfl rfl ?_
    refine s_icmp_eq 22 dX8_lose_17 (by decide) (fun _ => ?_) (fun _ => ?_)
    · refine s_aload_n 0 dX8_lose_22 rfl rfl ?_
      refine s_getR fk_X8_42 rfl dX8_lose_23 (fun v6 => ?_)
      refine s_dup dX8_lose_26 rfl ?_
      refine s_getI fk_X8_135 rfl dX8_lose_27 (fun v7 => ?_)
      refine s_iconst (1 : Int32) dX8_lose_30 (by decide) ?_
      refine s_iload_n 1 dX8_lose_31 rfl rfl ?_
      refine s_ishl dX8_lose_32 ?_
      refine s_ixor dX8_lose_33 ?_
      refine s_putI fk_X8_135 (Or.inl rfl) rfl dX8_lose_34 (fun S8 => ?_)
      refine s_aload_n 0 dX8_lose_37 rfl rfl ?_
      refine s_getR fk_X8_42 rfl dX8_lose_38 (fun v9 => ?_)
      refine s_getR fk_X8_99 rfl dX8_lose_41 (fun v10 => ?_)
      refine s_iload_n 1 dX8_lose_44 rfl rfl ?_
      refine s_iconst (-1 : Int32) dX8_lose_45 (by decide) ?_
      refine s_iast dX8_lose_46 (fun S11 => ?_)
      refine s_aload_n 0 dX8_lose_47 rfl rfl ?_
      refine s_getR fk_X8_42 rfl dX8_lose_48 (fun v12 => ?_)
      refine s_getR fk_X8_102 rfl dX8_lose_51 (fun v13 => ?_)
      refine s_iload_n 1 dX8_lose_54 rfl rfl ?_
      refine s_iconst (0 : Int32) dX8_lose_55 (by decide) ?_
      refine s_iast dX8_lose_56 (fun S14 => ?_)
      refine s_iload_n 2 dX8_lose_57 rfl rfl ?_
      refine s_if_eq 71 dX8_lose_58 (by decide) (fun _ => ?_) (fun _ => ?_)
      · exact s_less (t_X8_lose_71   S14) trivial
      · refine s_aload_n 0 dX8_lose_61 rfl rfl ?_
        refine s_getR fk_X8_42 rfl dX8_lose_62 (fun v15 => ?_)
        refine s_getR fk_X8_80 rfl dX8_lose_65 (fun v16 => ?_)
        refine s_iload_n 1 dX8_lose_68 rfl rfl ?_
        refine s_iconst (0 : Int32) dX8_lose_69 (by decide) ?_
        refine s_iast dX8_lose_70 (fun S17 => ?_)
        exact s_less (t_X8_lose_71   S17) trivial
    · exact s_less (t_X8_lose_20   S5) trivial
-- X8_run
def f_X8_run_52 (F : Nat) (k15 : Nat → Int32 → Int32 → Mem → Option (Int32 × Mem)) (x0 : Nat) (x1 : Int32) (x2 : Int32) (S : Mem) : Option (Int32 × Mem) :=
  (gR S 7 5 x0).bind fun v1 =>
  (gR S 7 3 x0).bind fun v2 =>
  bd (cal S 2 v1 (fn_X2_passMinute F v1 v2 S)) fun _ S4 =>
  k15 x0 x1 (x2 + (1 : Int32)) S4
def b_X8_run_15 (F : Nat) (k15 : Nat → Int32 → Int32 → Mem → Option (Int32 × Mem)) (x0 : Nat) (x1 : Int32) (x2 : Int32) (S : Mem) : Option (Int32 × Mem) :=
  if x1 ≤ x2 then
    (gR S 7 5 x0).bind fun v1 =>
    (gI S 2 1 v1).bind fun v2 =>
    some (v2, S)
  else
    (gR S 7 5 x0).bind fun v3 =>
    (gR S 2 0 v3).bind fun v4 =>
    bd (cal S 5 v4 (fn_X5_hasRule F v4 S)) fun v5 S6 =>
    if v5 = 0 then
      f_X8_run_52 F k15 x0 x1 x2  S6
    else
      (gR S6 7 3 x0).bind fun v7 =>
      (gR S6 7 5 x0).bind fun v8 =>
      (gR S6 7 5 x0).bind fun v9 =>
      (gI S6 2 1 v9).bind fun v10 =>
      bd (cal S6 0 v7 (fn_X0_look F v7 v8 v10 (0 : Int32) S6)) fun _ S12 =>
      f_X8_run_52 F k15 x0 x1 x2  S12
def fn_X8_run (F : Nat) (x0 : Nat) (x1 : Int32) (S : Mem) : Option (Int32 × Mem) :=
  bd ((fn_X8_isWithin F x1 (1 : Int32) (1000 : Int32) S)) fun v1 S2 =>
  if v1 = 0 then
    some ((-1 : Int32), S2)
  else
    fix3 (b_X8_run_15 F) F x0 x1 (0 : Int32) S2
set_option maxRecDepth 100000 in
theorem t_X8_run_52 {Γ : Cx} {F : Nat} {k15 : Nat → Int32 → Int32 → Mem → Option (Int32 × Mem)} (hk15 : ∀ (x0 : Nat) (x1 : Int32) (x2 : Int32) (S : Mem), Sim cX8_run RX8 5 118 (some .int) false Γ rI (k15 x0 x1 x2 S) S 15 [some (.ref x0), some (.int x1), some (.int x2)] []) : ∀ (x0 : Nat) (x1 : Int32) (x2 : Int32) (S : Mem), Sim cX8_run RX8 5 118 (some .int) false Γ rI (f_X8_run_52 F k15 x0 x1 x2 S) S 52 [some (.ref x0), some (.int x1), some (.int x2)] [] := by
  intro x0 x1 x2 S
  unfold f_X8_run_52
  refine s_aload_n 0 dX8_run_52 rfl rfl ?_
  refine s_getR fk_X8_42 rfl dX8_run_53 (fun v1 => ?_)
  refine s_aload_n 0 dX8_run_56 rfl rfl ?_
  refine s_getR fk_X8_28 rfl dX8_run_57 (fun v2 => ?_)
  refine s_cV1V mk_X8_142 (by decide) rfl (fun v9 S9 h9 => con_X2_passMinute F _ _ _ v9 S9 h9) ⟨by omega, by omega⟩ (Nat.le_of_ble_eq_true rfl) dX8_run_60 (fun _ S4 => ?_)
  refine s_iinc_2 (1 : Int32) dX8_run_63 (by decide) rfl ?_
  refine s_goto 15 dX8_run_66 (by decide) ?_
  exact s_less (hk15 x0 x1 (x2 + (1 : Int32)) S4) (And.intro rfl (And.intro rfl (And.intro rfl trivial)))
set_option maxRecDepth 100000 in
theorem t_X8_run_15 {Γ : Cx} {F : Nat} : ∀ (f : Nat) (x0 : Nat) (x1 : Int32) (x2 : Int32) (S : Mem), Sim cX8_run RX8 5 118 (some .int) false Γ rI (fix3 (b_X8_run_15 F) f x0 x1 x2 S) S 15 [some (.ref x0), some (.int x1), some (.int x2)] [] := by
  refine s_fix3 (fun (x0 : Nat) (x1 : Int32) (x2 : Int32) => [some (.ref x0), some (.int x1), some (.int x2)]) (fun k15 hk15 => ?_)
  intro x0 x1 x2 S
  unfold b_X8_run_15
  refine s_iload_n 2 dX8_run_15 rfl rfl ?_
  refine s_iload_n 1 dX8_run_16 rfl rfl ?_
  refine s_icmp_ge 69 dX8_run_17 (by decide) (fun _ => ?_) (fun _ => ?_)
  · refine s_aload_n 0 dX8_run_69 rfl rfl ?_
    refine s_getR fk_X8_42 rfl dX8_run_70 (fun v1 => ?_)
    refine s_getI fk_X8_83 rfl dX8_run_73 (fun v2 => ?_)
    exact s_iret dX8_run_76
  · refine s_aload_n 0 dX8_run_20 rfl rfl ?_
    refine s_getR fk_X8_42 rfl dX8_run_21 (fun v3 => ?_)
    refine s_getR fk_X8_72 rfl dX8_run_24 (fun v4 => ?_)
    refine s_cV0I mk_X8_138 (by decide) rfl (fun v9 S9 h9 => con_X5_hasRule F _ _ v9 S9 h9) ⟨by omega, by omega⟩ (Nat.le_of_ble_eq_true rfl) dX8_run_27 (fun v5 S6 => ?_)
    refine s_if_eq 52 dX8_run_30 (by decide) (fun _ => ?_) (fun _ => ?_)
    · exact s_less (t_X8_run_52 hk15 x0 x1 x2  S6) (And.intro rfl (And.intro rfl (And.intro rfl trivial)))
    · refine s_aload_n 0 dX8_run_33 rfl rfl ?_
      refine s_getR fk_X8_28 rfl dX8_run_34 (fun v7 => ?_)
      refine s_aload_n 0 dX8_run_37 rfl rfl ?_
      refine s_getR fk_X8_42 rfl dX8_run_38 (fun v8 => ?_)
      refine s_aload_n 0 dX8_run_41 rfl rfl ?_
      refine s_getR fk_X8_42 rfl dX8_run_42 (fun v9 => ?_)
      refine s_getI fk_X8_83 rfl dX8_run_45 (fun v10 => ?_)
      refine s_iconst (0 : Int32) dX8_run_48 (by decide) ?_
      refine s_cV3V mk_X8_123 (by decide) rfl (fun v9 S9 h9 => con_X0_look F _ _ _ _ _ v9 S9 h9) ⟨by omega, by omega⟩ (Nat.le_of_ble_eq_true rfl) dX8_run_49 (fun _ S12 => ?_)
      exact s_less (t_X8_run_52 hk15 x0 x1 x2  S12) (And.intro rfl (And.intro rfl (And.intro rfl trivial)))
set_option maxRecDepth 100000 in
theorem con_X8_run {l : Launch} (F : Nat) (x0 : Nat) (x1 : Int32) (S : Mem) (v : Int32) (S1 : Mem) (h : fn_X8_run F x0 x1 S = some (v, S1)) : Con l yX8_run cX8_run 3 (some .int) 5 118 [.ref x0, .int x1] S (rI v) S1 := by
  refine con_of (ι := rI) RX8 false [some (.ref x0), some (.int x1), none] rfl (fun h => by cases h) (by decide) (Nat.le_of_ble_eq_true rfl) ⟨rfl, rfl⟩ (fun Γ hl => ?_) h
  unfold fn_X8_run
  refine s_iload_n 1 dX8_run_0 rfl rfl ?_
  refine s_iconst (1 : Int32) dX8_run_1 (by decide) ?_
  refine s_sipush (1000 : Int32) dX8_run_2 (by decide) ?_
  refine s_cS3I mk_X8_112 (fun v9 S9 h9 => con_X8_isWithin F _ _ _ _ v9 S9 h9) ⟨by omega, by omega⟩ (Nat.le_of_ble_eq_true rfl) dX8_run_5 (fun v1 S2 => ?_)
  refine s_if_ne 13 dX8_run_8 (by decide) (fun _ => ?_) (fun _ => ?_)
  · refine s_iconst (0 : Int32) dX8_run_13 (by decide) ?_
    refine s_istore_2 dX8_run_14 rfl ?_
    exact s_less (t_X8_run_15 F x0 x1 (0 : Int32) S2) (And.intro rfl (And.intro rfl (And.intro rfl trivial)))
  · refine s_iconst (-1 : Int32) dX8_run_11 (by decide) ?_
    exact s_iret dX8_run_12
-- X8_isSpot
def f_X8_isSpot_23 (F : Nat) (y0 : Int32) (S : Mem) : Option (Int32 × Mem) :=
  rz y0 S
def f_X8_isSpot_22 (F : Nat)  (S : Mem) : Option (Int32 × Mem) :=
  f_X8_isSpot_23 F  (0 : Int32) S
def fn_X8_isSpot (F : Nat) (x0 : Int32) (x1 : Int32) (S : Mem) : Option (Int32 × Mem) :=
  bd ((fn_X8_isWithin F x0 (0 : Int32) (999 : Int32) S)) fun v1 S2 =>
  if v1 = 0 then
    f_X8_isSpot_22 F   S2
  else
    bd ((fn_X8_isHeight F x1 S2)) fun v3 S4 =>
    if v3 = 0 then
      f_X8_isSpot_22 F   S4
    else
      f_X8_isSpot_23 F  (1 : Int32) S4
set_option maxRecDepth 100000 in
theorem t_X8_isSpot_23 {Γ : Cx} {F : Nat} : ∀ (y0 : Int32) (S : Mem), Sim cX8_isSpot RX8 2 42 (some .boolean) false Γ rI (f_X8_isSpot_23 F y0 S) S 23 [none, none] [.int y0] := by
  intro y0 S
  unfold f_X8_isSpot_23
  exact s_zret dX8_isSpot_23
set_option maxRecDepth 100000 in
theorem t_X8_isSpot_22 {Γ : Cx} {F : Nat} : ∀ (S : Mem), Sim cX8_isSpot RX8 2 42 (some .boolean) false Γ rI (f_X8_isSpot_22 F  S) S 22 [none, none] [] := by
  intro  S
  unfold f_X8_isSpot_22
  refine s_iconst (0 : Int32) dX8_isSpot_22 (by decide) ?_
  exact s_less (t_X8_isSpot_23  (0 : Int32) S) trivial
set_option maxRecDepth 100000 in
theorem con_X8_isSpot {l : Launch} (F : Nat) (x0 : Int32) (x1 : Int32) (S : Mem) (v : Int32) (S1 : Mem) (h : fn_X8_isSpot F x0 x1 S = some (v, S1)) : Con l yX8_isSpot cX8_isSpot 2 (some .boolean) 2 42 [.int x0, .int x1] S (rI v) S1 := by
  refine con_of (ι := rI) RX8 false [some (.int x0), some (.int x1)] rfl (fun h => by cases h) (by decide) (Nat.le_of_ble_eq_true rfl) ⟨rfl, rfl⟩ (fun Γ hl => ?_) h
  unfold fn_X8_isSpot
  refine s_iload_n 0 dX8_isSpot_0 rfl rfl ?_
  refine s_iconst (0 : Int32) dX8_isSpot_1 (by decide) ?_
  refine s_sipush (999 : Int32) dX8_isSpot_2 (by decide) ?_
  refine s_cS3I mk_X8_112 (fun v9 S9 h9 => con_X8_isWithin F _ _ _ _ v9 S9 h9) ⟨by omega, by omega⟩ (Nat.le_of_ble_eq_true rfl) dX8_isSpot_5 (fun v1 S2 => ?_)
  refine s_if_eq 22 dX8_isSpot_8 (by decide) (fun _ => ?_) (fun _ => ?_)
  · exact s_less (t_X8_isSpot_22   S2) trivial
  · refine s_iload_n 1 dX8_isSpot_11 rfl rfl ?_
    refine s_cS1I mk_X8_105 (fun v9 S9 h9 => con_X8_isHeight F _ _ v9 S9 h9) ⟨by omega, by omega⟩ (Nat.le_of_ble_eq_true rfl) dX8_isSpot_12 (fun v3 S4 => ?_)
    refine s_if_eq 22 dX8_isSpot_15 (by decide) (fun _ => ?_) (fun _ => ?_)
    · exact s_less (t_X8_isSpot_22   S4) trivial
    · refine s_iconst (1 : Int32) dX8_isSpot_18 (by decide) ?_
      refine s_goto 23 dX8_isSpot_19 (by decide) ?_
      exact s_less (t_X8_isSpot_23  (1 : Int32) S4) trivial
-- X8_nearest
def f_X8_nearest_86 (F : Nat) (y0 : Int32) (S : Mem) : Option (Int32 × Mem) :=
  some (y0, S)
def f_X8_nearest_28 (F : Nat)  (S : Mem) : Option (Int32 × Mem) :=
  some ((-1 : Int32), S)
def fn_X8_nearest (F : Nat) (x0 : Nat) (x1 : Int32) (x2 : Int32) (x3 : Int32) (S : Mem) : Option (Int32 × Mem) :=
  bd ((fn_X8_isSpot F x1 x2 S)) fun v1 S2 =>
  if v1 = 0 then
    f_X8_nearest_28 F   S2
  else
    (gR S2 7 5 x0).bind fun v3 =>
    (gR S2 2 0 v3).bind fun v4 =>
    (gI S2 5 0 v4).bind fun v5 =>
    bd ((fn_X8_isWithin F x3 (0 : Int32) (v5 + (1 : Int32)) S2)) fun v6 S7 =>
    if v6 = 0 then
      f_X8_nearest_28 F   S7
    else
      (gR S7 7 4 x0).bind fun v8 =>
      (gR S7 7 5 x0).bind fun v9 =>
      (gR S7 7 3 x0).bind fun v10 =>
      bd (cal S7 4 v8 (fn_X4_seekNearest F v8 v9 v10 x1 x2 S7)) fun _ S12 =>
      if x3 = 0 then
        (gR S12 7 4 x0).bind fun v19 =>
        bd (cal S12 4 v19 (fn_X4_bestAway F v19 S12)) fun v20 S21 =>
        f_X8_nearest_86 F  v20 S21
      else
        if x3 = (1 : Int32) then
          (gR S12 7 4 x0).bind fun v16 =>
          bd (cal S12 4 v16 (fn_X4_bestChanged F v16 S12)) fun v17 S18 =>
          f_X8_nearest_86 F  v17 S18
        else
          (gR S12 7 4 x0).bind fun v13 =>
          bd (cal S12 4 v13 (fn_X4_bestLength F v13 (x3 - (2 : Int32)) S12)) fun v14 S15 =>
          f_X8_nearest_86 F  v14 S15
set_option maxRecDepth 100000 in
theorem t_X8_nearest_86 {Γ : Cx} {F : Nat} : ∀ (y0 : Int32) (S : Mem), Sim cX8_nearest RX8 27 705 (some .int) false Γ rI (f_X8_nearest_86 F y0 S) S 86 [none, none, none, none] [.int y0] := by
  intro y0 S
  unfold f_X8_nearest_86
  exact s_iret dX8_nearest_86
set_option maxRecDepth 100000 in
theorem t_X8_nearest_28 {Γ : Cx} {F : Nat} : ∀ (S : Mem), Sim cX8_nearest RX8 27 705 (some .int) false Γ rI (f_X8_nearest_28 F  S) S 28 [none, none, none, none] [] := by
  intro  S
  unfold f_X8_nearest_28
  refine s_iconst (-1 : Int32) dX8_nearest_28 (by decide) ?_
  exact s_iret dX8_nearest_29
set_option maxRecDepth 100000 in
theorem con_X8_nearest {l : Launch} (F : Nat) (x0 : Nat) (x1 : Int32) (x2 : Int32) (x3 : Int32) (S : Mem) (v : Int32) (S1 : Mem) (h : fn_X8_nearest F x0 x1 x2 x3 S = some (v, S1)) : Con l yX8_nearest cX8_nearest 4 (some .int) 27 705 [.ref x0, .int x1, .int x2, .int x3] S (rI v) S1 := by
  refine con_of (ι := rI) RX8 false [some (.ref x0), some (.int x1), some (.int x2), some (.int x3)] rfl (fun h => by cases h) (by decide) (Nat.le_of_ble_eq_true rfl) ⟨rfl, rfl⟩ (fun Γ hl => ?_) h
  unfold fn_X8_nearest
  refine s_iload_n 1 dX8_nearest_0 rfl rfl ?_
  refine s_iload_n 2 dX8_nearest_1 rfl rfl ?_
  refine s_cS2I mk_X8_146 (fun v9 S9 h9 => con_X8_isSpot F _ _ _ v9 S9 h9) ⟨by omega, by omega⟩ (Nat.le_of_ble_eq_true rfl) dX8_nearest_2 (fun v1 S2 => ?_)
  refine s_if_eq 28 dX8_nearest_5 (by decide) (fun _ => ?_) (fun _ => ?_)
  · exact s_less (t_X8_nearest_28   S2) trivial
  · refine s_iload_n 3 dX8_nearest_8 rfl rfl ?_
    refine s_iconst (0 : Int32) dX8_nearest_9 (by decide) ?_
    refine s_aload_n 0 dX8_nearest_10 rfl rfl ?_
    refine s_getR fk_X8_42 rfl dX8_nearest_11 (fun v3 => ?_)
    refine s_getR fk_X8_72 rfl dX8_nearest_14 (fun v4 => ?_)
    refine s_getI fk_X8_150 rfl dX8_nearest_17 (fun v5 => ?_)
    refine s_iconst (1 : Int32) dX8_nearest_20 (by decide) ?_
    refine s_iadd dX8_nearest_21 ?_
    refine s_cS3I mk_X8_112 (fun v9 S9 h9 => con_X8_isWithin F _ _ _ _ v9 S9 h9) ⟨by omega, by omega⟩ (Nat.le_of_ble_eq_true rfl) dX8_nearest_22 (fun v6 S7 => ?_)
    refine s_if_ne 30 dX8_nearest_25 (by decide) (fun _ => ?_) (fun _ => ?_)
    · refine s_aload_n 0 dX8_nearest_30 rfl rfl ?_
      refine s_getR fk_X8_35 rfl dX8_nearest_31 (fun v8 => ?_)
      refine s_aload_n 0 dX8_nearest_34 rfl rfl ?_
      refine s_getR fk_X8_42 rfl dX8_nearest_35 (fun v9 => ?_)
      refine s_aload_n 0 dX8_nearest_38 rfl rfl ?_
      refine s_getR fk_X8_28 rfl dX8_nearest_39 (fun v10 => ?_)
      refine s_iload_n 1 dX8_nearest_42 rfl rfl ?_
      refine s_iload_n 2 dX8_nearest_43 rfl rfl ?_
      refine s_cV4V mk_X8_153 (by decide) rfl (fun v9 S9 h9 => con_X4_seekNearest F _ _ _ _ _ _ v9 S9 h9) ⟨by omega, by omega⟩ (Nat.le_of_ble_eq_true rfl) dX8_nearest_44 (fun _ S12 => ?_)
      refine s_iload_n 3 dX8_nearest_47 rfl rfl ?_
      refine s_if_ne 61 dX8_nearest_48 (by decide) (fun _ => ?_) (fun _ => ?_)
      · refine s_iload_n 3 dX8_nearest_61 rfl rfl ?_
        refine s_iconst (1 : Int32) dX8_nearest_62 (by decide) ?_
        refine s_icmp_ne 76 dX8_nearest_63 (by decide) (fun _ => ?_) (fun _ => ?_)
        · refine s_aload_n 0 dX8_nearest_76 rfl rfl ?_
          refine s_getR fk_X8_35 rfl dX8_nearest_77 (fun v13 => ?_)
          refine s_iload_n 3 dX8_nearest_80 rfl rfl ?_
          refine s_iconst (2 : Int32) dX8_nearest_81 (by decide) ?_
          refine s_isub dX8_nearest_82 ?_
          refine s_cV1I mk_X8_164 (by decide) rfl (fun v9 S9 h9 => con_X4_bestLength F _ _ _ v9 S9 h9) ⟨by omega, by omega⟩ (Nat.le_of_ble_eq_true rfl) dX8_nearest_83 (fun v14 S15 => ?_)
          exact s_less (t_X8_nearest_86  v14 S15) trivial
        · refine s_aload_n 0 dX8_nearest_66 rfl rfl ?_
          refine s_getR fk_X8_35 rfl dX8_nearest_67 (fun v16 => ?_)
          refine s_cV0I mk_X8_161 (by decide) rfl (fun v9 S9 h9 => con_X4_bestChanged F _ _ v9 S9 h9) ⟨by omega, by omega⟩ (Nat.le_of_ble_eq_true rfl) dX8_nearest_70 (fun v17 S18 => ?_)
          refine s_goto 86 dX8_nearest_73 (by decide) ?_
          exact s_less (t_X8_nearest_86  v17 S18) trivial
      · refine s_aload_n 0 dX8_nearest_51 rfl rfl ?_
        refine s_getR fk_X8_35 rfl dX8_nearest_52 (fun v19 => ?_)
        refine s_cV0I mk_X8_157 (by decide) rfl (fun v9 S9 h9 => con_X4_bestAway F _ _ v9 S9 h9) ⟨by omega, by omega⟩ (Nat.le_of_ble_eq_true rfl) dX8_nearest_55 (fun v20 S21 => ?_)
        refine s_goto 86 dX8_nearest_58 (by decide) ?_
        exact s_less (t_X8_nearest_86  v20 S21) trivial
    · exact s_less (t_X8_nearest_28   S7) trivial
-- X8_fewest
def f_X8_fewest_65 (F : Nat) (y0 : Int32) (S : Mem) : Option (Int32 × Mem) :=
  some (y0, S)
def f_X8_fewest_29 (F : Nat)  (S : Mem) : Option (Int32 × Mem) :=
  some ((-1 : Int32), S)
def fn_X8_fewest (F : Nat) (x0 : Nat) (x1 : Int32) (x2 : Int32) (x3 : Int32) (x4 : Int32) (S : Mem) : Option (Int32 × Mem) :=
  bd ((fn_X8_isSpot F x1 x2 S)) fun v1 S2 =>
  if v1 = 0 then
    f_X8_fewest_29 F   S2
  else
    bd ((fn_X8_isWithin F x3 (0 : Int32) (999 : Int32) S2)) fun v3 S4 =>
    if v3 = 0 then
      f_X8_fewest_29 F   S4
    else
      bd ((fn_X8_isWithin F x4 (1 : Int32) (3 : Int32) S4)) fun v5 S6 =>
      if v5 = 0 then
        f_X8_fewest_29 F   S6
      else
        (gR S6 7 4 x0).bind fun v7 =>
        (gR S6 7 5 x0).bind fun v8 =>
        (gR S6 7 3 x0).bind fun v9 =>
        bd (cal S6 4 v7 (fn_X4_seekFewest F v7 v8 v9 x1 x2 x3 x4 S6)) fun v10 S11 =>
        if v10 = 0 then
          f_X8_fewest_65 F  (-1 : Int32) S11
        else
          (gR S11 7 4 x0).bind fun v12 =>
          bd (cal S11 4 v12 (fn_X4_bestChanged F v12 S11)) fun v13 S14 =>
          f_X8_fewest_65 F  v13 S14
set_option maxRecDepth 100000 in
theorem t_X8_fewest_65 {Γ : Cx} {F : Nat} : ∀ (y0 : Int32) (S : Mem), Sim cX8_fewest RX8 27 707 (some .int) false Γ rI (f_X8_fewest_65 F y0 S) S 65 [none, none, none, none, none] [.int y0] := by
  intro y0 S
  unfold f_X8_fewest_65
  exact s_iret dX8_fewest_65
set_option maxRecDepth 100000 in
theorem t_X8_fewest_29 {Γ : Cx} {F : Nat} : ∀ (S : Mem), Sim cX8_fewest RX8 27 707 (some .int) false Γ rI (f_X8_fewest_29 F  S) S 29 [none, none, none, none, none] [] := by
  intro  S
  unfold f_X8_fewest_29
  refine s_iconst (-1 : Int32) dX8_fewest_29 (by decide) ?_
  exact s_iret dX8_fewest_30
set_option maxRecDepth 100000 in
theorem con_X8_fewest {l : Launch} (F : Nat) (x0 : Nat) (x1 : Int32) (x2 : Int32) (x3 : Int32) (x4 : Int32) (S : Mem) (v : Int32) (S1 : Mem) (h : fn_X8_fewest F x0 x1 x2 x3 x4 S = some (v, S1)) : Con l yX8_fewest cX8_fewest 5 (some .int) 27 707 [.ref x0, .int x1, .int x2, .int x3, .int x4] S (rI v) S1 := by
  refine con_of (ι := rI) RX8 false [some (.ref x0), some (.int x1), some (.int x2), some (.int x3), some (.int x4)] rfl (fun h => by cases h) (by decide) (Nat.le_of_ble_eq_true rfl) ⟨rfl, rfl⟩ (fun Γ hl => ?_) h
  unfold fn_X8_fewest
  refine s_iload_n 1 dX8_fewest_0 rfl rfl ?_
  refine s_iload_n 2 dX8_fewest_1 rfl rfl ?_
  refine s_cS2I mk_X8_146 (fun v9 S9 h9 => con_X8_isSpot F _ _ _ v9 S9 h9) ⟨by omega, by omega⟩ (Nat.le_of_ble_eq_true rfl) dX8_fewest_2 (fun v1 S2 => ?_)
  refine s_if_eq 29 dX8_fewest_5 (by decide) (fun _ => ?_) (fun _ => ?_)
  · exact s_less (t_X8_fewest_29   S2) trivial
  · refine s_iload_n 3 dX8_fewest_8 rfl rfl ?_
    refine s_iconst (0 : Int32) dX8_fewest_9 (by decide) ?_
    refine s_sipush (999 : Int32) dX8_fewest_10 (by decide) ?_
    refine s_cS3I mk_X8_112 (fun v9 S9 h9 => con_X8_isWithin F _ _ _ _ v9 S9 h9) ⟨by omega, by omega⟩ (Nat.le_of_ble_eq_true rfl) dX8_fewest_13 (fun v3 S4 => ?_)
    refine s_if_eq 29 dX8_fewest_16 (by decide) (fun _ => ?_) (fun _ => ?_)
    · exact s_less (t_X8_fewest_29   S4) trivial
    · refine s_iload dX8_fewest_19 rfl ?_
      refine s_iconst (1 : Int32) dX8_fewest_21 (by decide) ?_
      refine s_iconst (3 : Int32) dX8_fewest_22 (by decide) ?_
      refine s_cS3I mk_X8_112 (fun v9 S9 h9 => con_X8_isWithin F _ _ _ _ v9 S9 h9) ⟨by omega, by omega⟩ (Nat.le_of_ble_eq_true rfl) dX8_fewest_23 (fun v5 S6 => ?_)
      refine s_if_ne 31 dX8_fewest_26 (by decide) (fun _ => ?_) (fun _ => ?_)
      · refine s_aload_n 0 dX8_fewest_31 rfl rfl ?_
        refine s_getR fk_X8_35 rfl dX8_fewest_32 (fun v7 => ?_)
        refine s_aload_n 0 dX8_fewest_35 rfl rfl ?_
        refine s_getR fk_X8_42 rfl dX8_fewest_36 (fun v8 => ?_)
        refine s_aload_n 0 dX8_fewest_39 rfl rfl ?_
        refine s_getR fk_X8_28 rfl dX8_fewest_40 (fun v9 => ?_)
        refine s_iload_n 1 dX8_fewest_43 rfl rfl ?_
        refine s_iload_n 2 dX8_fewest_44 rfl rfl ?_
        refine s_iload_n 3 dX8_fewest_45 rfl rfl ?_
        refine s_iload dX8_fewest_46 rfl ?_
        refine s_cV6I mk_X8_168 (by decide) rfl (fun v9 S9 h9 => con_X4_seekFewest F _ _ _ _ _ _ _ _ v9 S9 h9) ⟨by omega, by omega⟩ (Nat.le_of_ble_eq_true rfl) dX8_fewest_48 (fun v10 S11 => ?_)
        refine s_if_eq 64 dX8_fewest_51 (by decide) (fun _ => ?_) (fun _ => ?_)
        · refine s_iconst (-1 : Int32) dX8_fewest_64 (by decide) ?_
          exact s_less (t_X8_fewest_65  (-1 : Int32) S11) trivial
        · refine s_aload_n 0 dX8_fewest_54 rfl rfl ?_
          refine s_getR fk_X8_35 rfl dX8_fewest_55 (fun v12 => ?_)
          refine s_cV0I mk_X8_161 (by decide) rfl (fun v9 S9 h9 => con_X4_bestChanged F _ _ v9 S9 h9) ⟨by omega, by omega⟩ (Nat.le_of_ble_eq_true rfl) dX8_fewest_58 (fun v13 S14 => ?_)
          refine s_goto 65 dX8_fewest_61 (by decide) ?_
          exact s_less (t_X8_fewest_65  v13 S14) trivial
      · exact s_less (t_X8_fewest_29   S6) trivial
-- X8_holds
def b_X8_holds_48 (F : Nat) (k48 : Nat → Int32 → Int32 → Int32 → Int32 → Int32 → Mem → Option (Int32 × Mem)) (x0 : Nat) (x1 : Int32) (x2 : Int32) (x3 : Int32) (x4 : Int32) (x5 : Int32) (S : Mem) : Option (Int32 × Mem) :=
  if x4 ≤ x5 then
    some ((-1 : Int32), S)
  else
    (gR S 7 3 x0).bind fun v1 =>
    (gR S 7 6 x0).bind fun v2 =>
    (gR S 7 6 x0).bind fun v3 =>
    (gI S 2 1 v3).bind fun v4 =>
    bd (cal S 0 v1 (fn_X0_look F v1 v2 v4 (0 : Int32) S)) fun _ S6 =>
    (gR S6 7 3 x0).bind fun v7 =>
    (gI S6 0 6 v7).bind fun v8 =>
    (gR S6 7 3 x0).bind fun v9 =>
    (gI S6 0 5 v9).bind fun v10 =>
    bd ((fn_X8_distance F v8 v10 x1 x2 S6)) fun v11 S12 =>
    if v11 ≤ x3 then
      (gR S12 7 6 x0).bind fun v13 =>
      (gR S12 7 3 x0).bind fun v14 =>
      bd (cal S12 2 v13 (fn_X2_passMinute F v13 v14 S12)) fun _ S16 =>
      k48 x0 x1 x2 x3 x4 (x5 + (1 : Int32)) S16
    else
      some (x5, S12)
def f_X8_holds_31 (F : Nat)  (S : Mem) : Option (Int32 × Mem) :=
  some ((-2 : Int32), S)
def fn_X8_holds (F : Nat) (x0 : Nat) (x1 : Int32) (x2 : Int32) (x3 : Int32) (x4 : Int32) (S : Mem) : Option (Int32 × Mem) :=
  bd ((fn_X8_isSpot F x1 x2 S)) fun v1 S2 =>
  if v1 = 0 then
    f_X8_holds_31 F   S2
  else
    bd ((fn_X8_isWithin F x3 (0 : Int32) (999 : Int32) S2)) fun v3 S4 =>
    if v3 = 0 then
      f_X8_holds_31 F   S4
    else
      bd ((fn_X8_isWithin F x4 (1 : Int32) (240 : Int32) S4)) fun v5 S6 =>
      if v5 = 0 then
        f_X8_holds_31 F   S6
      else
        (gR S6 7 6 x0).bind fun v7 =>
        (gR S6 7 5 x0).bind fun v8 =>
        bd (cal S6 2 v7 (fn_X2_take F v7 v8 S6)) fun _ S10 =>
        fix6 (b_X8_holds_48 F) F x0 x1 x2 x3 x4 (0 : Int32) S10
set_option maxRecDepth 100000 in
theorem t_X8_holds_48 {Γ : Cx} {F : Nat} : ∀ (f : Nat) (x0 : Nat) (x1 : Int32) (x2 : Int32) (x3 : Int32) (x4 : Int32) (x5 : Int32) (S : Mem), Sim cX8_holds RX8 5 118 (some .int) false Γ rI (fix6 (b_X8_holds_48 F) f x0 x1 x2 x3 x4 x5 S) S 48 [some (.ref x0), some (.int x1), some (.int x2), some (.int x3), some (.int x4), some (.int x5)] [] := by
  refine s_fix6 (fun (x0 : Nat) (x1 : Int32) (x2 : Int32) (x3 : Int32) (x4 : Int32) (x5 : Int32) => [some (.ref x0), some (.int x1), some (.int x2), some (.int x3), some (.int x4), some (.int x5)]) (fun k48 hk48 => ?_)
  intro x0 x1 x2 x3 x4 x5 S
  unfold b_X8_holds_48
  refine s_iload dX8_holds_48 rfl ?_
  refine s_iload dX8_holds_50 rfl ?_
  refine s_icmp_ge 117 dX8_holds_52 (by decide) (fun _ => ?_) (fun _ => ?_)
  · refine s_iconst (-1 : Int32) dX8_holds_117 (by decide) ?_
    exact s_iret dX8_holds_118
  · refine s_aload_n 0 dX8_holds_55 rfl rfl ?_
    refine s_getR fk_X8_28 rfl dX8_holds_56 (fun v1 => ?_)
    refine s_aload_n 0 dX8_holds_59 rfl rfl ?_
    refine s_getR fk_X8_46 rfl dX8_holds_60 (fun v2 => ?_)
    refine s_aload_n 0 dX8_holds_63 rfl rfl ?_
    refine s_getR fk_X8_46 rfl dX8_holds_64 (fun v3 => ?_)
    refine s_getI fk_X8_83 rfl dX8_holds_67 (fun v4 => ?_)
    refine s_iconst (0 : Int32) dX8_holds_70 (by decide) ?_
    refine s_cV3V mk_X8_123 (by decide) rfl (fun v9 S9 h9 => con_X0_look F _ _ _ _ _ v9 S9 h9) ⟨by omega, by omega⟩ (Nat.le_of_ble_eq_true rfl) dX8_holds_71 (fun _ S6 => ?_)
    refine s_aload_n 0 dX8_holds_74 rfl rfl ?_
    refine s_getR fk_X8_28 rfl dX8_holds_75 (fun v7 => ?_)
    refine s_getI fk_X8_126 rfl dX8_holds_78 (fun v8 => ?_)
    refine s_aload_n 0 dX8_holds_81 rfl rfl ?_
    refine s_getR fk_X8_28 rfl dX8_holds_82 (fun v9 => ?_)
    refine s_getI fk_X8_129 rfl dX8_holds_85 (fun v10 => ?_)
    refine s_iload_n 1 dX8_holds_88 rfl rfl ?_
    refine s_iload_n 2 dX8_holds_89 rfl rfl ?_
    refine s_cS4I mk_X8_176 (fun v9 S9 h9 => con_X8_distance F _ _ _ _ _ v9 S9 h9) ⟨by omega, by omega⟩ (Nat.le_of_ble_eq_true rfl) dX8_holds_90 (fun v11 S12 => ?_)
    refine s_iload_n 3 dX8_holds_93 rfl rfl ?_
    refine s_icmp_le 100 dX8_holds_94 (by decide) (fun _ => ?_) (fun _ => ?_)
    · refine s_aload_n 0 dX8_holds_100 rfl rfl ?_
      refine s_getR fk_X8_46 rfl dX8_holds_101 (fun v13 => ?_)
      refine s_aload_n 0 dX8_holds_104 rfl rfl ?_
      refine s_getR fk_X8_28 rfl dX8_holds_105 (fun v14 => ?_)
      refine s_cV1V mk_X8_142 (by decide) rfl (fun v9 S9 h9 => con_X2_passMinute F _ _ _ v9 S9 h9) ⟨by omega, by omega⟩ (Nat.le_of_ble_eq_true rfl) dX8_holds_108 (fun _ S16 => ?_)
      refine s_iinc_5 (1 : Int32) dX8_holds_111 (by decide) rfl ?_
      refine s_goto 48 dX8_holds_114 (by decide) ?_
      exact s_less (hk48 x0 x1 x2 x3 x4 (x5 + (1 : Int32)) S16) (And.intro rfl (And.intro rfl (And.intro rfl (And.intro rfl (And.intro rfl (And.intro rfl trivial))))))
    · refine s_iload dX8_holds_97 rfl ?_
      exact s_iret dX8_holds_99
set_option maxRecDepth 100000 in
theorem t_X8_holds_31 {Γ : Cx} {F : Nat} : ∀ (S : Mem), Sim cX8_holds RX8 5 118 (some .int) false Γ rI (f_X8_holds_31 F  S) S 31 [none, none, none, none, none, none] [] := by
  intro  S
  unfold f_X8_holds_31
  refine s_bipush (-2 : Int32) dX8_holds_31 (by decide) ?_
  exact s_iret dX8_holds_33
set_option maxRecDepth 100000 in
theorem con_X8_holds {l : Launch} (F : Nat) (x0 : Nat) (x1 : Int32) (x2 : Int32) (x3 : Int32) (x4 : Int32) (S : Mem) (v : Int32) (S1 : Mem) (h : fn_X8_holds F x0 x1 x2 x3 x4 S = some (v, S1)) : Con l yX8_holds cX8_holds 6 (some .int) 5 118 [.ref x0, .int x1, .int x2, .int x3, .int x4] S (rI v) S1 := by
  refine con_of (ι := rI) RX8 false [some (.ref x0), some (.int x1), some (.int x2), some (.int x3), some (.int x4), none] rfl (fun h => by cases h) (by decide) (Nat.le_of_ble_eq_true rfl) ⟨rfl, rfl⟩ (fun Γ hl => ?_) h
  unfold fn_X8_holds
  refine s_iload_n 1 dX8_holds_0 rfl rfl ?_
  refine s_iload_n 2 dX8_holds_1 rfl rfl ?_
  refine s_cS2I mk_X8_146 (fun v9 S9 h9 => con_X8_isSpot F _ _ _ v9 S9 h9) ⟨by omega, by omega⟩ (Nat.le_of_ble_eq_true rfl) dX8_holds_2 (fun v1 S2 => ?_)
  refine s_if_eq 31 dX8_holds_5 (by decide) (fun _ => ?_) (fun _ => ?_)
  · exact s_less (t_X8_holds_31   S2) trivial
  · refine s_iload_n 3 dX8_holds_8 rfl rfl ?_
    refine s_iconst (0 : Int32) dX8_holds_9 (by decide) ?_
    refine s_sipush (999 : Int32) dX8_holds_10 (by decide) ?_
    refine s_cS3I mk_X8_112 (fun v9 S9 h9 => con_X8_isWithin F _ _ _ _ v9 S9 h9) ⟨by omega, by omega⟩ (Nat.le_of_ble_eq_true rfl) dX8_holds_13 (fun v3 S4 => ?_)
    refine s_if_eq 31 dX8_holds_16 (by decide) (fun _ => ?_) (fun _ => ?_)
    · exact s_less (t_X8_holds_31   S4) trivial
    · refine s_iload dX8_holds_19 rfl ?_
      refine s_iconst (1 : Int32) dX8_holds_21 (by decide) ?_
      refine s_sipush (240 : Int32) dX8_holds_22 (by decide) ?_
      refine s_cS3I mk_X8_112 (fun v9 S9 h9 => con_X8_isWithin F _ _ _ _ v9 S9 h9) ⟨by omega, by omega⟩ (Nat.le_of_ble_eq_true rfl) dX8_holds_25 (fun v5 S6 => ?_)
      refine s_if_ne 34 dX8_holds_28 (by decide) (fun _ => ?_) (fun _ => ?_)
      · refine s_aload_n 0 dX8_holds_34 rfl rfl ?_
        refine s_getR fk_X8_46 rfl dX8_holds_35 (fun v7 => ?_)
        refine s_aload_n 0 dX8_holds_38 rfl rfl ?_
        refine s_getR fk_X8_42 rfl dX8_holds_39 (fun v8 => ?_)
        refine s_cV1V mk_X8_172 (by decide) rfl (fun v9 S9 h9 => con_X2_take F _ _ _ v9 S9 h9) ⟨by omega, by omega⟩ (Nat.le_of_ble_eq_true rfl) dX8_holds_42 (fun _ S10 => ?_)
        refine s_iconst (0 : Int32) dX8_holds_45 (by decide) ?_
        refine s_istore_5 dX8_holds_46 rfl ?_
        exact s_less (t_X8_holds_48 F x0 x1 x2 x3 x4 (0 : Int32) S10) (And.intro rfl (And.intro rfl (And.intro rfl (And.intro rfl (And.intro rfl (And.intro rfl trivial))))))
      · exact s_less (t_X8_holds_31   S6) trivial
-- X8_mayGo
def f_X8_mayGo_100 (F : Nat) (k32 : Nat → Int32 → Int32 → Int32 → Mem → Option (Int32 × Mem)) (x0 : Nat) (x1 : Int32) (x2 : Int32) (x3 : Int32) (S : Mem) : Option (Int32 × Mem) :=
  k32 x0 x1 x2 (x3 + (1 : Int32)) S
def f_X8_mayGo_98 (F : Nat) (k32 : Nat → Int32 → Int32 → Int32 → Mem → Option (Int32 × Mem)) (x0 : Nat) (x1 : Int32) (x3 : Int32) (y0 : Int32) (y1 : Int32) (S : Mem) : Option (Int32 × Mem) :=
  lt ((y0 ||| y1)) fun v1 =>
  f_X8_mayGo_100 F k32 x0 x1 v1 x3  S
def b_X8_mayGo_32 (F : Nat) (k32 : Nat → Int32 → Int32 → Int32 → Mem → Option (Int32 × Mem)) (x0 : Nat) (x1 : Int32) (x2 : Int32) (x3 : Int32) (S : Mem) : Option (Int32 × Mem) :=
  (gR S 7 5 x0).bind fun v1 =>
  (gR S 2 0 v1).bind fun v2 =>
  (gI S 5 0 v2).bind fun v3 =>
  if v3 ≤ x3 then
    some (x2, S)
  else
    (gR S 7 5 x0).bind fun v4 =>
    bd (cal S 2 v4 (fn_X2_isLost F v4 x3 S)) fun v5 S6 =>
    if v5 = 0 then
      (gR S6 7 3 x0).bind fun v7 =>
      (gR S6 7 5 x0).bind fun v8 =>
      (gR S6 7 5 x0).bind fun v9 =>
      (gI S6 2 2 v9).bind fun v10 =>
      bd (cal S6 0 v7 (fn_X0_hang F v7 v8 (v10 ||| ((1 : Int32) <<< (x3 &&& 31))) S6)) fun _ S12 =>
      (gR S12 7 3 x0).bind fun v13 =>
      (gI S12 0 5 v13).bind fun v14 =>
      if v14 < x1 then
        f_X8_mayGo_98 F k32 x0 x1 x3 x2 (0 : Int32) S12
      else
        f_X8_mayGo_98 F k32 x0 x1 x3 x2 ((1 : Int32) <<< (x3 &&& 31)) S12
    else
      f_X8_mayGo_100 F k32 x0 x1 x2 x3  S6
def fn_X8_mayGo (F : Nat) (x0 : Nat) (x1 : Int32) (S : Mem) : Option (Int32 × Mem) :=
  bd ((fn_X8_isHeight F x1 S)) fun v1 S2 =>
  if v1 = 0 then
    some ((-1 : Int32), S2)
  else
    (gR S2 7 3 x0).bind fun v3 =>
    (gR S2 7 5 x0).bind fun v4 =>
    (gR S2 7 5 x0).bind fun v5 =>
    (gI S2 2 1 v5).bind fun v6 =>
    bd (cal S2 0 v3 (fn_X0_feel F v3 v4 v6 (0 : Int32) S2)) fun _ S8 =>
    fix4 (b_X8_mayGo_32 F) F x0 x1 (0 : Int32) (0 : Int32) S8
set_option maxRecDepth 100000 in
theorem t_X8_mayGo_100 {Γ : Cx} {F : Nat} {k32 : Nat → Int32 → Int32 → Int32 → Mem → Option (Int32 × Mem)} (hk32 : ∀ (x0 : Nat) (x1 : Int32) (x2 : Int32) (x3 : Int32) (S : Mem), Sim cX8_mayGo RX8 4 95 (some .int) false Γ rI (k32 x0 x1 x2 x3 S) S 32 [some (.ref x0), some (.int x1), some (.int x2), some (.int x3)] []) : ∀ (x0 : Nat) (x1 : Int32) (x2 : Int32) (x3 : Int32) (S : Mem), Sim cX8_mayGo RX8 4 95 (some .int) false Γ rI (f_X8_mayGo_100 F k32 x0 x1 x2 x3 S) S 100 [some (.ref x0), some (.int x1), some (.int x2), some (.int x3)] [] := by
  intro x0 x1 x2 x3 S
  unfold f_X8_mayGo_100
  refine s_iinc_3 (1 : Int32) dX8_mayGo_100 (by decide) rfl ?_
  refine s_goto 32 dX8_mayGo_103 (by decide) ?_
  exact s_less (hk32 x0 x1 x2 (x3 + (1 : Int32)) S) (And.intro rfl (And.intro rfl (And.intro rfl (And.intro rfl trivial))))
set_option maxRecDepth 100000 in
theorem t_X8_mayGo_98 {Γ : Cx} {F : Nat} {k32 : Nat → Int32 → Int32 → Int32 → Mem → Option (Int32 × Mem)} (hk32 : ∀ (x0 : Nat) (x1 : Int32) (x2 : Int32) (x3 : Int32) (S : Mem), Sim cX8_mayGo RX8 4 95 (some .int) false Γ rI (k32 x0 x1 x2 x3 S) S 32 [some (.ref x0), some (.int x1), some (.int x2), some (.int x3)] []) : ∀ (x0 : Nat) (x1 : Int32) (x3 : Int32) (y0 : Int32) (y1 : Int32) (S : Mem), Sim cX8_mayGo RX8 4 95 (some .int) false Γ rI (f_X8_mayGo_98 F k32 x0 x1 x3 y0 y1 S) S 98 [some (.ref x0), some (.int x1), none, some (.int x3)] [.int y1, .int y0] := by
  intro x0 x1 x3 y0 y1 S
  unfold f_X8_mayGo_98
  refine s_ior dX8_mayGo_98 ?_
  refine s_ltI (fun v1 => ?_)
  refine s_istore_2 dX8_mayGo_99 rfl ?_
  exact s_less (t_X8_mayGo_100 hk32 x0 x1 v1 x3  S) (And.intro rfl (And.intro rfl (And.intro rfl (And.intro rfl trivial))))
set_option maxRecDepth 100000 in
theorem t_X8_mayGo_32 {Γ : Cx} {F : Nat} : ∀ (f : Nat) (x0 : Nat) (x1 : Int32) (x2 : Int32) (x3 : Int32) (S : Mem), Sim cX8_mayGo RX8 4 95 (some .int) false Γ rI (fix4 (b_X8_mayGo_32 F) f x0 x1 x2 x3 S) S 32 [some (.ref x0), some (.int x1), some (.int x2), some (.int x3)] [] := by
  refine s_fix4 (fun (x0 : Nat) (x1 : Int32) (x2 : Int32) (x3 : Int32) => [some (.ref x0), some (.int x1), some (.int x2), some (.int x3)]) (fun k32 hk32 => ?_)
  intro x0 x1 x2 x3 S
  unfold b_X8_mayGo_32
  refine s_iload_n 3 dX8_mayGo_32 rfl rfl ?_
  refine s_aload_n 0 dX8_mayGo_33 rfl rfl ?_
  refine s_getR fk_X8_42 rfl dX8_mayGo_34 (fun v1 => ?_)
  refine s_getR fk_X8_72 rfl dX8_mayGo_37 (fun v2 => ?_)
  refine s_getI fk_X8_150 rfl dX8_mayGo_40 (fun v3 => ?_)
  refine s_icmp_ge 106 dX8_mayGo_43 (by decide) (fun _ => ?_) (fun _ => ?_)
  · refine s_iload_n 2 dX8_mayGo_106 rfl rfl ?_
    exact s_iret dX8_mayGo_107
  · refine s_aload_n 0 dX8_mayGo_46 rfl rfl ?_
    refine s_getR fk_X8_42 rfl dX8_mayGo_47 (fun v4 => ?_)
    refine s_iload_n 3 dX8_mayGo_50 rfl rfl ?_
    refine s_cV1I mk_X8_90 (by decide) rfl (fun v9 S9 h9 => con_X2_isLost F _ _ _ v9 S9 h9) ⟨by omega, by omega⟩ (Nat.le_of_ble_eq_true rfl) dX8_mayGo_51 (fun v5 S6 => ?_)
    refine s_if_ne 100 dX8_mayGo_54 (by decide) (fun _ => ?_) (fun _ => ?_)
    · exact s_less (t_X8_mayGo_100 hk32 x0 x1 x2 x3  S6) (And.intro rfl (And.intro rfl (And.intro rfl (And.intro rfl trivial))))
    · refine s_aload_n 0 dX8_mayGo_57 rfl rfl ?_
      refine s_getR fk_X8_28 rfl dX8_mayGo_58 (fun v7 => ?_)
      refine s_aload_n 0 dX8_mayGo_61 rfl rfl ?_
      refine s_getR fk_X8_42 rfl dX8_mayGo_62 (fun v8 => ?_)
      refine s_aload_n 0 dX8_mayGo_65 rfl rfl ?_
      refine s_getR fk_X8_42 rfl dX8_mayGo_66 (fun v9 => ?_)
      refine s_getI fk_X8_135 rfl dX8_mayGo_69 (fun v10 => ?_)
      refine s_iconst (1 : Int32) dX8_mayGo_72 (by decide) ?_
      refine s_iload_n 3 dX8_mayGo_73 rfl rfl ?_
      refine s_ishl dX8_mayGo_74 ?_
      refine s_ior dX8_mayGo_75 ?_
      refine s_cV2V mk_X8_180 (by decide) rfl (fun v9 S9 h9 => con_X0_hang F _ _ _ _ v9 S9 h9) ⟨by omega, by omega⟩ (Nat.le_of_ble_eq_true rfl) dX8_mayGo_76 (fun _ S12 => ?_)
      refine s_iload_n 2 dX8_mayGo_79 rfl rfl ?_
      refine s_aload_n 0 dX8_mayGo_80 rfl rfl ?_
      refine s_getR fk_X8_28 rfl dX8_mayGo_81 (fun v13 => ?_)
      refine s_getI fk_X8_129 rfl dX8_mayGo_84 (fun v14 => ?_)
      refine s_iload_n 1 dX8_mayGo_87 rfl rfl ?_
      refine s_icmp_lt 97 dX8_mayGo_88 (by decide) (fun _ => ?_) (fun _ => ?_)
      · refine s_iconst (0 : Int32) dX8_mayGo_97 (by decide) ?_
        exact s_less (t_X8_mayGo_98 hk32 x0 x1 x3 x2 (0 : Int32) S12) (And.intro rfl (And.intro rfl (And.intro rfl trivial)))
      · refine s_iconst (1 : Int32) dX8_mayGo_91 (by decide) ?_
        refine s_iload_n 3 dX8_mayGo_92 rfl rfl ?_
        refine s_ishl dX8_mayGo_93 ?_
        refine s_goto 98 dX8_mayGo_94 (by decide) ?_
        exact s_less (t_X8_mayGo_98 hk32 x0 x1 x3 x2 ((1 : Int32) <<< (x3 &&& 31)) S12) (And.intro rfl (And.intro rfl (And.intro rfl trivial)))
set_option maxRecDepth 100000 in
theorem con_X8_mayGo {l : Launch} (F : Nat) (x0 : Nat) (x1 : Int32) (S : Mem) (v : Int32) (S1 : Mem) (h : fn_X8_mayGo F x0 x1 S = some (v, S1)) : Con l yX8_mayGo cX8_mayGo 4 (some .int) 4 95 [.ref x0, .int x1] S (rI v) S1 := by
  refine con_of (ι := rI) RX8 false [some (.ref x0), some (.int x1), none, none] rfl (fun h => by cases h) (by decide) (Nat.le_of_ble_eq_true rfl) ⟨rfl, rfl⟩ (fun Γ hl => ?_) h
  unfold fn_X8_mayGo
  refine s_iload_n 1 dX8_mayGo_0 rfl rfl ?_
  refine s_cS1I mk_X8_105 (fun v9 S9 h9 => con_X8_isHeight F _ _ v9 S9 h9) ⟨by omega, by omega⟩ (Nat.le_of_ble_eq_true rfl) dX8_mayGo_1 (fun v1 S2 => ?_)
  refine s_if_ne 9 dX8_mayGo_4 (by decide) (fun _ => ?_) (fun _ => ?_)
  · refine s_aload_n 0 dX8_mayGo_9 rfl rfl ?_
    refine s_getR fk_X8_28 rfl dX8_mayGo_10 (fun v3 => ?_)
    refine s_aload_n 0 dX8_mayGo_13 rfl rfl ?_
    refine s_getR fk_X8_42 rfl dX8_mayGo_14 (fun v4 => ?_)
    refine s_aload_n 0 dX8_mayGo_17 rfl rfl ?_
    refine s_getR fk_X8_42 rfl dX8_mayGo_18 (fun v5 => ?_)
    refine s_getI fk_X8_83 rfl dX8_mayGo_21 (fun v6 => ?_)
    refine s_iconst (0 : Int32) dX8_mayGo_24 (by decide) ?_
    refine s_cV3V mk_X8_86 (by decide) rfl (fun v9 S9 h9 => con_X0_feel F _ _ _ _ _ v9 S9 h9) ⟨by omega, by omega⟩ (Nat.le_of_ble_eq_true rfl) dX8_mayGo_25 (fun _ S8 => ?_)
    refine s_iconst (0 : Int32) dX8_mayGo_28 (by decide) ?_
    refine s_istore_2 dX8_mayGo_29 rfl ?_
    refine s_iconst (0 : Int32) dX8_mayGo_30 (by decide) ?_
    refine s_istore_3 dX8_mayGo_31 rfl ?_
    exact s_less (t_X8_mayGo_32 F x0 x1 (0 : Int32) (0 : Int32) S8) (And.intro rfl (And.intro rfl (And.intro rfl (And.intro rfl trivial))))
  · refine s_iconst (-1 : Int32) dX8_mayGo_7 (by decide) ?_
    exact s_iret dX8_mayGo_8
-- X8_fewestKept
def f_X8_fewestKept_122 (F : Nat) (k39 : Nat → Int32 → Int32 → Int32 → Int32 → Mem → Option (Int32 × Mem)) (x0 : Nat) (x1 : Int32) (x2 : Int32) (x3 : Int32) (x4 : Int32) (S : Mem) : Option (Int32 × Mem) :=
  k39 x0 x1 x2 x3 (x4 + (1 : Int32)) S
def f_X8_fewestKept_121 (F : Nat) (k39 : Nat → Int32 → Int32 → Int32 → Int32 → Mem → Option (Int32 × Mem)) (x0 : Nat) (x1 : Int32) (x2 : Int32) (x4 : Int32) (y0 : Int32) (S : Mem) : Option (Int32 × Mem) :=
  f_X8_fewestKept_122 F k39 x0 x1 x2 y0 x4  S
def f_X8_fewestKept_67 (F : Nat) (k39 : Nat → Int32 → Int32 → Int32 → Int32 → Mem → Option (Int32 × Mem)) (x0 : Nat) (x1 : Int32) (x2 : Int32) (x3 : Int32) (x4 : Int32) (y0 : Int32) (S : Mem) : Option (Int32 × Mem) :=
  (gR S 7 5 x0).bind fun v1 =>
  (gI S 2 2 v1).bind fun v2 =>
  if (x4 &&& v2) = 0 then
    if y0 = 0 then
      f_X8_fewestKept_122 F k39 x0 x1 x2 x3 x4  S
    else
      (gR S 7 3 x0).bind fun v3 =>
      (gR S 7 5 x0).bind fun v4 =>
      bd (cal S 0 v3 (fn_X0_hang F v3 v4 (x2 &&& (x4 ^^^ (-1 : Int32))) S)) fun _ S6 =>
      (gR S6 7 3 x0).bind fun v7 =>
      (gI S6 0 5 v7).bind fun v8 =>
      if v8 < x1 then
        f_X8_fewestKept_121 F k39 x0 x1 x2 x4 x3 S6
      else
        f_X8_fewestKept_121 F k39 x0 x1 x2 x4 x4 S6
  else
    f_X8_fewestKept_122 F k39 x0 x1 x2 x3 x4  S
def f_X8_fewestKept_62 (F : Nat) (k39 : Nat → Int32 → Int32 → Int32 → Int32 → Mem → Option (Int32 × Mem)) (x0 : Nat) (x1 : Int32) (x2 : Int32) (x3 : Int32) (x4 : Int32) (S : Mem) : Option (Int32 × Mem) :=
  f_X8_fewestKept_67 F k39 x0 x1 x2 x3 x4 (1 : Int32) S
def b_X8_fewestKept_39 (F : Nat) (k39 : Nat → Int32 → Int32 → Int32 → Int32 → Mem → Option (Int32 × Mem)) (x0 : Nat) (x1 : Int32) (x2 : Int32) (x3 : Int32) (x4 : Int32) (S : Mem) : Option (Int32 × Mem) :=
  if x2 < x4 then
    some (x3, S)
  else
    if x3 = (-1 : Int32) then
      f_X8_fewestKept_62 F k39 x0 x1 x2 x3 x4  S
    else
      bd ((fn_J6_bitCount_0f7a4 F x4 S)) fun v1 S2 =>
      bd ((fn_J6_bitCount_0f7a4 F x3 S2)) fun v3 S4 =>
      if v3 ≤ v1 then
        f_X8_fewestKept_67 F k39 x0 x1 x2 x3 x4 (0 : Int32) S4
      else
        f_X8_fewestKept_62 F k39 x0 x1 x2 x3 x4  S4
def fn_X8_fewestKept (F : Nat) (x0 : Nat) (x1 : Int32) (S : Mem) : Option (Int32 × Mem) :=
  (gR S 7 3 x0).bind fun v1 =>
  (gR S 7 5 x0).bind fun v2 =>
  (gR S 7 5 x0).bind fun v3 =>
  (gI S 2 1 v3).bind fun v4 =>
  bd (cal S 0 v1 (fn_X0_feel F v1 v2 v4 (0 : Int32) S)) fun _ S6 =>
  (gR S6 7 5 x0).bind fun v7 =>
  (gR S6 2 0 v7).bind fun v8 =>
  (gI S6 5 0 v8).bind fun v9 =>
  lt ((((1 : Int32) <<< (v9 &&& 31)) - (1 : Int32))) fun v10 =>
  fix5 (b_X8_fewestKept_39 F) F x0 x1 v10 (-1 : Int32) (0 : Int32) S6
set_option maxRecDepth 100000 in
theorem t_X8_fewestKept_122 {Γ : Cx} {F : Nat} {k39 : Nat → Int32 → Int32 → Int32 → Int32 → Mem → Option (Int32 × Mem)} (hk39 : ∀ (x0 : Nat) (x1 : Int32) (x2 : Int32) (x3 : Int32) (x4 : Int32) (S : Mem), Sim cX8_fewestKept RX8 4 95 (some .int) false Γ rI (k39 x0 x1 x2 x3 x4 S) S 39 [some (.ref x0), some (.int x1), some (.int x2), some (.int x3), some (.int x4), none] []) : ∀ (x0 : Nat) (x1 : Int32) (x2 : Int32) (x3 : Int32) (x4 : Int32) (S : Mem), Sim cX8_fewestKept RX8 4 95 (some .int) false Γ rI (f_X8_fewestKept_122 F k39 x0 x1 x2 x3 x4 S) S 122 [some (.ref x0), some (.int x1), some (.int x2), some (.int x3), some (.int x4), none] [] := by
  intro x0 x1 x2 x3 x4 S
  unfold f_X8_fewestKept_122
  refine s_iinc_4 (1 : Int32) dX8_fewestKept_122 (by decide) rfl ?_
  refine s_goto 39 dX8_fewestKept_125 (by decide) ?_
  exact s_less (hk39 x0 x1 x2 x3 (x4 + (1 : Int32)) S) (And.intro rfl (And.intro rfl (And.intro rfl (And.intro rfl (And.intro rfl trivial)))))
set_option maxRecDepth 100000 in
theorem t_X8_fewestKept_121 {Γ : Cx} {F : Nat} {k39 : Nat → Int32 → Int32 → Int32 → Int32 → Mem → Option (Int32 × Mem)} (hk39 : ∀ (x0 : Nat) (x1 : Int32) (x2 : Int32) (x3 : Int32) (x4 : Int32) (S : Mem), Sim cX8_fewestKept RX8 4 95 (some .int) false Γ rI (k39 x0 x1 x2 x3 x4 S) S 39 [some (.ref x0), some (.int x1), some (.int x2), some (.int x3), some (.int x4), none] []) : ∀ (x0 : Nat) (x1 : Int32) (x2 : Int32) (x4 : Int32) (y0 : Int32) (S : Mem), Sim cX8_fewestKept RX8 4 95 (some .int) false Γ rI (f_X8_fewestKept_121 F k39 x0 x1 x2 x4 y0 S) S 121 [some (.ref x0), some (.int x1), some (.int x2), none, some (.int x4), none] [.int y0] := by
  intro x0 x1 x2 x4 y0 S
  unfold f_X8_fewestKept_121
  refine s_istore_3 dX8_fewestKept_121 rfl ?_
  exact s_less (t_X8_fewestKept_122 hk39 x0 x1 x2 y0 x4  S) (And.intro rfl (And.intro rfl (And.intro rfl (And.intro rfl (And.intro rfl trivial)))))
set_option maxRecDepth 100000 in
theorem t_X8_fewestKept_67 {Γ : Cx} {F : Nat} {k39 : Nat → Int32 → Int32 → Int32 → Int32 → Mem → Option (Int32 × Mem)} (hk39 : ∀ (x0 : Nat) (x1 : Int32) (x2 : Int32) (x3 : Int32) (x4 : Int32) (S : Mem), Sim cX8_fewestKept RX8 4 95 (some .int) false Γ rI (k39 x0 x1 x2 x3 x4 S) S 39 [some (.ref x0), some (.int x1), some (.int x2), some (.int x3), some (.int x4), none] []) : ∀ (x0 : Nat) (x1 : Int32) (x2 : Int32) (x3 : Int32) (x4 : Int32) (y0 : Int32) (S : Mem), Sim cX8_fewestKept RX8 4 95 (some .int) false Γ rI (f_X8_fewestKept_67 F k39 x0 x1 x2 x3 x4 y0 S) S 67 [some (.ref x0), some (.int x1), some (.int x2), some (.int x3), some (.int x4), none] [.int y0] := by
  intro x0 x1 x2 x3 x4 y0 S
  unfold f_X8_fewestKept_67
  refine s_istore_5 dX8_fewestKept_67 rfl ?_
  refine s_iload dX8_fewestKept_69 rfl ?_
  refine s_aload_n 0 dX8_fewestKept_71 rfl rfl ?_
  refine s_getR fk_X8_42 rfl dX8_fewestKept_72 (fun v1 => ?_)
  refine s_getI fk_X8_135 rfl dX8_fewestKept_75 (fun v2 => ?_)
  refine s_iand dX8_fewestKept_78 ?_
  refine s_if_ne 122 dX8_fewestKept_79 (by decide) (fun _ => ?_) (fun _ => ?_)
  · exact s_less (t_X8_fewestKept_122 hk39 x0 x1 x2 x3 x4  S) (And.intro rfl (And.intro rfl (And.intro rfl (And.intro rfl (And.intro rfl trivial)))))
  · refine s_iload dX8_fewestKept_82 rfl ?_
    refine s_if_eq 122 dX8_fewestKept_84 (by decide) (fun _ => ?_) (fun _ => ?_)
    · exact s_less (t_X8_fewestKept_122 hk39 x0 x1 x2 x3 x4  S) (And.intro rfl (And.intro rfl (And.intro rfl (And.intro rfl (And.intro rfl trivial)))))
    · refine s_aload_n 0 dX8_fewestKept_87 rfl rfl ?_
      refine s_getR fk_X8_28 rfl dX8_fewestKept_88 (fun v3 => ?_)
      refine s_aload_n 0 dX8_fewestKept_91 rfl rfl ?_
      refine s_getR fk_X8_42 rfl dX8_fewestKept_92 (fun v4 => ?_)
      refine s_iload_n 2 dX8_fewestKept_95 rfl rfl ?_
      refine s_iload dX8_fewestKept_96 rfl ?_
      refine s_iconst (-1 : Int32) dX8_fewestKept_98 (by decide) ?_
      refine s_ixor dX8_fewestKept_99 ?_
      refine s_iand dX8_fewestKept_100 ?_
      refine s_cV2V mk_X8_180 (by decide) rfl (fun v9 S9 h9 => con_X0_hang F _ _ _ _ v9 S9 h9) ⟨by omega, by omega⟩ (Nat.le_of_ble_eq_true rfl) dX8_fewestKept_101 (fun _ S6 => ?_)
      refine s_aload_n 0 dX8_fewestKept_104 rfl rfl ?_
      refine s_getR fk_X8_28 rfl dX8_fewestKept_105 (fun v7 => ?_)
      refine s_getI fk_X8_129 rfl dX8_fewestKept_108 (fun v8 => ?_)
      refine s_iload_n 1 dX8_fewestKept_111 rfl rfl ?_
      refine s_icmp_lt 120 dX8_fewestKept_112 (by decide) (fun _ => ?_) (fun _ => ?_)
      · refine s_iload_n 3 dX8_fewestKept_120 rfl rfl ?_
        exact s_less (t_X8_fewestKept_121 hk39 x0 x1 x2 x4 x3 S6) (And.intro rfl (And.intro rfl (And.intro rfl (And.intro rfl trivial))))
      · refine s_iload dX8_fewestKept_115 rfl ?_
        refine s_goto 121 dX8_fewestKept_117 (by decide) ?_
        exact s_less (t_X8_fewestKept_121 hk39 x0 x1 x2 x4 x4 S6) (And.intro rfl (And.intro rfl (And.intro rfl (And.intro rfl trivial))))
set_option maxRecDepth 100000 in
theorem t_X8_fewestKept_62 {Γ : Cx} {F : Nat} {k39 : Nat → Int32 → Int32 → Int32 → Int32 → Mem → Option (Int32 × Mem)} (hk39 : ∀ (x0 : Nat) (x1 : Int32) (x2 : Int32) (x3 : Int32) (x4 : Int32) (S : Mem), Sim cX8_fewestKept RX8 4 95 (some .int) false Γ rI (k39 x0 x1 x2 x3 x4 S) S 39 [some (.ref x0), some (.int x1), some (.int x2), some (.int x3), some (.int x4), none] []) : ∀ (x0 : Nat) (x1 : Int32) (x2 : Int32) (x3 : Int32) (x4 : Int32) (S : Mem), Sim cX8_fewestKept RX8 4 95 (some .int) false Γ rI (f_X8_fewestKept_62 F k39 x0 x1 x2 x3 x4 S) S 62 [some (.ref x0), some (.int x1), some (.int x2), some (.int x3), some (.int x4), none] [] := by
  intro x0 x1 x2 x3 x4 S
  unfold f_X8_fewestKept_62
  refine s_iconst (1 : Int32) dX8_fewestKept_62 (by decide) ?_
  refine s_goto 67 dX8_fewestKept_63 (by decide) ?_
  exact s_less (t_X8_fewestKept_67 hk39 x0 x1 x2 x3 x4 (1 : Int32) S) (And.intro rfl (And.intro rfl (And.intro rfl (And.intro rfl (And.intro rfl trivial)))))
set_option maxRecDepth 100000 in
theorem t_X8_fewestKept_39 {Γ : Cx} {F : Nat} : ∀ (f : Nat) (x0 : Nat) (x1 : Int32) (x2 : Int32) (x3 : Int32) (x4 : Int32) (S : Mem), Sim cX8_fewestKept RX8 4 95 (some .int) false Γ rI (fix5 (b_X8_fewestKept_39 F) f x0 x1 x2 x3 x4 S) S 39 [some (.ref x0), some (.int x1), some (.int x2), some (.int x3), some (.int x4), none] [] := by
  refine s_fix5 (fun (x0 : Nat) (x1 : Int32) (x2 : Int32) (x3 : Int32) (x4 : Int32) => [some (.ref x0), some (.int x1), some (.int x2), some (.int x3), some (.int x4), none]) (fun k39 hk39 => ?_)
  intro x0 x1 x2 x3 x4 S
  unfold b_X8_fewestKept_39
  refine s_iload dX8_fewestKept_39 rfl ?_
  refine s_iload_n 2 dX8_fewestKept_41 rfl rfl ?_
  refine s_icmp_gt 128 dX8_fewestKept_42 (by decide) (fun _ => ?_) (fun _ => ?_)
  · refine s_iload_n 3 dX8_fewestKept_128 rfl rfl ?_
    exact s_iret dX8_fewestKept_129
  · refine s_iload_n 3 dX8_fewestKept_45 rfl rfl ?_
    refine s_iconst (-1 : Int32) dX8_fewestKept_46 (by decide) ?_
    refine s_icmp_eq 62 dX8_fewestKept_47 (by decide) (fun _ => ?_) (fun _ => ?_)
    · exact s_less (t_X8_fewestKept_62 hk39 x0 x1 x2 x3 x4  S) (And.intro rfl (And.intro rfl (And.intro rfl (And.intro rfl (And.intro rfl trivial)))))
    · refine s_iload dX8_fewestKept_50 rfl ?_
      refine s_cS1I mk_X8_187 (fun v9 S9 h9 => con_J6_bitCount_0f7a4 F _ _ v9 S9 h9) ⟨by omega, by omega⟩ (Nat.le_of_ble_eq_true rfl) dX8_fewestKept_52 (fun v1 S2 => ?_)
      refine s_iload_n 3 dX8_fewestKept_55 rfl rfl ?_
      refine s_cS1I mk_X8_187 (fun v9 S9 h9 => con_J6_bitCount_0f7a4 F _ _ v9 S9 h9) ⟨by omega, by omega⟩ (Nat.le_of_ble_eq_true rfl) dX8_fewestKept_56 (fun v3 S4 => ?_)
      refine s_icmp_ge 66 dX8_fewestKept_59 (by decide) (fun _ => ?_) (fun _ => ?_)
      · refine s_iconst (0 : Int32) dX8_fewestKept_66 (by decide) ?_
        exact s_less (t_X8_fewestKept_67 hk39 x0 x1 x2 x3 x4 (0 : Int32) S4) (And.intro rfl (And.intro rfl (And.intro rfl (And.intro rfl (And.intro rfl trivial)))))
      · exact s_less (t_X8_fewestKept_62 hk39 x0 x1 x2 x3 x4  S4) (And.intro rfl (And.intro rfl (And.intro rfl (And.intro rfl (And.intro rfl trivial)))))
set_option maxRecDepth 100000 in
theorem con_X8_fewestKept {l : Launch} (F : Nat) (x0 : Nat) (x1 : Int32) (S : Mem) (v : Int32) (S1 : Mem) (h : fn_X8_fewestKept F x0 x1 S = some (v, S1)) : Con l yX8_fewestKept cX8_fewestKept 6 (some .int) 4 95 [.ref x0, .int x1] S (rI v) S1 := by
  refine con_of (ι := rI) RX8 false [some (.ref x0), some (.int x1), none, none, none, none] rfl (fun h => by cases h) (by decide) (Nat.le_of_ble_eq_true rfl) ⟨rfl, rfl⟩ (fun Γ hl => ?_) h
  unfold fn_X8_fewestKept
  refine s_aload_n 0 dX8_fewestKept_0 rfl rfl ?_
  refine s_getR fk_X8_28 rfl dX8_fewestKept_1 (fun v1 => ?_)
  refine s_aload_n 0 dX8_fewestKept_4 rfl rfl ?_
  refine s_getR fk_X8_42 rfl dX8_fewestKept_5 (fun v2 => ?_)
  refine s_aload_n 0 dX8_fewestKept_8 rfl rfl ?_
  refine s_getR fk_X8_42 rfl dX8_fewestKept_9 (fun v3 => ?_)
  refine s_getI fk_X8_83 rfl dX8_fewestKept_12 (fun v4 => ?_)
  refine s_iconst (0 : Int32) dX8_fewestKept_15 (by decide) ?_
  refine s_cV3V mk_X8_86 (by decide) rfl (fun v9 S9 h9 => con_X0_feel F _ _ _ _ _ v9 S9 h9) ⟨by omega, by omega⟩ (Nat.le_of_ble_eq_true rfl) dX8_fewestKept_16 (fun _ S6 => ?_)
  refine s_iconst (1 : Int32) dX8_fewestKept_19 (by decide) ?_
  refine s_aload_n 0 dX8_fewestKept_20 rfl rfl ?_
  refine s_getR fk_X8_42 rfl dX8_fewestKept_21 (fun v7 => ?_)
  refine s_getR fk_X8_72 rfl dX8_fewestKept_24 (fun v8 => ?_)
  refine s_getI fk_X8_150 rfl dX8_fewestKept_27 (fun v9 => ?_)
  refine s_ishl dX8_fewestKept_30 ?_
  refine s_iconst (1 : Int32) dX8_fewestKept_31 (by decide) ?_
  refine s_isub dX8_fewestKept_32 ?_
  refine s_ltI (fun v10 => ?_)
  refine s_istore_2 dX8_fewestKept_33 rfl ?_
  refine s_iconst (-1 : Int32) dX8_fewestKept_34 (by decide) ?_
  refine s_istore_3 dX8_fewestKept_35 rfl ?_
  refine s_iconst (0 : Int32) dX8_fewestKept_36 (by decide) ?_
  refine s_istore_4 dX8_fewestKept_37 rfl ?_
  exact s_less (t_X8_fewestKept_39 F x0 x1 v10 (-1 : Int32) (0 : Int32) S6) (And.intro rfl (And.intro rfl (And.intro rfl (And.intro rfl (And.intro rfl trivial)))))
-- X8_needed
def f_X8_needed_42 (F : Nat) (y0 : Int32) (S : Mem) : Option (Int32 × Mem) :=
  some (y0, S)
def f_X8_needed_34 (F : Nat) (x3 : Int32) (S : Mem) : Option (Int32 × Mem) :=
  f_X8_needed_42 F  x3 S
def f_X8_needed_16 (F : Nat)  (S : Mem) : Option (Int32 × Mem) :=
  some ((-1 : Int32), S)
def fn_X8_needed (F : Nat) (x0 : Nat) (x1 : Int32) (x2 : Int32) (S : Mem) : Option (Int32 × Mem) :=
  bd ((fn_X8_isHeight F x1 S)) fun v1 S2 =>
  if v1 = 0 then
    f_X8_needed_16 F   S2
  else
    bd ((fn_X8_isWithin F x2 (0 : Int32) (1 : Int32) S2)) fun v3 S4 =>
    if v3 = 0 then
      f_X8_needed_16 F   S4
    else
      bd (cal S4 7 x0 (fn_X8_fewestKept F x0 x1 S4)) fun v5 S6 =>
      if v5 = (-1 : Int32) then
        f_X8_needed_34 F v5  S6
      else
        if x2 = (1 : Int32) then
          f_X8_needed_34 F v5  S6
        else
          bd ((fn_J6_bitCount_0f7a4 F v5 S6)) fun v7 S8 =>
          f_X8_needed_42 F  v7 S8
set_option maxRecDepth 100000 in
theorem t_X8_needed_42 {Γ : Cx} {F : Nat} : ∀ (y0 : Int32) (S : Mem), Sim cX8_needed RX8 5 120 (some .int) false Γ rI (f_X8_needed_42 F y0 S) S 42 [none, none, none, none] [.int y0] := by
  intro y0 S
  unfold f_X8_needed_42
  exact s_iret dX8_needed_42
set_option maxRecDepth 100000 in
theorem t_X8_needed_34 {Γ : Cx} {F : Nat} : ∀ (x3 : Int32) (S : Mem), Sim cX8_needed RX8 5 120 (some .int) false Γ rI (f_X8_needed_34 F x3 S) S 34 [none, none, none, some (.int x3)] [] := by
  intro x3 S
  unfold f_X8_needed_34
  refine s_iload_n 3 dX8_needed_34 rfl rfl ?_
  refine s_goto 42 dX8_needed_35 (by decide) ?_
  exact s_less (t_X8_needed_42  x3 S) trivial
set_option maxRecDepth 100000 in
theorem t_X8_needed_16 {Γ : Cx} {F : Nat} : ∀ (S : Mem), Sim cX8_needed RX8 5 120 (some .int) false Γ rI (f_X8_needed_16 F  S) S 16 [none, none, none, none] [] := by
  intro  S
  unfold f_X8_needed_16
  refine s_iconst (-1 : Int32) dX8_needed_16 (by decide) ?_
  exact s_iret dX8_needed_17
set_option maxRecDepth 100000 in
theorem con_X8_needed {l : Launch} (F : Nat) (x0 : Nat) (x1 : Int32) (x2 : Int32) (S : Mem) (v : Int32) (S1 : Mem) (h : fn_X8_needed F x0 x1 x2 S = some (v, S1)) : Con l yX8_needed cX8_needed 4 (some .int) 5 120 [.ref x0, .int x1, .int x2] S (rI v) S1 := by
  refine con_of (ι := rI) RX8 false [some (.ref x0), some (.int x1), some (.int x2), none] rfl (fun h => by cases h) (by decide) (Nat.le_of_ble_eq_true rfl) ⟨rfl, rfl⟩ (fun Γ hl => ?_) h
  unfold fn_X8_needed
  refine s_iload_n 1 dX8_needed_0 rfl rfl ?_
  refine s_cS1I mk_X8_105 (fun v9 S9 h9 => con_X8_isHeight F _ _ v9 S9 h9) ⟨by omega, by omega⟩ (Nat.le_of_ble_eq_true rfl) dX8_needed_1 (fun v1 S2 => ?_)
  refine s_if_eq 16 dX8_needed_4 (by decide) (fun _ => ?_) (fun _ => ?_)
  · exact s_less (t_X8_needed_16   S2) trivial
  · refine s_iload_n 2 dX8_needed_7 rfl rfl ?_
    refine s_iconst (0 : Int32) dX8_needed_8 (by decide) ?_
    refine s_iconst (1 : Int32) dX8_needed_9 (by decide) ?_
    refine s_cS3I mk_X8_112 (fun v9 S9 h9 => con_X8_isWithin F _ _ _ _ v9 S9 h9) ⟨by omega, by omega⟩ (Nat.le_of_ble_eq_true rfl) dX8_needed_10 (fun v3 S4 => ?_)
    refine s_if_ne 18 dX8_needed_13 (by decide) (fun _ => ?_) (fun _ => ?_)
    · refine s_aload_n 0 dX8_needed_18 rfl rfl ?_
      refine s_iload_n 1 dX8_needed_19 rfl rfl ?_
      refine s_cV1I mk_X8_184 (by decide) rfl (fun v9 S9 h9 => con_X8_fewestKept F _ _ _ v9 S9 h9) ⟨by omega, by omega⟩ (Nat.le_of_ble_eq_true rfl) dX8_needed_20 (fun v5 S6 => ?_)
      refine s_istore_3 dX8_needed_23 rfl ?_
      refine s_iload_n 3 dX8_needed_24 rfl rfl ?_
      refine s_iconst (-1 : Int32) dX8_needed_25 (by decide) ?_
      refine s_icmp_eq 34 dX8_needed_26 (by decide) (fun _ => ?_) (fun _ => ?_)
      · exact s_less (t_X8_needed_34 v5  S6) (And.intro rfl trivial)
      · refine s_iload_n 2 dX8_needed_29 rfl rfl ?_
        refine s_iconst (1 : Int32) dX8_needed_30 (by decide) ?_
        refine s_icmp_ne 38 dX8_needed_31 (by decide) (fun _ => ?_) (fun _ => ?_)
        · refine s_iload_n 3 dX8_needed_38 rfl rfl ?_
          refine s_cS1I mk_X8_187 (fun v9 S9 h9 => con_J6_bitCount_0f7a4 F _ _ v9 S9 h9) ⟨by omega, by omega⟩ (Nat.le_of_ble_eq_true rfl) dX8_needed_39 (fun v7 S8 => ?_)
          exact s_less (t_X8_needed_42  v7 S8) trivial
        · exact s_less (t_X8_needed_34 v5  S6) (And.intro rfl trivial)
    · exact s_less (t_X8_needed_16   S4) trivial
-- X8_commonDivisor
def f_X8_commonDivisor_44 (F : Nat) (x4 : Int64) (S : Mem) : Option (Int64 × Mem) :=
  some (x4, S)
def b_X8_commonDivisor_9 (F : Nat) (k9 : Int64 → Int64 → Int32 → Mem → Option (Int64 × Mem)) (x4 : Int64) (x6 : Int64) (x8 : Int32) (S : Mem) : Option (Int64 × Mem) :=
  if (64 : Int32) ≤ x8 then
    f_X8_commonDivisor_44 F x4  S
  else
    if (lg_cmp x6 (0 : Int64)) = 0 then
      f_X8_commonDivisor_44 F x4  S
    else
      nzl x6 (
      lt ((x4 - x4 / x6 * x6)) fun v1 =>
      k9 x6 v1 (x8 + (1 : Int32)) S)
def fn_X8_commonDivisor (F : Nat) (x0 : Int64) (x2 : Int64) (S : Mem) : Option (Int64 × Mem) :=
  fix3 (b_X8_commonDivisor_9 F) F x0 x2 (0 : Int32) S
set_option maxRecDepth 100000 in
theorem t_X8_commonDivisor_44 {Γ : Cx} {F : Nat} : ∀ (x4 : Int64) (S : Mem), Sim cX8_commonDivisor RX8 0 0 (some .long) false Γ rJ (f_X8_commonDivisor_44 F x4 S) S 44 [none, none, none, none, some (.long x4), none, none, none, none, none, none] [] := by
  intro x4 S
  unfold f_X8_commonDivisor_44
  refine s_lload dX8_commonDivisor_44 rfl ?_
  exact s_lret dX8_commonDivisor_46
set_option maxRecDepth 100000 in
theorem t_X8_commonDivisor_9 {Γ : Cx} {F : Nat} : ∀ (f : Nat) (x4 : Int64) (x6 : Int64) (x8 : Int32) (S : Mem), Sim cX8_commonDivisor RX8 0 0 (some .long) false Γ rJ (fix3 (b_X8_commonDivisor_9 F) f x4 x6 x8 S) S 9 [none, none, none, none, some (.long x4), none, some (.long x6), none, some (.int x8), none, none] [] := by
  refine s_fix3 (fun (x4 : Int64) (x6 : Int64) (x8 : Int32) => [none, none, none, none, some (.long x4), none, some (.long x6), none, some (.int x8), none, none]) (fun k9 hk9 => ?_)
  intro x4 x6 x8 S
  unfold b_X8_commonDivisor_9
  refine s_iload dX8_commonDivisor_9 rfl ?_
  refine s_bipush (64 : Int32) dX8_commonDivisor_11 (by decide) ?_
  refine s_icmp_ge 44 dX8_commonDivisor_13 (by decide) (fun _ => ?_) (fun _ => ?_)
  · exact s_less (t_X8_commonDivisor_44 x4  S) (And.intro rfl trivial)
  · refine s_lload dX8_commonDivisor_16 rfl ?_
    refine s_lconst (0 : Int64) dX8_commonDivisor_18 (by decide) ?_
    refine s_lcmp dX8_commonDivisor_19 ?_
    refine s_if_eq 44 dX8_commonDivisor_20 (by decide) (fun _ => ?_) (fun _ => ?_)
    · exact s_less (t_X8_commonDivisor_44 x4  S) (And.intro rfl trivial)
    · refine s_lload dX8_commonDivisor_23 rfl ?_
      refine s_lload dX8_commonDivisor_25 rfl ?_
      refine s_lrem dX8_commonDivisor_27 ?_
      refine s_ltJ (fun v1 => ?_)
      refine s_lstore_9 dX8_commonDivisor_28 rfl ?_
      refine s_lload dX8_commonDivisor_30 rfl ?_
      refine s_lstore_4 dX8_commonDivisor_32 rfl ?_
      refine s_lload dX8_commonDivisor_34 rfl ?_
      refine s_lstore_6 dX8_commonDivisor_36 rfl ?_
      refine s_iinc_8 (1 : Int32) dX8_commonDivisor_38 (by decide) rfl ?_
      refine s_goto 9 dX8_commonDivisor_41 (by decide) ?_
      exact s_less (hk9 x6 v1 (x8 + (1 : Int32)) S) (And.intro rfl (And.intro rfl (And.intro rfl trivial)))
set_option maxRecDepth 100000 in
theorem con_X8_commonDivisor {l : Launch} (F : Nat) (x0 : Int64) (x2 : Int64) (S : Mem) (v : Int64) (S1 : Mem) (h : fn_X8_commonDivisor F x0 x2 S = some (v, S1)) : Con l yX8_commonDivisor cX8_commonDivisor 11 (some .long) 0 0 [.long x0, .long x2] S (rJ v) S1 := by
  refine con_of (ι := rJ) RX8 false [some (.long x0), none, some (.long x2), none, none, none, none, none, none, none, none] rfl (fun h => by cases h) (by decide) (Nat.le_of_ble_eq_true rfl) ⟨rfl, rfl⟩ (fun Γ hl => ?_) h
  unfold fn_X8_commonDivisor
  refine s_lload_n 0 dX8_commonDivisor_0 rfl rfl ?_
  refine s_lstore_4 dX8_commonDivisor_1 rfl ?_
  refine s_lload_n 2 dX8_commonDivisor_3 rfl rfl ?_
  refine s_lstore_6 dX8_commonDivisor_4 rfl ?_
  refine s_iconst (0 : Int32) dX8_commonDivisor_6 (by decide) ?_
  refine s_istore_8 dX8_commonDivisor_7 rfl ?_
  exact s_less (t_X8_commonDivisor_9 F x0 x2 (0 : Int32) S) (And.intro rfl (And.intro rfl (And.intro rfl trivial)))
-- X8_mean
def f_X8_mean_179 (F : Nat) (y0 : Int64) (y1 : Int64) (S : Mem) : Option (Int64 × Mem) :=
  nzl y1 (
  some ((y0 / y1), S))
def f_X8_mean_166 (F : Nat) (x7 : Int64) (y0 : Int64) (S : Mem) : Option (Int64 × Mem) :=
  if (lg_cmp x7 (0 : Int64)) ≤ 0 then
    f_X8_mean_179 F  y0 (1 : Int64) S
  else
    f_X8_mean_179 F  y0 x7 S
def f_X8_mean_147 (F : Nat) (y0 : Int64) (S : Mem) : Option (Int64 × Mem) :=
  some (y0, S)
def b_X8_mean_47 (F : Nat) (k47 : Nat → Int32 → Int32 → Int64 → Int32 → Int32 → Int32 → Mem → Option (Int64 × Mem)) (x0 : Nat) (x1 : Int32) (x2 : Int32) (x3 : Int64) (x5 : Int32) (x6 : Int32) (x7 : Int32) (S : Mem) : Option (Int64 × Mem) :=
  if x1 ≤ x7 then
    if x2 < (2 : Int32) then
      bd ((fn_X8_commonDivisor F x3 ((x1).toInt64) S)) fun v1 S2 =>
      if x2 = 0 then
        f_X8_mean_166 F v1 x3 S2
      else
        f_X8_mean_166 F v1 ((x1).toInt64) S2
    else
      if x2 = (2 : Int32) then
        f_X8_mean_147 F  ((x5).toInt64) S
      else
        f_X8_mean_147 F  ((x6).toInt64) S
  else
    (gR S 7 3 x0).bind fun v3 =>
    (gR S 7 6 x0).bind fun v4 =>
    (gR S 7 6 x0).bind fun v5 =>
    (gI S 2 1 v5).bind fun v6 =>
    bd (cal S 0 v3 (fn_X0_look F v3 v4 v6 (0 : Int32) S)) fun _ S8 =>
    (gR S8 7 3 x0).bind fun v9 =>
    (gI S8 0 6 v9).bind fun v10 =>
    lt ((x3 + (v10).toInt64)) fun v11 =>
    (gR S8 7 3 x0).bind fun v12 =>
    (gI S8 0 6 v12).bind fun v13 =>
    lt ((mnI x5 v13)) fun v14 =>
    (gR S8 7 3 x0).bind fun v15 =>
    (gI S8 0 6 v15).bind fun v16 =>
    lt ((mxI x6 v16)) fun v17 =>
    (gR S8 7 6 x0).bind fun v18 =>
    (gR S8 7 3 x0).bind fun v19 =>
    bd (cal S8 2 v18 (fn_X2_passMinute F v18 v19 S8)) fun _ S21 =>
    k47 x0 x1 x2 v11 v14 v17 (x7 + (1 : Int32)) S21
def f_X8_mean_20 (F : Nat)  (S : Mem) : Option (Int64 × Mem) :=
  some ((-1 : Int64), S)
def fn_X8_mean (F : Nat) (x0 : Nat) (x1 : Int32) (x2 : Int32) (S : Mem) : Option (Int64 × Mem) :=
  bd ((fn_X8_isWithin F x1 (1 : Int32) (240 : Int32) S)) fun v1 S2 =>
  if v1 = 0 then
    f_X8_mean_20 F   S2
  else
    bd ((fn_X8_isWithin F x2 (0 : Int32) (3 : Int32) S2)) fun v3 S4 =>
    if v3 = 0 then
      f_X8_mean_20 F   S4
    else
      (gR S4 7 6 x0).bind fun v5 =>
      (gR S4 7 5 x0).bind fun v6 =>
      bd (cal S4 2 v5 (fn_X2_take F v5 v6 S4)) fun _ S8 =>
      fix7 (b_X8_mean_47 F) F x0 x1 x2 (0 : Int64) (2147483647 : Int32) (0 : Int32) (0 : Int32) S8
set_option maxRecDepth 100000 in
theorem t_X8_mean_179 {Γ : Cx} {F : Nat} : ∀ (y0 : Int64) (y1 : Int64) (S : Mem), Sim cX8_mean RX8 5 118 (some .long) false Γ rJ (f_X8_mean_179 F y0 y1 S) S 179 [none, none, none, none, none, none, none, none, none] [.long y1, .long y0] := by
  intro y0 y1 S
  unfold f_X8_mean_179
  refine s_ldiv dX8_mean_179 ?_
  exact s_lret dX8_mean_180
set_option maxRecDepth 100000 in
theorem t_X8_mean_166 {Γ : Cx} {F : Nat} : ∀ (x7 : Int64) (y0 : Int64) (S : Mem), Sim cX8_mean RX8 5 118 (some .long) false Γ rJ (f_X8_mean_166 F x7 y0 S) S 166 [none, none, none, none, none, none, none, some (.long x7), none] [.long y0] := by
  intro x7 y0 S
  unfold f_X8_mean_166
  refine s_lload dX8_mean_166 rfl ?_
  refine s_lconst (0 : Int64) dX8_mean_168 (by decide) ?_
  refine s_lcmp dX8_mean_169 ?_
  refine s_if_le 178 dX8_mean_170 (by decide) (fun _ => ?_) (fun _ => ?_)
  · refine s_lconst (1 : Int64) dX8_mean_178 (by decide) ?_
    exact s_less (t_X8_mean_179  y0 (1 : Int64) S) trivial
  · refine s_lload dX8_mean_173 rfl ?_
    refine s_goto 179 dX8_mean_175 (by decide) ?_
    exact s_less (t_X8_mean_179  y0 x7 S) trivial
set_option maxRecDepth 100000 in
theorem t_X8_mean_147 {Γ : Cx} {F : Nat} : ∀ (y0 : Int64) (S : Mem), Sim cX8_mean RX8 5 118 (some .long) false Γ rJ (f_X8_mean_147 F y0 S) S 147 [none, none, none, none, none, none, none, none, none] [.long y0] := by
  intro y0 S
  unfold f_X8_mean_147
  exact s_lret dX8_mean_147
set_option maxRecDepth 100000 in
theorem t_X8_mean_47 {Γ : Cx} {F : Nat} : ∀ (f : Nat) (x0 : Nat) (x1 : Int32) (x2 : Int32) (x3 : Int64) (x5 : Int32) (x6 : Int32) (x7 : Int32) (S : Mem), Sim cX8_mean RX8 5 118 (some .long) false Γ rJ (fix7 (b_X8_mean_47 F) f x0 x1 x2 x3 x5 x6 x7 S) S 47 [some (.ref x0), some (.int x1), some (.int x2), some (.long x3), none, some (.int x5), some (.int x6), some (.int x7), none] [] := by
  refine s_fix7 (fun (x0 : Nat) (x1 : Int32) (x2 : Int32) (x3 : Int64) (x5 : Int32) (x6 : Int32) (x7 : Int32) => [some (.ref x0), some (.int x1), some (.int x2), some (.long x3), none, some (.int x5), some (.int x6), some (.int x7), none]) (fun k47 hk47 => ?_)
  intro x0 x1 x2 x3 x5 x6 x7 S
  unfold b_X8_mean_47
  refine s_iload dX8_mean_47 rfl ?_
  refine s_iload_n 1 dX8_mean_49 rfl rfl ?_
  refine s_icmp_ge 128 dX8_mean_50 (by decide) (fun _ => ?_) (fun _ => ?_)
  · refine s_iload_n 2 dX8_mean_128 rfl rfl ?_
    refine s_iconst (2 : Int32) dX8_mean_129 (by decide) ?_
    refine s_icmp_lt 148 dX8_mean_130 (by decide) (fun _ => ?_) (fun _ => ?_)
    · refine s_lload_n 3 dX8_mean_148 rfl rfl ?_
      refine s_iload_n 1 dX8_mean_149 rfl rfl ?_
      refine s_i2l dX8_mean_150 ?_
      refine s_cS2J mk_X8_204 (fun v9 S9 h9 => con_X8_commonDivisor F _ _ _ v9 S9 h9) ⟨by omega, by omega⟩ (Nat.le_of_ble_eq_true rfl) dX8_mean_151 (fun v1 S2 => ?_)
      refine s_lstore_7 dX8_mean_154 rfl ?_
      refine s_iload_n 2 dX8_mean_156 rfl rfl ?_
      refine s_if_ne 164 dX8_mean_157 (by decide) (fun _ => ?_) (fun _ => ?_)
      · refine s_iload_n 1 dX8_mean_164 rfl rfl ?_
        refine s_i2l dX8_mean_165 ?_
        exact s_less (t_X8_mean_166 v1 ((x1).toInt64) S2) (And.intro rfl trivial)
      · refine s_lload_n 3 dX8_mean_160 rfl rfl ?_
        refine s_goto 166 dX8_mean_161 (by decide) ?_
        exact s_less (t_X8_mean_166 v1 x3 S2) (And.intro rfl trivial)
    · refine s_iload_n 2 dX8_mean_133 rfl rfl ?_
      refine s_iconst (2 : Int32) dX8_mean_134 (by decide) ?_
      refine s_icmp_ne 144 dX8_mean_135 (by decide) (fun _ => ?_) (fun _ => ?_)
      · refine s_iload dX8_mean_144 rfl ?_
        refine s_i2l dX8_mean_146 ?_
        exact s_less (t_X8_mean_147  ((x6).toInt64) S) trivial
      · refine s_iload dX8_mean_138 rfl ?_
        refine s_i2l dX8_mean_140 ?_
        refine s_goto 147 dX8_mean_141 (by decide) ?_
        exact s_less (t_X8_mean_147  ((x5).toInt64) S) trivial
  · refine s_aload_n 0 dX8_mean_53 rfl rfl ?_
    refine s_getR fk_X8_28 rfl dX8_mean_54 (fun v3 => ?_)
    refine s_aload_n 0 dX8_mean_57 rfl rfl ?_
    refine s_getR fk_X8_46 rfl dX8_mean_58 (fun v4 => ?_)
    refine s_aload_n 0 dX8_mean_61 rfl rfl ?_
    refine s_getR fk_X8_46 rfl dX8_mean_62 (fun v5 => ?_)
    refine s_getI fk_X8_83 rfl dX8_mean_65 (fun v6 => ?_)
    refine s_iconst (0 : Int32) dX8_mean_68 (by decide) ?_
    refine s_cV3V mk_X8_123 (by decide) rfl (fun v9 S9 h9 => con_X0_look F _ _ _ _ _ v9 S9 h9) ⟨by omega, by omega⟩ (Nat.le_of_ble_eq_true rfl) dX8_mean_69 (fun _ S8 => ?_)
    refine s_lload_n 3 dX8_mean_72 rfl rfl ?_
    refine s_aload_n 0 dX8_mean_73 rfl rfl ?_
    refine s_getR fk_X8_28 rfl dX8_mean_74 (fun v9 => ?_)
    refine s_getI fk_X8_126 rfl dX8_mean_77 (fun v10 => ?_)
    refine s_i2l dX8_mean_80 ?_
    refine s_ladd dX8_mean_81 ?_
    refine s_ltJ (fun v11 => ?_)
    refine s_lstore_3 dX8_mean_82 rfl ?_
    refine s_iload dX8_mean_83 rfl ?_
    refine s_aload_n 0 dX8_mean_85 rfl rfl ?_
    refine s_getR fk_X8_28 rfl dX8_mean_86 (fun v12 => ?_)
    refine s_getI fk_X8_126 rfl dX8_mean_89 (fun v13 => ?_)
    refine s_mmin mm_X8_195 mm_min_s mm_i mm_min_c ⟨by omega, by simp [Value.category] <;> omega⟩ dX8_mean_92 ?_
    refine s_ltI (fun v14 => ?_)
    refine s_istore_5 dX8_mean_95 rfl ?_
    refine s_iload dX8_mean_97 rfl ?_
    refine s_aload_n 0 dX8_mean_99 rfl rfl ?_
    refine s_getR fk_X8_28 rfl dX8_mean_100 (fun v15 => ?_)
    refine s_getI fk_X8_126 rfl dX8_mean_103 (fun v16 => ?_)
    refine s_mmax mm_X8_201 mm_max_s mm_i mm_max_c ⟨by omega, by simp [Value.category] <;> omega⟩ dX8_mean_106 ?_
    refine s_ltI (fun v17 => ?_)
    refine s_istore_6 dX8_mean_109 rfl ?_
    refine s_aload_n 0 dX8_mean_111 rfl rfl ?_
    refine s_getR fk_X8_46 rfl dX8_mean_112 (fun v18 => ?_)
    refine s_aload_n 0 dX8_mean_115 rfl rfl ?_
    refine s_getR fk_X8_28 rfl dX8_mean_116 (fun v19 => ?_)
    refine s_cV1V mk_X8_142 (by decide) rfl (fun v9 S9 h9 => con_X2_passMinute F _ _ _ v9 S9 h9) ⟨by omega, by omega⟩ (Nat.le_of_ble_eq_true rfl) dX8_mean_119 (fun _ S21 => ?_)
    refine s_iinc_7 (1 : Int32) dX8_mean_122 (by decide) rfl ?_
    refine s_goto 47 dX8_mean_125 (by decide) ?_
    exact s_less (hk47 x0 x1 x2 v11 v14 v17 (x7 + (1 : Int32)) S21) (And.intro rfl (And.intro rfl (And.intro rfl (And.intro rfl (And.intro rfl (And.intro rfl (And.intro rfl trivial)))))))
set_option maxRecDepth 100000 in
theorem t_X8_mean_20 {Γ : Cx} {F : Nat} : ∀ (S : Mem), Sim cX8_mean RX8 5 118 (some .long) false Γ rJ (f_X8_mean_20 F  S) S 20 [none, none, none, none, none, none, none, none, none] [] := by
  intro  S
  unfold f_X8_mean_20
  refine s_ldc2 (v := (-1 : Int64)) dX8_mean_20 (lw_in 863 (by decide +kernel) (by decide +kernel)) ?_
  exact s_lret dX8_mean_23
set_option maxRecDepth 100000 in
theorem con_X8_mean {l : Launch} (F : Nat) (x0 : Nat) (x1 : Int32) (x2 : Int32) (S : Mem) (v : Int64) (S1 : Mem) (h : fn_X8_mean F x0 x1 x2 S = some (v, S1)) : Con l yX8_mean cX8_mean 9 (some .long) 5 118 [.ref x0, .int x1, .int x2] S (rJ v) S1 := by
  refine con_of (ι := rJ) RX8 false [some (.ref x0), some (.int x1), some (.int x2), none, none, none, none, none, none] rfl (fun h => by cases h) (by decide) (Nat.le_of_ble_eq_true rfl) ⟨rfl, rfl⟩ (fun Γ hl => ?_) h
  unfold fn_X8_mean
  refine s_iload_n 1 dX8_mean_0 rfl rfl ?_
  refine s_iconst (1 : Int32) dX8_mean_1 (by decide) ?_
  refine s_sipush (240 : Int32) dX8_mean_2 (by decide) ?_
  refine s_cS3I mk_X8_112 (fun v9 S9 h9 => con_X8_isWithin F _ _ _ _ v9 S9 h9) ⟨by omega, by omega⟩ (Nat.le_of_ble_eq_true rfl) dX8_mean_5 (fun v1 S2 => ?_)
  refine s_if_eq 20 dX8_mean_8 (by decide) (fun _ => ?_) (fun _ => ?_)
  · exact s_less (t_X8_mean_20   S2) trivial
  · refine s_iload_n 2 dX8_mean_11 rfl rfl ?_
    refine s_iconst (0 : Int32) dX8_mean_12 (by decide) ?_
    refine s_iconst (3 : Int32) dX8_mean_13 (by decide) ?_
    refine s_cS3I mk_X8_112 (fun v9 S9 h9 => con_X8_isWithin F _ _ _ _ v9 S9 h9) ⟨by omega, by omega⟩ (Nat.le_of_ble_eq_true rfl) dX8_mean_14 (fun v3 S4 => ?_)
    refine s_if_ne 24 dX8_mean_17 (by decide) (fun _ => ?_) (fun _ => ?_)
    · refine s_lconst (0 : Int64) dX8_mean_24 (by decide) ?_
      refine s_lstore_3 dX8_mean_25 rfl ?_
      refine s_ldc (v := (2147483647 : Int32)) dX8_mean_26 (lw_in 864 (by decide +kernel) (by decide +kernel)) ?_
      refine s_istore_5 dX8_mean_28 rfl ?_
      refine s_iconst (0 : Int32) dX8_mean_30 (by decide) ?_
      refine s_istore_6 dX8_mean_31 rfl ?_
      refine s_aload_n 0 dX8_mean_33 rfl rfl ?_
      refine s_getR fk_X8_46 rfl dX8_mean_34 (fun v5 => ?_)
      refine s_aload_n 0 dX8_mean_37 rfl rfl ?_
      refine s_getR fk_X8_42 rfl dX8_mean_38 (fun v6 => ?_)
      refine s_cV1V mk_X8_172 (by decide) rfl (fun v9 S9 h9 => con_X2_take F _ _ _ v9 S9 h9) ⟨by omega, by omega⟩ (Nat.le_of_ble_eq_true rfl) dX8_mean_41 (fun _ S8 => ?_)
      refine s_iconst (0 : Int32) dX8_mean_44 (by decide) ?_
      refine s_istore_7 dX8_mean_45 rfl ?_
      exact s_less (t_X8_mean_47 F x0 x1 x2 (0 : Int64) (2147483647 : Int32) (0 : Int32) (0 : Int32) S8) (And.intro rfl (And.intro rfl (And.intro rfl (And.intro rfl (And.intro rfl (And.intro rfl (And.intro rfl trivial)))))))
    · exact s_less (t_X8_mean_20   S4) trivial
-- X8_down
def f_X8_down_43 (F : Nat) (x1 : Int32) (S : Mem) : Option (Int32 × Mem) :=
  some (x1, S)
def b_X8_down_13 (F : Nat) (k13 : Nat → Int32 → Mem → Option (Int32 × Mem)) (x0 : Nat) (x1 : Int32) (S : Mem) : Option (Int32 × Mem) :=
  if (200 : Int32) ≤ x1 then
    f_X8_down_43 F x1  S
  else
    (gR S 7 6 x0).bind fun v1 =>
    bd (cal S 2 v1 (fn_X2_isAllDown F v1 S)) fun v2 S3 =>
    if v2 = 0 then
      (gR S3 7 6 x0).bind fun v4 =>
      bd (cal S3 2 v4 (fn_X2_haulDown F v4 S3)) fun _ S6 =>
      k13 x0 (x1 + (1 : Int32)) S6
    else
      f_X8_down_43 F x1  S3
def fn_X8_down (F : Nat) (x0 : Nat) (S : Mem) : Option (Int32 × Mem) :=
  (gR S 7 6 x0).bind fun v1 =>
  (gR S 7 5 x0).bind fun v2 =>
  bd (cal S 2 v1 (fn_X2_take F v1 v2 S)) fun _ S4 =>
  fix2 (b_X8_down_13 F) F x0 (0 : Int32) S4
set_option maxRecDepth 100000 in
theorem t_X8_down_43 {Γ : Cx} {F : Nat} : ∀ (x1 : Int32) (S : Mem), Sim cX8_down RX8 2 81 (some .int) false Γ rI (f_X8_down_43 F x1 S) S 43 [none, some (.int x1)] [] := by
  intro x1 S
  unfold f_X8_down_43
  refine s_iload_n 1 dX8_down_43 rfl rfl ?_
  exact s_iret dX8_down_44
set_option maxRecDepth 100000 in
theorem t_X8_down_13 {Γ : Cx} {F : Nat} : ∀ (f : Nat) (x0 : Nat) (x1 : Int32) (S : Mem), Sim cX8_down RX8 2 81 (some .int) false Γ rI (fix2 (b_X8_down_13 F) f x0 x1 S) S 13 [some (.ref x0), some (.int x1)] [] := by
  refine s_fix2 (fun (x0 : Nat) (x1 : Int32) => [some (.ref x0), some (.int x1)]) (fun k13 hk13 => ?_)
  intro x0 x1 S
  unfold b_X8_down_13
  refine s_iload_n 1 dX8_down_13 rfl rfl ?_
  refine s_sipush (200 : Int32) dX8_down_14 (by decide) ?_
  refine s_icmp_ge 43 dX8_down_17 (by decide) (fun _ => ?_) (fun _ => ?_)
  · exact s_less (t_X8_down_43 x1  S) (And.intro rfl trivial)
  · refine s_aload_n 0 dX8_down_20 rfl rfl ?_
    refine s_getR fk_X8_46 rfl dX8_down_21 (fun v1 => ?_)
    refine s_cV0I mk_X8_208 (by decide) rfl (fun v9 S9 h9 => con_X2_isAllDown F _ _ v9 S9 h9) ⟨by omega, by omega⟩ (Nat.le_of_ble_eq_true rfl) dX8_down_24 (fun v2 S3 => ?_)
    refine s_if_ne 43 dX8_down_27 (by decide) (fun _ => ?_) (fun _ => ?_)
    · exact s_less (t_X8_down_43 x1  S3) (And.intro rfl trivial)
    · refine s_aload_n 0 dX8_down_30 rfl rfl ?_
      refine s_getR fk_X8_46 rfl dX8_down_31 (fun v4 => ?_)
      refine s_cV0V mk_X8_211 (by decide) rfl (fun v9 S9 h9 => con_X2_haulDown F _ _ v9 S9 h9) ⟨by omega, by omega⟩ (Nat.le_of_ble_eq_true rfl) dX8_down_34 (fun _ S6 => ?_)
      refine s_iinc_1 (1 : Int32) dX8_down_37 (by decide) rfl ?_
      refine s_goto 13 dX8_down_40 (by decide) ?_
      exact s_less (hk13 x0 (x1 + (1 : Int32)) S6) (And.intro rfl (And.intro rfl trivial))
set_option maxRecDepth 100000 in
theorem con_X8_down {l : Launch} (F : Nat) (x0 : Nat) (S : Mem) (v : Int32) (S1 : Mem) (h : fn_X8_down F x0 S = some (v, S1)) : Con l yX8_down cX8_down 2 (some .int) 2 81 [.ref x0] S (rI v) S1 := by
  refine con_of (ι := rI) RX8 false [some (.ref x0), none] rfl (fun h => by cases h) (by decide) (Nat.le_of_ble_eq_true rfl) ⟨rfl, rfl⟩ (fun Γ hl => ?_) h
  unfold fn_X8_down
  refine s_aload_n 0 dX8_down_0 rfl rfl ?_
  refine s_getR fk_X8_46 rfl dX8_down_1 (fun v1 => ?_)
  refine s_aload_n 0 dX8_down_4 rfl rfl ?_
  refine s_getR fk_X8_42 rfl dX8_down_5 (fun v2 => ?_)
  refine s_cV1V mk_X8_172 (by decide) rfl (fun v9 S9 h9 => con_X2_take F _ _ _ v9 S9 h9) ⟨by omega, by omega⟩ (Nat.le_of_ble_eq_true rfl) dX8_down_8 (fun _ S4 => ?_)
  refine s_iconst (0 : Int32) dX8_down_11 (by decide) ?_
  refine s_istore_1 dX8_down_12 rfl ?_
  exact s_less (t_X8_down_13 F x0 (0 : Int32) S4) (And.intro rfl (And.intro rfl trivial))
-- X8_note
def f_X8_note_31 (F : Nat)  (S : Mem) : Option (Int32 × Mem) :=
  some ((-1 : Int32), S)
def fn_X8_note (F : Nat) (x0 : Nat) (x1 : Int32) (x2 : Int32) (x3 : Int32) (S : Mem) : Option (Int32 × Mem) :=
  bd ((fn_X8_isWithin F x1 (0 : Int32) (9999 : Int32) S)) fun v1 S2 =>
  if v1 = 0 then
    f_X8_note_31 F   S2
  else
    bd ((fn_X8_isSpot F x2 x3 S2)) fun v3 S4 =>
    if v3 = 0 then
      f_X8_note_31 F   S4
    else
      (gR S4 7 5 x0).bind fun v5 =>
      (gI S4 2 3 v5).bind fun v6 =>
      if v6 < (10 : Int32) then
        (gR S4 7 5 x0).bind fun v7 =>
        (gR S4 2 7 v7).bind fun v8 =>
        (gR S4 7 5 x0).bind fun v9 =>
        (gI S4 2 3 v9).bind fun v10 =>
        (sA S4 v8 v10 x1).bind fun S11 =>
        (gR S11 7 5 x0).bind fun v12 =>
        (gR S11 2 8 v12).bind fun v13 =>
        (gR S11 7 5 x0).bind fun v14 =>
        (gI S11 2 3 v14).bind fun v15 =>
        (sA S11 v13 v15 x2).bind fun S16 =>
        (gR S16 7 5 x0).bind fun v17 =>
        (gR S16 2 9 v17).bind fun v18 =>
        (gR S16 7 5 x0).bind fun v19 =>
        (gI S16 2 3 v19).bind fun v20 =>
        (sA S16 v18 v20 x3).bind fun S21 =>
        (gR S21 7 5 x0).bind fun v22 =>
        (gI S21 2 3 v22).bind fun v23 =>
        (sI S21 2 3 v22 (v23 + (1 : Int32))).bind fun S24 =>
        (gR S24 7 5 x0).bind fun v25 =>
        (gI S24 2 3 v25).bind fun v26 =>
        some (v26, S24)
      else
        f_X8_note_31 F   S4
set_option maxRecDepth 100000 in
theorem t_X8_note_31 {Γ : Cx} {F : Nat} : ∀ (S : Mem), Sim cX8_note RX8 3 63 (some .int) false Γ rI (f_X8_note_31 F  S) S 31 [none, none, none, none] [] := by
  intro  S
  unfold f_X8_note_31
  refine s_iconst (-1 : Int32) dX8_note_31 (by decide) ?_
  exact s_iret dX8_note_32
set_option maxRecDepth 100000 in
theorem con_X8_note {l : Launch} (F : Nat) (x0 : Nat) (x1 : Int32) (x2 : Int32) (x3 : Int32) (S : Mem) (v : Int32) (S1 : Mem) (h : fn_X8_note F x0 x1 x2 x3 S = some (v, S1)) : Con l yX8_note cX8_note 4 (some .int) 3 63 [.ref x0, .int x1, .int x2, .int x3] S (rI v) S1 := by
  refine con_of (ι := rI) RX8 false [some (.ref x0), some (.int x1), some (.int x2), some (.int x3)] rfl (fun h => by cases h) (by decide) (Nat.le_of_ble_eq_true rfl) ⟨rfl, rfl⟩ (fun Γ hl => ?_) h
  unfold fn_X8_note
  refine s_iload_n 1 dX8_note_0 rfl rfl ?_
  refine s_iconst (0 : Int32) dX8_note_1 (by decide) ?_
  refine s_sipush (9999 : Int32) dX8_note_2 (by decide) ?_
  refine s_cS3I mk_X8_112 (fun v9 S9 h9 => con_X8_isWithin F _ _ _ _ v9 S9 h9) ⟨by omega, by omega⟩ (Nat.le_of_ble_eq_true rfl) dX8_note_5 (fun v1 S2 => ?_)
  refine s_if_eq 31 dX8_note_8 (by decide) (fun _ => ?_) (fun _ => ?_)
  · exact s_less (t_X8_note_31   S2) trivial
  · refine s_iload_n 2 dX8_note_11 rfl rfl ?_
    refine s_iload_n 3 dX8_note_12 rfl rfl ?_
    refine s_cS2I mk_X8_146 (fun v9 S9 h9 => con_X8_isSpot F _ _ _ v9 S9 h9) ⟨by omega, by omega⟩ (Nat.le_of_ble_eq_true rfl) dX8_note_13 (fun v3 S4 => ?_)
    refine s_if_eq 31 dX8_note_16 (by decide) (fun _ => ?_) (fun _ => ?_)
    · exact s_less (t_X8_note_31   S4) trivial
    · refine s_aload_n 0 dX8_note_19 rfl rfl ?_
      refine s_getR fk_X8_42 rfl dX8_note_20 (fun v5 => ?_)
      refine s_getI fk_X8_214 rfl dX8_note_23 (fun v6 => ?_)
      refine s_bipush (10 : Int32) dX8_note_26 (by decide) ?_
      refine s_icmp_lt 33 dX8_note_28 (by decide) (fun _ => ?_) (fun _ => ?_)
      · refine s_aload_n 0 dX8_note_33 rfl rfl ?_
        refine s_getR fk_X8_42 rfl dX8_note_34 (fun v7 => ?_)
        refine s_getR fk_X8_217 rfl dX8_note_37 (fun v8 => ?_)
        refine s_aload_n 0 dX8_note_40 rfl rfl ?_
        refine s_getR fk_X8_42 rfl dX8_note_41 (fun v9 => ?_)
        refine s_getI fk_X8_214 rfl dX8_note_44 (fun v10 => ?_)
        refine s_iload_n 1 dX8_note_47 rfl rfl ?_
        refine s_iast dX8_note_48 (fun S11 => ?_)
        refine s_aload_n 0 dX8_note_49 rfl rfl ?_
        refine s_getR fk_X8_42 rfl dX8_note_50 (fun v12 => ?_)
        refine s_getR fk_X8_220 rfl dX8_note_53 (fun v13 => ?_)
        refine s_aload_n 0 dX8_note_56 rfl rfl ?_
        refine s_getR fk_X8_42 rfl dX8_note_57 (fun v14 => ?_)
        refine s_getI fk_X8_214 rfl dX8_note_60 (fun v15 => ?_)
        refine s_iload_n 2 dX8_note_63 rfl rfl ?_
        refine s_iast dX8_note_64 (fun S16 => ?_)
        refine s_aload_n 0 dX8_note_65 rfl rfl ?_
        refine s_getR fk_X8_42 rfl dX8_note_66 (fun v17 => ?_)
        refine s_getR fk_X8_223 rfl dX8_note_69 (fun v18 => ?_)
        refine s_aload_n 0 dX8_note_72 rfl rfl ?_
        refine s_getR fk_X8_42 rfl dX8_note_73 (fun v19 => ?_)
        refine s_getI fk_X8_214 rfl dX8_note_76 (fun v20 => ?_)
        refine s_iload_n 3 dX8_note_79 rfl rfl ?_
        refine s_iast dX8_note_80 (fun S21 => ?_)
        refine s_aload_n 0 dX8_note_81 rfl rfl ?_
        refine s_getR fk_X8_42 rfl dX8_note_82 (fun v22 => ?_)
        refine s_dup dX8_note_85 rfl ?_
        refine s_getI fk_X8_214 rfl dX8_note_86 (fun v23 => ?_)
        refine s_iconst (1 : Int32) dX8_note_89 (by decide) ?_
        refine s_iadd dX8_note_90 ?_
        refine s_putI fk_X8_214 (Or.inl rfl) rfl dX8_note_91 (fun S24 => ?_)
        refine s_aload_n 0 dX8_note_94 rfl rfl ?_
        refine s_getR fk_X8_42 rfl dX8_note_95 (fun v25 => ?_)
        refine s_getI fk_X8_214 rfl dX8_note_98 (fun v26 => ?_)
        exact s_iret dX8_note_101
      · exact s_less (t_X8_note_31   S4) trivial
-- X8_clear
def fn_X8_clear (F : Nat) (x0 : Nat) (S : Mem) : Option (Int32 × Mem) :=
  (gR S 7 5 x0).bind fun v1 =>
  (sI S 2 3 v1 (0 : Int32)).bind fun S2 =>
  rz (1 : Int32) S2
set_option maxRecDepth 100000 in
theorem con_X8_clear {l : Launch} (F : Nat) (x0 : Nat) (S : Mem) (v : Int32) (S1 : Mem) (h : fn_X8_clear F x0 S = some (v, S1)) : Con l yX8_clear cX8_clear 1 (some .boolean) 0 0 [.ref x0] S (rI v) S1 := by
  refine con_of (ι := rI) RX8 false [some (.ref x0)] rfl (fun h => by cases h) (by decide) (Nat.le_of_ble_eq_true rfl) ⟨rfl, rfl⟩ (fun Γ hl => ?_) h
  unfold fn_X8_clear
  refine s_aload_n 0 dX8_clear_0 rfl rfl ?_
  refine s_getR fk_X8_42 rfl dX8_clear_1 (fun v1 => ?_)
  refine s_iconst (0 : Int32) dX8_clear_4 (by decide) ?_
  refine s_putI fk_X8_214 (Or.inl rfl) rfl dX8_clear_5 (fun S2 => ?_)
  refine s_iconst (1 : Int32) dX8_clear_8 (by decide) ?_
  exact s_zret dX8_clear_9
-- X8_isSeen
def f_X8_isSeen_69 (F : Nat) (y0 : Int32) (S : Mem) : Option (Int32 × Mem) :=
  rz y0 S
def fn_X8_isSeen (F : Nat) (x0 : Nat) (x1 : Int32) (x2 : Int32) (S : Mem) : Option (Int32 × Mem) :=
  (gR S 7 3 x0).bind fun v1 =>
  (gR S 7 5 x0).bind fun v2 =>
  bd (cal S 0 v1 (fn_X0_hang F v1 v2 x1 S)) fun _ S4 =>
  (gR S4 7 3 x0).bind fun v5 =>
  (gI S4 0 5 v5).bind fun v6 =>
  (gR S4 7 5 x0).bind fun v7 =>
  (gR S4 2 9 v7).bind fun v8 =>
  (gA S4 10 v8 x2).bind fun v9 =>
  if v6 = v9 then
    (gR S4 7 3 x0).bind fun v10 =>
    (gR S4 7 5 x0).bind fun v11 =>
    bd (cal S4 0 v10 (fn_X0_lean F v10 v11 x1 S4)) fun _ S13 =>
    (gR S13 7 3 x0).bind fun v14 =>
    (gI S13 0 6 v14).bind fun v15 =>
    (gR S13 7 5 x0).bind fun v16 =>
    (gR S13 2 8 v16).bind fun v17 =>
    (gA S13 10 v17 x2).bind fun v18 =>
    if v15 = v18 then
      f_X8_isSeen_69 F  (1 : Int32) S13
    else
      f_X8_isSeen_69 F  (0 : Int32) S13
  else
    rz (0 : Int32) S4
set_option maxRecDepth 100000 in
theorem t_X8_isSeen_69 {Γ : Cx} {F : Nat} : ∀ (y0 : Int32) (S : Mem), Sim cX8_isSeen RX8 4 95 (some .boolean) false Γ rI (f_X8_isSeen_69 F y0 S) S 69 [none, none, none] [.int y0] := by
  intro y0 S
  unfold f_X8_isSeen_69
  exact s_zret dX8_isSeen_69
set_option maxRecDepth 100000 in
theorem con_X8_isSeen {l : Launch} (F : Nat) (x0 : Nat) (x1 : Int32) (x2 : Int32) (S : Mem) (v : Int32) (S1 : Mem) (h : fn_X8_isSeen F x0 x1 x2 S = some (v, S1)) : Con l yX8_isSeen cX8_isSeen 3 (some .boolean) 4 95 [.ref x0, .int x1, .int x2] S (rI v) S1 := by
  refine con_of (ι := rI) RX8 false [some (.ref x0), some (.int x1), some (.int x2)] rfl (fun h => by cases h) (by decide) (Nat.le_of_ble_eq_true rfl) ⟨rfl, rfl⟩ (fun Γ hl => ?_) h
  unfold fn_X8_isSeen
  refine s_aload_n 0 dX8_isSeen_0 rfl rfl ?_
  refine s_getR fk_X8_28 rfl dX8_isSeen_1 (fun v1 => ?_)
  refine s_aload_n 0 dX8_isSeen_4 rfl rfl ?_
  refine s_getR fk_X8_42 rfl dX8_isSeen_5 (fun v2 => ?_)
  refine s_iload_n 1 dX8_isSeen_8 rfl rfl ?_
  refine s_cV2V mk_X8_180 (by decide) rfl (fun v9 S9 h9 => con_X0_hang F _ _ _ _ v9 S9 h9) ⟨by omega, by omega⟩ (Nat.le_of_ble_eq_true rfl) dX8_isSeen_9 (fun _ S4 => ?_)
  refine s_aload_n 0 dX8_isSeen_12 rfl rfl ?_
  refine s_getR fk_X8_28 rfl dX8_isSeen_13 (fun v5 => ?_)
  refine s_getI fk_X8_129 rfl dX8_isSeen_16 (fun v6 => ?_)
  refine s_aload_n 0 dX8_isSeen_19 rfl rfl ?_
  refine s_getR fk_X8_42 rfl dX8_isSeen_20 (fun v7 => ?_)
  refine s_getR fk_X8_223 rfl dX8_isSeen_23 (fun v8 => ?_)
  refine s_iload_n 2 dX8_isSeen_26 rfl rfl ?_
  refine s_iald dX8_isSeen_27 (fun v9 => ?_)
  refine s_icmp_eq 33 dX8_isSeen_28 (by decide) (fun _ => ?_) (fun _ => ?_)
  · refine s_aload_n 0 dX8_isSeen_33 rfl rfl ?_
    refine s_getR fk_X8_28 rfl dX8_isSeen_34 (fun v10 => ?_)
    refine s_aload_n 0 dX8_isSeen_37 rfl rfl ?_
    refine s_getR fk_X8_42 rfl dX8_isSeen_38 (fun v11 => ?_)
    refine s_iload_n 1 dX8_isSeen_41 rfl rfl ?_
    refine s_cV2V mk_X8_269 (by decide) rfl (fun v9 S9 h9 => con_X0_lean F _ _ _ _ v9 S9 h9) ⟨by omega, by omega⟩ (Nat.le_of_ble_eq_true rfl) dX8_isSeen_42 (fun _ S13 => ?_)
    refine s_aload_n 0 dX8_isSeen_45 rfl rfl ?_
    refine s_getR fk_X8_28 rfl dX8_isSeen_46 (fun v14 => ?_)
    refine s_getI fk_X8_126 rfl dX8_isSeen_49 (fun v15 => ?_)
    refine s_aload_n 0 dX8_isSeen_52 rfl rfl ?_
    refine s_getR fk_X8_42 rfl dX8_isSeen_53 (fun v16 => ?_)
    refine s_getR fk_X8_220 rfl dX8_isSeen_56 (fun v17 => ?_)
    refine s_iload_n 2 dX8_isSeen_59 rfl rfl ?_
    refine s_iald dX8_isSeen_60 (fun v18 => ?_)
    refine s_icmp_ne 68 dX8_isSeen_61 (by decide) (fun _ => ?_) (fun _ => ?_)
    · refine s_iconst (0 : Int32) dX8_isSeen_68 (by decide) ?_
      exact s_less (t_X8_isSeen_69  (0 : Int32) S13) trivial
    · refine s_iconst (1 : Int32) dX8_isSeen_64 (by decide) ?_
      refine s_goto 69 dX8_isSeen_65 (by decide) ?_
      exact s_less (t_X8_isSeen_69  (1 : Int32) S13) trivial
  · refine s_iconst (0 : Int32) dX8_isSeen_31 (by decide) ?_
    exact s_zret dX8_isSeen_32
