def fn_J3_checkIndex_8e157 (F : Nat) (i n : Int32) (S : Mem) : Option (Int32 × Mem) := if i < 0 then none else if i < n then some (i, S) else none
theorem con_J3_checkIndex_8e157 {l : Launch} (F : Nat) (i n : Int32) (w : Value) (hw : w = .null ∨ ∃ t, w = .ref t) (S : Mem) (v : Int32) (S1 : Mem) (h : fn_J3_checkIndex_8e157 F i n S = some (v, S1)) : Con l yJ3_checkIndex_8e157 cJ3_checkIndex_8e157 3 (some .int) 10 600 [.int i, .int n, w] S (rI v) S1 := by
  rcases hw with rfl | ⟨t, rfl⟩
  all_goals
    refine con_of (ι := rI) RJ3 false [some (.int i), some (.int n), some _] rfl (fun h => by cases h) (by decide) (Nat.le_of_ble_eq_true rfl) ⟨rfl, rfl⟩ (fun Γ hl => ?_) h
    unfold fn_J3_checkIndex_8e157
    refine s_iload_n 0 dJ3_checkIndex_8e157_0 rfl rfl ?_
    refine s_if_lt 9 dJ3_checkIndex_8e157_1 (by decide) (fun _ => s_none (K := True)) (fun _ => ?_)
    refine s_iload_n 0 dJ3_checkIndex_8e157_4 rfl rfl ?_
    refine s_iload_n 1 dJ3_checkIndex_8e157_5 rfl rfl ?_
    refine s_icmp_lt 16 dJ3_checkIndex_8e157_6 (by decide) (fun _ => ?_) (fun _ => s_none (K := True))
    refine s_iload_n 0 dJ3_checkIndex_8e157_16 rfl rfl ?_
    exact s_iret dJ3_checkIndex_8e157_17
def fn_J0_checkIndex_df160 (F : Nat) (i n : Int32) (S : Mem) : Option (Unit × Mem) := bd (fn_J3_checkIndex_8e157 F i n S) fun _ S1 => some ((), S1)
theorem con_J0_checkIndex_df160 {l : Launch} (F : Nat) (i n : Int32) (S : Mem) (v : Unit) (S1 : Mem) (h : fn_J0_checkIndex_df160 F i n S = some (v, S1)) : Con l yJ0_checkIndex_df160 cJ0_checkIndex_df160 2 none 14 700 [.int i, .int n] S (rV v) S1 := by
  refine con_of (ι := rV) RJ0 false [some (.int i), some (.int n)] rfl (fun h => by cases h) (by decide) (Nat.le_of_ble_eq_true rfl) ⟨rfl, rfl⟩ (fun Γ hl => ?_) h
  unfold fn_J0_checkIndex_df160
  refine s_iload_n 0 dJ0_checkIndex_df160_0 rfl rfl ?_
  refine s_iload_n 1 dJ0_checkIndex_df160_1 rfl rfl ?_
  refine s_getSI (lw_in 223 (by decide +kernel) (by decide +kernel)) dJ0_checkIndex_df160_2 (fun w hw => ?_)
  refine s_cS3I mk_J0_1059 (fun v9 S9 h9 => con_J3_checkIndex_8e157 F _ _ w hw _ v9 S9 h9) ⟨by omega, by omega⟩ (Nat.le_of_ble_eq_true rfl) dJ0_checkIndex_df160_5 (fun v3 S4 => ?_)
  refine s_pop dJ0_checkIndex_df160_8 rfl ?_
  exact s_vret dJ0_checkIndex_df160_9
-- X3_init
def fn_X3_init (F : Nat) (x0 : Nat) (S : Mem) : Option (Unit × Mem) :=
  bd (nA S 10 (25 : Int32)) fun v1 S2 =>
  (sR S2 3 0 x0 v1).bind fun S3 =>
  bd (nA S3 10 (32 : Int32)) fun v4 S5 =>
  (sR S5 3 1 x0 v4).bind fun S6 =>
  some ((), S6)
set_option maxRecDepth 100000 in
theorem con_X3_init {l : Launch} (F : Nat) (x0 : Nat) (S : Mem) (v : Unit) (S1 : Mem) (h : fn_X3_init F x0 S = some (v, S1)) : Con l yX3_init cX3_init 1 none 1 28 [.ref x0] S (rV v) S1 := by
  refine con_of (ι := rV) RX3 true [some (.ref x0)] rfl (fun _ => rfl) (by decide) (Nat.le_of_ble_eq_true rfl) ⟨rfl, rfl⟩ (fun Γ hl => ?_) h
  unfold fn_X3_init
  refine s_aload_n 0 dX3_init_0 rfl rfl ?_
  refine s_objInit (lw_in 317 (by decide +kernel) (by decide +kernel)) (lw_in 108 (by decide +kernel) (by decide +kernel)) (lw_in 109 (by decide +kernel) (by decide +kernel)) ⟨by omega, by show _ + 12 ≤ _; simp [Value.category] <;> omega⟩ dX3_init_1 ?_
  refine s_aload_n 0 dX3_init_4 rfl rfl ?_
  refine s_bipush (25 : Int32) dX3_init_5 (by decide) ?_
  refine s_newa10 (lw_in 185 (by decide +kernel) (by decide +kernel)) dX3_init_7 (fun v1 S2 => ?_)
  refine s_putR fk_X3_9 (Or.inr ⟨rfl, rfl, rfl⟩) rfl dX3_init_9 (fun S3 => ?_)
  refine s_aload_n 0 dX3_init_12 rfl rfl ?_
  refine s_bipush (32 : Int32) dX3_init_13 (by decide) ?_
  refine s_newa10 (lw_in 185 (by decide +kernel) (by decide +kernel)) dX3_init_15 (fun v4 S5 => ?_)
  refine s_putR fk_X3_15 (Or.inr ⟨rfl, rfl, rfl⟩) rfl dX3_init_17 (fun S6 => ?_)
  exact s_vret dX3_init_20
-- X0_init
def fn_X0_init (F : Nat) (x0 : Nat) (x1 : Nat) (S : Mem) : Option (Unit × Mem) :=
  bd (nO S 3) fun v1 S2 =>
  bd ((fn_X3_init F v1 S2)) fun _ S4 =>
  (sR S4 0 0 x0 v1).bind fun S5 =>
  bd (nA S5 10 (6 : Int32)) fun v6 S7 =>
  (sR S7 0 1 x0 v6).bind fun S8 =>
  bd (nA S8 10 (6 : Int32)) fun v9 S10 =>
  (sR S10 0 2 x0 v9).bind fun S11 =>
  (sR S11 0 7 x0 x1).bind fun S12 =>
  some ((), S12)
set_option maxRecDepth 100000 in
theorem con_X0_init {l : Launch} (F : Nat) (x0 : Nat) (x1 : Nat) (S : Mem) (v : Unit) (S1 : Mem) (h : fn_X0_init F x0 x1 S = some (v, S1)) : Con l yX0_init cX0_init 2 none 2 48 [.ref x0, .ref x1] S (rV v) S1 := by
  refine con_of (ι := rV) RX0 true [some (.ref x0), some (.ref x1)] rfl (fun _ => rfl) (by decide) (Nat.le_of_ble_eq_true rfl) ⟨rfl, rfl⟩ (fun Γ hl => ?_) h
  unfold fn_X0_init
  refine s_aload_n 0 dX0_init_0 rfl rfl ?_
  refine s_objInit (lw_in 311 (by decide +kernel) (by decide +kernel)) (lw_in 108 (by decide +kernel) (by decide +kernel)) (lw_in 109 (by decide +kernel) (by decide +kernel)) ⟨by omega, by show _ + 12 ≤ _; simp [Value.category] <;> omega⟩ dX0_init_1 ?_
  refine s_aload_n 0 dX0_init_4 rfl rfl ?_
  refine s_new 3 (by decide) (lw_in 312 (by decide +kernel) (by decide +kernel)) dX0_init_5 (fun v1 S2 => ?_)
  refine s_dup dX0_init_8 rfl ?_
  refine s_cIN0V mk_X0_11 (fun v9 S9 h9 => con_X3_init F _ _ v9 S9 h9) ⟨by omega, by omega⟩ (Nat.le_of_ble_eq_true rfl) dX0_init_9 (fun _ S4 => ?_)
  refine s_putR fk_X0_12 (Or.inr ⟨rfl, rfl, rfl⟩) rfl dX0_init_12 (fun S5 => ?_)
  refine s_aload_n 0 dX0_init_15 rfl rfl ?_
  refine s_bipush (6 : Int32) dX0_init_16 (by decide) ?_
  refine s_newa10 (lw_in 185 (by decide +kernel) (by decide +kernel)) dX0_init_18 (fun v6 S7 => ?_)
  refine s_putR fk_X0_18 (Or.inr ⟨rfl, rfl, rfl⟩) rfl dX0_init_20 (fun S8 => ?_)
  refine s_aload_n 0 dX0_init_23 rfl rfl ?_
  refine s_bipush (6 : Int32) dX0_init_24 (by decide) ?_
  refine s_newa10 (lw_in 185 (by decide +kernel) (by decide +kernel)) dX0_init_26 (fun v9 S10 => ?_)
  refine s_putR fk_X0_22 (Or.inr ⟨rfl, rfl, rfl⟩) rfl dX0_init_28 (fun S11 => ?_)
  refine s_aload_n 0 dX0_init_31 rfl rfl ?_
  refine s_aload_n 1 dX0_init_32 rfl rfl ?_
  refine s_putR fk_X0_25 (Or.inl rfl) rfl dX0_init_33 (fun S12 => ?_)
  exact s_vret dX0_init_36
-- X5_hasWind
def f_X5_hasWind_13 (F : Nat) (y0 : Int32) (S : Mem) : Option (Int32 × Mem) :=
  rz y0 S
def fn_X5_hasWind (F : Nat) (x0 : Nat) (S : Mem) : Option (Int32 × Mem) :=
  (gR S 5 10 x0).bind fun v1 =>
  (gLen S v1).bind fun v2 =>
  if v2 ≤ 0 then
    f_X5_hasWind_13 F  (0 : Int32) S
  else
    f_X5_hasWind_13 F  (1 : Int32) S
set_option maxRecDepth 100000 in
theorem t_X5_hasWind_13 {Γ : Cx} {F : Nat} : ∀ (y0 : Int32) (S : Mem), Sim cX5_hasWind RX5 0 0 (some .boolean) false Γ rI (f_X5_hasWind_13 F y0 S) S 13 [none] [.int y0] := by
  intro y0 S
  unfold f_X5_hasWind_13
  exact s_zret dX5_hasWind_13
set_option maxRecDepth 100000 in
theorem con_X5_hasWind {l : Launch} (F : Nat) (x0 : Nat) (S : Mem) (v : Int32) (S1 : Mem) (h : fn_X5_hasWind F x0 S = some (v, S1)) : Con l yX5_hasWind cX5_hasWind 1 (some .boolean) 0 0 [.ref x0] S (rI v) S1 := by
  refine con_of (ι := rI) RX5 false [some (.ref x0)] rfl (fun h => by cases h) (by decide) (Nat.le_of_ble_eq_true rfl) ⟨rfl, rfl⟩ (fun Γ hl => ?_) h
  unfold fn_X5_hasWind
  refine s_aload_n 0 dX5_hasWind_0 rfl rfl ?_
  refine s_getR fk_X5_43 rfl dX5_hasWind_1 (fun v1 => ?_)
  refine s_alen dX5_hasWind_4 (fun v2 => ?_)
  refine s_if_le 12 dX5_hasWind_5 (by decide) (fun _ => ?_) (fun _ => ?_)
  · refine s_iconst (0 : Int32) dX5_hasWind_12 (by decide) ?_
    exact s_less (t_X5_hasWind_13  (0 : Int32) S) trivial
  · refine s_iconst (1 : Int32) dX5_hasWind_8 (by decide) ?_
    refine s_goto 13 dX5_hasWind_9 (by decide) ?_
    exact s_less (t_X5_hasWind_13  (1 : Int32) S) trivial
-- X3_joined
def f_X3_joined_125 (F : Nat) (y0 : Int32) (S : Mem) : Option (Int32 × Mem) :=
  some (y0, S)
def f_X3_joined_114 (F : Nat) (y0 : Int32) (S : Mem) : Option (Int32 × Mem) :=
  some (y0, S)
def f_X3_joined_103 (F : Nat) (y0 : Int32) (S : Mem) : Option (Int32 × Mem) :=
  some (y0, S)
def f_X3_joined_98 (F : Nat)  (S : Mem) : Option (Int32 × Mem) :=
  f_X3_joined_103 F  (1 : Int32) S
def f_X3_joined_89 (F : Nat) (y0 : Int32) (S : Mem) : Option (Int32 × Mem) :=
  some (y0, S)
def f_X3_joined_88 (F : Nat)  (S : Mem) : Option (Int32 × Mem) :=
  f_X3_joined_89 F  (0 : Int32) S
def fn_X3_joined (F : Nat) (x0 : Int32) (x1 : Int32) (x2 : Int32) (S : Mem) : Option (Int32 × Mem) :=
  if x0 = (18 : Int32) then
    if x1 = 0 then
      f_X3_joined_88 F   S
    else
      if x2 = 0 then
        f_X3_joined_88 F   S
      else
        f_X3_joined_89 F  (1 : Int32) S
  else
    if x0 = (19 : Int32) then
      if x1 = 0 then
        if x2 = 0 then
          f_X3_joined_103 F  (0 : Int32) S
        else
          f_X3_joined_98 F   S
      else
        f_X3_joined_98 F   S
    else
      if x0 = (29 : Int32) then
        if x2 ≤ x1 then
          f_X3_joined_114 F  (0 : Int32) S
        else
          f_X3_joined_114 F  (1 : Int32) S
      else
        if x0 = (30 : Int32) then
          if x1 = x2 then
            f_X3_joined_125 F  (1 : Int32) S
          else
            f_X3_joined_125 F  (0 : Int32) S
        else
          if x0 = (31 : Int32) then
            some ((x1 + x2), S)
          else
            if x0 = (32 : Int32) then
              some ((x1 - x2), S)
            else
              if x0 = (20 : Int32) then
                some ((x1 * x2), S)
              else
                if x0 = (21 : Int32) then
                  some ((x1 * x2), S)
                else
                  if x0 = (22 : Int32) then
                    some ((x1 * x2), S)
                  else
                    if x0 = (23 : Int32) then
                      some ((x1 * x2), S)
                    else
                      if x0 = (24 : Int32) then
                        some ((x1 * x2), S)
                      else
                        if x0 = (25 : Int32) then
                          some ((x1 * x2), S)
                        else
                          if x0 = (26 : Int32) then
                            some ((x1 * x2), S)
                          else
                            if x0 = (27 : Int32) then
                              some ((x1 * x2), S)
                            else
                              if x0 = (28 : Int32) then
                                some ((x1 * x2), S)
                              else
                                some ((x1 * x2), S)
set_option maxRecDepth 100000 in
theorem t_X3_joined_125 {Γ : Cx} {F : Nat} : ∀ (y0 : Int32) (S : Mem), Sim cX3_joined RX3 0 0 (some .int) false Γ rI (f_X3_joined_125 F y0 S) S 125 [none, none, none] [.int y0] := by
  intro y0 S
  unfold f_X3_joined_125
  exact s_iret dX3_joined_125
set_option maxRecDepth 100000 in
theorem t_X3_joined_114 {Γ : Cx} {F : Nat} : ∀ (y0 : Int32) (S : Mem), Sim cX3_joined RX3 0 0 (some .int) false Γ rI (f_X3_joined_114 F y0 S) S 114 [none, none, none] [.int y0] := by
  intro y0 S
  unfold f_X3_joined_114
  exact s_iret dX3_joined_114
set_option maxRecDepth 100000 in
theorem t_X3_joined_103 {Γ : Cx} {F : Nat} : ∀ (y0 : Int32) (S : Mem), Sim cX3_joined RX3 0 0 (some .int) false Γ rI (f_X3_joined_103 F y0 S) S 103 [none, none, none] [.int y0] := by
  intro y0 S
  unfold f_X3_joined_103
  exact s_iret dX3_joined_103
set_option maxRecDepth 100000 in
theorem t_X3_joined_98 {Γ : Cx} {F : Nat} : ∀ (S : Mem), Sim cX3_joined RX3 0 0 (some .int) false Γ rI (f_X3_joined_98 F  S) S 98 [none, none, none] [] := by
  intro  S
  unfold f_X3_joined_98
  refine s_iconst (1 : Int32) dX3_joined_98 (by decide) ?_
  refine s_goto 103 dX3_joined_99 (by decide) ?_
  exact s_less (t_X3_joined_103  (1 : Int32) S) trivial
set_option maxRecDepth 100000 in
theorem t_X3_joined_89 {Γ : Cx} {F : Nat} : ∀ (y0 : Int32) (S : Mem), Sim cX3_joined RX3 0 0 (some .int) false Γ rI (f_X3_joined_89 F y0 S) S 89 [none, none, none] [.int y0] := by
  intro y0 S
  unfold f_X3_joined_89
  exact s_iret dX3_joined_89
set_option maxRecDepth 100000 in
theorem t_X3_joined_88 {Γ : Cx} {F : Nat} : ∀ (S : Mem), Sim cX3_joined RX3 0 0 (some .int) false Γ rI (f_X3_joined_88 F  S) S 88 [none, none, none] [] := by
  intro  S
  unfold f_X3_joined_88
  refine s_iconst (0 : Int32) dX3_joined_88 (by decide) ?_
  exact s_less (t_X3_joined_89  (0 : Int32) S) trivial
set_option maxRecDepth 100000 in
theorem con_X3_joined {l : Launch} (F : Nat) (x0 : Int32) (x1 : Int32) (x2 : Int32) (S : Mem) (v : Int32) (S1 : Mem) (h : fn_X3_joined F x0 x1 x2 S = some (v, S1)) : Con l yX3_joined cX3_joined 3 (some .int) 0 0 [.int x0, .int x1, .int x2] S (rI v) S1 := by
  refine con_of (ι := rI) RX3 false [some (.int x0), some (.int x1), some (.int x2)] rfl (fun h => by cases h) (by decide) (Nat.le_of_ble_eq_true rfl) ⟨rfl, rfl⟩ (fun Γ hl => ?_) h
  unfold fn_X3_joined
  refine s_iload_n 0 dX3_joined_0 rfl rfl ?_
  refine s_ite _ (fun h0 => ?_) (fun h0 => ?_)
  · subst h0
    refine s_tsIn (off := 75) 76 dX3_joined_1 (by decide) (by decide) (by decide) (by decide) ?_
    refine s_iload_n 1 dX3_joined_76 rfl rfl ?_
    refine s_if_eq 88 dX3_joined_77 (by decide) (fun _ => ?_) (fun _ => ?_)
    · exact s_less (t_X3_joined_88   S) trivial
    · refine s_iload_n 2 dX3_joined_80 rfl rfl ?_
      refine s_if_eq 88 dX3_joined_81 (by decide) (fun _ => ?_) (fun _ => ?_)
      · exact s_less (t_X3_joined_88   S) trivial
      · refine s_iconst (1 : Int32) dX3_joined_84 (by decide) ?_
        refine s_goto 89 dX3_joined_85 (by decide) ?_
        exact s_less (t_X3_joined_89  (1 : Int32) S) trivial
  refine s_ite _ (fun h1 => ?_) (fun h1 => ?_)
  · subst h1
    refine s_tsIn (off := 89) 90 dX3_joined_1 (by decide) (by decide) (by decide) (by decide) ?_
    refine s_iload_n 1 dX3_joined_90 rfl rfl ?_
    refine s_if_ne 98 dX3_joined_91 (by decide) (fun _ => ?_) (fun _ => ?_)
    · exact s_less (t_X3_joined_98   S) trivial
    · refine s_iload_n 2 dX3_joined_94 rfl rfl ?_
      refine s_if_eq 102 dX3_joined_95 (by decide) (fun _ => ?_) (fun _ => ?_)
      · refine s_iconst (0 : Int32) dX3_joined_102 (by decide) ?_
        exact s_less (t_X3_joined_103  (0 : Int32) S) trivial
      · exact s_less (t_X3_joined_98   S) trivial
  refine s_ite _ (fun h11 => ?_) (fun h11 => ?_)
  · subst h11
    refine s_tsIn (off := 103) 104 dX3_joined_1 (by decide) (by decide) (by decide) (by decide) ?_
    refine s_iload_n 1 dX3_joined_104 rfl rfl ?_
    refine s_iload_n 2 dX3_joined_105 rfl rfl ?_
    refine s_icmp_ge 113 dX3_joined_106 (by decide) (fun _ => ?_) (fun _ => ?_)
    · refine s_iconst (0 : Int32) dX3_joined_113 (by decide) ?_
      exact s_less (t_X3_joined_114  (0 : Int32) S) trivial
    · refine s_iconst (1 : Int32) dX3_joined_109 (by decide) ?_
      refine s_goto 114 dX3_joined_110 (by decide) ?_
      exact s_less (t_X3_joined_114  (1 : Int32) S) trivial
  refine s_ite _ (fun h12 => ?_) (fun h12 => ?_)
  · subst h12
    refine s_tsIn (off := 114) 115 dX3_joined_1 (by decide) (by decide) (by decide) (by decide) ?_
    refine s_iload_n 1 dX3_joined_115 rfl rfl ?_
    refine s_iload_n 2 dX3_joined_116 rfl rfl ?_
    refine s_icmp_ne 124 dX3_joined_117 (by decide) (fun _ => ?_) (fun _ => ?_)
    · refine s_iconst (0 : Int32) dX3_joined_124 (by decide) ?_
      exact s_less (t_X3_joined_125  (0 : Int32) S) trivial
    · refine s_iconst (1 : Int32) dX3_joined_120 (by decide) ?_
      refine s_goto 125 dX3_joined_121 (by decide) ?_
      exact s_less (t_X3_joined_125  (1 : Int32) S) trivial
  refine s_ite _ (fun h13 => ?_) (fun h13 => ?_)
  · subst h13
    refine s_tsIn (off := 125) 126 dX3_joined_1 (by decide) (by decide) (by decide) (by decide) ?_
    refine s_iload_n 1 dX3_joined_126 rfl rfl ?_
    refine s_iload_n 2 dX3_joined_127 rfl rfl ?_
    refine s_iadd dX3_joined_128 ?_
    exact s_iret dX3_joined_129
  refine s_ite _ (fun h14 => ?_) (fun h14 => ?_)
  · subst h14
    refine s_tsIn (off := 129) 130 dX3_joined_1 (by decide) (by decide) (by decide) (by decide) ?_
    refine s_iload_n 1 dX3_joined_130 rfl rfl ?_
    refine s_iload_n 2 dX3_joined_131 rfl rfl ?_
    refine s_isub dX3_joined_132 ?_
    exact s_iret dX3_joined_133
  refine s_ite _ (fun h2 => ?_) (fun h2 => ?_)
  · subst h2
    refine s_tsIn (off := 133) 134 dX3_joined_1 (by decide) (by decide) (by decide) (by decide) ?_
    refine s_iload_n 1 dX3_joined_134 rfl rfl ?_
    refine s_iload_n 2 dX3_joined_135 rfl rfl ?_
    refine s_imul dX3_joined_136 ?_
    exact s_iret dX3_joined_137
  refine s_ite _ (fun h3 => ?_) (fun h3 => ?_)
  · subst h3
    refine s_tsIn (off := 133) 134 dX3_joined_1 (by decide) (by decide) (by decide) (by decide) ?_
    refine s_iload_n 1 dX3_joined_134 rfl rfl ?_
    refine s_iload_n 2 dX3_joined_135 rfl rfl ?_
    refine s_imul dX3_joined_136 ?_
    exact s_iret dX3_joined_137
  refine s_ite _ (fun h4 => ?_) (fun h4 => ?_)
  · subst h4
    refine s_tsIn (off := 133) 134 dX3_joined_1 (by decide) (by decide) (by decide) (by decide) ?_
    refine s_iload_n 1 dX3_joined_134 rfl rfl ?_
    refine s_iload_n 2 dX3_joined_135 rfl rfl ?_
    refine s_imul dX3_joined_136 ?_
    exact s_iret dX3_joined_137
  refine s_ite _ (fun h5 => ?_) (fun h5 => ?_)
  · subst h5
    refine s_tsIn (off := 133) 134 dX3_joined_1 (by decide) (by decide) (by decide) (by decide) ?_
    refine s_iload_n 1 dX3_joined_134 rfl rfl ?_
    refine s_iload_n 2 dX3_joined_135 rfl rfl ?_
    refine s_imul dX3_joined_136 ?_
    exact s_iret dX3_joined_137
  refine s_ite _ (fun h6 => ?_) (fun h6 => ?_)
  · subst h6
    refine s_tsIn (off := 133) 134 dX3_joined_1 (by decide) (by decide) (by decide) (by decide) ?_
    refine s_iload_n 1 dX3_joined_134 rfl rfl ?_
    refine s_iload_n 2 dX3_joined_135 rfl rfl ?_
    refine s_imul dX3_joined_136 ?_
    exact s_iret dX3_joined_137
  refine s_ite _ (fun h7 => ?_) (fun h7 => ?_)
  · subst h7
    refine s_tsIn (off := 133) 134 dX3_joined_1 (by decide) (by decide) (by decide) (by decide) ?_
    refine s_iload_n 1 dX3_joined_134 rfl rfl ?_
    refine s_iload_n 2 dX3_joined_135 rfl rfl ?_
    refine s_imul dX3_joined_136 ?_
    exact s_iret dX3_joined_137
  refine s_ite _ (fun h8 => ?_) (fun h8 => ?_)
  · subst h8
    refine s_tsIn (off := 133) 134 dX3_joined_1 (by decide) (by decide) (by decide) (by decide) ?_
    refine s_iload_n 1 dX3_joined_134 rfl rfl ?_
    refine s_iload_n 2 dX3_joined_135 rfl rfl ?_
    refine s_imul dX3_joined_136 ?_
    exact s_iret dX3_joined_137
  refine s_ite _ (fun h9 => ?_) (fun h9 => ?_)
  · subst h9
    refine s_tsIn (off := 133) 134 dX3_joined_1 (by decide) (by decide) (by decide) (by decide) ?_
    refine s_iload_n 1 dX3_joined_134 rfl rfl ?_
    refine s_iload_n 2 dX3_joined_135 rfl rfl ?_
    refine s_imul dX3_joined_136 ?_
    exact s_iret dX3_joined_137
  refine s_ite _ (fun h10 => ?_) (fun h10 => ?_)
  · subst h10
    refine s_tsIn (off := 133) 134 dX3_joined_1 (by decide) (by decide) (by decide) (by decide) ?_
    refine s_iload_n 1 dX3_joined_134 rfl rfl ?_
    refine s_iload_n 2 dX3_joined_135 rfl rfl ?_
    refine s_imul dX3_joined_136 ?_
    exact s_iret dX3_joined_137
  have e0 := lv_neT (a := 18) h0 rfl
  have e1 := lv_neT (a := 19) h1 rfl
  have e11 := lv_neT (a := 29) h11 rfl
  have e12 := lv_neT (a := 30) h12 rfl
  have e13 := lv_neT (a := 31) h13 rfl
  have e14 := lv_neT (a := 32) h14 rfl
  have e2 := lv_neT (a := 20) h2 rfl
  have e3 := lv_neT (a := 21) h3 rfl
  have e4 := lv_neT (a := 22) h4 rfl
  have e5 := lv_neT (a := 23) h5 rfl
  have e6 := lv_neT (a := 24) h6 rfl
  have e7 := lv_neT (a := 25) h7 rfl
  have e8 := lv_neT (a := 26) h8 rfl
  have e9 := lv_neT (a := 27) h9 rfl
  have e10 := lv_neT (a := 28) h10 rfl
  refine s_tsOut 134 dX3_joined_1 (by omega) (by decide) ?_
  refine s_iload_n 1 dX3_joined_134 rfl rfl ?_
  refine s_iload_n 2 dX3_joined_135 rfl rfl ?_
  refine s_imul dX3_joined_136 ?_
  exact s_iret dX3_joined_137
-- X3_fact
def f_X3_fact_19 (F : Nat) (y0 : Int32) (S : Mem) : Option (Int32 × Mem) :=
  some (y0, S)
def fn_X3_fact (F : Nat) (x0 : Nat) (x1 : Int32) (S : Mem) : Option (Int32 × Mem) :=
  (gR S 3 0 x0).bind fun v1 =>
  (gLen S v1).bind fun v2 =>
  if v2 ≤ x1 then
    f_X3_fact_19 F  (0 : Int32) S
  else
    (gR S 3 0 x0).bind fun v3 =>
    (gA S 10 v3 x1).bind fun v4 =>
    f_X3_fact_19 F  v4 S
set_option maxRecDepth 100000 in
theorem t_X3_fact_19 {Γ : Cx} {F : Nat} : ∀ (y0 : Int32) (S : Mem), Sim cX3_fact RX3 0 0 (some .int) false Γ rI (f_X3_fact_19 F y0 S) S 19 [none, none] [.int y0] := by
  intro y0 S
  unfold f_X3_fact_19
  exact s_iret dX3_fact_19
set_option maxRecDepth 100000 in
theorem con_X3_fact {l : Launch} (F : Nat) (x0 : Nat) (x1 : Int32) (S : Mem) (v : Int32) (S1 : Mem) (h : fn_X3_fact F x0 x1 S = some (v, S1)) : Con l yX3_fact cX3_fact 2 (some .int) 0 0 [.ref x0, .int x1] S (rI v) S1 := by
  refine con_of (ι := rI) RX3 false [some (.ref x0), some (.int x1)] rfl (fun h => by cases h) (by decide) (Nat.le_of_ble_eq_true rfl) ⟨rfl, rfl⟩ (fun Γ hl => ?_) h
  unfold fn_X3_fact
  refine s_iload_n 1 dX3_fact_0 rfl rfl ?_
  refine s_aload_n 0 dX3_fact_1 rfl rfl ?_
  refine s_getR fk_X3_9 rfl dX3_fact_2 (fun v1 => ?_)
  refine s_alen dX3_fact_5 (fun v2 => ?_)
  refine s_icmp_ge 18 dX3_fact_6 (by decide) (fun _ => ?_) (fun _ => ?_)
  · refine s_iconst (0 : Int32) dX3_fact_18 (by decide) ?_
    exact s_less (t_X3_fact_19  (0 : Int32) S) trivial
  · refine s_aload_n 0 dX3_fact_9 rfl rfl ?_
    refine s_getR fk_X3_9 rfl dX3_fact_10 (fun v3 => ?_)
    refine s_iload_n 1 dX3_fact_13 rfl rfl ?_
    refine s_iald dX3_fact_14 (fun v4 => ?_)
    refine s_goto 19 dX3_fact_15 (by decide) ?_
    exact s_less (t_X3_fact_19  v4 S) trivial
-- X3_reckon
def f_X3_reckon_161 (F : Nat) (y0 : Int32) (S : Mem) : Option (Int32 × Mem) :=
  some (y0, S)
def f_X3_reckon_138 (F : Nat) (k4 : Nat → Nat → Int32 → Int32 → Mem → Option (Int32 × Mem)) (x0 : Nat) (x1 : Nat) (x2 : Int32) (x3 : Int32) (S : Mem) : Option (Int32 × Mem) :=
  k4 x0 x1 x2 (x3 + (1 : Int32)) S
def f_X3_reckon_134 (F : Nat) (k4 : Nat → Nat → Int32 → Int32 → Mem → Option (Int32 × Mem)) (x0 : Nat) (x1 : Nat) (x2 : Int32) (x3 : Int32) (y0 : Nat) (y1 : Int32) (y2 : Int32) (S : Mem) : Option (Int32 × Mem) :=
  (sA S y0 y1 y2).bind fun S1 =>
  f_X3_reckon_138 F k4 x0 x1 (x2 + (1 : Int32)) x3  S1
def f_X3_reckon_51 (F : Nat) (k4 : Nat → Nat → Int32 → Int32 → Mem → Option (Int32 × Mem)) (x0 : Nat) (x1 : Nat) (x2 : Int32) (x3 : Int32) (y0 : Nat) (y1 : Int32) (y2 : Int32) (S : Mem) : Option (Int32 × Mem) :=
  (sA S y0 y1 y2).bind fun S1 =>
  f_X3_reckon_138 F k4 x0 x1 x2 x3  S1
def b_X3_reckon_4 (F : Nat) (k4 : Nat → Nat → Int32 → Int32 → Mem → Option (Int32 × Mem)) (x0 : Nat) (x1 : Nat) (x2 : Int32) (x3 : Int32) (S : Mem) : Option (Int32 × Mem) :=
  (gLen S x1).bind fun v1 =>
  if v1 ≤ x3 then
    if x2 < (1 : Int32) then
      f_X3_reckon_161 F  (0 : Int32) S
    else
      (gR S 3 1 x0).bind fun v2 =>
      (gA S 10 v2 (x2 - (1 : Int32))).bind fun v3 =>
      f_X3_reckon_161 F  v3 S
  else
    (gA S 10 x1 x3).bind fun v4 =>
    if v4 = (10017 : Int32) then
      if x2 < (1 : Int32) then
        f_X3_reckon_138 F k4 x0 x1 x2 x3  S
      else
        (gR S 3 1 x0).bind fun v16 =>
        (gR S 3 1 x0).bind fun v17 =>
        (gA S 10 v17 (x2 - (1 : Int32))).bind fun v18 =>
        if v18 = 0 then
          f_X3_reckon_51 F k4 x0 x1 x2 x3 v16 (x2 - (1 : Int32)) (1 : Int32) S
        else
          f_X3_reckon_51 F k4 x0 x1 x2 x3 v16 (x2 - (1 : Int32)) (0 : Int32) S
    else
      if v4 < (10000 : Int32) then
        if (32 : Int32) ≤ x2 then
          f_X3_reckon_138 F k4 x0 x1 x2 x3  S
        else
          (gR S 3 1 x0).bind fun v5 =>
          if v4 < 0 then
            bd (cal S 3 x0 (fn_X3_fact F x0 ((-1 : Int32) - v4) S)) fun v6 S7 =>
            f_X3_reckon_134 F k4 x0 x1 x2 x3 v5 x2 v6 S7
          else
            f_X3_reckon_134 F k4 x0 x1 x2 x3 v5 x2 v4 S
      else
        if x2 < (2 : Int32) then
          f_X3_reckon_138 F k4 x0 x1 x2 x3  S
        else
          (gR S 3 1 x0).bind fun v8 =>
          (gR S 3 1 x0).bind fun v9 =>
          (gA S 10 v9 ((x2 + (-1 : Int32)) - (1 : Int32))).bind fun v10 =>
          (gR S 3 1 x0).bind fun v11 =>
          (gA S 10 v11 (x2 + (-1 : Int32))).bind fun v12 =>
          bd ((fn_X3_joined F (v4 - (10000 : Int32)) v10 v12 S)) fun v13 S14 =>
          (sA S14 v8 ((x2 + (-1 : Int32)) - (1 : Int32)) v13).bind fun S15 =>
          f_X3_reckon_138 F k4 x0 x1 (x2 + (-1 : Int32)) x3  S15
def fn_X3_reckon (F : Nat) (x0 : Nat) (x1 : Nat) (S : Mem) : Option (Int32 × Mem) :=
  fix4 (b_X3_reckon_4 F) F x0 x1 (0 : Int32) (0 : Int32) S
set_option maxRecDepth 100000 in
theorem t_X3_reckon_161 {Γ : Cx} {F : Nat} : ∀ (y0 : Int32) (S : Mem), Sim cX3_reckon RX3 1 22 (some .int) false Γ rI (f_X3_reckon_161 F y0 S) S 161 [none, none, none, none, none] [.int y0] := by
  intro y0 S
  unfold f_X3_reckon_161
  exact s_iret dX3_reckon_161
set_option maxRecDepth 100000 in
theorem t_X3_reckon_138 {Γ : Cx} {F : Nat} {k4 : Nat → Nat → Int32 → Int32 → Mem → Option (Int32 × Mem)} (hk4 : ∀ (x0 : Nat) (x1 : Nat) (x2 : Int32) (x3 : Int32) (S : Mem), Sim cX3_reckon RX3 1 22 (some .int) false Γ rI (k4 x0 x1 x2 x3 S) S 4 [some (.ref x0), some (.ref x1), some (.int x2), some (.int x3), none] []) : ∀ (x0 : Nat) (x1 : Nat) (x2 : Int32) (x3 : Int32) (S : Mem), Sim cX3_reckon RX3 1 22 (some .int) false Γ rI (f_X3_reckon_138 F k4 x0 x1 x2 x3 S) S 138 [some (.ref x0), some (.ref x1), some (.int x2), some (.int x3), none] [] := by
  intro x0 x1 x2 x3 S
  unfold f_X3_reckon_138
  refine s_iinc_3 (1 : Int32) dX3_reckon_138 (by decide) rfl ?_
  refine s_goto 4 dX3_reckon_141 (by decide) ?_
  exact s_less (hk4 x0 x1 x2 (x3 + (1 : Int32)) S) (And.intro rfl (And.intro rfl (And.intro rfl (And.intro rfl trivial))))
set_option maxRecDepth 100000 in
theorem t_X3_reckon_134 {Γ : Cx} {F : Nat} {k4 : Nat → Nat → Int32 → Int32 → Mem → Option (Int32 × Mem)} (hk4 : ∀ (x0 : Nat) (x1 : Nat) (x2 : Int32) (x3 : Int32) (S : Mem), Sim cX3_reckon RX3 1 22 (some .int) false Γ rI (k4 x0 x1 x2 x3 S) S 4 [some (.ref x0), some (.ref x1), some (.int x2), some (.int x3), none] []) : ∀ (x0 : Nat) (x1 : Nat) (x2 : Int32) (x3 : Int32) (y0 : Nat) (y1 : Int32) (y2 : Int32) (S : Mem), Sim cX3_reckon RX3 1 22 (some .int) false Γ rI (f_X3_reckon_134 F k4 x0 x1 x2 x3 y0 y1 y2 S) S 134 [some (.ref x0), some (.ref x1), some (.int x2), some (.int x3), none] [.int y2, .int y1, .ref y0] := by
  intro x0 x1 x2 x3 y0 y1 y2 S
  unfold f_X3_reckon_134
  refine s_iast dX3_reckon_134 (fun S1 => ?_)
  refine s_iinc_2 (1 : Int32) dX3_reckon_135 (by decide) rfl ?_
  exact s_less (t_X3_reckon_138 hk4 x0 x1 (x2 + (1 : Int32)) x3  S1) (And.intro rfl (And.intro rfl (And.intro rfl (And.intro rfl trivial))))
set_option maxRecDepth 100000 in
theorem t_X3_reckon_51 {Γ : Cx} {F : Nat} {k4 : Nat → Nat → Int32 → Int32 → Mem → Option (Int32 × Mem)} (hk4 : ∀ (x0 : Nat) (x1 : Nat) (x2 : Int32) (x3 : Int32) (S : Mem), Sim cX3_reckon RX3 1 22 (some .int) false Γ rI (k4 x0 x1 x2 x3 S) S 4 [some (.ref x0), some (.ref x1), some (.int x2), some (.int x3), none] []) : ∀ (x0 : Nat) (x1 : Nat) (x2 : Int32) (x3 : Int32) (y0 : Nat) (y1 : Int32) (y2 : Int32) (S : Mem), Sim cX3_reckon RX3 1 22 (some .int) false Γ rI (f_X3_reckon_51 F k4 x0 x1 x2 x3 y0 y1 y2 S) S 51 [some (.ref x0), some (.ref x1), some (.int x2), some (.int x3), none] [.int y2, .int y1, .ref y0] := by
  intro x0 x1 x2 x3 y0 y1 y2 S
  unfold f_X3_reckon_51
  refine s_iast dX3_reckon_51 (fun S1 => ?_)
  refine s_goto 138 dX3_reckon_52 (by decide) ?_
  exact s_less (t_X3_reckon_138 hk4 x0 x1 x2 x3  S1) (And.intro rfl (And.intro rfl (And.intro rfl (And.intro rfl trivial))))
set_option maxRecDepth 100000 in
theorem t_X3_reckon_4 {Γ : Cx} {F : Nat} : ∀ (f : Nat) (x0 : Nat) (x1 : Nat) (x2 : Int32) (x3 : Int32) (S : Mem), Sim cX3_reckon RX3 1 22 (some .int) false Γ rI (fix4 (b_X3_reckon_4 F) f x0 x1 x2 x3 S) S 4 [some (.ref x0), some (.ref x1), some (.int x2), some (.int x3), none] [] := by
  refine s_fix4 (fun (x0 : Nat) (x1 : Nat) (x2 : Int32) (x3 : Int32) => [some (.ref x0), some (.ref x1), some (.int x2), some (.int x3), none]) (fun k4 hk4 => ?_)
  intro x0 x1 x2 x3 S
  unfold b_X3_reckon_4
  refine s_iload_n 3 dX3_reckon_4 rfl rfl ?_
  refine s_aload_n 1 dX3_reckon_5 rfl rfl ?_
  refine s_alen dX3_reckon_6 (fun v1 => ?_)
  refine s_icmp_ge 144 dX3_reckon_7 (by decide) (fun _ => ?_) (fun _ => ?_)
  · refine s_iload_n 2 dX3_reckon_144 rfl rfl ?_
    refine s_iconst (1 : Int32) dX3_reckon_145 (by decide) ?_
    refine s_icmp_lt 160 dX3_reckon_146 (by decide) (fun _ => ?_) (fun _ => ?_)
    · refine s_iconst (0 : Int32) dX3_reckon_160 (by decide) ?_
      exact s_less (t_X3_reckon_161  (0 : Int32) S) trivial
    · refine s_aload_n 0 dX3_reckon_149 rfl rfl ?_
      refine s_getR fk_X3_15 rfl dX3_reckon_150 (fun v2 => ?_)
      refine s_iload_n 2 dX3_reckon_153 rfl rfl ?_
      refine s_iconst (1 : Int32) dX3_reckon_154 (by decide) ?_
      refine s_isub dX3_reckon_155 ?_
      refine s_iald dX3_reckon_156 (fun v3 => ?_)
      refine s_goto 161 dX3_reckon_157 (by decide) ?_
      exact s_less (t_X3_reckon_161  v3 S) trivial
  · refine s_aload_n 1 dX3_reckon_10 rfl rfl ?_
    refine s_iload_n 3 dX3_reckon_11 rfl rfl ?_
    refine s_iald dX3_reckon_12 (fun v4 => ?_)
    refine s_istore_4 dX3_reckon_13 rfl ?_
    refine s_iload dX3_reckon_15 rfl ?_
    refine s_sipush (10017 : Int32) dX3_reckon_17 (by decide) ?_
    refine s_icmp_ne 55 dX3_reckon_20 (by decide) (fun _ => ?_) (fun _ => ?_)
    · refine s_iload dX3_reckon_55 rfl ?_
      refine s_sipush (10000 : Int32) dX3_reckon_57 (by decide) ?_
      refine s_icmp_lt 105 dX3_reckon_60 (by decide) (fun _ => ?_) (fun _ => ?_)
      · refine s_iload_n 2 dX3_reckon_105 rfl rfl ?_
        refine s_bipush (32 : Int32) dX3_reckon_106 (by decide) ?_
        refine s_icmp_ge 138 dX3_reckon_108 (by decide) (fun _ => ?_) (fun _ => ?_)
        · exact s_less (t_X3_reckon_138 hk4 x0 x1 x2 x3  S) (And.intro rfl (And.intro rfl (And.intro rfl (And.intro rfl trivial))))
        · refine s_aload_n 0 dX3_reckon_111 rfl rfl ?_
          refine s_getR fk_X3_15 rfl dX3_reckon_112 (fun v5 => ?_)
          refine s_iload_n 2 dX3_reckon_115 rfl rfl ?_
          refine s_iload dX3_reckon_116 rfl ?_
          refine s_if_lt 126 dX3_reckon_118 (by decide) (fun _ => ?_) (fun _ => ?_)
          · refine s_aload_n 0 dX3_reckon_126 rfl rfl ?_
            refine s_iconst (-1 : Int32) dX3_reckon_127 (by decide) ?_
            refine s_iload dX3_reckon_128 rfl ?_
            refine s_isub dX3_reckon_130 ?_
            refine s_cV1I mk_X3_22 (by decide) rfl (fun v9 S9 h9 => con_X3_fact F _ _ _ v9 S9 h9) ⟨by omega, by omega⟩ (Nat.le_of_ble_eq_true rfl) dX3_reckon_131 (fun v6 S7 => ?_)
            exact s_less (t_X3_reckon_134 hk4 x0 x1 x2 x3 v5 x2 v6 S7) (And.intro rfl (And.intro rfl (And.intro rfl (And.intro rfl trivial))))
          · refine s_iload dX3_reckon_121 rfl ?_
            refine s_goto 134 dX3_reckon_123 (by decide) ?_
            exact s_less (t_X3_reckon_134 hk4 x0 x1 x2 x3 v5 x2 v4 S) (And.intro rfl (And.intro rfl (And.intro rfl (And.intro rfl trivial))))
      · refine s_iload_n 2 dX3_reckon_63 rfl rfl ?_
        refine s_iconst (2 : Int32) dX3_reckon_64 (by decide) ?_
        refine s_icmp_lt 138 dX3_reckon_65 (by decide) (fun _ => ?_) (fun _ => ?_)
        · exact s_less (t_X3_reckon_138 hk4 x0 x1 x2 x3  S) (And.intro rfl (And.intro rfl (And.intro rfl (And.intro rfl trivial))))
        · refine s_iinc_2 (-1 : Int32) dX3_reckon_68 (by decide) rfl ?_
          refine s_aload_n 0 dX3_reckon_71 rfl rfl ?_
          refine s_getR fk_X3_15 rfl dX3_reckon_72 (fun v8 => ?_)
          refine s_iload_n 2 dX3_reckon_75 rfl rfl ?_
          refine s_iconst (1 : Int32) dX3_reckon_76 (by decide) ?_
          refine s_isub dX3_reckon_77 ?_
          refine s_iload dX3_reckon_78 rfl ?_
          refine s_sipush (10000 : Int32) dX3_reckon_80 (by decide) ?_
          refine s_isub dX3_reckon_83 ?_
          refine s_aload_n 0 dX3_reckon_84 rfl rfl ?_
          refine s_getR fk_X3_15 rfl dX3_reckon_85 (fun v9 => ?_)
          refine s_iload_n 2 dX3_reckon_88 rfl rfl ?_
          refine s_iconst (1 : Int32) dX3_reckon_89 (by decide) ?_
          refine s_isub dX3_reckon_90 ?_
          refine s_iald dX3_reckon_91 (fun v10 => ?_)
          refine s_aload_n 0 dX3_reckon_92 rfl rfl ?_
          refine s_getR fk_X3_15 rfl dX3_reckon_93 (fun v11 => ?_)
          refine s_iload_n 2 dX3_reckon_96 rfl rfl ?_
          refine s_iald dX3_reckon_97 (fun v12 => ?_)
          refine s_cS3I mk_X3_18 (fun v9 S9 h9 => con_X3_joined F _ _ _ _ v9 S9 h9) ⟨by omega, by omega⟩ (Nat.le_of_ble_eq_true rfl) dX3_reckon_98 (fun v13 S14 => ?_)
          refine s_iast dX3_reckon_101 (fun S15 => ?_)
          refine s_goto 138 dX3_reckon_102 (by decide) ?_
          exact s_less (t_X3_reckon_138 hk4 x0 x1 (x2 + (-1 : Int32)) x3  S15) (And.intro rfl (And.intro rfl (And.intro rfl (And.intro rfl trivial))))
    · refine s_iload_n 2 dX3_reckon_23 rfl rfl ?_
      refine s_iconst (1 : Int32) dX3_reckon_24 (by decide) ?_
      refine s_icmp_lt 138 dX3_reckon_25 (by decide) (fun _ => ?_) (fun _ => ?_)
      · exact s_less (t_X3_reckon_138 hk4 x0 x1 x2 x3  S) (And.intro rfl (And.intro rfl (And.intro rfl (And.intro rfl trivial))))
      · refine s_aload_n 0 dX3_reckon_28 rfl rfl ?_
        refine s_getR fk_X3_15 rfl dX3_reckon_29 (fun v16 => ?_)
        refine s_iload_n 2 dX3_reckon_32 rfl rfl ?_
        refine s_iconst (1 : Int32) dX3_reckon_33 (by decide) ?_
        refine s_isub dX3_reckon_34 ?_
        refine s_aload_n 0 dX3_reckon_35 rfl rfl ?_
        refine s_getR fk_X3_15 rfl dX3_reckon_36 (fun v17 => ?_)
        refine s_iload_n 2 dX3_reckon_39 rfl rfl ?_
        refine s_iconst (1 : Int32) dX3_reckon_40 (by decide) ?_
        refine s_isub dX3_reckon_41 ?_
        refine s_iald dX3_reckon_42 (fun v18 => ?_)
        refine s_if_ne 50 dX3_reckon_43 (by decide) (fun _ => ?_) (fun _ => ?_)
        · refine s_iconst (0 : Int32) dX3_reckon_50 (by decide) ?_
          exact s_less (t_X3_reckon_51 hk4 x0 x1 x2 x3 v16 (x2 - (1 : Int32)) (0 : Int32) S) (And.intro rfl (And.intro rfl (And.intro rfl (And.intro rfl trivial))))
        · refine s_iconst (1 : Int32) dX3_reckon_46 (by decide) ?_
          refine s_goto 51 dX3_reckon_47 (by decide) ?_
          exact s_less (t_X3_reckon_51 hk4 x0 x1 x2 x3 v16 (x2 - (1 : Int32)) (1 : Int32) S) (And.intro rfl (And.intro rfl (And.intro rfl (And.intro rfl trivial))))
set_option maxRecDepth 100000 in
theorem con_X3_reckon {l : Launch} (F : Nat) (x0 : Nat) (x1 : Nat) (S : Mem) (v : Int32) (S1 : Mem) (h : fn_X3_reckon F x0 x1 S = some (v, S1)) : Con l yX3_reckon cX3_reckon 5 (some .int) 1 22 [.ref x0, .ref x1] S (rI v) S1 := by
  refine con_of (ι := rI) RX3 false [some (.ref x0), some (.ref x1), none, none, none] rfl (fun h => by cases h) (by decide) (Nat.le_of_ble_eq_true rfl) ⟨rfl, rfl⟩ (fun Γ hl => ?_) h
  unfold fn_X3_reckon
  refine s_iconst (0 : Int32) dX3_reckon_0 (by decide) ?_
  refine s_istore_2 dX3_reckon_1 rfl ?_
  refine s_iconst (0 : Int32) dX3_reckon_2 (by decide) ?_
  refine s_istore_3 dX3_reckon_3 rfl ?_
  exact s_less (t_X3_reckon_4 F x0 x1 (0 : Int32) (0 : Int32) S) (And.intro rfl (And.intro rfl (And.intro rfl (And.intro rfl trivial))))
-- X8_clamped
def f_X8_clamped_19 (F : Nat) (y0 : Int32) (S : Mem) : Option (Int32 × Mem) :=
  some (y0, S)
def fn_X8_clamped (F : Nat) (x0 : Int32) (x1 : Int32) (x2 : Int32) (S : Mem) : Option (Int32 × Mem) :=
  if x1 ≤ x0 then
    if x0 ≤ x2 then
      f_X8_clamped_19 F  x0 S
    else
      f_X8_clamped_19 F  x2 S
  else
    f_X8_clamped_19 F  x1 S
set_option maxRecDepth 100000 in
theorem t_X8_clamped_19 {Γ : Cx} {F : Nat} : ∀ (y0 : Int32) (S : Mem), Sim cX8_clamped RX8 0 0 (some .int) false Γ rI (f_X8_clamped_19 F y0 S) S 19 [none, none, none] [.int y0] := by
  intro y0 S
  unfold f_X8_clamped_19
  exact s_iret dX8_clamped_19
set_option maxRecDepth 100000 in
theorem con_X8_clamped {l : Launch} (F : Nat) (x0 : Int32) (x1 : Int32) (x2 : Int32) (S : Mem) (v : Int32) (S1 : Mem) (h : fn_X8_clamped F x0 x1 x2 S = some (v, S1)) : Con l yX8_clamped cX8_clamped 3 (some .int) 0 0 [.int x0, .int x1, .int x2] S (rI v) S1 := by
  refine con_of (ι := rI) RX8 false [some (.int x0), some (.int x1), some (.int x2)] rfl (fun h => by cases h) (by decide) (Nat.le_of_ble_eq_true rfl) ⟨rfl, rfl⟩ (fun Γ hl => ?_) h
  unfold fn_X8_clamped
  refine s_iload_n 0 dX8_clamped_0 rfl rfl ?_
  refine s_iload_n 1 dX8_clamped_1 rfl rfl ?_
  refine s_icmp_ge 9 dX8_clamped_2 (by decide) (fun _ => ?_) (fun _ => ?_)
  · refine s_iload_n 0 dX8_clamped_9 rfl rfl ?_
    refine s_iload_n 2 dX8_clamped_10 rfl rfl ?_
    refine s_icmp_le 18 dX8_clamped_11 (by decide) (fun _ => ?_) (fun _ => ?_)
    · refine s_iload_n 0 dX8_clamped_18 rfl rfl ?_
      exact s_less (t_X8_clamped_19  x0 S) trivial
    · refine s_iload_n 2 dX8_clamped_14 rfl rfl ?_
      refine s_goto 19 dX8_clamped_15 (by decide) ?_
      exact s_less (t_X8_clamped_19  x2 S) trivial
  · refine s_iload_n 1 dX8_clamped_5 rfl rfl ?_
    refine s_goto 19 dX8_clamped_6 (by decide) ?_
    exact s_less (t_X8_clamped_19  x1 S) trivial
-- X0_windAt
def fn_X0_windAt (F : Nat) (x0 : Nat) (x1 : Nat) (x2 : Int32) (x3 : Int32) (x4 : Int32) (S : Mem) : Option (Int32 × Mem) :=
  bd (cal S 5 x1 (fn_X5_hasWind F x1 S)) fun v1 S2 =>
  if v1 = 0 then
    some ((20 : Int32), S2)
  else
    (gR S2 0 0 x0).bind fun v3 =>
    (gR S2 3 0 v3).bind fun v4 =>
    (sA S2 v4 (20 : Int32) x2).bind fun S5 =>
    (gR S5 0 0 x0).bind fun v6 =>
    (gR S5 3 0 v6).bind fun v7 =>
    (sA S5 v7 (21 : Int32) x3).bind fun S8 =>
    (gR S8 0 0 x0).bind fun v9 =>
    (gR S8 3 0 v9).bind fun v10 =>
    (sA S8 v10 (22 : Int32) x4).bind fun S11 =>
    (gR S11 0 0 x0).bind fun v12 =>
    (gR S11 5 10 x1).bind fun v13 =>
    bd (cal S11 3 v12 (fn_X3_reckon F v12 v13 S11)) fun v14 S15 =>
    bd ((fn_X8_clamped F v14 (0 : Int32) (99 : Int32) S15)) fun v16 S17 =>
    some (v16, S17)
set_option maxRecDepth 100000 in
theorem con_X0_windAt {l : Launch} (F : Nat) (x0 : Nat) (x1 : Nat) (x2 : Int32) (x3 : Int32) (x4 : Int32) (S : Mem) (v : Int32) (S1 : Mem) (h : fn_X0_windAt F x0 x1 x2 x3 x4 S = some (v, S1)) : Con l yX0_windAt cX0_windAt 5 (some .int) 2 46 [.ref x0, .ref x1, .int x2, .int x3, .int x4] S (rI v) S1 := by
  refine con_of (ι := rI) RX0 false [some (.ref x0), some (.ref x1), some (.int x2), some (.int x3), some (.int x4)] rfl (fun h => by cases h) (by decide) (Nat.le_of_ble_eq_true rfl) ⟨rfl, rfl⟩ (fun Γ hl => ?_) h
  unfold fn_X0_windAt
  refine s_aload_n 1 dX0_windAt_0 rfl rfl ?_
  refine s_cV0I mk_X0_29 (by decide) rfl (fun v9 S9 h9 => con_X5_hasWind F _ _ v9 S9 h9) ⟨by omega, by omega⟩ (Nat.le_of_ble_eq_true rfl) dX0_windAt_1 (fun v1 S2 => ?_)
  refine s_if_ne 10 dX0_windAt_4 (by decide) (fun _ => ?_) (fun _ => ?_)
  · refine s_aload_n 0 dX0_windAt_10 rfl rfl ?_
    refine s_getR fk_X0_12 rfl dX0_windAt_11 (fun v3 => ?_)
    refine s_getR fk_X0_35 rfl dX0_windAt_14 (fun v4 => ?_)
    refine s_bipush (20 : Int32) dX0_windAt_17 (by decide) ?_
    refine s_iload_n 2 dX0_windAt_19 rfl rfl ?_
    refine s_iast dX0_windAt_20 (fun S5 => ?_)
    refine s_aload_n 0 dX0_windAt_21 rfl rfl ?_
    refine s_getR fk_X0_12 rfl dX0_windAt_22 (fun v6 => ?_)
    refine s_getR fk_X0_35 rfl dX0_windAt_25 (fun v7 => ?_)
    refine s_bipush (21 : Int32) dX0_windAt_28 (by decide) ?_
    refine s_iload_n 3 dX0_windAt_30 rfl rfl ?_
    refine s_iast dX0_windAt_31 (fun S8 => ?_)
    refine s_aload_n 0 dX0_windAt_32 rfl rfl ?_
    refine s_getR fk_X0_12 rfl dX0_windAt_33 (fun v9 => ?_)
    refine s_getR fk_X0_35 rfl dX0_windAt_36 (fun v10 => ?_)
    refine s_bipush (22 : Int32) dX0_windAt_39 (by decide) ?_
    refine s_iload dX0_windAt_41 rfl ?_
    refine s_iast dX0_windAt_43 (fun S11 => ?_)
    refine s_aload_n 0 dX0_windAt_44 rfl rfl ?_
    refine s_getR fk_X0_12 rfl dX0_windAt_45 (fun v12 => ?_)
    refine s_aload_n 1 dX0_windAt_48 rfl rfl ?_
    refine s_getR fk_X0_40 rfl dX0_windAt_49 (fun v13 => ?_)
    refine s_cV1I mk_X0_43 (by decide) rfl (fun v9 S9 h9 => con_X3_reckon F _ _ _ v9 S9 h9) ⟨by omega, by omega⟩ (Nat.le_of_ble_eq_true rfl) dX0_windAt_52 (fun v14 S15 => ?_)
    refine s_iconst (0 : Int32) dX0_windAt_55 (by decide) ?_
    refine s_bipush (99 : Int32) dX0_windAt_56 (by decide) ?_
    refine s_cSN3I mk_X0_47 (fun v9 S9 h9 => con_X8_clamped F _ _ _ _ v9 S9 h9) ⟨by omega, by omega⟩ (Nat.le_of_ble_eq_true rfl) dX0_windAt_58 (fun v16 S17 => ?_)
    exact s_iret dX0_windAt_61
  · refine s_bipush (20 : Int32) dX0_windAt_7 (by decide) ?_
    exact s_iret dX0_windAt_9
-- X5_pullOf
def f_X5_pullOf_94 (F : Nat) (y0 : Int32) (S : Mem) : Option (Int32 × Mem) :=
  some (y0, S)
def f_X5_pullOf_75 (F : Nat) (x4 : Int32) (x6 : Int32) (S : Mem) : Option (Int32 × Mem) :=
  if x4 = (3 : Int32) then
    f_X5_pullOf_94 F  (mxI (0 : Int32) (x6 - (3 : Int32))) S
  else
    f_X5_pullOf_94 F  x6 S
def f_X5_pullOf_43 (F : Nat)  (S : Mem) : Option (Int32 × Mem) :=
  some ((-1 : Int32), S)
def f_X5_pullOf_31 (F : Nat) (x0 : Nat) (x1 : Int32) (x2 : Int32) (x3 : Int32) (x4 : Int32) (y0 : Int32) (S : Mem) : Option (Int32 × Mem) :=
  if x2 ≤ 0 then
    f_X5_pullOf_43 F   S
  else
    if y0 ≤ x3 then
      (gR S 5 3 x0).bind fun v1 =>
      (gA S 10 v1 x1).bind fun v2 =>
      lt (((v2 * x3) / (10 : Int32))) fun v3 =>
      if x4 = (1 : Int32) then
        if x3 < (40 : Int32) then
          f_X5_pullOf_75 F x4 v3  S
        else
          some (((2 : Int32) * v3), S)
      else
        f_X5_pullOf_75 F x4 v3  S
    else
      f_X5_pullOf_43 F   S
def fn_X5_pullOf (F : Nat) (x0 : Nat) (x1 : Int32) (x2 : Int32) (x3 : Int32) (S : Mem) : Option (Int32 × Mem) :=
  (gR S 5 1 x0).bind fun v1 =>
  (gA S 10 v1 x1).bind fun v2 =>
  if v2 = (2 : Int32) then
    (gR S 5 4 x0).bind fun v5 =>
    (gA S 10 v5 x1).bind fun v6 =>
    f_X5_pullOf_31 F x0 x1 x2 x3 v2 (v6 / (2 : Int32)) S
  else
    (gR S 5 4 x0).bind fun v3 =>
    (gA S 10 v3 x1).bind fun v4 =>
    f_X5_pullOf_31 F x0 x1 x2 x3 v2 v4 S
set_option maxRecDepth 100000 in
theorem t_X5_pullOf_94 {Γ : Cx} {F : Nat} : ∀ (y0 : Int32) (S : Mem), Sim cX5_pullOf RX5 1 24 (some .int) false Γ rI (f_X5_pullOf_94 F y0 S) S 94 [none, none, none, none, none, none, none] [.int y0] := by
  intro y0 S
  unfold f_X5_pullOf_94
  exact s_iret dX5_pullOf_94
set_option maxRecDepth 100000 in
theorem t_X5_pullOf_75 {Γ : Cx} {F : Nat} : ∀ (x4 : Int32) (x6 : Int32) (S : Mem), Sim cX5_pullOf RX5 1 24 (some .int) false Γ rI (f_X5_pullOf_75 F x4 x6 S) S 75 [none, none, none, none, some (.int x4), none, some (.int x6)] [] := by
  intro x4 x6 S
  unfold f_X5_pullOf_75
  refine s_iload dX5_pullOf_75 rfl ?_
  refine s_iconst (3 : Int32) dX5_pullOf_77 (by decide) ?_
  refine s_icmp_ne 92 dX5_pullOf_78 (by decide) (fun _ => ?_) (fun _ => ?_)
  · refine s_iload dX5_pullOf_92 rfl ?_
    exact s_less (t_X5_pullOf_94  x6 S) trivial
  · refine s_iconst (0 : Int32) dX5_pullOf_81 (by decide) ?_
    refine s_iload dX5_pullOf_82 rfl ?_
    refine s_iconst (3 : Int32) dX5_pullOf_84 (by decide) ?_
    refine s_isub dX5_pullOf_85 ?_
    refine s_mmax mm_X5_49 mm_max_s mm_i mm_max_c ⟨by omega, by simp [Value.category] <;> omega⟩ dX5_pullOf_86 ?_
    refine s_goto 94 dX5_pullOf_89 (by decide) ?_
    exact s_less (t_X5_pullOf_94  (mxI (0 : Int32) (x6 - (3 : Int32))) S) trivial
set_option maxRecDepth 100000 in
theorem t_X5_pullOf_43 {Γ : Cx} {F : Nat} : ∀ (S : Mem), Sim cX5_pullOf RX5 1 24 (some .int) false Γ rI (f_X5_pullOf_43 F  S) S 43 [none, none, none, none, none, none, none] [] := by
  intro  S
  unfold f_X5_pullOf_43
  refine s_iconst (-1 : Int32) dX5_pullOf_43 (by decide) ?_
  exact s_iret dX5_pullOf_44
set_option maxRecDepth 100000 in
theorem t_X5_pullOf_31 {Γ : Cx} {F : Nat} : ∀ (x0 : Nat) (x1 : Int32) (x2 : Int32) (x3 : Int32) (x4 : Int32) (y0 : Int32) (S : Mem), Sim cX5_pullOf RX5 1 24 (some .int) false Γ rI (f_X5_pullOf_31 F x0 x1 x2 x3 x4 y0 S) S 31 [some (.ref x0), some (.int x1), some (.int x2), some (.int x3), some (.int x4), none, none] [.int y0] := by
  intro x0 x1 x2 x3 x4 y0 S
  unfold f_X5_pullOf_31
  refine s_istore_5 dX5_pullOf_31 rfl ?_
  refine s_iload_n 2 dX5_pullOf_33 rfl rfl ?_
  refine s_if_le 43 dX5_pullOf_34 (by decide) (fun _ => ?_) (fun _ => ?_)
  · exact s_less (t_X5_pullOf_43   S) trivial
  · refine s_iload_n 3 dX5_pullOf_37 rfl rfl ?_
    refine s_iload dX5_pullOf_38 rfl ?_
    refine s_icmp_ge 45 dX5_pullOf_40 (by decide) (fun _ => ?_) (fun _ => ?_)
    · refine s_aload_n 0 dX5_pullOf_45 rfl rfl ?_
      refine s_getR fk_X5_18 rfl dX5_pullOf_46 (fun v1 => ?_)
      refine s_iload_n 1 dX5_pullOf_49 rfl rfl ?_
      refine s_iald dX5_pullOf_50 (fun v2 => ?_)
      refine s_iload_n 3 dX5_pullOf_51 rfl rfl ?_
      refine s_imul dX5_pullOf_52 ?_
      refine s_bipush (10 : Int32) dX5_pullOf_53 (by decide) ?_
      refine s_idivc dX5_pullOf_55 (by decide) ?_
      refine s_ltI (fun v3 => ?_)
      refine s_istore_6 dX5_pullOf_56 rfl ?_
      refine s_iload dX5_pullOf_58 rfl ?_
      refine s_iconst (1 : Int32) dX5_pullOf_60 (by decide) ?_
      refine s_icmp_ne 75 dX5_pullOf_61 (by decide) (fun _ => ?_) (fun _ => ?_)
      · exact s_less (t_X5_pullOf_75 x4 v3  S) (And.intro rfl (And.intro rfl trivial))
      · refine s_iload_n 3 dX5_pullOf_64 rfl rfl ?_
        refine s_bipush (40 : Int32) dX5_pullOf_65 (by decide) ?_
        refine s_icmp_lt 75 dX5_pullOf_67 (by decide) (fun _ => ?_) (fun _ => ?_)
        · exact s_less (t_X5_pullOf_75 x4 v3  S) (And.intro rfl (And.intro rfl trivial))
        · refine s_iconst (2 : Int32) dX5_pullOf_70 (by decide) ?_
          refine s_iload dX5_pullOf_71 rfl ?_
          refine s_imul dX5_pullOf_73 ?_
          exact s_iret dX5_pullOf_74
    · exact s_less (t_X5_pullOf_43   S) trivial
set_option maxRecDepth 100000 in
theorem con_X5_pullOf {l : Launch} (F : Nat) (x0 : Nat) (x1 : Int32) (x2 : Int32) (x3 : Int32) (S : Mem) (v : Int32) (S1 : Mem) (h : fn_X5_pullOf F x0 x1 x2 x3 S = some (v, S1)) : Con l yX5_pullOf cX5_pullOf 7 (some .int) 1 24 [.ref x0, .int x1, .int x2, .int x3] S (rI v) S1 := by
  refine con_of (ι := rI) RX5 false [some (.ref x0), some (.int x1), some (.int x2), some (.int x3), none, none, none] rfl (fun h => by cases h) (by decide) (Nat.le_of_ble_eq_true rfl) ⟨rfl, rfl⟩ (fun Γ hl => ?_) h
  unfold fn_X5_pullOf
  refine s_aload_n 0 dX5_pullOf_0 rfl rfl ?_
  refine s_getR fk_X5_9 rfl dX5_pullOf_1 (fun v1 => ?_)
  refine s_iload_n 1 dX5_pullOf_4 rfl rfl ?_
  refine s_iald dX5_pullOf_5 (fun v2 => ?_)
  refine s_istore_4 dX5_pullOf_6 rfl ?_
  refine s_iload dX5_pullOf_8 rfl ?_
  refine s_iconst (2 : Int32) dX5_pullOf_10 (by decide) ?_
  refine s_icmp_ne 25 dX5_pullOf_11 (by decide) (fun _ => ?_) (fun _ => ?_)
  · refine s_aload_n 0 dX5_pullOf_25 rfl rfl ?_
    refine s_getR fk_X5_21 rfl dX5_pullOf_26 (fun v3 => ?_)
    refine s_iload_n 1 dX5_pullOf_29 rfl rfl ?_
    refine s_iald dX5_pullOf_30 (fun v4 => ?_)
    exact s_less (t_X5_pullOf_31 x0 x1 x2 x3 v2 v4 S) (And.intro rfl (And.intro rfl (And.intro rfl (And.intro rfl (And.intro rfl trivial)))))
  · refine s_aload_n 0 dX5_pullOf_14 rfl rfl ?_
    refine s_getR fk_X5_21 rfl dX5_pullOf_15 (fun v5 => ?_)
    refine s_iload_n 1 dX5_pullOf_18 rfl rfl ?_
    refine s_iald dX5_pullOf_19 (fun v6 => ?_)
    refine s_iconst (2 : Int32) dX5_pullOf_20 (by decide) ?_
    refine s_idivc dX5_pullOf_21 (by decide) ?_
    refine s_goto 31 dX5_pullOf_22 (by decide) ?_
    exact s_less (t_X5_pullOf_31 x0 x1 x2 x3 v2 (v6 / (2 : Int32)) S) (And.intro rfl (And.intro rfl (And.intro rfl (And.intro rfl (And.intro rfl trivial)))))
-- X0_feel
def f_X0_feel_131 (F : Nat) (k26 : Nat → Nat → Int32 → Mem → Option (Unit × Mem)) (x0 : Nat) (x1 : Nat) (x4 : Int32) (y0 : Nat) (y1 : Int32) (y2 : Int32) (S : Mem) : Option (Unit × Mem) :=
  (sI S 0 3 y0 (y1 ||| y2)).bind fun S1 =>
  k26 x0 x1 (x4 + (1 : Int32)) S1
def f_X0_feel_111 (F : Nat) (k26 : Nat → Nat → Int32 → Mem → Option (Unit × Mem)) (x0 : Nat) (x1 : Nat) (x4 : Int32) (x5 : Int32) (y0 : Nat) (y1 : Int32) (y2 : Int32) (S : Mem) : Option (Unit × Mem) :=
  (sA S y0 y1 y2).bind fun S1 =>
  (gI S1 0 3 x0).bind fun v2 =>
  if x5 = (-1 : Int32) then
    f_X0_feel_131 F k26 x0 x1 x4 x0 v2 ((1 : Int32) <<< (x4 &&& 31)) S1
  else
    f_X0_feel_131 F k26 x0 x1 x4 x0 v2 (0 : Int32) S1
def b_X0_feel_26 (F : Nat) (k26 : Nat → Nat → Int32 → Mem → Option (Unit × Mem)) (x0 : Nat) (x1 : Nat) (x4 : Int32) (S : Mem) : Option (Unit × Mem) :=
  (gR S 0 7 x0).bind fun v1 =>
  (gI S 5 0 v1).bind fun v2 =>
  if v2 ≤ x4 then
    some ((), S)
  else
    (gR S 0 1 x0).bind fun v3 =>
    (gR S 0 7 x0).bind fun v4 =>
    (gR S 2 4 x1).bind fun v5 =>
    (gA S 10 v5 x4).bind fun v6 =>
    (gI S 0 8 x0).bind fun v7 =>
    (gI S 0 9 x0).bind fun v8 =>
    bd (cal S 0 x0 (fn_X0_windAt F x0 v4 v6 v7 v8 S)) fun v9 S10 =>
    (sA S10 v3 x4 v9).bind fun S11 =>
    (gR S11 0 7 x0).bind fun v12 =>
    (gR S11 2 4 x1).bind fun v13 =>
    (gA S11 10 v13 x4).bind fun v14 =>
    (gR S11 0 1 x0).bind fun v15 =>
    (gA S11 10 v15 x4).bind fun v16 =>
    bd (cal S11 5 v12 (fn_X5_pullOf F v12 x4 v14 v16 S11)) fun v17 S18 =>
    (gR S18 0 2 x0).bind fun v19 =>
    if v17 = (-1 : Int32) then
      f_X0_feel_111 F k26 x0 x1 x4 v17 v19 x4 (0 : Int32) S18
    else
      f_X0_feel_111 F k26 x0 x1 x4 v17 v19 x4 v17 S18
def fn_X0_feel (F : Nat) (x0 : Nat) (x1 : Nat) (x2 : Int32) (x3 : Int32) (S : Mem) : Option (Unit × Mem) :=
  (gR S 2 0 x1).bind fun v1 =>
  (sR S 0 7 x0 v1).bind fun S2 =>
  (sI S2 0 8 x0 x2).bind fun S3 =>
  (sI S3 0 9 x0 x3).bind fun S4 =>
  (sI S4 0 3 x0 (0 : Int32)).bind fun S5 =>
  fix3 (b_X0_feel_26 F) F x0 x1 (0 : Int32) S5
set_option maxRecDepth 100000 in
theorem t_X0_feel_131 {Γ : Cx} {F : Nat} {k26 : Nat → Nat → Int32 → Mem → Option (Unit × Mem)} (hk26 : ∀ (x0 : Nat) (x1 : Nat) (x4 : Int32) (S : Mem), Sim cX0_feel RX0 3 70 none false Γ rV (k26 x0 x1 x4 S) S 26 [some (.ref x0), some (.ref x1), none, none, some (.int x4), none] []) : ∀ (x0 : Nat) (x1 : Nat) (x4 : Int32) (y0 : Nat) (y1 : Int32) (y2 : Int32) (S : Mem), Sim cX0_feel RX0 3 70 none false Γ rV (f_X0_feel_131 F k26 x0 x1 x4 y0 y1 y2 S) S 131 [some (.ref x0), some (.ref x1), none, none, some (.int x4), none] [.int y2, .int y1, .ref y0] := by
  intro x0 x1 x4 y0 y1 y2 S
  unfold f_X0_feel_131
  refine s_ior dX0_feel_131 ?_
  refine s_putI fk_X0_75 (Or.inl rfl) rfl dX0_feel_132 (fun S1 => ?_)
  refine s_iinc_4 (1 : Int32) dX0_feel_135 (by decide) rfl ?_
  refine s_goto 26 dX0_feel_138 (by decide) ?_
  exact s_less (hk26 x0 x1 (x4 + (1 : Int32)) S1) (And.intro rfl (And.intro rfl (And.intro rfl trivial)))
set_option maxRecDepth 100000 in
theorem t_X0_feel_111 {Γ : Cx} {F : Nat} {k26 : Nat → Nat → Int32 → Mem → Option (Unit × Mem)} (hk26 : ∀ (x0 : Nat) (x1 : Nat) (x4 : Int32) (S : Mem), Sim cX0_feel RX0 3 70 none false Γ rV (k26 x0 x1 x4 S) S 26 [some (.ref x0), some (.ref x1), none, none, some (.int x4), none] []) : ∀ (x0 : Nat) (x1 : Nat) (x4 : Int32) (x5 : Int32) (y0 : Nat) (y1 : Int32) (y2 : Int32) (S : Mem), Sim cX0_feel RX0 3 70 none false Γ rV (f_X0_feel_111 F k26 x0 x1 x4 x5 y0 y1 y2 S) S 111 [some (.ref x0), some (.ref x1), none, none, some (.int x4), some (.int x5)] [.int y2, .int y1, .ref y0] := by
  intro x0 x1 x4 x5 y0 y1 y2 S
  unfold f_X0_feel_111
  refine s_iast dX0_feel_111 (fun S1 => ?_)
  refine s_aload_n 0 dX0_feel_112 rfl rfl ?_
  refine s_dup dX0_feel_113 rfl ?_
  refine s_getI fk_X0_75 rfl dX0_feel_114 (fun v2 => ?_)
  refine s_iload dX0_feel_117 rfl ?_
  refine s_iconst (-1 : Int32) dX0_feel_119 (by decide) ?_
  refine s_icmp_ne 130 dX0_feel_120 (by decide) (fun _ => ?_) (fun _ => ?_)
  · refine s_iconst (0 : Int32) dX0_feel_130 (by decide) ?_
    exact s_less (t_X0_feel_131 hk26 x0 x1 x4 x0 v2 (0 : Int32) S1) (And.intro rfl (And.intro rfl (And.intro rfl trivial)))
  · refine s_iconst (1 : Int32) dX0_feel_123 (by decide) ?_
    refine s_iload dX0_feel_124 rfl ?_
    refine s_ishl dX0_feel_126 ?_
    refine s_goto 131 dX0_feel_127 (by decide) ?_
    exact s_less (t_X0_feel_131 hk26 x0 x1 x4 x0 v2 ((1 : Int32) <<< (x4 &&& 31)) S1) (And.intro rfl (And.intro rfl (And.intro rfl trivial)))
set_option maxRecDepth 100000 in
theorem t_X0_feel_26 {Γ : Cx} {F : Nat} : ∀ (f : Nat) (x0 : Nat) (x1 : Nat) (x4 : Int32) (S : Mem), Sim cX0_feel RX0 3 70 none false Γ rV (fix3 (b_X0_feel_26 F) f x0 x1 x4 S) S 26 [some (.ref x0), some (.ref x1), none, none, some (.int x4), none] [] := by
  refine s_fix3 (fun (x0 : Nat) (x1 : Nat) (x4 : Int32) => [some (.ref x0), some (.ref x1), none, none, some (.int x4), none]) (fun k26 hk26 => ?_)
  intro x0 x1 x4 S
  unfold b_X0_feel_26
  refine s_iload dX0_feel_26 rfl ?_
  refine s_aload_n 0 dX0_feel_28 rfl rfl ?_
  refine s_getR fk_X0_25 rfl dX0_feel_29 (fun v1 => ?_)
  refine s_getI fk_X0_78 rfl dX0_feel_32 (fun v2 => ?_)
  refine s_icmp_ge 141 dX0_feel_35 (by decide) (fun _ => ?_) (fun _ => ?_)
  · exact s_vret dX0_feel_141
  · refine s_aload_n 0 dX0_feel_38 rfl rfl ?_
    refine s_getR fk_X0_18 rfl dX0_feel_39 (fun v3 => ?_)
    refine s_iload dX0_feel_42 rfl ?_
    refine s_aload_n 0 dX0_feel_44 rfl rfl ?_
    refine s_aload_n 0 dX0_feel_45 rfl rfl ?_
    refine s_getR fk_X0_25 rfl dX0_feel_46 (fun v4 => ?_)
    refine s_aload_n 1 dX0_feel_49 rfl rfl ?_
    refine s_getR fk_X0_81 rfl dX0_feel_50 (fun v5 => ?_)
    refine s_iload dX0_feel_53 rfl ?_
    refine s_iald dX0_feel_55 (fun v6 => ?_)
    refine s_aload_n 0 dX0_feel_56 rfl rfl ?_
    refine s_getI fk_X0_69 rfl dX0_feel_57 (fun v7 => ?_)
    refine s_aload_n 0 dX0_feel_60 rfl rfl ?_
    refine s_getI fk_X0_72 rfl dX0_feel_61 (fun v8 => ?_)
    refine s_cV4I mk_X0_84 (by decide) rfl (fun v9 S9 h9 => con_X0_windAt F _ _ _ _ _ _ v9 S9 h9) ⟨by omega, by omega⟩ (Nat.le_of_ble_eq_true rfl) dX0_feel_64 (fun v9 S10 => ?_)
    refine s_iast dX0_feel_67 (fun S11 => ?_)
    refine s_aload_n 0 dX0_feel_68 rfl rfl ?_
    refine s_getR fk_X0_25 rfl dX0_feel_69 (fun v12 => ?_)
    refine s_iload dX0_feel_72 rfl ?_
    refine s_aload_n 1 dX0_feel_74 rfl rfl ?_
    refine s_getR fk_X0_81 rfl dX0_feel_75 (fun v13 => ?_)
    refine s_iload dX0_feel_78 rfl ?_
    refine s_iald dX0_feel_80 (fun v14 => ?_)
    refine s_aload_n 0 dX0_feel_81 rfl rfl ?_
    refine s_getR fk_X0_18 rfl dX0_feel_82 (fun v15 => ?_)
    refine s_iload dX0_feel_85 rfl ?_
    refine s_iald dX0_feel_87 (fun v16 => ?_)
    refine s_cV3I mk_X0_88 (by decide) rfl (fun v9 S9 h9 => con_X5_pullOf F _ _ _ _ _ v9 S9 h9) ⟨by omega, by omega⟩ (Nat.le_of_ble_eq_true rfl) dX0_feel_88 (fun v17 S18 => ?_)
    refine s_istore_5 dX0_feel_91 rfl ?_
    refine s_aload_n 0 dX0_feel_93 rfl rfl ?_
    refine s_getR fk_X0_22 rfl dX0_feel_94 (fun v19 => ?_)
    refine s_iload dX0_feel_97 rfl ?_
    refine s_iload dX0_feel_99 rfl ?_
    refine s_iconst (-1 : Int32) dX0_feel_101 (by decide) ?_
    refine s_icmp_ne 109 dX0_feel_102 (by decide) (fun _ => ?_) (fun _ => ?_)
    · refine s_iload dX0_feel_109 rfl ?_
      exact s_less (t_X0_feel_111 hk26 x0 x1 x4 v17 v19 x4 v17 S18) (And.intro rfl (And.intro rfl (And.intro rfl (And.intro rfl trivial))))
    · refine s_iconst (0 : Int32) dX0_feel_105 (by decide) ?_
      refine s_goto 111 dX0_feel_106 (by decide) ?_
      exact s_less (t_X0_feel_111 hk26 x0 x1 x4 v17 v19 x4 (0 : Int32) S18) (And.intro rfl (And.intro rfl (And.intro rfl (And.intro rfl trivial))))
set_option maxRecDepth 100000 in
theorem con_X0_feel {l : Launch} (F : Nat) (x0 : Nat) (x1 : Nat) (x2 : Int32) (x3 : Int32) (S : Mem) (v : Unit) (S1 : Mem) (h : fn_X0_feel F x0 x1 x2 x3 S = some (v, S1)) : Con l yX0_feel cX0_feel 6 none 3 70 [.ref x0, .ref x1, .int x2, .int x3] S (rV v) S1 := by
  refine con_of (ι := rV) RX0 false [some (.ref x0), some (.ref x1), some (.int x2), some (.int x3), none, none] rfl (fun h => by cases h) (by decide) (Nat.le_of_ble_eq_true rfl) ⟨rfl, rfl⟩ (fun Γ hl => ?_) h
  unfold fn_X0_feel
  refine s_aload_n 0 dX0_feel_0 rfl rfl ?_
  refine s_aload_n 1 dX0_feel_1 rfl rfl ?_
  refine s_getR fk_X0_68 rfl dX0_feel_2 (fun v1 => ?_)
  refine s_putR fk_X0_25 (Or.inl rfl) rfl dX0_feel_5 (fun S2 => ?_)
  refine s_aload_n 0 dX0_feel_8 rfl rfl ?_
  refine s_iload_n 2 dX0_feel_9 rfl rfl ?_
  refine s_putI fk_X0_69 (Or.inl rfl) rfl dX0_feel_10 (fun S3 => ?_)
  refine s_aload_n 0 dX0_feel_13 rfl rfl ?_
  refine s_iload_n 3 dX0_feel_14 rfl rfl ?_
  refine s_putI fk_X0_72 (Or.inl rfl) rfl dX0_feel_15 (fun S4 => ?_)
  refine s_aload_n 0 dX0_feel_18 rfl rfl ?_
  refine s_iconst (0 : Int32) dX0_feel_19 (by decide) ?_
  refine s_putI fk_X0_75 (Or.inl rfl) rfl dX0_feel_20 (fun S5 => ?_)
  refine s_iconst (0 : Int32) dX0_feel_23 (by decide) ?_
  refine s_istore_4 dX0_feel_24 rfl ?_
  exact s_less (t_X0_feel_26 F x0 x1 (0 : Int32) S5) (And.intro rfl (And.intro rfl (And.intro rfl trivial)))
-- X0_pullFrom
def f_X0_pullFrom_50 (F : Nat) (k6 : Nat → Nat → Int32 → Int32 → Int32 → Int32 → Mem → Option (Int32 × Mem)) (x0 : Nat) (x1 : Nat) (x2 : Int32) (x3 : Int32) (x4 : Int32) (x5 : Int32) (S : Mem) : Option (Int32 × Mem) :=
  k6 x0 x1 x2 x3 x4 (x5 + (1 : Int32)) S
def b_X0_pullFrom_6 (F : Nat) (k6 : Nat → Nat → Int32 → Int32 → Int32 → Int32 → Mem → Option (Int32 × Mem)) (x0 : Nat) (x1 : Nat) (x2 : Int32) (x3 : Int32) (x4 : Int32) (x5 : Int32) (S : Mem) : Option (Int32 × Mem) :=
  (gR S 0 7 x0).bind fun v1 =>
  (gI S 5 0 v1).bind fun v2 =>
  if v2 ≤ x5 then
    some (x4, S)
  else
    if ((x3 >>> (x5 &&& 31)) &&& (1 : Int32)) = 0 then
      (gR S 2 4 x1).bind fun v3 =>
      (gA S 10 v3 x5).bind fun v4 =>
      if v4 < x2 then
        f_X0_pullFrom_50 F k6 x0 x1 x2 x3 x4 x5  S
      else
        (gR S 0 2 x0).bind fun v5 =>
        (gA S 10 v5 x5).bind fun v6 =>
        lt ((x4 + v6)) fun v7 =>
        f_X0_pullFrom_50 F k6 x0 x1 x2 x3 v7 x5  S
    else
      f_X0_pullFrom_50 F k6 x0 x1 x2 x3 x4 x5  S
def fn_X0_pullFrom (F : Nat) (x0 : Nat) (x1 : Nat) (x2 : Int32) (x3 : Int32) (S : Mem) : Option (Int32 × Mem) :=
  fix6 (b_X0_pullFrom_6 F) F x0 x1 x2 x3 (0 : Int32) (0 : Int32) S
set_option maxRecDepth 100000 in
theorem t_X0_pullFrom_50 {Γ : Cx} {F : Nat} {k6 : Nat → Nat → Int32 → Int32 → Int32 → Int32 → Mem → Option (Int32 × Mem)} (hk6 : ∀ (x0 : Nat) (x1 : Nat) (x2 : Int32) (x3 : Int32) (x4 : Int32) (x5 : Int32) (S : Mem), Sim cX0_pullFrom RX0 0 0 (some .int) false Γ rI (k6 x0 x1 x2 x3 x4 x5 S) S 6 [some (.ref x0), some (.ref x1), some (.int x2), some (.int x3), some (.int x4), some (.int x5)] []) : ∀ (x0 : Nat) (x1 : Nat) (x2 : Int32) (x3 : Int32) (x4 : Int32) (x5 : Int32) (S : Mem), Sim cX0_pullFrom RX0 0 0 (some .int) false Γ rI (f_X0_pullFrom_50 F k6 x0 x1 x2 x3 x4 x5 S) S 50 [some (.ref x0), some (.ref x1), some (.int x2), some (.int x3), some (.int x4), some (.int x5)] [] := by
  intro x0 x1 x2 x3 x4 x5 S
  unfold f_X0_pullFrom_50
  refine s_iinc_5 (1 : Int32) dX0_pullFrom_50 (by decide) rfl ?_
  refine s_goto 6 dX0_pullFrom_53 (by decide) ?_
  exact s_less (hk6 x0 x1 x2 x3 x4 (x5 + (1 : Int32)) S) (And.intro rfl (And.intro rfl (And.intro rfl (And.intro rfl (And.intro rfl (And.intro rfl trivial))))))
set_option maxRecDepth 100000 in
theorem t_X0_pullFrom_6 {Γ : Cx} {F : Nat} : ∀ (f : Nat) (x0 : Nat) (x1 : Nat) (x2 : Int32) (x3 : Int32) (x4 : Int32) (x5 : Int32) (S : Mem), Sim cX0_pullFrom RX0 0 0 (some .int) false Γ rI (fix6 (b_X0_pullFrom_6 F) f x0 x1 x2 x3 x4 x5 S) S 6 [some (.ref x0), some (.ref x1), some (.int x2), some (.int x3), some (.int x4), some (.int x5)] [] := by
  refine s_fix6 (fun (x0 : Nat) (x1 : Nat) (x2 : Int32) (x3 : Int32) (x4 : Int32) (x5 : Int32) => [some (.ref x0), some (.ref x1), some (.int x2), some (.int x3), some (.int x4), some (.int x5)]) (fun k6 hk6 => ?_)
  intro x0 x1 x2 x3 x4 x5 S
  unfold b_X0_pullFrom_6
  refine s_iload dX0_pullFrom_6 rfl ?_
  refine s_aload_n 0 dX0_pullFrom_8 rfl rfl ?_
  refine s_getR fk_X0_25 rfl dX0_pullFrom_9 (fun v1 => ?_)
  refine s_getI fk_X0_78 rfl dX0_pullFrom_12 (fun v2 => ?_)
  refine s_icmp_ge 56 dX0_pullFrom_15 (by decide) (fun _ => ?_) (fun _ => ?_)
  · refine s_iload dX0_pullFrom_56 rfl ?_
    exact s_iret dX0_pullFrom_58
  · refine s_iload_n 3 dX0_pullFrom_18 rfl rfl ?_
    refine s_iload dX0_pullFrom_19 rfl ?_
    refine s_ishr dX0_pullFrom_21 ?_
    refine s_iconst (1 : Int32) dX0_pullFrom_22 (by decide) ?_
    refine s_iand dX0_pullFrom_23 ?_
    refine s_if_ne 50 dX0_pullFrom_24 (by decide) (fun _ => ?_) (fun _ => ?_)
    · exact s_less (t_X0_pullFrom_50 hk6 x0 x1 x2 x3 x4 x5  S) (And.intro rfl (And.intro rfl (And.intro rfl (And.intro rfl (And.intro rfl (And.intro rfl trivial))))))
    · refine s_aload_n 1 dX0_pullFrom_27 rfl rfl ?_
      refine s_getR fk_X0_81 rfl dX0_pullFrom_28 (fun v3 => ?_)
      refine s_iload dX0_pullFrom_31 rfl ?_
      refine s_iald dX0_pullFrom_33 (fun v4 => ?_)
      refine s_iload_n 2 dX0_pullFrom_34 rfl rfl ?_
      refine s_icmp_lt 50 dX0_pullFrom_35 (by decide) (fun _ => ?_) (fun _ => ?_)
      · exact s_less (t_X0_pullFrom_50 hk6 x0 x1 x2 x3 x4 x5  S) (And.intro rfl (And.intro rfl (And.intro rfl (And.intro rfl (And.intro rfl (And.intro rfl trivial))))))
      · refine s_iload dX0_pullFrom_38 rfl ?_
        refine s_aload_n 0 dX0_pullFrom_40 rfl rfl ?_
        refine s_getR fk_X0_22 rfl dX0_pullFrom_41 (fun v5 => ?_)
        refine s_iload dX0_pullFrom_44 rfl ?_
        refine s_iald dX0_pullFrom_46 (fun v6 => ?_)
        refine s_iadd dX0_pullFrom_47 ?_
        refine s_ltI (fun v7 => ?_)
        refine s_istore_4 dX0_pullFrom_48 rfl ?_
        exact s_less (t_X0_pullFrom_50 hk6 x0 x1 x2 x3 v7 x5  S) (And.intro rfl (And.intro rfl (And.intro rfl (And.intro rfl (And.intro rfl (And.intro rfl trivial))))))
set_option maxRecDepth 100000 in
theorem con_X0_pullFrom {l : Launch} (F : Nat) (x0 : Nat) (x1 : Nat) (x2 : Int32) (x3 : Int32) (S : Mem) (v : Int32) (S1 : Mem) (h : fn_X0_pullFrom F x0 x1 x2 x3 S = some (v, S1)) : Con l yX0_pullFrom cX0_pullFrom 6 (some .int) 0 0 [.ref x0, .ref x1, .int x2, .int x3] S (rI v) S1 := by
  refine con_of (ι := rI) RX0 false [some (.ref x0), some (.ref x1), some (.int x2), some (.int x3), none, none] rfl (fun h => by cases h) (by decide) (Nat.le_of_ble_eq_true rfl) ⟨rfl, rfl⟩ (fun Γ hl => ?_) h
  unfold fn_X0_pullFrom
  refine s_iconst (0 : Int32) dX0_pullFrom_0 (by decide) ?_
  refine s_istore_4 dX0_pullFrom_1 rfl ?_
  refine s_iconst (0 : Int32) dX0_pullFrom_3 (by decide) ?_
  refine s_istore_5 dX0_pullFrom_4 rfl ?_
  exact s_less (t_X0_pullFrom_6 F x0 x1 x2 x3 (0 : Int32) (0 : Int32) S) (And.intro rfl (And.intro rfl (And.intro rfl (And.intro rfl (And.intro rfl (And.intro rfl trivial))))))
-- X0_rawHeight
def f_X0_rawHeight_75 (F : Nat) (k18 : Nat → Nat → Int32 → Int32 → Int32 → Mem → Option (Int32 × Mem)) (x0 : Nat) (x1 : Nat) (x2 : Int32) (x3 : Int32) (x4 : Int32) (S : Mem) : Option (Int32 × Mem) :=
  k18 x0 x1 x2 x3 (x4 + (1 : Int32)) S
def b_X0_rawHeight_18 (F : Nat) (k18 : Nat → Nat → Int32 → Int32 → Int32 → Mem → Option (Int32 × Mem)) (x0 : Nat) (x1 : Nat) (x2 : Int32) (x3 : Int32) (x4 : Int32) (S : Mem) : Option (Int32 × Mem) :=
  (gR S 0 7 x0).bind fun v1 =>
  (gI S 5 0 v1).bind fun v2 =>
  if v2 ≤ x4 then
    some (x3, S)
  else
    (gR S 2 4 x1).bind fun v3 =>
    (gA S 10 v3 x4).bind fun v4 =>
    if v4 ≤ x3 then
      f_X0_rawHeight_75 F k18 x0 x1 x2 x3 x4  S
    else
      if ((x2 >>> (x4 &&& 31)) &&& (1 : Int32)) = 0 then
        bd (cal S 0 x0 (fn_X0_pullFrom F x0 x1 v4 x2 S)) fun v5 S6 =>
        (gR S6 0 7 x0).bind fun v7 =>
        (gI S6 5 6 v7).bind fun v8 =>
        if v5 < v8 then
          f_X0_rawHeight_75 F k18 x0 x1 x2 x3 x4  S6
        else
          f_X0_rawHeight_75 F k18 x0 x1 x2 v4 x4  S6
      else
        f_X0_rawHeight_75 F k18 x0 x1 x2 x3 x4  S
def fn_X0_rawHeight (F : Nat) (x0 : Nat) (x1 : Nat) (x2 : Int32) (S : Mem) : Option (Int32 × Mem) :=
  (gR S 0 7 x0).bind fun v1 =>
  (gI S 5 6 v1).bind fun v2 =>
  if 0 < v2 then
    fix5 (b_X0_rawHeight_18 F) F x0 x1 x2 (0 : Int32) (0 : Int32) S
  else
    some ((40 : Int32), S)
set_option maxRecDepth 100000 in
theorem t_X0_rawHeight_75 {Γ : Cx} {F : Nat} {k18 : Nat → Nat → Int32 → Int32 → Int32 → Mem → Option (Int32 × Mem)} (hk18 : ∀ (x0 : Nat) (x1 : Nat) (x2 : Int32) (x3 : Int32) (x4 : Int32) (S : Mem), Sim cX0_rawHeight RX0 1 25 (some .int) false Γ rI (k18 x0 x1 x2 x3 x4 S) S 18 [some (.ref x0), some (.ref x1), some (.int x2), some (.int x3), some (.int x4), none] []) : ∀ (x0 : Nat) (x1 : Nat) (x2 : Int32) (x3 : Int32) (x4 : Int32) (S : Mem), Sim cX0_rawHeight RX0 1 25 (some .int) false Γ rI (f_X0_rawHeight_75 F k18 x0 x1 x2 x3 x4 S) S 75 [some (.ref x0), some (.ref x1), some (.int x2), some (.int x3), some (.int x4), none] [] := by
  intro x0 x1 x2 x3 x4 S
  unfold f_X0_rawHeight_75
  refine s_iinc_4 (1 : Int32) dX0_rawHeight_75 (by decide) rfl ?_
  refine s_goto 18 dX0_rawHeight_78 (by decide) ?_
  exact s_less (hk18 x0 x1 x2 x3 (x4 + (1 : Int32)) S) (And.intro rfl (And.intro rfl (And.intro rfl (And.intro rfl (And.intro rfl trivial)))))
set_option maxRecDepth 100000 in
theorem t_X0_rawHeight_18 {Γ : Cx} {F : Nat} : ∀ (f : Nat) (x0 : Nat) (x1 : Nat) (x2 : Int32) (x3 : Int32) (x4 : Int32) (S : Mem), Sim cX0_rawHeight RX0 1 25 (some .int) false Γ rI (fix5 (b_X0_rawHeight_18 F) f x0 x1 x2 x3 x4 S) S 18 [some (.ref x0), some (.ref x1), some (.int x2), some (.int x3), some (.int x4), none] [] := by
  refine s_fix5 (fun (x0 : Nat) (x1 : Nat) (x2 : Int32) (x3 : Int32) (x4 : Int32) => [some (.ref x0), some (.ref x1), some (.int x2), some (.int x3), some (.int x4), none]) (fun k18 hk18 => ?_)
  intro x0 x1 x2 x3 x4 S
  unfold b_X0_rawHeight_18
  refine s_iload dX0_rawHeight_18 rfl ?_
  refine s_aload_n 0 dX0_rawHeight_20 rfl rfl ?_
  refine s_getR fk_X0_25 rfl dX0_rawHeight_21 (fun v1 => ?_)
  refine s_getI fk_X0_78 rfl dX0_rawHeight_24 (fun v2 => ?_)
  refine s_icmp_ge 81 dX0_rawHeight_27 (by decide) (fun _ => ?_) (fun _ => ?_)
  · refine s_iload_n 3 dX0_rawHeight_81 rfl rfl ?_
    exact s_iret dX0_rawHeight_82
  · refine s_aload_n 1 dX0_rawHeight_30 rfl rfl ?_
    refine s_getR fk_X0_81 rfl dX0_rawHeight_31 (fun v3 => ?_)
    refine s_iload dX0_rawHeight_34 rfl ?_
    refine s_iald dX0_rawHeight_36 (fun v4 => ?_)
    refine s_istore_5 dX0_rawHeight_37 rfl ?_
    refine s_iload dX0_rawHeight_39 rfl ?_
    refine s_iload_n 3 dX0_rawHeight_41 rfl rfl ?_
    refine s_icmp_le 75 dX0_rawHeight_42 (by decide) (fun _ => ?_) (fun _ => ?_)
    · exact s_less (t_X0_rawHeight_75 hk18 x0 x1 x2 x3 x4  S) (And.intro rfl (And.intro rfl (And.intro rfl (And.intro rfl (And.intro rfl trivial)))))
    · refine s_iload_n 2 dX0_rawHeight_45 rfl rfl ?_
      refine s_iload dX0_rawHeight_46 rfl ?_
      refine s_ishr dX0_rawHeight_48 ?_
      refine s_iconst (1 : Int32) dX0_rawHeight_49 (by decide) ?_
      refine s_iand dX0_rawHeight_50 ?_
      refine s_if_ne 75 dX0_rawHeight_51 (by decide) (fun _ => ?_) (fun _ => ?_)
      · exact s_less (t_X0_rawHeight_75 hk18 x0 x1 x2 x3 x4  S) (And.intro rfl (And.intro rfl (And.intro rfl (And.intro rfl (And.intro rfl trivial)))))
      · refine s_aload_n 0 dX0_rawHeight_54 rfl rfl ?_
        refine s_aload_n 1 dX0_rawHeight_55 rfl rfl ?_
        refine s_iload dX0_rawHeight_56 rfl ?_
        refine s_iload_n 2 dX0_rawHeight_58 rfl rfl ?_
        refine s_cV3I mk_X0_125 (by decide) rfl (fun v9 S9 h9 => con_X0_pullFrom F _ _ _ _ _ v9 S9 h9) ⟨by omega, by omega⟩ (Nat.le_of_ble_eq_true rfl) dX0_rawHeight_59 (fun v5 S6 => ?_)
        refine s_aload_n 0 dX0_rawHeight_62 rfl rfl ?_
        refine s_getR fk_X0_25 rfl dX0_rawHeight_63 (fun v7 => ?_)
        refine s_getI fk_X0_122 rfl dX0_rawHeight_66 (fun v8 => ?_)
        refine s_icmp_lt 75 dX0_rawHeight_69 (by decide) (fun _ => ?_) (fun _ => ?_)
        · exact s_less (t_X0_rawHeight_75 hk18 x0 x1 x2 x3 x4  S6) (And.intro rfl (And.intro rfl (And.intro rfl (And.intro rfl (And.intro rfl trivial)))))
        · refine s_iload dX0_rawHeight_72 rfl ?_
          refine s_istore_3 dX0_rawHeight_74 rfl ?_
          exact s_less (t_X0_rawHeight_75 hk18 x0 x1 x2 v4 x4  S6) (And.intro rfl (And.intro rfl (And.intro rfl (And.intro rfl (And.intro rfl trivial)))))
set_option maxRecDepth 100000 in
theorem con_X0_rawHeight {l : Launch} (F : Nat) (x0 : Nat) (x1 : Nat) (x2 : Int32) (S : Mem) (v : Int32) (S1 : Mem) (h : fn_X0_rawHeight F x0 x1 x2 S = some (v, S1)) : Con l yX0_rawHeight cX0_rawHeight 6 (some .int) 1 25 [.ref x0, .ref x1, .int x2] S (rI v) S1 := by
  refine con_of (ι := rI) RX0 false [some (.ref x0), some (.ref x1), some (.int x2), none, none, none] rfl (fun h => by cases h) (by decide) (Nat.le_of_ble_eq_true rfl) ⟨rfl, rfl⟩ (fun Γ hl => ?_) h
  unfold fn_X0_rawHeight
  refine s_aload_n 0 dX0_rawHeight_0 rfl rfl ?_
  refine s_getR fk_X0_25 rfl dX0_rawHeight_1 (fun v1 => ?_)
  refine s_getI fk_X0_122 rfl dX0_rawHeight_4 (fun v2 => ?_)
  refine s_if_gt 13 dX0_rawHeight_7 (by decide) (fun _ => ?_) (fun _ => ?_)
  · refine s_iconst (0 : Int32) dX0_rawHeight_13 (by decide) ?_
    refine s_istore_3 dX0_rawHeight_14 rfl ?_
    refine s_iconst (0 : Int32) dX0_rawHeight_15 (by decide) ?_
    refine s_istore_4 dX0_rawHeight_16 rfl ?_
    exact s_less (t_X0_rawHeight_18 F x0 x1 x2 (0 : Int32) (0 : Int32) S) (And.intro rfl (And.intro rfl (And.intro rfl (And.intro rfl (And.intro rfl trivial)))))
  · refine s_bipush (40 : Int32) dX0_rawHeight_10 (by decide) ?_
    exact s_iret dX0_rawHeight_12
-- J6_bitCount_0f7a4
def fn_J6_bitCount_0f7a4 (F : Nat) (x0 : Int32) (S : Mem) : Option (Int32 × Mem) :=
  lt ((x0 - (((x0).toUInt32 >>> (((1 : Int32)).toUInt32 &&& Int32.toUInt32 31)).toInt32 &&& (1431655765 : Int32)))) fun v1 =>
  lt (((v1 &&& (858993459 : Int32)) + (((v1).toUInt32 >>> (((2 : Int32)).toUInt32 &&& Int32.toUInt32 31)).toInt32 &&& (858993459 : Int32)))) fun v2 =>
  lt (((v2 + ((v2).toUInt32 >>> (((4 : Int32)).toUInt32 &&& Int32.toUInt32 31)).toInt32) &&& (252645135 : Int32))) fun v3 =>
  lt ((v3 + ((v3).toUInt32 >>> (((8 : Int32)).toUInt32 &&& Int32.toUInt32 31)).toInt32)) fun v4 =>
  lt ((v4 + ((v4).toUInt32 >>> (((16 : Int32)).toUInt32 &&& Int32.toUInt32 31)).toInt32)) fun v5 =>
  some ((v5 &&& (63 : Int32)), S)
set_option maxRecDepth 100000 in
theorem con_J6_bitCount_0f7a4 {l : Launch} (F : Nat) (x0 : Int32) (S : Mem) (v : Int32) (S1 : Mem) (h : fn_J6_bitCount_0f7a4 F x0 S = some (v, S1)) : Con l yJ6_bitCount_0f7a4 cJ6_bitCount_0f7a4 1 (some .int) 0 0 [.int x0] S (rI v) S1 := by
  refine con_of (ι := rI) RJ6 false [some (.int x0)] rfl (fun h => by cases h) (by decide) (Nat.le_of_ble_eq_true rfl) ⟨rfl, rfl⟩ (fun Γ hl => ?_) h
  unfold fn_J6_bitCount_0f7a4
  refine s_iload_n 0 dJ6_bitCount_0f7a4_0 rfl rfl ?_
  refine s_iload_n 0 dJ6_bitCount_0f7a4_1 rfl rfl ?_
  refine s_iconst (1 : Int32) dJ6_bitCount_0f7a4_2 (by decide) ?_
  refine s_iushr dJ6_bitCount_0f7a4_3 ?_
  refine s_ldcw (v := (1431655765 : Int32)) dJ6_bitCount_0f7a4_4 (lw_in 729 (by decide +kernel) (by decide +kernel)) ?_
  refine s_iand dJ6_bitCount_0f7a4_7 ?_
  refine s_isub dJ6_bitCount_0f7a4_8 ?_
  refine s_ltI (fun v1 => ?_)
  refine s_istore_0 dJ6_bitCount_0f7a4_9 ?_
  refine s_iload_n 0 dJ6_bitCount_0f7a4_10 rfl rfl ?_
  refine s_ldcw (v := (858993459 : Int32)) dJ6_bitCount_0f7a4_11 (lw_in 730 (by decide +kernel) (by decide +kernel)) ?_
  refine s_iand dJ6_bitCount_0f7a4_14 ?_
  refine s_iload_n 0 dJ6_bitCount_0f7a4_15 rfl rfl ?_
  refine s_iconst (2 : Int32) dJ6_bitCount_0f7a4_16 (by decide) ?_
  refine s_iushr dJ6_bitCount_0f7a4_17 ?_
  refine s_ldcw (v := (858993459 : Int32)) dJ6_bitCount_0f7a4_18 (lw_in 730 (by decide +kernel) (by decide +kernel)) ?_
  refine s_iand dJ6_bitCount_0f7a4_21 ?_
  refine s_iadd dJ6_bitCount_0f7a4_22 ?_
  refine s_ltI (fun v2 => ?_)
  refine s_istore_0 dJ6_bitCount_0f7a4_23 ?_
  refine s_iload_n 0 dJ6_bitCount_0f7a4_24 rfl rfl ?_
  refine s_iload_n 0 dJ6_bitCount_0f7a4_25 rfl rfl ?_
  refine s_iconst (4 : Int32) dJ6_bitCount_0f7a4_26 (by decide) ?_
  refine s_iushr dJ6_bitCount_0f7a4_27 ?_
  refine s_iadd dJ6_bitCount_0f7a4_28 ?_
  refine s_ldcw (v := (252645135 : Int32)) dJ6_bitCount_0f7a4_29 (lw_in 731 (by decide +kernel) (by decide +kernel)) ?_
  refine s_iand dJ6_bitCount_0f7a4_32 ?_
  refine s_ltI (fun v3 => ?_)
  refine s_istore_0 dJ6_bitCount_0f7a4_33 ?_
  refine s_iload_n 0 dJ6_bitCount_0f7a4_34 rfl rfl ?_
  refine s_iload_n 0 dJ6_bitCount_0f7a4_35 rfl rfl ?_
  refine s_bipush (8 : Int32) dJ6_bitCount_0f7a4_36 (by decide) ?_
  refine s_iushr dJ6_bitCount_0f7a4_38 ?_
  refine s_iadd dJ6_bitCount_0f7a4_39 ?_
  refine s_ltI (fun v4 => ?_)
  refine s_istore_0 dJ6_bitCount_0f7a4_40 ?_
  refine s_iload_n 0 dJ6_bitCount_0f7a4_41 rfl rfl ?_
  refine s_iload_n 0 dJ6_bitCount_0f7a4_42 rfl rfl ?_
  refine s_bipush (16 : Int32) dJ6_bitCount_0f7a4_43 (by decide) ?_
  refine s_iushr dJ6_bitCount_0f7a4_45 ?_
  refine s_iadd dJ6_bitCount_0f7a4_46 ?_
  refine s_ltI (fun v5 => ?_)
  refine s_istore_0 dJ6_bitCount_0f7a4_47 ?_
  refine s_iload_n 0 dJ6_bitCount_0f7a4_48 rfl rfl ?_
  refine s_bipush (63 : Int32) dJ6_bitCount_0f7a4_49 (by decide) ?_
  refine s_iand dJ6_bitCount_0f7a4_51 ?_
  exact s_iret dJ6_bitCount_0f7a4_52
-- X0_hang
def fn_X0_hang (F : Nat) (x0 : Nat) (x1 : Nat) (x2 : Int32) (S : Mem) : Option (Unit × Mem) :=
  bd (cal S 0 x0 (fn_X0_rawHeight F x0 x1 x2 S)) fun v1 S2 =>
  (sI S2 0 4 x0 v1).bind fun S3 =>
  (gI S3 0 4 x0).bind fun v4 =>
  (gI S3 0 3 x0).bind fun v5 =>
  bd ((fn_J6_bitCount_0f7a4 F (v5 &&& (x2 ^^^ (-1 : Int32))) S3)) fun v6 S7 =>
  (sI S7 0 5 x0 (mxI (0 : Int32) (v4 - v6))).bind fun S8 =>
  some ((), S8)
set_option maxRecDepth 100000 in
theorem con_X0_hang {l : Launch} (F : Nat) (x0 : Nat) (x1 : Nat) (x2 : Int32) (S : Mem) (v : Unit) (S1 : Mem) (h : fn_X0_hang F x0 x1 x2 S = some (v, S1)) : Con l yX0_hang cX0_hang 3 none 2 50 [.ref x0, .ref x1, .int x2] S (rV v) S1 := by
  refine con_of (ι := rV) RX0 false [some (.ref x0), some (.ref x1), some (.int x2)] rfl (fun h => by cases h) (by decide) (Nat.le_of_ble_eq_true rfl) ⟨rfl, rfl⟩ (fun Γ hl => ?_) h
  unfold fn_X0_hang
  refine s_aload_n 0 dX0_hang_0 rfl rfl ?_
  refine s_aload_n 0 dX0_hang_1 rfl rfl ?_
  refine s_aload_n 1 dX0_hang_2 rfl rfl ?_
  refine s_iload_n 2 dX0_hang_3 rfl rfl ?_
  refine s_cV2I mk_X0_91 (by decide) rfl (fun v9 S9 h9 => con_X0_rawHeight F _ _ _ _ v9 S9 h9) ⟨by omega, by omega⟩ (Nat.le_of_ble_eq_true rfl) dX0_hang_4 (fun v1 S2 => ?_)
  refine s_putI fk_X0_95 (Or.inl rfl) rfl dX0_hang_7 (fun S3 => ?_)
  refine s_aload_n 0 dX0_hang_10 rfl rfl ?_
  refine s_iconst (0 : Int32) dX0_hang_11 (by decide) ?_
  refine s_aload_n 0 dX0_hang_12 rfl rfl ?_
  refine s_getI fk_X0_95 rfl dX0_hang_13 (fun v4 => ?_)
  refine s_aload_n 0 dX0_hang_16 rfl rfl ?_
  refine s_getI fk_X0_75 rfl dX0_hang_17 (fun v5 => ?_)
  refine s_iload_n 2 dX0_hang_20 rfl rfl ?_
  refine s_iconst (-1 : Int32) dX0_hang_21 (by decide) ?_
  refine s_ixor dX0_hang_22 ?_
  refine s_iand dX0_hang_23 ?_
  refine s_cS1I mk_X0_98 (fun v9 S9 h9 => con_J6_bitCount_0f7a4 F _ _ v9 S9 h9) ⟨by omega, by omega⟩ (Nat.le_of_ble_eq_true rfl) dX0_hang_24 (fun v6 S7 => ?_)
  refine s_isub dX0_hang_27 ?_
  refine s_mmax mm_X0_104 mm_max_s mm_i mm_max_c ⟨by omega, by simp [Value.category] <;> omega⟩ dX0_hang_28 ?_
  refine s_putI fk_X0_110 (Or.inl rfl) rfl dX0_hang_31 (fun S8 => ?_)
  exact s_vret dX0_hang_34
-- X0_lean
def f_X0_lean_95 (F : Nat) (x0 : Nat) (y0 : Nat) (y1 : Int32) (S : Mem) : Option (Unit × Mem) :=
  (gR S 0 7 x0).bind fun v1 =>
  (gI S 0 5 x0).bind fun v2 =>
  (gI S 0 8 x0).bind fun v3 =>
  (gI S 0 9 x0).bind fun v4 =>
  bd (cal S 0 x0 (fn_X0_windAt F x0 v1 v2 v3 v4 S)) fun v5 S6 =>
  (sI S6 0 6 y0 (y1 + (v5 / (5 : Int32)))).bind fun S7 =>
  some ((), S7)
def f_X0_lean_76 (F : Nat) (k8 : Nat → Nat → Int32 → Int32 → Int32 → Int32 → Mem → Option (Unit × Mem)) (x0 : Nat) (x1 : Nat) (x2 : Int32) (x3 : Int32) (x4 : Int32) (x5 : Int32) (S : Mem) : Option (Unit × Mem) :=
  k8 x0 x1 x2 x3 x4 (x5 + (1 : Int32)) S
def b_X0_lean_8 (F : Nat) (k8 : Nat → Nat → Int32 → Int32 → Int32 → Int32 → Mem → Option (Unit × Mem)) (x0 : Nat) (x1 : Nat) (x2 : Int32) (x3 : Int32) (x4 : Int32) (x5 : Int32) (S : Mem) : Option (Unit × Mem) :=
  (gR S 0 7 x0).bind fun v1 =>
  (gI S 5 0 v1).bind fun v2 =>
  if v2 ≤ x5 then
    if x3 ≤ 0 then
      f_X0_lean_95 F x0 x0 (0 : Int32) S
    else
      nz x3 (
      f_X0_lean_95 F x0 x0 (x4 / x3) S)
  else
    if ((x2 >>> (x5 &&& 31)) &&& (1 : Int32)) = 0 then
      (gR S 2 4 x1).bind fun v3 =>
      (gA S 10 v3 x5).bind fun v4 =>
      (gI S 0 4 x0).bind fun v5 =>
      if v4 < v5 then
        f_X0_lean_76 F k8 x0 x1 x2 x3 x4 x5  S
      else
        (gR S 0 2 x0).bind fun v6 =>
        (gA S 10 v6 x5).bind fun v7 =>
        lt ((x3 + v7)) fun v8 =>
        (gR S 0 2 x0).bind fun v9 =>
        (gA S 10 v9 x5).bind fun v10 =>
        (gR S 0 7 x0).bind fun v11 =>
        (gR S 5 2 v11).bind fun v12 =>
        (gA S 10 v12 x5).bind fun v13 =>
        lt ((x4 + (v10 * v13))) fun v14 =>
        f_X0_lean_76 F k8 x0 x1 x2 v8 v14 x5  S
    else
      f_X0_lean_76 F k8 x0 x1 x2 x3 x4 x5  S
def fn_X0_lean (F : Nat) (x0 : Nat) (x1 : Nat) (x2 : Int32) (S : Mem) : Option (Unit × Mem) :=
  fix6 (b_X0_lean_8 F) F x0 x1 x2 (0 : Int32) (0 : Int32) (0 : Int32) S
set_option maxRecDepth 100000 in
theorem t_X0_lean_95 {Γ : Cx} {F : Nat} : ∀ (x0 : Nat) (y0 : Nat) (y1 : Int32) (S : Mem), Sim cX0_lean RX0 3 70 none false Γ rV (f_X0_lean_95 F x0 y0 y1 S) S 95 [some (.ref x0), none, none, none, none, none] [.int y1, .ref y0] := by
  intro x0 y0 y1 S
  unfold f_X0_lean_95
  refine s_aload_n 0 dX0_lean_95 rfl rfl ?_
  refine s_aload_n 0 dX0_lean_96 rfl rfl ?_
  refine s_getR fk_X0_25 rfl dX0_lean_97 (fun v1 => ?_)
  refine s_aload_n 0 dX0_lean_100 rfl rfl ?_
  refine s_getI fk_X0_110 rfl dX0_lean_101 (fun v2 => ?_)
  refine s_aload_n 0 dX0_lean_104 rfl rfl ?_
  refine s_getI fk_X0_69 rfl dX0_lean_105 (fun v3 => ?_)
  refine s_aload_n 0 dX0_lean_108 rfl rfl ?_
  refine s_getI fk_X0_72 rfl dX0_lean_109 (fun v4 => ?_)
  refine s_cV4I mk_X0_84 (by decide) rfl (fun v9 S9 h9 => con_X0_windAt F _ _ _ _ _ _ v9 S9 h9) ⟨by omega, by omega⟩ (Nat.le_of_ble_eq_true rfl) dX0_lean_112 (fun v5 S6 => ?_)
  refine s_iconst (5 : Int32) dX0_lean_115 (by decide) ?_
  refine s_idivc dX0_lean_116 (by decide) ?_
  refine s_iadd dX0_lean_117 ?_
  refine s_putI fk_X0_116 (Or.inl rfl) rfl dX0_lean_118 (fun S7 => ?_)
  exact s_vret dX0_lean_121
set_option maxRecDepth 100000 in
theorem t_X0_lean_76 {Γ : Cx} {F : Nat} {k8 : Nat → Nat → Int32 → Int32 → Int32 → Int32 → Mem → Option (Unit × Mem)} (hk8 : ∀ (x0 : Nat) (x1 : Nat) (x2 : Int32) (x3 : Int32) (x4 : Int32) (x5 : Int32) (S : Mem), Sim cX0_lean RX0 3 70 none false Γ rV (k8 x0 x1 x2 x3 x4 x5 S) S 8 [some (.ref x0), some (.ref x1), some (.int x2), some (.int x3), some (.int x4), some (.int x5)] []) : ∀ (x0 : Nat) (x1 : Nat) (x2 : Int32) (x3 : Int32) (x4 : Int32) (x5 : Int32) (S : Mem), Sim cX0_lean RX0 3 70 none false Γ rV (f_X0_lean_76 F k8 x0 x1 x2 x3 x4 x5 S) S 76 [some (.ref x0), some (.ref x1), some (.int x2), some (.int x3), some (.int x4), some (.int x5)] [] := by
  intro x0 x1 x2 x3 x4 x5 S
  unfold f_X0_lean_76
  refine s_iinc_5 (1 : Int32) dX0_lean_76 (by decide) rfl ?_
  refine s_goto 8 dX0_lean_79 (by decide) ?_
  exact s_less (hk8 x0 x1 x2 x3 x4 (x5 + (1 : Int32)) S) (And.intro rfl (And.intro rfl (And.intro rfl (And.intro rfl (And.intro rfl (And.intro rfl trivial))))))
set_option maxRecDepth 100000 in
theorem t_X0_lean_8 {Γ : Cx} {F : Nat} : ∀ (f : Nat) (x0 : Nat) (x1 : Nat) (x2 : Int32) (x3 : Int32) (x4 : Int32) (x5 : Int32) (S : Mem), Sim cX0_lean RX0 3 70 none false Γ rV (fix6 (b_X0_lean_8 F) f x0 x1 x2 x3 x4 x5 S) S 8 [some (.ref x0), some (.ref x1), some (.int x2), some (.int x3), some (.int x4), some (.int x5)] [] := by
  refine s_fix6 (fun (x0 : Nat) (x1 : Nat) (x2 : Int32) (x3 : Int32) (x4 : Int32) (x5 : Int32) => [some (.ref x0), some (.ref x1), some (.int x2), some (.int x3), some (.int x4), some (.int x5)]) (fun k8 hk8 => ?_)
  intro x0 x1 x2 x3 x4 x5 S
  unfold b_X0_lean_8
  refine s_iload dX0_lean_8 rfl ?_
  refine s_aload_n 0 dX0_lean_10 rfl rfl ?_
  refine s_getR fk_X0_25 rfl dX0_lean_11 (fun v1 => ?_)
  refine s_getI fk_X0_78 rfl dX0_lean_14 (fun v2 => ?_)
  refine s_icmp_ge 82 dX0_lean_17 (by decide) (fun _ => ?_) (fun _ => ?_)
  · refine s_aload_n 0 dX0_lean_82 rfl rfl ?_
    refine s_iload_n 3 dX0_lean_83 rfl rfl ?_
    refine s_if_le 94 dX0_lean_84 (by decide) (fun _ => ?_) (fun _ => ?_)
    · refine s_iconst (0 : Int32) dX0_lean_94 (by decide) ?_
      exact s_less (t_X0_lean_95 x0 x0 (0 : Int32) S) (And.intro rfl trivial)
    · refine s_iload dX0_lean_87 rfl ?_
      refine s_iload_n 3 dX0_lean_89 rfl rfl ?_
      refine s_idiv dX0_lean_90 ?_
      refine s_goto 95 dX0_lean_91 (by decide) ?_
      exact s_less (t_X0_lean_95 x0 x0 (x4 / x3) S) (And.intro rfl trivial)
  · refine s_iload_n 2 dX0_lean_20 rfl rfl ?_
    refine s_iload dX0_lean_21 rfl ?_
    refine s_ishr dX0_lean_23 ?_
    refine s_iconst (1 : Int32) dX0_lean_24 (by decide) ?_
    refine s_iand dX0_lean_25 ?_
    refine s_if_ne 76 dX0_lean_26 (by decide) (fun _ => ?_) (fun _ => ?_)
    · exact s_less (t_X0_lean_76 hk8 x0 x1 x2 x3 x4 x5  S) (And.intro rfl (And.intro rfl (And.intro rfl (And.intro rfl (And.intro rfl (And.intro rfl trivial))))))
    · refine s_aload_n 1 dX0_lean_29 rfl rfl ?_
      refine s_getR fk_X0_81 rfl dX0_lean_30 (fun v3 => ?_)
      refine s_iload dX0_lean_33 rfl ?_
      refine s_iald dX0_lean_35 (fun v4 => ?_)
      refine s_aload_n 0 dX0_lean_36 rfl rfl ?_
      refine s_getI fk_X0_95 rfl dX0_lean_37 (fun v5 => ?_)
      refine s_icmp_lt 76 dX0_lean_40 (by decide) (fun _ => ?_) (fun _ => ?_)
      · exact s_less (t_X0_lean_76 hk8 x0 x1 x2 x3 x4 x5  S) (And.intro rfl (And.intro rfl (And.intro rfl (And.intro rfl (And.intro rfl (And.intro rfl trivial))))))
      · refine s_iload_n 3 dX0_lean_43 rfl rfl ?_
        refine s_aload_n 0 dX0_lean_44 rfl rfl ?_
        refine s_getR fk_X0_22 rfl dX0_lean_45 (fun v6 => ?_)
        refine s_iload dX0_lean_48 rfl ?_
        refine s_iald dX0_lean_50 (fun v7 => ?_)
        refine s_iadd dX0_lean_51 ?_
        refine s_ltI (fun v8 => ?_)
        refine s_istore_3 dX0_lean_52 rfl ?_
        refine s_iload dX0_lean_53 rfl ?_
        refine s_aload_n 0 dX0_lean_55 rfl rfl ?_
        refine s_getR fk_X0_22 rfl dX0_lean_56 (fun v9 => ?_)
        refine s_iload dX0_lean_59 rfl ?_
        refine s_iald dX0_lean_61 (fun v10 => ?_)
        refine s_aload_n 0 dX0_lean_62 rfl rfl ?_
        refine s_getR fk_X0_25 rfl dX0_lean_63 (fun v11 => ?_)
        refine s_getR fk_X0_113 rfl dX0_lean_66 (fun v12 => ?_)
        refine s_iload dX0_lean_69 rfl ?_
        refine s_iald dX0_lean_71 (fun v13 => ?_)
        refine s_imul dX0_lean_72 ?_
        refine s_iadd dX0_lean_73 ?_
        refine s_ltI (fun v14 => ?_)
        refine s_istore_4 dX0_lean_74 rfl ?_
        exact s_less (t_X0_lean_76 hk8 x0 x1 x2 v8 v14 x5  S) (And.intro rfl (And.intro rfl (And.intro rfl (And.intro rfl (And.intro rfl (And.intro rfl trivial))))))
set_option maxRecDepth 100000 in
theorem con_X0_lean {l : Launch} (F : Nat) (x0 : Nat) (x1 : Nat) (x2 : Int32) (S : Mem) (v : Unit) (S1 : Mem) (h : fn_X0_lean F x0 x1 x2 S = some (v, S1)) : Con l yX0_lean cX0_lean 6 none 3 70 [.ref x0, .ref x1, .int x2] S (rV v) S1 := by
  refine con_of (ι := rV) RX0 false [some (.ref x0), some (.ref x1), some (.int x2), none, none, none] rfl (fun h => by cases h) (by decide) (Nat.le_of_ble_eq_true rfl) ⟨rfl, rfl⟩ (fun Γ hl => ?_) h
  unfold fn_X0_lean
  refine s_iconst (0 : Int32) dX0_lean_0 (by decide) ?_
  refine s_istore_3 dX0_lean_1 rfl ?_
  refine s_iconst (0 : Int32) dX0_lean_2 (by decide) ?_
  refine s_istore_4 dX0_lean_3 rfl ?_
  refine s_iconst (0 : Int32) dX0_lean_5 (by decide) ?_
  refine s_istore_5 dX0_lean_6 rfl ?_
  exact s_less (t_X0_lean_8 F x0 x1 x2 (0 : Int32) (0 : Int32) (0 : Int32) S) (And.intro rfl (And.intro rfl (And.intro rfl (And.intro rfl (And.intro rfl (And.intro rfl trivial))))))
-- X0_look
def fn_X0_look (F : Nat) (x0 : Nat) (x1 : Nat) (x2 : Int32) (x3 : Int32) (S : Mem) : Option (Unit × Mem) :=
  bd (cal S 0 x0 (fn_X0_feel F x0 x1 x2 x3 S)) fun _ S2 =>
  (gI S2 2 2 x1).bind fun v3 =>
  bd (cal S2 0 x0 (fn_X0_hang F x0 x1 v3 S2)) fun _ S5 =>
  (gI S5 2 2 x1).bind fun v6 =>
  bd (cal S5 0 x0 (fn_X0_lean F x0 x1 v6 S5)) fun _ S8 =>
  some ((), S8)
set_option maxRecDepth 100000 in
theorem con_X0_look {l : Launch} (F : Nat) (x0 : Nat) (x1 : Nat) (x2 : Int32) (x3 : Int32) (S : Mem) (v : Unit) (S1 : Mem) (h : fn_X0_look F x0 x1 x2 x3 S = some (v, S1)) : Con l yX0_look cX0_look 4 none 4 95 [.ref x0, .ref x1, .int x2, .int x3] S (rV v) S1 := by
  refine con_of (ι := rV) RX0 false [some (.ref x0), some (.ref x1), some (.int x2), some (.int x3)] rfl (fun h => by cases h) (by decide) (Nat.le_of_ble_eq_true rfl) ⟨rfl, rfl⟩ (fun Γ hl => ?_) h
  unfold fn_X0_look
  refine s_aload_n 0 dX0_look_0 rfl rfl ?_
  refine s_aload_n 1 dX0_look_1 rfl rfl ?_
  refine s_iload_n 2 dX0_look_2 rfl rfl ?_
  refine s_iload_n 3 dX0_look_3 rfl rfl ?_
  refine s_cV3V mk_X0_51 (by decide) rfl (fun v9 S9 h9 => con_X0_feel F _ _ _ _ _ v9 S9 h9) ⟨by omega, by omega⟩ (Nat.le_of_ble_eq_true rfl) dX0_look_4 (fun _ S2 => ?_)
  refine s_aload_n 0 dX0_look_7 rfl rfl ?_
  refine s_aload_n 1 dX0_look_8 rfl rfl ?_
  refine s_aload_n 1 dX0_look_9 rfl rfl ?_
  refine s_getI fk_X0_55 rfl dX0_look_10 (fun v3 => ?_)
  refine s_cV2V mk_X0_61 (by decide) rfl (fun v9 S9 h9 => con_X0_hang F _ _ _ _ v9 S9 h9) ⟨by omega, by omega⟩ (Nat.le_of_ble_eq_true rfl) dX0_look_13 (fun _ S5 => ?_)
  refine s_aload_n 0 dX0_look_16 rfl rfl ?_
  refine s_aload_n 1 dX0_look_17 rfl rfl ?_
  refine s_aload_n 1 dX0_look_18 rfl rfl ?_
  refine s_getI fk_X0_55 rfl dX0_look_19 (fun v6 => ?_)
  refine s_cV2V mk_X0_65 (by decide) rfl (fun v9 S9 h9 => con_X0_lean F _ _ _ _ v9 S9 h9) ⟨by omega, by omega⟩ (Nat.le_of_ble_eq_true rfl) dX0_look_22 (fun _ S8 => ?_)
  exact s_vret dX0_look_25
-- X0_ruled
def fn_X0_ruled (F : Nat) (x0 : Nat) (x1 : Nat) (x2 : Int32) (S : Mem) : Option (Int32 × Mem) :=
  (gR S 0 0 x0).bind fun v1 =>
  (gR S 3 0 v1).bind fun v2 =>
  (gR S 2 4 x1).bind fun v3 =>
  (gA S 10 v3 x2).bind fun v4 =>
  (sA S v2 (10 : Int32) v4).bind fun S5 =>
  (gR S5 0 0 x0).bind fun v6 =>
  (gR S5 3 0 v6).bind fun v7 =>
  (gR S5 0 2 x0).bind fun v8 =>
  (gA S5 10 v8 x2).bind fun v9 =>
  (sA S5 v7 (23 : Int32) v9).bind fun S10 =>
  (gR S10 0 0 x0).bind fun v11 =>
  (gR S10 3 0 v11).bind fun v12 =>
  (gI S10 0 5 x0).bind fun v13 =>
  (sA S10 v12 (20 : Int32) v13).bind fun S14 =>
  (gR S14 0 0 x0).bind fun v15 =>
  (gR S14 3 0 v15).bind fun v16 =>
  (gI S14 0 6 x0).bind fun v17 =>
  (gR S14 0 7 x0).bind fun v18 =>
  (gR S14 5 2 v18).bind fun v19 =>
  (gA S14 10 v19 x2).bind fun v20 =>
  (sA S14 v16 (24 : Int32) (v17 - v20)).bind fun S21 =>
  (gR S21 0 0 x0).bind fun v22 =>
  (gR S21 3 0 v22).bind fun v23 =>
  (gR S21 0 1 x0).bind fun v24 =>
  (gA S21 10 v24 x2).bind fun v25 =>
  (sA S21 v23 (0 : Int32) v25).bind fun S26 =>
  (gR S26 0 0 x0).bind fun v27 =>
  (gR S26 3 0 v27).bind fun v28 =>
  (gI S26 0 8 x0).bind fun v29 =>
  (sA S26 v28 (21 : Int32) v29).bind fun S30 =>
  (gR S30 0 0 x0).bind fun v31 =>
  (gR S30 0 7 x0).bind fun v32 =>
  (gR S30 5 11 v32).bind fun v33 =>
  bd (cal S30 3 v31 (fn_X3_reckon F v31 v33 S30)) fun v34 S35 =>
  some (v34, S35)
set_option maxRecDepth 100000 in
theorem con_X0_ruled {l : Launch} (F : Nat) (x0 : Nat) (x1 : Nat) (x2 : Int32) (S : Mem) (v : Int32) (S1 : Mem) (h : fn_X0_ruled F x0 x1 x2 S = some (v, S1)) : Con l yX0_ruled cX0_ruled 3 (some .int) 2 46 [.ref x0, .ref x1, .int x2] S (rI v) S1 := by
  refine con_of (ι := rI) RX0 false [some (.ref x0), some (.ref x1), some (.int x2)] rfl (fun h => by cases h) (by decide) (Nat.le_of_ble_eq_true rfl) ⟨rfl, rfl⟩ (fun Γ hl => ?_) h
  unfold fn_X0_ruled
  refine s_aload_n 0 dX0_ruled_0 rfl rfl ?_
  refine s_getR fk_X0_12 rfl dX0_ruled_1 (fun v1 => ?_)
  refine s_getR fk_X0_35 rfl dX0_ruled_4 (fun v2 => ?_)
  refine s_bipush (10 : Int32) dX0_ruled_7 (by decide) ?_
  refine s_aload_n 1 dX0_ruled_9 rfl rfl ?_
  refine s_getR fk_X0_81 rfl dX0_ruled_10 (fun v3 => ?_)
  refine s_iload_n 2 dX0_ruled_13 rfl rfl ?_
  refine s_iald dX0_ruled_14 (fun v4 => ?_)
  refine s_iast dX0_ruled_15 (fun S5 => ?_)
  refine s_aload_n 0 dX0_ruled_16 rfl rfl ?_
  refine s_getR fk_X0_12 rfl dX0_ruled_17 (fun v6 => ?_)
  refine s_getR fk_X0_35 rfl dX0_ruled_20 (fun v7 => ?_)
  refine s_bipush (23 : Int32) dX0_ruled_23 (by decide) ?_
  refine s_aload_n 0 dX0_ruled_25 rfl rfl ?_
  refine s_getR fk_X0_22 rfl dX0_ruled_26 (fun v8 => ?_)
  refine s_iload_n 2 dX0_ruled_29 rfl rfl ?_
  refine s_iald dX0_ruled_30 (fun v9 => ?_)
  refine s_iast dX0_ruled_31 (fun S10 => ?_)
  refine s_aload_n 0 dX0_ruled_32 rfl rfl ?_
  refine s_getR fk_X0_12 rfl dX0_ruled_33 (fun v11 => ?_)
  refine s_getR fk_X0_35 rfl dX0_ruled_36 (fun v12 => ?_)
  refine s_bipush (20 : Int32) dX0_ruled_39 (by decide) ?_
  refine s_aload_n 0 dX0_ruled_41 rfl rfl ?_
  refine s_getI fk_X0_110 rfl dX0_ruled_42 (fun v13 => ?_)
  refine s_iast dX0_ruled_45 (fun S14 => ?_)
  refine s_aload_n 0 dX0_ruled_46 rfl rfl ?_
  refine s_getR fk_X0_12 rfl dX0_ruled_47 (fun v15 => ?_)
  refine s_getR fk_X0_35 rfl dX0_ruled_50 (fun v16 => ?_)
  refine s_bipush (24 : Int32) dX0_ruled_53 (by decide) ?_
  refine s_aload_n 0 dX0_ruled_55 rfl rfl ?_
  refine s_getI fk_X0_116 rfl dX0_ruled_56 (fun v17 => ?_)
  refine s_aload_n 0 dX0_ruled_59 rfl rfl ?_
  refine s_getR fk_X0_25 rfl dX0_ruled_60 (fun v18 => ?_)
  refine s_getR fk_X0_113 rfl dX0_ruled_63 (fun v19 => ?_)
  refine s_iload_n 2 dX0_ruled_66 rfl rfl ?_
  refine s_iald dX0_ruled_67 (fun v20 => ?_)
  refine s_isub dX0_ruled_68 ?_
  refine s_iast dX0_ruled_69 (fun S21 => ?_)
  refine s_aload_n 0 dX0_ruled_70 rfl rfl ?_
  refine s_getR fk_X0_12 rfl dX0_ruled_71 (fun v22 => ?_)
  refine s_getR fk_X0_35 rfl dX0_ruled_74 (fun v23 => ?_)
  refine s_iconst (0 : Int32) dX0_ruled_77 (by decide) ?_
  refine s_aload_n 0 dX0_ruled_78 rfl rfl ?_
  refine s_getR fk_X0_18 rfl dX0_ruled_79 (fun v24 => ?_)
  refine s_iload_n 2 dX0_ruled_82 rfl rfl ?_
  refine s_iald dX0_ruled_83 (fun v25 => ?_)
  refine s_iast dX0_ruled_84 (fun S26 => ?_)
  refine s_aload_n 0 dX0_ruled_85 rfl rfl ?_
  refine s_getR fk_X0_12 rfl dX0_ruled_86 (fun v27 => ?_)
  refine s_getR fk_X0_35 rfl dX0_ruled_89 (fun v28 => ?_)
  refine s_bipush (21 : Int32) dX0_ruled_92 (by decide) ?_
  refine s_aload_n 0 dX0_ruled_94 rfl rfl ?_
  refine s_getI fk_X0_69 rfl dX0_ruled_95 (fun v29 => ?_)
  refine s_iast dX0_ruled_98 (fun S30 => ?_)
  refine s_aload_n 0 dX0_ruled_99 rfl rfl ?_
  refine s_getR fk_X0_12 rfl dX0_ruled_100 (fun v31 => ?_)
  refine s_aload_n 0 dX0_ruled_103 rfl rfl ?_
  refine s_getR fk_X0_25 rfl dX0_ruled_104 (fun v32 => ?_)
  refine s_getR fk_X0_119 rfl dX0_ruled_107 (fun v33 => ?_)
  refine s_cV1I mk_X0_43 (by decide) rfl (fun v9 S9 h9 => con_X3_reckon F _ _ _ v9 S9 h9) ⟨by omega, by omega⟩ (Nat.le_of_ble_eq_true rfl) dX0_ruled_110 (fun v34 S35 => ?_)
  exact s_iret dX0_ruled_113
-- J0_coder_7d493
def f_J0_coder_7d493_14 (F : Nat) (y0 : Int32) (S : Mem) : Option (Int32 × Mem) :=
  rn .byte y0 S
def fn_J0_coder_7d493 (F : Nat) (x0 : Nat) (S : Mem) : Option (Int32 × Mem) :=
  if (1 : Int32) = 0 then
    f_J0_coder_7d493_14 F  (1 : Int32) S
  else
    (gSC S x0).bind fun v1 =>
    f_J0_coder_7d493_14 F  v1 S
set_option maxRecDepth 100000 in
theorem t_J0_coder_7d493_14 {Γ : Cx} {F : Nat} : ∀ (y0 : Int32) (S : Mem), Sim cJ0_coder_7d493 RJ0 0 0 (some .byte) false Γ rI (f_J0_coder_7d493_14 F y0 S) S 14 [none] [.int y0] := by
  intro y0 S
  unfold f_J0_coder_7d493_14
  exact s_bret dJ0_coder_7d493_14
set_option maxRecDepth 100000 in
theorem con_J0_coder_7d493 {l : Launch} (F : Nat) (x0 : Nat) (S : Mem) (v : Int32) (S1 : Mem) (h : fn_J0_coder_7d493 F x0 S = some (v, S1)) : Con l yJ0_coder_7d493 cJ0_coder_7d493 1 (some .byte) 0 0 [.ref x0] S (rI v) S1 := by
  refine con_of (ι := rI) RJ0 false [some (.ref x0)] rfl (fun h => by cases h) (by decide) (Nat.le_of_ble_eq_true rfl) ⟨rfl, rfl⟩ (fun Γ hl => ?_) h
  unfold fn_J0_coder_7d493
  refine s_getCS (lw_in 207 (by decide +kernel) (by decide +kernel)) dJ0_coder_7d493_0 ?_
  refine s_if_eq 13 dJ0_coder_7d493_3 (by decide) (fun _ => ?_) (fun _ => ?_)
  · refine s_iconst (1 : Int32) dJ0_coder_7d493_13 (by decide) ?_
    exact s_less (t_J0_coder_7d493_14  (1 : Int32) S) trivial
  · refine s_aload_n 0 dJ0_coder_7d493_6 rfl rfl ?_
    refine s_getSC (lw_in 1509 (by decide +kernel) (by decide +kernel)) dJ0_coder_7d493_7 (fun v1 => ?_)
    refine s_goto 14 dJ0_coder_7d493_10 (by decide) ?_
    exact s_less (t_J0_coder_7d493_14  v1 S) trivial
-- J0_length_8abf5
def fn_J0_length_8abf5 (F : Nat) (x0 : Nat) (S : Mem) : Option (Int32 × Mem) :=
  (gSV S x0).bind fun v1 =>
  (gLen S v1).bind fun v2 =>
  bd (calT S x0 (fn_J0_coder_7d493 F x0 S)) fun v3 S4 =>
  some ((v2 >>> (v3 &&& 31)), S4)
set_option maxRecDepth 100000 in
theorem con_J0_length_8abf5 {l : Launch} (F : Nat) (x0 : Nat) (S : Mem) (v : Int32) (S1 : Mem) (h : fn_J0_length_8abf5 F x0 S = some (v, S1)) : Con l yJ0_length_8abf5 cJ0_length_8abf5 1 (some .int) 1 20 [.ref x0] S (rI v) S1 := by
  refine con_of (ι := rI) RJ0 false [some (.ref x0)] rfl (fun h => by cases h) (by decide) (Nat.le_of_ble_eq_true rfl) ⟨rfl, rfl⟩ (fun Γ hl => ?_) h
  unfold fn_J0_length_8abf5
  refine s_aload_n 0 dJ0_length_8abf5_0 rfl rfl ?_
  refine s_getSV (lw_in 1508 (by decide +kernel) (by decide +kernel)) dJ0_length_8abf5_1 (fun v1 => ?_)
  refine s_alen dJ0_length_8abf5_4 (fun v2 => ?_)
  refine s_aload_n 0 dJ0_length_8abf5_5 rfl rfl ?_
  refine s_cT0I mk_J0_335 rfl (fun v9 S9 h9 => con_J0_coder_7d493 F _ _ v9 S9 h9) ⟨by omega, by omega⟩ (Nat.le_of_ble_eq_true rfl) dJ0_length_8abf5_6 (fun v3 S4 => ?_)
  refine s_ishr dJ0_length_8abf5_9 ?_
  exact s_iret dJ0_length_8abf5_10
-- J0_isLatin1_aae02
def f_J0_isLatin1_aae02_18 (F : Nat) (y0 : Int32) (S : Mem) : Option (Int32 × Mem) :=
  rz y0 S
def f_J0_isLatin1_aae02_17 (F : Nat)  (S : Mem) : Option (Int32 × Mem) :=
  f_J0_isLatin1_aae02_18 F  (0 : Int32) S
def fn_J0_isLatin1_aae02 (F : Nat) (x0 : Nat) (S : Mem) : Option (Int32 × Mem) :=
  if (1 : Int32) = 0 then
    f_J0_isLatin1_aae02_17 F   S
  else
    (gSC S x0).bind fun v1 =>
    if v1 = 0 then
      f_J0_isLatin1_aae02_18 F  (1 : Int32) S
    else
      f_J0_isLatin1_aae02_17 F   S
set_option maxRecDepth 100000 in
theorem t_J0_isLatin1_aae02_18 {Γ : Cx} {F : Nat} : ∀ (y0 : Int32) (S : Mem), Sim cJ0_isLatin1_aae02 RJ0 0 0 (some .boolean) false Γ rI (f_J0_isLatin1_aae02_18 F y0 S) S 18 [none] [.int y0] := by
  intro y0 S
  unfold f_J0_isLatin1_aae02_18
  exact s_zret dJ0_isLatin1_aae02_18
set_option maxRecDepth 100000 in
theorem t_J0_isLatin1_aae02_17 {Γ : Cx} {F : Nat} : ∀ (S : Mem), Sim cJ0_isLatin1_aae02 RJ0 0 0 (some .boolean) false Γ rI (f_J0_isLatin1_aae02_17 F  S) S 17 [none] [] := by
  intro  S
  unfold f_J0_isLatin1_aae02_17
  refine s_iconst (0 : Int32) dJ0_isLatin1_aae02_17 (by decide) ?_
  exact s_less (t_J0_isLatin1_aae02_18  (0 : Int32) S) trivial
set_option maxRecDepth 100000 in
theorem con_J0_isLatin1_aae02 {l : Launch} (F : Nat) (x0 : Nat) (S : Mem) (v : Int32) (S1 : Mem) (h : fn_J0_isLatin1_aae02 F x0 S = some (v, S1)) : Con l yJ0_isLatin1_aae02 cJ0_isLatin1_aae02 1 (some .boolean) 0 0 [.ref x0] S (rI v) S1 := by
  refine con_of (ι := rI) RJ0 false [some (.ref x0)] rfl (fun h => by cases h) (by decide) (Nat.le_of_ble_eq_true rfl) ⟨rfl, rfl⟩ (fun Γ hl => ?_) h
  unfold fn_J0_isLatin1_aae02
  refine s_getCS (lw_in 207 (by decide +kernel) (by decide +kernel)) dJ0_isLatin1_aae02_0 ?_
  refine s_if_eq 17 dJ0_isLatin1_aae02_3 (by decide) (fun _ => ?_) (fun _ => ?_)
  · exact s_less (t_J0_isLatin1_aae02_17   S) trivial
  · refine s_aload_n 0 dJ0_isLatin1_aae02_6 rfl rfl ?_
    refine s_getSC (lw_in 1509 (by decide +kernel) (by decide +kernel)) dJ0_isLatin1_aae02_7 (fun v1 => ?_)
    refine s_if_ne 17 dJ0_isLatin1_aae02_10 (by decide) (fun _ => ?_) (fun _ => ?_)
    · exact s_less (t_J0_isLatin1_aae02_17   S) trivial
    · refine s_iconst (1 : Int32) dJ0_isLatin1_aae02_13 (by decide) ?_
      refine s_goto 18 dJ0_isLatin1_aae02_14 (by decide) ?_
      exact s_less (t_J0_isLatin1_aae02_18  (1 : Int32) S) trivial
-- J1_charAt_3b067
def fn_J1_charAt_3b067 (F : Nat) (x0 : Nat) (x1 : Int32) (S : Mem) : Option (Int32 × Mem) :=
  (gLen S x0).bind fun v1 =>
  bd ((fn_J0_checkIndex_df160 F x1 v1 S)) fun _ S3 =>
  (gT S3 x0 x1).bind fun v4 =>
  rn .char ((((v4 &&& (255 : Int32))).toUInt32 % 65536).toInt32) S3
set_option maxRecDepth 100000 in
theorem con_J1_charAt_3b067 {l : Launch} (F : Nat) (x0 : Nat) (x1 : Int32) (S : Mem) (v : Int32) (S1 : Mem) (h : fn_J1_charAt_3b067 F x0 x1 S = some (v, S1)) : Con l yJ1_charAt_3b067 cJ1_charAt_3b067 2 (some .char) 15 721 [.ref x0, .int x1] S (rI v) S1 := by
  refine con_of (ι := rI) RJ1 false [some (.ref x0), some (.int x1)] rfl (fun h => by cases h) (by decide) (Nat.le_of_ble_eq_true rfl) ⟨rfl, rfl⟩ (fun Γ hl => ?_) h
  unfold fn_J1_charAt_3b067
  refine s_iload_n 1 dJ1_charAt_3b067_0 rfl rfl ?_
  refine s_aload_n 0 dJ1_charAt_3b067_1 rfl rfl ?_
  refine s_alen dJ1_charAt_3b067_2 (fun v1 => ?_)
  refine s_cS2V mk_J1_9 (fun v9 S9 h9 => con_J0_checkIndex_df160 F _ _ _ v9 S9 h9) ⟨by omega, by omega⟩ (Nat.le_of_ble_eq_true rfl) dJ1_charAt_3b067_3 (fun _ S3 => ?_)
  refine s_aload_n 0 dJ1_charAt_3b067_6 rfl rfl ?_
  refine s_iload_n 1 dJ1_charAt_3b067_7 rfl rfl ?_
  refine s_tald dJ1_charAt_3b067_8 (fun v4 => ?_)
  refine s_sipush (255 : Int32) dJ1_charAt_3b067_9 (by decide) ?_
  refine s_iand dJ1_charAt_3b067_12 ?_
  refine s_i2c dJ1_charAt_3b067_13 ?_
  exact s_cret dJ1_charAt_3b067_14
-- J0_charAt_5068e
def fn_J0_charAt_5068e (F : Nat) (x0 : Nat) (x1 : Int32) (S : Mem) : Option (Int32 × Mem) :=
  bd (calT S x0 (fn_J0_isLatin1_aae02 F x0 S)) fun v1 S2 =>
  if v1 = 0 then
    (gSV S2 x0).bind fun v3 =>
    none
  else
    (gSV S2 x0).bind fun v4 =>
    bd ((fn_J1_charAt_3b067 F v4 x1 S2)) fun v5 S6 =>
    rn .char v5 S6
set_option maxRecDepth 100000 in
theorem con_J0_charAt_5068e {l : Launch} (F : Nat) (x0 : Nat) (x1 : Int32) (S : Mem) (v : Int32) (S1 : Mem) (h : fn_J0_charAt_5068e F x0 x1 S = some (v, S1)) : Con l yJ0_charAt_5068e cJ0_charAt_5068e 2 (some .char) 16 742 [.ref x0, .int x1] S (rI v) S1 := by
  refine con_of (ι := rI) RJ0 false [some (.ref x0), some (.int x1)] rfl (fun h => by cases h) (by decide) (Nat.le_of_ble_eq_true rfl) ⟨rfl, rfl⟩ (fun Γ hl => ?_) h
  unfold fn_J0_charAt_5068e
  refine s_aload_n 0 dJ0_charAt_5068e_0 rfl rfl ?_
  refine s_cT0I mk_J0_492 rfl (fun v9 S9 h9 => con_J0_isLatin1_aae02 F _ _ v9 S9 h9) ⟨by omega, by omega⟩ (Nat.le_of_ble_eq_true rfl) dJ0_charAt_5068e_1 (fun v1 S2 => ?_)
  refine s_if_eq 16 dJ0_charAt_5068e_4 (by decide) (fun _ => ?_) (fun _ => ?_)
  · refine s_aload_n 0 dJ0_charAt_5068e_16 rfl rfl ?_
    refine s_getSV (lw_in 1508 (by decide +kernel) (by decide +kernel)) dJ0_charAt_5068e_17 (fun v3 => ?_)
    refine s_iload_n 1 dJ0_charAt_5068e_20 rfl rfl ?_
    exact s_none (K := True)
  · refine s_aload_n 0 dJ0_charAt_5068e_7 rfl rfl ?_
    refine s_getSV (lw_in 1508 (by decide +kernel) (by decide +kernel)) dJ0_charAt_5068e_8 (fun v4 => ?_)
    refine s_iload_n 1 dJ0_charAt_5068e_11 rfl rfl ?_
    refine s_cS2I mk_J0_495 (fun v9 S9 h9 => con_J1_charAt_3b067 F _ _ _ v9 S9 h9) ⟨by omega, by omega⟩ (Nat.le_of_ble_eq_true rfl) dJ0_charAt_5068e_12 (fun v5 S6 => ?_)
    exact s_cret dJ0_charAt_5068e_15
-- X1_withLetter
def fn_X1_withLetter (F : Nat) (x0 : Int64) (x2 : Int32) (S : Mem) : Option (Int64 × Mem) :=
  some (((x0 <<< (((5 : Int32)).toInt64 &&& 63)) ||| (((x2 - (97 : Int32)) + (1 : Int32))).toInt64), S)
set_option maxRecDepth 100000 in
theorem con_X1_withLetter {l : Launch} (F : Nat) (x0 : Int64) (x2 : Int32) (S : Mem) (v : Int64) (S1 : Mem) (h : fn_X1_withLetter F x0 x2 S = some (v, S1)) : Con l yX1_withLetter cX1_withLetter 3 (some .long) 0 0 [.long x0, .int x2] S (rJ v) S1 := by
  refine con_of (ι := rJ) RX1 false [some (.long x0), none, some (.int x2)] rfl (fun h => by cases h) (by decide) (Nat.le_of_ble_eq_true rfl) ⟨rfl, rfl⟩ (fun Γ hl => ?_) h
  unfold fn_X1_withLetter
  refine s_lload_n 0 dX1_withLetter_0 rfl rfl ?_
  refine s_iconst (5 : Int32) dX1_withLetter_1 (by decide) ?_
  refine s_lshl dX1_withLetter_2 ?_
  refine s_iload_n 2 dX1_withLetter_3 rfl rfl ?_
  refine s_bipush (97 : Int32) dX1_withLetter_4 (by decide) ?_
  refine s_isub dX1_withLetter_6 ?_
  refine s_iconst (1 : Int32) dX1_withLetter_7 (by decide) ?_
  refine s_iadd dX1_withLetter_8 ?_
  refine s_i2l dX1_withLetter_9 ?_
  refine s_lor dX1_withLetter_10 ?_
  exact s_lret dX1_withLetter_11
-- X1_init
def f_X1_init_73 (F : Nat) (k23 : Nat → Int32 → Int32 → Mem → Option (Unit × Mem)) (x0 : Nat) (x1 : Int32) (x2 : Int32) (S : Mem) : Option (Unit × Mem) :=
  k23 x0 x1 (x2 + (1 : Int32)) S
def b_X1_init_23 (F : Nat) (k23 : Nat → Int32 → Int32 → Mem → Option (Unit × Mem)) (x0 : Nat) (x1 : Int32) (x2 : Int32) (S : Mem) : Option (Unit × Mem) :=
  bd (calT S (mT S) (fn_J0_length_8abf5 F (mT S) S)) fun v1 S2 =>
  if v1 ≤ x2 then
    some ((), S2)
  else
    bd (calT S2 (mT S2) (fn_J0_charAt_5068e F (mT S2) x2 S2)) fun v3 S4 =>
    if v3 = (32 : Int32) then
      f_X1_init_73 F k23 x0 (x1 + (1 : Int32)) x2  S4
    else
      if (25 : Int32) ≤ x1 then
        f_X1_init_73 F k23 x0 x1 x2  S4
      else
        (gR S4 1 1 x0).bind fun v5 =>
        (gR S4 1 1 x0).bind fun v6 =>
        (gAJ S4 v6 x1).bind fun v7 =>
        bd ((fn_X1_withLetter F v7 v3 S4)) fun v8 S9 =>
        (sAJ S9 v5 x1 v8).bind fun S10 =>
        f_X1_init_73 F k23 x0 x1 x2  S10
def fn_X1_init (F : Nat) (x0 : Nat) (S : Mem) : Option (Unit × Mem) :=
  bd (nA S 9 (0 : Int32)) fun v1 S2 =>
  (sR S2 1 0 x0 v1).bind fun S3 =>
  bd (nA S3 11 (25 : Int32)) fun v4 S5 =>
  (sR S5 1 1 x0 v4).bind fun S6 =>
  fix3 (b_X1_init_23 F) F x0 (0 : Int32) (0 : Int32) S6
set_option maxRecDepth 100000 in
theorem t_X1_init_73 {Γ : Cx} {F : Nat} {k23 : Nat → Int32 → Int32 → Mem → Option (Unit × Mem)} (hk23 : ∀ (x0 : Nat) (x1 : Int32) (x2 : Int32) (S : Mem), Sim cX1_init RX1 17 763 none true Γ rV (k23 x0 x1 x2 S) S 23 [some (.ref x0), some (.int x1), some (.int x2), none] []) : ∀ (x0 : Nat) (x1 : Int32) (x2 : Int32) (S : Mem), Sim cX1_init RX1 17 763 none true Γ rV (f_X1_init_73 F k23 x0 x1 x2 S) S 73 [some (.ref x0), some (.int x1), some (.int x2), none] [] := by
  intro x0 x1 x2 S
  unfold f_X1_init_73
  refine s_iinc_2 (1 : Int32) dX1_init_73 (by decide) rfl ?_
  refine s_goto 23 dX1_init_76 (by decide) ?_
  exact s_less (hk23 x0 x1 (x2 + (1 : Int32)) S) (And.intro rfl (And.intro rfl (And.intro rfl trivial)))
set_option maxRecDepth 100000 in
theorem t_X1_init_23 {Γ : Cx} {F : Nat} : ∀ (f : Nat) (x0 : Nat) (x1 : Int32) (x2 : Int32) (S : Mem), Sim cX1_init RX1 17 763 none true Γ rV (fix3 (b_X1_init_23 F) f x0 x1 x2 S) S 23 [some (.ref x0), some (.int x1), some (.int x2), none] [] := by
  refine s_fix3 (fun (x0 : Nat) (x1 : Int32) (x2 : Int32) => [some (.ref x0), some (.int x1), some (.int x2), none]) (fun k23 hk23 => ?_)
  intro x0 x1 x2 S
  unfold b_X1_init_23
  refine s_iload_n 2 dX1_init_23 rfl rfl ?_
  refine s_ldcT rfl dX1_init_24 ?_
  refine s_cT0I mk_X1_21 rfl (fun v9 S9 h9 => con_J0_length_8abf5 F _ _ v9 S9 h9) ⟨by omega, by omega⟩ (Nat.le_of_ble_eq_true rfl) dX1_init_26 (fun v1 S2 => ?_)
  refine s_icmp_ge 79 dX1_init_29 (by decide) (fun _ => ?_) (fun _ => ?_)
  · exact s_vret dX1_init_79
  · refine s_ldcT rfl dX1_init_32 ?_
    refine s_iload_n 2 dX1_init_34 rfl rfl ?_
    refine s_cT1I mk_X1_27 rfl (fun v9 S9 h9 => con_J0_charAt_5068e F _ _ _ v9 S9 h9) ⟨by omega, by omega⟩ (Nat.le_of_ble_eq_true rfl) dX1_init_35 (fun v3 S4 => ?_)
    refine s_istore_3 dX1_init_38 rfl ?_
    refine s_iload_n 3 dX1_init_39 rfl rfl ?_
    refine s_bipush (32 : Int32) dX1_init_40 (by decide) ?_
    refine s_icmp_ne 51 dX1_init_42 (by decide) (fun _ => ?_) (fun _ => ?_)
    · refine s_iload_n 1 dX1_init_51 rfl rfl ?_
      refine s_bipush (25 : Int32) dX1_init_52 (by decide) ?_
      refine s_icmp_ge 73 dX1_init_54 (by decide) (fun _ => ?_) (fun _ => ?_)
      · exact s_less (t_X1_init_73 hk23 x0 x1 x2  S4) (And.intro rfl (And.intro rfl (And.intro rfl trivial)))
      · refine s_aload_n 0 dX1_init_57 rfl rfl ?_
        refine s_getR fk_X1_15 rfl dX1_init_58 (fun v5 => ?_)
        refine s_iload_n 1 dX1_init_61 rfl rfl ?_
        refine s_aload_n 0 dX1_init_62 rfl rfl ?_
        refine s_getR fk_X1_15 rfl dX1_init_63 (fun v6 => ?_)
        refine s_iload_n 1 dX1_init_66 rfl rfl ?_
        refine s_lald dX1_init_67 (fun v7 => ?_)
        refine s_iload_n 3 dX1_init_68 rfl rfl ?_
        refine s_cS2J mk_X1_31 (fun v9 S9 h9 => con_X1_withLetter F _ _ _ v9 S9 h9) ⟨by omega, by omega⟩ (Nat.le_of_ble_eq_true rfl) dX1_init_69 (fun v8 S9 => ?_)
        refine s_last dX1_init_72 (fun S10 => ?_)
        exact s_less (t_X1_init_73 hk23 x0 x1 x2  S10) (And.intro rfl (And.intro rfl (And.intro rfl trivial)))
    · refine s_iinc_1 (1 : Int32) dX1_init_45 (by decide) rfl ?_
      refine s_goto 73 dX1_init_48 (by decide) ?_
      exact s_less (t_X1_init_73 hk23 x0 (x1 + (1 : Int32)) x2  S4) (And.intro rfl (And.intro rfl (And.intro rfl trivial)))
set_option maxRecDepth 100000 in
theorem con_X1_init {l : Launch} (F : Nat) (x0 : Nat) (S : Mem) (v : Unit) (S1 : Mem) (h : fn_X1_init F x0 S = some (v, S1)) : Con l yX1_init cX1_init 4 none 17 763 [.ref x0] S (rV v) S1 := by
  refine con_of (ι := rV) RX1 true [some (.ref x0), none, none, none] rfl (fun _ => rfl) (by decide) (Nat.le_of_ble_eq_true rfl) ⟨rfl, rfl⟩ (fun Γ hl => ?_) h
  unfold fn_X1_init
  refine s_aload_n 0 dX1_init_0 rfl rfl ?_
  refine s_objInit (lw_in 197 (by decide +kernel) (by decide +kernel)) (lw_in 108 (by decide +kernel) (by decide +kernel)) (lw_in 109 (by decide +kernel) (by decide +kernel)) ⟨by omega, by show _ + 12 ≤ _; simp [Value.category] <;> omega⟩ dX1_init_1 ?_
  refine s_aload_n 0 dX1_init_4 rfl rfl ?_
  refine s_iconst (0 : Int32) dX1_init_5 (by decide) ?_
  refine s_newa9 (lw_in 279 (by decide +kernel) (by decide +kernel)) dX1_init_6 (fun v1 S2 => ?_)
  refine s_putR fk_X1_7 (Or.inl rfl) rfl dX1_init_8 (fun S3 => ?_)
  refine s_aload_n 0 dX1_init_11 rfl rfl ?_
  refine s_bipush (25 : Int32) dX1_init_12 (by decide) ?_
  refine s_newa11 (lw_in 280 (by decide +kernel) (by decide +kernel)) dX1_init_14 (fun v4 S5 => ?_)
  refine s_putR fk_X1_15 (Or.inr ⟨rfl, rfl, rfl⟩) rfl dX1_init_16 (fun S6 => ?_)
  refine s_iconst (0 : Int32) dX1_init_19 (by decide) ?_
  refine s_istore_1 dX1_init_20 rfl ?_
  refine s_iconst (0 : Int32) dX1_init_21 (by decide) ?_
  refine s_istore_2 dX1_init_22 rfl ?_
  exact s_less (t_X1_init_23 F x0 (0 : Int32) (0 : Int32) S6) (And.intro rfl (And.intro rfl (And.intro rfl trivial)))
-- X1_isLetter
def f_X1_isLetter_17 (F : Nat) (y0 : Int32) (S : Mem) : Option (Int32 × Mem) :=
  rz y0 S
def f_X1_isLetter_16 (F : Nat)  (S : Mem) : Option (Int32 × Mem) :=
  f_X1_isLetter_17 F  (0 : Int32) S
def fn_X1_isLetter (F : Nat) (x0 : Int32) (S : Mem) : Option (Int32 × Mem) :=
  if x0 < (97 : Int32) then
    f_X1_isLetter_16 F   S
  else
    if (122 : Int32) < x0 then
      f_X1_isLetter_16 F   S
    else
      f_X1_isLetter_17 F  (1 : Int32) S
set_option maxRecDepth 100000 in
theorem t_X1_isLetter_17 {Γ : Cx} {F : Nat} : ∀ (y0 : Int32) (S : Mem), Sim cX1_isLetter RX1 0 0 (some .boolean) false Γ rI (f_X1_isLetter_17 F y0 S) S 17 [none] [.int y0] := by
  intro y0 S
  unfold f_X1_isLetter_17
  exact s_zret dX1_isLetter_17
set_option maxRecDepth 100000 in
theorem t_X1_isLetter_16 {Γ : Cx} {F : Nat} : ∀ (S : Mem), Sim cX1_isLetter RX1 0 0 (some .boolean) false Γ rI (f_X1_isLetter_16 F  S) S 16 [none] [] := by
  intro  S
  unfold f_X1_isLetter_16
  refine s_iconst (0 : Int32) dX1_isLetter_16 (by decide) ?_
  exact s_less (t_X1_isLetter_17  (0 : Int32) S) trivial
set_option maxRecDepth 100000 in
theorem con_X1_isLetter {l : Launch} (F : Nat) (x0 : Int32) (S : Mem) (v : Int32) (S1 : Mem) (h : fn_X1_isLetter F x0 S = some (v, S1)) : Con l yX1_isLetter cX1_isLetter 1 (some .boolean) 0 0 [.int x0] S (rI v) S1 := by
  refine con_of (ι := rI) RX1 false [some (.int x0)] rfl (fun h => by cases h) (by decide) (Nat.le_of_ble_eq_true rfl) ⟨rfl, rfl⟩ (fun Γ hl => ?_) h
  unfold fn_X1_isLetter
  refine s_iload_n 0 dX1_isLetter_0 rfl rfl ?_
  refine s_bipush (97 : Int32) dX1_isLetter_1 (by decide) ?_
  refine s_icmp_lt 16 dX1_isLetter_3 (by decide) (fun _ => ?_) (fun _ => ?_)
  · exact s_less (t_X1_isLetter_16   S) trivial
  · refine s_iload_n 0 dX1_isLetter_6 rfl rfl ?_
    refine s_bipush (122 : Int32) dX1_isLetter_7 (by decide) ?_
    refine s_icmp_gt 16 dX1_isLetter_9 (by decide) (fun _ => ?_) (fun _ => ?_)
    · exact s_less (t_X1_isLetter_16   S) trivial
    · refine s_iconst (1 : Int32) dX1_isLetter_12 (by decide) ?_
      refine s_goto 17 dX1_isLetter_13 (by decide) ?_
      exact s_less (t_X1_isLetter_17  (1 : Int32) S) trivial
-- X1_stepWord
def b_X1_stepWord_83 (F : Nat) (k83 : Nat → Int32 → Mem → Option (Int32 × Mem)) (x0 : Nat) (x1 : Int32) (S : Mem) : Option (Int32 × Mem) :=
  if (25 : Int32) ≤ x1 then
    some ((25 : Int32), S)
  else
    (gR S 1 1 x0).bind fun v1 =>
    (gAJ S v1 x1).bind fun v2 =>
    (gJ S 1 7 x0).bind fun v3 =>
    if (lg_cmp v2 v3) = 0 then
      some (x1, S)
    else
      k83 x0 (x1 + (1 : Int32)) S
def f_X1_stepWord_64 (F : Nat) (x0 : Nat) (S : Mem) : Option (Int32 × Mem) :=
  (gI S 1 3 x0).bind fun v1 =>
  (gI S 1 4 x0).bind fun v2 =>
  if (v1 - v2) ≤ (8 : Int32) then
    fix2 (b_X1_stepWord_83 F) F x0 (0 : Int32) S
  else
    some ((36 : Int32), S)
def b_X1_stepWord_5 (F : Nat) (k5 : Nat → Mem → Option (Int32 × Mem)) (x0 : Nat) (S : Mem) : Option (Int32 × Mem) :=
  (gI S 1 3 x0).bind fun v1 =>
  (gI S 1 2 x0).bind fun v2 =>
  if v2 ≤ v1 then
    f_X1_stepWord_64 F x0  S
  else
    (gR S 1 0 x0).bind fun v3 =>
    (gI S 1 3 x0).bind fun v4 =>
    (gA S 9 v3 v4).bind fun v5 =>
    bd ((fn_X1_isLetter F v5 S)) fun v6 S7 =>
    if v6 = 0 then
      f_X1_stepWord_64 F x0  S7
    else
      (gJ S7 1 7 x0).bind fun v8 =>
      (gR S7 1 0 x0).bind fun v9 =>
      (gI S7 1 3 x0).bind fun v10 =>
      (gA S7 9 v9 v10).bind fun v11 =>
      bd ((fn_X1_withLetter F v8 v11 S7)) fun v12 S13 =>
      (sJ S13 1 7 x0 v12).bind fun S14 =>
      (gI S14 1 3 x0).bind fun v15 =>
      (sI S14 1 3 x0 (v15 + (1 : Int32))).bind fun S16 =>
      k5 x0 S16
def fn_X1_stepWord (F : Nat) (x0 : Nat) (S : Mem) : Option (Int32 × Mem) :=
  (sJ S 1 7 x0 (0 : Int64)).bind fun S1 =>
  fix1 (b_X1_stepWord_5 F) F x0 S1
set_option maxRecDepth 100000 in
theorem t_X1_stepWord_83 {Γ : Cx} {F : Nat} : ∀ (f : Nat) (x0 : Nat) (x1 : Int32) (S : Mem), Sim cX1_stepWord RX1 1 22 (some .int) false Γ rI (fix2 (b_X1_stepWord_83 F) f x0 x1 S) S 83 [some (.ref x0), some (.int x1)] [] := by
  refine s_fix2 (fun (x0 : Nat) (x1 : Int32) => [some (.ref x0), some (.int x1)]) (fun k83 hk83 => ?_)
  intro x0 x1 S
  unfold b_X1_stepWord_83
  refine s_iload_n 1 dX1_stepWord_83 rfl rfl ?_
  refine s_bipush (25 : Int32) dX1_stepWord_84 (by decide) ?_
  refine s_icmp_ge 111 dX1_stepWord_86 (by decide) (fun _ => ?_) (fun _ => ?_)
  · refine s_bipush (25 : Int32) dX1_stepWord_111 (by decide) ?_
    exact s_iret dX1_stepWord_113
  · refine s_aload_n 0 dX1_stepWord_89 rfl rfl ?_
    refine s_getR fk_X1_15 rfl dX1_stepWord_90 (fun v1 => ?_)
    refine s_iload_n 1 dX1_stepWord_93 rfl rfl ?_
    refine s_lald dX1_stepWord_94 (fun v2 => ?_)
    refine s_aload_n 0 dX1_stepWord_95 rfl rfl ?_
    refine s_getJ fk_X1_73 rfl dX1_stepWord_96 (fun v3 => ?_)
    refine s_lcmp dX1_stepWord_99 ?_
    refine s_if_ne 105 dX1_stepWord_100 (by decide) (fun _ => ?_) (fun _ => ?_)
    · refine s_iinc_1 (1 : Int32) dX1_stepWord_105 (by decide) rfl ?_
      refine s_goto 83 dX1_stepWord_108 (by decide) ?_
      exact s_less (hk83 x0 (x1 + (1 : Int32)) S) (And.intro rfl (And.intro rfl trivial))
    · refine s_iload_n 1 dX1_stepWord_103 rfl rfl ?_
      exact s_iret dX1_stepWord_104
set_option maxRecDepth 100000 in
theorem t_X1_stepWord_64 {Γ : Cx} {F : Nat} : ∀ (x0 : Nat) (S : Mem), Sim cX1_stepWord RX1 1 22 (some .int) false Γ rI (f_X1_stepWord_64 F x0 S) S 64 [some (.ref x0), none] [] := by
  intro x0 S
  unfold f_X1_stepWord_64
  refine s_aload_n 0 dX1_stepWord_64 rfl rfl ?_
  refine s_getI fk_X1_44 rfl dX1_stepWord_65 (fun v1 => ?_)
  refine s_aload_n 0 dX1_stepWord_68 rfl rfl ?_
  refine s_getI fk_X1_50 rfl dX1_stepWord_69 (fun v2 => ?_)
  refine s_isub dX1_stepWord_72 ?_
  refine s_bipush (8 : Int32) dX1_stepWord_73 (by decide) ?_
  refine s_icmp_le 81 dX1_stepWord_75 (by decide) (fun _ => ?_) (fun _ => ?_)
  · refine s_iconst (0 : Int32) dX1_stepWord_81 (by decide) ?_
    refine s_istore_1 dX1_stepWord_82 rfl ?_
    exact s_less (t_X1_stepWord_83 F x0 (0 : Int32) S) (And.intro rfl (And.intro rfl trivial))
  · refine s_bipush (36 : Int32) dX1_stepWord_78 (by decide) ?_
    exact s_iret dX1_stepWord_80
set_option maxRecDepth 100000 in
theorem t_X1_stepWord_5 {Γ : Cx} {F : Nat} : ∀ (f : Nat) (x0 : Nat) (S : Mem), Sim cX1_stepWord RX1 1 22 (some .int) false Γ rI (fix1 (b_X1_stepWord_5 F) f x0 S) S 5 [some (.ref x0), none] [] := by
  refine s_fix1 (fun (x0 : Nat) => [some (.ref x0), none]) (fun k5 hk5 => ?_)
  intro x0 S
  unfold b_X1_stepWord_5
  refine s_aload_n 0 dX1_stepWord_5 rfl rfl ?_
  refine s_getI fk_X1_44 rfl dX1_stepWord_6 (fun v1 => ?_)
  refine s_aload_n 0 dX1_stepWord_9 rfl rfl ?_
  refine s_getI fk_X1_41 rfl dX1_stepWord_10 (fun v2 => ?_)
  refine s_icmp_ge 64 dX1_stepWord_13 (by decide) (fun _ => ?_) (fun _ => ?_)
  · exact s_less (t_X1_stepWord_64 x0  S) (And.intro rfl trivial)
  · refine s_aload_n 0 dX1_stepWord_16 rfl rfl ?_
    refine s_getR fk_X1_7 rfl dX1_stepWord_17 (fun v3 => ?_)
    refine s_aload_n 0 dX1_stepWord_20 rfl rfl ?_
    refine s_getI fk_X1_44 rfl dX1_stepWord_21 (fun v4 => ?_)
    refine s_bald dX1_stepWord_24 (fun v5 => ?_)
    refine s_cS1I mk_X1_56 (fun v9 S9 h9 => con_X1_isLetter F _ _ v9 S9 h9) ⟨by omega, by omega⟩ (Nat.le_of_ble_eq_true rfl) dX1_stepWord_25 (fun v6 S7 => ?_)
    refine s_if_eq 64 dX1_stepWord_28 (by decide) (fun _ => ?_) (fun _ => ?_)
    · exact s_less (t_X1_stepWord_64 x0  S7) (And.intro rfl trivial)
    · refine s_aload_n 0 dX1_stepWord_31 rfl rfl ?_
      refine s_aload_n 0 dX1_stepWord_32 rfl rfl ?_
      refine s_getJ fk_X1_73 rfl dX1_stepWord_33 (fun v8 => ?_)
      refine s_aload_n 0 dX1_stepWord_36 rfl rfl ?_
      refine s_getR fk_X1_7 rfl dX1_stepWord_37 (fun v9 => ?_)
      refine s_aload_n 0 dX1_stepWord_40 rfl rfl ?_
      refine s_getI fk_X1_44 rfl dX1_stepWord_41 (fun v10 => ?_)
      refine s_bald dX1_stepWord_44 (fun v11 => ?_)
      refine s_cS2J mk_X1_31 (fun v9 S9 h9 => con_X1_withLetter F _ _ _ v9 S9 h9) ⟨by omega, by omega⟩ (Nat.le_of_ble_eq_true rfl) dX1_stepWord_45 (fun v12 S13 => ?_)
      refine s_putJ fk_X1_73 (Or.inl rfl) rfl dX1_stepWord_48 (fun S14 => ?_)
      refine s_aload_n 0 dX1_stepWord_51 rfl rfl ?_
      refine s_dup dX1_stepWord_52 rfl ?_
      refine s_getI fk_X1_44 rfl dX1_stepWord_53 (fun v15 => ?_)
      refine s_iconst (1 : Int32) dX1_stepWord_56 (by decide) ?_
      refine s_iadd dX1_stepWord_57 ?_
      refine s_putI fk_X1_44 (Or.inl rfl) rfl dX1_stepWord_58 (fun S16 => ?_)
      refine s_goto 5 dX1_stepWord_61 (by decide) ?_
      exact s_less (hk5 x0 S16) (And.intro rfl trivial)
set_option maxRecDepth 100000 in
theorem con_X1_stepWord {l : Launch} (F : Nat) (x0 : Nat) (S : Mem) (v : Int32) (S1 : Mem) (h : fn_X1_stepWord F x0 S = some (v, S1)) : Con l yX1_stepWord cX1_stepWord 2 (some .int) 1 22 [.ref x0] S (rI v) S1 := by
  refine con_of (ι := rI) RX1 false [some (.ref x0), none] rfl (fun h => by cases h) (by decide) (Nat.le_of_ble_eq_true rfl) ⟨rfl, rfl⟩ (fun Γ hl => ?_) h
  unfold fn_X1_stepWord
  refine s_aload_n 0 dX1_stepWord_0 rfl rfl ?_
  refine s_lconst (0 : Int64) dX1_stepWord_1 (by decide) ?_
  refine s_putJ fk_X1_73 (Or.inl rfl) rfl dX1_stepWord_2 (fun S1 => ?_)
  exact s_less (t_X1_stepWord_5 F x0 S1) (And.intro rfl trivial)
-- X1_isDigit
def f_X1_isDigit_17 (F : Nat) (y0 : Int32) (S : Mem) : Option (Int32 × Mem) :=
  rz y0 S
def f_X1_isDigit_16 (F : Nat)  (S : Mem) : Option (Int32 × Mem) :=
  f_X1_isDigit_17 F  (0 : Int32) S
def fn_X1_isDigit (F : Nat) (x0 : Int32) (S : Mem) : Option (Int32 × Mem) :=
  if x0 < (48 : Int32) then
    f_X1_isDigit_16 F   S
  else
    if (57 : Int32) < x0 then
      f_X1_isDigit_16 F   S
    else
      f_X1_isDigit_17 F  (1 : Int32) S
set_option maxRecDepth 100000 in
theorem t_X1_isDigit_17 {Γ : Cx} {F : Nat} : ∀ (y0 : Int32) (S : Mem), Sim cX1_isDigit RX1 0 0 (some .boolean) false Γ rI (f_X1_isDigit_17 F y0 S) S 17 [none] [.int y0] := by
  intro y0 S
  unfold f_X1_isDigit_17
  exact s_zret dX1_isDigit_17
set_option maxRecDepth 100000 in
theorem t_X1_isDigit_16 {Γ : Cx} {F : Nat} : ∀ (S : Mem), Sim cX1_isDigit RX1 0 0 (some .boolean) false Γ rI (f_X1_isDigit_16 F  S) S 16 [none] [] := by
  intro  S
  unfold f_X1_isDigit_16
  refine s_iconst (0 : Int32) dX1_isDigit_16 (by decide) ?_
  exact s_less (t_X1_isDigit_17  (0 : Int32) S) trivial
set_option maxRecDepth 100000 in
theorem con_X1_isDigit {l : Launch} (F : Nat) (x0 : Int32) (S : Mem) (v : Int32) (S1 : Mem) (h : fn_X1_isDigit F x0 S = some (v, S1)) : Con l yX1_isDigit cX1_isDigit 1 (some .boolean) 0 0 [.int x0] S (rI v) S1 := by
  refine con_of (ι := rI) RX1 false [some (.int x0)] rfl (fun h => by cases h) (by decide) (Nat.le_of_ble_eq_true rfl) ⟨rfl, rfl⟩ (fun Γ hl => ?_) h
  unfold fn_X1_isDigit
  refine s_iload_n 0 dX1_isDigit_0 rfl rfl ?_
  refine s_bipush (48 : Int32) dX1_isDigit_1 (by decide) ?_
  refine s_icmp_lt 16 dX1_isDigit_3 (by decide) (fun _ => ?_) (fun _ => ?_)
  · exact s_less (t_X1_isDigit_16   S) trivial
  · refine s_iload_n 0 dX1_isDigit_6 rfl rfl ?_
    refine s_bipush (57 : Int32) dX1_isDigit_7 (by decide) ?_
    refine s_icmp_gt 16 dX1_isDigit_9 (by decide) (fun _ => ?_) (fun _ => ?_)
    · exact s_less (t_X1_isDigit_16   S) trivial
    · refine s_iconst (1 : Int32) dX1_isDigit_12 (by decide) ?_
      refine s_goto 17 dX1_isDigit_13 (by decide) ?_
      exact s_less (t_X1_isDigit_17  (1 : Int32) S) trivial
-- X1_stepNumber
def f_X1_stepNumber_88 (F : Nat) (y0 : Int32) (S : Mem) : Option (Int32 × Mem) :=
  some (y0, S)
def f_X1_stepNumber_68 (F : Nat) (x0 : Nat) (S : Mem) : Option (Int32 × Mem) :=
  (gI S 1 3 x0).bind fun v1 =>
  (gI S 1 4 x0).bind fun v2 =>
  if (v1 - v2) ≤ (4 : Int32) then
    f_X1_stepNumber_88 F  (26 : Int32) S
  else
    f_X1_stepNumber_88 F  (36 : Int32) S
def b_X1_stepNumber_5 (F : Nat) (k5 : Nat → Mem → Option (Int32 × Mem)) (x0 : Nat) (S : Mem) : Option (Int32 × Mem) :=
  (gI S 1 3 x0).bind fun v1 =>
  (gI S 1 2 x0).bind fun v2 =>
  if v2 ≤ v1 then
    f_X1_stepNumber_68 F x0  S
  else
    (gR S 1 0 x0).bind fun v3 =>
    (gI S 1 3 x0).bind fun v4 =>
    (gA S 9 v3 v4).bind fun v5 =>
    bd ((fn_X1_isDigit F v5 S)) fun v6 S7 =>
    if v6 = 0 then
      f_X1_stepNumber_68 F x0  S7
    else
      (gI S7 1 6 x0).bind fun v8 =>
      (gR S7 1 0 x0).bind fun v9 =>
      (gI S7 1 3 x0).bind fun v10 =>
      (gA S7 9 v9 v10).bind fun v11 =>
      (sI S7 1 6 x0 (((v8 * (10 : Int32)) + v11) - (48 : Int32))).bind fun S12 =>
      (gI S12 1 3 x0).bind fun v13 =>
      (sI S12 1 3 x0 (v13 + (1 : Int32))).bind fun S14 =>
      k5 x0 S14
def fn_X1_stepNumber (F : Nat) (x0 : Nat) (S : Mem) : Option (Int32 × Mem) :=
  (sI S 1 6 x0 (0 : Int32)).bind fun S1 =>
  fix1 (b_X1_stepNumber_5 F) F x0 S1
set_option maxRecDepth 100000 in
theorem t_X1_stepNumber_88 {Γ : Cx} {F : Nat} : ∀ (y0 : Int32) (S : Mem), Sim cX1_stepNumber RX1 1 20 (some .int) false Γ rI (f_X1_stepNumber_88 F y0 S) S 88 [none] [.int y0] := by
  intro y0 S
  unfold f_X1_stepNumber_88
  exact s_iret dX1_stepNumber_88
set_option maxRecDepth 100000 in
theorem t_X1_stepNumber_68 {Γ : Cx} {F : Nat} : ∀ (x0 : Nat) (S : Mem), Sim cX1_stepNumber RX1 1 20 (some .int) false Γ rI (f_X1_stepNumber_68 F x0 S) S 68 [some (.ref x0)] [] := by
  intro x0 S
  unfold f_X1_stepNumber_68
  refine s_aload_n 0 dX1_stepNumber_68 rfl rfl ?_
  refine s_getI fk_X1_44 rfl dX1_stepNumber_69 (fun v1 => ?_)
  refine s_aload_n 0 dX1_stepNumber_72 rfl rfl ?_
  refine s_getI fk_X1_50 rfl dX1_stepNumber_73 (fun v2 => ?_)
  refine s_isub dX1_stepNumber_76 ?_
  refine s_iconst (4 : Int32) dX1_stepNumber_77 (by decide) ?_
  refine s_icmp_le 86 dX1_stepNumber_78 (by decide) (fun _ => ?_) (fun _ => ?_)
  · refine s_bipush (26 : Int32) dX1_stepNumber_86 (by decide) ?_
    exact s_less (t_X1_stepNumber_88  (26 : Int32) S) trivial
  · refine s_bipush (36 : Int32) dX1_stepNumber_81 (by decide) ?_
    refine s_goto 88 dX1_stepNumber_83 (by decide) ?_
    exact s_less (t_X1_stepNumber_88  (36 : Int32) S) trivial
set_option maxRecDepth 100000 in
theorem t_X1_stepNumber_5 {Γ : Cx} {F : Nat} : ∀ (f : Nat) (x0 : Nat) (S : Mem), Sim cX1_stepNumber RX1 1 20 (some .int) false Γ rI (fix1 (b_X1_stepNumber_5 F) f x0 S) S 5 [some (.ref x0)] [] := by
  refine s_fix1 (fun (x0 : Nat) => [some (.ref x0)]) (fun k5 hk5 => ?_)
  intro x0 S
  unfold b_X1_stepNumber_5
  refine s_aload_n 0 dX1_stepNumber_5 rfl rfl ?_
  refine s_getI fk_X1_44 rfl dX1_stepNumber_6 (fun v1 => ?_)
  refine s_aload_n 0 dX1_stepNumber_9 rfl rfl ?_
  refine s_getI fk_X1_41 rfl dX1_stepNumber_10 (fun v2 => ?_)
  refine s_icmp_ge 68 dX1_stepNumber_13 (by decide) (fun _ => ?_) (fun _ => ?_)
  · exact s_less (t_X1_stepNumber_68 x0  S) (And.intro rfl trivial)
  · refine s_aload_n 0 dX1_stepNumber_16 rfl rfl ?_
    refine s_getR fk_X1_7 rfl dX1_stepNumber_17 (fun v3 => ?_)
    refine s_aload_n 0 dX1_stepNumber_20 rfl rfl ?_
    refine s_getI fk_X1_44 rfl dX1_stepNumber_21 (fun v4 => ?_)
    refine s_bald dX1_stepNumber_24 (fun v5 => ?_)
    refine s_cS1I mk_X1_63 (fun v9 S9 h9 => con_X1_isDigit F _ _ v9 S9 h9) ⟨by omega, by omega⟩ (Nat.le_of_ble_eq_true rfl) dX1_stepNumber_25 (fun v6 S7 => ?_)
    refine s_if_eq 68 dX1_stepNumber_28 (by decide) (fun _ => ?_) (fun _ => ?_)
    · exact s_less (t_X1_stepNumber_68 x0  S7) (And.intro rfl trivial)
    · refine s_aload_n 0 dX1_stepNumber_31 rfl rfl ?_
      refine s_aload_n 0 dX1_stepNumber_32 rfl rfl ?_
      refine s_getI fk_X1_77 rfl dX1_stepNumber_33 (fun v8 => ?_)
      refine s_bipush (10 : Int32) dX1_stepNumber_36 (by decide) ?_
      refine s_imul dX1_stepNumber_38 ?_
      refine s_aload_n 0 dX1_stepNumber_39 rfl rfl ?_
      refine s_getR fk_X1_7 rfl dX1_stepNumber_40 (fun v9 => ?_)
      refine s_aload_n 0 dX1_stepNumber_43 rfl rfl ?_
      refine s_getI fk_X1_44 rfl dX1_stepNumber_44 (fun v10 => ?_)
      refine s_bald dX1_stepNumber_47 (fun v11 => ?_)
      refine s_iadd dX1_stepNumber_48 ?_
      refine s_bipush (48 : Int32) dX1_stepNumber_49 (by decide) ?_
      refine s_isub dX1_stepNumber_51 ?_
      refine s_putI fk_X1_77 (Or.inl rfl) rfl dX1_stepNumber_52 (fun S12 => ?_)
      refine s_aload_n 0 dX1_stepNumber_55 rfl rfl ?_
      refine s_dup dX1_stepNumber_56 rfl ?_
      refine s_getI fk_X1_44 rfl dX1_stepNumber_57 (fun v13 => ?_)
      refine s_iconst (1 : Int32) dX1_stepNumber_60 (by decide) ?_
      refine s_iadd dX1_stepNumber_61 ?_
      refine s_putI fk_X1_44 (Or.inl rfl) rfl dX1_stepNumber_62 (fun S14 => ?_)
      refine s_goto 5 dX1_stepNumber_65 (by decide) ?_
      exact s_less (hk5 x0 S14) (And.intro rfl trivial)
set_option maxRecDepth 100000 in
theorem con_X1_stepNumber {l : Launch} (F : Nat) (x0 : Nat) (S : Mem) (v : Int32) (S1 : Mem) (h : fn_X1_stepNumber F x0 S = some (v, S1)) : Con l yX1_stepNumber cX1_stepNumber 1 (some .int) 1 20 [.ref x0] S (rI v) S1 := by
  refine con_of (ι := rI) RX1 false [some (.ref x0)] rfl (fun h => by cases h) (by decide) (Nat.le_of_ble_eq_true rfl) ⟨rfl, rfl⟩ (fun Γ hl => ?_) h
  unfold fn_X1_stepNumber
  refine s_aload_n 0 dX1_stepNumber_0 rfl rfl ?_
  refine s_iconst (0 : Int32) dX1_stepNumber_1 (by decide) ?_
  refine s_putI fk_X1_77 (Or.inl rfl) rfl dX1_stepNumber_2 (fun S1 => ?_)
  exact s_less (t_X1_stepNumber_5 F x0 S1) (And.intro rfl trivial)
-- X7_ofSign
def fn_X7_ofSign (F : Nat) (x0 : Int32) (S : Mem) : Option (Int32 × Mem) :=
  if x0 = (40 : Int32) then
    some ((27 : Int32), S)
  else
    if x0 = (41 : Int32) then
      some ((28 : Int32), S)
    else
      if x0 = (42 : Int32) then
        some ((33 : Int32), S)
      else
        if x0 = (43 : Int32) then
          some ((31 : Int32), S)
        else
          if x0 = (45 : Int32) then
            some ((32 : Int32), S)
          else
            if x0 = (59 : Int32) then
              some ((34 : Int32), S)
            else
              if x0 = (60 : Int32) then
                some ((29 : Int32), S)
              else
                if x0 = (61 : Int32) then
                  some ((30 : Int32), S)
                else
                  if x0 = (44 : Int32) then
                    some ((36 : Int32), S)
                  else
                    if x0 = (46 : Int32) then
                      some ((36 : Int32), S)
                    else
                      if x0 = (47 : Int32) then
                        some ((36 : Int32), S)
                      else
                        if x0 = (48 : Int32) then
                          some ((36 : Int32), S)
                        else
                          if x0 = (49 : Int32) then
                            some ((36 : Int32), S)
                          else
                            if x0 = (50 : Int32) then
                              some ((36 : Int32), S)
                            else
                              if x0 = (51 : Int32) then
                                some ((36 : Int32), S)
                              else
                                if x0 = (52 : Int32) then
                                  some ((36 : Int32), S)
                                else
                                  if x0 = (53 : Int32) then
                                    some ((36 : Int32), S)
                                  else
                                    if x0 = (54 : Int32) then
                                      some ((36 : Int32), S)
                                    else
                                      if x0 = (55 : Int32) then
                                        some ((36 : Int32), S)
                                      else
                                        if x0 = (56 : Int32) then
                                          some ((36 : Int32), S)
                                        else
                                          if x0 = (57 : Int32) then
                                            some ((36 : Int32), S)
                                          else
                                            if x0 = (58 : Int32) then
                                              some ((36 : Int32), S)
                                            else
                                              some ((36 : Int32), S)
set_option maxRecDepth 100000 in
theorem con_X7_ofSign {l : Launch} (F : Nat) (x0 : Int32) (S : Mem) (v : Int32) (S1 : Mem) (h : fn_X7_ofSign F x0 S = some (v, S1)) : Con l yX7_ofSign cX7_ofSign 1 (some .int) 0 0 [.int x0] S (rI v) S1 := by
  refine con_of (ι := rI) RX7 false [some (.int x0)] rfl (fun h => by cases h) (by decide) (Nat.le_of_ble_eq_true rfl) ⟨rfl, rfl⟩ (fun Γ hl => ?_) h
  unfold fn_X7_ofSign
  refine s_iload_n 0 dX7_ofSign_0 rfl rfl ?_
  refine s_ite _ (fun h0 => ?_) (fun h0 => ?_)
  · subst h0
    refine s_tsIn (off := 103) 104 dX7_ofSign_1 (by decide) (by decide) (by decide) (by decide) ?_
    refine s_bipush (27 : Int32) dX7_ofSign_104 (by decide) ?_
    exact s_iret dX7_ofSign_106
  refine s_ite _ (fun h1 => ?_) (fun h1 => ?_)
  · subst h1
    refine s_tsIn (off := 106) 107 dX7_ofSign_1 (by decide) (by decide) (by decide) (by decide) ?_
    refine s_bipush (28 : Int32) dX7_ofSign_107 (by decide) ?_
    exact s_iret dX7_ofSign_109
  refine s_ite _ (fun h2 => ?_) (fun h2 => ?_)
  · subst h2
    refine s_tsIn (off := 121) 122 dX7_ofSign_1 (by decide) (by decide) (by decide) (by decide) ?_
    refine s_bipush (33 : Int32) dX7_ofSign_122 (by decide) ?_
    exact s_iret dX7_ofSign_124
  refine s_ite _ (fun h3 => ?_) (fun h3 => ?_)
  · subst h3
    refine s_tsIn (off := 115) 116 dX7_ofSign_1 (by decide) (by decide) (by decide) (by decide) ?_
    refine s_bipush (31 : Int32) dX7_ofSign_116 (by decide) ?_
    exact s_iret dX7_ofSign_118
  refine s_ite _ (fun h5 => ?_) (fun h5 => ?_)
  · subst h5
    refine s_tsIn (off := 118) 119 dX7_ofSign_1 (by decide) (by decide) (by decide) (by decide) ?_
    refine s_bipush (32 : Int32) dX7_ofSign_119 (by decide) ?_
    exact s_iret dX7_ofSign_121
  refine s_ite _ (fun h19 => ?_) (fun h19 => ?_)
  · subst h19
    refine s_tsIn (off := 124) 125 dX7_ofSign_1 (by decide) (by decide) (by decide) (by decide) ?_
    refine s_bipush (34 : Int32) dX7_ofSign_125 (by decide) ?_
    exact s_iret dX7_ofSign_127
  refine s_ite _ (fun h20 => ?_) (fun h20 => ?_)
  · subst h20
    refine s_tsIn (off := 109) 110 dX7_ofSign_1 (by decide) (by decide) (by decide) (by decide) ?_
    refine s_bipush (29 : Int32) dX7_ofSign_110 (by decide) ?_
    exact s_iret dX7_ofSign_112
  refine s_ite _ (fun h21 => ?_) (fun h21 => ?_)
  · subst h21
    refine s_tsIn (off := 112) 113 dX7_ofSign_1 (by decide) (by decide) (by decide) (by decide) ?_
    refine s_bipush (30 : Int32) dX7_ofSign_113 (by decide) ?_
    exact s_iret dX7_ofSign_115
  refine s_ite _ (fun h4 => ?_) (fun h4 => ?_)
  · subst h4
    refine s_tsIn (off := 127) 128 dX7_ofSign_1 (by decide) (by decide) (by decide) (by decide) ?_
    refine s_bipush (36 : Int32) dX7_ofSign_128 (by decide) ?_
    exact s_iret dX7_ofSign_130
  refine s_ite _ (fun h6 => ?_) (fun h6 => ?_)
  · subst h6
    refine s_tsIn (off := 127) 128 dX7_ofSign_1 (by decide) (by decide) (by decide) (by decide) ?_
    refine s_bipush (36 : Int32) dX7_ofSign_128 (by decide) ?_
    exact s_iret dX7_ofSign_130
  refine s_ite _ (fun h7 => ?_) (fun h7 => ?_)
  · subst h7
    refine s_tsIn (off := 127) 128 dX7_ofSign_1 (by decide) (by decide) (by decide) (by decide) ?_
    refine s_bipush (36 : Int32) dX7_ofSign_128 (by decide) ?_
    exact s_iret dX7_ofSign_130
  refine s_ite _ (fun h8 => ?_) (fun h8 => ?_)
  · subst h8
    refine s_tsIn (off := 127) 128 dX7_ofSign_1 (by decide) (by decide) (by decide) (by decide) ?_
    refine s_bipush (36 : Int32) dX7_ofSign_128 (by decide) ?_
    exact s_iret dX7_ofSign_130
  refine s_ite _ (fun h9 => ?_) (fun h9 => ?_)
  · subst h9
    refine s_tsIn (off := 127) 128 dX7_ofSign_1 (by decide) (by decide) (by decide) (by decide) ?_
    refine s_bipush (36 : Int32) dX7_ofSign_128 (by decide) ?_
    exact s_iret dX7_ofSign_130
  refine s_ite _ (fun h10 => ?_) (fun h10 => ?_)
  · subst h10
    refine s_tsIn (off := 127) 128 dX7_ofSign_1 (by decide) (by decide) (by decide) (by decide) ?_
    refine s_bipush (36 : Int32) dX7_ofSign_128 (by decide) ?_
    exact s_iret dX7_ofSign_130
  refine s_ite _ (fun h11 => ?_) (fun h11 => ?_)
  · subst h11
    refine s_tsIn (off := 127) 128 dX7_ofSign_1 (by decide) (by decide) (by decide) (by decide) ?_
    refine s_bipush (36 : Int32) dX7_ofSign_128 (by decide) ?_
    exact s_iret dX7_ofSign_130
  refine s_ite _ (fun h12 => ?_) (fun h12 => ?_)
  · subst h12
    refine s_tsIn (off := 127) 128 dX7_ofSign_1 (by decide) (by decide) (by decide) (by decide) ?_
    refine s_bipush (36 : Int32) dX7_ofSign_128 (by decide) ?_
    exact s_iret dX7_ofSign_130
  refine s_ite _ (fun h13 => ?_) (fun h13 => ?_)
  · subst h13
    refine s_tsIn (off := 127) 128 dX7_ofSign_1 (by decide) (by decide) (by decide) (by decide) ?_
    refine s_bipush (36 : Int32) dX7_ofSign_128 (by decide) ?_
    exact s_iret dX7_ofSign_130
  refine s_ite _ (fun h14 => ?_) (fun h14 => ?_)
  · subst h14
    refine s_tsIn (off := 127) 128 dX7_ofSign_1 (by decide) (by decide) (by decide) (by decide) ?_
    refine s_bipush (36 : Int32) dX7_ofSign_128 (by decide) ?_
    exact s_iret dX7_ofSign_130
  refine s_ite _ (fun h15 => ?_) (fun h15 => ?_)
  · subst h15
    refine s_tsIn (off := 127) 128 dX7_ofSign_1 (by decide) (by decide) (by decide) (by decide) ?_
    refine s_bipush (36 : Int32) dX7_ofSign_128 (by decide) ?_
    exact s_iret dX7_ofSign_130
  refine s_ite _ (fun h16 => ?_) (fun h16 => ?_)
  · subst h16
    refine s_tsIn (off := 127) 128 dX7_ofSign_1 (by decide) (by decide) (by decide) (by decide) ?_
    refine s_bipush (36 : Int32) dX7_ofSign_128 (by decide) ?_
    exact s_iret dX7_ofSign_130
  refine s_ite _ (fun h17 => ?_) (fun h17 => ?_)
  · subst h17
    refine s_tsIn (off := 127) 128 dX7_ofSign_1 (by decide) (by decide) (by decide) (by decide) ?_
    refine s_bipush (36 : Int32) dX7_ofSign_128 (by decide) ?_
    exact s_iret dX7_ofSign_130
  refine s_ite _ (fun h18 => ?_) (fun h18 => ?_)
  · subst h18
    refine s_tsIn (off := 127) 128 dX7_ofSign_1 (by decide) (by decide) (by decide) (by decide) ?_
    refine s_bipush (36 : Int32) dX7_ofSign_128 (by decide) ?_
    exact s_iret dX7_ofSign_130
  have e0 := lv_neT (a := 40) h0 rfl
  have e1 := lv_neT (a := 41) h1 rfl
  have e2 := lv_neT (a := 42) h2 rfl
  have e3 := lv_neT (a := 43) h3 rfl
  have e5 := lv_neT (a := 45) h5 rfl
  have e19 := lv_neT (a := 59) h19 rfl
  have e20 := lv_neT (a := 60) h20 rfl
  have e21 := lv_neT (a := 61) h21 rfl
  have e4 := lv_neT (a := 44) h4 rfl
  have e6 := lv_neT (a := 46) h6 rfl
  have e7 := lv_neT (a := 47) h7 rfl
  have e8 := lv_neT (a := 48) h8 rfl
  have e9 := lv_neT (a := 49) h9 rfl
  have e10 := lv_neT (a := 50) h10 rfl
  have e11 := lv_neT (a := 51) h11 rfl
  have e12 := lv_neT (a := 52) h12 rfl
  have e13 := lv_neT (a := 53) h13 rfl
  have e14 := lv_neT (a := 54) h14 rfl
  have e15 := lv_neT (a := 55) h15 rfl
  have e16 := lv_neT (a := 56) h16 rfl
  have e17 := lv_neT (a := 57) h17 rfl
  have e18 := lv_neT (a := 58) h18 rfl
  refine s_tsOut 128 dX7_ofSign_1 (by omega) (by decide) ?_
  refine s_bipush (36 : Int32) dX7_ofSign_128 (by decide) ?_
  exact s_iret dX7_ofSign_130
-- X1_step
def f_X1_step_158 (F : Nat)  (S : Mem) : Option (Unit × Mem) :=
  some ((), S)
def f_X1_step_52 (F : Nat) (x0 : Nat) (S : Mem) : Option (Unit × Mem) :=
  (gI S 1 3 x0).bind fun v1 =>
  (sI S 1 4 x0 v1).bind fun S2 =>
  (gI S2 1 3 x0).bind fun v3 =>
  (gI S2 1 2 x0).bind fun v4 =>
  if v3 < v4 then
    (gR S2 1 0 x0).bind fun v5 =>
    (gI S2 1 3 x0).bind fun v6 =>
    (gA S2 9 v5 v6).bind fun v7 =>
    bd ((fn_X1_isLetter F v7 S2)) fun v8 S9 =>
    if v8 = 0 then
      (gR S9 1 0 x0).bind fun v10 =>
      (gI S9 1 3 x0).bind fun v11 =>
      (gA S9 9 v10 v11).bind fun v12 =>
      bd ((fn_X1_isDigit F v12 S9)) fun v13 S14 =>
      if v13 = 0 then
        (gR S14 1 0 x0).bind fun v15 =>
        (gI S14 1 3 x0).bind fun v16 =>
        (gA S14 9 v15 v16).bind fun v17 =>
        bd ((fn_X7_ofSign F v17 S14)) fun v18 S19 =>
        (sI S19 1 5 x0 v18).bind fun S20 =>
        (gI S20 1 3 x0).bind fun v21 =>
        (sI S20 1 3 x0 (v21 + (1 : Int32))).bind fun S22 =>
        f_X1_step_158 F   S22
      else
        bd (cal S14 1 x0 (fn_X1_stepNumber F x0 S14)) fun v23 S24 =>
        (sI S24 1 5 x0 v23).bind fun S25 =>
        f_X1_step_158 F   S25
    else
      bd (cal S9 1 x0 (fn_X1_stepWord F x0 S9)) fun v26 S27 =>
      (sI S27 1 5 x0 v26).bind fun S28 =>
      f_X1_step_158 F   S28
  else
    (sI S2 1 5 x0 (35 : Int32)).bind fun S29 =>
    f_X1_step_158 F   S29
def f_X1_step_39 (F : Nat) (k0 : Nat → Mem → Option (Unit × Mem)) (x0 : Nat) (S : Mem) : Option (Unit × Mem) :=
  (gI S 1 3 x0).bind fun v1 =>
  (sI S 1 3 x0 (v1 + (1 : Int32))).bind fun S2 =>
  k0 x0 S2
def b_X1_step_0 (F : Nat) (k0 : Nat → Mem → Option (Unit × Mem)) (x0 : Nat) (S : Mem) : Option (Unit × Mem) :=
  (gI S 1 3 x0).bind fun v1 =>
  (gI S 1 2 x0).bind fun v2 =>
  if v2 ≤ v1 then
    f_X1_step_52 F x0  S
  else
    (gR S 1 0 x0).bind fun v3 =>
    (gI S 1 3 x0).bind fun v4 =>
    (gA S 9 v3 v4).bind fun v5 =>
    if v5 = (32 : Int32) then
      f_X1_step_39 F k0 x0  S
    else
      (gR S 1 0 x0).bind fun v6 =>
      (gI S 1 3 x0).bind fun v7 =>
      (gA S 9 v6 v7).bind fun v8 =>
      if v8 = (10 : Int32) then
        f_X1_step_39 F k0 x0  S
      else
        f_X1_step_52 F x0  S
def fn_X1_step (F : Nat) (x0 : Nat) (S : Mem) : Option (Unit × Mem) :=
  fix1 (b_X1_step_0 F) F x0 S
set_option maxRecDepth 100000 in
theorem t_X1_step_158 {Γ : Cx} {F : Nat} : ∀ (S : Mem), Sim cX1_step RX1 2 43 none false Γ rV (f_X1_step_158 F  S) S 158 [none] [] := by
  intro  S
  unfold f_X1_step_158
  exact s_vret dX1_step_158
set_option maxRecDepth 100000 in
theorem t_X1_step_52 {Γ : Cx} {F : Nat} : ∀ (x0 : Nat) (S : Mem), Sim cX1_step RX1 2 43 none false Γ rV (f_X1_step_52 F x0 S) S 52 [some (.ref x0)] [] := by
  intro x0 S
  unfold f_X1_step_52
  refine s_aload_n 0 dX1_step_52 rfl rfl ?_
  refine s_aload_n 0 dX1_step_53 rfl rfl ?_
  refine s_getI fk_X1_44 rfl dX1_step_54 (fun v1 => ?_)
  refine s_putI fk_X1_50 (Or.inl rfl) rfl dX1_step_57 (fun S2 => ?_)
  refine s_aload_n 0 dX1_step_60 rfl rfl ?_
  refine s_getI fk_X1_44 rfl dX1_step_61 (fun v3 => ?_)
  refine s_aload_n 0 dX1_step_64 rfl rfl ?_
  refine s_getI fk_X1_41 rfl dX1_step_65 (fun v4 => ?_)
  refine s_icmp_lt 80 dX1_step_68 (by decide) (fun _ => ?_) (fun _ => ?_)
  · refine s_aload_n 0 dX1_step_80 rfl rfl ?_
    refine s_getR fk_X1_7 rfl dX1_step_81 (fun v5 => ?_)
    refine s_aload_n 0 dX1_step_84 rfl rfl ?_
    refine s_getI fk_X1_44 rfl dX1_step_85 (fun v6 => ?_)
    refine s_bald dX1_step_88 (fun v7 => ?_)
    refine s_cS1I mk_X1_56 (fun v9 S9 h9 => con_X1_isLetter F _ _ v9 S9 h9) ⟨by omega, by omega⟩ (Nat.le_of_ble_eq_true rfl) dX1_step_89 (fun v8 S9 => ?_)
    refine s_if_eq 106 dX1_step_92 (by decide) (fun _ => ?_) (fun _ => ?_)
    · refine s_aload_n 0 dX1_step_106 rfl rfl ?_
      refine s_getR fk_X1_7 rfl dX1_step_107 (fun v10 => ?_)
      refine s_aload_n 0 dX1_step_110 rfl rfl ?_
      refine s_getI fk_X1_44 rfl dX1_step_111 (fun v11 => ?_)
      refine s_bald dX1_step_114 (fun v12 => ?_)
      refine s_cS1I mk_X1_63 (fun v9 S9 h9 => con_X1_isDigit F _ _ v9 S9 h9) ⟨by omega, by omega⟩ (Nat.le_of_ble_eq_true rfl) dX1_step_115 (fun v13 S14 => ?_)
      refine s_if_eq 132 dX1_step_118 (by decide) (fun _ => ?_) (fun _ => ?_)
      · refine s_aload_n 0 dX1_step_132 rfl rfl ?_
        refine s_aload_n 0 dX1_step_133 rfl rfl ?_
        refine s_getR fk_X1_7 rfl dX1_step_134 (fun v15 => ?_)
        refine s_aload_n 0 dX1_step_137 rfl rfl ?_
        refine s_getI fk_X1_44 rfl dX1_step_138 (fun v16 => ?_)
        refine s_bald dX1_step_141 (fun v17 => ?_)
        refine s_cS1I mk_X1_69 (fun v9 S9 h9 => con_X7_ofSign F _ _ v9 S9 h9) ⟨by omega, by omega⟩ (Nat.le_of_ble_eq_true rfl) dX1_step_142 (fun v18 S19 => ?_)
        refine s_putI fk_X1_53 (Or.inl rfl) rfl dX1_step_145 (fun S20 => ?_)
        refine s_aload_n 0 dX1_step_148 rfl rfl ?_
        refine s_dup dX1_step_149 rfl ?_
        refine s_getI fk_X1_44 rfl dX1_step_150 (fun v21 => ?_)
        refine s_iconst (1 : Int32) dX1_step_153 (by decide) ?_
        refine s_iadd dX1_step_154 ?_
        refine s_putI fk_X1_44 (Or.inl rfl) rfl dX1_step_155 (fun S22 => ?_)
        exact s_less (t_X1_step_158   S22) trivial
      · refine s_aload_n 0 dX1_step_121 rfl rfl ?_
        refine s_aload_n 0 dX1_step_122 rfl rfl ?_
        refine s_cV0I mk_X1_66 (by decide) rfl (fun v9 S9 h9 => con_X1_stepNumber F _ _ v9 S9 h9) ⟨by omega, by omega⟩ (Nat.le_of_ble_eq_true rfl) dX1_step_123 (fun v23 S24 => ?_)
        refine s_putI fk_X1_53 (Or.inl rfl) rfl dX1_step_126 (fun S25 => ?_)
        refine s_goto 158 dX1_step_129 (by decide) ?_
        exact s_less (t_X1_step_158   S25) trivial
    · refine s_aload_n 0 dX1_step_95 rfl rfl ?_
      refine s_aload_n 0 dX1_step_96 rfl rfl ?_
      refine s_cV0I mk_X1_60 (by decide) rfl (fun v9 S9 h9 => con_X1_stepWord F _ _ v9 S9 h9) ⟨by omega, by omega⟩ (Nat.le_of_ble_eq_true rfl) dX1_step_97 (fun v26 S27 => ?_)
      refine s_putI fk_X1_53 (Or.inl rfl) rfl dX1_step_100 (fun S28 => ?_)
      refine s_goto 158 dX1_step_103 (by decide) ?_
      exact s_less (t_X1_step_158   S28) trivial
  · refine s_aload_n 0 dX1_step_71 rfl rfl ?_
    refine s_bipush (35 : Int32) dX1_step_72 (by decide) ?_
    refine s_putI fk_X1_53 (Or.inl rfl) rfl dX1_step_74 (fun S29 => ?_)
    refine s_goto 158 dX1_step_77 (by decide) ?_
    exact s_less (t_X1_step_158   S29) trivial
set_option maxRecDepth 100000 in
theorem t_X1_step_39 {Γ : Cx} {F : Nat} {k0 : Nat → Mem → Option (Unit × Mem)} (hk0 : ∀ (x0 : Nat) (S : Mem), Sim cX1_step RX1 2 43 none false Γ rV (k0 x0 S) S 0 [some (.ref x0)] []) : ∀ (x0 : Nat) (S : Mem), Sim cX1_step RX1 2 43 none false Γ rV (f_X1_step_39 F k0 x0 S) S 39 [some (.ref x0)] [] := by
  intro x0 S
  unfold f_X1_step_39
  refine s_aload_n 0 dX1_step_39 rfl rfl ?_
  refine s_dup dX1_step_40 rfl ?_
  refine s_getI fk_X1_44 rfl dX1_step_41 (fun v1 => ?_)
  refine s_iconst (1 : Int32) dX1_step_44 (by decide) ?_
  refine s_iadd dX1_step_45 ?_
  refine s_putI fk_X1_44 (Or.inl rfl) rfl dX1_step_46 (fun S2 => ?_)
  refine s_goto 0 dX1_step_49 (by decide) ?_
  exact s_less (hk0 x0 S2) (And.intro rfl trivial)
set_option maxRecDepth 100000 in
theorem t_X1_step_0 {Γ : Cx} {F : Nat} : ∀ (f : Nat) (x0 : Nat) (S : Mem), Sim cX1_step RX1 2 43 none false Γ rV (fix1 (b_X1_step_0 F) f x0 S) S 0 [some (.ref x0)] [] := by
  refine s_fix1 (fun (x0 : Nat) => [some (.ref x0)]) (fun k0 hk0 => ?_)
  intro x0 S
  unfold b_X1_step_0
  refine s_aload_n 0 dX1_step_0 rfl rfl ?_
  refine s_getI fk_X1_44 rfl dX1_step_1 (fun v1 => ?_)
  refine s_aload_n 0 dX1_step_4 rfl rfl ?_
  refine s_getI fk_X1_41 rfl dX1_step_5 (fun v2 => ?_)
  refine s_icmp_ge 52 dX1_step_8 (by decide) (fun _ => ?_) (fun _ => ?_)
  · exact s_less (t_X1_step_52 x0  S) (And.intro rfl trivial)
  · refine s_aload_n 0 dX1_step_11 rfl rfl ?_
    refine s_getR fk_X1_7 rfl dX1_step_12 (fun v3 => ?_)
    refine s_aload_n 0 dX1_step_15 rfl rfl ?_
    refine s_getI fk_X1_44 rfl dX1_step_16 (fun v4 => ?_)
    refine s_bald dX1_step_19 (fun v5 => ?_)
    refine s_bipush (32 : Int32) dX1_step_20 (by decide) ?_
    refine s_icmp_eq 39 dX1_step_22 (by decide) (fun _ => ?_) (fun _ => ?_)
    · exact s_less (t_X1_step_39 hk0 x0  S) (And.intro rfl trivial)
    · refine s_aload_n 0 dX1_step_25 rfl rfl ?_
      refine s_getR fk_X1_7 rfl dX1_step_26 (fun v6 => ?_)
      refine s_aload_n 0 dX1_step_29 rfl rfl ?_
      refine s_getI fk_X1_44 rfl dX1_step_30 (fun v7 => ?_)
      refine s_bald dX1_step_33 (fun v8 => ?_)
      refine s_bipush (10 : Int32) dX1_step_34 (by decide) ?_
      refine s_icmp_ne 52 dX1_step_36 (by decide) (fun _ => ?_) (fun _ => ?_)
      · exact s_less (t_X1_step_52 x0  S) (And.intro rfl trivial)
      · exact s_less (t_X1_step_39 hk0 x0  S) (And.intro rfl trivial)
set_option maxRecDepth 100000 in
theorem con_X1_step {l : Launch} (F : Nat) (x0 : Nat) (S : Mem) (v : Unit) (S1 : Mem) (h : fn_X1_step F x0 S = some (v, S1)) : Con l yX1_step cX1_step 1 none 2 43 [.ref x0] S (rV v) S1 := by
  refine con_of (ι := rV) RX1 false [some (.ref x0)] rfl (fun h => by cases h) (by decide) (Nat.le_of_ble_eq_true rfl) ⟨rfl, rfl⟩ (fun Γ hl => ?_) h
  unfold fn_X1_step
  exact s_less (t_X1_step_0 F x0 S) (And.intro rfl trivial)
-- X1_open
def fn_X1_open (F : Nat) (x0 : Nat) (x1 : Nat) (x2 : Int32) (S : Mem) : Option (Unit × Mem) :=
  (sR S 1 0 x0 x1).bind fun S1 =>
  (gLen S1 x1).bind fun v2 =>
  bd ((fn_X8_clamped F x2 (0 : Int32) v2 S1)) fun v3 S4 =>
  (sI S4 1 2 x0 v3).bind fun S5 =>
  (sI S5 1 3 x0 (0 : Int32)).bind fun S6 =>
  bd (cal S6 1 x0 (fn_X1_step F x0 S6)) fun _ S8 =>
  some ((), S8)
set_option maxRecDepth 100000 in
theorem con_X1_open {l : Launch} (F : Nat) (x0 : Nat) (x1 : Nat) (x2 : Int32) (S : Mem) (v : Unit) (S1 : Mem) (h : fn_X1_open F x0 x1 x2 S = some (v, S1)) : Con l yX1_open cX1_open 3 none 3 63 [.ref x0, .ref x1, .int x2] S (rV v) S1 := by
  refine con_of (ι := rV) RX1 false [some (.ref x0), some (.ref x1), some (.int x2)] rfl (fun h => by cases h) (by decide) (Nat.le_of_ble_eq_true rfl) ⟨rfl, rfl⟩ (fun Γ hl => ?_) h
  unfold fn_X1_open
  refine s_aload_n 0 dX1_open_0 rfl rfl ?_
  refine s_aload_n 1 dX1_open_1 rfl rfl ?_
  refine s_putR fk_X1_7 (Or.inl rfl) rfl dX1_open_2 (fun S1 => ?_)
  refine s_aload_n 0 dX1_open_5 rfl rfl ?_
  refine s_iload_n 2 dX1_open_6 rfl rfl ?_
  refine s_iconst (0 : Int32) dX1_open_7 (by decide) ?_
  refine s_aload_n 1 dX1_open_8 rfl rfl ?_
  refine s_alen dX1_open_9 (fun v2 => ?_)
  refine s_cSN3I mk_X1_35 (fun v9 S9 h9 => con_X8_clamped F _ _ _ _ v9 S9 h9) ⟨by omega, by omega⟩ (Nat.le_of_ble_eq_true rfl) dX1_open_10 (fun v3 S4 => ?_)
  refine s_putI fk_X1_41 (Or.inl rfl) rfl dX1_open_13 (fun S5 => ?_)
  refine s_aload_n 0 dX1_open_16 rfl rfl ?_
  refine s_iconst (0 : Int32) dX1_open_17 (by decide) ?_
  refine s_putI fk_X1_44 (Or.inl rfl) rfl dX1_open_18 (fun S6 => ?_)
  refine s_aload_n 0 dX1_open_21 rfl rfl ?_
  refine s_cV0V mk_X1_47 (by decide) rfl (fun v9 S9 h9 => con_X1_step F _ _ v9 S9 h9) ⟨by omega, by omega⟩ (Nat.le_of_ble_eq_true rfl) dX1_open_22 (fun _ S8 => ?_)
  exact s_vret dX1_open_25
-- X1_close
def fn_X1_close (F : Nat) (x0 : Nat) (S : Mem) : Option (Unit × Mem) :=
  (gI S 1 2 x0).bind fun v1 =>
  (sI S 1 3 x0 v1).bind fun S2 =>
  (gI S2 1 2 x0).bind fun v3 =>
  (sI S2 1 4 x0 v3).bind fun S4 =>
  (sI S4 1 5 x0 (35 : Int32)).bind fun S5 =>
  some ((), S5)
set_option maxRecDepth 100000 in
theorem con_X1_close {l : Launch} (F : Nat) (x0 : Nat) (S : Mem) (v : Unit) (S1 : Mem) (h : fn_X1_close F x0 S = some (v, S1)) : Con l yX1_close cX1_close 1 none 0 0 [.ref x0] S (rV v) S1 := by
  refine con_of (ι := rV) RX1 false [some (.ref x0)] rfl (fun h => by cases h) (by decide) (Nat.le_of_ble_eq_true rfl) ⟨rfl, rfl⟩ (fun Γ hl => ?_) h
  unfold fn_X1_close
  refine s_aload_n 0 dX1_close_0 rfl rfl ?_
  refine s_aload_n 0 dX1_close_1 rfl rfl ?_
  refine s_getI fk_X1_41 rfl dX1_close_2 (fun v1 => ?_)
  refine s_putI fk_X1_44 (Or.inl rfl) rfl dX1_close_5 (fun S2 => ?_)
  refine s_aload_n 0 dX1_close_8 rfl rfl ?_
  refine s_aload_n 0 dX1_close_9 rfl rfl ?_
  refine s_getI fk_X1_41 rfl dX1_close_10 (fun v3 => ?_)
  refine s_putI fk_X1_50 (Or.inl rfl) rfl dX1_close_13 (fun S4 => ?_)
  refine s_aload_n 0 dX1_close_16 rfl rfl ?_
  refine s_bipush (35 : Int32) dX1_close_17 (by decide) ?_
  refine s_putI fk_X1_53 (Or.inl rfl) rfl dX1_close_19 (fun S5 => ?_)
  exact s_vret dX1_close_22
-- X2_init
def fn_X2_init (F : Nat) (x0 : Nat) (x1 : Nat) (S : Mem) : Option (Unit × Mem) :=
  bd (nA S 10 (6 : Int32)) fun v1 S2 =>
  (sR S2 2 4 x0 v1).bind fun S3 =>
  bd (nA S3 10 (6 : Int32)) fun v4 S5 =>
  (sR S5 2 5 x0 v4).bind fun S6 =>
  bd (nA S6 10 (6 : Int32)) fun v7 S8 =>
  (sR S8 2 6 x0 v7).bind fun S9 =>
  bd (nA S9 10 (10 : Int32)) fun v10 S11 =>
  (sR S11 2 7 x0 v10).bind fun S12 =>
  bd (nA S12 10 (10 : Int32)) fun v13 S14 =>
  (sR S14 2 8 x0 v13).bind fun S15 =>
  bd (nA S15 10 (10 : Int32)) fun v16 S17 =>
  (sR S17 2 9 x0 v16).bind fun S18 =>
  (sR S18 2 0 x0 x1).bind fun S19 =>
  some ((), S19)
set_option maxRecDepth 100000 in
theorem con_X2_init {l : Launch} (F : Nat) (x0 : Nat) (x1 : Nat) (S : Mem) (v : Unit) (S1 : Mem) (h : fn_X2_init F x0 x1 S = some (v, S1)) : Con l yX2_init cX2_init 2 none 1 28 [.ref x0, .ref x1] S (rV v) S1 := by
  refine con_of (ι := rV) RX2 true [some (.ref x0), some (.ref x1)] rfl (fun _ => rfl) (by decide) (Nat.le_of_ble_eq_true rfl) ⟨rfl, rfl⟩ (fun Γ hl => ?_) h
  unfold fn_X2_init
  refine s_aload_n 0 dX2_init_0 rfl rfl ?_
  refine s_objInit (lw_in 422 (by decide +kernel) (by decide +kernel)) (lw_in 108 (by decide +kernel) (by decide +kernel)) (lw_in 109 (by decide +kernel) (by decide +kernel)) ⟨by omega, by show _ + 12 ≤ _; simp [Value.category] <;> omega⟩ dX2_init_1 ?_
  refine s_aload_n 0 dX2_init_4 rfl rfl ?_
  refine s_bipush (6 : Int32) dX2_init_5 (by decide) ?_
  refine s_newa10 (lw_in 185 (by decide +kernel) (by decide +kernel)) dX2_init_7 (fun v1 S2 => ?_)
  refine s_putR fk_X2_9 (Or.inr ⟨rfl, rfl, rfl⟩) rfl dX2_init_9 (fun S3 => ?_)
  refine s_aload_n 0 dX2_init_12 rfl rfl ?_
  refine s_bipush (6 : Int32) dX2_init_13 (by decide) ?_
  refine s_newa10 (lw_in 185 (by decide +kernel) (by decide +kernel)) dX2_init_15 (fun v4 S5 => ?_)
  refine s_putR fk_X2_15 (Or.inr ⟨rfl, rfl, rfl⟩) rfl dX2_init_17 (fun S6 => ?_)
  refine s_aload_n 0 dX2_init_20 rfl rfl ?_
  refine s_bipush (6 : Int32) dX2_init_21 (by decide) ?_
  refine s_newa10 (lw_in 185 (by decide +kernel) (by decide +kernel)) dX2_init_23 (fun v7 S8 => ?_)
  refine s_putR fk_X2_18 (Or.inr ⟨rfl, rfl, rfl⟩) rfl dX2_init_25 (fun S9 => ?_)
  refine s_aload_n 0 dX2_init_28 rfl rfl ?_
  refine s_bipush (10 : Int32) dX2_init_29 (by decide) ?_
  refine s_newa10 (lw_in 185 (by decide +kernel) (by decide +kernel)) dX2_init_31 (fun v10 S11 => ?_)
  refine s_putR fk_X2_21 (Or.inr ⟨rfl, rfl, rfl⟩) rfl dX2_init_33 (fun S12 => ?_)
  refine s_aload_n 0 dX2_init_36 rfl rfl ?_
  refine s_bipush (10 : Int32) dX2_init_37 (by decide) ?_
  refine s_newa10 (lw_in 185 (by decide +kernel) (by decide +kernel)) dX2_init_39 (fun v13 S14 => ?_)
  refine s_putR fk_X2_24 (Or.inr ⟨rfl, rfl, rfl⟩) rfl dX2_init_41 (fun S15 => ?_)
  refine s_aload_n 0 dX2_init_44 rfl rfl ?_
  refine s_bipush (10 : Int32) dX2_init_45 (by decide) ?_
  refine s_newa10 (lw_in 185 (by decide +kernel) (by decide +kernel)) dX2_init_47 (fun v16 S17 => ?_)
  refine s_putR fk_X2_27 (Or.inr ⟨rfl, rfl, rfl⟩) rfl dX2_init_49 (fun S18 => ?_)
  refine s_aload_n 0 dX2_init_52 rfl rfl ?_
  refine s_aload_n 1 dX2_init_53 rfl rfl ?_
  refine s_putR fk_X2_30 (Or.inl rfl) rfl dX2_init_54 (fun S19 => ?_)
  exact s_vret dX2_init_57
-- J7_fill_53178
def b_J7_fill_53178_5 (F : Nat) (k5 : Nat → Int32 → Int32 → Int32 → Mem → Option (Unit × Mem)) (x0 : Nat) (x1 : Int32) (x2 : Int32) (x3 : Int32) (S : Mem) : Option (Unit × Mem) :=
  if x3 ≤ x2 then
    some ((), S)
  else
    (sA S x0 x2 x1).bind fun S1 =>
    k5 x0 x1 (x2 + (1 : Int32)) x3 S1
def fn_J7_fill_53178 (F : Nat) (x0 : Nat) (x1 : Int32) (S : Mem) : Option (Unit × Mem) :=
  (gLen S x0).bind fun v1 =>
  fix4 (b_J7_fill_53178_5 F) F x0 x1 (0 : Int32) v1 S
set_option maxRecDepth 100000 in
theorem t_J7_fill_53178_5 {Γ : Cx} {F : Nat} : ∀ (f : Nat) (x0 : Nat) (x1 : Int32) (x2 : Int32) (x3 : Int32) (S : Mem), Sim cJ7_fill_53178 RJ7 0 0 none false Γ rV (fix4 (b_J7_fill_53178_5 F) f x0 x1 x2 x3 S) S 5 [some (.ref x0), some (.int x1), some (.int x2), some (.int x3)] [] := by
  refine s_fix4 (fun (x0 : Nat) (x1 : Int32) (x2 : Int32) (x3 : Int32) => [some (.ref x0), some (.int x1), some (.int x2), some (.int x3)]) (fun k5 hk5 => ?_)
  intro x0 x1 x2 x3 S
  unfold b_J7_fill_53178_5
  refine s_iload_n 2 dJ7_fill_53178_5 rfl rfl ?_
  refine s_iload_n 3 dJ7_fill_53178_6 rfl rfl ?_
  refine s_icmp_ge 20 dJ7_fill_53178_7 (by decide) (fun _ => ?_) (fun _ => ?_)
  · exact s_vret dJ7_fill_53178_20
  · refine s_aload_n 0 dJ7_fill_53178_10 rfl rfl ?_
    refine s_iload_n 2 dJ7_fill_53178_11 rfl rfl ?_
    refine s_iload_n 1 dJ7_fill_53178_12 rfl rfl ?_
    refine s_iast dJ7_fill_53178_13 (fun S1 => ?_)
    refine s_iinc_2 (1 : Int32) dJ7_fill_53178_14 (by decide) rfl ?_
    refine s_goto 5 dJ7_fill_53178_17 (by decide) ?_
    exact s_less (hk5 x0 x1 (x2 + (1 : Int32)) x3 S1) (And.intro rfl (And.intro rfl (And.intro rfl (And.intro rfl trivial))))
set_option maxRecDepth 100000 in
theorem con_J7_fill_53178 {l : Launch} (F : Nat) (x0 : Nat) (x1 : Int32) (S : Mem) (v : Unit) (S1 : Mem) (h : fn_J7_fill_53178 F x0 x1 S = some (v, S1)) : Con l yJ7_fill_53178 cJ7_fill_53178 4 none 0 0 [.ref x0, .int x1] S (rV v) S1 := by
  refine con_of (ι := rV) RJ7 false [some (.ref x0), some (.int x1), none, none] rfl (fun h => by cases h) (by decide) (Nat.le_of_ble_eq_true rfl) ⟨rfl, rfl⟩ (fun Γ hl => ?_) h
  unfold fn_J7_fill_53178
  refine s_iconst (0 : Int32) dJ7_fill_53178_0 (by decide) ?_
  refine s_istore_2 dJ7_fill_53178_1 rfl ?_
  refine s_aload_n 0 dJ7_fill_53178_2 rfl rfl ?_
  refine s_alen dJ7_fill_53178_3 (fun v1 => ?_)
  refine s_istore_3 dJ7_fill_53178_4 rfl ?_
  exact s_less (t_J7_fill_53178_5 F x0 x1 (0 : Int32) v1 S) (And.intro rfl (And.intro rfl (And.intro rfl (And.intro rfl trivial))))
-- X2_begin
def fn_X2_begin (F : Nat) (x0 : Nat) (x1 : Nat) (S : Mem) : Option (Unit × Mem) :=
  (sR S 2 0 x0 x1).bind fun S1 =>
  (sI S1 2 1 x0 (0 : Int32)).bind fun S2 =>
  (sI S2 2 2 x0 (0 : Int32)).bind fun S3 =>
  (sI S3 2 3 x0 (0 : Int32)).bind fun S4 =>
  (gR S4 5 5 x1).bind fun v5 =>
  (gR S4 2 4 x0).bind fun v6 =>
  (acp S4 v5 (0 : Int32) v6 (0 : Int32) (6 : Int32)).bind fun S7 =>
  (gR S7 2 5 x0).bind fun v8 =>
  bd ((fn_J7_fill_53178 F v8 (-1 : Int32) S7)) fun _ S10 =>
  (gR S10 2 6 x0).bind fun v11 =>
  bd ((fn_J7_fill_53178 F v11 (0 : Int32) S10)) fun _ S13 =>
  some ((), S13)
set_option maxRecDepth 100000 in
theorem con_X2_begin {l : Launch} (F : Nat) (x0 : Nat) (x1 : Nat) (S : Mem) (v : Unit) (S1 : Mem) (h : fn_X2_begin F x0 x1 S = some (v, S1)) : Con l yX2_begin cX2_begin 2 none 1 60 [.ref x0, .ref x1] S (rV v) S1 := by
  refine con_of (ι := rV) RX2 false [some (.ref x0), some (.ref x1)] rfl (fun h => by cases h) (by decide) (Nat.le_of_ble_eq_true rfl) ⟨rfl, rfl⟩ (fun Γ hl => ?_) h
  unfold fn_X2_begin
  refine s_aload_n 0 dX2_begin_0 rfl rfl ?_
  refine s_aload_n 1 dX2_begin_1 rfl rfl ?_
  refine s_putR fk_X2_30 (Or.inl rfl) rfl dX2_begin_2 (fun S1 => ?_)
  refine s_aload_n 0 dX2_begin_5 rfl rfl ?_
  refine s_iconst (0 : Int32) dX2_begin_6 (by decide) ?_
  refine s_putI fk_X2_34 (Or.inl rfl) rfl dX2_begin_7 (fun S2 => ?_)
  refine s_aload_n 0 dX2_begin_10 rfl rfl ?_
  refine s_iconst (0 : Int32) dX2_begin_11 (by decide) ?_
  refine s_putI fk_X2_38 (Or.inl rfl) rfl dX2_begin_12 (fun S3 => ?_)
  refine s_aload_n 0 dX2_begin_15 rfl rfl ?_
  refine s_iconst (0 : Int32) dX2_begin_16 (by decide) ?_
  refine s_putI fk_X2_41 (Or.inl rfl) rfl dX2_begin_17 (fun S4 => ?_)
  refine s_aload_n 1 dX2_begin_20 rfl rfl ?_
  refine s_getR fk_X2_44 rfl dX2_begin_21 (fun v5 => ?_)
  refine s_iconst (0 : Int32) dX2_begin_24 (by decide) ?_
  refine s_aload_n 0 dX2_begin_25 rfl rfl ?_
  refine s_getR fk_X2_9 rfl dX2_begin_26 (fun v6 => ?_)
  refine s_iconst (0 : Int32) dX2_begin_29 (by decide) ?_
  refine s_bipush (6 : Int32) dX2_begin_30 (by decide) ?_
  refine s_acopy (lw_in 638 (by decide +kernel) (by decide +kernel)) (lw_in 633 (by decide +kernel) (by decide +kernel)) (lw_in 632 (by decide +kernel) (by decide +kernel)) (lw_in 95 (by decide +kernel) (by decide +kernel)) ⟨by omega, by simp [Value.category] <;> omega⟩ dX2_begin_32 (fun S7 => ?_)
  refine s_aload_n 0 dX2_begin_35 rfl rfl ?_
  refine s_getR fk_X2_15 rfl dX2_begin_36 (fun v8 => ?_)
  refine s_iconst (-1 : Int32) dX2_begin_39 (by decide) ?_
  refine s_cS2V mk_X2_53 (fun v9 S9 h9 => con_J7_fill_53178 F _ _ _ v9 S9 h9) ⟨by omega, by omega⟩ (Nat.le_of_ble_eq_true rfl) dX2_begin_40 (fun _ S10 => ?_)
  refine s_aload_n 0 dX2_begin_43 rfl rfl ?_
  refine s_getR fk_X2_18 rfl dX2_begin_44 (fun v11 => ?_)
  refine s_iconst (0 : Int32) dX2_begin_47 (by decide) ?_
  refine s_cS2V mk_X2_53 (fun v9 S9 h9 => con_J7_fill_53178 F _ _ _ v9 S9 h9) ⟨by omega, by omega⟩ (Nat.le_of_ble_eq_true rfl) dX2_begin_48 (fun _ S13 => ?_)
  exact s_vret dX2_begin_51
-- X2_take
def fn_X2_take (F : Nat) (x0 : Nat) (x1 : Nat) (S : Mem) : Option (Unit × Mem) :=
  (gR S 2 0 x1).bind fun v1 =>
  (sR S 2 0 x0 v1).bind fun S2 =>
  (gI S2 2 1 x1).bind fun v3 =>
  (sI S2 2 1 x0 v3).bind fun S4 =>
  (gI S4 2 2 x1).bind fun v5 =>
  (sI S4 2 2 x0 v5).bind fun S6 =>
  (gI S6 2 3 x1).bind fun v7 =>
  (sI S6 2 3 x0 v7).bind fun S8 =>
  (gR S8 2 4 x1).bind fun v9 =>
  (gR S8 2 4 x0).bind fun v10 =>
  (acp S8 v9 (0 : Int32) v10 (0 : Int32) (6 : Int32)).bind fun S11 =>
  (gR S11 2 5 x1).bind fun v12 =>
  (gR S11 2 5 x0).bind fun v13 =>
  (acp S11 v12 (0 : Int32) v13 (0 : Int32) (6 : Int32)).bind fun S14 =>
  (gR S14 2 6 x1).bind fun v15 =>
  (gR S14 2 6 x0).bind fun v16 =>
  (acp S14 v15 (0 : Int32) v16 (0 : Int32) (6 : Int32)).bind fun S17 =>
  (gR S17 2 7 x1).bind fun v18 =>
  (gR S17 2 7 x0).bind fun v19 =>
  (acp S17 v18 (0 : Int32) v19 (0 : Int32) (10 : Int32)).bind fun S20 =>
  (gR S20 2 8 x1).bind fun v21 =>
  (gR S20 2 8 x0).bind fun v22 =>
  (acp S20 v21 (0 : Int32) v22 (0 : Int32) (10 : Int32)).bind fun S23 =>
  (gR S23 2 9 x1).bind fun v24 =>
  (gR S23 2 9 x0).bind fun v25 =>
  (acp S23 v24 (0 : Int32) v25 (0 : Int32) (10 : Int32)).bind fun S26 =>
  some ((), S26)
set_option maxRecDepth 100000 in
theorem con_X2_take {l : Launch} (F : Nat) (x0 : Nat) (x1 : Nat) (S : Mem) (v : Unit) (S1 : Mem) (h : fn_X2_take F x0 x1 S = some (v, S1)) : Con l yX2_take cX2_take 2 none 1 60 [.ref x0, .ref x1] S (rV v) S1 := by
  refine con_of (ι := rV) RX2 false [some (.ref x0), some (.ref x1)] rfl (fun h => by cases h) (by decide) (Nat.le_of_ble_eq_true rfl) ⟨rfl, rfl⟩ (fun Γ hl => ?_) h
  unfold fn_X2_take
  refine s_aload_n 0 dX2_take_0 rfl rfl ?_
  refine s_aload_n 1 dX2_take_1 rfl rfl ?_
  refine s_getR fk_X2_30 rfl dX2_take_2 (fun v1 => ?_)
  refine s_putR fk_X2_30 (Or.inl rfl) rfl dX2_take_5 (fun S2 => ?_)
  refine s_aload_n 0 dX2_take_8 rfl rfl ?_
  refine s_aload_n 1 dX2_take_9 rfl rfl ?_
  refine s_getI fk_X2_34 rfl dX2_take_10 (fun v3 => ?_)
  refine s_putI fk_X2_34 (Or.inl rfl) rfl dX2_take_13 (fun S4 => ?_)
  refine s_aload_n 0 dX2_take_16 rfl rfl ?_
  refine s_aload_n 1 dX2_take_17 rfl rfl ?_
  refine s_getI fk_X2_38 rfl dX2_take_18 (fun v5 => ?_)
  refine s_putI fk_X2_38 (Or.inl rfl) rfl dX2_take_21 (fun S6 => ?_)
  refine s_aload_n 0 dX2_take_24 rfl rfl ?_
  refine s_aload_n 1 dX2_take_25 rfl rfl ?_
  refine s_getI fk_X2_41 rfl dX2_take_26 (fun v7 => ?_)
  refine s_putI fk_X2_41 (Or.inl rfl) rfl dX2_take_29 (fun S8 => ?_)
  refine s_aload_n 1 dX2_take_32 rfl rfl ?_
  refine s_getR fk_X2_9 rfl dX2_take_33 (fun v9 => ?_)
  refine s_iconst (0 : Int32) dX2_take_36 (by decide) ?_
  refine s_aload_n 0 dX2_take_37 rfl rfl ?_
  refine s_getR fk_X2_9 rfl dX2_take_38 (fun v10 => ?_)
  refine s_iconst (0 : Int32) dX2_take_41 (by decide) ?_
  refine s_bipush (6 : Int32) dX2_take_42 (by decide) ?_
  refine s_acopy (lw_in 638 (by decide +kernel) (by decide +kernel)) (lw_in 633 (by decide +kernel) (by decide +kernel)) (lw_in 632 (by decide +kernel) (by decide +kernel)) (lw_in 95 (by decide +kernel) (by decide +kernel)) ⟨by omega, by simp [Value.category] <;> omega⟩ dX2_take_44 (fun S11 => ?_)
  refine s_aload_n 1 dX2_take_47 rfl rfl ?_
  refine s_getR fk_X2_15 rfl dX2_take_48 (fun v12 => ?_)
  refine s_iconst (0 : Int32) dX2_take_51 (by decide) ?_
  refine s_aload_n 0 dX2_take_52 rfl rfl ?_
  refine s_getR fk_X2_15 rfl dX2_take_53 (fun v13 => ?_)
  refine s_iconst (0 : Int32) dX2_take_56 (by decide) ?_
  refine s_bipush (6 : Int32) dX2_take_57 (by decide) ?_
  refine s_acopy (lw_in 638 (by decide +kernel) (by decide +kernel)) (lw_in 633 (by decide +kernel) (by decide +kernel)) (lw_in 632 (by decide +kernel) (by decide +kernel)) (lw_in 95 (by decide +kernel) (by decide +kernel)) ⟨by omega, by simp [Value.category] <;> omega⟩ dX2_take_59 (fun S14 => ?_)
  refine s_aload_n 1 dX2_take_62 rfl rfl ?_
  refine s_getR fk_X2_18 rfl dX2_take_63 (fun v15 => ?_)
  refine s_iconst (0 : Int32) dX2_take_66 (by decide) ?_
  refine s_aload_n 0 dX2_take_67 rfl rfl ?_
  refine s_getR fk_X2_18 rfl dX2_take_68 (fun v16 => ?_)
  refine s_iconst (0 : Int32) dX2_take_71 (by decide) ?_
  refine s_bipush (6 : Int32) dX2_take_72 (by decide) ?_
  refine s_acopy (lw_in 638 (by decide +kernel) (by decide +kernel)) (lw_in 633 (by decide +kernel) (by decide +kernel)) (lw_in 632 (by decide +kernel) (by decide +kernel)) (lw_in 95 (by decide +kernel) (by decide +kernel)) ⟨by omega, by simp [Value.category] <;> omega⟩ dX2_take_74 (fun S17 => ?_)
  refine s_aload_n 1 dX2_take_77 rfl rfl ?_
  refine s_getR fk_X2_21 rfl dX2_take_78 (fun v18 => ?_)
  refine s_iconst (0 : Int32) dX2_take_81 (by decide) ?_
  refine s_aload_n 0 dX2_take_82 rfl rfl ?_
  refine s_getR fk_X2_21 rfl dX2_take_83 (fun v19 => ?_)
  refine s_iconst (0 : Int32) dX2_take_86 (by decide) ?_
  refine s_bipush (10 : Int32) dX2_take_87 (by decide) ?_
  refine s_acopy (lw_in 638 (by decide +kernel) (by decide +kernel)) (lw_in 633 (by decide +kernel) (by decide +kernel)) (lw_in 632 (by decide +kernel) (by decide +kernel)) (lw_in 95 (by decide +kernel) (by decide +kernel)) ⟨by omega, by simp [Value.category] <;> omega⟩ dX2_take_89 (fun S20 => ?_)
  refine s_aload_n 1 dX2_take_92 rfl rfl ?_
  refine s_getR fk_X2_24 rfl dX2_take_93 (fun v21 => ?_)
  refine s_iconst (0 : Int32) dX2_take_96 (by decide) ?_
  refine s_aload_n 0 dX2_take_97 rfl rfl ?_
  refine s_getR fk_X2_24 rfl dX2_take_98 (fun v22 => ?_)
  refine s_iconst (0 : Int32) dX2_take_101 (by decide) ?_
  refine s_bipush (10 : Int32) dX2_take_102 (by decide) ?_
  refine s_acopy (lw_in 638 (by decide +kernel) (by decide +kernel)) (lw_in 633 (by decide +kernel) (by decide +kernel)) (lw_in 632 (by decide +kernel) (by decide +kernel)) (lw_in 95 (by decide +kernel) (by decide +kernel)) ⟨by omega, by simp [Value.category] <;> omega⟩ dX2_take_104 (fun S23 => ?_)
  refine s_aload_n 1 dX2_take_107 rfl rfl ?_
  refine s_getR fk_X2_27 rfl dX2_take_108 (fun v24 => ?_)
  refine s_iconst (0 : Int32) dX2_take_111 (by decide) ?_
  refine s_aload_n 0 dX2_take_112 rfl rfl ?_
  refine s_getR fk_X2_27 rfl dX2_take_113 (fun v25 => ?_)
  refine s_iconst (0 : Int32) dX2_take_116 (by decide) ?_
  refine s_bipush (10 : Int32) dX2_take_117 (by decide) ?_
  refine s_acopy (lw_in 638 (by decide +kernel) (by decide +kernel)) (lw_in 633 (by decide +kernel) (by decide +kernel)) (lw_in 632 (by decide +kernel) (by decide +kernel)) (lw_in 95 (by decide +kernel) (by decide +kernel)) ⟨by omega, by simp [Value.category] <;> omega⟩ dX2_take_119 (fun S26 => ?_)
  exact s_vret dX2_take_122
-- X2_isLost
def f_X2_isLost_16 (F : Nat) (y0 : Int32) (S : Mem) : Option (Int32 × Mem) :=
  rz y0 S
def fn_X2_isLost (F : Nat) (x0 : Nat) (x1 : Int32) (S : Mem) : Option (Int32 × Mem) :=
  (gI S 2 2 x0).bind fun v1 =>
  if ((v1 >>> (x1 &&& 31)) &&& (1 : Int32)) = 0 then
    f_X2_isLost_16 F  (0 : Int32) S
  else
    f_X2_isLost_16 F  (1 : Int32) S
set_option maxRecDepth 100000 in
theorem t_X2_isLost_16 {Γ : Cx} {F : Nat} : ∀ (y0 : Int32) (S : Mem), Sim cX2_isLost RX2 0 0 (some .boolean) false Γ rI (f_X2_isLost_16 F y0 S) S 16 [none, none] [.int y0] := by
  intro y0 S
  unfold f_X2_isLost_16
  exact s_zret dX2_isLost_16
set_option maxRecDepth 100000 in
theorem con_X2_isLost {l : Launch} (F : Nat) (x0 : Nat) (x1 : Int32) (S : Mem) (v : Int32) (S1 : Mem) (h : fn_X2_isLost F x0 x1 S = some (v, S1)) : Con l yX2_isLost cX2_isLost 2 (some .boolean) 0 0 [.ref x0, .int x1] S (rI v) S1 := by
  refine con_of (ι := rI) RX2 false [some (.ref x0), some (.int x1)] rfl (fun h => by cases h) (by decide) (Nat.le_of_ble_eq_true rfl) ⟨rfl, rfl⟩ (fun Γ hl => ?_) h
  unfold fn_X2_isLost
  refine s_aload_n 0 dX2_isLost_0 rfl rfl ?_
  refine s_getI fk_X2_38 rfl dX2_isLost_1 (fun v1 => ?_)
  refine s_iload_n 1 dX2_isLost_4 rfl rfl ?_
  refine s_ishr dX2_isLost_5 ?_
  refine s_iconst (1 : Int32) dX2_isLost_6 (by decide) ?_
  refine s_iand dX2_isLost_7 ?_
  refine s_if_eq 15 dX2_isLost_8 (by decide) (fun _ => ?_) (fun _ => ?_)
  · refine s_iconst (0 : Int32) dX2_isLost_15 (by decide) ?_
    exact s_less (t_X2_isLost_16  (0 : Int32) S) trivial
  · refine s_iconst (1 : Int32) dX2_isLost_11 (by decide) ?_
    refine s_goto 16 dX2_isLost_12 (by decide) ?_
    exact s_less (t_X2_isLost_16  (1 : Int32) S) trivial
-- X2_rests
def f_X2_rests_44 (F : Nat) (y0 : Int32) (S : Mem) : Option (Int32 × Mem) :=
  rz y0 S
def f_X2_rests_43 (F : Nat)  (S : Mem) : Option (Int32 × Mem) :=
  f_X2_rests_44 F  (0 : Int32) S
def f_X2_rests_39 (F : Nat)  (S : Mem) : Option (Int32 × Mem) :=
  f_X2_rests_44 F  (1 : Int32) S
def fn_X2_rests (F : Nat) (x0 : Nat) (x1 : Int32) (S : Mem) : Option (Int32 × Mem) :=
  (gR S 2 6 x0).bind fun v1 =>
  (gA S 10 v1 x1).bind fun v2 =>
  (gR S 2 0 x0).bind fun v3 =>
  (gI S 5 8 v3).bind fun v4 =>
  if v4 ≤ v2 then
    f_X2_rests_39 F   S
  else
    (gR S 2 0 x0).bind fun v5 =>
    (gR S 5 1 v5).bind fun v6 =>
    (gA S 10 v6 x1).bind fun v7 =>
    if v7 = (5 : Int32) then
      (gI S 2 1 x0).bind fun v8 =>
      if (v8 &&& (1 : Int32)) = (1 : Int32) then
        f_X2_rests_39 F   S
      else
        f_X2_rests_43 F   S
    else
      f_X2_rests_43 F   S
set_option maxRecDepth 100000 in
theorem t_X2_rests_44 {Γ : Cx} {F : Nat} : ∀ (y0 : Int32) (S : Mem), Sim cX2_rests RX2 0 0 (some .boolean) false Γ rI (f_X2_rests_44 F y0 S) S 44 [none, none] [.int y0] := by
  intro y0 S
  unfold f_X2_rests_44
  exact s_zret dX2_rests_44
set_option maxRecDepth 100000 in
theorem t_X2_rests_43 {Γ : Cx} {F : Nat} : ∀ (S : Mem), Sim cX2_rests RX2 0 0 (some .boolean) false Γ rI (f_X2_rests_43 F  S) S 43 [none, none] [] := by
  intro  S
  unfold f_X2_rests_43
  refine s_iconst (0 : Int32) dX2_rests_43 (by decide) ?_
  exact s_less (t_X2_rests_44  (0 : Int32) S) trivial
set_option maxRecDepth 100000 in
theorem t_X2_rests_39 {Γ : Cx} {F : Nat} : ∀ (S : Mem), Sim cX2_rests RX2 0 0 (some .boolean) false Γ rI (f_X2_rests_39 F  S) S 39 [none, none] [] := by
  intro  S
  unfold f_X2_rests_39
  refine s_iconst (1 : Int32) dX2_rests_39 (by decide) ?_
  refine s_goto 44 dX2_rests_40 (by decide) ?_
  exact s_less (t_X2_rests_44  (1 : Int32) S) trivial
set_option maxRecDepth 100000 in
theorem con_X2_rests {l : Launch} (F : Nat) (x0 : Nat) (x1 : Int32) (S : Mem) (v : Int32) (S1 : Mem) (h : fn_X2_rests F x0 x1 S = some (v, S1)) : Con l yX2_rests cX2_rests 2 (some .boolean) 0 0 [.ref x0, .int x1] S (rI v) S1 := by
  refine con_of (ι := rI) RX2 false [some (.ref x0), some (.int x1)] rfl (fun h => by cases h) (by decide) (Nat.le_of_ble_eq_true rfl) ⟨rfl, rfl⟩ (fun Γ hl => ?_) h
  unfold fn_X2_rests
  refine s_aload_n 0 dX2_rests_0 rfl rfl ?_
  refine s_getR fk_X2_18 rfl dX2_rests_1 (fun v1 => ?_)
  refine s_iload_n 1 dX2_rests_4 rfl rfl ?_
  refine s_iald dX2_rests_5 (fun v2 => ?_)
  refine s_aload_n 0 dX2_rests_6 rfl rfl ?_
  refine s_getR fk_X2_30 rfl dX2_rests_7 (fun v3 => ?_)
  refine s_getI fk_X2_86 rfl dX2_rests_10 (fun v4 => ?_)
  refine s_icmp_ge 39 dX2_rests_13 (by decide) (fun _ => ?_) (fun _ => ?_)
  · exact s_less (t_X2_rests_39   S) trivial
  · refine s_aload_n 0 dX2_rests_16 rfl rfl ?_
    refine s_getR fk_X2_30 rfl dX2_rests_17 (fun v5 => ?_)
    refine s_getR fk_X2_89 rfl dX2_rests_20 (fun v6 => ?_)
    refine s_iload_n 1 dX2_rests_23 rfl rfl ?_
    refine s_iald dX2_rests_24 (fun v7 => ?_)
    refine s_iconst (5 : Int32) dX2_rests_25 (by decide) ?_
    refine s_icmp_ne 43 dX2_rests_26 (by decide) (fun _ => ?_) (fun _ => ?_)
    · exact s_less (t_X2_rests_43   S) trivial
    · refine s_aload_n 0 dX2_rests_29 rfl rfl ?_
      refine s_getI fk_X2_34 rfl dX2_rests_30 (fun v8 => ?_)
      refine s_iconst (1 : Int32) dX2_rests_33 (by decide) ?_
      refine s_iand dX2_rests_34 ?_
      refine s_iconst (1 : Int32) dX2_rests_35 (by decide) ?_
      refine s_icmp_ne 43 dX2_rests_36 (by decide) (fun _ => ?_) (fun _ => ?_)
      · exact s_less (t_X2_rests_43   S) trivial
      · exact s_less (t_X2_rests_39   S) trivial
-- X5_hasRule
def f_X5_hasRule_13 (F : Nat) (y0 : Int32) (S : Mem) : Option (Int32 × Mem) :=
  rz y0 S
def fn_X5_hasRule (F : Nat) (x0 : Nat) (S : Mem) : Option (Int32 × Mem) :=
  (gR S 5 11 x0).bind fun v1 =>
  (gLen S v1).bind fun v2 =>
  if v2 ≤ 0 then
    f_X5_hasRule_13 F  (0 : Int32) S
  else
    f_X5_hasRule_13 F  (1 : Int32) S
set_option maxRecDepth 100000 in
theorem t_X5_hasRule_13 {Γ : Cx} {F : Nat} : ∀ (y0 : Int32) (S : Mem), Sim cX5_hasRule RX5 0 0 (some .boolean) false Γ rI (f_X5_hasRule_13 F y0 S) S 13 [none] [.int y0] := by
  intro y0 S
  unfold f_X5_hasRule_13
  exact s_zret dX5_hasRule_13
set_option maxRecDepth 100000 in
theorem con_X5_hasRule {l : Launch} (F : Nat) (x0 : Nat) (S : Mem) (v : Int32) (S1 : Mem) (h : fn_X5_hasRule F x0 S = some (v, S1)) : Con l yX5_hasRule cX5_hasRule 1 (some .boolean) 0 0 [.ref x0] S (rI v) S1 := by
  refine con_of (ι := rI) RX5 false [some (.ref x0)] rfl (fun h => by cases h) (by decide) (Nat.le_of_ble_eq_true rfl) ⟨rfl, rfl⟩ (fun Γ hl => ?_) h
  unfold fn_X5_hasRule
  refine s_aload_n 0 dX5_hasRule_0 rfl rfl ?_
  refine s_getR fk_X5_46 rfl dX5_hasRule_1 (fun v1 => ?_)
  refine s_alen dX5_hasRule_4 (fun v2 => ?_)
  refine s_if_le 12 dX5_hasRule_5 (by decide) (fun _ => ?_) (fun _ => ?_)
  · refine s_iconst (0 : Int32) dX5_hasRule_12 (by decide) ?_
    exact s_less (t_X5_hasRule_13  (0 : Int32) S) trivial
  · refine s_iconst (1 : Int32) dX5_hasRule_8 (by decide) ?_
    refine s_goto 13 dX5_hasRule_9 (by decide) ?_
    exact s_less (t_X5_hasRule_13  (1 : Int32) S) trivial
-- X2_aim
def f_X2_aim_46 (F : Nat) (x0 : Nat) (x1 : Int32) (x3 : Int32) (S : Mem) : Option (Int32 × Mem) :=
  (gR S 2 4 x0).bind fun v1 =>
  (gA S 10 v1 x1).bind fun v2 =>
  (gR S 2 0 x0).bind fun v3 =>
  (gI S 5 7 v3).bind fun v4 =>
  (gR S 2 0 x0).bind fun v5 =>
  (gI S 5 7 v5).bind fun v6 =>
  bd ((fn_X8_clamped F x3 (-v4) v6 S)) fun v7 S8 =>
  bd ((fn_X8_clamped F (v2 + v7) (0 : Int32) (40 : Int32) S8)) fun v9 S10 =>
  some (v9, S10)
def fn_X2_aim (F : Nat) (x0 : Nat) (x1 : Int32) (x2 : Nat) (S : Mem) : Option (Int32 × Mem) :=
  (gR S 2 5 x0).bind fun v1 =>
  (gA S 10 v1 x1).bind fun v2 =>
  if v2 = (-1 : Int32) then
    (gR S 2 0 x0).bind fun v3 =>
    bd (cal S 5 v3 (fn_X5_hasRule F v3 S)) fun v4 S5 =>
    if v4 = 0 then
      f_X2_aim_46 F x0 x1 (0 : Int32)  S5
    else
      bd (cal S5 0 x2 (fn_X0_ruled F x2 x0 x1 S5)) fun v6 S7 =>
      f_X2_aim_46 F x0 x1 v6  S7
  else
    (gR S 2 5 x0).bind fun v8 =>
    (gA S 10 v8 x1).bind fun v9 =>
    (gR S 2 4 x0).bind fun v10 =>
    (gA S 10 v10 x1).bind fun v11 =>
    lt ((v9 - v11)) fun v12 =>
    f_X2_aim_46 F x0 x1 v12  S
set_option maxRecDepth 100000 in
theorem t_X2_aim_46 {Γ : Cx} {F : Nat} : ∀ (x0 : Nat) (x1 : Int32) (x3 : Int32) (S : Mem), Sim cX2_aim RX2 3 68 (some .int) false Γ rI (f_X2_aim_46 F x0 x1 x3 S) S 46 [some (.ref x0), some (.int x1), none, some (.int x3)] [] := by
  intro x0 x1 x3 S
  unfold f_X2_aim_46
  refine s_aload_n 0 dX2_aim_46 rfl rfl ?_
  refine s_getR fk_X2_9 rfl dX2_aim_47 (fun v1 => ?_)
  refine s_iload_n 1 dX2_aim_50 rfl rfl ?_
  refine s_iald dX2_aim_51 (fun v2 => ?_)
  refine s_iload_n 3 dX2_aim_52 rfl rfl ?_
  refine s_aload_n 0 dX2_aim_53 rfl rfl ?_
  refine s_getR fk_X2_30 rfl dX2_aim_54 (fun v3 => ?_)
  refine s_getI fk_X2_77 rfl dX2_aim_57 (fun v4 => ?_)
  refine s_ineg dX2_aim_60 ?_
  refine s_aload_n 0 dX2_aim_61 rfl rfl ?_
  refine s_getR fk_X2_30 rfl dX2_aim_62 (fun v5 => ?_)
  refine s_getI fk_X2_77 rfl dX2_aim_65 (fun v6 => ?_)
  refine s_cSN3I mk_X2_102 (fun v9 S9 h9 => con_X8_clamped F _ _ _ _ v9 S9 h9) ⟨by omega, by omega⟩ (Nat.le_of_ble_eq_true rfl) dX2_aim_68 (fun v7 S8 => ?_)
  refine s_iadd dX2_aim_71 ?_
  refine s_iconst (0 : Int32) dX2_aim_72 (by decide) ?_
  refine s_bipush (40 : Int32) dX2_aim_73 (by decide) ?_
  refine s_cSN3I mk_X2_102 (fun v9 S9 h9 => con_X8_clamped F _ _ _ _ v9 S9 h9) ⟨by omega, by omega⟩ (Nat.le_of_ble_eq_true rfl) dX2_aim_75 (fun v9 S10 => ?_)
  exact s_iret dX2_aim_78
set_option maxRecDepth 100000 in
theorem con_X2_aim {l : Launch} (F : Nat) (x0 : Nat) (x1 : Int32) (x2 : Nat) (S : Mem) (v : Int32) (S1 : Mem) (h : fn_X2_aim F x0 x1 x2 S = some (v, S1)) : Con l yX2_aim cX2_aim 4 (some .int) 3 68 [.ref x0, .int x1, .ref x2] S (rI v) S1 := by
  refine con_of (ι := rI) RX2 false [some (.ref x0), some (.int x1), some (.ref x2), none] rfl (fun h => by cases h) (by decide) (Nat.le_of_ble_eq_true rfl) ⟨rfl, rfl⟩ (fun Γ hl => ?_) h
  unfold fn_X2_aim
  refine s_iconst (0 : Int32) dX2_aim_0 (by decide) ?_
  refine s_istore_3 dX2_aim_1 rfl ?_
  refine s_aload_n 0 dX2_aim_2 rfl rfl ?_
  refine s_getR fk_X2_15 rfl dX2_aim_3 (fun v1 => ?_)
  refine s_iload_n 1 dX2_aim_6 rfl rfl ?_
  refine s_iald dX2_aim_7 (fun v2 => ?_)
  refine s_iconst (-1 : Int32) dX2_aim_8 (by decide) ?_
  refine s_icmp_eq 29 dX2_aim_9 (by decide) (fun _ => ?_) (fun _ => ?_)
  · refine s_aload_n 0 dX2_aim_29 rfl rfl ?_
    refine s_getR fk_X2_30 rfl dX2_aim_30 (fun v3 => ?_)
    refine s_cV0I mk_X2_92 (by decide) rfl (fun v9 S9 h9 => con_X5_hasRule F _ _ v9 S9 h9) ⟨by omega, by omega⟩ (Nat.le_of_ble_eq_true rfl) dX2_aim_33 (fun v4 S5 => ?_)
    refine s_if_eq 46 dX2_aim_36 (by decide) (fun _ => ?_) (fun _ => ?_)
    · exact s_less (t_X2_aim_46 x0 x1 (0 : Int32)  S5) (And.intro rfl (And.intro rfl (And.intro rfl trivial)))
    · refine s_aload_n 2 dX2_aim_39 rfl rfl ?_
      refine s_aload_n 0 dX2_aim_40 rfl rfl ?_
      refine s_iload_n 1 dX2_aim_41 rfl rfl ?_
      refine s_cV2I mk_X2_96 (by decide) rfl (fun v9 S9 h9 => con_X0_ruled F _ _ _ _ v9 S9 h9) ⟨by omega, by omega⟩ (Nat.le_of_ble_eq_true rfl) dX2_aim_42 (fun v6 S7 => ?_)
      refine s_istore_3 dX2_aim_45 rfl ?_
      exact s_less (t_X2_aim_46 x0 x1 v6  S7) (And.intro rfl (And.intro rfl (And.intro rfl trivial)))
  · refine s_aload_n 0 dX2_aim_12 rfl rfl ?_
    refine s_getR fk_X2_15 rfl dX2_aim_13 (fun v8 => ?_)
    refine s_iload_n 1 dX2_aim_16 rfl rfl ?_
    refine s_iald dX2_aim_17 (fun v9 => ?_)
    refine s_aload_n 0 dX2_aim_18 rfl rfl ?_
    refine s_getR fk_X2_9 rfl dX2_aim_19 (fun v10 => ?_)
    refine s_iload_n 1 dX2_aim_22 rfl rfl ?_
    refine s_iald dX2_aim_23 (fun v11 => ?_)
    refine s_isub dX2_aim_24 ?_
    refine s_ltI (fun v12 => ?_)
    refine s_istore_3 dX2_aim_25 rfl ?_
    refine s_goto 46 dX2_aim_26 (by decide) ?_
    exact s_less (t_X2_aim_46 x0 x1 v12  S) (And.intro rfl (And.intro rfl (And.intro rfl trivial)))
-- X2_haulTo
def f_X2_haulTo_52 (F : Nat)  (S : Mem) : Option (Unit × Mem) :=
  some ((), S)
def f_X2_haulTo_27 (F : Nat) (x0 : Nat) (x1 : Int32) (x2 : Int32) (y0 : Nat) (y1 : Int32) (y2 : Int32) (S : Mem) : Option (Unit × Mem) :=
  (sA S y0 y1 y2).bind fun S1 =>
  (gR S1 2 4 x0).bind fun v2 =>
  (sA S1 v2 x1 x2).bind fun S3 =>
  (gR S3 2 5 x0).bind fun v4 =>
  (gA S3 10 v4 x1).bind fun v5 =>
  if v5 = x2 then
    (gR S3 2 5 x0).bind fun v6 =>
    (sA S3 v6 x1 (-1 : Int32)).bind fun S7 =>
    f_X2_haulTo_52 F   S7
  else
    f_X2_haulTo_52 F   S3
def fn_X2_haulTo (F : Nat) (x0 : Nat) (x1 : Int32) (x2 : Int32) (S : Mem) : Option (Unit × Mem) :=
  (gR S 2 6 x0).bind fun v1 =>
  (gR S 2 4 x0).bind fun v2 =>
  (gA S 10 v2 x1).bind fun v3 =>
  if x2 = v3 then
    f_X2_haulTo_27 F x0 x1 x2 v1 x1 (0 : Int32) S
  else
    (gR S 2 6 x0).bind fun v4 =>
    (gA S 10 v4 x1).bind fun v5 =>
    f_X2_haulTo_27 F x0 x1 x2 v1 x1 (v5 + (1 : Int32)) S
set_option maxRecDepth 100000 in
theorem t_X2_haulTo_52 {Γ : Cx} {F : Nat} : ∀ (S : Mem), Sim cX2_haulTo RX2 0 0 none false Γ rV (f_X2_haulTo_52 F  S) S 52 [none, none, none] [] := by
  intro  S
  unfold f_X2_haulTo_52
  exact s_vret dX2_haulTo_52
set_option maxRecDepth 100000 in
theorem t_X2_haulTo_27 {Γ : Cx} {F : Nat} : ∀ (x0 : Nat) (x1 : Int32) (x2 : Int32) (y0 : Nat) (y1 : Int32) (y2 : Int32) (S : Mem), Sim cX2_haulTo RX2 0 0 none false Γ rV (f_X2_haulTo_27 F x0 x1 x2 y0 y1 y2 S) S 27 [some (.ref x0), some (.int x1), some (.int x2)] [.int y2, .int y1, .ref y0] := by
  intro x0 x1 x2 y0 y1 y2 S
  unfold f_X2_haulTo_27
  refine s_iast dX2_haulTo_27 (fun S1 => ?_)
  refine s_aload_n 0 dX2_haulTo_28 rfl rfl ?_
  refine s_getR fk_X2_9 rfl dX2_haulTo_29 (fun v2 => ?_)
  refine s_iload_n 1 dX2_haulTo_32 rfl rfl ?_
  refine s_iload_n 2 dX2_haulTo_33 rfl rfl ?_
  refine s_iast dX2_haulTo_34 (fun S3 => ?_)
  refine s_aload_n 0 dX2_haulTo_35 rfl rfl ?_
  refine s_getR fk_X2_15 rfl dX2_haulTo_36 (fun v4 => ?_)
  refine s_iload_n 1 dX2_haulTo_39 rfl rfl ?_
  refine s_iald dX2_haulTo_40 (fun v5 => ?_)
  refine s_iload_n 2 dX2_haulTo_41 rfl rfl ?_
  refine s_icmp_ne 52 dX2_haulTo_42 (by decide) (fun _ => ?_) (fun _ => ?_)
  · exact s_less (t_X2_haulTo_52   S3) trivial
  · refine s_aload_n 0 dX2_haulTo_45 rfl rfl ?_
    refine s_getR fk_X2_15 rfl dX2_haulTo_46 (fun v6 => ?_)
    refine s_iload_n 1 dX2_haulTo_49 rfl rfl ?_
    refine s_iconst (-1 : Int32) dX2_haulTo_50 (by decide) ?_
    refine s_iast dX2_haulTo_51 (fun S7 => ?_)
    exact s_less (t_X2_haulTo_52   S7) trivial
set_option maxRecDepth 100000 in
theorem con_X2_haulTo {l : Launch} (F : Nat) (x0 : Nat) (x1 : Int32) (x2 : Int32) (S : Mem) (v : Unit) (S1 : Mem) (h : fn_X2_haulTo F x0 x1 x2 S = some (v, S1)) : Con l yX2_haulTo cX2_haulTo 3 none 0 0 [.ref x0, .int x1, .int x2] S (rV v) S1 := by
  refine con_of (ι := rV) RX2 false [some (.ref x0), some (.int x1), some (.int x2)] rfl (fun h => by cases h) (by decide) (Nat.le_of_ble_eq_true rfl) ⟨rfl, rfl⟩ (fun Γ hl => ?_) h
  unfold fn_X2_haulTo
  refine s_aload_n 0 dX2_haulTo_0 rfl rfl ?_
  refine s_getR fk_X2_18 rfl dX2_haulTo_1 (fun v1 => ?_)
  refine s_iload_n 1 dX2_haulTo_4 rfl rfl ?_
  refine s_iload_n 2 dX2_haulTo_5 rfl rfl ?_
  refine s_aload_n 0 dX2_haulTo_6 rfl rfl ?_
  refine s_getR fk_X2_9 rfl dX2_haulTo_7 (fun v2 => ?_)
  refine s_iload_n 1 dX2_haulTo_10 rfl rfl ?_
  refine s_iald dX2_haulTo_11 (fun v3 => ?_)
  refine s_icmp_ne 19 dX2_haulTo_12 (by decide) (fun _ => ?_) (fun _ => ?_)
  · refine s_aload_n 0 dX2_haulTo_19 rfl rfl ?_
    refine s_getR fk_X2_18 rfl dX2_haulTo_20 (fun v4 => ?_)
    refine s_iload_n 1 dX2_haulTo_23 rfl rfl ?_
    refine s_iald dX2_haulTo_24 (fun v5 => ?_)
    refine s_iconst (1 : Int32) dX2_haulTo_25 (by decide) ?_
    refine s_iadd dX2_haulTo_26 ?_
    exact s_less (t_X2_haulTo_27 x0 x1 x2 v1 x1 (v5 + (1 : Int32)) S) (And.intro rfl (And.intro rfl (And.intro rfl trivial)))
  · refine s_iconst (0 : Int32) dX2_haulTo_15 (by decide) ?_
    refine s_goto 27 dX2_haulTo_16 (by decide) ?_
    exact s_less (t_X2_haulTo_27 x0 x1 x2 v1 x1 (0 : Int32) S) (And.intro rfl (And.intro rfl (And.intro rfl trivial)))
-- X2_passMinute
def f_X2_passMinute_49 (F : Nat) (k2 : Nat → Nat → Int32 → Mem → Option (Unit × Mem)) (x0 : Nat) (x1 : Nat) (x2 : Int32) (S : Mem) : Option (Unit × Mem) :=
  k2 x0 x1 (x2 + (1 : Int32)) S
def f_X2_passMinute_46 (F : Nat) (k2 : Nat → Nat → Int32 → Mem → Option (Unit × Mem)) (x0 : Nat) (x1 : Nat) (x2 : Int32) (y0 : Nat) (y1 : Int32) (y2 : Int32) (S : Mem) : Option (Unit × Mem) :=
  bd (cal S 2 y0 (fn_X2_haulTo F y0 y1 y2 S)) fun _ S2 =>
  f_X2_passMinute_49 F k2 x0 x1 x2  S2
def b_X2_passMinute_2 (F : Nat) (k2 : Nat → Nat → Int32 → Mem → Option (Unit × Mem)) (x0 : Nat) (x1 : Nat) (x2 : Int32) (S : Mem) : Option (Unit × Mem) :=
  (gR S 2 0 x0).bind fun v1 =>
  (gI S 5 0 v1).bind fun v2 =>
  if v2 ≤ x2 then
    (gI S 2 1 x0).bind fun v3 =>
    (sI S 2 1 x0 (v3 + (1 : Int32))).bind fun S4 =>
    some ((), S4)
  else
    bd (cal S 2 x0 (fn_X2_isLost F x0 x2 S)) fun v5 S6 =>
    if v5 = 0 then
      bd (cal S6 2 x0 (fn_X2_rests F x0 x2 S6)) fun v7 S8 =>
      if v7 = 0 then
        bd (cal S8 2 x0 (fn_X2_aim F x0 x2 x1 S8)) fun v9 S10 =>
        f_X2_passMinute_46 F k2 x0 x1 x2 x0 x2 v9 S10
      else
        (gR S8 2 4 x0).bind fun v11 =>
        (gA S8 10 v11 x2).bind fun v12 =>
        f_X2_passMinute_46 F k2 x0 x1 x2 x0 x2 v12 S8
    else
      f_X2_passMinute_49 F k2 x0 x1 x2  S6
def fn_X2_passMinute (F : Nat) (x0 : Nat) (x1 : Nat) (S : Mem) : Option (Unit × Mem) :=
  fix3 (b_X2_passMinute_2 F) F x0 x1 (0 : Int32) S
set_option maxRecDepth 100000 in
theorem t_X2_passMinute_49 {Γ : Cx} {F : Nat} {k2 : Nat → Nat → Int32 → Mem → Option (Unit × Mem)} (hk2 : ∀ (x0 : Nat) (x1 : Nat) (x2 : Int32) (S : Mem), Sim cX2_passMinute RX2 4 91 none false Γ rV (k2 x0 x1 x2 S) S 2 [some (.ref x0), some (.ref x1), some (.int x2)] []) : ∀ (x0 : Nat) (x1 : Nat) (x2 : Int32) (S : Mem), Sim cX2_passMinute RX2 4 91 none false Γ rV (f_X2_passMinute_49 F k2 x0 x1 x2 S) S 49 [some (.ref x0), some (.ref x1), some (.int x2)] [] := by
  intro x0 x1 x2 S
  unfold f_X2_passMinute_49
  refine s_iinc_2 (1 : Int32) dX2_passMinute_49 (by decide) rfl ?_
  refine s_goto 2 dX2_passMinute_52 (by decide) ?_
  exact s_less (hk2 x0 x1 (x2 + (1 : Int32)) S) (And.intro rfl (And.intro rfl (And.intro rfl trivial)))
set_option maxRecDepth 100000 in
theorem t_X2_passMinute_46 {Γ : Cx} {F : Nat} {k2 : Nat → Nat → Int32 → Mem → Option (Unit × Mem)} (hk2 : ∀ (x0 : Nat) (x1 : Nat) (x2 : Int32) (S : Mem), Sim cX2_passMinute RX2 4 91 none false Γ rV (k2 x0 x1 x2 S) S 2 [some (.ref x0), some (.ref x1), some (.int x2)] []) : ∀ (x0 : Nat) (x1 : Nat) (x2 : Int32) (y0 : Nat) (y1 : Int32) (y2 : Int32) (S : Mem), Sim cX2_passMinute RX2 4 91 none false Γ rV (f_X2_passMinute_46 F k2 x0 x1 x2 y0 y1 y2 S) S 46 [some (.ref x0), some (.ref x1), some (.int x2)] [.int y2, .int y1, .ref y0] := by
  intro x0 x1 x2 y0 y1 y2 S
  unfold f_X2_passMinute_46
  refine s_cV2V mk_X2_73 (by decide) rfl (fun v9 S9 h9 => con_X2_haulTo F _ _ _ _ v9 S9 h9) ⟨by omega, by omega⟩ (Nat.le_of_ble_eq_true rfl) dX2_passMinute_46 (fun _ S2 => ?_)
  exact s_less (t_X2_passMinute_49 hk2 x0 x1 x2  S2) (And.intro rfl (And.intro rfl (And.intro rfl trivial)))
set_option maxRecDepth 100000 in
theorem t_X2_passMinute_2 {Γ : Cx} {F : Nat} : ∀ (f : Nat) (x0 : Nat) (x1 : Nat) (x2 : Int32) (S : Mem), Sim cX2_passMinute RX2 4 91 none false Γ rV (fix3 (b_X2_passMinute_2 F) f x0 x1 x2 S) S 2 [some (.ref x0), some (.ref x1), some (.int x2)] [] := by
  refine s_fix3 (fun (x0 : Nat) (x1 : Nat) (x2 : Int32) => [some (.ref x0), some (.ref x1), some (.int x2)]) (fun k2 hk2 => ?_)
  intro x0 x1 x2 S
  unfold b_X2_passMinute_2
  refine s_iload_n 2 dX2_passMinute_2 rfl rfl ?_
  refine s_aload_n 0 dX2_passMinute_3 rfl rfl ?_
  refine s_getR fk_X2_30 rfl dX2_passMinute_4 (fun v1 => ?_)
  refine s_getI fk_X2_59 rfl dX2_passMinute_7 (fun v2 => ?_)
  refine s_icmp_ge 55 dX2_passMinute_10 (by decide) (fun _ => ?_) (fun _ => ?_)
  · refine s_aload_n 0 dX2_passMinute_55 rfl rfl ?_
    refine s_dup dX2_passMinute_56 rfl ?_
    refine s_getI fk_X2_34 rfl dX2_passMinute_57 (fun v3 => ?_)
    refine s_iconst (1 : Int32) dX2_passMinute_60 (by decide) ?_
    refine s_iadd dX2_passMinute_61 ?_
    refine s_putI fk_X2_34 (Or.inl rfl) rfl dX2_passMinute_62 (fun S4 => ?_)
    exact s_vret dX2_passMinute_65
  · refine s_aload_n 0 dX2_passMinute_13 rfl rfl ?_
    refine s_iload_n 2 dX2_passMinute_14 rfl rfl ?_
    refine s_cV1I mk_X2_62 (by decide) rfl (fun v9 S9 h9 => con_X2_isLost F _ _ _ v9 S9 h9) ⟨by omega, by omega⟩ (Nat.le_of_ble_eq_true rfl) dX2_passMinute_15 (fun v5 S6 => ?_)
    refine s_if_ne 49 dX2_passMinute_18 (by decide) (fun _ => ?_) (fun _ => ?_)
    · exact s_less (t_X2_passMinute_49 hk2 x0 x1 x2  S6) (And.intro rfl (And.intro rfl (And.intro rfl trivial)))
    · refine s_aload_n 0 dX2_passMinute_21 rfl rfl ?_
      refine s_iload_n 2 dX2_passMinute_22 rfl rfl ?_
      refine s_aload_n 0 dX2_passMinute_23 rfl rfl ?_
      refine s_iload_n 2 dX2_passMinute_24 rfl rfl ?_
      refine s_cV1I mk_X2_66 (by decide) rfl (fun v9 S9 h9 => con_X2_rests F _ _ _ v9 S9 h9) ⟨by omega, by omega⟩ (Nat.le_of_ble_eq_true rfl) dX2_passMinute_25 (fun v7 S8 => ?_)
      refine s_if_eq 40 dX2_passMinute_28 (by decide) (fun _ => ?_) (fun _ => ?_)
      · refine s_aload_n 0 dX2_passMinute_40 rfl rfl ?_
        refine s_iload_n 2 dX2_passMinute_41 rfl rfl ?_
        refine s_aload_n 1 dX2_passMinute_42 rfl rfl ?_
        refine s_cV2I mk_X2_69 (by decide) rfl (fun v9 S9 h9 => con_X2_aim F _ _ _ _ v9 S9 h9) ⟨by omega, by omega⟩ (Nat.le_of_ble_eq_true rfl) dX2_passMinute_43 (fun v9 S10 => ?_)
        exact s_less (t_X2_passMinute_46 hk2 x0 x1 x2 x0 x2 v9 S10) (And.intro rfl (And.intro rfl (And.intro rfl trivial)))
      · refine s_aload_n 0 dX2_passMinute_31 rfl rfl ?_
        refine s_getR fk_X2_9 rfl dX2_passMinute_32 (fun v11 => ?_)
        refine s_iload_n 2 dX2_passMinute_35 rfl rfl ?_
        refine s_iald dX2_passMinute_36 (fun v12 => ?_)
        refine s_goto 46 dX2_passMinute_37 (by decide) ?_
        exact s_less (t_X2_passMinute_46 hk2 x0 x1 x2 x0 x2 v12 S8) (And.intro rfl (And.intro rfl (And.intro rfl trivial)))
set_option maxRecDepth 100000 in
theorem con_X2_passMinute {l : Launch} (F : Nat) (x0 : Nat) (x1 : Nat) (S : Mem) (v : Unit) (S1 : Mem) (h : fn_X2_passMinute F x0 x1 S = some (v, S1)) : Con l yX2_passMinute cX2_passMinute 3 none 4 91 [.ref x0, .ref x1] S (rV v) S1 := by
  refine con_of (ι := rV) RX2 false [some (.ref x0), some (.ref x1), none] rfl (fun h => by cases h) (by decide) (Nat.le_of_ble_eq_true rfl) ⟨rfl, rfl⟩ (fun Γ hl => ?_) h
  unfold fn_X2_passMinute
  refine s_iconst (0 : Int32) dX2_passMinute_0 (by decide) ?_
  refine s_istore_2 dX2_passMinute_1 rfl ?_
  exact s_less (t_X2_passMinute_2 F x0 x1 (0 : Int32) S) (And.intro rfl (And.intro rfl (And.intro rfl trivial)))
-- X2_haulDown
def f_X2_haulDown_61 (F : Nat) (k2 : Nat → Int32 → Mem → Option (Unit × Mem)) (x0 : Nat) (x1 : Int32) (S : Mem) : Option (Unit × Mem) :=
  k2 x0 (x1 + (1 : Int32)) S
def f_X2_haulDown_58 (F : Nat) (k2 : Nat → Int32 → Mem → Option (Unit × Mem)) (x0 : Nat) (x1 : Int32) (y0 : Nat) (y1 : Int32) (y2 : Int32) (S : Mem) : Option (Unit × Mem) :=
  bd (cal S 2 y0 (fn_X2_haulTo F y0 y1 y2 S)) fun _ S2 =>
  f_X2_haulDown_61 F k2 x0 x1  S2
def b_X2_haulDown_2 (F : Nat) (k2 : Nat → Int32 → Mem → Option (Unit × Mem)) (x0 : Nat) (x1 : Int32) (S : Mem) : Option (Unit × Mem) :=
  (gR S 2 0 x0).bind fun v1 =>
  (gI S 5 0 v1).bind fun v2 =>
  if v2 ≤ x1 then
    (gI S 2 1 x0).bind fun v3 =>
    (sI S 2 1 x0 (v3 + (1 : Int32))).bind fun S4 =>
    some ((), S4)
  else
    bd (cal S 2 x0 (fn_X2_isLost F x0 x1 S)) fun v5 S6 =>
    if v5 = 0 then
      bd (cal S6 2 x0 (fn_X2_rests F x0 x1 S6)) fun v7 S8 =>
      if v7 = 0 then
        (gR S8 2 4 x0).bind fun v9 =>
        (gA S8 10 v9 x1).bind fun v10 =>
        (gR S8 2 0 x0).bind fun v11 =>
        (gI S8 5 7 v11).bind fun v12 =>
        f_X2_haulDown_58 F k2 x0 x1 x0 x1 (mxI (0 : Int32) (v10 - v12)) S8
      else
        (gR S8 2 4 x0).bind fun v13 =>
        (gA S8 10 v13 x1).bind fun v14 =>
        f_X2_haulDown_58 F k2 x0 x1 x0 x1 v14 S8
    else
      f_X2_haulDown_61 F k2 x0 x1  S6
def fn_X2_haulDown (F : Nat) (x0 : Nat) (S : Mem) : Option (Unit × Mem) :=
  fix2 (b_X2_haulDown_2 F) F x0 (0 : Int32) S
set_option maxRecDepth 100000 in
theorem t_X2_haulDown_61 {Γ : Cx} {F : Nat} {k2 : Nat → Int32 → Mem → Option (Unit × Mem)} (hk2 : ∀ (x0 : Nat) (x1 : Int32) (S : Mem), Sim cX2_haulDown RX2 1 24 none false Γ rV (k2 x0 x1 S) S 2 [some (.ref x0), some (.int x1)] []) : ∀ (x0 : Nat) (x1 : Int32) (S : Mem), Sim cX2_haulDown RX2 1 24 none false Γ rV (f_X2_haulDown_61 F k2 x0 x1 S) S 61 [some (.ref x0), some (.int x1)] [] := by
  intro x0 x1 S
  unfold f_X2_haulDown_61
  refine s_iinc_1 (1 : Int32) dX2_haulDown_61 (by decide) rfl ?_
  refine s_goto 2 dX2_haulDown_64 (by decide) ?_
  exact s_less (hk2 x0 (x1 + (1 : Int32)) S) (And.intro rfl (And.intro rfl trivial))
set_option maxRecDepth 100000 in
theorem t_X2_haulDown_58 {Γ : Cx} {F : Nat} {k2 : Nat → Int32 → Mem → Option (Unit × Mem)} (hk2 : ∀ (x0 : Nat) (x1 : Int32) (S : Mem), Sim cX2_haulDown RX2 1 24 none false Γ rV (k2 x0 x1 S) S 2 [some (.ref x0), some (.int x1)] []) : ∀ (x0 : Nat) (x1 : Int32) (y0 : Nat) (y1 : Int32) (y2 : Int32) (S : Mem), Sim cX2_haulDown RX2 1 24 none false Γ rV (f_X2_haulDown_58 F k2 x0 x1 y0 y1 y2 S) S 58 [some (.ref x0), some (.int x1)] [.int y2, .int y1, .ref y0] := by
  intro x0 x1 y0 y1 y2 S
  unfold f_X2_haulDown_58
  refine s_cV2V mk_X2_73 (by decide) rfl (fun v9 S9 h9 => con_X2_haulTo F _ _ _ _ v9 S9 h9) ⟨by omega, by omega⟩ (Nat.le_of_ble_eq_true rfl) dX2_haulDown_58 (fun _ S2 => ?_)
  exact s_less (t_X2_haulDown_61 hk2 x0 x1  S2) (And.intro rfl (And.intro rfl trivial))
set_option maxRecDepth 100000 in
theorem t_X2_haulDown_2 {Γ : Cx} {F : Nat} : ∀ (f : Nat) (x0 : Nat) (x1 : Int32) (S : Mem), Sim cX2_haulDown RX2 1 24 none false Γ rV (fix2 (b_X2_haulDown_2 F) f x0 x1 S) S 2 [some (.ref x0), some (.int x1)] [] := by
  refine s_fix2 (fun (x0 : Nat) (x1 : Int32) => [some (.ref x0), some (.int x1)]) (fun k2 hk2 => ?_)
  intro x0 x1 S
  unfold b_X2_haulDown_2
  refine s_iload_n 1 dX2_haulDown_2 rfl rfl ?_
  refine s_aload_n 0 dX2_haulDown_3 rfl rfl ?_
  refine s_getR fk_X2_30 rfl dX2_haulDown_4 (fun v1 => ?_)
  refine s_getI fk_X2_59 rfl dX2_haulDown_7 (fun v2 => ?_)
  refine s_icmp_ge 67 dX2_haulDown_10 (by decide) (fun _ => ?_) (fun _ => ?_)
  · refine s_aload_n 0 dX2_haulDown_67 rfl rfl ?_
    refine s_dup dX2_haulDown_68 rfl ?_
    refine s_getI fk_X2_34 rfl dX2_haulDown_69 (fun v3 => ?_)
    refine s_iconst (1 : Int32) dX2_haulDown_72 (by decide) ?_
    refine s_iadd dX2_haulDown_73 ?_
    refine s_putI fk_X2_34 (Or.inl rfl) rfl dX2_haulDown_74 (fun S4 => ?_)
    exact s_vret dX2_haulDown_77
  · refine s_aload_n 0 dX2_haulDown_13 rfl rfl ?_
    refine s_iload_n 1 dX2_haulDown_14 rfl rfl ?_
    refine s_cV1I mk_X2_62 (by decide) rfl (fun v9 S9 h9 => con_X2_isLost F _ _ _ v9 S9 h9) ⟨by omega, by omega⟩ (Nat.le_of_ble_eq_true rfl) dX2_haulDown_15 (fun v5 S6 => ?_)
    refine s_if_ne 61 dX2_haulDown_18 (by decide) (fun _ => ?_) (fun _ => ?_)
    · exact s_less (t_X2_haulDown_61 hk2 x0 x1  S6) (And.intro rfl (And.intro rfl trivial))
    · refine s_aload_n 0 dX2_haulDown_21 rfl rfl ?_
      refine s_iload_n 1 dX2_haulDown_22 rfl rfl ?_
      refine s_aload_n 0 dX2_haulDown_23 rfl rfl ?_
      refine s_iload_n 1 dX2_haulDown_24 rfl rfl ?_
      refine s_cV1I mk_X2_66 (by decide) rfl (fun v9 S9 h9 => con_X2_rests F _ _ _ v9 S9 h9) ⟨by omega, by omega⟩ (Nat.le_of_ble_eq_true rfl) dX2_haulDown_25 (fun v7 S8 => ?_)
      refine s_if_eq 40 dX2_haulDown_28 (by decide) (fun _ => ?_) (fun _ => ?_)
      · refine s_iconst (0 : Int32) dX2_haulDown_40 (by decide) ?_
        refine s_aload_n 0 dX2_haulDown_41 rfl rfl ?_
        refine s_getR fk_X2_9 rfl dX2_haulDown_42 (fun v9 => ?_)
        refine s_iload_n 1 dX2_haulDown_45 rfl rfl ?_
        refine s_iald dX2_haulDown_46 (fun v10 => ?_)
        refine s_aload_n 0 dX2_haulDown_47 rfl rfl ?_
        refine s_getR fk_X2_30 rfl dX2_haulDown_48 (fun v11 => ?_)
        refine s_getI fk_X2_77 rfl dX2_haulDown_51 (fun v12 => ?_)
        refine s_isub dX2_haulDown_54 ?_
        refine s_mmax mm_X2_80 mm_max_s mm_i mm_max_c ⟨by omega, by simp [Value.category] <;> omega⟩ dX2_haulDown_55 ?_
        exact s_less (t_X2_haulDown_58 hk2 x0 x1 x0 x1 (mxI (0 : Int32) (v10 - v12)) S8) (And.intro rfl (And.intro rfl trivial))
      · refine s_aload_n 0 dX2_haulDown_31 rfl rfl ?_
        refine s_getR fk_X2_9 rfl dX2_haulDown_32 (fun v13 => ?_)
        refine s_iload_n 1 dX2_haulDown_35 rfl rfl ?_
        refine s_iald dX2_haulDown_36 (fun v14 => ?_)
        refine s_goto 58 dX2_haulDown_37 (by decide) ?_
        exact s_less (t_X2_haulDown_58 hk2 x0 x1 x0 x1 v14 S8) (And.intro rfl (And.intro rfl trivial))
set_option maxRecDepth 100000 in
theorem con_X2_haulDown {l : Launch} (F : Nat) (x0 : Nat) (S : Mem) (v : Unit) (S1 : Mem) (h : fn_X2_haulDown F x0 S = some (v, S1)) : Con l yX2_haulDown cX2_haulDown 2 none 1 24 [.ref x0] S (rV v) S1 := by
  refine con_of (ι := rV) RX2 false [some (.ref x0), none] rfl (fun h => by cases h) (by decide) (Nat.le_of_ble_eq_true rfl) ⟨rfl, rfl⟩ (fun Γ hl => ?_) h
  unfold fn_X2_haulDown
  refine s_iconst (0 : Int32) dX2_haulDown_0 (by decide) ?_
  refine s_istore_1 dX2_haulDown_1 rfl ?_
  exact s_less (t_X2_haulDown_2 F x0 (0 : Int32) S) (And.intro rfl (And.intro rfl trivial))
-- X2_isAllDown
def f_X2_isAllDown_32 (F : Nat) (k2 : Nat → Int32 → Mem → Option (Int32 × Mem)) (x0 : Nat) (x1 : Int32) (S : Mem) : Option (Int32 × Mem) :=
  k2 x0 (x1 + (1 : Int32)) S
def b_X2_isAllDown_2 (F : Nat) (k2 : Nat → Int32 → Mem → Option (Int32 × Mem)) (x0 : Nat) (x1 : Int32) (S : Mem) : Option (Int32 × Mem) :=
  (gR S 2 0 x0).bind fun v1 =>
  (gI S 5 0 v1).bind fun v2 =>
  if v2 ≤ x1 then
    rz (1 : Int32) S
  else
    bd (cal S 2 x0 (fn_X2_isLost F x0 x1 S)) fun v3 S4 =>
    if v3 = 0 then
      (gR S4 2 4 x0).bind fun v5 =>
      (gA S4 10 v5 x1).bind fun v6 =>
      if v6 ≤ 0 then
        f_X2_isAllDown_32 F k2 x0 x1  S4
      else
        rz (0 : Int32) S4
    else
      f_X2_isAllDown_32 F k2 x0 x1  S4
def fn_X2_isAllDown (F : Nat) (x0 : Nat) (S : Mem) : Option (Int32 × Mem) :=
  fix2 (b_X2_isAllDown_2 F) F x0 (0 : Int32) S
set_option maxRecDepth 100000 in
theorem t_X2_isAllDown_32 {Γ : Cx} {F : Nat} {k2 : Nat → Int32 → Mem → Option (Int32 × Mem)} (hk2 : ∀ (x0 : Nat) (x1 : Int32) (S : Mem), Sim cX2_isAllDown RX2 1 21 (some .boolean) false Γ rI (k2 x0 x1 S) S 2 [some (.ref x0), some (.int x1)] []) : ∀ (x0 : Nat) (x1 : Int32) (S : Mem), Sim cX2_isAllDown RX2 1 21 (some .boolean) false Γ rI (f_X2_isAllDown_32 F k2 x0 x1 S) S 32 [some (.ref x0), some (.int x1)] [] := by
  intro x0 x1 S
  unfold f_X2_isAllDown_32
  refine s_iinc_1 (1 : Int32) dX2_isAllDown_32 (by decide) rfl ?_
  refine s_goto 2 dX2_isAllDown_35 (by decide) ?_
  exact s_less (hk2 x0 (x1 + (1 : Int32)) S) (And.intro rfl (And.intro rfl trivial))
set_option maxRecDepth 100000 in
theorem t_X2_isAllDown_2 {Γ : Cx} {F : Nat} : ∀ (f : Nat) (x0 : Nat) (x1 : Int32) (S : Mem), Sim cX2_isAllDown RX2 1 21 (some .boolean) false Γ rI (fix2 (b_X2_isAllDown_2 F) f x0 x1 S) S 2 [some (.ref x0), some (.int x1)] [] := by
  refine s_fix2 (fun (x0 : Nat) (x1 : Int32) => [some (.ref x0), some (.int x1)]) (fun k2 hk2 => ?_)
  intro x0 x1 S
  unfold b_X2_isAllDown_2
  refine s_iload_n 1 dX2_isAllDown_2 rfl rfl ?_
  refine s_aload_n 0 dX2_isAllDown_3 rfl rfl ?_
  refine s_getR fk_X2_30 rfl dX2_isAllDown_4 (fun v1 => ?_)
  refine s_getI fk_X2_59 rfl dX2_isAllDown_7 (fun v2 => ?_)
  refine s_icmp_ge 38 dX2_isAllDown_10 (by decide) (fun _ => ?_) (fun _ => ?_)
  · refine s_iconst (1 : Int32) dX2_isAllDown_38 (by decide) ?_
    exact s_zret dX2_isAllDown_39
  · refine s_aload_n 0 dX2_isAllDown_13 rfl rfl ?_
    refine s_iload_n 1 dX2_isAllDown_14 rfl rfl ?_
    refine s_cV1I mk_X2_62 (by decide) rfl (fun v9 S9 h9 => con_X2_isLost F _ _ _ v9 S9 h9) ⟨by omega, by omega⟩ (Nat.le_of_ble_eq_true rfl) dX2_isAllDown_15 (fun v3 S4 => ?_)
    refine s_if_ne 32 dX2_isAllDown_18 (by decide) (fun _ => ?_) (fun _ => ?_)
    · exact s_less (t_X2_isAllDown_32 hk2 x0 x1  S4) (And.intro rfl (And.intro rfl trivial))
    · refine s_aload_n 0 dX2_isAllDown_21 rfl rfl ?_
      refine s_getR fk_X2_9 rfl dX2_isAllDown_22 (fun v5 => ?_)
      refine s_iload_n 1 dX2_isAllDown_25 rfl rfl ?_
      refine s_iald dX2_isAllDown_26 (fun v6 => ?_)
      refine s_if_le 32 dX2_isAllDown_27 (by decide) (fun _ => ?_) (fun _ => ?_)
      · exact s_less (t_X2_isAllDown_32 hk2 x0 x1  S4) (And.intro rfl (And.intro rfl trivial))
      · refine s_iconst (0 : Int32) dX2_isAllDown_30 (by decide) ?_
        exact s_zret dX2_isAllDown_31
set_option maxRecDepth 100000 in
theorem con_X2_isAllDown {l : Launch} (F : Nat) (x0 : Nat) (S : Mem) (v : Int32) (S1 : Mem) (h : fn_X2_isAllDown F x0 S = some (v, S1)) : Con l yX2_isAllDown cX2_isAllDown 2 (some .boolean) 1 21 [.ref x0] S (rI v) S1 := by
  refine con_of (ι := rI) RX2 false [some (.ref x0), none] rfl (fun h => by cases h) (by decide) (Nat.le_of_ble_eq_true rfl) ⟨rfl, rfl⟩ (fun Γ hl => ?_) h
  unfold fn_X2_isAllDown
  refine s_iconst (0 : Int32) dX2_isAllDown_0 (by decide) ?_
  refine s_istore_1 dX2_isAllDown_1 rfl ?_
  exact s_less (t_X2_isAllDown_2 F x0 (0 : Int32) S) (And.intro rfl (And.intro rfl trivial))
-- X3_factCode
def fn_X3_factCode (F : Nat) (x0 : Int32) (S : Mem) : Option (Int32 × Mem) :=
  some (((-1 : Int32) - x0), S)
set_option maxRecDepth 100000 in
theorem con_X3_factCode {l : Launch} (F : Nat) (x0 : Int32) (S : Mem) (v : Int32) (S1 : Mem) (h : fn_X3_factCode F x0 S = some (v, S1)) : Con l yX3_factCode cX3_factCode 1 (some .int) 0 0 [.int x0] S (rI v) S1 := by
  refine con_of (ι := rI) RX3 false [some (.int x0)] rfl (fun h => by cases h) (by decide) (Nat.le_of_ble_eq_true rfl) ⟨rfl, rfl⟩ (fun Γ hl => ?_) h
  unfold fn_X3_factCode
  refine s_iconst (-1 : Int32) dX3_factCode_0 (by decide) ?_
  refine s_iload_n 0 dX3_factCode_1 rfl rfl ?_
  refine s_isub dX3_factCode_2 ?_
  exact s_iret dX3_factCode_3
-- X4_init
def fn_X4_init (F : Nat) (x0 : Nat) (S : Mem) : Option (Unit × Mem) :=
  bd (nA S 10 (41 : Int32)) fun v1 S2 =>
  (sR S2 4 0 x0 v1).bind fun S3 =>
  bd (nA S3 10 (246 : Int32)) fun v4 S5 =>
  (sR S5 4 1 x0 v4).bind fun S6 =>
  bd (nA S6 10 (6 : Int32)) fun v7 S8 =>
  (sR S8 4 2 x0 v7).bind fun S9 =>
  bd (nA S9 10 (6 : Int32)) fun v10 S11 =>
  (sR S11 4 3 x0 v10).bind fun S12 =>
  bd (nA S12 10 (7 : Int32)) fun v13 S14 =>
  (sR S14 4 4 x0 v13).bind fun S15 =>
  bd (nA S15 10 (0 : Int32)) fun v16 S17 =>
  (sR S17 4 5 x0 v16).bind fun S18 =>
  bd (nA S18 10 (0 : Int32)) fun v19 S20 =>
  (sR S20 4 6 x0 v19).bind fun S21 =>
  some ((), S21)
set_option maxRecDepth 100000 in
theorem con_X4_init {l : Launch} (F : Nat) (x0 : Nat) (S : Mem) (v : Unit) (S1 : Mem) (h : fn_X4_init F x0 S = some (v, S1)) : Con l yX4_init cX4_init 1 none 1 28 [.ref x0] S (rV v) S1 := by
  refine con_of (ι := rV) RX4 true [some (.ref x0)] rfl (fun _ => rfl) (by decide) (Nat.le_of_ble_eq_true rfl) ⟨rfl, rfl⟩ (fun Γ hl => ?_) h
  unfold fn_X4_init
  refine s_aload_n 0 dX4_init_0 rfl rfl ?_
  refine s_objInit (lw_in 367 (by decide +kernel) (by decide +kernel)) (lw_in 108 (by decide +kernel) (by decide +kernel)) (lw_in 109 (by decide +kernel) (by decide +kernel)) ⟨by omega, by show _ + 12 ≤ _; simp [Value.category] <;> omega⟩ dX4_init_1 ?_
  refine s_aload_n 0 dX4_init_4 rfl rfl ?_
  refine s_bipush (41 : Int32) dX4_init_5 (by decide) ?_
  refine s_newa10 (lw_in 185 (by decide +kernel) (by decide +kernel)) dX4_init_7 (fun v1 S2 => ?_)
  refine s_putR fk_X4_11 (Or.inr ⟨rfl, rfl, rfl⟩) rfl dX4_init_9 (fun S3 => ?_)
  refine s_aload_n 0 dX4_init_12 rfl rfl ?_
  refine s_sipush (246 : Int32) dX4_init_13 (by decide) ?_
  refine s_newa10 (lw_in 185 (by decide +kernel) (by decide +kernel)) dX4_init_16 (fun v4 S5 => ?_)
  refine s_putR fk_X4_15 (Or.inr ⟨rfl, rfl, rfl⟩) rfl dX4_init_18 (fun S6 => ?_)
  refine s_aload_n 0 dX4_init_21 rfl rfl ?_
  refine s_bipush (6 : Int32) dX4_init_22 (by decide) ?_
  refine s_newa10 (lw_in 185 (by decide +kernel) (by decide +kernel)) dX4_init_24 (fun v7 S8 => ?_)
  refine s_putR fk_X4_18 (Or.inr ⟨rfl, rfl, rfl⟩) rfl dX4_init_26 (fun S9 => ?_)
  refine s_aload_n 0 dX4_init_29 rfl rfl ?_
  refine s_bipush (6 : Int32) dX4_init_30 (by decide) ?_
  refine s_newa10 (lw_in 185 (by decide +kernel) (by decide +kernel)) dX4_init_32 (fun v10 S11 => ?_)
  refine s_putR fk_X4_21 (Or.inr ⟨rfl, rfl, rfl⟩) rfl dX4_init_34 (fun S12 => ?_)
  refine s_aload_n 0 dX4_init_37 rfl rfl ?_
  refine s_bipush (7 : Int32) dX4_init_38 (by decide) ?_
  refine s_newa10 (lw_in 185 (by decide +kernel) (by decide +kernel)) dX4_init_40 (fun v13 S14 => ?_)
  refine s_putR fk_X4_24 (Or.inr ⟨rfl, rfl, rfl⟩) rfl dX4_init_42 (fun S15 => ?_)
  refine s_aload_n 0 dX4_init_45 rfl rfl ?_
  refine s_iconst (0 : Int32) dX4_init_46 (by decide) ?_
  refine s_newa10 (lw_in 185 (by decide +kernel) (by decide +kernel)) dX4_init_47 (fun v16 S17 => ?_)
  refine s_putR fk_X4_27 (Or.inl rfl) rfl dX4_init_49 (fun S18 => ?_)
  refine s_aload_n 0 dX4_init_52 rfl rfl ?_
  refine s_iconst (0 : Int32) dX4_init_53 (by decide) ?_
  refine s_newa10 (lw_in 185 (by decide +kernel) (by decide +kernel)) dX4_init_54 (fun v19 S20 => ?_)
  refine s_putR fk_X4_30 (Or.inl rfl) rfl dX4_init_56 (fun S21 => ?_)
  exact s_vret dX4_init_59
-- X4_spread
def f_X4_spread_126 (F : Nat) (k78 : Nat → Nat → Int32 → Int32 → Int32 → Mem → Option (Unit × Mem)) (x0 : Nat) (x1 : Nat) (x2 : Int32) (x4 : Int32) (x6 : Int32) (y0 : Nat) (y1 : Int32) (y2 : Int32) (S : Mem) : Option (Unit × Mem) :=
  (sA S y0 y1 y2).bind fun S1 =>
  k78 x0 x1 x2 x4 (x6 + (1 : Int32)) S1
def b_X4_spread_78 (F : Nat) (k78 : Nat → Nat → Int32 → Int32 → Int32 → Mem → Option (Unit × Mem)) (x0 : Nat) (x1 : Nat) (x2 : Int32) (x4 : Int32) (x6 : Int32) (S : Mem) : Option (Unit × Mem) :=
  (gR S 4 3 x0).bind fun v1 =>
  (gA S 10 v1 x2).bind fun v2 =>
  if v2 < x6 then
    some ((), S)
  else
    (gR S 4 1 x0).bind fun v3 =>
    if x4 = 0 then
      (gR S 2 0 x1).bind fun v4 =>
      (gR S 4 0 x0).bind fun v5 =>
      (gA S 10 v5 x6).bind fun v6 =>
      bd (cal S 5 v4 (fn_X5_pullOf F v4 x2 x6 v6 S)) fun v7 S8 =>
      f_X4_spread_126 F k78 x0 x1 x2 x4 x6 v3 ((x2 * (41 : Int32)) + x6) v7 S8
    else
      f_X4_spread_126 F k78 x0 x1 x2 x4 x6 v3 ((x2 * (41 : Int32)) + x6) (0 : Int32) S
def f_X4_spread_69 (F : Nat) (x0 : Nat) (x1 : Nat) (x2 : Int32) (x4 : Int32) (y0 : Nat) (y1 : Int32) (y2 : Int32) (S : Mem) : Option (Unit × Mem) :=
  (sA S y0 y1 y2).bind fun S1 =>
  (gR S1 4 2 x0).bind fun v2 =>
  (gA S1 10 v2 x2).bind fun v3 =>
  fix5 (b_X4_spread_78 F) F x0 x1 x2 x4 v3 S1
def f_X4_spread_44 (F : Nat) (x0 : Nat) (x1 : Nat) (x2 : Int32) (x3 : Int32) (x4 : Int32) (x5 : Int32) (y0 : Nat) (y1 : Int32) (y2 : Int32) (S : Mem) : Option (Unit × Mem) :=
  (sA S y0 y1 y2).bind fun S1 =>
  (gR S1 4 3 x0).bind fun v2 =>
  if x4 = 0 then
    f_X4_spread_69 F x0 x1 x2 x4 v2 x2 (mnI (40 : Int32) (x5 + x3)) S1
  else
    f_X4_spread_69 F x0 x1 x2 x4 v2 x2 x5 S1
def fn_X4_spread (F : Nat) (x0 : Nat) (x1 : Nat) (x2 : Int32) (x3 : Int32) (S : Mem) : Option (Unit × Mem) :=
  bd (cal S 2 x1 (fn_X2_isLost F x1 x2 S)) fun v1 S2 =>
  (gR S2 2 4 x1).bind fun v3 =>
  (gA S2 10 v3 x2).bind fun v4 =>
  bd ((fn_X8_clamped F v4 (0 : Int32) (40 : Int32) S2)) fun v5 S6 =>
  (gR S6 4 2 x0).bind fun v7 =>
  if v1 = 0 then
    f_X4_spread_44 F x0 x1 x2 x3 v1 v5 v7 x2 (mxI (0 : Int32) (v5 - x3)) S6
  else
    f_X4_spread_44 F x0 x1 x2 x3 v1 v5 v7 x2 v5 S6
set_option maxRecDepth 100000 in
theorem t_X4_spread_126 {Γ : Cx} {F : Nat} {k78 : Nat → Nat → Int32 → Int32 → Int32 → Mem → Option (Unit × Mem)} (hk78 : ∀ (x0 : Nat) (x1 : Nat) (x2 : Int32) (x4 : Int32) (x6 : Int32) (S : Mem), Sim cX4_spread RX4 2 50 none false Γ rV (k78 x0 x1 x2 x4 x6 S) S 78 [some (.ref x0), some (.ref x1), some (.int x2), none, some (.int x4), none, some (.int x6)] []) : ∀ (x0 : Nat) (x1 : Nat) (x2 : Int32) (x4 : Int32) (x6 : Int32) (y0 : Nat) (y1 : Int32) (y2 : Int32) (S : Mem), Sim cX4_spread RX4 2 50 none false Γ rV (f_X4_spread_126 F k78 x0 x1 x2 x4 x6 y0 y1 y2 S) S 126 [some (.ref x0), some (.ref x1), some (.int x2), none, some (.int x4), none, some (.int x6)] [.int y2, .int y1, .ref y0] := by
  intro x0 x1 x2 x4 x6 y0 y1 y2 S
  unfold f_X4_spread_126
  refine s_iast dX4_spread_126 (fun S1 => ?_)
  refine s_iinc_6 (1 : Int32) dX4_spread_127 (by decide) rfl ?_
  refine s_goto 78 dX4_spread_130 (by decide) ?_
  exact s_less (hk78 x0 x1 x2 x4 (x6 + (1 : Int32)) S1) (And.intro rfl (And.intro rfl (And.intro rfl (And.intro rfl (And.intro rfl trivial)))))
set_option maxRecDepth 100000 in
theorem t_X4_spread_78 {Γ : Cx} {F : Nat} : ∀ (f : Nat) (x0 : Nat) (x1 : Nat) (x2 : Int32) (x4 : Int32) (x6 : Int32) (S : Mem), Sim cX4_spread RX4 2 50 none false Γ rV (fix5 (b_X4_spread_78 F) f x0 x1 x2 x4 x6 S) S 78 [some (.ref x0), some (.ref x1), some (.int x2), none, some (.int x4), none, some (.int x6)] [] := by
  refine s_fix5 (fun (x0 : Nat) (x1 : Nat) (x2 : Int32) (x4 : Int32) (x6 : Int32) => [some (.ref x0), some (.ref x1), some (.int x2), none, some (.int x4), none, some (.int x6)]) (fun k78 hk78 => ?_)
  intro x0 x1 x2 x4 x6 S
  unfold b_X4_spread_78
  refine s_iload dX4_spread_78 rfl ?_
  refine s_aload_n 0 dX4_spread_80 rfl rfl ?_
  refine s_getR fk_X4_21 rfl dX4_spread_81 (fun v1 => ?_)
  refine s_iload_n 2 dX4_spread_84 rfl rfl ?_
  refine s_iald dX4_spread_85 (fun v2 => ?_)
  refine s_icmp_gt 133 dX4_spread_86 (by decide) (fun _ => ?_) (fun _ => ?_)
  · exact s_vret dX4_spread_133
  · refine s_aload_n 0 dX4_spread_89 rfl rfl ?_
    refine s_getR fk_X4_15 rfl dX4_spread_90 (fun v3 => ?_)
    refine s_iload_n 2 dX4_spread_93 rfl rfl ?_
    refine s_bipush (41 : Int32) dX4_spread_94 (by decide) ?_
    refine s_imul dX4_spread_96 ?_
    refine s_iload dX4_spread_97 rfl ?_
    refine s_iadd dX4_spread_99 ?_
    refine s_iload dX4_spread_100 rfl ?_
    refine s_if_eq 109 dX4_spread_102 (by decide) (fun _ => ?_) (fun _ => ?_)
    · refine s_aload_n 1 dX4_spread_109 rfl rfl ?_
      refine s_getR fk_X4_63 rfl dX4_spread_110 (fun v4 => ?_)
      refine s_iload_n 2 dX4_spread_113 rfl rfl ?_
      refine s_iload dX4_spread_114 rfl ?_
      refine s_aload_n 0 dX4_spread_116 rfl rfl ?_
      refine s_getR fk_X4_11 rfl dX4_spread_117 (fun v5 => ?_)
      refine s_iload dX4_spread_120 rfl ?_
      refine s_iald dX4_spread_122 (fun v6 => ?_)
      refine s_cV3I mk_X4_127 (by decide) rfl (fun v9 S9 h9 => con_X5_pullOf F _ _ _ _ _ v9 S9 h9) ⟨by omega, by omega⟩ (Nat.le_of_ble_eq_true rfl) dX4_spread_123 (fun v7 S8 => ?_)
      exact s_less (t_X4_spread_126 hk78 x0 x1 x2 x4 x6 v3 ((x2 * (41 : Int32)) + x6) v7 S8) (And.intro rfl (And.intro rfl (And.intro rfl (And.intro rfl (And.intro rfl trivial)))))
    · refine s_iconst (0 : Int32) dX4_spread_105 (by decide) ?_
      refine s_goto 126 dX4_spread_106 (by decide) ?_
      exact s_less (t_X4_spread_126 hk78 x0 x1 x2 x4 x6 v3 ((x2 * (41 : Int32)) + x6) (0 : Int32) S) (And.intro rfl (And.intro rfl (And.intro rfl (And.intro rfl (And.intro rfl trivial)))))
set_option maxRecDepth 100000 in
theorem t_X4_spread_69 {Γ : Cx} {F : Nat} : ∀ (x0 : Nat) (x1 : Nat) (x2 : Int32) (x4 : Int32) (y0 : Nat) (y1 : Int32) (y2 : Int32) (S : Mem), Sim cX4_spread RX4 2 50 none false Γ rV (f_X4_spread_69 F x0 x1 x2 x4 y0 y1 y2 S) S 69 [some (.ref x0), some (.ref x1), some (.int x2), none, some (.int x4), none, none] [.int y2, .int y1, .ref y0] := by
  intro x0 x1 x2 x4 y0 y1 y2 S
  unfold f_X4_spread_69
  refine s_iast dX4_spread_69 (fun S1 => ?_)
  refine s_aload_n 0 dX4_spread_70 rfl rfl ?_
  refine s_getR fk_X4_18 rfl dX4_spread_71 (fun v2 => ?_)
  refine s_iload_n 2 dX4_spread_74 rfl rfl ?_
  refine s_iald dX4_spread_75 (fun v3 => ?_)
  refine s_istore_6 dX4_spread_76 rfl ?_
  exact s_less (t_X4_spread_78 F x0 x1 x2 x4 v3 S1) (And.intro rfl (And.intro rfl (And.intro rfl (And.intro rfl (And.intro rfl trivial)))))
set_option maxRecDepth 100000 in
theorem t_X4_spread_44 {Γ : Cx} {F : Nat} : ∀ (x0 : Nat) (x1 : Nat) (x2 : Int32) (x3 : Int32) (x4 : Int32) (x5 : Int32) (y0 : Nat) (y1 : Int32) (y2 : Int32) (S : Mem), Sim cX4_spread RX4 2 50 none false Γ rV (f_X4_spread_44 F x0 x1 x2 x3 x4 x5 y0 y1 y2 S) S 44 [some (.ref x0), some (.ref x1), some (.int x2), some (.int x3), some (.int x4), some (.int x5), none] [.int y2, .int y1, .ref y0] := by
  intro x0 x1 x2 x3 x4 x5 y0 y1 y2 S
  unfold f_X4_spread_44
  refine s_iast dX4_spread_44 (fun S1 => ?_)
  refine s_aload_n 0 dX4_spread_45 rfl rfl ?_
  refine s_getR fk_X4_21 rfl dX4_spread_46 (fun v2 => ?_)
  refine s_iload_n 2 dX4_spread_49 rfl rfl ?_
  refine s_iload dX4_spread_50 rfl ?_
  refine s_if_eq 60 dX4_spread_52 (by decide) (fun _ => ?_) (fun _ => ?_)
  · refine s_bipush (40 : Int32) dX4_spread_60 (by decide) ?_
    refine s_iload dX4_spread_62 rfl ?_
    refine s_iload_n 3 dX4_spread_64 rfl rfl ?_
    refine s_iadd dX4_spread_65 ?_
    refine s_mmin mm_X4_72 mm_min_s mm_i mm_min_c ⟨by omega, by simp [Value.category] <;> omega⟩ dX4_spread_66 ?_
    exact s_less (t_X4_spread_69 x0 x1 x2 x4 v2 x2 (mnI (40 : Int32) (x5 + x3)) S1) (And.intro rfl (And.intro rfl (And.intro rfl (And.intro rfl trivial))))
  · refine s_iload dX4_spread_55 rfl ?_
    refine s_goto 69 dX4_spread_57 (by decide) ?_
    exact s_less (t_X4_spread_69 x0 x1 x2 x4 v2 x2 x5 S1) (And.intro rfl (And.intro rfl (And.intro rfl (And.intro rfl trivial))))
set_option maxRecDepth 100000 in
theorem con_X4_spread {l : Launch} (F : Nat) (x0 : Nat) (x1 : Nat) (x2 : Int32) (x3 : Int32) (S : Mem) (v : Unit) (S1 : Mem) (h : fn_X4_spread F x0 x1 x2 x3 S = some (v, S1)) : Con l yX4_spread cX4_spread 7 none 2 50 [.ref x0, .ref x1, .int x2, .int x3] S (rV v) S1 := by
  refine con_of (ι := rV) RX4 false [some (.ref x0), some (.ref x1), some (.int x2), some (.int x3), none, none, none] rfl (fun h => by cases h) (by decide) (Nat.le_of_ble_eq_true rfl) ⟨rfl, rfl⟩ (fun Γ hl => ?_) h
  unfold fn_X4_spread
  refine s_aload_n 1 dX4_spread_0 rfl rfl ?_
  refine s_iload_n 2 dX4_spread_1 rfl rfl ?_
  refine s_cV1I mk_X4_116 (by decide) rfl (fun v9 S9 h9 => con_X2_isLost F _ _ _ v9 S9 h9) ⟨by omega, by omega⟩ (Nat.le_of_ble_eq_true rfl) dX4_spread_2 (fun v1 S2 => ?_)
  refine s_istore_4 dX4_spread_5 rfl ?_
  refine s_aload_n 1 dX4_spread_7 rfl rfl ?_
  refine s_getR fk_X4_82 rfl dX4_spread_8 (fun v3 => ?_)
  refine s_iload_n 2 dX4_spread_11 rfl rfl ?_
  refine s_iald dX4_spread_12 (fun v4 => ?_)
  refine s_iconst (0 : Int32) dX4_spread_13 (by decide) ?_
  refine s_bipush (40 : Int32) dX4_spread_14 (by decide) ?_
  refine s_cSN3I mk_X4_120 (fun v9 S9 h9 => con_X8_clamped F _ _ _ _ v9 S9 h9) ⟨by omega, by omega⟩ (Nat.le_of_ble_eq_true rfl) dX4_spread_16 (fun v5 S6 => ?_)
  refine s_istore_5 dX4_spread_19 rfl ?_
  refine s_aload_n 0 dX4_spread_21 rfl rfl ?_
  refine s_getR fk_X4_18 rfl dX4_spread_22 (fun v7 => ?_)
  refine s_iload_n 2 dX4_spread_25 rfl rfl ?_
  refine s_iload dX4_spread_26 rfl ?_
  refine s_if_eq 36 dX4_spread_28 (by decide) (fun _ => ?_) (fun _ => ?_)
  · refine s_iconst (0 : Int32) dX4_spread_36 (by decide) ?_
    refine s_iload dX4_spread_37 rfl ?_
    refine s_iload_n 3 dX4_spread_39 rfl rfl ?_
    refine s_isub dX4_spread_40 ?_
    refine s_mmax mm_X4_124 mm_max_s mm_i mm_max_c ⟨by omega, by simp [Value.category] <;> omega⟩ dX4_spread_41 ?_
    exact s_less (t_X4_spread_44 x0 x1 x2 x3 v1 v5 v7 x2 (mxI (0 : Int32) (v5 - x3)) S6) (And.intro rfl (And.intro rfl (And.intro rfl (And.intro rfl (And.intro rfl (And.intro rfl trivial))))))
  · refine s_iload dX4_spread_31 rfl ?_
    refine s_goto 44 dX4_spread_33 (by decide) ?_
    exact s_less (t_X4_spread_44 x0 x1 x2 x3 v1 v5 v7 x2 v5 S6) (And.intro rfl (And.intro rfl (And.intro rfl (And.intro rfl (And.intro rfl (And.intro rfl trivial))))))
-- X4_reckonGap
def b_X4_reckonGap_33 (F : Nat) (k33 : Nat → Int32 → Int32 → Int32 → Mem → Option (Unit × Mem)) (x0 : Nat) (x1 : Int32) (x2 : Int32) (x3 : Int32) (S : Mem) : Option (Unit × Mem) :=
  if (40 : Int32) < x3 then
    (gI S 4 9 x0).bind fun v1 =>
    (sI S 4 11 x0 (mxI (0 : Int32) ((v1 - x1) - (x2 / (5 : Int32))))).bind fun S2 =>
    some ((), S2)
  else
    (gR S 4 0 x0).bind fun v3 =>
    (gA S 10 v3 x3).bind fun v4 =>
    lt ((mxI x2 v4)) fun v5 =>
    k33 x0 x1 v5 (x3 + (1 : Int32)) S
def b_X4_reckonGap_4 (F : Nat) (k4 : Nat → Int32 → Int32 → Mem → Option (Unit × Mem)) (x0 : Nat) (x1 : Int32) (x2 : Int32) (S : Mem) : Option (Unit × Mem) :=
  (gI S 4 7 x0).bind fun v1 =>
  if v1 ≤ x2 then
    fix4 (b_X4_reckonGap_33 F) F x0 x1 (0 : Int32) (0 : Int32) S
  else
    (gR S 4 6 x0).bind fun v2 =>
    (gA S 10 v2 x2).bind fun v3 =>
    lt ((mxI x1 v3)) fun v4 =>
    k4 x0 v4 (x2 + (1 : Int32)) S
def fn_X4_reckonGap (F : Nat) (x0 : Nat) (S : Mem) : Option (Unit × Mem) :=
  fix3 (b_X4_reckonGap_4 F) F x0 (0 : Int32) (0 : Int32) S
set_option maxRecDepth 100000 in
theorem t_X4_reckonGap_33 {Γ : Cx} {F : Nat} : ∀ (f : Nat) (x0 : Nat) (x1 : Int32) (x2 : Int32) (x3 : Int32) (S : Mem), Sim cX4_reckonGap RX4 1 24 none false Γ rV (fix4 (b_X4_reckonGap_33 F) f x0 x1 x2 x3 S) S 33 [some (.ref x0), some (.int x1), some (.int x2), some (.int x3)] [] := by
  refine s_fix4 (fun (x0 : Nat) (x1 : Int32) (x2 : Int32) (x3 : Int32) => [some (.ref x0), some (.int x1), some (.int x2), some (.int x3)]) (fun k33 hk33 => ?_)
  intro x0 x1 x2 x3 S
  unfold b_X4_reckonGap_33
  refine s_iload_n 3 dX4_reckonGap_33 rfl rfl ?_
  refine s_bipush (40 : Int32) dX4_reckonGap_34 (by decide) ?_
  refine s_icmp_gt 56 dX4_reckonGap_36 (by decide) (fun _ => ?_) (fun _ => ?_)
  · refine s_aload_n 0 dX4_reckonGap_56 rfl rfl ?_
    refine s_iconst (0 : Int32) dX4_reckonGap_57 (by decide) ?_
    refine s_aload_n 0 dX4_reckonGap_58 rfl rfl ?_
    refine s_getI fk_X4_84 rfl dX4_reckonGap_59 (fun v1 => ?_)
    refine s_iload_n 1 dX4_reckonGap_62 rfl rfl ?_
    refine s_isub dX4_reckonGap_63 ?_
    refine s_iload_n 2 dX4_reckonGap_64 rfl rfl ?_
    refine s_iconst (5 : Int32) dX4_reckonGap_65 (by decide) ?_
    refine s_idivc dX4_reckonGap_66 (by decide) ?_
    refine s_isub dX4_reckonGap_67 ?_
    refine s_mmax mm_X4_124 mm_max_s mm_i mm_max_c ⟨by omega, by simp [Value.category] <;> omega⟩ dX4_reckonGap_68 ?_
    refine s_putI fk_X4_130 (Or.inl rfl) rfl dX4_reckonGap_71 (fun S2 => ?_)
    exact s_vret dX4_reckonGap_74
  · refine s_iload_n 2 dX4_reckonGap_39 rfl rfl ?_
    refine s_aload_n 0 dX4_reckonGap_40 rfl rfl ?_
    refine s_getR fk_X4_11 rfl dX4_reckonGap_41 (fun v3 => ?_)
    refine s_iload_n 3 dX4_reckonGap_44 rfl rfl ?_
    refine s_iald dX4_reckonGap_45 (fun v4 => ?_)
    refine s_mmax mm_X4_124 mm_max_s mm_i mm_max_c ⟨by omega, by simp [Value.category] <;> omega⟩ dX4_reckonGap_46 ?_
    refine s_ltI (fun v5 => ?_)
    refine s_istore_2 dX4_reckonGap_49 rfl ?_
    refine s_iinc_3 (1 : Int32) dX4_reckonGap_50 (by decide) rfl ?_
    refine s_goto 33 dX4_reckonGap_53 (by decide) ?_
    exact s_less (hk33 x0 x1 v5 (x3 + (1 : Int32)) S) (And.intro rfl (And.intro rfl (And.intro rfl (And.intro rfl trivial))))
set_option maxRecDepth 100000 in
theorem t_X4_reckonGap_4 {Γ : Cx} {F : Nat} : ∀ (f : Nat) (x0 : Nat) (x1 : Int32) (x2 : Int32) (S : Mem), Sim cX4_reckonGap RX4 1 24 none false Γ rV (fix3 (b_X4_reckonGap_4 F) f x0 x1 x2 S) S 4 [some (.ref x0), some (.int x1), some (.int x2), none] [] := by
  refine s_fix3 (fun (x0 : Nat) (x1 : Int32) (x2 : Int32) => [some (.ref x0), some (.int x1), some (.int x2), none]) (fun k4 hk4 => ?_)
  intro x0 x1 x2 S
  unfold b_X4_reckonGap_4
  refine s_iload_n 2 dX4_reckonGap_4 rfl rfl ?_
  refine s_aload_n 0 dX4_reckonGap_5 rfl rfl ?_
  refine s_getI fk_X4_58 rfl dX4_reckonGap_6 (fun v1 => ?_)
  refine s_icmp_ge 29 dX4_reckonGap_9 (by decide) (fun _ => ?_) (fun _ => ?_)
  · refine s_iconst (0 : Int32) dX4_reckonGap_29 (by decide) ?_
    refine s_istore_2 dX4_reckonGap_30 rfl ?_
    refine s_iconst (0 : Int32) dX4_reckonGap_31 (by decide) ?_
    refine s_istore_3 dX4_reckonGap_32 rfl ?_
    exact s_less (t_X4_reckonGap_33 F x0 x1 (0 : Int32) (0 : Int32) S) (And.intro rfl (And.intro rfl (And.intro rfl (And.intro rfl trivial))))
  · refine s_iload_n 1 dX4_reckonGap_12 rfl rfl ?_
    refine s_aload_n 0 dX4_reckonGap_13 rfl rfl ?_
    refine s_getR fk_X4_30 rfl dX4_reckonGap_14 (fun v2 => ?_)
    refine s_iload_n 2 dX4_reckonGap_17 rfl rfl ?_
    refine s_iald dX4_reckonGap_18 (fun v3 => ?_)
    refine s_mmax mm_X4_124 mm_max_s mm_i mm_max_c ⟨by omega, by simp [Value.category] <;> omega⟩ dX4_reckonGap_19 ?_
    refine s_ltI (fun v4 => ?_)
    refine s_istore_1 dX4_reckonGap_22 rfl ?_
    refine s_iinc_2 (1 : Int32) dX4_reckonGap_23 (by decide) rfl ?_
    refine s_goto 4 dX4_reckonGap_26 (by decide) ?_
    exact s_less (hk4 x0 v4 (x2 + (1 : Int32)) S) (And.intro rfl (And.intro rfl (And.intro rfl trivial)))
set_option maxRecDepth 100000 in
theorem con_X4_reckonGap {l : Launch} (F : Nat) (x0 : Nat) (S : Mem) (v : Unit) (S1 : Mem) (h : fn_X4_reckonGap F x0 S = some (v, S1)) : Con l yX4_reckonGap cX4_reckonGap 4 none 1 24 [.ref x0] S (rV v) S1 := by
  refine con_of (ι := rV) RX4 false [some (.ref x0), none, none, none] rfl (fun h => by cases h) (by decide) (Nat.le_of_ble_eq_true rfl) ⟨rfl, rfl⟩ (fun Γ hl => ?_) h
  unfold fn_X4_reckonGap
  refine s_iconst (0 : Int32) dX4_reckonGap_0 (by decide) ?_
  refine s_istore_1 dX4_reckonGap_1 rfl ?_
  refine s_iconst (0 : Int32) dX4_reckonGap_2 (by decide) ?_
  refine s_istore_2 dX4_reckonGap_3 rfl ?_
  exact s_less (t_X4_reckonGap_4 F x0 (0 : Int32) (0 : Int32) S) (And.intro rfl (And.intro rfl (And.intro rfl trivial)))
-- X4_reckonReach
def b_X4_reckonReach_37 (F : Nat) (k17 : Nat → Int32 → Mem → Option (Unit × Mem)) (k37 : Nat → Int32 → Int32 → Int32 → Mem → Option (Unit × Mem)) (x0 : Nat) (x1 : Int32) (x2 : Int32) (x3 : Int32) (S : Mem) : Option (Unit × Mem) :=
  (gR S 4 3 x0).bind fun v1 =>
  (gA S 10 v1 x1).bind fun v2 =>
  if v2 < x3 then
    (gR S 4 4 x0).bind fun v3 =>
    (gR S 4 4 x0).bind fun v4 =>
    (gA S 10 v4 (x1 + (1 : Int32))).bind fun v5 =>
    (sA S v3 x1 (v5 + x2)).bind fun S6 =>
    k17 x0 (x1 + (-1 : Int32)) S6
  else
    (gR S 4 1 x0).bind fun v7 =>
    (gA S 10 v7 ((x1 * (41 : Int32)) + x3)).bind fun v8 =>
    lt ((mxI x2 v8)) fun v9 =>
    k37 x0 x1 v9 (x3 + (1 : Int32)) S
def b_X4_reckonReach_17 (F : Nat) (k17 : Nat → Int32 → Mem → Option (Unit × Mem)) (x0 : Nat) (x1 : Int32) (S : Mem) : Option (Unit × Mem) :=
  if x1 < 0 then
    some ((), S)
  else
    (gI S 4 14 x0).bind fun v1 =>
    (gR S 4 2 x0).bind fun v2 =>
    (gA S 10 v2 x1).bind fun v3 =>
    lt ((mxI v1 v3)) fun v4 =>
    fix4 (b_X4_reckonReach_37 F k17) F x0 x1 (0 : Int32) v4 S
def fn_X4_reckonReach (F : Nat) (x0 : Nat) (S : Mem) : Option (Unit × Mem) :=
  (gR S 4 4 x0).bind fun v1 =>
  (gI S 4 7 x0).bind fun v2 =>
  (sA S v1 v2 (0 : Int32)).bind fun S3 =>
  (gI S3 4 7 x0).bind fun v4 =>
  lt ((v4 - (1 : Int32))) fun v5 =>
  fix2 (b_X4_reckonReach_17 F) F x0 v5 S3
set_option maxRecDepth 100000 in
theorem t_X4_reckonReach_37 {Γ : Cx} {F : Nat} {k17 : Nat → Int32 → Mem → Option (Unit × Mem)} (hk17 : ∀ (x0 : Nat) (x1 : Int32) (S : Mem), Sim cX4_reckonReach RX4 1 24 none false Γ rV (k17 x0 x1 S) S 17 [some (.ref x0), some (.int x1), none, none] []) : ∀ (f : Nat) (x0 : Nat) (x1 : Int32) (x2 : Int32) (x3 : Int32) (S : Mem), Sim cX4_reckonReach RX4 1 24 none false Γ rV (fix4 (b_X4_reckonReach_37 F k17) f x0 x1 x2 x3 S) S 37 [some (.ref x0), some (.int x1), some (.int x2), some (.int x3)] [] := by
  refine s_fix4 (fun (x0 : Nat) (x1 : Int32) (x2 : Int32) (x3 : Int32) => [some (.ref x0), some (.int x1), some (.int x2), some (.int x3)]) (fun k37 hk37 => ?_)
  intro x0 x1 x2 x3 S
  unfold b_X4_reckonReach_37
  refine s_iload_n 3 dX4_reckonReach_37 rfl rfl ?_
  refine s_aload_n 0 dX4_reckonReach_38 rfl rfl ?_
  refine s_getR fk_X4_21 rfl dX4_reckonReach_39 (fun v1 => ?_)
  refine s_iload_n 1 dX4_reckonReach_42 rfl rfl ?_
  refine s_iald dX4_reckonReach_43 (fun v2 => ?_)
  refine s_icmp_gt 69 dX4_reckonReach_44 (by decide) (fun _ => ?_) (fun _ => ?_)
  · refine s_aload_n 0 dX4_reckonReach_69 rfl rfl ?_
    refine s_getR fk_X4_24 rfl dX4_reckonReach_70 (fun v3 => ?_)
    refine s_iload_n 1 dX4_reckonReach_73 rfl rfl ?_
    refine s_aload_n 0 dX4_reckonReach_74 rfl rfl ?_
    refine s_getR fk_X4_24 rfl dX4_reckonReach_75 (fun v4 => ?_)
    refine s_iload_n 1 dX4_reckonReach_78 rfl rfl ?_
    refine s_iconst (1 : Int32) dX4_reckonReach_79 (by decide) ?_
    refine s_iadd dX4_reckonReach_80 ?_
    refine s_iald dX4_reckonReach_81 (fun v5 => ?_)
    refine s_iload_n 2 dX4_reckonReach_82 rfl rfl ?_
    refine s_iadd dX4_reckonReach_83 ?_
    refine s_iast dX4_reckonReach_84 (fun S6 => ?_)
    refine s_iinc_1 (-1 : Int32) dX4_reckonReach_85 (by decide) rfl ?_
    refine s_goto 17 dX4_reckonReach_88 (by decide) ?_
    exact s_less (hk17 x0 (x1 + (-1 : Int32)) S6) (And.intro rfl (And.intro rfl trivial))
  · refine s_iload_n 2 dX4_reckonReach_47 rfl rfl ?_
    refine s_aload_n 0 dX4_reckonReach_48 rfl rfl ?_
    refine s_getR fk_X4_15 rfl dX4_reckonReach_49 (fun v7 => ?_)
    refine s_iload_n 1 dX4_reckonReach_52 rfl rfl ?_
    refine s_bipush (41 : Int32) dX4_reckonReach_53 (by decide) ?_
    refine s_imul dX4_reckonReach_55 ?_
    refine s_iload_n 3 dX4_reckonReach_56 rfl rfl ?_
    refine s_iadd dX4_reckonReach_57 ?_
    refine s_iald dX4_reckonReach_58 (fun v8 => ?_)
    refine s_mmax mm_X4_124 mm_max_s mm_i mm_max_c ⟨by omega, by simp [Value.category] <;> omega⟩ dX4_reckonReach_59 ?_
    refine s_ltI (fun v9 => ?_)
    refine s_istore_2 dX4_reckonReach_62 rfl ?_
    refine s_iinc_3 (1 : Int32) dX4_reckonReach_63 (by decide) rfl ?_
    refine s_goto 37 dX4_reckonReach_66 (by decide) ?_
    exact s_less (hk37 x0 x1 v9 (x3 + (1 : Int32)) S) (And.intro rfl (And.intro rfl (And.intro rfl (And.intro rfl trivial))))
set_option maxRecDepth 100000 in
theorem t_X4_reckonReach_17 {Γ : Cx} {F : Nat} : ∀ (f : Nat) (x0 : Nat) (x1 : Int32) (S : Mem), Sim cX4_reckonReach RX4 1 24 none false Γ rV (fix2 (b_X4_reckonReach_17 F) f x0 x1 S) S 17 [some (.ref x0), some (.int x1), none, none] [] := by
  refine s_fix2 (fun (x0 : Nat) (x1 : Int32) => [some (.ref x0), some (.int x1), none, none]) (fun k17 hk17 => ?_)
  intro x0 x1 S
  unfold b_X4_reckonReach_17
  refine s_iload_n 1 dX4_reckonReach_17 rfl rfl ?_
  refine s_if_lt 91 dX4_reckonReach_18 (by decide) (fun _ => ?_) (fun _ => ?_)
  · exact s_vret dX4_reckonReach_91
  · refine s_iconst (0 : Int32) dX4_reckonReach_21 (by decide) ?_
    refine s_istore_2 dX4_reckonReach_22 rfl ?_
    refine s_aload_n 0 dX4_reckonReach_23 rfl rfl ?_
    refine s_getI fk_X4_106 rfl dX4_reckonReach_24 (fun v1 => ?_)
    refine s_aload_n 0 dX4_reckonReach_27 rfl rfl ?_
    refine s_getR fk_X4_18 rfl dX4_reckonReach_28 (fun v2 => ?_)
    refine s_iload_n 1 dX4_reckonReach_31 rfl rfl ?_
    refine s_iald dX4_reckonReach_32 (fun v3 => ?_)
    refine s_mmax mm_X4_124 mm_max_s mm_i mm_max_c ⟨by omega, by simp [Value.category] <;> omega⟩ dX4_reckonReach_33 ?_
    refine s_ltI (fun v4 => ?_)
    refine s_istore_3 dX4_reckonReach_36 rfl ?_
    exact s_less (t_X4_reckonReach_37 hk17 F x0 x1 (0 : Int32) v4 S) (And.intro rfl (And.intro rfl (And.intro rfl (And.intro rfl trivial))))
set_option maxRecDepth 100000 in
theorem con_X4_reckonReach {l : Launch} (F : Nat) (x0 : Nat) (S : Mem) (v : Unit) (S1 : Mem) (h : fn_X4_reckonReach F x0 S = some (v, S1)) : Con l yX4_reckonReach cX4_reckonReach 4 none 1 24 [.ref x0] S (rV v) S1 := by
  refine con_of (ι := rV) RX4 false [some (.ref x0), none, none, none] rfl (fun h => by cases h) (by decide) (Nat.le_of_ble_eq_true rfl) ⟨rfl, rfl⟩ (fun Γ hl => ?_) h
  unfold fn_X4_reckonReach
  refine s_aload_n 0 dX4_reckonReach_0 rfl rfl ?_
  refine s_getR fk_X4_24 rfl dX4_reckonReach_1 (fun v1 => ?_)
  refine s_aload_n 0 dX4_reckonReach_4 rfl rfl ?_
  refine s_getI fk_X4_58 rfl dX4_reckonReach_5 (fun v2 => ?_)
  refine s_iconst (0 : Int32) dX4_reckonReach_8 (by decide) ?_
  refine s_iast dX4_reckonReach_9 (fun S3 => ?_)
  refine s_aload_n 0 dX4_reckonReach_10 rfl rfl ?_
  refine s_getI fk_X4_58 rfl dX4_reckonReach_11 (fun v4 => ?_)
  refine s_iconst (1 : Int32) dX4_reckonReach_14 (by decide) ?_
  refine s_isub dX4_reckonReach_15 ?_
  refine s_ltI (fun v5 => ?_)
  refine s_istore_1 dX4_reckonReach_16 rfl ?_
  exact s_less (t_X4_reckonReach_17 F x0 v5 S3) (And.intro rfl (And.intro rfl trivial))
-- X4_bestChanged
def fn_X4_bestChanged (F : Nat) (x0 : Nat) (S : Mem) : Option (Int32 × Mem) :=
  (gJ S 4 15 x0).bind fun v1 =>
  some ((((v1 >>> (((36 : Int32)).toInt64 &&& 63)) &&& (7 : Int64))).toInt32, S)
set_option maxRecDepth 100000 in
theorem con_X4_bestChanged {l : Launch} (F : Nat) (x0 : Nat) (S : Mem) (v : Int32) (S1 : Mem) (h : fn_X4_bestChanged F x0 S = some (v, S1)) : Con l yX4_bestChanged cX4_bestChanged 1 (some .int) 0 0 [.ref x0] S (rI v) S1 := by
  refine con_of (ι := rI) RX4 false [some (.ref x0)] rfl (fun h => by cases h) (by decide) (Nat.le_of_ble_eq_true rfl) ⟨rfl, rfl⟩ (fun Γ hl => ?_) h
  unfold fn_X4_bestChanged
  refine s_aload_n 0 dX4_bestChanged_0 rfl rfl ?_
  refine s_getJ fk_X4_48 rfl dX4_bestChanged_1 (fun v1 => ?_)
  refine s_bipush (36 : Int32) dX4_bestChanged_4 (by decide) ?_
  refine s_lshr dX4_bestChanged_6 ?_
  refine s_ldc2 (v := (7 : Int64)) dX4_bestChanged_7 (lw_in 807 (by decide +kernel) (by decide +kernel)) ?_
  refine s_land dX4_bestChanged_10 ?_
  refine s_l2i dX4_bestChanged_11 ?_
  exact s_iret dX4_bestChanged_12
-- X4_isHopeless
def f_X4_isHopeless_111 (F : Nat) (y0 : Int32) (S : Mem) : Option (Int32 × Mem) :=
  rz y0 S
def f_X4_isHopeless_50 (F : Nat) (x0 : Nat) (x3 : Int32) (S : Mem) : Option (Int32 × Mem) :=
  (gI S 4 10 x0).bind fun v1 =>
  (gI S 4 14 x0).bind fun v2 =>
  lt ((v1 - (mxI (0 : Int32) (v2 - x3)))) fun v3 =>
  (gI S 4 14 x0).bind fun v4 =>
  (gI S 4 7 x0).bind fun v5 =>
  (gI S 4 10 x0).bind fun v6 =>
  lt (((v4 - v5) - v6)) fun v7 =>
  (gI S 4 11 x0).bind fun v8 =>
  (gI S 4 13 x0).bind fun v9 =>
  if (v8 + (mxI (0 : Int32) (mxI v3 v7))) ≤ v9 then
    f_X4_isHopeless_111 F  (0 : Int32) S
  else
    f_X4_isHopeless_111 F  (1 : Int32) S
def f_X4_isHopeless_48 (F : Nat)  (S : Mem) : Option (Int32 × Mem) :=
  rz (1 : Int32) S
def f_X4_isHopeless_32 (F : Nat) (x0 : Nat) (x3 : Int32) (x4 : Int32) (S : Mem) : Option (Int32 × Mem) :=
  (gI S 4 12 x0).bind fun v1 =>
  if v1 = 0 then
    bd (cal S 4 x0 (fn_X4_bestChanged F x0 S)) fun v2 S3 =>
    if x4 < v2 then
      f_X4_isHopeless_50 F x0 x3  S3
    else
      f_X4_isHopeless_48 F   S3
  else
    f_X4_isHopeless_50 F x0 x3  S
def f_X4_isHopeless_17 (F : Nat) (x0 : Nat) (x1 : Int32) (x3 : Int32) (x4 : Int32) (S : Mem) : Option (Int32 × Mem) :=
  (gI S 4 14 x0).bind fun v1 =>
  if v1 ≤ 0 then
    f_X4_isHopeless_32 F x0 x3 x4  S
  else
    (gI S 4 8 x0).bind fun v2 =>
    if x1 < v2 then
      f_X4_isHopeless_48 F   S
    else
      f_X4_isHopeless_32 F x0 x3 x4  S
def fn_X4_isHopeless (F : Nat) (x0 : Nat) (x1 : Int32) (x2 : Int32) (x3 : Int32) (x4 : Int32) (S : Mem) : Option (Int32 × Mem) :=
  (gI S 4 14 x0).bind fun v1 =>
  if (40 : Int32) ≤ v1 then
    f_X4_isHopeless_17 F x0 x1 x3 x4  S
  else
    (gI S 4 8 x0).bind fun v2 =>
    if v2 ≤ x2 then
      f_X4_isHopeless_48 F   S
    else
      f_X4_isHopeless_17 F x0 x1 x3 x4  S
set_option maxRecDepth 100000 in
theorem t_X4_isHopeless_111 {Γ : Cx} {F : Nat} : ∀ (y0 : Int32) (S : Mem), Sim cX4_isHopeless RX4 1 24 (some .boolean) false Γ rI (f_X4_isHopeless_111 F y0 S) S 111 [none, none, none, none, none, none, none] [.int y0] := by
  intro y0 S
  unfold f_X4_isHopeless_111
  exact s_zret dX4_isHopeless_111
set_option maxRecDepth 100000 in
theorem t_X4_isHopeless_50 {Γ : Cx} {F : Nat} : ∀ (x0 : Nat) (x3 : Int32) (S : Mem), Sim cX4_isHopeless RX4 1 24 (some .boolean) false Γ rI (f_X4_isHopeless_50 F x0 x3 S) S 50 [some (.ref x0), none, none, some (.int x3), none, none, none] [] := by
  intro x0 x3 S
  unfold f_X4_isHopeless_50
  refine s_aload_n 0 dX4_isHopeless_50 rfl rfl ?_
  refine s_getI fk_X4_87 rfl dX4_isHopeless_51 (fun v1 => ?_)
  refine s_iconst (0 : Int32) dX4_isHopeless_54 (by decide) ?_
  refine s_aload_n 0 dX4_isHopeless_55 rfl rfl ?_
  refine s_getI fk_X4_106 rfl dX4_isHopeless_56 (fun v2 => ?_)
  refine s_iload_n 3 dX4_isHopeless_59 rfl rfl ?_
  refine s_isub dX4_isHopeless_60 ?_
  refine s_mmax mm_X4_124 mm_max_s mm_i mm_max_c ⟨by omega, by simp [Value.category] <;> omega⟩ dX4_isHopeless_61 ?_
  refine s_isub dX4_isHopeless_64 ?_
  refine s_ltI (fun v3 => ?_)
  refine s_istore_5 dX4_isHopeless_65 rfl ?_
  refine s_aload_n 0 dX4_isHopeless_67 rfl rfl ?_
  refine s_getI fk_X4_106 rfl dX4_isHopeless_68 (fun v4 => ?_)
  refine s_aload_n 0 dX4_isHopeless_71 rfl rfl ?_
  refine s_getI fk_X4_58 rfl dX4_isHopeless_72 (fun v5 => ?_)
  refine s_isub dX4_isHopeless_75 ?_
  refine s_aload_n 0 dX4_isHopeless_76 rfl rfl ?_
  refine s_getI fk_X4_87 rfl dX4_isHopeless_77 (fun v6 => ?_)
  refine s_isub dX4_isHopeless_80 ?_
  refine s_ltI (fun v7 => ?_)
  refine s_istore_6 dX4_isHopeless_81 rfl ?_
  refine s_aload_n 0 dX4_isHopeless_83 rfl rfl ?_
  refine s_getI fk_X4_130 rfl dX4_isHopeless_84 (fun v8 => ?_)
  refine s_iconst (0 : Int32) dX4_isHopeless_87 (by decide) ?_
  refine s_iload dX4_isHopeless_88 rfl ?_
  refine s_iload dX4_isHopeless_90 rfl ?_
  refine s_mmax mm_X4_124 mm_max_s mm_i mm_max_c ⟨by omega, by simp [Value.category] <;> omega⟩ dX4_isHopeless_92 ?_
  refine s_mmax mm_X4_124 mm_max_s mm_i mm_max_c ⟨by omega, by simp [Value.category] <;> omega⟩ dX4_isHopeless_95 ?_
  refine s_iadd dX4_isHopeless_98 ?_
  refine s_aload_n 0 dX4_isHopeless_99 rfl rfl ?_
  refine s_getI fk_X4_40 rfl dX4_isHopeless_100 (fun v9 => ?_)
  refine s_icmp_le 110 dX4_isHopeless_103 (by decide) (fun _ => ?_) (fun _ => ?_)
  · refine s_iconst (0 : Int32) dX4_isHopeless_110 (by decide) ?_
    exact s_less (t_X4_isHopeless_111  (0 : Int32) S) trivial
  · refine s_iconst (1 : Int32) dX4_isHopeless_106 (by decide) ?_
    refine s_goto 111 dX4_isHopeless_107 (by decide) ?_
    exact s_less (t_X4_isHopeless_111  (1 : Int32) S) trivial
set_option maxRecDepth 100000 in
theorem t_X4_isHopeless_48 {Γ : Cx} {F : Nat} : ∀ (S : Mem), Sim cX4_isHopeless RX4 1 24 (some .boolean) false Γ rI (f_X4_isHopeless_48 F  S) S 48 [none, none, none, none, none, none, none] [] := by
  intro  S
  unfold f_X4_isHopeless_48
  refine s_iconst (1 : Int32) dX4_isHopeless_48 (by decide) ?_
  exact s_zret dX4_isHopeless_49
set_option maxRecDepth 100000 in
theorem t_X4_isHopeless_32 {Γ : Cx} {F : Nat} : ∀ (x0 : Nat) (x3 : Int32) (x4 : Int32) (S : Mem), Sim cX4_isHopeless RX4 1 24 (some .boolean) false Γ rI (f_X4_isHopeless_32 F x0 x3 x4 S) S 32 [some (.ref x0), none, none, some (.int x3), some (.int x4), none, none] [] := by
  intro x0 x3 x4 S
  unfold f_X4_isHopeless_32
  refine s_aload_n 0 dX4_isHopeless_32 rfl rfl ?_
  refine s_getI fk_X4_33 rfl dX4_isHopeless_33 (fun v1 => ?_)
  refine s_if_ne 50 dX4_isHopeless_36 (by decide) (fun _ => ?_) (fun _ => ?_)
  · exact s_less (t_X4_isHopeless_50 x0 x3  S) (And.intro rfl (And.intro rfl trivial))
  · refine s_iload dX4_isHopeless_39 rfl ?_
    refine s_aload_n 0 dX4_isHopeless_41 rfl rfl ?_
    refine s_cV0I mk_X4_141 (by decide) rfl (fun v9 S9 h9 => con_X4_bestChanged F _ _ v9 S9 h9) ⟨by omega, by omega⟩ (Nat.le_of_ble_eq_true rfl) dX4_isHopeless_42 (fun v2 S3 => ?_)
    refine s_icmp_lt 50 dX4_isHopeless_45 (by decide) (fun _ => ?_) (fun _ => ?_)
    · exact s_less (t_X4_isHopeless_50 x0 x3  S3) (And.intro rfl (And.intro rfl trivial))
    · exact s_less (t_X4_isHopeless_48   S3) trivial
set_option maxRecDepth 100000 in
theorem t_X4_isHopeless_17 {Γ : Cx} {F : Nat} : ∀ (x0 : Nat) (x1 : Int32) (x3 : Int32) (x4 : Int32) (S : Mem), Sim cX4_isHopeless RX4 1 24 (some .boolean) false Γ rI (f_X4_isHopeless_17 F x0 x1 x3 x4 S) S 17 [some (.ref x0), some (.int x1), none, some (.int x3), some (.int x4), none, none] [] := by
  intro x0 x1 x3 x4 S
  unfold f_X4_isHopeless_17
  refine s_aload_n 0 dX4_isHopeless_17 rfl rfl ?_
  refine s_getI fk_X4_106 rfl dX4_isHopeless_18 (fun v1 => ?_)
  refine s_if_le 32 dX4_isHopeless_21 (by decide) (fun _ => ?_) (fun _ => ?_)
  · exact s_less (t_X4_isHopeless_32 x0 x3 x4  S) (And.intro rfl (And.intro rfl (And.intro rfl trivial)))
  · refine s_iload_n 1 dX4_isHopeless_24 rfl rfl ?_
    refine s_aload_n 0 dX4_isHopeless_25 rfl rfl ?_
    refine s_getI fk_X4_81 rfl dX4_isHopeless_26 (fun v2 => ?_)
    refine s_icmp_lt 48 dX4_isHopeless_29 (by decide) (fun _ => ?_) (fun _ => ?_)
    · exact s_less (t_X4_isHopeless_48   S) trivial
    · exact s_less (t_X4_isHopeless_32 x0 x3 x4  S) (And.intro rfl (And.intro rfl (And.intro rfl trivial)))
set_option maxRecDepth 100000 in
theorem con_X4_isHopeless {l : Launch} (F : Nat) (x0 : Nat) (x1 : Int32) (x2 : Int32) (x3 : Int32) (x4 : Int32) (S : Mem) (v : Int32) (S1 : Mem) (h : fn_X4_isHopeless F x0 x1 x2 x3 x4 S = some (v, S1)) : Con l yX4_isHopeless cX4_isHopeless 7 (some .boolean) 1 24 [.ref x0, .int x1, .int x2, .int x3, .int x4] S (rI v) S1 := by
  refine con_of (ι := rI) RX4 false [some (.ref x0), some (.int x1), some (.int x2), some (.int x3), some (.int x4), none, none] rfl (fun h => by cases h) (by decide) (Nat.le_of_ble_eq_true rfl) ⟨rfl, rfl⟩ (fun Γ hl => ?_) h
  unfold fn_X4_isHopeless
  refine s_aload_n 0 dX4_isHopeless_0 rfl rfl ?_
  refine s_getI fk_X4_106 rfl dX4_isHopeless_1 (fun v1 => ?_)
  refine s_bipush (40 : Int32) dX4_isHopeless_4 (by decide) ?_
  refine s_icmp_ge 17 dX4_isHopeless_6 (by decide) (fun _ => ?_) (fun _ => ?_)
  · exact s_less (t_X4_isHopeless_17 x0 x1 x3 x4  S) (And.intro rfl (And.intro rfl (And.intro rfl (And.intro rfl trivial))))
  · refine s_iload_n 2 dX4_isHopeless_9 rfl rfl ?_
    refine s_aload_n 0 dX4_isHopeless_10 rfl rfl ?_
    refine s_getI fk_X4_81 rfl dX4_isHopeless_11 (fun v2 => ?_)
    refine s_icmp_ge 48 dX4_isHopeless_14 (by decide) (fun _ => ?_) (fun _ => ?_)
    · exact s_less (t_X4_isHopeless_48   S) trivial
    · exact s_less (t_X4_isHopeless_17 x0 x1 x3 x4  S) (And.intro rfl (And.intro rfl (And.intro rfl (And.intro rfl trivial))))
-- X8_distance
def fn_X8_distance (F : Nat) (x0 : Int32) (x1 : Int32) (x2 : Int32) (x3 : Int32) (S : Mem) : Option (Int32 × Mem) :=
  some (((abI (x0 - x2)) + (abI (x1 - x3))), S)
set_option maxRecDepth 100000 in
theorem con_X8_distance {l : Launch} (F : Nat) (x0 : Int32) (x1 : Int32) (x2 : Int32) (x3 : Int32) (S : Mem) (v : Int32) (S1 : Mem) (h : fn_X8_distance F x0 x1 x2 x3 S = some (v, S1)) : Con l yX8_distance cX8_distance 4 (some .int) 1 24 [.int x0, .int x1, .int x2, .int x3] S (rI v) S1 := by
  refine con_of (ι := rI) RX8 false [some (.int x0), some (.int x1), some (.int x2), some (.int x3)] rfl (fun h => by cases h) (by decide) (Nat.le_of_ble_eq_true rfl) ⟨rfl, rfl⟩ (fun Γ hl => ?_) h
  unfold fn_X8_distance
  refine s_iload_n 0 dX8_distance_0 rfl rfl ?_
  refine s_iload_n 2 dX8_distance_1 rfl rfl ?_
  refine s_isub dX8_distance_2 ?_
  refine s_mabs mm_X8_261 mm_abs_s mm_i mm_abs_c ⟨by omega, by simp [Value.category] <;> omega⟩ dX8_distance_3 ?_
  refine s_iload_n 1 dX8_distance_6 rfl rfl ?_
  refine s_iload_n 3 dX8_distance_7 rfl rfl ?_
  refine s_isub dX8_distance_8 ?_
  refine s_mabs mm_X8_261 mm_abs_s mm_i mm_abs_c ⟨by omega, by simp [Value.category] <;> omega⟩ dX8_distance_9 ?_
  refine s_iadd dX8_distance_12 ?_
  exact s_iret dX8_distance_13
-- X4_judge
def f_X4_judge_127 (F : Nat)  (S : Mem) : Option (Unit × Mem) :=
  some ((), S)
def f_X4_judge_124 (F : Nat) (y0 : Nat) (y1 : Int32) (S : Mem) : Option (Unit × Mem) :=
  (sI S 4 13 y0 y1).bind fun S1 =>
  f_X4_judge_127 F   S1
def f_X4_judge_75 (F : Nat) (x0 : Nat) (x4 : Int32) (x5 : Int64) (x9 : Int32) (y0 : Int32) (S : Mem) : Option (Unit × Mem) :=
  lt (((((y0).toInt64 <<< (((39 : Int32)).toInt64 &&& 63)) + ((x4).toInt64 <<< (((36 : Int32)).toInt64 &&& 63))) + x5)) fun v1 =>
  (gJ S 4 15 x0).bind fun v2 =>
  if 0 ≤ (lg_cmp v1 v2) then
    f_X4_judge_127 F   S
  else
    (sJ S 4 15 x0 v1).bind fun S3 =>
    (gI S3 4 12 x0).bind fun v4 =>
    if v4 = 0 then
      (gI S3 4 13 x0).bind fun v5 =>
      f_X4_judge_124 F  x0 v5 S3
    else
      f_X4_judge_124 F  x0 x9 S3
def f_X4_judge_23 (F : Nat) (x0 : Nat) (x4 : Int32) (x5 : Int64) (x7 : Int32) (y0 : Int32) (S : Mem) : Option (Unit × Mem) :=
  (gR S 4 0 x0).bind fun v1 =>
  (gA S 10 v1 x7).bind fun v2 =>
  lt ((y0 + (v2 / (5 : Int32)))) fun v3 =>
  (gI S 4 9 x0).bind fun v4 =>
  (gI S 4 10 x0).bind fun v5 =>
  bd ((fn_X8_distance F v3 x7 v4 v5 S)) fun v6 S7 =>
  (gI S7 4 13 x0).bind fun v8 =>
  if v6 ≤ v8 then
    (gI S7 4 12 x0).bind fun v9 =>
    if v9 = 0 then
      f_X4_judge_75 F x0 x4 x5 v6 (0 : Int32) S7
    else
      f_X4_judge_75 F x0 x4 x5 v6 v6 S7
  else
    some ((), S7)
def fn_X4_judge (F : Nat) (x0 : Nat) (x1 : Int32) (x2 : Int32) (x3 : Int32) (x4 : Int32) (x5 : Int64) (S : Mem) : Option (Unit × Mem) :=
  (gI S 4 14 x0).bind fun v1 =>
  lt ((mxI (0 : Int32) (v1 - x3))) fun v2 =>
  if x1 ≤ 0 then
    f_X4_judge_23 F x0 x4 x5 v2 (0 : Int32) S
  else
    nz x1 (
    f_X4_judge_23 F x0 x4 x5 v2 (x2 / x1) S)
set_option maxRecDepth 100000 in
theorem t_X4_judge_127 {Γ : Cx} {F : Nat} : ∀ (S : Mem), Sim cX4_judge RX4 2 47 none false Γ rV (f_X4_judge_127 F  S) S 127 [none, none, none, none, none, none, none, none, none, none, none, none] [] := by
  intro  S
  unfold f_X4_judge_127
  exact s_vret dX4_judge_127
set_option maxRecDepth 100000 in
theorem t_X4_judge_124 {Γ : Cx} {F : Nat} : ∀ (y0 : Nat) (y1 : Int32) (S : Mem), Sim cX4_judge RX4 2 47 none false Γ rV (f_X4_judge_124 F y0 y1 S) S 124 [none, none, none, none, none, none, none, none, none, none, none, none] [.int y1, .ref y0] := by
  intro y0 y1 S
  unfold f_X4_judge_124
  refine s_putI fk_X4_40 (Or.inl rfl) rfl dX4_judge_124 (fun S1 => ?_)
  exact s_less (t_X4_judge_127   S1) trivial
set_option maxRecDepth 100000 in
theorem t_X4_judge_75 {Γ : Cx} {F : Nat} : ∀ (x0 : Nat) (x4 : Int32) (x5 : Int64) (x9 : Int32) (y0 : Int32) (S : Mem), Sim cX4_judge RX4 2 47 none false Γ rV (f_X4_judge_75 F x0 x4 x5 x9 y0 S) S 75 [some (.ref x0), none, none, none, some (.int x4), some (.long x5), none, none, none, some (.int x9), none, none] [.int y0] := by
  intro x0 x4 x5 x9 y0 S
  unfold f_X4_judge_75
  refine s_i2l dX4_judge_75 ?_
  refine s_bipush (39 : Int32) dX4_judge_76 (by decide) ?_
  refine s_lshl dX4_judge_78 ?_
  refine s_iload dX4_judge_79 rfl ?_
  refine s_i2l dX4_judge_81 ?_
  refine s_bipush (36 : Int32) dX4_judge_82 (by decide) ?_
  refine s_lshl dX4_judge_84 ?_
  refine s_ladd dX4_judge_85 ?_
  refine s_lload dX4_judge_86 rfl ?_
  refine s_ladd dX4_judge_88 ?_
  refine s_ltJ (fun v1 => ?_)
  refine s_lstore_10 dX4_judge_89 rfl ?_
  refine s_lload dX4_judge_91 rfl ?_
  refine s_aload_n 0 dX4_judge_93 rfl rfl ?_
  refine s_getJ fk_X4_48 rfl dX4_judge_94 (fun v2 => ?_)
  refine s_lcmp dX4_judge_97 ?_
  refine s_if_ge 127 dX4_judge_98 (by decide) (fun _ => ?_) (fun _ => ?_)
  · exact s_less (t_X4_judge_127   S) trivial
  · refine s_aload_n 0 dX4_judge_101 rfl rfl ?_
    refine s_lload dX4_judge_102 rfl ?_
    refine s_putJ fk_X4_48 (Or.inl rfl) rfl dX4_judge_104 (fun S3 => ?_)
    refine s_aload_n 0 dX4_judge_107 rfl rfl ?_
    refine s_aload_n 0 dX4_judge_108 rfl rfl ?_
    refine s_getI fk_X4_33 rfl dX4_judge_109 (fun v4 => ?_)
    refine s_if_eq 120 dX4_judge_112 (by decide) (fun _ => ?_) (fun _ => ?_)
    · refine s_aload_n 0 dX4_judge_120 rfl rfl ?_
      refine s_getI fk_X4_40 rfl dX4_judge_121 (fun v5 => ?_)
      exact s_less (t_X4_judge_124  x0 v5 S3) trivial
    · refine s_iload dX4_judge_115 rfl ?_
      refine s_goto 124 dX4_judge_117 (by decide) ?_
      exact s_less (t_X4_judge_124  x0 x9 S3) trivial
set_option maxRecDepth 100000 in
theorem t_X4_judge_23 {Γ : Cx} {F : Nat} : ∀ (x0 : Nat) (x4 : Int32) (x5 : Int64) (x7 : Int32) (y0 : Int32) (S : Mem), Sim cX4_judge RX4 2 47 none false Γ rV (f_X4_judge_23 F x0 x4 x5 x7 y0 S) S 23 [some (.ref x0), none, none, none, some (.int x4), some (.long x5), none, some (.int x7), none, none, none, none] [.int y0] := by
  intro x0 x4 x5 x7 y0 S
  unfold f_X4_judge_23
  refine s_aload_n 0 dX4_judge_23 rfl rfl ?_
  refine s_getR fk_X4_11 rfl dX4_judge_24 (fun v1 => ?_)
  refine s_iload dX4_judge_27 rfl ?_
  refine s_iald dX4_judge_29 (fun v2 => ?_)
  refine s_iconst (5 : Int32) dX4_judge_30 (by decide) ?_
  refine s_idivc dX4_judge_31 (by decide) ?_
  refine s_iadd dX4_judge_32 ?_
  refine s_ltI (fun v3 => ?_)
  refine s_istore_8 dX4_judge_33 rfl ?_
  refine s_iload dX4_judge_35 rfl ?_
  refine s_iload dX4_judge_37 rfl ?_
  refine s_aload_n 0 dX4_judge_39 rfl rfl ?_
  refine s_getI fk_X4_84 rfl dX4_judge_40 (fun v4 => ?_)
  refine s_aload_n 0 dX4_judge_43 rfl rfl ?_
  refine s_getI fk_X4_87 rfl dX4_judge_44 (fun v5 => ?_)
  refine s_cSN4I mk_X4_145 (fun v9 S9 h9 => con_X8_distance F _ _ _ _ _ v9 S9 h9) ⟨by omega, by omega⟩ (Nat.le_of_ble_eq_true rfl) dX4_judge_47 (fun v6 S7 => ?_)
  refine s_istore_9 dX4_judge_50 rfl ?_
  refine s_iload dX4_judge_52 rfl ?_
  refine s_aload_n 0 dX4_judge_54 rfl rfl ?_
  refine s_getI fk_X4_40 rfl dX4_judge_55 (fun v8 => ?_)
  refine s_icmp_le 62 dX4_judge_58 (by decide) (fun _ => ?_) (fun _ => ?_)
  · refine s_aload_n 0 dX4_judge_62 rfl rfl ?_
    refine s_getI fk_X4_33 rfl dX4_judge_63 (fun v9 => ?_)
    refine s_if_eq 74 dX4_judge_66 (by decide) (fun _ => ?_) (fun _ => ?_)
    · refine s_iconst (0 : Int32) dX4_judge_74 (by decide) ?_
      exact s_less (t_X4_judge_75 x0 x4 x5 v6 (0 : Int32) S7) (And.intro rfl (And.intro rfl (And.intro rfl (And.intro rfl trivial))))
    · refine s_iload dX4_judge_69 rfl ?_
      refine s_goto 75 dX4_judge_71 (by decide) ?_
      exact s_less (t_X4_judge_75 x0 x4 x5 v6 v6 S7) (And.intro rfl (And.intro rfl (And.intro rfl (And.intro rfl trivial))))
  · exact s_vret dX4_judge_61
set_option maxRecDepth 100000 in
theorem con_X4_judge {l : Launch} (F : Nat) (x0 : Nat) (x1 : Int32) (x2 : Int32) (x3 : Int32) (x4 : Int32) (x5 : Int64) (S : Mem) (v : Unit) (S1 : Mem) (h : fn_X4_judge F x0 x1 x2 x3 x4 x5 S = some (v, S1)) : Con l yX4_judge cX4_judge 12 none 2 47 [.ref x0, .int x1, .int x2, .int x3, .int x4, .long x5] S (rV v) S1 := by
  refine con_of (ι := rV) RX4 false [some (.ref x0), some (.int x1), some (.int x2), some (.int x3), some (.int x4), some (.long x5), none, none, none, none, none, none] rfl (fun h => by cases h) (by decide) (Nat.le_of_ble_eq_true rfl) ⟨rfl, rfl⟩ (fun Γ hl => ?_) h
  unfold fn_X4_judge
  refine s_iconst (0 : Int32) dX4_judge_0 (by decide) ?_
  refine s_aload_n 0 dX4_judge_1 rfl rfl ?_
  refine s_getI fk_X4_106 rfl dX4_judge_2 (fun v1 => ?_)
  refine s_iload_n 3 dX4_judge_5 rfl rfl ?_
  refine s_isub dX4_judge_6 ?_
  refine s_mmax mm_X4_124 mm_max_s mm_i mm_max_c ⟨by omega, by simp [Value.category] <;> omega⟩ dX4_judge_7 ?_
  refine s_ltI (fun v2 => ?_)
  refine s_istore_7 dX4_judge_10 rfl ?_
  refine s_iload_n 1 dX4_judge_12 rfl rfl ?_
  refine s_if_le 22 dX4_judge_13 (by decide) (fun _ => ?_) (fun _ => ?_)
  · refine s_iconst (0 : Int32) dX4_judge_22 (by decide) ?_
    exact s_less (t_X4_judge_23 x0 x4 x5 v2 (0 : Int32) S) (And.intro rfl (And.intro rfl (And.intro rfl (And.intro rfl trivial))))
  · refine s_iload_n 2 dX4_judge_16 rfl rfl ?_
    refine s_iload_n 1 dX4_judge_17 rfl rfl ?_
    refine s_idiv dX4_judge_18 ?_
    refine s_goto 23 dX4_judge_19 (by decide) ?_
    exact s_less (t_X4_judge_23 x0 x4 x5 v2 (x2 / x1) S) (And.intro rfl (And.intro rfl (And.intro rfl (And.intro rfl trivial))))
-- X4_choose
def f_X4_choose_169 (F : Nat) (rp : Nat → Int32 → Int32 → Int32 → Int32 → Int32 → Int32 → Int64 → Mem → Option (Unit × Mem)) (k51 : Nat → Int32 → Int32 → Int32 → Int32 → Int32 → Int32 → Int64 → Int32 → Mem → Option (Unit × Mem)) (x0 : Nat) (x1 : Int32) (x2 : Int32) (x3 : Int32) (x4 : Int32) (x5 : Int32) (x6 : Int32) (x7 : Int64) (x9 : Int32) (y0 : Nat) (y1 : Int32) (y2 : Int32) (y3 : Int32) (y4 : Int32) (y5 : Int32) (y6 : Int32) (S : Mem) : Option (Unit × Mem) :=
  bd (cal S 4 y0 (rp y0 y1 y2 y3 y4 y5 y6 ((x7 <<< (((6 : Int32)).toInt64 &&& 63)) ||| (x9).toInt64) S)) fun _ S2 =>
  k51 x0 x1 x2 x3 x4 x5 x6 x7 (x9 + (1 : Int32)) S2
def f_X4_choose_149 (F : Nat) (rp : Nat → Int32 → Int32 → Int32 → Int32 → Int32 → Int32 → Int64 → Mem → Option (Unit × Mem)) (k51 : Nat → Int32 → Int32 → Int32 → Int32 → Int32 → Int32 → Int64 → Int32 → Mem → Option (Unit × Mem)) (x0 : Nat) (x1 : Int32) (x2 : Int32) (x3 : Int32) (x4 : Int32) (x5 : Int32) (x6 : Int32) (x7 : Int64) (x9 : Int32) (y0 : Nat) (y1 : Int32) (y2 : Int32) (y3 : Int32) (y4 : Int32) (y5 : Int32) (S : Mem) : Option (Unit × Mem) :=
  (gR S 4 5 x0).bind fun v1 =>
  (gA S 10 v1 x1).bind fun v2 =>
  if x9 = v2 then
    f_X4_choose_169 F rp k51 x0 x1 x2 x3 x4 x5 x6 x7 x9 y0 y1 y2 y3 y4 y5 x6 S
  else
    f_X4_choose_169 F rp k51 x0 x1 x2 x3 x4 x5 x6 x7 x9 y0 y1 y2 y3 y4 y5 (x6 + (1 : Int32)) S
def f_X4_choose_122 (F : Nat) (rp : Nat → Int32 → Int32 → Int32 → Int32 → Int32 → Int32 → Int64 → Mem → Option (Unit × Mem)) (k51 : Nat → Int32 → Int32 → Int32 → Int32 → Int32 → Int32 → Int64 → Int32 → Mem → Option (Unit × Mem)) (x0 : Nat) (x1 : Int32) (x2 : Int32) (x3 : Int32) (x4 : Int32) (x5 : Int32) (x6 : Int32) (x7 : Int64) (x9 : Int32) (x10 : Int32) (x11 : Int32) (y0 : Nat) (y1 : Int32) (y2 : Int32) (y3 : Int32) (S : Mem) : Option (Unit × Mem) :=
  (gR S 4 6 x0).bind fun v1 =>
  (gA S 10 v1 x1).bind fun v2 =>
  if x10 = (-1 : Int32) then
    f_X4_choose_149 F rp k51 x0 x1 x2 x3 x4 x5 x6 x7 x9 y0 y1 y2 y3 (x4 + (x11 * v2)) (x5 + (1 : Int32)) S
  else
    f_X4_choose_149 F rp k51 x0 x1 x2 x3 x4 x5 x6 x7 x9 y0 y1 y2 y3 (x4 + (x11 * v2)) x5 S
def f_X4_choose_95 (F : Nat) (rp : Nat → Int32 → Int32 → Int32 → Int32 → Int32 → Int32 → Int64 → Mem → Option (Unit × Mem)) (k51 : Nat → Int32 → Int32 → Int32 → Int32 → Int32 → Int32 → Int64 → Int32 → Mem → Option (Unit × Mem)) (x0 : Nat) (x1 : Int32) (x2 : Int32) (x3 : Int32) (x4 : Int32) (x5 : Int32) (x6 : Int32) (x7 : Int64) (x9 : Int32) (x10 : Int32) (y0 : Int32) (S : Mem) : Option (Unit × Mem) :=
  (gI S 4 14 x0).bind fun v1 =>
  if x9 ≤ v1 then
    f_X4_choose_122 F rp k51 x0 x1 x2 x3 x4 x5 x6 x7 x9 x10 y0 x0 (x1 + (1 : Int32)) (x2 + y0) x3 S
  else
    f_X4_choose_122 F rp k51 x0 x1 x2 x3 x4 x5 x6 x7 x9 x10 y0 x0 (x1 + (1 : Int32)) (x2 + y0) (x3 + y0) S
def b_X4_choose_51 (F : Nat) (rp : Nat → Int32 → Int32 → Int32 → Int32 → Int32 → Int32 → Int64 → Mem → Option (Unit × Mem)) (k51 : Nat → Int32 → Int32 → Int32 → Int32 → Int32 → Int32 → Int64 → Int32 → Mem → Option (Unit × Mem)) (x0 : Nat) (x1 : Int32) (x2 : Int32) (x3 : Int32) (x4 : Int32) (x5 : Int32) (x6 : Int32) (x7 : Int64) (x9 : Int32) (S : Mem) : Option (Unit × Mem) :=
  (gR S 4 3 x0).bind fun v1 =>
  (gA S 10 v1 x1).bind fun v2 =>
  if v2 < x9 then
    some ((), S)
  else
    (gR S 4 1 x0).bind fun v3 =>
    (gA S 10 v3 ((x1 * (41 : Int32)) + x9)).bind fun v4 =>
    (gI S 4 14 x0).bind fun v5 =>
    if x9 < v5 then
      f_X4_choose_95 F rp k51 x0 x1 x2 x3 x4 x5 x6 x7 x9 v4 (0 : Int32) S
    else
      f_X4_choose_95 F rp k51 x0 x1 x2 x3 x4 x5 x6 x7 x9 v4 (mxI (0 : Int32) v4) S
def fb_X4_choose (F : Nat) (rp : Nat → Int32 → Int32 → Int32 → Int32 → Int32 → Int32 → Int64 → Mem → Option (Unit × Mem)) (x0 : Nat) (x1 : Int32) (x2 : Int32) (x3 : Int32) (x4 : Int32) (x5 : Int32) (x6 : Int32) (x7 : Int64) (S : Mem) : Option (Unit × Mem) :=
  (gR S 4 4 x0).bind fun v1 =>
  (gA S 10 v1 x1).bind fun v2 =>
  bd (cal S 4 x0 (fn_X4_isHopeless F x0 (x2 + v2) x3 x5 x6 S)) fun v3 S4 =>
  if v3 = 0 then
    (gI S4 4 7 x0).bind fun v5 =>
    if x1 < v5 then
      (gR S4 4 2 x0).bind fun v6 =>
      (gA S4 10 v6 x1).bind fun v7 =>
      fix9 (b_X4_choose_51 F rp) F x0 x1 x2 x3 x4 x5 x6 x7 v7 S4
    else
      bd (cal S4 4 x0 (fn_X4_judge F x0 x2 x4 x5 x6 x7 S4)) fun _ S9 =>
      some ((), S9)
  else
    some ((), S4)
def fn_X4_choose (F : Nat) : Nat → Nat → Int32 → Int32 → Int32 → Int32 → Int32 → Int32 → Int64 → Mem → Option (Unit × Mem)
  | 0 => fun _ _ _ _ _ _ _ _ _ => none
  | d + 1 => fb_X4_choose F (fn_X4_choose F d)
set_option maxRecDepth 100000 in
theorem t_X4_choose_169 {Γ : Cx} {F : Nat} {rp : Nat → Int32 → Int32 → Int32 → Int32 → Int32 → Int32 → Int64 → Mem → Option (Unit × Mem)} {frR loR : Nat} (hrp : ∀ (z0 : Nat) (z1 : Int32) (z2 : Int32) (z3 : Int32) (z4 : Int32) (z5 : Int32) (z6 : Int32) (z7 : Int64) (S : Mem) (v : Unit) (S1 : Mem), rp z0 z1 z2 z3 z4 z5 z6 z7 S = some (v, S1) → Con (lOf Γ) yX4_choose cX4_choose 12 none frR loR [.ref z0, .int z1, .int z2, .int z3, .int z4, .int z5, .int z6, .long z7] S (rV v) S1) {k51 : Nat → Int32 → Int32 → Int32 → Int32 → Int32 → Int32 → Int64 → Int32 → Mem → Option (Unit × Mem)} (hk51 : ∀ (x0 : Nat) (x1 : Int32) (x2 : Int32) (x3 : Int32) (x4 : Int32) (x5 : Int32) (x6 : Int32) (x7 : Int64) (x9 : Int32) (S : Mem), Sim cX4_choose RX4 (frR + 3) (loR + 78) none false Γ rV (k51 x0 x1 x2 x3 x4 x5 x6 x7 x9 S) S 51 [some (.ref x0), some (.int x1), some (.int x2), some (.int x3), some (.int x4), some (.int x5), some (.int x6), some (.long x7), none, some (.int x9), none, none] []) : ∀ (x0 : Nat) (x1 : Int32) (x2 : Int32) (x3 : Int32) (x4 : Int32) (x5 : Int32) (x6 : Int32) (x7 : Int64) (x9 : Int32) (y0 : Nat) (y1 : Int32) (y2 : Int32) (y3 : Int32) (y4 : Int32) (y5 : Int32) (y6 : Int32) (S : Mem), Sim cX4_choose RX4 (frR + 3) (loR + 78) none false Γ rV (f_X4_choose_169 F rp k51 x0 x1 x2 x3 x4 x5 x6 x7 x9 y0 y1 y2 y3 y4 y5 y6 S) S 169 [some (.ref x0), some (.int x1), some (.int x2), some (.int x3), some (.int x4), some (.int x5), some (.int x6), some (.long x7), none, some (.int x9), none, none] [.int y6, .int y5, .int y4, .int y3, .int y2, .int y1, .ref y0] := by
  intro x0 x1 x2 x3 x4 x5 x6 x7 x9 y0 y1 y2 y3 y4 y5 y6 S
  unfold f_X4_choose_169
  refine s_lload dX4_choose_169 rfl ?_
  refine s_bipush (6 : Int32) dX4_choose_171 (by decide) ?_
  refine s_lshl dX4_choose_173 ?_
  refine s_iload dX4_choose_174 rfl ?_
  refine s_i2l dX4_choose_176 ?_
  refine s_lor dX4_choose_177 ?_
  refine s_cV7V mk_X4_112 (by decide) rfl (fun v9 S9 h9 => hrp _ _ _ _ _ _ _ _ _ v9 S9 h9) ⟨by omega, by omega⟩ (Nat.le_of_ble_eq_true rfl) dX4_choose_178 (fun _ S2 => ?_)
  refine s_iinc_9 (1 : Int32) dX4_choose_181 (by decide) rfl ?_
  refine s_goto 51 dX4_choose_184 (by decide) ?_
  exact s_less (hk51 x0 x1 x2 x3 x4 x5 x6 x7 (x9 + (1 : Int32)) S2) (And.intro rfl (And.intro rfl (And.intro rfl (And.intro rfl (And.intro rfl (And.intro rfl (And.intro rfl (And.intro rfl (And.intro rfl trivial)))))))))
set_option maxRecDepth 100000 in
theorem t_X4_choose_149 {Γ : Cx} {F : Nat} {rp : Nat → Int32 → Int32 → Int32 → Int32 → Int32 → Int32 → Int64 → Mem → Option (Unit × Mem)} {frR loR : Nat} (hrp : ∀ (z0 : Nat) (z1 : Int32) (z2 : Int32) (z3 : Int32) (z4 : Int32) (z5 : Int32) (z6 : Int32) (z7 : Int64) (S : Mem) (v : Unit) (S1 : Mem), rp z0 z1 z2 z3 z4 z5 z6 z7 S = some (v, S1) → Con (lOf Γ) yX4_choose cX4_choose 12 none frR loR [.ref z0, .int z1, .int z2, .int z3, .int z4, .int z5, .int z6, .long z7] S (rV v) S1) {k51 : Nat → Int32 → Int32 → Int32 → Int32 → Int32 → Int32 → Int64 → Int32 → Mem → Option (Unit × Mem)} (hk51 : ∀ (x0 : Nat) (x1 : Int32) (x2 : Int32) (x3 : Int32) (x4 : Int32) (x5 : Int32) (x6 : Int32) (x7 : Int64) (x9 : Int32) (S : Mem), Sim cX4_choose RX4 (frR + 3) (loR + 78) none false Γ rV (k51 x0 x1 x2 x3 x4 x5 x6 x7 x9 S) S 51 [some (.ref x0), some (.int x1), some (.int x2), some (.int x3), some (.int x4), some (.int x5), some (.int x6), some (.long x7), none, some (.int x9), none, none] []) : ∀ (x0 : Nat) (x1 : Int32) (x2 : Int32) (x3 : Int32) (x4 : Int32) (x5 : Int32) (x6 : Int32) (x7 : Int64) (x9 : Int32) (y0 : Nat) (y1 : Int32) (y2 : Int32) (y3 : Int32) (y4 : Int32) (y5 : Int32) (S : Mem), Sim cX4_choose RX4 (frR + 3) (loR + 78) none false Γ rV (f_X4_choose_149 F rp k51 x0 x1 x2 x3 x4 x5 x6 x7 x9 y0 y1 y2 y3 y4 y5 S) S 149 [some (.ref x0), some (.int x1), some (.int x2), some (.int x3), some (.int x4), some (.int x5), some (.int x6), some (.long x7), none, some (.int x9), none, none] [.int y5, .int y4, .int y3, .int y2, .int y1, .ref y0] := by
  intro x0 x1 x2 x3 x4 x5 x6 x7 x9 y0 y1 y2 y3 y4 y5 S
  unfold f_X4_choose_149
  refine s_iload dX4_choose_149 rfl ?_
  refine s_aload_n 0 dX4_choose_151 rfl rfl ?_
  refine s_getR fk_X4_27 rfl dX4_choose_152 (fun v1 => ?_)
  refine s_iload_n 1 dX4_choose_155 rfl rfl ?_
  refine s_iald dX4_choose_156 (fun v2 => ?_)
  refine s_icmp_ne 165 dX4_choose_157 (by decide) (fun _ => ?_) (fun _ => ?_)
  · refine s_iload dX4_choose_165 rfl ?_
    refine s_iconst (1 : Int32) dX4_choose_167 (by decide) ?_
    refine s_iadd dX4_choose_168 ?_
    exact s_less (t_X4_choose_169 hrp hk51 x0 x1 x2 x3 x4 x5 x6 x7 x9 y0 y1 y2 y3 y4 y5 (x6 + (1 : Int32)) S) (And.intro rfl (And.intro rfl (And.intro rfl (And.intro rfl (And.intro rfl (And.intro rfl (And.intro rfl (And.intro rfl (And.intro rfl trivial)))))))))
  · refine s_iload dX4_choose_160 rfl ?_
    refine s_goto 169 dX4_choose_162 (by decide) ?_
    exact s_less (t_X4_choose_169 hrp hk51 x0 x1 x2 x3 x4 x5 x6 x7 x9 y0 y1 y2 y3 y4 y5 x6 S) (And.intro rfl (And.intro rfl (And.intro rfl (And.intro rfl (And.intro rfl (And.intro rfl (And.intro rfl (And.intro rfl (And.intro rfl trivial)))))))))
set_option maxRecDepth 100000 in
theorem t_X4_choose_122 {Γ : Cx} {F : Nat} {rp : Nat → Int32 → Int32 → Int32 → Int32 → Int32 → Int32 → Int64 → Mem → Option (Unit × Mem)} {frR loR : Nat} (hrp : ∀ (z0 : Nat) (z1 : Int32) (z2 : Int32) (z3 : Int32) (z4 : Int32) (z5 : Int32) (z6 : Int32) (z7 : Int64) (S : Mem) (v : Unit) (S1 : Mem), rp z0 z1 z2 z3 z4 z5 z6 z7 S = some (v, S1) → Con (lOf Γ) yX4_choose cX4_choose 12 none frR loR [.ref z0, .int z1, .int z2, .int z3, .int z4, .int z5, .int z6, .long z7] S (rV v) S1) {k51 : Nat → Int32 → Int32 → Int32 → Int32 → Int32 → Int32 → Int64 → Int32 → Mem → Option (Unit × Mem)} (hk51 : ∀ (x0 : Nat) (x1 : Int32) (x2 : Int32) (x3 : Int32) (x4 : Int32) (x5 : Int32) (x6 : Int32) (x7 : Int64) (x9 : Int32) (S : Mem), Sim cX4_choose RX4 (frR + 3) (loR + 78) none false Γ rV (k51 x0 x1 x2 x3 x4 x5 x6 x7 x9 S) S 51 [some (.ref x0), some (.int x1), some (.int x2), some (.int x3), some (.int x4), some (.int x5), some (.int x6), some (.long x7), none, some (.int x9), none, none] []) : ∀ (x0 : Nat) (x1 : Int32) (x2 : Int32) (x3 : Int32) (x4 : Int32) (x5 : Int32) (x6 : Int32) (x7 : Int64) (x9 : Int32) (x10 : Int32) (x11 : Int32) (y0 : Nat) (y1 : Int32) (y2 : Int32) (y3 : Int32) (S : Mem), Sim cX4_choose RX4 (frR + 3) (loR + 78) none false Γ rV (f_X4_choose_122 F rp k51 x0 x1 x2 x3 x4 x5 x6 x7 x9 x10 x11 y0 y1 y2 y3 S) S 122 [some (.ref x0), some (.int x1), some (.int x2), some (.int x3), some (.int x4), some (.int x5), some (.int x6), some (.long x7), none, some (.int x9), some (.int x10), some (.int x11)] [.int y3, .int y2, .int y1, .ref y0] := by
  intro x0 x1 x2 x3 x4 x5 x6 x7 x9 x10 x11 y0 y1 y2 y3 S
  unfold f_X4_choose_122
  refine s_iload dX4_choose_122 rfl ?_
  refine s_iload dX4_choose_124 rfl ?_
  refine s_aload_n 0 dX4_choose_126 rfl rfl ?_
  refine s_getR fk_X4_30 rfl dX4_choose_127 (fun v1 => ?_)
  refine s_iload_n 1 dX4_choose_130 rfl rfl ?_
  refine s_iald dX4_choose_131 (fun v2 => ?_)
  refine s_imul dX4_choose_132 ?_
  refine s_iadd dX4_choose_133 ?_
  refine s_iload dX4_choose_134 rfl ?_
  refine s_iconst (-1 : Int32) dX4_choose_136 (by decide) ?_
  refine s_icmp_ne 147 dX4_choose_137 (by decide) (fun _ => ?_) (fun _ => ?_)
  · refine s_iload dX4_choose_147 rfl ?_
    exact s_less (t_X4_choose_149 hrp hk51 x0 x1 x2 x3 x4 x5 x6 x7 x9 y0 y1 y2 y3 (x4 + (x11 * v2)) x5 S) (And.intro rfl (And.intro rfl (And.intro rfl (And.intro rfl (And.intro rfl (And.intro rfl (And.intro rfl (And.intro rfl (And.intro rfl trivial)))))))))
  · refine s_iload dX4_choose_140 rfl ?_
    refine s_iconst (1 : Int32) dX4_choose_142 (by decide) ?_
    refine s_iadd dX4_choose_143 ?_
    refine s_goto 149 dX4_choose_144 (by decide) ?_
    exact s_less (t_X4_choose_149 hrp hk51 x0 x1 x2 x3 x4 x5 x6 x7 x9 y0 y1 y2 y3 (x4 + (x11 * v2)) (x5 + (1 : Int32)) S) (And.intro rfl (And.intro rfl (And.intro rfl (And.intro rfl (And.intro rfl (And.intro rfl (And.intro rfl (And.intro rfl (And.intro rfl trivial)))))))))
set_option maxRecDepth 100000 in
theorem t_X4_choose_95 {Γ : Cx} {F : Nat} {rp : Nat → Int32 → Int32 → Int32 → Int32 → Int32 → Int32 → Int64 → Mem → Option (Unit × Mem)} {frR loR : Nat} (hrp : ∀ (z0 : Nat) (z1 : Int32) (z2 : Int32) (z3 : Int32) (z4 : Int32) (z5 : Int32) (z6 : Int32) (z7 : Int64) (S : Mem) (v : Unit) (S1 : Mem), rp z0 z1 z2 z3 z4 z5 z6 z7 S = some (v, S1) → Con (lOf Γ) yX4_choose cX4_choose 12 none frR loR [.ref z0, .int z1, .int z2, .int z3, .int z4, .int z5, .int z6, .long z7] S (rV v) S1) {k51 : Nat → Int32 → Int32 → Int32 → Int32 → Int32 → Int32 → Int64 → Int32 → Mem → Option (Unit × Mem)} (hk51 : ∀ (x0 : Nat) (x1 : Int32) (x2 : Int32) (x3 : Int32) (x4 : Int32) (x5 : Int32) (x6 : Int32) (x7 : Int64) (x9 : Int32) (S : Mem), Sim cX4_choose RX4 (frR + 3) (loR + 78) none false Γ rV (k51 x0 x1 x2 x3 x4 x5 x6 x7 x9 S) S 51 [some (.ref x0), some (.int x1), some (.int x2), some (.int x3), some (.int x4), some (.int x5), some (.int x6), some (.long x7), none, some (.int x9), none, none] []) : ∀ (x0 : Nat) (x1 : Int32) (x2 : Int32) (x3 : Int32) (x4 : Int32) (x5 : Int32) (x6 : Int32) (x7 : Int64) (x9 : Int32) (x10 : Int32) (y0 : Int32) (S : Mem), Sim cX4_choose RX4 (frR + 3) (loR + 78) none false Γ rV (f_X4_choose_95 F rp k51 x0 x1 x2 x3 x4 x5 x6 x7 x9 x10 y0 S) S 95 [some (.ref x0), some (.int x1), some (.int x2), some (.int x3), some (.int x4), some (.int x5), some (.int x6), some (.long x7), none, some (.int x9), some (.int x10), none] [.int y0] := by
  intro x0 x1 x2 x3 x4 x5 x6 x7 x9 x10 y0 S
  unfold f_X4_choose_95
  refine s_istore_11 dX4_choose_95 rfl ?_
  refine s_aload_n 0 dX4_choose_97 rfl rfl ?_
  refine s_iload_n 1 dX4_choose_98 rfl rfl ?_
  refine s_iconst (1 : Int32) dX4_choose_99 (by decide) ?_
  refine s_iadd dX4_choose_100 ?_
  refine s_iload_n 2 dX4_choose_101 rfl rfl ?_
  refine s_iload dX4_choose_102 rfl ?_
  refine s_iadd dX4_choose_104 ?_
  refine s_iload dX4_choose_105 rfl ?_
  refine s_aload_n 0 dX4_choose_107 rfl rfl ?_
  refine s_getI fk_X4_106 rfl dX4_choose_108 (fun v1 => ?_)
  refine s_icmp_le 121 dX4_choose_111 (by decide) (fun _ => ?_) (fun _ => ?_)
  · refine s_iload_n 3 dX4_choose_121 rfl rfl ?_
    exact s_less (t_X4_choose_122 hrp hk51 x0 x1 x2 x3 x4 x5 x6 x7 x9 x10 y0 x0 (x1 + (1 : Int32)) (x2 + y0) x3 S) (And.intro rfl (And.intro rfl (And.intro rfl (And.intro rfl (And.intro rfl (And.intro rfl (And.intro rfl (And.intro rfl (And.intro rfl (And.intro rfl (And.intro rfl trivial)))))))))))
  · refine s_iload_n 3 dX4_choose_114 rfl rfl ?_
    refine s_iload dX4_choose_115 rfl ?_
    refine s_iadd dX4_choose_117 ?_
    refine s_goto 122 dX4_choose_118 (by decide) ?_
    exact s_less (t_X4_choose_122 hrp hk51 x0 x1 x2 x3 x4 x5 x6 x7 x9 x10 y0 x0 (x1 + (1 : Int32)) (x2 + y0) (x3 + y0) S) (And.intro rfl (And.intro rfl (And.intro rfl (And.intro rfl (And.intro rfl (And.intro rfl (And.intro rfl (And.intro rfl (And.intro rfl (And.intro rfl (And.intro rfl trivial)))))))))))
set_option maxRecDepth 100000 in
theorem t_X4_choose_51 {Γ : Cx} {F : Nat} {rp : Nat → Int32 → Int32 → Int32 → Int32 → Int32 → Int32 → Int64 → Mem → Option (Unit × Mem)} {frR loR : Nat} (hrp : ∀ (z0 : Nat) (z1 : Int32) (z2 : Int32) (z3 : Int32) (z4 : Int32) (z5 : Int32) (z6 : Int32) (z7 : Int64) (S : Mem) (v : Unit) (S1 : Mem), rp z0 z1 z2 z3 z4 z5 z6 z7 S = some (v, S1) → Con (lOf Γ) yX4_choose cX4_choose 12 none frR loR [.ref z0, .int z1, .int z2, .int z3, .int z4, .int z5, .int z6, .long z7] S (rV v) S1) : ∀ (f : Nat) (x0 : Nat) (x1 : Int32) (x2 : Int32) (x3 : Int32) (x4 : Int32) (x5 : Int32) (x6 : Int32) (x7 : Int64) (x9 : Int32) (S : Mem), Sim cX4_choose RX4 (frR + 3) (loR + 78) none false Γ rV (fix9 (b_X4_choose_51 F rp) f x0 x1 x2 x3 x4 x5 x6 x7 x9 S) S 51 [some (.ref x0), some (.int x1), some (.int x2), some (.int x3), some (.int x4), some (.int x5), some (.int x6), some (.long x7), none, some (.int x9), none, none] [] := by
  refine s_fix9 (fun (x0 : Nat) (x1 : Int32) (x2 : Int32) (x3 : Int32) (x4 : Int32) (x5 : Int32) (x6 : Int32) (x7 : Int64) (x9 : Int32) => [some (.ref x0), some (.int x1), some (.int x2), some (.int x3), some (.int x4), some (.int x5), some (.int x6), some (.long x7), none, some (.int x9), none, none]) (fun k51 hk51 => ?_)
  intro x0 x1 x2 x3 x4 x5 x6 x7 x9 S
  unfold b_X4_choose_51
  refine s_iload dX4_choose_51 rfl ?_
  refine s_aload_n 0 dX4_choose_53 rfl rfl ?_
  refine s_getR fk_X4_21 rfl dX4_choose_54 (fun v1 => ?_)
  refine s_iload_n 1 dX4_choose_57 rfl rfl ?_
  refine s_iald dX4_choose_58 (fun v2 => ?_)
  refine s_icmp_gt 187 dX4_choose_59 (by decide) (fun _ => ?_) (fun _ => ?_)
  · exact s_vret dX4_choose_187
  · refine s_aload_n 0 dX4_choose_62 rfl rfl ?_
    refine s_getR fk_X4_15 rfl dX4_choose_63 (fun v3 => ?_)
    refine s_iload_n 1 dX4_choose_66 rfl rfl ?_
    refine s_bipush (41 : Int32) dX4_choose_67 (by decide) ?_
    refine s_imul dX4_choose_69 ?_
    refine s_iload dX4_choose_70 rfl ?_
    refine s_iadd dX4_choose_72 ?_
    refine s_iald dX4_choose_73 (fun v4 => ?_)
    refine s_istore_10 dX4_choose_74 rfl ?_
    refine s_iload dX4_choose_76 rfl ?_
    refine s_aload_n 0 dX4_choose_78 rfl rfl ?_
    refine s_getI fk_X4_106 rfl dX4_choose_79 (fun v5 => ?_)
    refine s_icmp_lt 94 dX4_choose_82 (by decide) (fun _ => ?_) (fun _ => ?_)
    · refine s_iconst (0 : Int32) dX4_choose_94 (by decide) ?_
      exact s_less (t_X4_choose_95 hrp hk51 x0 x1 x2 x3 x4 x5 x6 x7 x9 v4 (0 : Int32) S) (And.intro rfl (And.intro rfl (And.intro rfl (And.intro rfl (And.intro rfl (And.intro rfl (And.intro rfl (And.intro rfl (And.intro rfl (And.intro rfl trivial))))))))))
    · refine s_iconst (0 : Int32) dX4_choose_85 (by decide) ?_
      refine s_iload dX4_choose_86 rfl ?_
      refine s_mmax mm_X4_124 mm_max_s mm_i mm_max_c ⟨by omega, by simp [Value.category] <;> omega⟩ dX4_choose_88 ?_
      refine s_goto 95 dX4_choose_91 (by decide) ?_
      exact s_less (t_X4_choose_95 hrp hk51 x0 x1 x2 x3 x4 x5 x6 x7 x9 v4 (mxI (0 : Int32) v4) S) (And.intro rfl (And.intro rfl (And.intro rfl (And.intro rfl (And.intro rfl (And.intro rfl (And.intro rfl (And.intro rfl (And.intro rfl (And.intro rfl trivial))))))))))
set_option maxRecDepth 100000 in
theorem cob_X4_choose {l : Launch} (F : Nat) (rp : Nat → Int32 → Int32 → Int32 → Int32 → Int32 → Int32 → Int64 → Mem → Option (Unit × Mem)) {frR loR : Nat} (hrp : ∀ (z0 : Nat) (z1 : Int32) (z2 : Int32) (z3 : Int32) (z4 : Int32) (z5 : Int32) (z6 : Int32) (z7 : Int64) (S : Mem) (v : Unit) (S1 : Mem), rp z0 z1 z2 z3 z4 z5 z6 z7 S = some (v, S1) → Con l yX4_choose cX4_choose 12 none frR loR [.ref z0, .int z1, .int z2, .int z3, .int z4, .int z5, .int z6, .long z7] S (rV v) S1) (x0 : Nat) (x1 : Int32) (x2 : Int32) (x3 : Int32) (x4 : Int32) (x5 : Int32) (x6 : Int32) (x7 : Int64) (S : Mem) (v : Unit) (S1 : Mem) (h : fb_X4_choose F rp x0 x1 x2 x3 x4 x5 x6 x7 S = some (v, S1)) : Con l yX4_choose cX4_choose 12 none (frR + 3) (loR + 78) [.ref x0, .int x1, .int x2, .int x3, .int x4, .int x5, .int x6, .long x7] S (rV v) S1 := by
  refine con_of (ι := rV) RX4 false [some (.ref x0), some (.int x1), some (.int x2), some (.int x3), some (.int x4), some (.int x5), some (.int x6), some (.long x7), none, none, none, none] rfl (fun h => by cases h) (by decide) (Nat.le_of_ble_eq_true rfl) ⟨rfl, rfl⟩ (fun Γ hl => ?_) h
  subst hl
  unfold fb_X4_choose
  refine s_aload_n 0 dX4_choose_0 rfl rfl ?_
  refine s_iload_n 2 dX4_choose_1 rfl rfl ?_
  refine s_aload_n 0 dX4_choose_2 rfl rfl ?_
  refine s_getR fk_X4_24 rfl dX4_choose_3 (fun v1 => ?_)
  refine s_iload_n 1 dX4_choose_6 rfl rfl ?_
  refine s_iald dX4_choose_7 (fun v2 => ?_)
  refine s_iadd dX4_choose_8 ?_
  refine s_iload_n 3 dX4_choose_9 rfl rfl ?_
  refine s_iload dX4_choose_10 rfl ?_
  refine s_iload dX4_choose_12 rfl ?_
  refine s_cV4I mk_X4_133 (by decide) rfl (fun v9 S9 h9 => con_X4_isHopeless F _ _ _ _ _ _ v9 S9 h9) ⟨by omega, by omega⟩ (Nat.le_of_ble_eq_true rfl) dX4_choose_14 (fun v3 S4 => ?_)
  refine s_if_eq 21 dX4_choose_17 (by decide) (fun _ => ?_) (fun _ => ?_)
  · refine s_iload_n 1 dX4_choose_21 rfl rfl ?_
    refine s_aload_n 0 dX4_choose_22 rfl rfl ?_
    refine s_getI fk_X4_58 rfl dX4_choose_23 (fun v5 => ?_)
    refine s_icmp_lt 43 dX4_choose_26 (by decide) (fun _ => ?_) (fun _ => ?_)
    · refine s_aload_n 0 dX4_choose_43 rfl rfl ?_
      refine s_getR fk_X4_18 rfl dX4_choose_44 (fun v6 => ?_)
      refine s_iload_n 1 dX4_choose_47 rfl rfl ?_
      refine s_iald dX4_choose_48 (fun v7 => ?_)
      refine s_istore_9 dX4_choose_49 rfl ?_
      exact s_less (t_X4_choose_51 hrp F x0 x1 x2 x3 x4 x5 x6 x7 v7 S4) (And.intro rfl (And.intro rfl (And.intro rfl (And.intro rfl (And.intro rfl (And.intro rfl (And.intro rfl (And.intro rfl (And.intro rfl trivial)))))))))
    · refine s_aload_n 0 dX4_choose_29 rfl rfl ?_
      refine s_iload_n 2 dX4_choose_30 rfl rfl ?_
      refine s_iload dX4_choose_31 rfl ?_
      refine s_iload dX4_choose_33 rfl ?_
      refine s_iload dX4_choose_35 rfl ?_
      refine s_lload dX4_choose_37 rfl ?_
      refine s_cV5V mk_X4_137 (by decide) rfl (fun v9 S9 h9 => con_X4_judge F _ _ _ _ _ _ _ v9 S9 h9) ⟨by omega, by omega⟩ (Nat.le_of_ble_eq_true rfl) dX4_choose_39 (fun _ S9 => ?_)
      exact s_vret dX4_choose_42
  · exact s_vret dX4_choose_20
theorem con_X4_choose {l : Launch} (F : Nat) : ∀ (d : Nat) (x0 : Nat) (x1 : Int32) (x2 : Int32) (x3 : Int32) (x4 : Int32) (x5 : Int32) (x6 : Int32) (x7 : Int64) (S : Mem) (v : Unit) (S1 : Mem), fn_X4_choose F d x0 x1 x2 x3 x4 x5 x6 x7 S = some (v, S1) → Con l yX4_choose cX4_choose 12 none (3 * d) (78 * d) [.ref x0, .int x1, .int x2, .int x3, .int x4, .int x5, .int x6, .long x7] S (rV v) S1
  | 0 => fun _ _ _ _ _ _ _ _ _ _ _ h => by cases h
  | d + 1 => fun x0 x1 x2 x3 x4 x5 x6 x7 S v S1 h => cob_X4_choose F (fn_X4_choose F d) (con_X4_choose F d) x0 x1 x2 x3 x4 x5 x6 x7 S v S1 h
