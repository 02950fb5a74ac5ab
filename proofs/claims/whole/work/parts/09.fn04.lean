-- X9_readsLaw
def f_X9_readsLaw_36 (F : Nat) (x0 : Nat) (x1 : Int32) (y0 : Nat) (y1 : Int32) (S : Mem) : Option (Int32 × Mem) :=
  (sZ S 8 22 y0 y1).bind fun S1 =>
  bd (cal S1 8 x0 (fn_X9_nextToken F x0 S1)) fun _ S3 =>
  (gR S3 8 17 x0).bind fun v4 =>
  (gI S3 8 20 x0).bind fun v5 =>
  (sA S3 v4 ((2 : Int32) + x1) v5).bind fun S6 =>
  bd (cal S6 8 x0 (fn_X9_reads F x0 S6)) fun v7 S8 =>
  if v7 = 0 then
    rz (0 : Int32) S8
  else
    (gR S8 8 18 x0).bind fun v9 =>
    (gI S8 8 20 x0).bind fun v10 =>
    (sA S8 v9 ((2 : Int32) + x1) v10).bind fun S11 =>
    rz (1 : Int32) S11
def fn_X9_readsLaw (F : Nat) (x0 : Nat) (x1 : Int32) (S : Mem) : Option (Int32 × Mem) :=
  (gR S 8 18 x0).bind fun v1 =>
  (gA S 10 v1 ((2 : Int32) + x1)).bind fun v2 =>
  (gR S 8 17 x0).bind fun v3 =>
  (gA S 10 v3 ((2 : Int32) + x1)).bind fun v4 =>
  if v2 ≤ v4 then
    if x1 = (1 : Int32) then
      f_X9_readsLaw_36 F x0 x1 x0 (1 : Int32) S
    else
      f_X9_readsLaw_36 F x0 x1 x0 (0 : Int32) S
  else
    bd (cal S 8 x0 (fn_X9_fails F x0 (3 : Int32) S)) fun v5 S6 =>
    rz v5 S6
set_option maxRecDepth 100000 in
theorem t_X9_readsLaw_36 {Γ : Cx} {F : Nat} : ∀ (x0 : Nat) (x1 : Int32) (y0 : Nat) (y1 : Int32) (S : Mem), Sim cX9_readsLaw RX9 3 67 (some .boolean) false Γ rI (f_X9_readsLaw_36 F x0 x1 y0 y1 S) S 36 [some (.ref x0), some (.int x1)] [.int y1, .ref y0] := by
  intro x0 x1 y0 y1 S
  unfold f_X9_readsLaw_36
  refine s_putZ fk_X9_151 (Or.inl rfl) rfl dX9_readsLaw_36 (fun S1 => ?_)
  refine s_aload_n 0 dX9_readsLaw_39 rfl rfl ?_
  refine s_cV0V mk_X9_189 (by decide) rfl (fun v9 S9 h9 => con_X9_nextToken F _ _ v9 S9 h9) ⟨by omega, by omega⟩ (Nat.le_of_ble_eq_true rfl) dX9_readsLaw_40 (fun _ S3 => ?_)
  refine s_aload_n 0 dX9_readsLaw_43 rfl rfl ?_
  refine s_getR fk_X9_35 rfl dX9_readsLaw_44 (fun v4 => ?_)
  refine s_iconst (2 : Int32) dX9_readsLaw_47 (by decide) ?_
  refine s_iload_n 1 dX9_readsLaw_48 rfl rfl ?_
  refine s_iadd dX9_readsLaw_49 ?_
  refine s_aload_n 0 dX9_readsLaw_50 rfl rfl ?_
  refine s_getI fk_X9_148 rfl dX9_readsLaw_51 (fun v5 => ?_)
  refine s_iast dX9_readsLaw_54 (fun S6 => ?_)
  refine s_aload_n 0 dX9_readsLaw_55 rfl rfl ?_
  refine s_cV0I mk_X9_253 (by decide) rfl (fun v9 S9 h9 => con_X9_reads F _ _ v9 S9 h9) ⟨by omega, by omega⟩ (Nat.le_of_ble_eq_true rfl) dX9_readsLaw_56 (fun v7 S8 => ?_)
  refine s_if_ne 64 dX9_readsLaw_59 (by decide) (fun _ => ?_) (fun _ => ?_)
  · refine s_aload_n 0 dX9_readsLaw_64 rfl rfl ?_
    refine s_getR fk_X9_38 rfl dX9_readsLaw_65 (fun v9 => ?_)
    refine s_iconst (2 : Int32) dX9_readsLaw_68 (by decide) ?_
    refine s_iload_n 1 dX9_readsLaw_69 rfl rfl ?_
    refine s_iadd dX9_readsLaw_70 ?_
    refine s_aload_n 0 dX9_readsLaw_71 rfl rfl ?_
    refine s_getI fk_X9_148 rfl dX9_readsLaw_72 (fun v10 => ?_)
    refine s_iast dX9_readsLaw_75 (fun S11 => ?_)
    refine s_iconst (1 : Int32) dX9_readsLaw_76 (by decide) ?_
    exact s_zret dX9_readsLaw_77
  · refine s_iconst (0 : Int32) dX9_readsLaw_62 (by decide) ?_
    exact s_zret dX9_readsLaw_63
set_option maxRecDepth 100000 in
theorem con_X9_readsLaw {l : Launch} (F : Nat) (x0 : Nat) (x1 : Int32) (S : Mem) (v : Int32) (S1 : Mem) (h : fn_X9_readsLaw F x0 x1 S = some (v, S1)) : Con l yX9_readsLaw cX9_readsLaw 2 (some .boolean) 3 67 [.ref x0, .int x1] S (rI v) S1 := by
  refine con_of (ι := rI) RX9 false [some (.ref x0), some (.int x1)] rfl (fun h => by cases h) (by decide) (Nat.le_of_ble_eq_true rfl) ⟨rfl, rfl⟩ (fun Γ hl => ?_) h
  unfold fn_X9_readsLaw
  refine s_aload_n 0 dX9_readsLaw_0 rfl rfl ?_
  refine s_getR fk_X9_38 rfl dX9_readsLaw_1 (fun v1 => ?_)
  refine s_iconst (2 : Int32) dX9_readsLaw_4 (by decide) ?_
  refine s_iload_n 1 dX9_readsLaw_5 rfl rfl ?_
  refine s_iadd dX9_readsLaw_6 ?_
  refine s_iald dX9_readsLaw_7 (fun v2 => ?_)
  refine s_aload_n 0 dX9_readsLaw_8 rfl rfl ?_
  refine s_getR fk_X9_35 rfl dX9_readsLaw_9 (fun v3 => ?_)
  refine s_iconst (2 : Int32) dX9_readsLaw_12 (by decide) ?_
  refine s_iload_n 1 dX9_readsLaw_13 rfl rfl ?_
  refine s_iadd dX9_readsLaw_14 ?_
  refine s_iald dX9_readsLaw_15 (fun v4 => ?_)
  refine s_icmp_le 25 dX9_readsLaw_16 (by decide) (fun _ => ?_) (fun _ => ?_)
  · refine s_aload_n 0 dX9_readsLaw_25 rfl rfl ?_
    refine s_iload_n 1 dX9_readsLaw_26 rfl rfl ?_
    refine s_iconst (1 : Int32) dX9_readsLaw_27 (by decide) ?_
    refine s_icmp_ne 35 dX9_readsLaw_28 (by decide) (fun _ => ?_) (fun _ => ?_)
    · refine s_iconst (0 : Int32) dX9_readsLaw_35 (by decide) ?_
      exact s_less (t_X9_readsLaw_36 x0 x1 x0 (0 : Int32) S) (And.intro rfl (And.intro rfl trivial))
    · refine s_iconst (1 : Int32) dX9_readsLaw_31 (by decide) ?_
      refine s_goto 36 dX9_readsLaw_32 (by decide) ?_
      exact s_less (t_X9_readsLaw_36 x0 x1 x0 (1 : Int32) S) (And.intro rfl (And.intro rfl trivial))
  · refine s_aload_n 0 dX9_readsLaw_19 rfl rfl ?_
    refine s_iconst (3 : Int32) dX9_readsLaw_20 (by decide) ?_
    refine s_cV1I mk_X9_183 (by decide) rfl (fun v9 S9 h9 => con_X9_fails F _ _ _ v9 S9 h9) ⟨by omega, by omega⟩ (Nat.le_of_ble_eq_true rfl) dX9_readsLaw_21 (fun v5 S6 => ?_)
    exact s_zret dX9_readsLaw_24
-- X9_kindAt
def f_X9_kindAt_85 (F : Nat) (y0 : Int32) (S : Mem) : Option (Int32 × Mem) :=
  some (y0, S)
def fn_X9_kindAt (F : Nat) (x0 : Nat) (S : Mem) : Option (Int32 × Mem) :=
  bd (cal S 8 x0 (fn_X9_isWord F x0 (8740238 : Int64) S)) fun v1 S2 =>
  if v1 = 0 then
    bd (cal S2 8 x0 (fn_X9_isWord F x0 (1887 : Int64) S2)) fun v3 S4 =>
    if v3 = 0 then
      bd (cal S4 8 x0 (fn_X9_isWord F x0 (394644 : Int64) S4)) fun v5 S6 =>
      if v5 = 0 then
        bd (cal S6 8 x0 (fn_X9_isWord F x0 (4351291 : Int64) S6)) fun v7 S8 =>
        if v7 = 0 then
          bd (cal S8 8 x0 (fn_X9_isWord F x0 (82410 : Int64) S8)) fun v9 S10 =>
          if v9 = 0 then
            bd (cal S10 8 x0 (fn_X9_isWord F x0 (237652 : Int64) S10)) fun v11 S12 =>
            if v11 = 0 then
              f_X9_kindAt_85 F  (-1 : Int32) S12
            else
              f_X9_kindAt_85 F  (5 : Int32) S12
          else
            f_X9_kindAt_85 F  (4 : Int32) S10
        else
          f_X9_kindAt_85 F  (3 : Int32) S8
      else
        f_X9_kindAt_85 F  (2 : Int32) S6
    else
      f_X9_kindAt_85 F  (1 : Int32) S4
  else
    f_X9_kindAt_85 F  (0 : Int32) S2
set_option maxRecDepth 100000 in
theorem t_X9_kindAt_85 {Γ : Cx} {F : Nat} : ∀ (y0 : Int32) (S : Mem), Sim cX9_kindAt RX9 1 22 (some .int) false Γ rI (f_X9_kindAt_85 F y0 S) S 85 [none] [.int y0] := by
  intro y0 S
  unfold f_X9_kindAt_85
  exact s_iret dX9_kindAt_85
set_option maxRecDepth 100000 in
theorem con_X9_kindAt {l : Launch} (F : Nat) (x0 : Nat) (S : Mem) (v : Int32) (S1 : Mem) (h : fn_X9_kindAt F x0 S = some (v, S1)) : Con l yX9_kindAt cX9_kindAt 1 (some .int) 1 22 [.ref x0] S (rI v) S1 := by
  refine con_of (ι := rI) RX9 false [some (.ref x0)] rfl (fun h => by cases h) (by decide) (Nat.le_of_ble_eq_true rfl) ⟨rfl, rfl⟩ (fun Γ hl => ?_) h
  unfold fn_X9_kindAt
  refine s_aload_n 0 dX9_kindAt_0 rfl rfl ?_
  refine s_ldc2 (v := (8740238 : Int64)) dX9_kindAt_1 (lw_in 1272 (by decide +kernel) (by decide +kernel)) ?_
  refine s_cV1I mk_X9_175 (by decide) rfl (fun v9 S9 h9 => con_X9_isWord F _ _ _ v9 S9 h9) ⟨by omega, by omega⟩ (Nat.le_of_ble_eq_true rfl) dX9_kindAt_4 (fun v1 S2 => ?_)
  refine s_if_eq 14 dX9_kindAt_7 (by decide) (fun _ => ?_) (fun _ => ?_)
  · refine s_aload_n 0 dX9_kindAt_14 rfl rfl ?_
    refine s_ldc2 (v := (1887 : Int64)) dX9_kindAt_15 (lw_in 1273 (by decide +kernel) (by decide +kernel)) ?_
    refine s_cV1I mk_X9_175 (by decide) rfl (fun v9 S9 h9 => con_X9_isWord F _ _ _ v9 S9 h9) ⟨by omega, by omega⟩ (Nat.le_of_ble_eq_true rfl) dX9_kindAt_18 (fun v3 S4 => ?_)
    refine s_if_eq 28 dX9_kindAt_21 (by decide) (fun _ => ?_) (fun _ => ?_)
    · refine s_aload_n 0 dX9_kindAt_28 rfl rfl ?_
      refine s_ldc2 (v := (394644 : Int64)) dX9_kindAt_29 (lw_in 1274 (by decide +kernel) (by decide +kernel)) ?_
      refine s_cV1I mk_X9_175 (by decide) rfl (fun v9 S9 h9 => con_X9_isWord F _ _ _ v9 S9 h9) ⟨by omega, by omega⟩ (Nat.le_of_ble_eq_true rfl) dX9_kindAt_32 (fun v5 S6 => ?_)
      refine s_if_eq 42 dX9_kindAt_35 (by decide) (fun _ => ?_) (fun _ => ?_)
      · refine s_aload_n 0 dX9_kindAt_42 rfl rfl ?_
        refine s_ldc2 (v := (4351291 : Int64)) dX9_kindAt_43 (lw_in 1275 (by decide +kernel) (by decide +kernel)) ?_
        refine s_cV1I mk_X9_175 (by decide) rfl (fun v9 S9 h9 => con_X9_isWord F _ _ _ v9 S9 h9) ⟨by omega, by omega⟩ (Nat.le_of_ble_eq_true rfl) dX9_kindAt_46 (fun v7 S8 => ?_)
        refine s_if_eq 56 dX9_kindAt_49 (by decide) (fun _ => ?_) (fun _ => ?_)
        · refine s_aload_n 0 dX9_kindAt_56 rfl rfl ?_
          refine s_ldc2 (v := (82410 : Int64)) dX9_kindAt_57 (lw_in 1276 (by decide +kernel) (by decide +kernel)) ?_
          refine s_cV1I mk_X9_175 (by decide) rfl (fun v9 S9 h9 => con_X9_isWord F _ _ _ v9 S9 h9) ⟨by omega, by omega⟩ (Nat.le_of_ble_eq_true rfl) dX9_kindAt_60 (fun v9 S10 => ?_)
          refine s_if_eq 70 dX9_kindAt_63 (by decide) (fun _ => ?_) (fun _ => ?_)
          · refine s_aload_n 0 dX9_kindAt_70 rfl rfl ?_
            refine s_ldc2 (v := (237652 : Int64)) dX9_kindAt_71 (lw_in 1277 (by decide +kernel) (by decide +kernel)) ?_
            refine s_cV1I mk_X9_175 (by decide) rfl (fun v9 S9 h9 => con_X9_isWord F _ _ _ v9 S9 h9) ⟨by omega, by omega⟩ (Nat.le_of_ble_eq_true rfl) dX9_kindAt_74 (fun v11 S12 => ?_)
            refine s_if_eq 84 dX9_kindAt_77 (by decide) (fun _ => ?_) (fun _ => ?_)
            · refine s_iconst (-1 : Int32) dX9_kindAt_84 (by decide) ?_
              exact s_less (t_X9_kindAt_85  (-1 : Int32) S12) trivial
            · refine s_iconst (5 : Int32) dX9_kindAt_80 (by decide) ?_
              refine s_goto 85 dX9_kindAt_81 (by decide) ?_
              exact s_less (t_X9_kindAt_85  (5 : Int32) S12) trivial
          · refine s_iconst (4 : Int32) dX9_kindAt_66 (by decide) ?_
            refine s_goto 85 dX9_kindAt_67 (by decide) ?_
            exact s_less (t_X9_kindAt_85  (4 : Int32) S10) trivial
        · refine s_iconst (3 : Int32) dX9_kindAt_52 (by decide) ?_
          refine s_goto 85 dX9_kindAt_53 (by decide) ?_
          exact s_less (t_X9_kindAt_85  (3 : Int32) S8) trivial
      · refine s_iconst (2 : Int32) dX9_kindAt_38 (by decide) ?_
        refine s_goto 85 dX9_kindAt_39 (by decide) ?_
        exact s_less (t_X9_kindAt_85  (2 : Int32) S6) trivial
    · refine s_iconst (1 : Int32) dX9_kindAt_24 (by decide) ?_
      refine s_goto 85 dX9_kindAt_25 (by decide) ?_
      exact s_less (t_X9_kindAt_85  (1 : Int32) S4) trivial
  · refine s_iconst (0 : Int32) dX9_kindAt_10 (by decide) ?_
    refine s_goto 85 dX9_kindAt_11 (by decide) ?_
    exact s_less (t_X9_kindAt_85  (0 : Int32) S2) trivial
-- X9_readsKite
def f_X9_readsKite_250 (F : Nat)  (S : Mem) : Option (Int32 × Mem) :=
  rz (0 : Int32) S
def f_X9_readsKite_218 (F : Nat)  (S : Mem) : Option (Int32 × Mem) :=
  rz (0 : Int32) S
def f_X9_readsKite_186 (F : Nat)  (S : Mem) : Option (Int32 × Mem) :=
  rz (0 : Int32) S
def f_X9_readsKite_154 (F : Nat)  (S : Mem) : Option (Int32 × Mem) :=
  rz (0 : Int32) S
def b_X9_readsKite_48 (F : Nat) (k48 : Nat → Int32 → Int32 → Mem → Option (Int32 × Mem)) (x0 : Nat) (x1 : Int32) (x2 : Int32) (S : Mem) : Option (Int32 × Mem) :=
  (gR S 8 10 x0).bind fun v1 =>
  (gA S 10 v1 (9 : Int32)).bind fun v2 =>
  if v2 ≤ x2 then
    (gR S 8 16 x0).bind fun v3 =>
    (gR S 8 10 x0).bind fun v4 =>
    (gA S 10 v4 (9 : Int32)).bind fun v5 =>
    (gJ S 8 7 x0).bind fun v6 =>
    (sAJ S v3 v5 v6).bind fun S7 =>
    bd (cal S7 8 x0 (fn_X9_nextToken F x0 S7)) fun _ S9 =>
    (gR S9 8 11 x0).bind fun v10 =>
    bd (cal S9 8 x0 (fn_X9_kindAt F x0 S9)) fun v11 S12 =>
    (sA S12 v10 x1 v11).bind fun S13 =>
    (gR S13 8 11 x0).bind fun v14 =>
    (gA S13 10 v14 x1).bind fun v15 =>
    if 0 ≤ v15 then
      bd (cal S13 8 x0 (fn_X9_nextToken F x0 S13)) fun _ S17 =>
      bd (cal S17 8 x0 (fn_X9_needsWord F x0 (47 : Int64) S17)) fun v18 S19 =>
      if v18 = 0 then
        f_X9_readsKite_154 F   S19
      else
        bd (cal S19 8 x0 (fn_X9_needsNumber F x0 (0 : Int32) (99 : Int32) S19)) fun v20 S21 =>
        if v20 = 0 then
          f_X9_readsKite_154 F   S21
        else
          (gR S21 8 12 x0).bind fun v22 =>
          (gI S21 8 35 x0).bind fun v23 =>
          (sA S21 v22 x1 v23).bind fun S24 =>
          bd (cal S24 8 x0 (fn_X9_needsWord F x0 (242939 : Int64) S24)) fun v25 S26 =>
          if v25 = 0 then
            f_X9_readsKite_186 F   S26
          else
            bd (cal S26 8 x0 (fn_X9_needsNumber F x0 (1 : Int32) (20 : Int32) S26)) fun v27 S28 =>
            if v27 = 0 then
              f_X9_readsKite_186 F   S28
            else
              (gR S28 8 13 x0).bind fun v29 =>
              (gI S28 8 35 x0).bind fun v30 =>
              (sA S28 v29 x1 v30).bind fun S31 =>
              bd (cal S31 8 x0 (fn_X9_needsWord F x0 (6476969 : Int64) S31)) fun v32 S33 =>
              if v32 = 0 then
                f_X9_readsKite_218 F   S33
              else
                bd (cal S33 8 x0 (fn_X9_needsNumber F x0 (0 : Int32) (99 : Int32) S33)) fun v34 S35 =>
                if v34 = 0 then
                  f_X9_readsKite_218 F   S35
                else
                  (gR S35 8 14 x0).bind fun v36 =>
                  (gI S35 8 35 x0).bind fun v37 =>
                  (sA S35 v36 x1 v37).bind fun S38 =>
                  bd (cal S38 8 x0 (fn_X9_needsWord F x0 (247516 : Int64) S38)) fun v39 S40 =>
                  if v39 = 0 then
                    f_X9_readsKite_250 F   S40
                  else
                    bd (cal S40 8 x0 (fn_X9_needsNumber F x0 (0 : Int32) (40 : Int32) S40)) fun v41 S42 =>
                    if v41 = 0 then
                      f_X9_readsKite_250 F   S42
                    else
                      (gR S42 8 15 x0).bind fun v43 =>
                      (gI S42 8 35 x0).bind fun v44 =>
                      (sA S42 v43 x1 v44).bind fun S45 =>
                      (gR S45 8 10 x0).bind fun v46 =>
                      (gA S45 10 v46 (9 : Int32)).bind fun v47 =>
                      (sA S45 v46 (9 : Int32) (v47 + (1 : Int32))).bind fun S48 =>
                      bd (cal S48 8 x0 (fn_X9_ends F x0 S48)) fun v49 S50 =>
                      rz v49 S50
    else
      bd (cal S13 8 x0 (fn_X9_fails F x0 (1 : Int32) S13)) fun v51 S52 =>
      rz v51 S52
  else
    (gR S 8 16 x0).bind fun v53 =>
    (gAJ S v53 x2).bind fun v54 =>
    (gJ S 8 7 x0).bind fun v55 =>
    if (lg_cmp v54 v55) = 0 then
      bd (cal S 8 x0 (fn_X9_fails F x0 (3 : Int32) S)) fun v56 S57 =>
      rz v56 S57
    else
      k48 x0 x1 (x2 + (1 : Int32)) S
def fn_X9_readsKite (F : Nat) (x0 : Nat) (S : Mem) : Option (Int32 × Mem) :=
  (gR S 8 10 x0).bind fun v1 =>
  (gA S 10 v1 (9 : Int32)).bind fun v2 =>
  if v2 = (6 : Int32) then
    bd (cal S 8 x0 (fn_X9_fails F x0 (5 : Int32) S)) fun v12 S13 =>
    rz v12 S13
  else
    (gR S 8 10 x0).bind fun v3 =>
    (gA S 10 v3 (9 : Int32)).bind fun v4 =>
    lt (((6 : Int32) + v4)) fun v5 =>
    bd (cal S 8 x0 (fn_X9_nextToken F x0 S)) fun _ S7 =>
    bd (cal S7 8 x0 (fn_X9_isKept F x0 S7)) fun v8 S9 =>
    if v8 = 0 then
      fix3 (b_X9_readsKite_48 F) F x0 v5 (0 : Int32) S9
    else
      bd (cal S9 8 x0 (fn_X9_fails F x0 (1 : Int32) S9)) fun v10 S11 =>
      rz v10 S11
set_option maxRecDepth 100000 in
theorem t_X9_readsKite_250 {Γ : Cx} {F : Nat} : ∀ (S : Mem), Sim cX9_readsKite RX9 3 64 (some .boolean) false Γ rI (f_X9_readsKite_250 F  S) S 250 [none, none, none] [] := by
  intro  S
  unfold f_X9_readsKite_250
  refine s_iconst (0 : Int32) dX9_readsKite_250 (by decide) ?_
  exact s_zret dX9_readsKite_251
set_option maxRecDepth 100000 in
theorem t_X9_readsKite_218 {Γ : Cx} {F : Nat} : ∀ (S : Mem), Sim cX9_readsKite RX9 3 64 (some .boolean) false Γ rI (f_X9_readsKite_218 F  S) S 218 [none, none, none] [] := by
  intro  S
  unfold f_X9_readsKite_218
  refine s_iconst (0 : Int32) dX9_readsKite_218 (by decide) ?_
  exact s_zret dX9_readsKite_219
set_option maxRecDepth 100000 in
theorem t_X9_readsKite_186 {Γ : Cx} {F : Nat} : ∀ (S : Mem), Sim cX9_readsKite RX9 3 64 (some .boolean) false Γ rI (f_X9_readsKite_186 F  S) S 186 [none, none, none] [] := by
  intro  S
  unfold f_X9_readsKite_186
  refine s_iconst (0 : Int32) dX9_readsKite_186 (by decide) ?_
  exact s_zret dX9_readsKite_187
set_option maxRecDepth 100000 in
theorem t_X9_readsKite_154 {Γ : Cx} {F : Nat} : ∀ (S : Mem), Sim cX9_readsKite RX9 3 64 (some .boolean) false Γ rI (f_X9_readsKite_154 F  S) S 154 [none, none, none] [] := by
  intro  S
  unfold f_X9_readsKite_154
  refine s_iconst (0 : Int32) dX9_readsKite_154 (by decide) ?_
  exact s_zret dX9_readsKite_155
set_option maxRecDepth 100000 in
theorem t_X9_readsKite_48 {Γ : Cx} {F : Nat} : ∀ (f : Nat) (x0 : Nat) (x1 : Int32) (x2 : Int32) (S : Mem), Sim cX9_readsKite RX9 3 64 (some .boolean) false Γ rI (fix3 (b_X9_readsKite_48 F) f x0 x1 x2 S) S 48 [some (.ref x0), some (.int x1), some (.int x2)] [] := by
  refine s_fix3 (fun (x0 : Nat) (x1 : Int32) (x2 : Int32) => [some (.ref x0), some (.int x1), some (.int x2)]) (fun k48 hk48 => ?_)
  intro x0 x1 x2 S
  unfold b_X9_readsKite_48
  refine s_iload_n 2 dX9_readsKite_48 rfl rfl ?_
  refine s_aload_n 0 dX9_readsKite_49 rfl rfl ?_
  refine s_getR fk_X9_13 rfl dX9_readsKite_50 (fun v1 => ?_)
  refine s_bipush (9 : Int32) dX9_readsKite_53 (by decide) ?_
  refine s_iald dX9_readsKite_55 (fun v2 => ?_)
  refine s_icmp_ge 85 dX9_readsKite_56 (by decide) (fun _ => ?_) (fun _ => ?_)
  · refine s_aload_n 0 dX9_readsKite_85 rfl rfl ?_
    refine s_getR fk_X9_31 rfl dX9_readsKite_86 (fun v3 => ?_)
    refine s_aload_n 0 dX9_readsKite_89 rfl rfl ?_
    refine s_getR fk_X9_13 rfl dX9_readsKite_90 (fun v4 => ?_)
    refine s_bipush (9 : Int32) dX9_readsKite_93 (by decide) ?_
    refine s_iald dX9_readsKite_95 (fun v5 => ?_)
    refine s_aload_n 0 dX9_readsKite_96 rfl rfl ?_
    refine s_getJ fk_X9_127 rfl dX9_readsKite_97 (fun v6 => ?_)
    refine s_last dX9_readsKite_100 (fun S7 => ?_)
    refine s_aload_n 0 dX9_readsKite_101 rfl rfl ?_
    refine s_cV0V mk_X9_189 (by decide) rfl (fun v9 S9 h9 => con_X9_nextToken F _ _ v9 S9 h9) ⟨by omega, by omega⟩ (Nat.le_of_ble_eq_true rfl) dX9_readsKite_102 (fun _ S9 => ?_)
    refine s_aload_n 0 dX9_readsKite_105 rfl rfl ?_
    refine s_getR fk_X9_16 rfl dX9_readsKite_106 (fun v10 => ?_)
    refine s_iload_n 1 dX9_readsKite_109 rfl rfl ?_
    refine s_aload_n 0 dX9_readsKite_110 rfl rfl ?_
    refine s_cV0I mk_X9_259 (by decide) rfl (fun v9 S9 h9 => con_X9_kindAt F _ _ v9 S9 h9) ⟨by omega, by omega⟩ (Nat.le_of_ble_eq_true rfl) dX9_readsKite_111 (fun v11 S12 => ?_)
    refine s_iast dX9_readsKite_114 (fun S13 => ?_)
    refine s_aload_n 0 dX9_readsKite_115 rfl rfl ?_
    refine s_getR fk_X9_16 rfl dX9_readsKite_116 (fun v14 => ?_)
    refine s_iload_n 1 dX9_readsKite_119 rfl rfl ?_
    refine s_iald dX9_readsKite_120 (fun v15 => ?_)
    refine s_if_ge 130 dX9_readsKite_121 (by decide) (fun _ => ?_) (fun _ => ?_)
    · refine s_aload_n 0 dX9_readsKite_130 rfl rfl ?_
      refine s_cV0V mk_X9_189 (by decide) rfl (fun v9 S9 h9 => con_X9_nextToken F _ _ v9 S9 h9) ⟨by omega, by omega⟩ (Nat.le_of_ble_eq_true rfl) dX9_readsKite_131 (fun _ S17 => ?_)
      refine s_aload_n 0 dX9_readsKite_134 rfl rfl ?_
      refine s_ldc2 (v := (47 : Int64)) dX9_readsKite_135 (lw_in 1269 (by decide +kernel) (by decide +kernel)) ?_
      refine s_cV1I mk_X9_262 (by decide) rfl (fun v9 S9 h9 => con_X9_needsWord F _ _ _ v9 S9 h9) ⟨by omega, by omega⟩ (Nat.le_of_ble_eq_true rfl) dX9_readsKite_138 (fun v18 S19 => ?_)
      refine s_if_eq 154 dX9_readsKite_141 (by decide) (fun _ => ?_) (fun _ => ?_)
      · exact s_less (t_X9_readsKite_154   S19) trivial
      · refine s_aload_n 0 dX9_readsKite_144 rfl rfl ?_
        refine s_iconst (0 : Int32) dX9_readsKite_145 (by decide) ?_
        refine s_bipush (99 : Int32) dX9_readsKite_146 (by decide) ?_
        refine s_cV2I mk_X9_245 (by decide) rfl (fun v9 S9 h9 => con_X9_needsNumber F _ _ _ _ v9 S9 h9) ⟨by omega, by omega⟩ (Nat.le_of_ble_eq_true rfl) dX9_readsKite_148 (fun v20 S21 => ?_)
        refine s_if_ne 156 dX9_readsKite_151 (by decide) (fun _ => ?_) (fun _ => ?_)
        · refine s_aload_n 0 dX9_readsKite_156 rfl rfl ?_
          refine s_getR fk_X9_19 rfl dX9_readsKite_157 (fun v22 => ?_)
          refine s_iload_n 1 dX9_readsKite_160 rfl rfl ?_
          refine s_aload_n 0 dX9_readsKite_161 rfl rfl ?_
          refine s_getI fk_X9_239 rfl dX9_readsKite_162 (fun v23 => ?_)
          refine s_iast dX9_readsKite_165 (fun S24 => ?_)
          refine s_aload_n 0 dX9_readsKite_166 rfl rfl ?_
          refine s_ldc2 (v := (242939 : Int64)) dX9_readsKite_167 (lw_in 1270 (by decide +kernel) (by decide +kernel)) ?_
          refine s_cV1I mk_X9_262 (by decide) rfl (fun v9 S9 h9 => con_X9_needsWord F _ _ _ v9 S9 h9) ⟨by omega, by omega⟩ (Nat.le_of_ble_eq_true rfl) dX9_readsKite_170 (fun v25 S26 => ?_)
          refine s_if_eq 186 dX9_readsKite_173 (by decide) (fun _ => ?_) (fun _ => ?_)
          · exact s_less (t_X9_readsKite_186   S26) trivial
          · refine s_aload_n 0 dX9_readsKite_176 rfl rfl ?_
            refine s_iconst (1 : Int32) dX9_readsKite_177 (by decide) ?_
            refine s_bipush (20 : Int32) dX9_readsKite_178 (by decide) ?_
            refine s_cV2I mk_X9_245 (by decide) rfl (fun v9 S9 h9 => con_X9_needsNumber F _ _ _ _ v9 S9 h9) ⟨by omega, by omega⟩ (Nat.le_of_ble_eq_true rfl) dX9_readsKite_180 (fun v27 S28 => ?_)
            refine s_if_ne 188 dX9_readsKite_183 (by decide) (fun _ => ?_) (fun _ => ?_)
            · refine s_aload_n 0 dX9_readsKite_188 rfl rfl ?_
              refine s_getR fk_X9_22 rfl dX9_readsKite_189 (fun v29 => ?_)
              refine s_iload_n 1 dX9_readsKite_192 rfl rfl ?_
              refine s_aload_n 0 dX9_readsKite_193 rfl rfl ?_
              refine s_getI fk_X9_239 rfl dX9_readsKite_194 (fun v30 => ?_)
              refine s_iast dX9_readsKite_197 (fun S31 => ?_)
              refine s_aload_n 0 dX9_readsKite_198 rfl rfl ?_
              refine s_ldc2 (v := (6476969 : Int64)) dX9_readsKite_199 (lw_in 1271 (by decide +kernel) (by decide +kernel)) ?_
              refine s_cV1I mk_X9_262 (by decide) rfl (fun v9 S9 h9 => con_X9_needsWord F _ _ _ v9 S9 h9) ⟨by omega, by omega⟩ (Nat.le_of_ble_eq_true rfl) dX9_readsKite_202 (fun v32 S33 => ?_)
              refine s_if_eq 218 dX9_readsKite_205 (by decide) (fun _ => ?_) (fun _ => ?_)
              · exact s_less (t_X9_readsKite_218   S33) trivial
              · refine s_aload_n 0 dX9_readsKite_208 rfl rfl ?_
                refine s_iconst (0 : Int32) dX9_readsKite_209 (by decide) ?_
                refine s_bipush (99 : Int32) dX9_readsKite_210 (by decide) ?_
                refine s_cV2I mk_X9_245 (by decide) rfl (fun v9 S9 h9 => con_X9_needsNumber F _ _ _ _ v9 S9 h9) ⟨by omega, by omega⟩ (Nat.le_of_ble_eq_true rfl) dX9_readsKite_212 (fun v34 S35 => ?_)
                refine s_if_ne 220 dX9_readsKite_215 (by decide) (fun _ => ?_) (fun _ => ?_)
                · refine s_aload_n 0 dX9_readsKite_220 rfl rfl ?_
                  refine s_getR fk_X9_25 rfl dX9_readsKite_221 (fun v36 => ?_)
                  refine s_iload_n 1 dX9_readsKite_224 rfl rfl ?_
                  refine s_aload_n 0 dX9_readsKite_225 rfl rfl ?_
                  refine s_getI fk_X9_239 rfl dX9_readsKite_226 (fun v37 => ?_)
                  refine s_iast dX9_readsKite_229 (fun S38 => ?_)
                  refine s_aload_n 0 dX9_readsKite_230 rfl rfl ?_
                  refine s_ldc2 (v := (247516 : Int64)) dX9_readsKite_231 (lw_in 1223 (by decide +kernel) (by decide +kernel)) ?_
                  refine s_cV1I mk_X9_262 (by decide) rfl (fun v9 S9 h9 => con_X9_needsWord F _ _ _ v9 S9 h9) ⟨by omega, by omega⟩ (Nat.le_of_ble_eq_true rfl) dX9_readsKite_234 (fun v39 S40 => ?_)
                  refine s_if_eq 250 dX9_readsKite_237 (by decide) (fun _ => ?_) (fun _ => ?_)
                  · exact s_less (t_X9_readsKite_250   S40) trivial
                  · refine s_aload_n 0 dX9_readsKite_240 rfl rfl ?_
                    refine s_iconst (0 : Int32) dX9_readsKite_241 (by decide) ?_
                    refine s_bipush (40 : Int32) dX9_readsKite_242 (by decide) ?_
                    refine s_cV2I mk_X9_245 (by decide) rfl (fun v9 S9 h9 => con_X9_needsNumber F _ _ _ _ v9 S9 h9) ⟨by omega, by omega⟩ (Nat.le_of_ble_eq_true rfl) dX9_readsKite_244 (fun v41 S42 => ?_)
                    refine s_if_ne 252 dX9_readsKite_247 (by decide) (fun _ => ?_) (fun _ => ?_)
                    · refine s_aload_n 0 dX9_readsKite_252 rfl rfl ?_
                      refine s_getR fk_X9_28 rfl dX9_readsKite_253 (fun v43 => ?_)
                      refine s_iload_n 1 dX9_readsKite_256 rfl rfl ?_
                      refine s_aload_n 0 dX9_readsKite_257 rfl rfl ?_
                      refine s_getI fk_X9_239 rfl dX9_readsKite_258 (fun v44 => ?_)
                      refine s_iast dX9_readsKite_261 (fun S45 => ?_)
                      refine s_aload_n 0 dX9_readsKite_262 rfl rfl ?_
                      refine s_getR fk_X9_13 rfl dX9_readsKite_263 (fun v46 => ?_)
                      refine s_bipush (9 : Int32) dX9_readsKite_266 (by decide) ?_
                      refine s_dup2 dX9_readsKite_268 rfl rfl ?_
                      refine s_iald dX9_readsKite_269 (fun v47 => ?_)
                      refine s_iconst (1 : Int32) dX9_readsKite_270 (by decide) ?_
                      refine s_iadd dX9_readsKite_271 ?_
                      refine s_iast dX9_readsKite_272 (fun S48 => ?_)
                      refine s_aload_n 0 dX9_readsKite_273 rfl rfl ?_
                      refine s_cV0I mk_X9_249 (by decide) rfl (fun v9 S9 h9 => con_X9_ends F _ _ v9 S9 h9) ⟨by omega, by omega⟩ (Nat.le_of_ble_eq_true rfl) dX9_readsKite_274 (fun v49 S50 => ?_)
                      exact s_zret dX9_readsKite_277
                    · exact s_less (t_X9_readsKite_250   S42) trivial
                · exact s_less (t_X9_readsKite_218   S35) trivial
            · exact s_less (t_X9_readsKite_186   S28) trivial
        · exact s_less (t_X9_readsKite_154   S21) trivial
    · refine s_aload_n 0 dX9_readsKite_124 rfl rfl ?_
      refine s_iconst (1 : Int32) dX9_readsKite_125 (by decide) ?_
      refine s_cV1I mk_X9_183 (by decide) rfl (fun v9 S9 h9 => con_X9_fails F _ _ _ v9 S9 h9) ⟨by omega, by omega⟩ (Nat.le_of_ble_eq_true rfl) dX9_readsKite_126 (fun v51 S52 => ?_)
      exact s_zret dX9_readsKite_129
  · refine s_aload_n 0 dX9_readsKite_59 rfl rfl ?_
    refine s_getR fk_X9_31 rfl dX9_readsKite_60 (fun v53 => ?_)
    refine s_iload_n 2 dX9_readsKite_63 rfl rfl ?_
    refine s_lald dX9_readsKite_64 (fun v54 => ?_)
    refine s_aload_n 0 dX9_readsKite_65 rfl rfl ?_
    refine s_getJ fk_X9_127 rfl dX9_readsKite_66 (fun v55 => ?_)
    refine s_lcmp dX9_readsKite_69 ?_
    refine s_if_ne 79 dX9_readsKite_70 (by decide) (fun _ => ?_) (fun _ => ?_)
    · refine s_iinc_2 (1 : Int32) dX9_readsKite_79 (by decide) rfl ?_
      refine s_goto 48 dX9_readsKite_82 (by decide) ?_
      exact s_less (hk48 x0 x1 (x2 + (1 : Int32)) S) (And.intro rfl (And.intro rfl (And.intro rfl trivial)))
    · refine s_aload_n 0 dX9_readsKite_73 rfl rfl ?_
      refine s_iconst (3 : Int32) dX9_readsKite_74 (by decide) ?_
      refine s_cV1I mk_X9_183 (by decide) rfl (fun v9 S9 h9 => con_X9_fails F _ _ _ v9 S9 h9) ⟨by omega, by omega⟩ (Nat.le_of_ble_eq_true rfl) dX9_readsKite_75 (fun v56 S57 => ?_)
      exact s_zret dX9_readsKite_78
set_option maxRecDepth 100000 in
theorem con_X9_readsKite {l : Launch} (F : Nat) (x0 : Nat) (S : Mem) (v : Int32) (S1 : Mem) (h : fn_X9_readsKite F x0 S = some (v, S1)) : Con l yX9_readsKite cX9_readsKite 3 (some .boolean) 3 64 [.ref x0] S (rI v) S1 := by
  refine con_of (ι := rI) RX9 false [some (.ref x0), none, none] rfl (fun h => by cases h) (by decide) (Nat.le_of_ble_eq_true rfl) ⟨rfl, rfl⟩ (fun Γ hl => ?_) h
  unfold fn_X9_readsKite
  refine s_aload_n 0 dX9_readsKite_0 rfl rfl ?_
  refine s_getR fk_X9_13 rfl dX9_readsKite_1 (fun v1 => ?_)
  refine s_bipush (9 : Int32) dX9_readsKite_4 (by decide) ?_
  refine s_iald dX9_readsKite_6 (fun v2 => ?_)
  refine s_bipush (6 : Int32) dX9_readsKite_7 (by decide) ?_
  refine s_icmp_ne 18 dX9_readsKite_9 (by decide) (fun _ => ?_) (fun _ => ?_)
  · refine s_bipush (6 : Int32) dX9_readsKite_18 (by decide) ?_
    refine s_aload_n 0 dX9_readsKite_20 rfl rfl ?_
    refine s_getR fk_X9_13 rfl dX9_readsKite_21 (fun v3 => ?_)
    refine s_bipush (9 : Int32) dX9_readsKite_24 (by decide) ?_
    refine s_iald dX9_readsKite_26 (fun v4 => ?_)
    refine s_iadd dX9_readsKite_27 ?_
    refine s_ltI (fun v5 => ?_)
    refine s_istore_1 dX9_readsKite_28 rfl ?_
    refine s_aload_n 0 dX9_readsKite_29 rfl rfl ?_
    refine s_cV0V mk_X9_189 (by decide) rfl (fun v9 S9 h9 => con_X9_nextToken F _ _ v9 S9 h9) ⟨by omega, by omega⟩ (Nat.le_of_ble_eq_true rfl) dX9_readsKite_30 (fun _ S7 => ?_)
    refine s_aload_n 0 dX9_readsKite_33 rfl rfl ?_
    refine s_cV0I mk_X9_256 (by decide) rfl (fun v9 S9 h9 => con_X9_isKept F _ _ v9 S9 h9) ⟨by omega, by omega⟩ (Nat.le_of_ble_eq_true rfl) dX9_readsKite_34 (fun v8 S9 => ?_)
    refine s_if_eq 46 dX9_readsKite_37 (by decide) (fun _ => ?_) (fun _ => ?_)
    · refine s_iconst (0 : Int32) dX9_readsKite_46 (by decide) ?_
      refine s_istore_2 dX9_readsKite_47 rfl ?_
      exact s_less (t_X9_readsKite_48 F x0 v5 (0 : Int32) S9) (And.intro rfl (And.intro rfl (And.intro rfl trivial)))
    · refine s_aload_n 0 dX9_readsKite_40 rfl rfl ?_
      refine s_iconst (1 : Int32) dX9_readsKite_41 (by decide) ?_
      refine s_cV1I mk_X9_183 (by decide) rfl (fun v9 S9 h9 => con_X9_fails F _ _ _ v9 S9 h9) ⟨by omega, by omega⟩ (Nat.le_of_ble_eq_true rfl) dX9_readsKite_42 (fun v10 S11 => ?_)
      exact s_zret dX9_readsKite_45
  · refine s_aload_n 0 dX9_readsKite_12 rfl rfl ?_
    refine s_iconst (5 : Int32) dX9_readsKite_13 (by decide) ?_
    refine s_cV1I mk_X9_183 (by decide) rfl (fun v9 S9 h9 => con_X9_fails F _ _ _ v9 S9 h9) ⟨by omega, by omega⟩ (Nat.le_of_ble_eq_true rfl) dX9_readsKite_14 (fun v12 S13 => ?_)
    exact s_zret dX9_readsKite_17
-- X9_readsAll
def f_X9_readsAll_188 (F : Nat) (k39 : Nat → Mem → Option (Int32 × Mem)) (x0 : Nat) (y0 : Int32) (S : Mem) : Option (Int32 × Mem) :=
  if y0 = 0 then
    rz (0 : Int32) S
  else
    k39 x0 S
def b_X9_readsAll_39 (F : Nat) (k39 : Nat → Mem → Option (Int32 × Mem)) (x0 : Nat) (S : Mem) : Option (Int32 × Mem) :=
  (gI S 8 6 x0).bind fun v1 =>
  if v1 = 0 then
    rz (1 : Int32) S
  else
    bd (cal S 8 x0 (fn_X9_isWord F x0 (459652 : Int64) S)) fun v2 S3 =>
    if v2 = 0 then
      bd (cal S3 8 x0 (fn_X9_isWord F x0 (369932 : Int64) S3)) fun v4 S5 =>
      if v4 = 0 then
        bd (cal S5 8 x0 (fn_X9_isWord F x0 (237292 : Int64) S5)) fun v6 S7 =>
        if v6 = 0 then
          bd (cal S7 8 x0 (fn_X9_isWord F x0 (158772 : Int64) S7)) fun v8 S9 =>
          if v8 = 0 then
            bd (cal S9 8 x0 (fn_X9_isWord F x0 (10819228 : Int64) S9)) fun v10 S11 =>
            if v10 = 0 then
              bd (cal S11 8 x0 (fn_X9_isWord F x0 (4147840 : Int64) S11)) fun v12 S13 =>
              if v12 = 0 then
                bd (cal S13 8 x0 (fn_X9_isWord F x0 (223619 : Int64) S13)) fun v14 S15 =>
                if v14 = 0 then
                  bd (cal S15 8 x0 (fn_X9_fails F x0 (1 : Int32) S15)) fun v16 S17 =>
                  f_X9_readsAll_188 F k39 x0 v16 S17
                else
                  bd (cal S15 8 x0 (fn_X9_readsKite F x0 S15)) fun v18 S19 =>
                  f_X9_readsAll_188 F k39 x0 v18 S19
              else
                bd (cal S13 8 x0 (fn_X9_readsOne F x0 (3 : Int32) (0 : Int32) (50 : Int32) S13)) fun v20 S21 =>
                f_X9_readsAll_188 F k39 x0 v20 S21
            else
              bd (cal S11 8 x0 (fn_X9_readsOne F x0 (2 : Int32) (1 : Int32) (20 : Int32) S11)) fun v22 S23 =>
              f_X9_readsAll_188 F k39 x0 v22 S23
          else
            bd (cal S9 8 x0 (fn_X9_readsOne F x0 (1 : Int32) (1 : Int32) (5 : Int32) S9)) fun v24 S25 =>
            f_X9_readsAll_188 F k39 x0 v24 S25
        else
          bd (cal S7 8 x0 (fn_X9_readsOne F x0 (0 : Int32) (0 : Int32) (999 : Int32) S7)) fun v26 S27 =>
          f_X9_readsAll_188 F k39 x0 v26 S27
      else
        bd (cal S5 8 x0 (fn_X9_readsLaw F x0 (1 : Int32) S5)) fun v28 S29 =>
        f_X9_readsAll_188 F k39 x0 v28 S29
    else
      bd (cal S3 8 x0 (fn_X9_readsLaw F x0 (0 : Int32) S3)) fun v30 S31 =>
      f_X9_readsAll_188 F k39 x0 v30 S31
def fn_X9_readsAll (F : Nat) (x0 : Nat) (S : Mem) : Option (Int32 × Mem) :=
  bd (cal S 8 x0 (fn_X9_plain F x0 (1 : Int32) S)) fun _ S2 =>
  (sI S2 8 21 x0 (0 : Int32)).bind fun S3 =>
  (sI S3 8 20 x0 (1000 : Int32)).bind fun S4 =>
  (gI S4 8 1 x0).bind fun v5 =>
  (sI S4 8 3 x0 v5).bind fun S6 =>
  (sI S6 8 1 x0 (0 : Int32)).bind fun S7 =>
  (sI S7 8 4 x0 (0 : Int32)).bind fun S8 =>
  bd (cal S8 8 x0 (fn_X9_nextToken F x0 S8)) fun _ S10 =>
  fix1 (b_X9_readsAll_39 F) F x0 S10
set_option maxRecDepth 100000 in
theorem t_X9_readsAll_188 {Γ : Cx} {F : Nat} {k39 : Nat → Mem → Option (Int32 × Mem)} (hk39 : ∀ (x0 : Nat) (S : Mem), Sim cX9_readsAll RX9 4 88 (some .boolean) false Γ rI (k39 x0 S) S 39 [some (.ref x0), none] []) : ∀ (x0 : Nat) (y0 : Int32) (S : Mem), Sim cX9_readsAll RX9 4 88 (some .boolean) false Γ rI (f_X9_readsAll_188 F k39 x0 y0 S) S 188 [some (.ref x0), none] [.int y0] := by
  intro x0 y0 S
  unfold f_X9_readsAll_188
  refine s_istore_1 dX9_readsAll_188 rfl ?_
  refine s_iload_n 1 dX9_readsAll_189 rfl rfl ?_
  refine s_if_ne 195 dX9_readsAll_190 (by decide) (fun _ => ?_) (fun _ => ?_)
  · refine s_goto 39 dX9_readsAll_195 (by decide) ?_
    exact s_less (hk39 x0 S) (And.intro rfl trivial)
  · refine s_iconst (0 : Int32) dX9_readsAll_193 (by decide) ?_
    exact s_zret dX9_readsAll_194
set_option maxRecDepth 100000 in
theorem t_X9_readsAll_39 {Γ : Cx} {F : Nat} : ∀ (f : Nat) (x0 : Nat) (S : Mem), Sim cX9_readsAll RX9 4 88 (some .boolean) false Γ rI (fix1 (b_X9_readsAll_39 F) f x0 S) S 39 [some (.ref x0), none] [] := by
  refine s_fix1 (fun (x0 : Nat) => [some (.ref x0), none]) (fun k39 hk39 => ?_)
  intro x0 S
  unfold b_X9_readsAll_39
  refine s_aload_n 0 dX9_readsAll_39 rfl rfl ?_
  refine s_getI fk_X9_134 rfl dX9_readsAll_40 (fun v1 => ?_)
  refine s_if_eq 198 dX9_readsAll_43 (by decide) (fun _ => ?_) (fun _ => ?_)
  · refine s_iconst (1 : Int32) dX9_readsAll_198 (by decide) ?_
    exact s_zret dX9_readsAll_199
  · refine s_aload_n 0 dX9_readsAll_46 rfl rfl ?_
    refine s_ldc2 (v := (459652 : Int64)) dX9_readsAll_47 (lw_in 1202 (by decide +kernel) (by decide +kernel)) ?_
    refine s_cV1I mk_X9_175 (by decide) rfl (fun v9 S9 h9 => con_X9_isWord F _ _ _ v9 S9 h9) ⟨by omega, by omega⟩ (Nat.le_of_ble_eq_true rfl) dX9_readsAll_50 (fun v2 S3 => ?_)
    refine s_if_eq 64 dX9_readsAll_53 (by decide) (fun _ => ?_) (fun _ => ?_)
    · refine s_aload_n 0 dX9_readsAll_64 rfl rfl ?_
      refine s_ldc2 (v := (369932 : Int64)) dX9_readsAll_65 (lw_in 1240 (by decide +kernel) (by decide +kernel)) ?_
      refine s_cV1I mk_X9_175 (by decide) rfl (fun v9 S9 h9 => con_X9_isWord F _ _ _ v9 S9 h9) ⟨by omega, by omega⟩ (Nat.le_of_ble_eq_true rfl) dX9_readsAll_68 (fun v4 S5 => ?_)
      refine s_if_eq 82 dX9_readsAll_71 (by decide) (fun _ => ?_) (fun _ => ?_)
      · refine s_aload_n 0 dX9_readsAll_82 rfl rfl ?_
        refine s_ldc2 (v := (237292 : Int64)) dX9_readsAll_83 (lw_in 1241 (by decide +kernel) (by decide +kernel)) ?_
        refine s_cV1I mk_X9_175 (by decide) rfl (fun v9 S9 h9 => con_X9_isWord F _ _ _ v9 S9 h9) ⟨by omega, by omega⟩ (Nat.le_of_ble_eq_true rfl) dX9_readsAll_86 (fun v6 S7 => ?_)
        refine s_if_eq 104 dX9_readsAll_89 (by decide) (fun _ => ?_) (fun _ => ?_)
        · refine s_aload_n 0 dX9_readsAll_104 rfl rfl ?_
          refine s_ldc2 (v := (158772 : Int64)) dX9_readsAll_105 (lw_in 1257 (by decide +kernel) (by decide +kernel)) ?_
          refine s_cV1I mk_X9_175 (by decide) rfl (fun v9 S9 h9 => con_X9_isWord F _ _ _ v9 S9 h9) ⟨by omega, by omega⟩ (Nat.le_of_ble_eq_true rfl) dX9_readsAll_108 (fun v8 S9 => ?_)
          refine s_if_eq 124 dX9_readsAll_111 (by decide) (fun _ => ?_) (fun _ => ?_)
          · refine s_aload_n 0 dX9_readsAll_124 rfl rfl ?_
            refine s_ldc2 (v := (10819228 : Int64)) dX9_readsAll_125 (lw_in 1258 (by decide +kernel) (by decide +kernel)) ?_
            refine s_cV1I mk_X9_175 (by decide) rfl (fun v9 S9 h9 => con_X9_isWord F _ _ _ v9 S9 h9) ⟨by omega, by omega⟩ (Nat.le_of_ble_eq_true rfl) dX9_readsAll_128 (fun v10 S11 => ?_)
            refine s_if_eq 145 dX9_readsAll_131 (by decide) (fun _ => ?_) (fun _ => ?_)
            · refine s_aload_n 0 dX9_readsAll_145 rfl rfl ?_
              refine s_ldc2 (v := (4147840 : Int64)) dX9_readsAll_146 (lw_in 1259 (by decide +kernel) (by decide +kernel)) ?_
              refine s_cV1I mk_X9_175 (by decide) rfl (fun v9 S9 h9 => con_X9_isWord F _ _ _ v9 S9 h9) ⟨by omega, by omega⟩ (Nat.le_of_ble_eq_true rfl) dX9_readsAll_149 (fun v12 S13 => ?_)
              refine s_if_eq 166 dX9_readsAll_152 (by decide) (fun _ => ?_) (fun _ => ?_)
              · refine s_aload_n 0 dX9_readsAll_166 rfl rfl ?_
                refine s_ldc2 (v := (223619 : Int64)) dX9_readsAll_167 (lw_in 1260 (by decide +kernel) (by decide +kernel)) ?_
                refine s_cV1I mk_X9_175 (by decide) rfl (fun v9 S9 h9 => con_X9_isWord F _ _ _ v9 S9 h9) ⟨by omega, by omega⟩ (Nat.le_of_ble_eq_true rfl) dX9_readsAll_170 (fun v14 S15 => ?_)
                refine s_if_eq 183 dX9_readsAll_173 (by decide) (fun _ => ?_) (fun _ => ?_)
                · refine s_aload_n 0 dX9_readsAll_183 rfl rfl ?_
                  refine s_iconst (1 : Int32) dX9_readsAll_184 (by decide) ?_
                  refine s_cV1I mk_X9_183 (by decide) rfl (fun v9 S9 h9 => con_X9_fails F _ _ _ v9 S9 h9) ⟨by omega, by omega⟩ (Nat.le_of_ble_eq_true rfl) dX9_readsAll_185 (fun v16 S17 => ?_)
                  exact s_less (t_X9_readsAll_188 hk39 x0 v16 S17) (And.intro rfl trivial)
                · refine s_aload_n 0 dX9_readsAll_176 rfl rfl ?_
                  refine s_cV0I mk_X9_271 (by decide) rfl (fun v9 S9 h9 => con_X9_readsKite F _ _ v9 S9 h9) ⟨by omega, by omega⟩ (Nat.le_of_ble_eq_true rfl) dX9_readsAll_177 (fun v18 S19 => ?_)
                  refine s_goto 188 dX9_readsAll_180 (by decide) ?_
                  exact s_less (t_X9_readsAll_188 hk39 x0 v18 S19) (And.intro rfl trivial)
              · refine s_aload_n 0 dX9_readsAll_155 rfl rfl ?_
                refine s_iconst (3 : Int32) dX9_readsAll_156 (by decide) ?_
                refine s_iconst (0 : Int32) dX9_readsAll_157 (by decide) ?_
                refine s_bipush (50 : Int32) dX9_readsAll_158 (by decide) ?_
                refine s_cV3I mk_X9_268 (by decide) rfl (fun v9 S9 h9 => con_X9_readsOne F _ _ _ _ _ v9 S9 h9) ⟨by omega, by omega⟩ (Nat.le_of_ble_eq_true rfl) dX9_readsAll_160 (fun v20 S21 => ?_)
                refine s_goto 188 dX9_readsAll_163 (by decide) ?_
                exact s_less (t_X9_readsAll_188 hk39 x0 v20 S21) (And.intro rfl trivial)
            · refine s_aload_n 0 dX9_readsAll_134 rfl rfl ?_
              refine s_iconst (2 : Int32) dX9_readsAll_135 (by decide) ?_
              refine s_iconst (1 : Int32) dX9_readsAll_136 (by decide) ?_
              refine s_bipush (20 : Int32) dX9_readsAll_137 (by decide) ?_
              refine s_cV3I mk_X9_268 (by decide) rfl (fun v9 S9 h9 => con_X9_readsOne F _ _ _ _ _ v9 S9 h9) ⟨by omega, by omega⟩ (Nat.le_of_ble_eq_true rfl) dX9_readsAll_139 (fun v22 S23 => ?_)
              refine s_goto 188 dX9_readsAll_142 (by decide) ?_
              exact s_less (t_X9_readsAll_188 hk39 x0 v22 S23) (And.intro rfl trivial)
          · refine s_aload_n 0 dX9_readsAll_114 rfl rfl ?_
            refine s_iconst (1 : Int32) dX9_readsAll_115 (by decide) ?_
            refine s_iconst (1 : Int32) dX9_readsAll_116 (by decide) ?_
            refine s_iconst (5 : Int32) dX9_readsAll_117 (by decide) ?_
            refine s_cV3I mk_X9_268 (by decide) rfl (fun v9 S9 h9 => con_X9_readsOne F _ _ _ _ _ v9 S9 h9) ⟨by omega, by omega⟩ (Nat.le_of_ble_eq_true rfl) dX9_readsAll_118 (fun v24 S25 => ?_)
            refine s_goto 188 dX9_readsAll_121 (by decide) ?_
            exact s_less (t_X9_readsAll_188 hk39 x0 v24 S25) (And.intro rfl trivial)
        · refine s_aload_n 0 dX9_readsAll_92 rfl rfl ?_
          refine s_iconst (0 : Int32) dX9_readsAll_93 (by decide) ?_
          refine s_iconst (0 : Int32) dX9_readsAll_94 (by decide) ?_
          refine s_sipush (999 : Int32) dX9_readsAll_95 (by decide) ?_
          refine s_cV3I mk_X9_268 (by decide) rfl (fun v9 S9 h9 => con_X9_readsOne F _ _ _ _ _ v9 S9 h9) ⟨by omega, by omega⟩ (Nat.le_of_ble_eq_true rfl) dX9_readsAll_98 (fun v26 S27 => ?_)
          refine s_goto 188 dX9_readsAll_101 (by decide) ?_
          exact s_less (t_X9_readsAll_188 hk39 x0 v26 S27) (And.intro rfl trivial)
      · refine s_aload_n 0 dX9_readsAll_74 rfl rfl ?_
        refine s_iconst (1 : Int32) dX9_readsAll_75 (by decide) ?_
        refine s_cV1I mk_X9_265 (by decide) rfl (fun v9 S9 h9 => con_X9_readsLaw F _ _ _ v9 S9 h9) ⟨by omega, by omega⟩ (Nat.le_of_ble_eq_true rfl) dX9_readsAll_76 (fun v28 S29 => ?_)
        refine s_goto 188 dX9_readsAll_79 (by decide) ?_
        exact s_less (t_X9_readsAll_188 hk39 x0 v28 S29) (And.intro rfl trivial)
    · refine s_aload_n 0 dX9_readsAll_56 rfl rfl ?_
      refine s_iconst (0 : Int32) dX9_readsAll_57 (by decide) ?_
      refine s_cV1I mk_X9_265 (by decide) rfl (fun v9 S9 h9 => con_X9_readsLaw F _ _ _ v9 S9 h9) ⟨by omega, by omega⟩ (Nat.le_of_ble_eq_true rfl) dX9_readsAll_58 (fun v30 S31 => ?_)
      refine s_goto 188 dX9_readsAll_61 (by decide) ?_
      exact s_less (t_X9_readsAll_188 hk39 x0 v30 S31) (And.intro rfl trivial)
set_option maxRecDepth 100000 in
theorem con_X9_readsAll {l : Launch} (F : Nat) (x0 : Nat) (S : Mem) (v : Int32) (S1 : Mem) (h : fn_X9_readsAll F x0 S = some (v, S1)) : Con l yX9_readsAll cX9_readsAll 2 (some .boolean) 4 88 [.ref x0] S (rI v) S1 := by
  refine con_of (ι := rI) RX9 false [some (.ref x0), none] rfl (fun h => by cases h) (by decide) (Nat.le_of_ble_eq_true rfl) ⟨rfl, rfl⟩ (fun Γ hl => ?_) h
  unfold fn_X9_readsAll
  refine s_aload_n 0 dX9_readsAll_0 rfl rfl ?_
  refine s_iconst (1 : Int32) dX9_readsAll_1 (by decide) ?_
  refine s_cV1V mk_X9_105 (by decide) rfl (fun v9 S9 h9 => con_X9_plain F _ _ _ v9 S9 h9) ⟨by omega, by omega⟩ (Nat.le_of_ble_eq_true rfl) dX9_readsAll_2 (fun _ S2 => ?_)
  refine s_aload_n 0 dX9_readsAll_5 rfl rfl ?_
  refine s_iconst (0 : Int32) dX9_readsAll_6 (by decide) ?_
  refine s_putI fk_X9_242 (Or.inl rfl) rfl dX9_readsAll_7 (fun S3 => ?_)
  refine s_aload_n 0 dX9_readsAll_10 rfl rfl ?_
  refine s_sipush (1000 : Int32) dX9_readsAll_11 (by decide) ?_
  refine s_putI fk_X9_148 (Or.inl rfl) rfl dX9_readsAll_14 (fun S4 => ?_)
  refine s_aload_n 0 dX9_readsAll_17 rfl rfl ?_
  refine s_aload_n 0 dX9_readsAll_18 rfl rfl ?_
  refine s_getI fk_X9_115 rfl dX9_readsAll_19 (fun v5 => ?_)
  refine s_putI fk_X9_118 (Or.inl rfl) rfl dX9_readsAll_22 (fun S6 => ?_)
  refine s_aload_n 0 dX9_readsAll_25 rfl rfl ?_
  refine s_iconst (0 : Int32) dX9_readsAll_26 (by decide) ?_
  refine s_putI fk_X9_115 (Or.inl rfl) rfl dX9_readsAll_27 (fun S7 => ?_)
  refine s_aload_n 0 dX9_readsAll_30 rfl rfl ?_
  refine s_iconst (0 : Int32) dX9_readsAll_31 (by decide) ?_
  refine s_putI fk_X9_121 (Or.inl rfl) rfl dX9_readsAll_32 (fun S8 => ?_)
  refine s_aload_n 0 dX9_readsAll_35 rfl rfl ?_
  refine s_cV0V mk_X9_189 (by decide) rfl (fun v9 S9 h9 => con_X9_nextToken F _ _ v9 S9 h9) ⟨by omega, by omega⟩ (Nat.le_of_ble_eq_true rfl) dX9_readsAll_36 (fun _ S10 => ?_)
  exact s_less (t_X9_readsAll_39 F x0 S10) (And.intro rfl trivial)
-- X9_moves
def b_X9_moves_3 (F : Nat) (k3 : Nat → Int32 → Int32 → Int32 → Int32 → Mem → Option (Unit × Mem)) (x0 : Nat) (x1 : Int32) (x2 : Int32) (x3 : Int32) (x4 : Int32) (S : Mem) : Option (Unit × Mem) :=
  if x1 ≤ x4 then
    some ((), S)
  else
    (gA S 10 x0 ((x1 * x2) + x4)).bind fun v1 =>
    (sA S x0 ((x1 * x3) + x4) v1).bind fun S2 =>
    k3 x0 x1 x2 x3 (x4 + (1 : Int32)) S2
def fn_X9_moves (F : Nat) (x0 : Nat) (x1 : Int32) (x2 : Int32) (x3 : Int32) (S : Mem) : Option (Unit × Mem) :=
  fix5 (b_X9_moves_3 F) F x0 x1 x2 x3 (0 : Int32) S
set_option maxRecDepth 100000 in
theorem t_X9_moves_3 {Γ : Cx} {F : Nat} : ∀ (f : Nat) (x0 : Nat) (x1 : Int32) (x2 : Int32) (x3 : Int32) (x4 : Int32) (S : Mem), Sim cX9_moves RX9 0 0 none false Γ rV (fix5 (b_X9_moves_3 F) f x0 x1 x2 x3 x4 S) S 3 [some (.ref x0), some (.int x1), some (.int x2), some (.int x3), some (.int x4)] [] := by
  refine s_fix5 (fun (x0 : Nat) (x1 : Int32) (x2 : Int32) (x3 : Int32) (x4 : Int32) => [some (.ref x0), some (.int x1), some (.int x2), some (.int x3), some (.int x4)]) (fun k3 hk3 => ?_)
  intro x0 x1 x2 x3 x4 S
  unfold b_X9_moves_3
  refine s_iload dX9_moves_3 rfl ?_
  refine s_iload_n 1 dX9_moves_5 rfl rfl ?_
  refine s_icmp_ge 31 dX9_moves_6 (by decide) (fun _ => ?_) (fun _ => ?_)
  · exact s_vret dX9_moves_31
  · refine s_aload_n 0 dX9_moves_9 rfl rfl ?_
    refine s_iload_n 1 dX9_moves_10 rfl rfl ?_
    refine s_iload_n 3 dX9_moves_11 rfl rfl ?_
    refine s_imul dX9_moves_12 ?_
    refine s_iload dX9_moves_13 rfl ?_
    refine s_iadd dX9_moves_15 ?_
    refine s_aload_n 0 dX9_moves_16 rfl rfl ?_
    refine s_iload_n 1 dX9_moves_17 rfl rfl ?_
    refine s_iload_n 2 dX9_moves_18 rfl rfl ?_
    refine s_imul dX9_moves_19 ?_
    refine s_iload dX9_moves_20 rfl ?_
    refine s_iadd dX9_moves_22 ?_
    refine s_iald dX9_moves_23 (fun v1 => ?_)
    refine s_iast dX9_moves_24 (fun S2 => ?_)
    refine s_iinc_4 (1 : Int32) dX9_moves_25 (by decide) rfl ?_
    refine s_goto 3 dX9_moves_28 (by decide) ?_
    exact s_less (hk3 x0 x1 x2 x3 (x4 + (1 : Int32)) S2) (And.intro rfl (And.intro rfl (And.intro rfl (And.intro rfl (And.intro rfl trivial)))))
set_option maxRecDepth 100000 in
theorem con_X9_moves {l : Launch} (F : Nat) (x0 : Nat) (x1 : Int32) (x2 : Int32) (x3 : Int32) (S : Mem) (v : Unit) (S1 : Mem) (h : fn_X9_moves F x0 x1 x2 x3 S = some (v, S1)) : Con l yX9_moves cX9_moves 5 none 0 0 [.ref x0, .int x1, .int x2, .int x3] S (rV v) S1 := by
  refine con_of (ι := rV) RX9 false [some (.ref x0), some (.int x1), some (.int x2), some (.int x3), none] rfl (fun h => by cases h) (by decide) (Nat.le_of_ble_eq_true rfl) ⟨rfl, rfl⟩ (fun Γ hl => ?_) h
  unfold fn_X9_moves
  refine s_iconst (0 : Int32) dX9_moves_0 (by decide) ?_
  refine s_istore_4 dX9_moves_1 rfl ?_
  exact s_less (t_X9_moves_3 F x0 x1 x2 x3 (0 : Int32) S) (And.intro rfl (And.intro rfl (And.intro rfl (And.intro rfl (And.intro rfl trivial)))))
-- X9_lays
def b_X9_lays_79 (F : Nat) (k79 : Nat → Int32 → Int32 → Int32 → Mem → Option (Unit × Mem)) (x0 : Nat) (x1 : Int32) (x2 : Int32) (x3 : Int32) (S : Mem) : Option (Unit × Mem) :=
  if (2 : Int32) ≤ x3 then
    some ((), S)
  else
    (gR S 8 17 x0).bind fun v1 =>
    (gR S 8 17 x0).bind fun v2 =>
    (gA S 10 v2 (((2 : Int32) * x1) + x3)).bind fun v3 =>
    (sA S v1 (((2 : Int32) * x2) + x3) (v3 + ((1000 : Int32) * (x2 - x1)))).bind fun S4 =>
    (gR S4 8 18 x0).bind fun v5 =>
    (gR S4 8 18 x0).bind fun v6 =>
    (gA S4 10 v6 (((2 : Int32) * x1) + x3)).bind fun v7 =>
    (sA S4 v5 (((2 : Int32) * x2) + x3) (v7 + ((1000 : Int32) * (x2 - x1)))).bind fun S8 =>
    k79 x0 x1 x2 (x3 + (1 : Int32)) S8
def fn_X9_lays (F : Nat) (x0 : Nat) (x1 : Int32) (x2 : Int32) (S : Mem) : Option (Unit × Mem) :=
  (gR S 8 10 x0).bind fun v1 =>
  bd ((fn_X9_moves F v1 (5 : Int32) x1 x2 S)) fun _ S3 =>
  (gR S3 8 11 x0).bind fun v4 =>
  bd ((fn_X9_moves F v4 (6 : Int32) x1 x2 S3)) fun _ S6 =>
  (gR S6 8 12 x0).bind fun v7 =>
  bd ((fn_X9_moves F v7 (6 : Int32) x1 x2 S6)) fun _ S9 =>
  (gR S9 8 13 x0).bind fun v10 =>
  bd ((fn_X9_moves F v10 (6 : Int32) x1 x2 S9)) fun _ S12 =>
  (gR S12 8 14 x0).bind fun v13 =>
  bd ((fn_X9_moves F v13 (6 : Int32) x1 x2 S12)) fun _ S15 =>
  (gR S15 8 15 x0).bind fun v16 =>
  bd ((fn_X9_moves F v16 (6 : Int32) x1 x2 S15)) fun _ S18 =>
  (gR S18 8 19 x0).bind fun v19 =>
  bd ((fn_X9_moves F v19 (1000 : Int32) x1 x2 S18)) fun _ S21 =>
  fix4 (b_X9_lays_79 F) F x0 x1 x2 (0 : Int32) S21
set_option maxRecDepth 100000 in
theorem t_X9_lays_79 {Γ : Cx} {F : Nat} : ∀ (f : Nat) (x0 : Nat) (x1 : Int32) (x2 : Int32) (x3 : Int32) (S : Mem), Sim cX9_lays RX9 1 24 none false Γ rV (fix4 (b_X9_lays_79 F) f x0 x1 x2 x3 S) S 79 [some (.ref x0), some (.int x1), some (.int x2), some (.int x3)] [] := by
  refine s_fix4 (fun (x0 : Nat) (x1 : Int32) (x2 : Int32) (x3 : Int32) => [some (.ref x0), some (.int x1), some (.int x2), some (.int x3)]) (fun k79 hk79 => ?_)
  intro x0 x1 x2 x3 S
  unfold b_X9_lays_79
  refine s_iload_n 3 dX9_lays_79 rfl rfl ?_
  refine s_iconst (2 : Int32) dX9_lays_80 (by decide) ?_
  refine s_icmp_ge 146 dX9_lays_81 (by decide) (fun _ => ?_) (fun _ => ?_)
  · exact s_vret dX9_lays_146
  · refine s_aload_n 0 dX9_lays_84 rfl rfl ?_
    refine s_getR fk_X9_35 rfl dX9_lays_85 (fun v1 => ?_)
    refine s_iconst (2 : Int32) dX9_lays_88 (by decide) ?_
    refine s_iload_n 2 dX9_lays_89 rfl rfl ?_
    refine s_imul dX9_lays_90 ?_
    refine s_iload_n 3 dX9_lays_91 rfl rfl ?_
    refine s_iadd dX9_lays_92 ?_
    refine s_aload_n 0 dX9_lays_93 rfl rfl ?_
    refine s_getR fk_X9_35 rfl dX9_lays_94 (fun v2 => ?_)
    refine s_iconst (2 : Int32) dX9_lays_97 (by decide) ?_
    refine s_iload_n 1 dX9_lays_98 rfl rfl ?_
    refine s_imul dX9_lays_99 ?_
    refine s_iload_n 3 dX9_lays_100 rfl rfl ?_
    refine s_iadd dX9_lays_101 ?_
    refine s_iald dX9_lays_102 (fun v3 => ?_)
    refine s_sipush (1000 : Int32) dX9_lays_103 (by decide) ?_
    refine s_iload_n 2 dX9_lays_106 rfl rfl ?_
    refine s_iload_n 1 dX9_lays_107 rfl rfl ?_
    refine s_isub dX9_lays_108 ?_
    refine s_imul dX9_lays_109 ?_
    refine s_iadd dX9_lays_110 ?_
    refine s_iast dX9_lays_111 (fun S4 => ?_)
    refine s_aload_n 0 dX9_lays_112 rfl rfl ?_
    refine s_getR fk_X9_38 rfl dX9_lays_113 (fun v5 => ?_)
    refine s_iconst (2 : Int32) dX9_lays_116 (by decide) ?_
    refine s_iload_n 2 dX9_lays_117 rfl rfl ?_
    refine s_imul dX9_lays_118 ?_
    refine s_iload_n 3 dX9_lays_119 rfl rfl ?_
    refine s_iadd dX9_lays_120 ?_
    refine s_aload_n 0 dX9_lays_121 rfl rfl ?_
    refine s_getR fk_X9_38 rfl dX9_lays_122 (fun v6 => ?_)
    refine s_iconst (2 : Int32) dX9_lays_125 (by decide) ?_
    refine s_iload_n 1 dX9_lays_126 rfl rfl ?_
    refine s_imul dX9_lays_127 ?_
    refine s_iload_n 3 dX9_lays_128 rfl rfl ?_
    refine s_iadd dX9_lays_129 ?_
    refine s_iald dX9_lays_130 (fun v7 => ?_)
    refine s_sipush (1000 : Int32) dX9_lays_131 (by decide) ?_
    refine s_iload_n 2 dX9_lays_134 rfl rfl ?_
    refine s_iload_n 1 dX9_lays_135 rfl rfl ?_
    refine s_isub dX9_lays_136 ?_
    refine s_imul dX9_lays_137 ?_
    refine s_iadd dX9_lays_138 ?_
    refine s_iast dX9_lays_139 (fun S8 => ?_)
    refine s_iinc_3 (1 : Int32) dX9_lays_140 (by decide) rfl ?_
    refine s_goto 79 dX9_lays_143 (by decide) ?_
    exact s_less (hk79 x0 x1 x2 (x3 + (1 : Int32)) S8) (And.intro rfl (And.intro rfl (And.intro rfl (And.intro rfl trivial))))
set_option maxRecDepth 100000 in
theorem con_X9_lays {l : Launch} (F : Nat) (x0 : Nat) (x1 : Int32) (x2 : Int32) (S : Mem) (v : Unit) (S1 : Mem) (h : fn_X9_lays F x0 x1 x2 S = some (v, S1)) : Con l yX9_lays cX9_lays 4 none 1 24 [.ref x0, .int x1, .int x2] S (rV v) S1 := by
  refine con_of (ι := rV) RX9 false [some (.ref x0), some (.int x1), some (.int x2), none] rfl (fun h => by cases h) (by decide) (Nat.le_of_ble_eq_true rfl) ⟨rfl, rfl⟩ (fun Γ hl => ?_) h
  unfold fn_X9_lays
  refine s_aload_n 0 dX9_lays_0 rfl rfl ?_
  refine s_getR fk_X9_13 rfl dX9_lays_1 (fun v1 => ?_)
  refine s_iconst (5 : Int32) dX9_lays_4 (by decide) ?_
  refine s_iload_n 1 dX9_lays_5 rfl rfl ?_
  refine s_iload_n 2 dX9_lays_6 rfl rfl ?_
  refine s_cS4V mk_X9_274 (fun v9 S9 h9 => con_X9_moves F _ _ _ _ _ v9 S9 h9) ⟨by omega, by omega⟩ (Nat.le_of_ble_eq_true rfl) dX9_lays_7 (fun _ S3 => ?_)
  refine s_aload_n 0 dX9_lays_10 rfl rfl ?_
  refine s_getR fk_X9_16 rfl dX9_lays_11 (fun v4 => ?_)
  refine s_bipush (6 : Int32) dX9_lays_14 (by decide) ?_
  refine s_iload_n 1 dX9_lays_16 rfl rfl ?_
  refine s_iload_n 2 dX9_lays_17 rfl rfl ?_
  refine s_cS4V mk_X9_274 (fun v9 S9 h9 => con_X9_moves F _ _ _ _ _ v9 S9 h9) ⟨by omega, by omega⟩ (Nat.le_of_ble_eq_true rfl) dX9_lays_18 (fun _ S6 => ?_)
  refine s_aload_n 0 dX9_lays_21 rfl rfl ?_
  refine s_getR fk_X9_19 rfl dX9_lays_22 (fun v7 => ?_)
  refine s_bipush (6 : Int32) dX9_lays_25 (by decide) ?_
  refine s_iload_n 1 dX9_lays_27 rfl rfl ?_
  refine s_iload_n 2 dX9_lays_28 rfl rfl ?_
  refine s_cS4V mk_X9_274 (fun v9 S9 h9 => con_X9_moves F _ _ _ _ _ v9 S9 h9) ⟨by omega, by omega⟩ (Nat.le_of_ble_eq_true rfl) dX9_lays_29 (fun _ S9 => ?_)
  refine s_aload_n 0 dX9_lays_32 rfl rfl ?_
  refine s_getR fk_X9_22 rfl dX9_lays_33 (fun v10 => ?_)
  refine s_bipush (6 : Int32) dX9_lays_36 (by decide) ?_
  refine s_iload_n 1 dX9_lays_38 rfl rfl ?_
  refine s_iload_n 2 dX9_lays_39 rfl rfl ?_
  refine s_cS4V mk_X9_274 (fun v9 S9 h9 => con_X9_moves F _ _ _ _ _ v9 S9 h9) ⟨by omega, by omega⟩ (Nat.le_of_ble_eq_true rfl) dX9_lays_40 (fun _ S12 => ?_)
  refine s_aload_n 0 dX9_lays_43 rfl rfl ?_
  refine s_getR fk_X9_25 rfl dX9_lays_44 (fun v13 => ?_)
  refine s_bipush (6 : Int32) dX9_lays_47 (by decide) ?_
  refine s_iload_n 1 dX9_lays_49 rfl rfl ?_
  refine s_iload_n 2 dX9_lays_50 rfl rfl ?_
  refine s_cS4V mk_X9_274 (fun v9 S9 h9 => con_X9_moves F _ _ _ _ _ v9 S9 h9) ⟨by omega, by omega⟩ (Nat.le_of_ble_eq_true rfl) dX9_lays_51 (fun _ S15 => ?_)
  refine s_aload_n 0 dX9_lays_54 rfl rfl ?_
  refine s_getR fk_X9_28 rfl dX9_lays_55 (fun v16 => ?_)
  refine s_bipush (6 : Int32) dX9_lays_58 (by decide) ?_
  refine s_iload_n 1 dX9_lays_60 rfl rfl ?_
  refine s_iload_n 2 dX9_lays_61 rfl rfl ?_
  refine s_cS4V mk_X9_274 (fun v9 S9 h9 => con_X9_moves F _ _ _ _ _ v9 S9 h9) ⟨by omega, by omega⟩ (Nat.le_of_ble_eq_true rfl) dX9_lays_62 (fun _ S18 => ?_)
  refine s_aload_n 0 dX9_lays_65 rfl rfl ?_
  refine s_getR fk_X9_41 rfl dX9_lays_66 (fun v19 => ?_)
  refine s_sipush (1000 : Int32) dX9_lays_69 (by decide) ?_
  refine s_iload_n 1 dX9_lays_72 rfl rfl ?_
  refine s_iload_n 2 dX9_lays_73 rfl rfl ?_
  refine s_cS4V mk_X9_274 (fun v9 S9 h9 => con_X9_moves F _ _ _ _ _ v9 S9 h9) ⟨by omega, by omega⟩ (Nat.le_of_ble_eq_true rfl) dX9_lays_74 (fun _ S21 => ?_)
  refine s_iconst (0 : Int32) dX9_lays_77 (by decide) ?_
  refine s_istore_3 dX9_lays_78 rfl ?_
  exact s_less (t_X9_lays_79 F x0 x1 x2 (0 : Int32) S21) (And.intro rfl (And.intro rfl (And.intro rfl (And.intro rfl trivial))))
-- X9_copies
def b_X9_copies_3 (F : Nat) (k3 : Nat → Int32 → Nat → Int32 → Int32 → Mem → Option (Unit × Mem)) (x0 : Nat) (x1 : Int32) (x2 : Nat) (x3 : Int32) (x4 : Int32) (S : Mem) : Option (Unit × Mem) :=
  if (64 : Int32) ≤ x4 then
    some ((), S)
  else
    (gA S 10 x0 (x1 + x4)).bind fun v1 =>
    (sA S x2 (x3 + x4) v1).bind fun S2 =>
    k3 x0 x1 x2 x3 (x4 + (1 : Int32)) S2
def fn_X9_copies (F : Nat) (x0 : Nat) (x1 : Int32) (x2 : Nat) (x3 : Int32) (S : Mem) : Option (Unit × Mem) :=
  fix5 (b_X9_copies_3 F) F x0 x1 x2 x3 (0 : Int32) S
set_option maxRecDepth 100000 in
theorem t_X9_copies_3 {Γ : Cx} {F : Nat} : ∀ (f : Nat) (x0 : Nat) (x1 : Int32) (x2 : Nat) (x3 : Int32) (x4 : Int32) (S : Mem), Sim cX9_copies RX9 0 0 none false Γ rV (fix5 (b_X9_copies_3 F) f x0 x1 x2 x3 x4 S) S 3 [some (.ref x0), some (.int x1), some (.ref x2), some (.int x3), some (.int x4)] [] := by
  refine s_fix5 (fun (x0 : Nat) (x1 : Int32) (x2 : Nat) (x3 : Int32) (x4 : Int32) => [some (.ref x0), some (.int x1), some (.ref x2), some (.int x3), some (.int x4)]) (fun k3 hk3 => ?_)
  intro x0 x1 x2 x3 x4 S
  unfold b_X9_copies_3
  refine s_iload dX9_copies_3 rfl ?_
  refine s_bipush (64 : Int32) dX9_copies_5 (by decide) ?_
  refine s_icmp_ge 28 dX9_copies_7 (by decide) (fun _ => ?_) (fun _ => ?_)
  · exact s_vret dX9_copies_28
  · refine s_aload_n 2 dX9_copies_10 rfl rfl ?_
    refine s_iload_n 3 dX9_copies_11 rfl rfl ?_
    refine s_iload dX9_copies_12 rfl ?_
    refine s_iadd dX9_copies_14 ?_
    refine s_aload_n 0 dX9_copies_15 rfl rfl ?_
    refine s_iload_n 1 dX9_copies_16 rfl rfl ?_
    refine s_iload dX9_copies_17 rfl ?_
    refine s_iadd dX9_copies_19 ?_
    refine s_iald dX9_copies_20 (fun v1 => ?_)
    refine s_iast dX9_copies_21 (fun S2 => ?_)
    refine s_iinc_4 (1 : Int32) dX9_copies_22 (by decide) rfl ?_
    refine s_goto 3 dX9_copies_25 (by decide) ?_
    exact s_less (hk3 x0 x1 x2 x3 (x4 + (1 : Int32)) S2) (And.intro rfl (And.intro rfl (And.intro rfl (And.intro rfl (And.intro rfl trivial)))))
set_option maxRecDepth 100000 in
theorem con_X9_copies {l : Launch} (F : Nat) (x0 : Nat) (x1 : Int32) (x2 : Nat) (x3 : Int32) (S : Mem) (v : Unit) (S1 : Mem) (h : fn_X9_copies F x0 x1 x2 x3 S = some (v, S1)) : Con l yX9_copies cX9_copies 5 none 0 0 [.ref x0, .int x1, .ref x2, .int x3] S (rV v) S1 := by
  refine con_of (ι := rV) RX9 false [some (.ref x0), some (.int x1), some (.ref x2), some (.int x3), none] rfl (fun h => by cases h) (by decide) (Nat.le_of_ble_eq_true rfl) ⟨rfl, rfl⟩ (fun Γ hl => ?_) h
  unfold fn_X9_copies
  refine s_iconst (0 : Int32) dX9_copies_0 (by decide) ?_
  refine s_istore_4 dX9_copies_1 rfl ?_
  exact s_less (t_X9_copies_3 F x0 x1 x2 x3 (0 : Int32) S) (And.intro rfl (And.intro rfl (And.intro rfl (And.intro rfl (And.intro rfl trivial)))))
-- X9_sky
def b_X9_sky_46 (F : Nat) (k46 : Nat → Int32 → Mem → Option (Int32 × Mem)) (x0 : Nat) (x1 : Int32) (S : Mem) : Option (Int32 × Mem) :=
  (gR S 8 10 x0).bind fun v1 =>
  (gA S 10 v1 (4 : Int32)).bind fun v2 =>
  if v2 ≤ x1 then
    some ((0 : Int32), S)
  else
    (gR S 8 36 x0).bind fun v3 =>
    (gR S 8 15 x0).bind fun v4 =>
    (gA S 10 v4 x1).bind fun v5 =>
    (sA S v3 x1 v5).bind fun S6 =>
    k46 x0 (x1 + (1 : Int32)) S6
def b_X9_sky_25 (F : Nat) (k25 : Nat → Int32 → Mem → Option (Int32 × Mem)) (x0 : Nat) (x1 : Int32) (S : Mem) : Option (Int32 × Mem) :=
  if (64 : Int32) ≤ x1 then
    fix2 (b_X9_sky_46 F) F x0 (0 : Int32) S
  else
    (gR S 8 36 x0).bind fun v1 =>
    (sA S v1 x1 (0 : Int32)).bind fun S2 =>
    k25 x0 (x1 + (1 : Int32)) S2
def fn_X9_sky (F : Nat) (x0 : Nat) (S : Mem) : Option (Int32 × Mem) :=
  (sI S 8 0 x0 (0 : Int32)).bind fun S1 =>
  bd (cal S1 8 x0 (fn_X9_readsAll F x0 S1)) fun v2 S3 =>
  if v2 = 0 then
    (gI S3 8 9 x0).bind fun v6 =>
    some (v6, S3)
  else
    bd (cal S3 8 x0 (fn_X9_lays F x0 (1 : Int32) (0 : Int32) S3)) fun _ S5 =>
    fix2 (b_X9_sky_25 F) F x0 (0 : Int32) S5
set_option maxRecDepth 100000 in
theorem t_X9_sky_46 {Γ : Cx} {F : Nat} : ∀ (f : Nat) (x0 : Nat) (x1 : Int32) (S : Mem), Sim cX9_sky RX9 5 109 (some .int) false Γ rI (fix2 (b_X9_sky_46 F) f x0 x1 S) S 46 [some (.ref x0), some (.int x1)] [] := by
  refine s_fix2 (fun (x0 : Nat) (x1 : Int32) => [some (.ref x0), some (.int x1)]) (fun k46 hk46 => ?_)
  intro x0 x1 S
  unfold b_X9_sky_46
  refine s_iload_n 1 dX9_sky_46 rfl rfl ?_
  refine s_aload_n 0 dX9_sky_47 rfl rfl ?_
  refine s_getR fk_X9_13 rfl dX9_sky_48 (fun v1 => ?_)
  refine s_iconst (4 : Int32) dX9_sky_51 (by decide) ?_
  refine s_iald dX9_sky_52 (fun v2 => ?_)
  refine s_icmp_ge 74 dX9_sky_53 (by decide) (fun _ => ?_) (fun _ => ?_)
  · refine s_iconst (0 : Int32) dX9_sky_74 (by decide) ?_
    exact s_iret dX9_sky_75
  · refine s_aload_n 0 dX9_sky_56 rfl rfl ?_
    refine s_getR fk_X9_81 rfl dX9_sky_57 (fun v3 => ?_)
    refine s_iload_n 1 dX9_sky_60 rfl rfl ?_
    refine s_aload_n 0 dX9_sky_61 rfl rfl ?_
    refine s_getR fk_X9_28 rfl dX9_sky_62 (fun v4 => ?_)
    refine s_iload_n 1 dX9_sky_65 rfl rfl ?_
    refine s_iald dX9_sky_66 (fun v5 => ?_)
    refine s_iast dX9_sky_67 (fun S6 => ?_)
    refine s_iinc_1 (1 : Int32) dX9_sky_68 (by decide) rfl ?_
    refine s_goto 46 dX9_sky_71 (by decide) ?_
    exact s_less (hk46 x0 (x1 + (1 : Int32)) S6) (And.intro rfl (And.intro rfl trivial))
set_option maxRecDepth 100000 in
theorem t_X9_sky_25 {Γ : Cx} {F : Nat} : ∀ (f : Nat) (x0 : Nat) (x1 : Int32) (S : Mem), Sim cX9_sky RX9 5 109 (some .int) false Γ rI (fix2 (b_X9_sky_25 F) f x0 x1 S) S 25 [some (.ref x0), some (.int x1)] [] := by
  refine s_fix2 (fun (x0 : Nat) (x1 : Int32) => [some (.ref x0), some (.int x1)]) (fun k25 hk25 => ?_)
  intro x0 x1 S
  unfold b_X9_sky_25
  refine s_iload_n 1 dX9_sky_25 rfl rfl ?_
  refine s_bipush (64 : Int32) dX9_sky_26 (by decide) ?_
  refine s_icmp_ge 44 dX9_sky_28 (by decide) (fun _ => ?_) (fun _ => ?_)
  · refine s_iconst (0 : Int32) dX9_sky_44 (by decide) ?_
    refine s_istore_1 dX9_sky_45 rfl ?_
    exact s_less (t_X9_sky_46 F x0 (0 : Int32) S) (And.intro rfl (And.intro rfl trivial))
  · refine s_aload_n 0 dX9_sky_31 rfl rfl ?_
    refine s_getR fk_X9_81 rfl dX9_sky_32 (fun v1 => ?_)
    refine s_iload_n 1 dX9_sky_35 rfl rfl ?_
    refine s_iconst (0 : Int32) dX9_sky_36 (by decide) ?_
    refine s_iast dX9_sky_37 (fun S2 => ?_)
    refine s_iinc_1 (1 : Int32) dX9_sky_38 (by decide) rfl ?_
    refine s_goto 25 dX9_sky_41 (by decide) ?_
    exact s_less (hk25 x0 (x1 + (1 : Int32)) S2) (And.intro rfl (And.intro rfl trivial))
set_option maxRecDepth 100000 in
theorem con_X9_sky {l : Launch} (F : Nat) (x0 : Nat) (S : Mem) (v : Int32) (S1 : Mem) (h : fn_X9_sky F x0 S = some (v, S1)) : Con l yX9_sky cX9_sky 2 (some .int) 5 109 [.ref x0] S (rI v) S1 := by
  refine con_of (ι := rI) RX9 false [some (.ref x0), none] rfl (fun h => by cases h) (by decide) (Nat.le_of_ble_eq_true rfl) ⟨rfl, rfl⟩ (fun Γ hl => ?_) h
  unfold fn_X9_sky
  refine s_aload_n 0 dX9_sky_0 rfl rfl ?_
  refine s_iconst (0 : Int32) dX9_sky_1 (by decide) ?_
  refine s_putI fk_X9_109 (Or.inl rfl) rfl dX9_sky_2 (fun S1 => ?_)
  refine s_aload_n 0 dX9_sky_5 rfl rfl ?_
  refine s_cV0I mk_X9_278 (by decide) rfl (fun v9 S9 h9 => con_X9_readsAll F _ _ v9 S9 h9) ⟨by omega, by omega⟩ (Nat.le_of_ble_eq_true rfl) dX9_sky_6 (fun v2 S3 => ?_)
  refine s_if_ne 17 dX9_sky_9 (by decide) (fun _ => ?_) (fun _ => ?_)
  · refine s_aload_n 0 dX9_sky_17 rfl rfl ?_
    refine s_iconst (1 : Int32) dX9_sky_18 (by decide) ?_
    refine s_iconst (0 : Int32) dX9_sky_19 (by decide) ?_
    refine s_cV2V mk_X9_281 (by decide) rfl (fun v9 S9 h9 => con_X9_lays F _ _ _ _ v9 S9 h9) ⟨by omega, by omega⟩ (Nat.le_of_ble_eq_true rfl) dX9_sky_20 (fun _ S5 => ?_)
    refine s_iconst (0 : Int32) dX9_sky_23 (by decide) ?_
    refine s_istore_1 dX9_sky_24 rfl ?_
    exact s_less (t_X9_sky_25 F x0 (0 : Int32) S5) (And.intro rfl (And.intro rfl trivial))
  · refine s_aload_n 0 dX9_sky_12 rfl rfl ?_
    refine s_getI fk_X9_145 rfl dX9_sky_13 (fun v6 => ?_)
    exact s_iret dX9_sky_16
-- X9_isKite
def f_X9_isKite_19 (F : Nat) (y0 : Int32) (S : Mem) : Option (Int32 × Mem) :=
  rz y0 S
def f_X9_isKite_18 (F : Nat)  (S : Mem) : Option (Int32 × Mem) :=
  f_X9_isKite_19 F  (0 : Int32) S
def fn_X9_isKite (F : Nat) (x0 : Nat) (x1 : Int32) (S : Mem) : Option (Int32 × Mem) :=
  if x1 < 0 then
    f_X9_isKite_18 F   S
  else
    (gR S 8 10 x0).bind fun v1 =>
    (gA S 10 v1 (4 : Int32)).bind fun v2 =>
    if v2 ≤ x1 then
      f_X9_isKite_18 F   S
    else
      f_X9_isKite_19 F  (1 : Int32) S
set_option maxRecDepth 100000 in
theorem t_X9_isKite_19 {Γ : Cx} {F : Nat} : ∀ (y0 : Int32) (S : Mem), Sim cX9_isKite RX9 0 0 (some .boolean) false Γ rI (f_X9_isKite_19 F y0 S) S 19 [none, none] [.int y0] := by
  intro y0 S
  unfold f_X9_isKite_19
  exact s_zret dX9_isKite_19
set_option maxRecDepth 100000 in
theorem t_X9_isKite_18 {Γ : Cx} {F : Nat} : ∀ (S : Mem), Sim cX9_isKite RX9 0 0 (some .boolean) false Γ rI (f_X9_isKite_18 F  S) S 18 [none, none] [] := by
  intro  S
  unfold f_X9_isKite_18
  refine s_iconst (0 : Int32) dX9_isKite_18 (by decide) ?_
  exact s_less (t_X9_isKite_19  (0 : Int32) S) trivial
set_option maxRecDepth 100000 in
theorem con_X9_isKite {l : Launch} (F : Nat) (x0 : Nat) (x1 : Int32) (S : Mem) (v : Int32) (S1 : Mem) (h : fn_X9_isKite F x0 x1 S = some (v, S1)) : Con l yX9_isKite cX9_isKite 2 (some .boolean) 0 0 [.ref x0, .int x1] S (rI v) S1 := by
  refine con_of (ι := rI) RX9 false [some (.ref x0), some (.int x1)] rfl (fun h => by cases h) (by decide) (Nat.le_of_ble_eq_true rfl) ⟨rfl, rfl⟩ (fun Γ hl => ?_) h
  unfold fn_X9_isKite
  refine s_iload_n 1 dX9_isKite_0 rfl rfl ?_
  refine s_if_lt 18 dX9_isKite_1 (by decide) (fun _ => ?_) (fun _ => ?_)
  · exact s_less (t_X9_isKite_18   S) trivial
  · refine s_iload_n 1 dX9_isKite_4 rfl rfl ?_
    refine s_aload_n 0 dX9_isKite_5 rfl rfl ?_
    refine s_getR fk_X9_13 rfl dX9_isKite_6 (fun v1 => ?_)
    refine s_iconst (4 : Int32) dX9_isKite_9 (by decide) ?_
    refine s_iald dX9_isKite_10 (fun v2 => ?_)
    refine s_icmp_ge 18 dX9_isKite_11 (by decide) (fun _ => ?_) (fun _ => ?_)
    · exact s_less (t_X9_isKite_18   S) trivial
    · refine s_iconst (1 : Int32) dX9_isKite_14 (by decide) ?_
      refine s_goto 19 dX9_isKite_15 (by decide) ?_
      exact s_less (t_X9_isKite_19  (1 : Int32) S) trivial
-- X9_isLost
def f_X9_isLost_20 (F : Nat) (y0 : Int32) (S : Mem) : Option (Int32 × Mem) :=
  rz y0 S
def fn_X9_isLost (F : Nat) (x0 : Nat) (x1 : Int32) (S : Mem) : Option (Int32 × Mem) :=
  (gR S 8 36 x0).bind fun v1 =>
  (gA S 10 v1 (18 : Int32)).bind fun v2 =>
  if ((v2 >>> (x1 &&& 31)) &&& (1 : Int32)) = (1 : Int32) then
    f_X9_isLost_20 F  (1 : Int32) S
  else
    f_X9_isLost_20 F  (0 : Int32) S
set_option maxRecDepth 100000 in
theorem t_X9_isLost_20 {Γ : Cx} {F : Nat} : ∀ (y0 : Int32) (S : Mem), Sim cX9_isLost RX9 0 0 (some .boolean) false Γ rI (f_X9_isLost_20 F y0 S) S 20 [none, none] [.int y0] := by
  intro y0 S
  unfold f_X9_isLost_20
  exact s_zret dX9_isLost_20
set_option maxRecDepth 100000 in
theorem con_X9_isLost {l : Launch} (F : Nat) (x0 : Nat) (x1 : Int32) (S : Mem) (v : Int32) (S1 : Mem) (h : fn_X9_isLost F x0 x1 S = some (v, S1)) : Con l yX9_isLost cX9_isLost 2 (some .boolean) 0 0 [.ref x0, .int x1] S (rI v) S1 := by
  refine con_of (ι := rI) RX9 false [some (.ref x0), some (.int x1)] rfl (fun h => by cases h) (by decide) (Nat.le_of_ble_eq_true rfl) ⟨rfl, rfl⟩ (fun Γ hl => ?_) h
  unfold fn_X9_isLost
  refine s_aload_n 0 dX9_isLost_0 rfl rfl ?_
  refine s_getR fk_X9_81 rfl dX9_isLost_1 (fun v1 => ?_)
  refine s_bipush (18 : Int32) dX9_isLost_4 (by decide) ?_
  refine s_iald dX9_isLost_6 (fun v2 => ?_)
  refine s_iload_n 1 dX9_isLost_7 rfl rfl ?_
  refine s_ishr dX9_isLost_8 ?_
  refine s_iconst (1 : Int32) dX9_isLost_9 (by decide) ?_
  refine s_iand dX9_isLost_10 ?_
  refine s_iconst (1 : Int32) dX9_isLost_11 (by decide) ?_
  refine s_icmp_ne 19 dX9_isLost_12 (by decide) (fun _ => ?_) (fun _ => ?_)
  · refine s_iconst (0 : Int32) dX9_isLost_19 (by decide) ?_
    exact s_less (t_X9_isLost_20  (0 : Int32) S) trivial
  · refine s_iconst (1 : Int32) dX9_isLost_15 (by decide) ?_
    refine s_goto 20 dX9_isLost_16 (by decide) ?_
    exact s_less (t_X9_isLost_20  (1 : Int32) S) trivial
-- X9_isHigh
def f_X9_isHigh_15 (F : Nat) (y0 : Int32) (S : Mem) : Option (Int32 × Mem) :=
  rz y0 S
def f_X9_isHigh_14 (F : Nat)  (S : Mem) : Option (Int32 × Mem) :=
  f_X9_isHigh_15 F  (0 : Int32) S
def fn_X9_isHigh (F : Nat) (x0 : Int32) (S : Mem) : Option (Int32 × Mem) :=
  if x0 < 0 then
    f_X9_isHigh_14 F   S
  else
    if (40 : Int32) < x0 then
      f_X9_isHigh_14 F   S
    else
      f_X9_isHigh_15 F  (1 : Int32) S
set_option maxRecDepth 100000 in
theorem t_X9_isHigh_15 {Γ : Cx} {F : Nat} : ∀ (y0 : Int32) (S : Mem), Sim cX9_isHigh RX9 0 0 (some .boolean) false Γ rI (f_X9_isHigh_15 F y0 S) S 15 [none] [.int y0] := by
  intro y0 S
  unfold f_X9_isHigh_15
  exact s_zret dX9_isHigh_15
set_option maxRecDepth 100000 in
theorem t_X9_isHigh_14 {Γ : Cx} {F : Nat} : ∀ (S : Mem), Sim cX9_isHigh RX9 0 0 (some .boolean) false Γ rI (f_X9_isHigh_14 F  S) S 14 [none] [] := by
  intro  S
  unfold f_X9_isHigh_14
  refine s_iconst (0 : Int32) dX9_isHigh_14 (by decide) ?_
  exact s_less (t_X9_isHigh_15  (0 : Int32) S) trivial
set_option maxRecDepth 100000 in
theorem con_X9_isHigh {l : Launch} (F : Nat) (x0 : Int32) (S : Mem) (v : Int32) (S1 : Mem) (h : fn_X9_isHigh F x0 S = some (v, S1)) : Con l yX9_isHigh cX9_isHigh 1 (some .boolean) 0 0 [.int x0] S (rI v) S1 := by
  refine con_of (ι := rI) RX9 false [some (.int x0)] rfl (fun h => by cases h) (by decide) (Nat.le_of_ble_eq_true rfl) ⟨rfl, rfl⟩ (fun Γ hl => ?_) h
  unfold fn_X9_isHigh
  refine s_iload_n 0 dX9_isHigh_0 rfl rfl ?_
  refine s_if_lt 14 dX9_isHigh_1 (by decide) (fun _ => ?_) (fun _ => ?_)
  · exact s_less (t_X9_isHigh_14   S) trivial
  · refine s_iload_n 0 dX9_isHigh_4 rfl rfl ?_
    refine s_bipush (40 : Int32) dX9_isHigh_5 (by decide) ?_
    refine s_icmp_gt 14 dX9_isHigh_7 (by decide) (fun _ => ?_) (fun _ => ?_)
    · exact s_less (t_X9_isHigh_14   S) trivial
    · refine s_iconst (1 : Int32) dX9_isHigh_10 (by decide) ?_
      refine s_goto 15 dX9_isHigh_11 (by decide) ?_
      exact s_less (t_X9_isHigh_15  (1 : Int32) S) trivial
-- X9_blows
def f_X9_blows_65 (F : Nat) (k2 : Nat → Int32 → Int32 → Int32 → Mem → Option (Unit × Mem)) (x0 : Nat) (x1 : Int32) (x2 : Int32) (x3 : Int32) (y0 : Nat) (y1 : Int32) (y2 : Int32) (S : Mem) : Option (Unit × Mem) :=
  (sA S y0 y1 y2).bind fun S1 =>
  k2 x0 x1 x2 (x3 + (1 : Int32)) S1
def b_X9_blows_2 (F : Nat) (k2 : Nat → Int32 → Int32 → Int32 → Mem → Option (Unit × Mem)) (x0 : Nat) (x1 : Int32) (x2 : Int32) (x3 : Int32) (S : Mem) : Option (Unit × Mem) :=
  if (41 : Int32) ≤ x3 then
    some ((), S)
  else
    (gR S 8 34 x0).bind fun v1 =>
    (sA S v1 (1 : Int32) x3).bind fun S2 =>
    (gR S2 8 34 x0).bind fun v3 =>
    (sA S2 v3 (2 : Int32) x1).bind fun S4 =>
    (gR S4 8 34 x0).bind fun v5 =>
    (sA S4 v5 (3 : Int32) x2).bind fun S6 =>
    (gR S6 8 39 x0).bind fun v7 =>
    (gR S6 8 18 x0).bind fun v8 =>
    (gA S6 10 v8 (0 : Int32)).bind fun v9 =>
    (gR S6 8 17 x0).bind fun v10 =>
    (gA S6 10 v10 (0 : Int32)).bind fun v11 =>
    if v9 = v11 then
      f_X9_blows_65 F k2 x0 x1 x2 x3 v7 x3 (20 : Int32) S6
    else
      bd (cal S6 8 x0 (fn_X9_worked F x0 (0 : Int32) S6)) fun v12 S13 =>
      bd ((fn_X9_between F v12 (0 : Int32) (99 : Int32) S13)) fun v14 S15 =>
      f_X9_blows_65 F k2 x0 x1 x2 x3 v7 x3 v14 S15
def fn_X9_blows (F : Nat) (x0 : Nat) (x1 : Int32) (x2 : Int32) (S : Mem) : Option (Unit × Mem) :=
  fix4 (b_X9_blows_2 F) F x0 x1 x2 (0 : Int32) S
set_option maxRecDepth 100000 in
theorem t_X9_blows_65 {Γ : Cx} {F : Nat} {k2 : Nat → Int32 → Int32 → Int32 → Mem → Option (Unit × Mem)} (hk2 : ∀ (x0 : Nat) (x1 : Int32) (x2 : Int32) (x3 : Int32) (S : Mem), Sim cX9_blows RX9 3 68 none false Γ rV (k2 x0 x1 x2 x3 S) S 2 [some (.ref x0), some (.int x1), some (.int x2), some (.int x3)] []) : ∀ (x0 : Nat) (x1 : Int32) (x2 : Int32) (x3 : Int32) (y0 : Nat) (y1 : Int32) (y2 : Int32) (S : Mem), Sim cX9_blows RX9 3 68 none false Γ rV (f_X9_blows_65 F k2 x0 x1 x2 x3 y0 y1 y2 S) S 65 [some (.ref x0), some (.int x1), some (.int x2), some (.int x3)] [.int y2, .int y1, .ref y0] := by
  intro x0 x1 x2 x3 y0 y1 y2 S
  unfold f_X9_blows_65
  refine s_iast dX9_blows_65 (fun S1 => ?_)
  refine s_iinc_3 (1 : Int32) dX9_blows_66 (by decide) rfl ?_
  refine s_goto 2 dX9_blows_69 (by decide) ?_
  exact s_less (hk2 x0 x1 x2 (x3 + (1 : Int32)) S1) (And.intro rfl (And.intro rfl (And.intro rfl (And.intro rfl trivial))))
set_option maxRecDepth 100000 in
theorem t_X9_blows_2 {Γ : Cx} {F : Nat} : ∀ (f : Nat) (x0 : Nat) (x1 : Int32) (x2 : Int32) (x3 : Int32) (S : Mem), Sim cX9_blows RX9 3 68 none false Γ rV (fix4 (b_X9_blows_2 F) f x0 x1 x2 x3 S) S 2 [some (.ref x0), some (.int x1), some (.int x2), some (.int x3)] [] := by
  refine s_fix4 (fun (x0 : Nat) (x1 : Int32) (x2 : Int32) (x3 : Int32) => [some (.ref x0), some (.int x1), some (.int x2), some (.int x3)]) (fun k2 hk2 => ?_)
  intro x0 x1 x2 x3 S
  unfold b_X9_blows_2
  refine s_iload_n 3 dX9_blows_2 rfl rfl ?_
  refine s_bipush (41 : Int32) dX9_blows_3 (by decide) ?_
  refine s_icmp_ge 72 dX9_blows_5 (by decide) (fun _ => ?_) (fun _ => ?_)
  · exact s_vret dX9_blows_72
  · refine s_aload_n 0 dX9_blows_8 rfl rfl ?_
    refine s_getR fk_X9_78 rfl dX9_blows_9 (fun v1 => ?_)
    refine s_iconst (1 : Int32) dX9_blows_12 (by decide) ?_
    refine s_iload_n 3 dX9_blows_13 rfl rfl ?_
    refine s_iast dX9_blows_14 (fun S2 => ?_)
    refine s_aload_n 0 dX9_blows_15 rfl rfl ?_
    refine s_getR fk_X9_78 rfl dX9_blows_16 (fun v3 => ?_)
    refine s_iconst (2 : Int32) dX9_blows_19 (by decide) ?_
    refine s_iload_n 1 dX9_blows_20 rfl rfl ?_
    refine s_iast dX9_blows_21 (fun S4 => ?_)
    refine s_aload_n 0 dX9_blows_22 rfl rfl ?_
    refine s_getR fk_X9_78 rfl dX9_blows_23 (fun v5 => ?_)
    refine s_iconst (3 : Int32) dX9_blows_26 (by decide) ?_
    refine s_iload_n 2 dX9_blows_27 rfl rfl ?_
    refine s_iast dX9_blows_28 (fun S6 => ?_)
    refine s_aload_n 0 dX9_blows_29 rfl rfl ?_
    refine s_getR fk_X9_90 rfl dX9_blows_30 (fun v7 => ?_)
    refine s_iload_n 3 dX9_blows_33 rfl rfl ?_
    refine s_aload_n 0 dX9_blows_34 rfl rfl ?_
    refine s_getR fk_X9_38 rfl dX9_blows_35 (fun v8 => ?_)
    refine s_iconst (0 : Int32) dX9_blows_38 (by decide) ?_
    refine s_iald dX9_blows_39 (fun v9 => ?_)
    refine s_aload_n 0 dX9_blows_40 rfl rfl ?_
    refine s_getR fk_X9_35 rfl dX9_blows_41 (fun v10 => ?_)
    refine s_iconst (0 : Int32) dX9_blows_44 (by decide) ?_
    refine s_iald dX9_blows_45 (fun v11 => ?_)
    refine s_icmp_ne 54 dX9_blows_46 (by decide) (fun _ => ?_) (fun _ => ?_)
    · refine s_aload_n 0 dX9_blows_54 rfl rfl ?_
      refine s_iconst (0 : Int32) dX9_blows_55 (by decide) ?_
      refine s_cV1I mk_X9_285 (by decide) rfl (fun v9 S9 h9 => con_X9_worked F _ _ _ v9 S9 h9) ⟨by omega, by omega⟩ (Nat.le_of_ble_eq_true rfl) dX9_blows_56 (fun v12 S13 => ?_)
      refine s_iconst (0 : Int32) dX9_blows_59 (by decide) ?_
      refine s_bipush (99 : Int32) dX9_blows_60 (by decide) ?_
      refine s_cS3I mk_X9_288 (fun v9 S9 h9 => con_X9_between F _ _ _ _ v9 S9 h9) ⟨by omega, by omega⟩ (Nat.le_of_ble_eq_true rfl) dX9_blows_62 (fun v14 S15 => ?_)
      exact s_less (t_X9_blows_65 hk2 x0 x1 x2 x3 v7 x3 v14 S15) (And.intro rfl (And.intro rfl (And.intro rfl (And.intro rfl trivial))))
    · refine s_bipush (20 : Int32) dX9_blows_49 (by decide) ?_
      refine s_goto 65 dX9_blows_51 (by decide) ?_
      exact s_less (t_X9_blows_65 hk2 x0 x1 x2 x3 v7 x3 (20 : Int32) S6) (And.intro rfl (And.intro rfl (And.intro rfl (And.intro rfl trivial))))
set_option maxRecDepth 100000 in
theorem con_X9_blows {l : Launch} (F : Nat) (x0 : Nat) (x1 : Int32) (x2 : Int32) (S : Mem) (v : Unit) (S1 : Mem) (h : fn_X9_blows F x0 x1 x2 S = some (v, S1)) : Con l yX9_blows cX9_blows 4 none 3 68 [.ref x0, .int x1, .int x2] S (rV v) S1 := by
  refine con_of (ι := rV) RX9 false [some (.ref x0), some (.int x1), some (.int x2), none] rfl (fun h => by cases h) (by decide) (Nat.le_of_ble_eq_true rfl) ⟨rfl, rfl⟩ (fun Γ hl => ?_) h
  unfold fn_X9_blows
  refine s_iconst (0 : Int32) dX9_blows_0 (by decide) ?_
  refine s_istore_3 dX9_blows_1 rfl ?_
  exact s_less (t_X9_blows_2 F x0 x1 x2 (0 : Int32) S) (And.intro rfl (And.intro rfl (And.intro rfl (And.intro rfl trivial))))
-- X9_flies
def f_X9_flies_65 (F : Nat) (y0 : Int32) (S : Mem) : Option (Int32 × Mem) :=
  rz y0 S
def f_X9_flies_64 (F : Nat)  (S : Mem) : Option (Int32 × Mem) :=
  f_X9_flies_65 F  (0 : Int32) S
def f_X9_flies_27 (F : Nat) (x0 : Nat) (x1 : Int32) (y0 : Int32) (S : Mem) : Option (Int32 × Mem) :=
  bd (cal S 8 x0 (fn_X9_isLost F x0 x1 S)) fun v1 S2 =>
  if v1 = 0 then
    (gR S2 8 36 x0).bind fun v3 =>
    (gA S2 10 v3 x1).bind fun v4 =>
    if v4 ≤ 0 then
      f_X9_flies_64 F   S2
    else
      (gR S2 8 39 x0).bind fun v5 =>
      (gR S2 8 36 x0).bind fun v6 =>
      (gA S2 10 v6 x1).bind fun v7 =>
      (gA S2 10 v5 v7).bind fun v8 =>
      if v8 < y0 then
        f_X9_flies_64 F   S2
      else
        f_X9_flies_65 F  (1 : Int32) S2
  else
    f_X9_flies_64 F   S2
def fn_X9_flies (F : Nat) (x0 : Nat) (x1 : Int32) (S : Mem) : Option (Int32 × Mem) :=
  (gR S 8 11 x0).bind fun v1 =>
  (gA S 10 v1 x1).bind fun v2 =>
  if v2 = (2 : Int32) then
    (gR S 8 14 x0).bind fun v5 =>
    (gA S 10 v5 x1).bind fun v6 =>
    f_X9_flies_27 F x0 x1 (v6 / (2 : Int32)) S
  else
    (gR S 8 14 x0).bind fun v3 =>
    (gA S 10 v3 x1).bind fun v4 =>
    f_X9_flies_27 F x0 x1 v4 S
set_option maxRecDepth 100000 in
theorem t_X9_flies_65 {Γ : Cx} {F : Nat} : ∀ (y0 : Int32) (S : Mem), Sim cX9_flies RX9 1 21 (some .boolean) false Γ rI (f_X9_flies_65 F y0 S) S 65 [none, none, none] [.int y0] := by
  intro y0 S
  unfold f_X9_flies_65
  exact s_zret dX9_flies_65
set_option maxRecDepth 100000 in
theorem t_X9_flies_64 {Γ : Cx} {F : Nat} : ∀ (S : Mem), Sim cX9_flies RX9 1 21 (some .boolean) false Γ rI (f_X9_flies_64 F  S) S 64 [none, none, none] [] := by
  intro  S
  unfold f_X9_flies_64
  refine s_iconst (0 : Int32) dX9_flies_64 (by decide) ?_
  exact s_less (t_X9_flies_65  (0 : Int32) S) trivial
set_option maxRecDepth 100000 in
theorem t_X9_flies_27 {Γ : Cx} {F : Nat} : ∀ (x0 : Nat) (x1 : Int32) (y0 : Int32) (S : Mem), Sim cX9_flies RX9 1 21 (some .boolean) false Γ rI (f_X9_flies_27 F x0 x1 y0 S) S 27 [some (.ref x0), some (.int x1), none] [.int y0] := by
  intro x0 x1 y0 S
  unfold f_X9_flies_27
  refine s_istore_2 dX9_flies_27 rfl ?_
  refine s_aload_n 0 dX9_flies_28 rfl rfl ?_
  refine s_iload_n 1 dX9_flies_29 rfl rfl ?_
  refine s_cV1I mk_X9_292 (by decide) rfl (fun v9 S9 h9 => con_X9_isLost F _ _ _ v9 S9 h9) ⟨by omega, by omega⟩ (Nat.le_of_ble_eq_true rfl) dX9_flies_30 (fun v1 S2 => ?_)
  refine s_if_ne 64 dX9_flies_33 (by decide) (fun _ => ?_) (fun _ => ?_)
  · exact s_less (t_X9_flies_64   S2) trivial
  · refine s_aload_n 0 dX9_flies_36 rfl rfl ?_
    refine s_getR fk_X9_81 rfl dX9_flies_37 (fun v3 => ?_)
    refine s_iload_n 1 dX9_flies_40 rfl rfl ?_
    refine s_iald dX9_flies_41 (fun v4 => ?_)
    refine s_if_le 64 dX9_flies_42 (by decide) (fun _ => ?_) (fun _ => ?_)
    · exact s_less (t_X9_flies_64   S2) trivial
    · refine s_aload_n 0 dX9_flies_45 rfl rfl ?_
      refine s_getR fk_X9_90 rfl dX9_flies_46 (fun v5 => ?_)
      refine s_aload_n 0 dX9_flies_49 rfl rfl ?_
      refine s_getR fk_X9_81 rfl dX9_flies_50 (fun v6 => ?_)
      refine s_iload_n 1 dX9_flies_53 rfl rfl ?_
      refine s_iald dX9_flies_54 (fun v7 => ?_)
      refine s_iald dX9_flies_55 (fun v8 => ?_)
      refine s_iload_n 2 dX9_flies_56 rfl rfl ?_
      refine s_icmp_lt 64 dX9_flies_57 (by decide) (fun _ => ?_) (fun _ => ?_)
      · exact s_less (t_X9_flies_64   S2) trivial
      · refine s_iconst (1 : Int32) dX9_flies_60 (by decide) ?_
        refine s_goto 65 dX9_flies_61 (by decide) ?_
        exact s_less (t_X9_flies_65  (1 : Int32) S2) trivial
set_option maxRecDepth 100000 in
theorem con_X9_flies {l : Launch} (F : Nat) (x0 : Nat) (x1 : Int32) (S : Mem) (v : Int32) (S1 : Mem) (h : fn_X9_flies F x0 x1 S = some (v, S1)) : Con l yX9_flies cX9_flies 3 (some .boolean) 1 21 [.ref x0, .int x1] S (rI v) S1 := by
  refine con_of (ι := rI) RX9 false [some (.ref x0), some (.int x1), none] rfl (fun h => by cases h) (by decide) (Nat.le_of_ble_eq_true rfl) ⟨rfl, rfl⟩ (fun Γ hl => ?_) h
  unfold fn_X9_flies
  refine s_aload_n 0 dX9_flies_0 rfl rfl ?_
  refine s_getR fk_X9_16 rfl dX9_flies_1 (fun v1 => ?_)
  refine s_iload_n 1 dX9_flies_4 rfl rfl ?_
  refine s_iald dX9_flies_5 (fun v2 => ?_)
  refine s_iconst (2 : Int32) dX9_flies_6 (by decide) ?_
  refine s_icmp_ne 21 dX9_flies_7 (by decide) (fun _ => ?_) (fun _ => ?_)
  · refine s_aload_n 0 dX9_flies_21 rfl rfl ?_
    refine s_getR fk_X9_25 rfl dX9_flies_22 (fun v3 => ?_)
    refine s_iload_n 1 dX9_flies_25 rfl rfl ?_
    refine s_iald dX9_flies_26 (fun v4 => ?_)
    exact s_less (t_X9_flies_27 x0 x1 v4 S) (And.intro rfl (And.intro rfl trivial))
  · refine s_aload_n 0 dX9_flies_10 rfl rfl ?_
    refine s_getR fk_X9_25 rfl dX9_flies_11 (fun v5 => ?_)
    refine s_iload_n 1 dX9_flies_14 rfl rfl ?_
    refine s_iald dX9_flies_15 (fun v6 => ?_)
    refine s_iconst (2 : Int32) dX9_flies_16 (by decide) ?_
    refine s_idivc dX9_flies_17 (by decide) ?_
    refine s_goto 27 dX9_flies_18 (by decide) ?_
    exact s_less (t_X9_flies_27 x0 x1 (v6 / (2 : Int32)) S) (And.intro rfl (And.intro rfl trivial))
-- X9_pullOf
def f_X9_pullOf_77 (F : Nat) (y0 : Int32) (S : Mem) : Option (Int32 × Mem) :=
  some (y0, S)
def f_X9_pullOf_56 (F : Nat) (x0 : Nat) (x1 : Int32) (x3 : Int32) (S : Mem) : Option (Int32 × Mem) :=
  (gR S 8 11 x0).bind fun v1 =>
  (gA S 10 v1 x1).bind fun v2 =>
  if v2 = (3 : Int32) then
    f_X9_pullOf_77 F  (mxI (0 : Int32) (x3 - (3 : Int32))) S
  else
    f_X9_pullOf_77 F  x3 S
def fn_X9_pullOf (F : Nat) (x0 : Nat) (x1 : Int32) (S : Mem) : Option (Int32 × Mem) :=
  bd (cal S 8 x0 (fn_X9_flies F x0 x1 S)) fun v1 S2 =>
  if v1 = 0 then
    some ((0 : Int32), S2)
  else
    (gR S2 8 39 x0).bind fun v3 =>
    (gR S2 8 36 x0).bind fun v4 =>
    (gA S2 10 v4 x1).bind fun v5 =>
    (gA S2 10 v3 v5).bind fun v6 =>
    (gR S2 8 13 x0).bind fun v7 =>
    (gA S2 10 v7 x1).bind fun v8 =>
    lt (((v8 * v6) / (10 : Int32))) fun v9 =>
    (gR S2 8 11 x0).bind fun v10 =>
    (gA S2 10 v10 x1).bind fun v11 =>
    if v11 = (1 : Int32) then
      if v6 < (40 : Int32) then
        f_X9_pullOf_56 F x0 x1 v9  S2
      else
        f_X9_pullOf_77 F  ((2 : Int32) * v9) S2
    else
      f_X9_pullOf_56 F x0 x1 v9  S2
set_option maxRecDepth 100000 in
theorem t_X9_pullOf_77 {Γ : Cx} {F : Nat} : ∀ (y0 : Int32) (S : Mem), Sim cX9_pullOf RX9 2 43 (some .int) false Γ rI (f_X9_pullOf_77 F y0 S) S 77 [none, none, none, none] [.int y0] := by
  intro y0 S
  unfold f_X9_pullOf_77
  exact s_iret dX9_pullOf_77
set_option maxRecDepth 100000 in
theorem t_X9_pullOf_56 {Γ : Cx} {F : Nat} : ∀ (x0 : Nat) (x1 : Int32) (x3 : Int32) (S : Mem), Sim cX9_pullOf RX9 2 43 (some .int) false Γ rI (f_X9_pullOf_56 F x0 x1 x3 S) S 56 [some (.ref x0), some (.int x1), none, some (.int x3)] [] := by
  intro x0 x1 x3 S
  unfold f_X9_pullOf_56
  refine s_aload_n 0 dX9_pullOf_56 rfl rfl ?_
  refine s_getR fk_X9_16 rfl dX9_pullOf_57 (fun v1 => ?_)
  refine s_iload_n 1 dX9_pullOf_60 rfl rfl ?_
  refine s_iald dX9_pullOf_61 (fun v2 => ?_)
  refine s_iconst (3 : Int32) dX9_pullOf_62 (by decide) ?_
  refine s_icmp_ne 76 dX9_pullOf_63 (by decide) (fun _ => ?_) (fun _ => ?_)
  · refine s_iload_n 3 dX9_pullOf_76 rfl rfl ?_
    exact s_less (t_X9_pullOf_77  x3 S) trivial
  · refine s_iconst (0 : Int32) dX9_pullOf_66 (by decide) ?_
    refine s_iload_n 3 dX9_pullOf_67 rfl rfl ?_
    refine s_iconst (3 : Int32) dX9_pullOf_68 (by decide) ?_
    refine s_isub dX9_pullOf_69 ?_
    refine s_mmax mm_X9_298 mm_max_s mm_i mm_max_c ⟨by omega, by simp [Value.category] <;> omega⟩ dX9_pullOf_70 ?_
    refine s_goto 77 dX9_pullOf_73 (by decide) ?_
    exact s_less (t_X9_pullOf_77  (mxI (0 : Int32) (x3 - (3 : Int32))) S) trivial
set_option maxRecDepth 100000 in
theorem con_X9_pullOf {l : Launch} (F : Nat) (x0 : Nat) (x1 : Int32) (S : Mem) (v : Int32) (S1 : Mem) (h : fn_X9_pullOf F x0 x1 S = some (v, S1)) : Con l yX9_pullOf cX9_pullOf 4 (some .int) 2 43 [.ref x0, .int x1] S (rI v) S1 := by
  refine con_of (ι := rI) RX9 false [some (.ref x0), some (.int x1), none, none] rfl (fun h => by cases h) (by decide) (Nat.le_of_ble_eq_true rfl) ⟨rfl, rfl⟩ (fun Γ hl => ?_) h
  unfold fn_X9_pullOf
  refine s_aload_n 0 dX9_pullOf_0 rfl rfl ?_
  refine s_iload_n 1 dX9_pullOf_1 rfl rfl ?_
  refine s_cV1I mk_X9_295 (by decide) rfl (fun v9 S9 h9 => con_X9_flies F _ _ _ v9 S9 h9) ⟨by omega, by omega⟩ (Nat.le_of_ble_eq_true rfl) dX9_pullOf_2 (fun v1 S2 => ?_)
  refine s_if_ne 10 dX9_pullOf_5 (by decide) (fun _ => ?_) (fun _ => ?_)
  · refine s_aload_n 0 dX9_pullOf_10 rfl rfl ?_
    refine s_getR fk_X9_90 rfl dX9_pullOf_11 (fun v3 => ?_)
    refine s_aload_n 0 dX9_pullOf_14 rfl rfl ?_
    refine s_getR fk_X9_81 rfl dX9_pullOf_15 (fun v4 => ?_)
    refine s_iload_n 1 dX9_pullOf_18 rfl rfl ?_
    refine s_iald dX9_pullOf_19 (fun v5 => ?_)
    refine s_iald dX9_pullOf_20 (fun v6 => ?_)
    refine s_istore_2 dX9_pullOf_21 rfl ?_
    refine s_aload_n 0 dX9_pullOf_22 rfl rfl ?_
    refine s_getR fk_X9_22 rfl dX9_pullOf_23 (fun v7 => ?_)
    refine s_iload_n 1 dX9_pullOf_26 rfl rfl ?_
    refine s_iald dX9_pullOf_27 (fun v8 => ?_)
    refine s_iload_n 2 dX9_pullOf_28 rfl rfl ?_
    refine s_imul dX9_pullOf_29 ?_
    refine s_bipush (10 : Int32) dX9_pullOf_30 (by decide) ?_
    refine s_idivc dX9_pullOf_32 (by decide) ?_
    refine s_ltI (fun v9 => ?_)
    refine s_istore_3 dX9_pullOf_33 rfl ?_
    refine s_aload_n 0 dX9_pullOf_34 rfl rfl ?_
    refine s_getR fk_X9_16 rfl dX9_pullOf_35 (fun v10 => ?_)
    refine s_iload_n 1 dX9_pullOf_38 rfl rfl ?_
    refine s_iald dX9_pullOf_39 (fun v11 => ?_)
    refine s_iconst (1 : Int32) dX9_pullOf_40 (by decide) ?_
    refine s_icmp_ne 56 dX9_pullOf_41 (by decide) (fun _ => ?_) (fun _ => ?_)
    · exact s_less (t_X9_pullOf_56 x0 x1 v9  S2) (And.intro rfl (And.intro rfl (And.intro rfl trivial)))
    · refine s_iload_n 2 dX9_pullOf_44 rfl rfl ?_
      refine s_bipush (40 : Int32) dX9_pullOf_45 (by decide) ?_
      refine s_icmp_lt 56 dX9_pullOf_47 (by decide) (fun _ => ?_) (fun _ => ?_)
      · exact s_less (t_X9_pullOf_56 x0 x1 v9  S2) (And.intro rfl (And.intro rfl (And.intro rfl trivial)))
      · refine s_iconst (2 : Int32) dX9_pullOf_50 (by decide) ?_
        refine s_iload_n 3 dX9_pullOf_51 rfl rfl ?_
        refine s_imul dX9_pullOf_52 ?_
        refine s_goto 77 dX9_pullOf_53 (by decide) ?_
        exact s_less (t_X9_pullOf_77  ((2 : Int32) * v9) S2) trivial
  · refine s_iconst (0 : Int32) dX9_pullOf_8 (by decide) ?_
    exact s_iret dX9_pullOf_9
-- X9_pulledAt
def f_X9_pulledAt_35 (F : Nat) (k4 : Nat → Int32 → Int32 → Int32 → Mem → Option (Int32 × Mem)) (x0 : Nat) (x1 : Int32) (x3 : Int32) (y0 : Int32) (y1 : Int32) (S : Mem) : Option (Int32 × Mem) :=
  lt ((y0 + y1)) fun v1 =>
  k4 x0 x1 v1 (x3 + (1 : Int32)) S
def b_X9_pulledAt_4 (F : Nat) (k4 : Nat → Int32 → Int32 → Int32 → Mem → Option (Int32 × Mem)) (x0 : Nat) (x1 : Int32) (x2 : Int32) (x3 : Int32) (S : Mem) : Option (Int32 × Mem) :=
  (gR S 8 10 x0).bind fun v1 =>
  (gA S 10 v1 (4 : Int32)).bind fun v2 =>
  if v2 ≤ x3 then
    some (x2, S)
  else
    (gR S 8 36 x0).bind fun v3 =>
    (gA S 10 v3 x3).bind fun v4 =>
    if v4 < x1 then
      f_X9_pulledAt_35 F k4 x0 x1 x3 x2 (0 : Int32) S
    else
      (gR S 8 40 x0).bind fun v5 =>
      (gA S 10 v5 x3).bind fun v6 =>
      f_X9_pulledAt_35 F k4 x0 x1 x3 x2 v6 S
def fn_X9_pulledAt (F : Nat) (x0 : Nat) (x1 : Int32) (S : Mem) : Option (Int32 × Mem) :=
  fix4 (b_X9_pulledAt_4 F) F x0 x1 (0 : Int32) (0 : Int32) S
set_option maxRecDepth 100000 in
theorem t_X9_pulledAt_35 {Γ : Cx} {F : Nat} {k4 : Nat → Int32 → Int32 → Int32 → Mem → Option (Int32 × Mem)} (hk4 : ∀ (x0 : Nat) (x1 : Int32) (x2 : Int32) (x3 : Int32) (S : Mem), Sim cX9_pulledAt RX9 0 0 (some .int) false Γ rI (k4 x0 x1 x2 x3 S) S 4 [some (.ref x0), some (.int x1), some (.int x2), some (.int x3)] []) : ∀ (x0 : Nat) (x1 : Int32) (x3 : Int32) (y0 : Int32) (y1 : Int32) (S : Mem), Sim cX9_pulledAt RX9 0 0 (some .int) false Γ rI (f_X9_pulledAt_35 F k4 x0 x1 x3 y0 y1 S) S 35 [some (.ref x0), some (.int x1), none, some (.int x3)] [.int y1, .int y0] := by
  intro x0 x1 x3 y0 y1 S
  unfold f_X9_pulledAt_35
  refine s_iadd dX9_pulledAt_35 ?_
  refine s_ltI (fun v1 => ?_)
  refine s_istore_2 dX9_pulledAt_36 rfl ?_
  refine s_iinc_3 (1 : Int32) dX9_pulledAt_37 (by decide) rfl ?_
  refine s_goto 4 dX9_pulledAt_40 (by decide) ?_
  exact s_less (hk4 x0 x1 v1 (x3 + (1 : Int32)) S) (And.intro rfl (And.intro rfl (And.intro rfl (And.intro rfl trivial))))
set_option maxRecDepth 100000 in
theorem t_X9_pulledAt_4 {Γ : Cx} {F : Nat} : ∀ (f : Nat) (x0 : Nat) (x1 : Int32) (x2 : Int32) (x3 : Int32) (S : Mem), Sim cX9_pulledAt RX9 0 0 (some .int) false Γ rI (fix4 (b_X9_pulledAt_4 F) f x0 x1 x2 x3 S) S 4 [some (.ref x0), some (.int x1), some (.int x2), some (.int x3)] [] := by
  refine s_fix4 (fun (x0 : Nat) (x1 : Int32) (x2 : Int32) (x3 : Int32) => [some (.ref x0), some (.int x1), some (.int x2), some (.int x3)]) (fun k4 hk4 => ?_)
  intro x0 x1 x2 x3 S
  unfold b_X9_pulledAt_4
  refine s_iload_n 3 dX9_pulledAt_4 rfl rfl ?_
  refine s_aload_n 0 dX9_pulledAt_5 rfl rfl ?_
  refine s_getR fk_X9_13 rfl dX9_pulledAt_6 (fun v1 => ?_)
  refine s_iconst (4 : Int32) dX9_pulledAt_9 (by decide) ?_
  refine s_iald dX9_pulledAt_10 (fun v2 => ?_)
  refine s_icmp_ge 43 dX9_pulledAt_11 (by decide) (fun _ => ?_) (fun _ => ?_)
  · refine s_iload_n 2 dX9_pulledAt_43 rfl rfl ?_
    exact s_iret dX9_pulledAt_44
  · refine s_iload_n 2 dX9_pulledAt_14 rfl rfl ?_
    refine s_aload_n 0 dX9_pulledAt_15 rfl rfl ?_
    refine s_getR fk_X9_81 rfl dX9_pulledAt_16 (fun v3 => ?_)
    refine s_iload_n 3 dX9_pulledAt_19 rfl rfl ?_
    refine s_iald dX9_pulledAt_20 (fun v4 => ?_)
    refine s_iload_n 1 dX9_pulledAt_21 rfl rfl ?_
    refine s_icmp_lt 34 dX9_pulledAt_22 (by decide) (fun _ => ?_) (fun _ => ?_)
    · refine s_iconst (0 : Int32) dX9_pulledAt_34 (by decide) ?_
      exact s_less (t_X9_pulledAt_35 hk4 x0 x1 x3 x2 (0 : Int32) S) (And.intro rfl (And.intro rfl (And.intro rfl trivial)))
    · refine s_aload_n 0 dX9_pulledAt_25 rfl rfl ?_
      refine s_getR fk_X9_93 rfl dX9_pulledAt_26 (fun v5 => ?_)
      refine s_iload_n 3 dX9_pulledAt_29 rfl rfl ?_
      refine s_iald dX9_pulledAt_30 (fun v6 => ?_)
      refine s_goto 35 dX9_pulledAt_31 (by decide) ?_
      exact s_less (t_X9_pulledAt_35 hk4 x0 x1 x3 x2 v6 S) (And.intro rfl (And.intro rfl (And.intro rfl trivial)))
set_option maxRecDepth 100000 in
theorem con_X9_pulledAt {l : Launch} (F : Nat) (x0 : Nat) (x1 : Int32) (S : Mem) (v : Int32) (S1 : Mem) (h : fn_X9_pulledAt F x0 x1 S = some (v, S1)) : Con l yX9_pulledAt cX9_pulledAt 4 (some .int) 0 0 [.ref x0, .int x1] S (rI v) S1 := by
  refine con_of (ι := rI) RX9 false [some (.ref x0), some (.int x1), none, none] rfl (fun h => by cases h) (by decide) (Nat.le_of_ble_eq_true rfl) ⟨rfl, rfl⟩ (fun Γ hl => ?_) h
  unfold fn_X9_pulledAt
  refine s_iconst (0 : Int32) dX9_pulledAt_0 (by decide) ?_
  refine s_istore_2 dX9_pulledAt_1 rfl ?_
  refine s_iconst (0 : Int32) dX9_pulledAt_2 (by decide) ?_
  refine s_istore_3 dX9_pulledAt_3 rfl ?_
  exact s_less (t_X9_pulledAt_4 F x0 x1 (0 : Int32) (0 : Int32) S) (And.intro rfl (And.intro rfl (And.intro rfl (And.intro rfl trivial))))
-- X9_hangs
def f_X9_hangs_191 (F : Nat) (x0 : Nat) (y0 : Nat) (y1 : Int32) (S : Mem) : Option (Unit × Mem) :=
  (gR S 8 39 x0).bind fun v1 =>
  (gI S 8 42 x0).bind fun v2 =>
  (gA S 10 v1 v2).bind fun v3 =>
  (sI S 8 43 y0 (y1 + (v3 / (5 : Int32)))).bind fun S4 =>
  some ((), S4)
def f_X9_hangs_171 (F : Nat) (k126 : Nat → Int32 → Int32 → Int32 → Mem → Option (Unit × Mem)) (x0 : Nat) (x2 : Int32) (x4 : Int32) (y0 : Int32) (y1 : Int32) (S : Mem) : Option (Unit × Mem) :=
  lt ((y0 + y1)) fun v1 =>
  k126 x0 x2 v1 (x4 + (1 : Int32)) S
def b_X9_hangs_126 (F : Nat) (k126 : Nat → Int32 → Int32 → Int32 → Mem → Option (Unit × Mem)) (x0 : Nat) (x2 : Int32) (x3 : Int32) (x4 : Int32) (S : Mem) : Option (Unit × Mem) :=
  (gR S 8 10 x0).bind fun v1 =>
  (gA S 10 v1 (4 : Int32)).bind fun v2 =>
  if v2 ≤ x4 then
    if x2 = 0 then
      f_X9_hangs_191 F x0 x0 (0 : Int32) S
    else
      nz x2 (
      f_X9_hangs_191 F x0 x0 (x3 / x2) S)
  else
    (gR S 8 36 x0).bind fun v3 =>
    (gA S 10 v3 x4).bind fun v4 =>
    (gI S 8 41 x0).bind fun v5 =>
    if v4 < v5 then
      f_X9_hangs_171 F k126 x0 x2 x4 x3 (0 : Int32) S
    else
      (gR S 8 40 x0).bind fun v6 =>
      (gA S 10 v6 x4).bind fun v7 =>
      (gR S 8 12 x0).bind fun v8 =>
      (gA S 10 v8 x4).bind fun v9 =>
      f_X9_hangs_171 F k126 x0 x2 x4 x3 (v7 * v9) S
def f_X9_hangs_98 (F : Nat) (x0 : Nat) (x1 : Int32) (S : Mem) : Option (Unit × Mem) :=
  (gI S 8 41 x0).bind fun v1 =>
  (sI S 8 42 x0 (mxI (0 : Int32) (v1 - x1))).bind fun S2 =>
  (gI S2 8 41 x0).bind fun v3 =>
  bd (cal S2 8 x0 (fn_X9_pulledAt F x0 v3 S2)) fun v4 S5 =>
  fix4 (b_X9_hangs_126 F) F x0 v4 (0 : Int32) (0 : Int32) S5
def b_X9_hangs_61 (F : Nat) (k61 : Nat → Int32 → Mem → Option (Unit × Mem)) (x0 : Nat) (x1 : Int32) (S : Mem) : Option (Unit × Mem) :=
  (gI S 8 41 x0).bind fun v1 =>
  if v1 ≤ 0 then
    f_X9_hangs_98 F x0 x1  S
  else
    (gI S 8 41 x0).bind fun v2 =>
    bd (cal S 8 x0 (fn_X9_pulledAt F x0 v2 S)) fun v3 S4 =>
    (gR S4 8 10 x0).bind fun v5 =>
    (gA S4 10 v5 (0 : Int32)).bind fun v6 =>
    if v6 ≤ v3 then
      f_X9_hangs_98 F x0 x1  S4
    else
      (gI S4 8 41 x0).bind fun v7 =>
      (sI S4 8 41 x0 (v7 - (1 : Int32))).bind fun S8 =>
      k61 x0 x1 S8
def f_X9_hangs_47 (F : Nat) (k4 : Nat → Int32 → Int32 → Mem → Option (Unit × Mem)) (x0 : Nat) (x2 : Int32) (y0 : Int32) (y1 : Int32) (S : Mem) : Option (Unit × Mem) :=
  lt ((y0 + y1)) fun v1 =>
  k4 x0 v1 (x2 + (1 : Int32)) S
def f_X9_hangs_46 (F : Nat) (k4 : Nat → Int32 → Int32 → Mem → Option (Unit × Mem)) (x0 : Nat) (x2 : Int32) (y0 : Int32) (S : Mem) : Option (Unit × Mem) :=
  f_X9_hangs_47 F k4 x0 x2 y0 (0 : Int32) S
def b_X9_hangs_4 (F : Nat) (k4 : Nat → Int32 → Int32 → Mem → Option (Unit × Mem)) (x0 : Nat) (x1 : Int32) (x2 : Int32) (S : Mem) : Option (Unit × Mem) :=
  (gR S 8 10 x0).bind fun v1 =>
  (gA S 10 v1 (4 : Int32)).bind fun v2 =>
  if v2 ≤ x2 then
    (sI S 8 41 x0 (40 : Int32)).bind fun S3 =>
    fix2 (b_X9_hangs_61 F) F x0 x1 S3
  else
    (gR S 8 40 x0).bind fun v4 =>
    bd (cal S 8 x0 (fn_X9_pullOf F x0 x2 S)) fun v5 S6 =>
    (sA S6 v4 x2 v5).bind fun S7 =>
    bd (cal S7 8 x0 (fn_X9_isLost F x0 x2 S7)) fun v8 S9 =>
    if v8 = 0 then
      bd (cal S9 8 x0 (fn_X9_flies F x0 x2 S9)) fun v10 S11 =>
      if v10 = 0 then
        f_X9_hangs_47 F k4 x0 x2 x1 (1 : Int32) S11
      else
        f_X9_hangs_46 F k4 x0 x2 x1 S11
    else
      f_X9_hangs_46 F k4 x0 x2 x1 S9
def fn_X9_hangs (F : Nat) (x0 : Nat) (S : Mem) : Option (Unit × Mem) :=
  fix3 (b_X9_hangs_4 F) F x0 (0 : Int32) (0 : Int32) S
set_option maxRecDepth 100000 in
theorem t_X9_hangs_191 {Γ : Cx} {F : Nat} : ∀ (x0 : Nat) (y0 : Nat) (y1 : Int32) (S : Mem), Sim cX9_hangs RX9 3 66 none false Γ rV (f_X9_hangs_191 F x0 y0 y1 S) S 191 [some (.ref x0), none, none, none, none] [.int y1, .ref y0] := by
  intro x0 y0 y1 S
  unfold f_X9_hangs_191
  refine s_aload_n 0 dX9_hangs_191 rfl rfl ?_
  refine s_getR fk_X9_90 rfl dX9_hangs_192 (fun v1 => ?_)
  refine s_aload_n 0 dX9_hangs_195 rfl rfl ?_
  refine s_getI fk_X9_313 rfl dX9_hangs_196 (fun v2 => ?_)
  refine s_iald dX9_hangs_199 (fun v3 => ?_)
  refine s_iconst (5 : Int32) dX9_hangs_200 (by decide) ?_
  refine s_idivc dX9_hangs_201 (by decide) ?_
  refine s_iadd dX9_hangs_202 ?_
  refine s_putI fk_X9_316 (Or.inl rfl) rfl dX9_hangs_203 (fun S4 => ?_)
  exact s_vret dX9_hangs_206
set_option maxRecDepth 100000 in
theorem t_X9_hangs_171 {Γ : Cx} {F : Nat} {k126 : Nat → Int32 → Int32 → Int32 → Mem → Option (Unit × Mem)} (hk126 : ∀ (x0 : Nat) (x2 : Int32) (x3 : Int32) (x4 : Int32) (S : Mem), Sim cX9_hangs RX9 3 66 none false Γ rV (k126 x0 x2 x3 x4 S) S 126 [some (.ref x0), none, some (.int x2), some (.int x3), some (.int x4)] []) : ∀ (x0 : Nat) (x2 : Int32) (x4 : Int32) (y0 : Int32) (y1 : Int32) (S : Mem), Sim cX9_hangs RX9 3 66 none false Γ rV (f_X9_hangs_171 F k126 x0 x2 x4 y0 y1 S) S 171 [some (.ref x0), none, some (.int x2), none, some (.int x4)] [.int y1, .int y0] := by
  intro x0 x2 x4 y0 y1 S
  unfold f_X9_hangs_171
  refine s_iadd dX9_hangs_171 ?_
  refine s_ltI (fun v1 => ?_)
  refine s_istore_3 dX9_hangs_172 rfl ?_
  refine s_iinc_4 (1 : Int32) dX9_hangs_173 (by decide) rfl ?_
  refine s_goto 126 dX9_hangs_176 (by decide) ?_
  exact s_less (hk126 x0 x2 v1 (x4 + (1 : Int32)) S) (And.intro rfl (And.intro rfl (And.intro rfl (And.intro rfl trivial))))
set_option maxRecDepth 100000 in
theorem t_X9_hangs_126 {Γ : Cx} {F : Nat} : ∀ (f : Nat) (x0 : Nat) (x2 : Int32) (x3 : Int32) (x4 : Int32) (S : Mem), Sim cX9_hangs RX9 3 66 none false Γ rV (fix4 (b_X9_hangs_126 F) f x0 x2 x3 x4 S) S 126 [some (.ref x0), none, some (.int x2), some (.int x3), some (.int x4)] [] := by
  refine s_fix4 (fun (x0 : Nat) (x2 : Int32) (x3 : Int32) (x4 : Int32) => [some (.ref x0), none, some (.int x2), some (.int x3), some (.int x4)]) (fun k126 hk126 => ?_)
  intro x0 x2 x3 x4 S
  unfold b_X9_hangs_126
  refine s_iload dX9_hangs_126 rfl ?_
  refine s_aload_n 0 dX9_hangs_128 rfl rfl ?_
  refine s_getR fk_X9_13 rfl dX9_hangs_129 (fun v1 => ?_)
  refine s_iconst (4 : Int32) dX9_hangs_132 (by decide) ?_
  refine s_iald dX9_hangs_133 (fun v2 => ?_)
  refine s_icmp_ge 179 dX9_hangs_134 (by decide) (fun _ => ?_) (fun _ => ?_)
  · refine s_aload_n 0 dX9_hangs_179 rfl rfl ?_
    refine s_iload_n 2 dX9_hangs_180 rfl rfl ?_
    refine s_if_ne 188 dX9_hangs_181 (by decide) (fun _ => ?_) (fun _ => ?_)
    · refine s_iload_n 3 dX9_hangs_188 rfl rfl ?_
      refine s_iload_n 2 dX9_hangs_189 rfl rfl ?_
      refine s_idiv dX9_hangs_190 ?_
      exact s_less (t_X9_hangs_191 x0 x0 (x3 / x2) S) (And.intro rfl trivial)
    · refine s_iconst (0 : Int32) dX9_hangs_184 (by decide) ?_
      refine s_goto 191 dX9_hangs_185 (by decide) ?_
      exact s_less (t_X9_hangs_191 x0 x0 (0 : Int32) S) (And.intro rfl trivial)
  · refine s_iload_n 3 dX9_hangs_137 rfl rfl ?_
    refine s_aload_n 0 dX9_hangs_138 rfl rfl ?_
    refine s_getR fk_X9_81 rfl dX9_hangs_139 (fun v3 => ?_)
    refine s_iload dX9_hangs_142 rfl ?_
    refine s_iald dX9_hangs_144 (fun v4 => ?_)
    refine s_aload_n 0 dX9_hangs_145 rfl rfl ?_
    refine s_getI fk_X9_307 rfl dX9_hangs_146 (fun v5 => ?_)
    refine s_icmp_lt 170 dX9_hangs_149 (by decide) (fun _ => ?_) (fun _ => ?_)
    · refine s_iconst (0 : Int32) dX9_hangs_170 (by decide) ?_
      exact s_less (t_X9_hangs_171 hk126 x0 x2 x4 x3 (0 : Int32) S) (And.intro rfl (And.intro rfl (And.intro rfl trivial)))
    · refine s_aload_n 0 dX9_hangs_152 rfl rfl ?_
      refine s_getR fk_X9_93 rfl dX9_hangs_153 (fun v6 => ?_)
      refine s_iload dX9_hangs_156 rfl ?_
      refine s_iald dX9_hangs_158 (fun v7 => ?_)
      refine s_aload_n 0 dX9_hangs_159 rfl rfl ?_
      refine s_getR fk_X9_19 rfl dX9_hangs_160 (fun v8 => ?_)
      refine s_iload dX9_hangs_163 rfl ?_
      refine s_iald dX9_hangs_165 (fun v9 => ?_)
      refine s_imul dX9_hangs_166 ?_
      refine s_goto 171 dX9_hangs_167 (by decide) ?_
      exact s_less (t_X9_hangs_171 hk126 x0 x2 x4 x3 (v7 * v9) S) (And.intro rfl (And.intro rfl (And.intro rfl trivial)))
set_option maxRecDepth 100000 in
theorem t_X9_hangs_98 {Γ : Cx} {F : Nat} : ∀ (x0 : Nat) (x1 : Int32) (S : Mem), Sim cX9_hangs RX9 3 66 none false Γ rV (f_X9_hangs_98 F x0 x1 S) S 98 [some (.ref x0), some (.int x1), none, none, none] [] := by
  intro x0 x1 S
  unfold f_X9_hangs_98
  refine s_aload_n 0 dX9_hangs_98 rfl rfl ?_
  refine s_iconst (0 : Int32) dX9_hangs_99 (by decide) ?_
  refine s_aload_n 0 dX9_hangs_100 rfl rfl ?_
  refine s_getI fk_X9_307 rfl dX9_hangs_101 (fun v1 => ?_)
  refine s_iload_n 1 dX9_hangs_104 rfl rfl ?_
  refine s_isub dX9_hangs_105 ?_
  refine s_mmax mm_X9_298 mm_max_s mm_i mm_max_c ⟨by omega, by simp [Value.category] <;> omega⟩ dX9_hangs_106 ?_
  refine s_putI fk_X9_313 (Or.inl rfl) rfl dX9_hangs_109 (fun S2 => ?_)
  refine s_aload_n 0 dX9_hangs_112 rfl rfl ?_
  refine s_aload_n 0 dX9_hangs_113 rfl rfl ?_
  refine s_getI fk_X9_307 rfl dX9_hangs_114 (fun v3 => ?_)
  refine s_cV1I mk_X9_310 (by decide) rfl (fun v9 S9 h9 => con_X9_pulledAt F _ _ _ v9 S9 h9) ⟨by omega, by omega⟩ (Nat.le_of_ble_eq_true rfl) dX9_hangs_117 (fun v4 S5 => ?_)
  refine s_istore_2 dX9_hangs_120 rfl ?_
  refine s_iconst (0 : Int32) dX9_hangs_121 (by decide) ?_
  refine s_istore_3 dX9_hangs_122 rfl ?_
  refine s_iconst (0 : Int32) dX9_hangs_123 (by decide) ?_
  refine s_istore_4 dX9_hangs_124 rfl ?_
  exact s_less (t_X9_hangs_126 F x0 v4 (0 : Int32) (0 : Int32) S5) (And.intro rfl (And.intro rfl (And.intro rfl (And.intro rfl trivial))))
set_option maxRecDepth 100000 in
theorem t_X9_hangs_61 {Γ : Cx} {F : Nat} : ∀ (f : Nat) (x0 : Nat) (x1 : Int32) (S : Mem), Sim cX9_hangs RX9 3 66 none false Γ rV (fix2 (b_X9_hangs_61 F) f x0 x1 S) S 61 [some (.ref x0), some (.int x1), none, none, none] [] := by
  refine s_fix2 (fun (x0 : Nat) (x1 : Int32) => [some (.ref x0), some (.int x1), none, none, none]) (fun k61 hk61 => ?_)
  intro x0 x1 S
  unfold b_X9_hangs_61
  refine s_aload_n 0 dX9_hangs_61 rfl rfl ?_
  refine s_getI fk_X9_307 rfl dX9_hangs_62 (fun v1 => ?_)
  refine s_if_le 98 dX9_hangs_65 (by decide) (fun _ => ?_) (fun _ => ?_)
  · exact s_less (t_X9_hangs_98 x0 x1  S) (And.intro rfl (And.intro rfl trivial))
  · refine s_aload_n 0 dX9_hangs_68 rfl rfl ?_
    refine s_aload_n 0 dX9_hangs_69 rfl rfl ?_
    refine s_getI fk_X9_307 rfl dX9_hangs_70 (fun v2 => ?_)
    refine s_cV1I mk_X9_310 (by decide) rfl (fun v9 S9 h9 => con_X9_pulledAt F _ _ _ v9 S9 h9) ⟨by omega, by omega⟩ (Nat.le_of_ble_eq_true rfl) dX9_hangs_73 (fun v3 S4 => ?_)
    refine s_aload_n 0 dX9_hangs_76 rfl rfl ?_
    refine s_getR fk_X9_13 rfl dX9_hangs_77 (fun v5 => ?_)
    refine s_iconst (0 : Int32) dX9_hangs_80 (by decide) ?_
    refine s_iald dX9_hangs_81 (fun v6 => ?_)
    refine s_icmp_ge 98 dX9_hangs_82 (by decide) (fun _ => ?_) (fun _ => ?_)
    · exact s_less (t_X9_hangs_98 x0 x1  S4) (And.intro rfl (And.intro rfl trivial))
    · refine s_aload_n 0 dX9_hangs_85 rfl rfl ?_
      refine s_dup dX9_hangs_86 rfl ?_
      refine s_getI fk_X9_307 rfl dX9_hangs_87 (fun v7 => ?_)
      refine s_iconst (1 : Int32) dX9_hangs_90 (by decide) ?_
      refine s_isub dX9_hangs_91 ?_
      refine s_putI fk_X9_307 (Or.inl rfl) rfl dX9_hangs_92 (fun S8 => ?_)
      refine s_goto 61 dX9_hangs_95 (by decide) ?_
      exact s_less (hk61 x0 x1 S8) (And.intro rfl (And.intro rfl trivial))
set_option maxRecDepth 100000 in
theorem t_X9_hangs_47 {Γ : Cx} {F : Nat} {k4 : Nat → Int32 → Int32 → Mem → Option (Unit × Mem)} (hk4 : ∀ (x0 : Nat) (x1 : Int32) (x2 : Int32) (S : Mem), Sim cX9_hangs RX9 3 66 none false Γ rV (k4 x0 x1 x2 S) S 4 [some (.ref x0), some (.int x1), some (.int x2), none, none] []) : ∀ (x0 : Nat) (x2 : Int32) (y0 : Int32) (y1 : Int32) (S : Mem), Sim cX9_hangs RX9 3 66 none false Γ rV (f_X9_hangs_47 F k4 x0 x2 y0 y1 S) S 47 [some (.ref x0), none, some (.int x2), none, none] [.int y1, .int y0] := by
  intro x0 x2 y0 y1 S
  unfold f_X9_hangs_47
  refine s_iadd dX9_hangs_47 ?_
  refine s_ltI (fun v1 => ?_)
  refine s_istore_1 dX9_hangs_48 rfl ?_
  refine s_iinc_2 (1 : Int32) dX9_hangs_49 (by decide) rfl ?_
  refine s_goto 4 dX9_hangs_52 (by decide) ?_
  exact s_less (hk4 x0 v1 (x2 + (1 : Int32)) S) (And.intro rfl (And.intro rfl (And.intro rfl trivial)))
set_option maxRecDepth 100000 in
theorem t_X9_hangs_46 {Γ : Cx} {F : Nat} {k4 : Nat → Int32 → Int32 → Mem → Option (Unit × Mem)} (hk4 : ∀ (x0 : Nat) (x1 : Int32) (x2 : Int32) (S : Mem), Sim cX9_hangs RX9 3 66 none false Γ rV (k4 x0 x1 x2 S) S 4 [some (.ref x0), some (.int x1), some (.int x2), none, none] []) : ∀ (x0 : Nat) (x2 : Int32) (y0 : Int32) (S : Mem), Sim cX9_hangs RX9 3 66 none false Γ rV (f_X9_hangs_46 F k4 x0 x2 y0 S) S 46 [some (.ref x0), none, some (.int x2), none, none] [.int y0] := by
  intro x0 x2 y0 S
  unfold f_X9_hangs_46
  refine s_iconst (0 : Int32) dX9_hangs_46 (by decide) ?_
  exact s_less (t_X9_hangs_47 hk4 x0 x2 y0 (0 : Int32) S) (And.intro rfl (And.intro rfl trivial))
set_option maxRecDepth 100000 in
theorem t_X9_hangs_4 {Γ : Cx} {F : Nat} : ∀ (f : Nat) (x0 : Nat) (x1 : Int32) (x2 : Int32) (S : Mem), Sim cX9_hangs RX9 3 66 none false Γ rV (fix3 (b_X9_hangs_4 F) f x0 x1 x2 S) S 4 [some (.ref x0), some (.int x1), some (.int x2), none, none] [] := by
  refine s_fix3 (fun (x0 : Nat) (x1 : Int32) (x2 : Int32) => [some (.ref x0), some (.int x1), some (.int x2), none, none]) (fun k4 hk4 => ?_)
  intro x0 x1 x2 S
  unfold b_X9_hangs_4
  refine s_iload_n 2 dX9_hangs_4 rfl rfl ?_
  refine s_aload_n 0 dX9_hangs_5 rfl rfl ?_
  refine s_getR fk_X9_13 rfl dX9_hangs_6 (fun v1 => ?_)
  refine s_iconst (4 : Int32) dX9_hangs_9 (by decide) ?_
  refine s_iald dX9_hangs_10 (fun v2 => ?_)
  refine s_icmp_ge 55 dX9_hangs_11 (by decide) (fun _ => ?_) (fun _ => ?_)
  · refine s_aload_n 0 dX9_hangs_55 rfl rfl ?_
    refine s_bipush (40 : Int32) dX9_hangs_56 (by decide) ?_
    refine s_putI fk_X9_307 (Or.inl rfl) rfl dX9_hangs_58 (fun S3 => ?_)
    exact s_less (t_X9_hangs_61 F x0 x1 S3) (And.intro rfl (And.intro rfl trivial))
  · refine s_aload_n 0 dX9_hangs_14 rfl rfl ?_
    refine s_getR fk_X9_93 rfl dX9_hangs_15 (fun v4 => ?_)
    refine s_iload_n 2 dX9_hangs_18 rfl rfl ?_
    refine s_aload_n 0 dX9_hangs_19 rfl rfl ?_
    refine s_iload_n 2 dX9_hangs_20 rfl rfl ?_
    refine s_cV1I mk_X9_304 (by decide) rfl (fun v9 S9 h9 => con_X9_pullOf F _ _ _ v9 S9 h9) ⟨by omega, by omega⟩ (Nat.le_of_ble_eq_true rfl) dX9_hangs_21 (fun v5 S6 => ?_)
    refine s_iast dX9_hangs_24 (fun S7 => ?_)
    refine s_iload_n 1 dX9_hangs_25 rfl rfl ?_
    refine s_aload_n 0 dX9_hangs_26 rfl rfl ?_
    refine s_iload_n 2 dX9_hangs_27 rfl rfl ?_
    refine s_cV1I mk_X9_292 (by decide) rfl (fun v9 S9 h9 => con_X9_isLost F _ _ _ v9 S9 h9) ⟨by omega, by omega⟩ (Nat.le_of_ble_eq_true rfl) dX9_hangs_28 (fun v8 S9 => ?_)
    refine s_if_ne 46 dX9_hangs_31 (by decide) (fun _ => ?_) (fun _ => ?_)
    · exact s_less (t_X9_hangs_46 hk4 x0 x2 x1 S9) (And.intro rfl (And.intro rfl trivial))
    · refine s_aload_n 0 dX9_hangs_34 rfl rfl ?_
      refine s_iload_n 2 dX9_hangs_35 rfl rfl ?_
      refine s_cV1I mk_X9_295 (by decide) rfl (fun v9 S9 h9 => con_X9_flies F _ _ _ v9 S9 h9) ⟨by omega, by omega⟩ (Nat.le_of_ble_eq_true rfl) dX9_hangs_36 (fun v10 S11 => ?_)
      refine s_if_ne 46 dX9_hangs_39 (by decide) (fun _ => ?_) (fun _ => ?_)
      · exact s_less (t_X9_hangs_46 hk4 x0 x2 x1 S11) (And.intro rfl (And.intro rfl trivial))
      · refine s_iconst (1 : Int32) dX9_hangs_42 (by decide) ?_
        refine s_goto 47 dX9_hangs_43 (by decide) ?_
        exact s_less (t_X9_hangs_47 hk4 x0 x2 x1 (1 : Int32) S11) (And.intro rfl (And.intro rfl trivial))
set_option maxRecDepth 100000 in
theorem con_X9_hangs {l : Launch} (F : Nat) (x0 : Nat) (S : Mem) (v : Unit) (S1 : Mem) (h : fn_X9_hangs F x0 S = some (v, S1)) : Con l yX9_hangs cX9_hangs 5 none 3 66 [.ref x0] S (rV v) S1 := by
  refine con_of (ι := rV) RX9 false [some (.ref x0), none, none, none, none] rfl (fun h => by cases h) (by decide) (Nat.le_of_ble_eq_true rfl) ⟨rfl, rfl⟩ (fun Γ hl => ?_) h
  unfold fn_X9_hangs
  refine s_iconst (0 : Int32) dX9_hangs_0 (by decide) ?_
  refine s_istore_1 dX9_hangs_1 rfl ?_
  refine s_iconst (0 : Int32) dX9_hangs_2 (by decide) ?_
  refine s_istore_2 dX9_hangs_3 rfl ?_
  exact s_less (t_X9_hangs_4 F x0 (0 : Int32) (0 : Int32) S) (And.intro rfl (And.intro rfl (And.intro rfl trivial)))
-- X9_looks
def fn_X9_looks (F : Nat) (x0 : Nat) (x1 : Int32) (x2 : Int32) (S : Mem) : Option (Unit × Mem) :=
  bd (cal S 8 x0 (fn_X9_blows F x0 x1 x2 S)) fun _ S2 =>
  bd (cal S2 8 x0 (fn_X9_hangs F x0 S2)) fun _ S4 =>
  some ((), S4)
set_option maxRecDepth 100000 in
theorem con_X9_looks {l : Launch} (F : Nat) (x0 : Nat) (x1 : Int32) (x2 : Int32) (S : Mem) (v : Unit) (S1 : Mem) (h : fn_X9_looks F x0 x1 x2 S = some (v, S1)) : Con l yX9_looks cX9_looks 3 none 4 91 [.ref x0, .int x1, .int x2] S (rV v) S1 := by
  refine con_of (ι := rV) RX9 false [some (.ref x0), some (.int x1), some (.int x2)] rfl (fun h => by cases h) (by decide) (Nat.le_of_ble_eq_true rfl) ⟨rfl, rfl⟩ (fun Γ hl => ?_) h
  unfold fn_X9_looks
  refine s_aload_n 0 dX9_looks_0 rfl rfl ?_
  refine s_iload_n 1 dX9_looks_1 rfl rfl ?_
  refine s_iload_n 2 dX9_looks_2 rfl rfl ?_
  refine s_cV2V mk_X9_319 (by decide) rfl (fun v9 S9 h9 => con_X9_blows F _ _ _ _ v9 S9 h9) ⟨by omega, by omega⟩ (Nat.le_of_ble_eq_true rfl) dX9_looks_3 (fun _ S2 => ?_)
  refine s_aload_n 0 dX9_looks_6 rfl rfl ?_
  refine s_cV0V mk_X9_322 (by decide) rfl (fun v9 S9 h9 => con_X9_hangs F _ _ v9 S9 h9) ⟨by omega, by omega⟩ (Nat.le_of_ble_eq_true rfl) dX9_looks_7 (fun _ S4 => ?_)
  exact s_vret dX9_looks_10
-- X9_looksNow
def fn_X9_looksNow (F : Nat) (x0 : Nat) (S : Mem) : Option (Unit × Mem) :=
  (gR S 8 36 x0).bind fun v1 =>
  (gA S 10 v1 (19 : Int32)).bind fun v2 =>
  bd (cal S 8 x0 (fn_X9_looks F x0 v2 (0 : Int32) S)) fun _ S4 =>
  some ((), S4)
set_option maxRecDepth 100000 in
theorem con_X9_looksNow {l : Launch} (F : Nat) (x0 : Nat) (S : Mem) (v : Unit) (S1 : Mem) (h : fn_X9_looksNow F x0 S = some (v, S1)) : Con l yX9_looksNow cX9_looksNow 1 none 5 113 [.ref x0] S (rV v) S1 := by
  refine con_of (ι := rV) RX9 false [some (.ref x0)] rfl (fun h => by cases h) (by decide) (Nat.le_of_ble_eq_true rfl) ⟨rfl, rfl⟩ (fun Γ hl => ?_) h
  unfold fn_X9_looksNow
  refine s_aload_n 0 dX9_looksNow_0 rfl rfl ?_
  refine s_aload_n 0 dX9_looksNow_1 rfl rfl ?_
  refine s_getR fk_X9_81 rfl dX9_looksNow_2 (fun v1 => ?_)
  refine s_bipush (19 : Int32) dX9_looksNow_5 (by decide) ?_
  refine s_iald dX9_looksNow_7 (fun v2 => ?_)
  refine s_iconst (0 : Int32) dX9_looksNow_8 (by decide) ?_
  refine s_cV2V mk_X9_325 (by decide) rfl (fun v9 S9 h9 => con_X9_looks F _ _ _ _ v9 S9 h9) ⟨by omega, by omega⟩ (Nat.le_of_ble_eq_true rfl) dX9_looksNow_9 (fun _ S4 => ?_)
  exact s_vret dX9_looksNow_12
-- X9_kite
def f_X9_kite_128 (F : Nat) (y0 : Int32) (S : Mem) : Option (Int32 × Mem) :=
  some (y0, S)
def f_X9_kite_66 (F : Nat) (y0 : Int32) (S : Mem) : Option (Int32 × Mem) :=
  some (y0, S)
def f_X9_kite_22 (F : Nat)  (S : Mem) : Option (Int32 × Mem) :=
  some ((-1 : Int32), S)
def fn_X9_kite (F : Nat) (x0 : Nat) (x1 : Int32) (x2 : Int32) (S : Mem) : Option (Int32 × Mem) :=
  (sI S 8 0 x0 (0 : Int32)).bind fun S1 =>
  bd (cal S1 8 x0 (fn_X9_isKite F x0 x1 S1)) fun v2 S3 =>
  if v2 = 0 then
    f_X9_kite_22 F   S3
  else
    bd ((fn_X9_within F x2 (0 : Int32) (5 : Int32) S3)) fun v4 S5 =>
    if v4 = 0 then
      f_X9_kite_22 F   S5
    else
      bd (cal S5 8 x0 (fn_X9_looksNow F x0 S5)) fun _ S7 =>
      if (3 : Int32) ≤ x2 then
        if x2 = (3 : Int32) then
          bd (cal S7 8 x0 (fn_X9_isLost F x0 x1 S7)) fun v12 S13 =>
          if v12 = 0 then
            bd (cal S13 8 x0 (fn_X9_flies F x0 x1 S13)) fun v14 S15 =>
            if v14 = 0 then
              f_X9_kite_128 F  (1 : Int32) S15
            else
              f_X9_kite_128 F  (0 : Int32) S15
          else
            f_X9_kite_128 F  (2 : Int32) S13
        else
          if x2 = (4 : Int32) then
            (gR S7 8 36 x0).bind fun v10 =>
            (gA S7 10 v10 ((6 : Int32) + x1)).bind fun v11 =>
            f_X9_kite_128 F  (v11 - (1 : Int32)) S7
          else
            (gR S7 8 36 x0).bind fun v8 =>
            (gA S7 10 v8 ((12 : Int32) + x1)).bind fun v9 =>
            f_X9_kite_128 F  v9 S7
      else
        if x2 = 0 then
          (gR S7 8 11 x0).bind fun v20 =>
          (gA S7 10 v20 x1).bind fun v21 =>
          f_X9_kite_66 F  v21 S7
        else
          if x2 = (1 : Int32) then
            (gR S7 8 36 x0).bind fun v18 =>
            (gA S7 10 v18 x1).bind fun v19 =>
            f_X9_kite_66 F  v19 S7
          else
            (gR S7 8 40 x0).bind fun v16 =>
            (gA S7 10 v16 x1).bind fun v17 =>
            f_X9_kite_66 F  v17 S7
set_option maxRecDepth 100000 in
theorem t_X9_kite_128 {Γ : Cx} {F : Nat} : ∀ (y0 : Int32) (S : Mem), Sim cX9_kite RX9 6 133 (some .int) false Γ rI (f_X9_kite_128 F y0 S) S 128 [none, none, none] [.int y0] := by
  intro y0 S
  unfold f_X9_kite_128
  exact s_iret dX9_kite_128
set_option maxRecDepth 100000 in
theorem t_X9_kite_66 {Γ : Cx} {F : Nat} : ∀ (y0 : Int32) (S : Mem), Sim cX9_kite RX9 6 133 (some .int) false Γ rI (f_X9_kite_66 F y0 S) S 66 [none, none, none] [.int y0] := by
  intro y0 S
  unfold f_X9_kite_66
  exact s_iret dX9_kite_66
set_option maxRecDepth 100000 in
theorem t_X9_kite_22 {Γ : Cx} {F : Nat} : ∀ (S : Mem), Sim cX9_kite RX9 6 133 (some .int) false Γ rI (f_X9_kite_22 F  S) S 22 [none, none, none] [] := by
  intro  S
  unfold f_X9_kite_22
  refine s_iconst (-1 : Int32) dX9_kite_22 (by decide) ?_
  exact s_iret dX9_kite_23
set_option maxRecDepth 100000 in
theorem con_X9_kite {l : Launch} (F : Nat) (x0 : Nat) (x1 : Int32) (x2 : Int32) (S : Mem) (v : Int32) (S1 : Mem) (h : fn_X9_kite F x0 x1 x2 S = some (v, S1)) : Con l yX9_kite cX9_kite 3 (some .int) 6 133 [.ref x0, .int x1, .int x2] S (rI v) S1 := by
  refine con_of (ι := rI) RX9 false [some (.ref x0), some (.int x1), some (.int x2)] rfl (fun h => by cases h) (by decide) (Nat.le_of_ble_eq_true rfl) ⟨rfl, rfl⟩ (fun Γ hl => ?_) h
  unfold fn_X9_kite
  refine s_aload_n 0 dX9_kite_0 rfl rfl ?_
  refine s_iconst (0 : Int32) dX9_kite_1 (by decide) ?_
  refine s_putI fk_X9_109 (Or.inl rfl) rfl dX9_kite_2 (fun S1 => ?_)
  refine s_aload_n 0 dX9_kite_5 rfl rfl ?_
  refine s_iload_n 1 dX9_kite_6 rfl rfl ?_
  refine s_cV1I mk_X9_328 (by decide) rfl (fun v9 S9 h9 => con_X9_isKite F _ _ _ v9 S9 h9) ⟨by omega, by omega⟩ (Nat.le_of_ble_eq_true rfl) dX9_kite_7 (fun v2 S3 => ?_)
  refine s_if_eq 22 dX9_kite_10 (by decide) (fun _ => ?_) (fun _ => ?_)
  · exact s_less (t_X9_kite_22   S3) trivial
  · refine s_iload_n 2 dX9_kite_13 rfl rfl ?_
    refine s_iconst (0 : Int32) dX9_kite_14 (by decide) ?_
    refine s_iconst (5 : Int32) dX9_kite_15 (by decide) ?_
    refine s_cS3I mk_X9_235 (fun v9 S9 h9 => con_X9_within F _ _ _ _ v9 S9 h9) ⟨by omega, by omega⟩ (Nat.le_of_ble_eq_true rfl) dX9_kite_16 (fun v4 S5 => ?_)
    refine s_if_ne 24 dX9_kite_19 (by decide) (fun _ => ?_) (fun _ => ?_)
    · refine s_aload_n 0 dX9_kite_24 rfl rfl ?_
      refine s_cV0V mk_X9_331 (by decide) rfl (fun v9 S9 h9 => con_X9_looksNow F _ _ v9 S9 h9) ⟨by omega, by omega⟩ (Nat.le_of_ble_eq_true rfl) dX9_kite_25 (fun _ S7 => ?_)
      refine s_iload_n 2 dX9_kite_28 rfl rfl ?_
      refine s_iconst (3 : Int32) dX9_kite_29 (by decide) ?_
      refine s_icmp_ge 67 dX9_kite_30 (by decide) (fun _ => ?_) (fun _ => ?_)
      · refine s_iload_n 2 dX9_kite_67 rfl rfl ?_
        refine s_iconst (3 : Int32) dX9_kite_68 (by decide) ?_
        refine s_icmp_ne 100 dX9_kite_69 (by decide) (fun _ => ?_) (fun _ => ?_)
        · refine s_iload_n 2 dX9_kite_100 rfl rfl ?_
          refine s_iconst (4 : Int32) dX9_kite_101 (by decide) ?_
          refine s_icmp_ne 119 dX9_kite_102 (by decide) (fun _ => ?_) (fun _ => ?_)
          · refine s_aload_n 0 dX9_kite_119 rfl rfl ?_
            refine s_getR fk_X9_81 rfl dX9_kite_120 (fun v8 => ?_)
            refine s_bipush (12 : Int32) dX9_kite_123 (by decide) ?_
            refine s_iload_n 1 dX9_kite_125 rfl rfl ?_
            refine s_iadd dX9_kite_126 ?_
            refine s_iald dX9_kite_127 (fun v9 => ?_)
            exact s_less (t_X9_kite_128  v9 S7) trivial
          · refine s_aload_n 0 dX9_kite_105 rfl rfl ?_
            refine s_getR fk_X9_81 rfl dX9_kite_106 (fun v10 => ?_)
            refine s_bipush (6 : Int32) dX9_kite_109 (by decide) ?_
            refine s_iload_n 1 dX9_kite_111 rfl rfl ?_
            refine s_iadd dX9_kite_112 ?_
            refine s_iald dX9_kite_113 (fun v11 => ?_)
            refine s_iconst (1 : Int32) dX9_kite_114 (by decide) ?_
            refine s_isub dX9_kite_115 ?_
            refine s_goto 128 dX9_kite_116 (by decide) ?_
            exact s_less (t_X9_kite_128  (v11 - (1 : Int32)) S7) trivial
        · refine s_aload_n 0 dX9_kite_72 rfl rfl ?_
          refine s_iload_n 1 dX9_kite_73 rfl rfl ?_
          refine s_cV1I mk_X9_292 (by decide) rfl (fun v9 S9 h9 => con_X9_isLost F _ _ _ v9 S9 h9) ⟨by omega, by omega⟩ (Nat.le_of_ble_eq_true rfl) dX9_kite_74 (fun v12 S13 => ?_)
          refine s_if_eq 84 dX9_kite_77 (by decide) (fun _ => ?_) (fun _ => ?_)
          · refine s_aload_n 0 dX9_kite_84 rfl rfl ?_
            refine s_iload_n 1 dX9_kite_85 rfl rfl ?_
            refine s_cV1I mk_X9_295 (by decide) rfl (fun v9 S9 h9 => con_X9_flies F _ _ _ v9 S9 h9) ⟨by omega, by omega⟩ (Nat.le_of_ble_eq_true rfl) dX9_kite_86 (fun v14 S15 => ?_)
            refine s_if_eq 96 dX9_kite_89 (by decide) (fun _ => ?_) (fun _ => ?_)
            · refine s_iconst (1 : Int32) dX9_kite_96 (by decide) ?_
              refine s_goto 128 dX9_kite_97 (by decide) ?_
              exact s_less (t_X9_kite_128  (1 : Int32) S15) trivial
            · refine s_iconst (0 : Int32) dX9_kite_92 (by decide) ?_
              refine s_goto 128 dX9_kite_93 (by decide) ?_
              exact s_less (t_X9_kite_128  (0 : Int32) S15) trivial
          · refine s_iconst (2 : Int32) dX9_kite_80 (by decide) ?_
            refine s_goto 128 dX9_kite_81 (by decide) ?_
            exact s_less (t_X9_kite_128  (2 : Int32) S13) trivial
      · refine s_iload_n 2 dX9_kite_33 rfl rfl ?_
        refine s_if_ne 46 dX9_kite_34 (by decide) (fun _ => ?_) (fun _ => ?_)
        · refine s_iload_n 2 dX9_kite_46 rfl rfl ?_
          refine s_iconst (1 : Int32) dX9_kite_47 (by decide) ?_
          refine s_icmp_ne 60 dX9_kite_48 (by decide) (fun _ => ?_) (fun _ => ?_)
          · refine s_aload_n 0 dX9_kite_60 rfl rfl ?_
            refine s_getR fk_X9_93 rfl dX9_kite_61 (fun v16 => ?_)
            refine s_iload_n 1 dX9_kite_64 rfl rfl ?_
            refine s_iald dX9_kite_65 (fun v17 => ?_)
            exact s_less (t_X9_kite_66  v17 S7) trivial
          · refine s_aload_n 0 dX9_kite_51 rfl rfl ?_
            refine s_getR fk_X9_81 rfl dX9_kite_52 (fun v18 => ?_)
            refine s_iload_n 1 dX9_kite_55 rfl rfl ?_
            refine s_iald dX9_kite_56 (fun v19 => ?_)
            refine s_goto 66 dX9_kite_57 (by decide) ?_
            exact s_less (t_X9_kite_66  v19 S7) trivial
        · refine s_aload_n 0 dX9_kite_37 rfl rfl ?_
          refine s_getR fk_X9_16 rfl dX9_kite_38 (fun v20 => ?_)
          refine s_iload_n 1 dX9_kite_41 rfl rfl ?_
          refine s_iald dX9_kite_42 (fun v21 => ?_)
          refine s_goto 66 dX9_kite_43 (by decide) ?_
          exact s_less (t_X9_kite_66  v21 S7) trivial
    · exact s_less (t_X9_kite_22   S5) trivial
-- X9_wind
def fn_X9_wind (F : Nat) (x0 : Nat) (x1 : Int32) (S : Mem) : Option (Int32 × Mem) :=
  (sI S 8 0 x0 (0 : Int32)).bind fun S1 =>
  bd ((fn_X9_isHigh F x1 S1)) fun v2 S3 =>
  if v2 = 0 then
    some ((-1 : Int32), S3)
  else
    (gR S3 8 36 x0).bind fun v4 =>
    (gA S3 10 v4 (19 : Int32)).bind fun v5 =>
    bd (cal S3 8 x0 (fn_X9_blows F x0 v5 (0 : Int32) S3)) fun _ S7 =>
    (gR S7 8 39 x0).bind fun v8 =>
    (gA S7 10 v8 x1).bind fun v9 =>
    some (v9, S7)
set_option maxRecDepth 100000 in
theorem con_X9_wind {l : Launch} (F : Nat) (x0 : Nat) (x1 : Int32) (S : Mem) (v : Int32) (S1 : Mem) (h : fn_X9_wind F x0 x1 S = some (v, S1)) : Con l yX9_wind cX9_wind 2 (some .int) 4 91 [.ref x0, .int x1] S (rI v) S1 := by
  refine con_of (ι := rI) RX9 false [some (.ref x0), some (.int x1)] rfl (fun h => by cases h) (by decide) (Nat.le_of_ble_eq_true rfl) ⟨rfl, rfl⟩ (fun Γ hl => ?_) h
  unfold fn_X9_wind
  refine s_aload_n 0 dX9_wind_0 rfl rfl ?_
  refine s_iconst (0 : Int32) dX9_wind_1 (by decide) ?_
  refine s_putI fk_X9_109 (Or.inl rfl) rfl dX9_wind_2 (fun S1 => ?_)
  refine s_iload_n 1 dX9_wind_5 rfl rfl ?_
  refine s_cS1I mk_X9_334 (fun v9 S9 h9 => con_X9_isHigh F _ _ v9 S9 h9) ⟨by omega, by omega⟩ (Nat.le_of_ble_eq_true rfl) dX9_wind_6 (fun v2 S3 => ?_)
  refine s_if_ne 14 dX9_wind_9 (by decide) (fun _ => ?_) (fun _ => ?_)
  · refine s_aload_n 0 dX9_wind_14 rfl rfl ?_
    refine s_aload_n 0 dX9_wind_15 rfl rfl ?_
    refine s_getR fk_X9_81 rfl dX9_wind_16 (fun v4 => ?_)
    refine s_bipush (19 : Int32) dX9_wind_19 (by decide) ?_
    refine s_iald dX9_wind_21 (fun v5 => ?_)
    refine s_iconst (0 : Int32) dX9_wind_22 (by decide) ?_
    refine s_cV2V mk_X9_319 (by decide) rfl (fun v9 S9 h9 => con_X9_blows F _ _ _ _ v9 S9 h9) ⟨by omega, by omega⟩ (Nat.le_of_ble_eq_true rfl) dX9_wind_23 (fun _ S7 => ?_)
    refine s_aload_n 0 dX9_wind_26 rfl rfl ?_
    refine s_getR fk_X9_90 rfl dX9_wind_27 (fun v8 => ?_)
    refine s_iload_n 1 dX9_wind_30 rfl rfl ?_
    refine s_iald dX9_wind_31 (fun v9 => ?_)
    exact s_iret dX9_wind_32
  · refine s_iconst (-1 : Int32) dX9_wind_12 (by decide) ?_
    exact s_iret dX9_wind_13
-- X9_lamp
def f_X9_lamp_72 (F : Nat) (y0 : Int32) (S : Mem) : Option (Int32 × Mem) :=
  some (y0, S)
def f_X9_lamp_26 (F : Nat) (x0 : Nat) (x1 : Int32) (x2 : Int32) (y0 : Nat) (y1 : Int32) (S : Mem) : Option (Int32 × Mem) :=
  (sI S 8 0 y0 y1).bind fun S1 =>
  (gI S1 8 0 x0).bind fun v2 =>
  if v2 = (1 : Int32) then
    some ((0 : Int32), S1)
  else
    bd (cal S1 8 x0 (fn_X9_looks F x0 x1 (0 : Int32) S1)) fun _ S4 =>
    if x2 = 0 then
      (gI S4 8 43 x0).bind fun v7 =>
      f_X9_lamp_72 F  v7 S4
    else
      if x2 = (1 : Int32) then
        (gI S4 8 42 x0).bind fun v6 =>
        f_X9_lamp_72 F  v6 S4
      else
        (gI S4 8 41 x0).bind fun v5 =>
        f_X9_lamp_72 F  v5 S4
def f_X9_lamp_25 (F : Nat) (x0 : Nat) (x1 : Int32) (x2 : Int32) (y0 : Nat) (S : Mem) : Option (Int32 × Mem) :=
  f_X9_lamp_26 F x0 x1 x2 y0 (1 : Int32) S
def fn_X9_lamp (F : Nat) (x0 : Nat) (x1 : Int32) (x2 : Int32) (S : Mem) : Option (Int32 × Mem) :=
  bd ((fn_X9_within F x1 (0 : Int32) (9999 : Int32) S)) fun v1 S2 =>
  if v1 = 0 then
    f_X9_lamp_25 F x0 x1 x2 x0 S2
  else
    bd ((fn_X9_within F x2 (0 : Int32) (2 : Int32) S2)) fun v3 S4 =>
    if v3 = 0 then
      f_X9_lamp_25 F x0 x1 x2 x0 S4
    else
      f_X9_lamp_26 F x0 x1 x2 x0 (0 : Int32) S4
set_option maxRecDepth 100000 in
theorem t_X9_lamp_72 {Γ : Cx} {F : Nat} : ∀ (y0 : Int32) (S : Mem), Sim cX9_lamp RX9 5 113 (some .int) false Γ rI (f_X9_lamp_72 F y0 S) S 72 [none, none, none] [.int y0] := by
  intro y0 S
  unfold f_X9_lamp_72
  exact s_iret dX9_lamp_72
set_option maxRecDepth 100000 in
theorem t_X9_lamp_26 {Γ : Cx} {F : Nat} : ∀ (x0 : Nat) (x1 : Int32) (x2 : Int32) (y0 : Nat) (y1 : Int32) (S : Mem), Sim cX9_lamp RX9 5 113 (some .int) false Γ rI (f_X9_lamp_26 F x0 x1 x2 y0 y1 S) S 26 [some (.ref x0), some (.int x1), some (.int x2)] [.int y1, .ref y0] := by
  intro x0 x1 x2 y0 y1 S
  unfold f_X9_lamp_26
  refine s_putI fk_X9_109 (Or.inl rfl) rfl dX9_lamp_26 (fun S1 => ?_)
  refine s_aload_n 0 dX9_lamp_29 rfl rfl ?_
  refine s_getI fk_X9_109 rfl dX9_lamp_30 (fun v2 => ?_)
  refine s_iconst (1 : Int32) dX9_lamp_33 (by decide) ?_
  refine s_icmp_ne 39 dX9_lamp_34 (by decide) (fun _ => ?_) (fun _ => ?_)
  · refine s_aload_n 0 dX9_lamp_39 rfl rfl ?_
    refine s_iload_n 1 dX9_lamp_40 rfl rfl ?_
    refine s_iconst (0 : Int32) dX9_lamp_41 (by decide) ?_
    refine s_cV2V mk_X9_325 (by decide) rfl (fun v9 S9 h9 => con_X9_looks F _ _ _ _ v9 S9 h9) ⟨by omega, by omega⟩ (Nat.le_of_ble_eq_true rfl) dX9_lamp_42 (fun _ S4 => ?_)
    refine s_iload_n 2 dX9_lamp_45 rfl rfl ?_
    refine s_if_ne 56 dX9_lamp_46 (by decide) (fun _ => ?_) (fun _ => ?_)
    · refine s_iload_n 2 dX9_lamp_56 rfl rfl ?_
      refine s_iconst (1 : Int32) dX9_lamp_57 (by decide) ?_
      refine s_icmp_ne 68 dX9_lamp_58 (by decide) (fun _ => ?_) (fun _ => ?_)
      · refine s_aload_n 0 dX9_lamp_68 rfl rfl ?_
        refine s_getI fk_X9_307 rfl dX9_lamp_69 (fun v5 => ?_)
        exact s_less (t_X9_lamp_72  v5 S4) trivial
      · refine s_aload_n 0 dX9_lamp_61 rfl rfl ?_
        refine s_getI fk_X9_313 rfl dX9_lamp_62 (fun v6 => ?_)
        refine s_goto 72 dX9_lamp_65 (by decide) ?_
        exact s_less (t_X9_lamp_72  v6 S4) trivial
    · refine s_aload_n 0 dX9_lamp_49 rfl rfl ?_
      refine s_getI fk_X9_316 rfl dX9_lamp_50 (fun v7 => ?_)
      refine s_goto 72 dX9_lamp_53 (by decide) ?_
      exact s_less (t_X9_lamp_72  v7 S4) trivial
  · refine s_iconst (0 : Int32) dX9_lamp_37 (by decide) ?_
    exact s_iret dX9_lamp_38
set_option maxRecDepth 100000 in
theorem t_X9_lamp_25 {Γ : Cx} {F : Nat} : ∀ (x0 : Nat) (x1 : Int32) (x2 : Int32) (y0 : Nat) (S : Mem), Sim cX9_lamp RX9 5 113 (some .int) false Γ rI (f_X9_lamp_25 F x0 x1 x2 y0 S) S 25 [some (.ref x0), some (.int x1), some (.int x2)] [.ref y0] := by
  intro x0 x1 x2 y0 S
  unfold f_X9_lamp_25
  refine s_iconst (1 : Int32) dX9_lamp_25 (by decide) ?_
  exact s_less (t_X9_lamp_26 x0 x1 x2 y0 (1 : Int32) S) (And.intro rfl (And.intro rfl (And.intro rfl trivial)))
set_option maxRecDepth 100000 in
theorem con_X9_lamp {l : Launch} (F : Nat) (x0 : Nat) (x1 : Int32) (x2 : Int32) (S : Mem) (v : Int32) (S1 : Mem) (h : fn_X9_lamp F x0 x1 x2 S = some (v, S1)) : Con l yX9_lamp cX9_lamp 3 (some .int) 5 113 [.ref x0, .int x1, .int x2] S (rI v) S1 := by
  refine con_of (ι := rI) RX9 false [some (.ref x0), some (.int x1), some (.int x2)] rfl (fun h => by cases h) (by decide) (Nat.le_of_ble_eq_true rfl) ⟨rfl, rfl⟩ (fun Γ hl => ?_) h
  unfold fn_X9_lamp
  refine s_aload_n 0 dX9_lamp_0 rfl rfl ?_
  refine s_iload_n 1 dX9_lamp_1 rfl rfl ?_
  refine s_iconst (0 : Int32) dX9_lamp_2 (by decide) ?_
  refine s_sipush (9999 : Int32) dX9_lamp_3 (by decide) ?_
  refine s_cS3I mk_X9_235 (fun v9 S9 h9 => con_X9_within F _ _ _ _ v9 S9 h9) ⟨by omega, by omega⟩ (Nat.le_of_ble_eq_true rfl) dX9_lamp_6 (fun v1 S2 => ?_)
  refine s_if_eq 25 dX9_lamp_9 (by decide) (fun _ => ?_) (fun _ => ?_)
  · exact s_less (t_X9_lamp_25 x0 x1 x2 x0 S2) (And.intro rfl (And.intro rfl (And.intro rfl trivial)))
  · refine s_iload_n 2 dX9_lamp_12 rfl rfl ?_
    refine s_iconst (0 : Int32) dX9_lamp_13 (by decide) ?_
    refine s_iconst (2 : Int32) dX9_lamp_14 (by decide) ?_
    refine s_cS3I mk_X9_235 (fun v9 S9 h9 => con_X9_within F _ _ _ _ v9 S9 h9) ⟨by omega, by omega⟩ (Nat.le_of_ble_eq_true rfl) dX9_lamp_15 (fun v3 S4 => ?_)
    refine s_if_eq 25 dX9_lamp_18 (by decide) (fun _ => ?_) (fun _ => ?_)
    · exact s_less (t_X9_lamp_25 x0 x1 x2 x0 S4) (And.intro rfl (And.intro rfl (And.intro rfl trivial)))
    · refine s_iconst (0 : Int32) dX9_lamp_21 (by decide) ?_
      refine s_goto 26 dX9_lamp_22 (by decide) ?_
      exact s_less (t_X9_lamp_26 x0 x1 x2 x0 (0 : Int32) S4) (And.intro rfl (And.intro rfl (And.intro rfl trivial)))
-- X9_whistle
def f_X9_whistle_65 (F : Nat) (y0 : Nat) (y1 : Int32) (y2 : Int32) (S : Mem) : Option (Int32 × Mem) :=
  (sA S y0 y1 y2).bind fun S1 =>
  rz (1 : Int32) S1
def f_X9_whistle_38 (F : Nat)  (S : Mem) : Option (Int32 × Mem) :=
  rz (0 : Int32) S
def fn_X9_whistle (F : Nat) (x0 : Nat) (x1 : Int32) (x2 : Int32) (S : Mem) : Option (Int32 × Mem) :=
  (sI S 8 0 x0 (0 : Int32)).bind fun S1 =>
  bd (cal S1 8 x0 (fn_X9_isKite F x0 x1 S1)) fun v2 S3 =>
  if v2 = 0 then
    f_X9_whistle_38 F   S3
  else
    bd ((fn_X9_isHigh F x2 S3)) fun v4 S5 =>
    if v4 = 0 then
      f_X9_whistle_38 F   S5
    else
      (gR S5 8 11 x0).bind fun v6 =>
      (gA S5 10 v6 x1).bind fun v7 =>
      if v7 = (4 : Int32) then
        f_X9_whistle_38 F   S5
      else
        bd (cal S5 8 x0 (fn_X9_isLost F x0 x1 S5)) fun v8 S9 =>
        if v8 = 0 then
          (gR S9 8 36 x0).bind fun v10 =>
          (gR S9 8 36 x0).bind fun v11 =>
          (gA S9 10 v11 x1).bind fun v12 =>
          if x2 = v12 then
            f_X9_whistle_65 F  v10 ((6 : Int32) + x1) (0 : Int32) S9
          else
            f_X9_whistle_65 F  v10 ((6 : Int32) + x1) ((1 : Int32) + x2) S9
        else
          f_X9_whistle_38 F   S9
set_option maxRecDepth 100000 in
theorem t_X9_whistle_65 {Γ : Cx} {F : Nat} : ∀ (y0 : Nat) (y1 : Int32) (y2 : Int32) (S : Mem), Sim cX9_whistle RX9 1 21 (some .boolean) false Γ rI (f_X9_whistle_65 F y0 y1 y2 S) S 65 [none, none, none] [.int y2, .int y1, .ref y0] := by
  intro y0 y1 y2 S
  unfold f_X9_whistle_65
  refine s_iast dX9_whistle_65 (fun S1 => ?_)
  refine s_iconst (1 : Int32) dX9_whistle_66 (by decide) ?_
  exact s_zret dX9_whistle_67
set_option maxRecDepth 100000 in
theorem t_X9_whistle_38 {Γ : Cx} {F : Nat} : ∀ (S : Mem), Sim cX9_whistle RX9 1 21 (some .boolean) false Γ rI (f_X9_whistle_38 F  S) S 38 [none, none, none] [] := by
  intro  S
  unfold f_X9_whistle_38
  refine s_iconst (0 : Int32) dX9_whistle_38 (by decide) ?_
  exact s_zret dX9_whistle_39
set_option maxRecDepth 100000 in
theorem con_X9_whistle {l : Launch} (F : Nat) (x0 : Nat) (x1 : Int32) (x2 : Int32) (S : Mem) (v : Int32) (S1 : Mem) (h : fn_X9_whistle F x0 x1 x2 S = some (v, S1)) : Con l yX9_whistle cX9_whistle 3 (some .boolean) 1 21 [.ref x0, .int x1, .int x2] S (rI v) S1 := by
  refine con_of (ι := rI) RX9 false [some (.ref x0), some (.int x1), some (.int x2)] rfl (fun h => by cases h) (by decide) (Nat.le_of_ble_eq_true rfl) ⟨rfl, rfl⟩ (fun Γ hl => ?_) h
  unfold fn_X9_whistle
  refine s_aload_n 0 dX9_whistle_0 rfl rfl ?_
  refine s_iconst (0 : Int32) dX9_whistle_1 (by decide) ?_
  refine s_putI fk_X9_109 (Or.inl rfl) rfl dX9_whistle_2 (fun S1 => ?_)
  refine s_aload_n 0 dX9_whistle_5 rfl rfl ?_
  refine s_iload_n 1 dX9_whistle_6 rfl rfl ?_
  refine s_cV1I mk_X9_328 (by decide) rfl (fun v9 S9 h9 => con_X9_isKite F _ _ _ v9 S9 h9) ⟨by omega, by omega⟩ (Nat.le_of_ble_eq_true rfl) dX9_whistle_7 (fun v2 S3 => ?_)
  refine s_if_eq 38 dX9_whistle_10 (by decide) (fun _ => ?_) (fun _ => ?_)
  · exact s_less (t_X9_whistle_38   S3) trivial
  · refine s_iload_n 2 dX9_whistle_13 rfl rfl ?_
    refine s_cS1I mk_X9_334 (fun v9 S9 h9 => con_X9_isHigh F _ _ v9 S9 h9) ⟨by omega, by omega⟩ (Nat.le_of_ble_eq_true rfl) dX9_whistle_14 (fun v4 S5 => ?_)
    refine s_if_eq 38 dX9_whistle_17 (by decide) (fun _ => ?_) (fun _ => ?_)
    · exact s_less (t_X9_whistle_38   S5) trivial
    · refine s_aload_n 0 dX9_whistle_20 rfl rfl ?_
      refine s_getR fk_X9_16 rfl dX9_whistle_21 (fun v6 => ?_)
      refine s_iload_n 1 dX9_whistle_24 rfl rfl ?_
      refine s_iald dX9_whistle_25 (fun v7 => ?_)
      refine s_iconst (4 : Int32) dX9_whistle_26 (by decide) ?_
      refine s_icmp_eq 38 dX9_whistle_27 (by decide) (fun _ => ?_) (fun _ => ?_)
      · exact s_less (t_X9_whistle_38   S5) trivial
      · refine s_aload_n 0 dX9_whistle_30 rfl rfl ?_
        refine s_iload_n 1 dX9_whistle_31 rfl rfl ?_
        refine s_cV1I mk_X9_292 (by decide) rfl (fun v9 S9 h9 => con_X9_isLost F _ _ _ v9 S9 h9) ⟨by omega, by omega⟩ (Nat.le_of_ble_eq_true rfl) dX9_whistle_32 (fun v8 S9 => ?_)
        refine s_if_eq 40 dX9_whistle_35 (by decide) (fun _ => ?_) (fun _ => ?_)
        · refine s_aload_n 0 dX9_whistle_40 rfl rfl ?_
          refine s_getR fk_X9_81 rfl dX9_whistle_41 (fun v10 => ?_)
          refine s_bipush (6 : Int32) dX9_whistle_44 (by decide) ?_
          refine s_iload_n 1 dX9_whistle_46 rfl rfl ?_
          refine s_iadd dX9_whistle_47 ?_
          refine s_iload_n 2 dX9_whistle_48 rfl rfl ?_
          refine s_aload_n 0 dX9_whistle_49 rfl rfl ?_
          refine s_getR fk_X9_81 rfl dX9_whistle_50 (fun v11 => ?_)
          refine s_iload_n 1 dX9_whistle_53 rfl rfl ?_
          refine s_iald dX9_whistle_54 (fun v12 => ?_)
          refine s_icmp_ne 62 dX9_whistle_55 (by decide) (fun _ => ?_) (fun _ => ?_)
          · refine s_iconst (1 : Int32) dX9_whistle_62 (by decide) ?_
            refine s_iload_n 2 dX9_whistle_63 rfl rfl ?_
            refine s_iadd dX9_whistle_64 ?_
            exact s_less (t_X9_whistle_65  v10 ((6 : Int32) + x1) ((1 : Int32) + x2) S9) trivial
          · refine s_iconst (0 : Int32) dX9_whistle_58 (by decide) ?_
            refine s_goto 65 dX9_whistle_59 (by decide) ?_
            exact s_less (t_X9_whistle_65  v10 ((6 : Int32) + x1) (0 : Int32) S9) trivial
        · exact s_less (t_X9_whistle_38   S9) trivial
-- X9_lose
def f_X9_lose_68 (F : Nat)  (S : Mem) : Option (Int32 × Mem) :=
  rz (1 : Int32) S
def f_X9_lose_22 (F : Nat)  (S : Mem) : Option (Int32 × Mem) :=
  rz (0 : Int32) S
def fn_X9_lose (F : Nat) (x0 : Nat) (x1 : Int32) (x2 : Int32) (S : Mem) : Option (Int32 × Mem) :=
  (sI S 8 0 x0 (0 : Int32)).bind fun S1 =>
  bd (cal S1 8 x0 (fn_X9_isKite F x0 x1 S1)) fun v2 S3 =>
  if v2 = 0 then
    f_X9_lose_22 F   S3
  else
    bd (cal S3 8 x0 (fn_X9_isLost F x0 x1 S3)) fun v4 S5 =>
    if v4 = x2 then
      (gR S5 8 36 x0).bind fun v6 =>
      (gA S5 10 v6 (18 : Int32)).bind fun v7 =>
      (sA S5 v6 (18 : Int32) (v7 ^^^ ((1 : Int32) <<< (x1 &&& 31)))).bind fun S8 =>
      (gR S8 8 36 x0).bind fun v9 =>
      (sA S8 v9 ((6 : Int32) + x1) (0 : Int32)).bind fun S10 =>
      (gR S10 8 36 x0).bind fun v11 =>
      (sA S10 v11 ((12 : Int32) + x1) (0 : Int32)).bind fun S12 =>
      if x2 = 0 then
        f_X9_lose_68 F   S12
      else
        (gR S12 8 36 x0).bind fun v13 =>
        (sA S12 v13 x1 (0 : Int32)).bind fun S14 =>
        f_X9_lose_68 F   S14
    else
      f_X9_lose_22 F   S5
set_option maxRecDepth 100000 in
theorem t_X9_lose_68 {Γ : Cx} {F : Nat} : ∀ (S : Mem), Sim cX9_lose RX9 1 21 (some .boolean) false Γ rI (f_X9_lose_68 F  S) S 68 [none, none, none] [] := by
  intro  S
  unfold f_X9_lose_68
  refine s_iconst (1 : Int32) dX9_lose_68 (by decide) ?_
  exact s_zret dX9_lose_69
set_option maxRecDepth 100000 in
theorem t_X9_lose_22 {Γ : Cx} {F : Nat} : ∀ (S : Mem), Sim cX9_lose RX9 1 21 (some .boolean) false Γ rI (f_X9_lose_22 F  S) S 22 [none, none, none] [] := by
  intro  S
  unfold f_X9_lose_22
  refine s_iconst (0 : Int32) dX9_lose_22 (by decide) ?_
  exact s_zret dX9_lose_23
set_option maxRecDepth 100000 in
theorem con_X9_lose {l : Launch} (F : Nat) (x0 : Nat) (x1 : Int32) (x2 : Int32) (S : Mem) (v : Int32) (S1 : Mem) (h : fn_X9_lose F x0 x1 x2 S = some (v, S1)) : Con l yX9_lose cX9_lose 3 (some .boolean) 1 21 [.ref x0, .int x1, .int x2] S (rI v) S1 := by
  refine con_of (ι := rI) RX9 false [some (.ref x0), some (.int x1), some (.int x2)] rfl (fun h => by cases h) (by decide) (Nat.le_of_ble_eq_true rfl) ⟨rfl, rfl⟩ (fun Γ hl => ?_) h
  unfold fn_X9_lose
  refine s_aload_n 0 dX9_lose_0 rfl rfl ?_
  refine s_iconst (0 : Int32) dX9_lose_1 (by decide) ?_
  refine s_putI fk_X9_109 (Or.inl rfl) rfl dX9_lose_2 (fun S1 => ?_)
  refine s_aload_n 0 dX9_lose_5 rfl rfl ?_
  refine s_iload_n 1 dX9_lose_6 rfl rfl ?_
  refine s_cV1I mk_X9_328 (by decide) rfl (fun v9 S9 h9 => con_X9_isKite F _ _ _ v9 S9 h9) ⟨by omega, by omega⟩ (Nat.le_of_ble_eq_true rfl) dX9_lose_7 (fun v2 S3 => ?_)
  refine s_if_eq 22 dX9_lose_10 (by decide) (fun _ => ?_) (fun _ => ?_)
  · exact s_less (t_X9_lose_22   S3) trivial
  · refine s_aload_n 0 dX9_lose_13 rfl rfl ?_
    refine s_iload_n 1 dX9_lose_14 rfl rfl ?_
    refine s_cV1I mk_X9_292 (by decide) rfl (fun v9 S9 h9 => con_X9_isLost F _ _ _ v9 S9 h9) ⟨by omega, by omega⟩ (Nat.le_of_ble_eq_true rfl) dX9_lose_15 (fun v4 S5 => ?_)
    refine s_iload_n 2 dX9_lose_18 rfl rfl ?_
    refine s_icmp_eq 24 dX9_lose_19 (by decide) (fun _ => ?_) (fun _ => ?_)
    · refine s_aload_n 0 dX9_lose_24 rfl rfl ?_
      refine s_getR fk_X9_81 rfl dX9_lose_25 (fun v6 => ?_)
      refine s_bipush (18 : Int32) dX9_lose_28 (by decide) ?_
      refine s_dup2 dX9_lose_30 rfl rfl ?_
      refine s_iald dX9_lose_31 (fun v7 => ?_)
      refine s_iconst (1 : Int32) dX9_lose_32 (by decide) ?_
      refine s_iload_n 1 dX9_lose_33 rfl rfl ?_
      refine s_ishl dX9_lose_34 ?_
      refine s_ixor dX9_lose_35 ?_
      refine s_iast dX9_lose_36 (fun S8 => ?_)
      refine s_aload_n 0 dX9_lose_37 rfl rfl ?_
      refine s_getR fk_X9_81 rfl dX9_lose_38 (fun v9 => ?_)
      refine s_bipush (6 : Int32) dX9_lose_41 (by decide) ?_
      refine s_iload_n 1 dX9_lose_43 rfl rfl ?_
      refine s_iadd dX9_lose_44 ?_
      refine s_iconst (0 : Int32) dX9_lose_45 (by decide) ?_
      refine s_iast dX9_lose_46 (fun S10 => ?_)
      refine s_aload_n 0 dX9_lose_47 rfl rfl ?_
      refine s_getR fk_X9_81 rfl dX9_lose_48 (fun v11 => ?_)
      refine s_bipush (12 : Int32) dX9_lose_51 (by decide) ?_
      refine s_iload_n 1 dX9_lose_53 rfl rfl ?_
      refine s_iadd dX9_lose_54 ?_
      refine s_iconst (0 : Int32) dX9_lose_55 (by decide) ?_
      refine s_iast dX9_lose_56 (fun S12 => ?_)
      refine s_iload_n 2 dX9_lose_57 rfl rfl ?_
      refine s_if_eq 68 dX9_lose_58 (by decide) (fun _ => ?_) (fun _ => ?_)
      · exact s_less (t_X9_lose_68   S12) trivial
      · refine s_aload_n 0 dX9_lose_61 rfl rfl ?_
        refine s_getR fk_X9_81 rfl dX9_lose_62 (fun v13 => ?_)
        refine s_iload_n 1 dX9_lose_65 rfl rfl ?_
        refine s_iconst (0 : Int32) dX9_lose_66 (by decide) ?_
        refine s_iast dX9_lose_67 (fun S14 => ?_)
        exact s_less (t_X9_lose_68   S14) trivial
    · exact s_less (t_X9_lose_22   S5) trivial
-- X9_rests
def f_X9_rests_46 (F : Nat) (y0 : Int32) (S : Mem) : Option (Int32 × Mem) :=
  rz y0 S
def f_X9_rests_45 (F : Nat)  (S : Mem) : Option (Int32 × Mem) :=
  f_X9_rests_46 F  (0 : Int32) S
def f_X9_rests_41 (F : Nat)  (S : Mem) : Option (Int32 × Mem) :=
  f_X9_rests_46 F  (1 : Int32) S
def fn_X9_rests (F : Nat) (x0 : Nat) (x1 : Int32) (S : Mem) : Option (Int32 × Mem) :=
  (gR S 8 36 x0).bind fun v1 =>
  (gA S 10 v1 ((12 : Int32) + x1)).bind fun v2 =>
  (gR S 8 10 x0).bind fun v3 =>
  (gA S 10 v3 (2 : Int32)).bind fun v4 =>
  if v4 ≤ v2 then
    f_X9_rests_41 F   S
  else
    (gR S 8 11 x0).bind fun v5 =>
    (gA S 10 v5 x1).bind fun v6 =>
    if v6 = (5 : Int32) then
      (gR S 8 36 x0).bind fun v7 =>
      (gA S 10 v7 (19 : Int32)).bind fun v8 =>
      if (v8 - v8 / (2 : Int32) * (2 : Int32)) = (1 : Int32) then
        f_X9_rests_41 F   S
      else
        f_X9_rests_45 F   S
    else
      f_X9_rests_45 F   S
set_option maxRecDepth 100000 in
theorem t_X9_rests_46 {Γ : Cx} {F : Nat} : ∀ (y0 : Int32) (S : Mem), Sim cX9_rests RX9 0 0 (some .boolean) false Γ rI (f_X9_rests_46 F y0 S) S 46 [none, none] [.int y0] := by
  intro y0 S
  unfold f_X9_rests_46
  exact s_zret dX9_rests_46
set_option maxRecDepth 100000 in
theorem t_X9_rests_45 {Γ : Cx} {F : Nat} : ∀ (S : Mem), Sim cX9_rests RX9 0 0 (some .boolean) false Γ rI (f_X9_rests_45 F  S) S 45 [none, none] [] := by
  intro  S
  unfold f_X9_rests_45
  refine s_iconst (0 : Int32) dX9_rests_45 (by decide) ?_
  exact s_less (t_X9_rests_46  (0 : Int32) S) trivial
set_option maxRecDepth 100000 in
theorem t_X9_rests_41 {Γ : Cx} {F : Nat} : ∀ (S : Mem), Sim cX9_rests RX9 0 0 (some .boolean) false Γ rI (f_X9_rests_41 F  S) S 41 [none, none] [] := by
  intro  S
  unfold f_X9_rests_41
  refine s_iconst (1 : Int32) dX9_rests_41 (by decide) ?_
  refine s_goto 46 dX9_rests_42 (by decide) ?_
  exact s_less (t_X9_rests_46  (1 : Int32) S) trivial
set_option maxRecDepth 100000 in
theorem con_X9_rests {l : Launch} (F : Nat) (x0 : Nat) (x1 : Int32) (S : Mem) (v : Int32) (S1 : Mem) (h : fn_X9_rests F x0 x1 S = some (v, S1)) : Con l yX9_rests cX9_rests 2 (some .boolean) 0 0 [.ref x0, .int x1] S (rI v) S1 := by
  refine con_of (ι := rI) RX9 false [some (.ref x0), some (.int x1)] rfl (fun h => by cases h) (by decide) (Nat.le_of_ble_eq_true rfl) ⟨rfl, rfl⟩ (fun Γ hl => ?_) h
  unfold fn_X9_rests
  refine s_aload_n 0 dX9_rests_0 rfl rfl ?_
  refine s_getR fk_X9_81 rfl dX9_rests_1 (fun v1 => ?_)
  refine s_bipush (12 : Int32) dX9_rests_4 (by decide) ?_
  refine s_iload_n 1 dX9_rests_6 rfl rfl ?_
  refine s_iadd dX9_rests_7 ?_
  refine s_iald dX9_rests_8 (fun v2 => ?_)
  refine s_aload_n 0 dX9_rests_9 rfl rfl ?_
  refine s_getR fk_X9_13 rfl dX9_rests_10 (fun v3 => ?_)
  refine s_iconst (2 : Int32) dX9_rests_13 (by decide) ?_
  refine s_iald dX9_rests_14 (fun v4 => ?_)
  refine s_icmp_ge 41 dX9_rests_15 (by decide) (fun _ => ?_) (fun _ => ?_)
  · exact s_less (t_X9_rests_41   S) trivial
  · refine s_aload_n 0 dX9_rests_18 rfl rfl ?_
    refine s_getR fk_X9_16 rfl dX9_rests_19 (fun v5 => ?_)
    refine s_iload_n 1 dX9_rests_22 rfl rfl ?_
    refine s_iald dX9_rests_23 (fun v6 => ?_)
    refine s_iconst (5 : Int32) dX9_rests_24 (by decide) ?_
    refine s_icmp_ne 45 dX9_rests_25 (by decide) (fun _ => ?_) (fun _ => ?_)
    · exact s_less (t_X9_rests_45   S) trivial
    · refine s_aload_n 0 dX9_rests_28 rfl rfl ?_
      refine s_getR fk_X9_81 rfl dX9_rests_29 (fun v7 => ?_)
      refine s_bipush (19 : Int32) dX9_rests_32 (by decide) ?_
      refine s_iald dX9_rests_34 (fun v8 => ?_)
      refine s_iconst (2 : Int32) dX9_rests_35 (by decide) ?_
      refine s_iremc dX9_rests_36 (by decide) ?_
      refine s_iconst (1 : Int32) dX9_rests_37 (by decide) ?_
      refine s_icmp_ne 45 dX9_rests_38 (by decide) (fun _ => ?_) (fun _ => ?_)
      · exact s_less (t_X9_rests_45   S) trivial
      · exact s_less (t_X9_rests_41   S) trivial
-- X9_hauls
def fn_X9_hauls (F : Nat) (x0 : Nat) (x1 : Int32) (S : Mem) : Option (Int32 × Mem) :=
  (gR S 8 10 x0).bind fun v1 =>
  (gA S 10 v1 (1 : Int32)).bind fun v2 =>
  (gR S 8 36 x0).bind fun v3 =>
  (gA S 10 v3 ((6 : Int32) + x1)).bind fun v4 =>
  if v4 ≤ 0 then
    (gR S 8 18 x0).bind fun v5 =>
    (gA S 10 v5 (1 : Int32)).bind fun v6 =>
    (gR S 8 17 x0).bind fun v7 =>
    (gA S 10 v7 (1 : Int32)).bind fun v8 =>
    if v6 = v8 then
      some ((0 : Int32), S)
    else
      (gR S 8 34 x0).bind fun v9 =>
      (gR S 8 36 x0).bind fun v10 =>
      (gA S 10 v10 x1).bind fun v11 =>
      (sA S v9 (1 : Int32) v11).bind fun S12 =>
      (gR S12 8 34 x0).bind fun v13 =>
      (gR S12 8 40 x0).bind fun v14 =>
      (gA S12 10 v14 x1).bind fun v15 =>
      (sA S12 v13 (2 : Int32) v15).bind fun S16 =>
      (gR S16 8 34 x0).bind fun v17 =>
      (gI S16 8 42 x0).bind fun v18 =>
      (sA S16 v17 (3 : Int32) v18).bind fun S19 =>
      (gR S19 8 34 x0).bind fun v20 =>
      (gI S19 8 43 x0).bind fun v21 =>
      (gR S19 8 12 x0).bind fun v22 =>
      (gA S19 10 v22 x1).bind fun v23 =>
      (sA S19 v20 (4 : Int32) (v21 - v23)).bind fun S24 =>
      (gR S24 8 34 x0).bind fun v25 =>
      (gR S24 8 39 x0).bind fun v26 =>
      (gR S24 8 36 x0).bind fun v27 =>
      (gA S24 10 v27 x1).bind fun v28 =>
      (gA S24 10 v26 v28).bind fun v29 =>
      (sA S24 v25 (5 : Int32) v29).bind fun S30 =>
      (gR S30 8 34 x0).bind fun v31 =>
      (gR S30 8 36 x0).bind fun v32 =>
      (gA S30 10 v32 (19 : Int32)).bind fun v33 =>
      (sA S30 v31 (6 : Int32) v33).bind fun S34 =>
      bd (cal S34 8 x0 (fn_X9_worked F x0 (1 : Int32) S34)) fun v35 S36 =>
      bd ((fn_X9_between F v35 (-v2) v2 S36)) fun v37 S38 =>
      some (v37, S38)
  else
    (gR S 8 36 x0).bind fun v39 =>
    (gA S 10 v39 ((6 : Int32) + x1)).bind fun v40 =>
    (gR S 8 36 x0).bind fun v41 =>
    (gA S 10 v41 x1).bind fun v42 =>
    bd ((fn_X9_between F ((v40 - (1 : Int32)) - v42) (-v2) v2 S)) fun v43 S44 =>
    some (v43, S44)
set_option maxRecDepth 100000 in
theorem con_X9_hauls {l : Launch} (F : Nat) (x0 : Nat) (x1 : Int32) (S : Mem) (v : Int32) (S1 : Mem) (h : fn_X9_hauls F x0 x1 S = some (v, S1)) : Con l yX9_hauls cX9_hauls 3 (some .int) 3 68 [.ref x0, .int x1] S (rI v) S1 := by
  refine con_of (ι := rI) RX9 false [some (.ref x0), some (.int x1), none] rfl (fun h => by cases h) (by decide) (Nat.le_of_ble_eq_true rfl) ⟨rfl, rfl⟩ (fun Γ hl => ?_) h
  unfold fn_X9_hauls
  refine s_aload_n 0 dX9_hauls_0 rfl rfl ?_
  refine s_getR fk_X9_13 rfl dX9_hauls_1 (fun v1 => ?_)
  refine s_iconst (1 : Int32) dX9_hauls_4 (by decide) ?_
  refine s_iald dX9_hauls_5 (fun v2 => ?_)
  refine s_istore_2 dX9_hauls_6 rfl ?_
  refine s_aload_n 0 dX9_hauls_7 rfl rfl ?_
  refine s_getR fk_X9_81 rfl dX9_hauls_8 (fun v3 => ?_)
  refine s_bipush (6 : Int32) dX9_hauls_11 (by decide) ?_
  refine s_iload_n 1 dX9_hauls_13 rfl rfl ?_
  refine s_iadd dX9_hauls_14 ?_
  refine s_iald dX9_hauls_15 (fun v4 => ?_)
  refine s_if_le 44 dX9_hauls_16 (by decide) (fun _ => ?_) (fun _ => ?_)
  · refine s_aload_n 0 dX9_hauls_44 rfl rfl ?_
    refine s_getR fk_X9_38 rfl dX9_hauls_45 (fun v5 => ?_)
    refine s_iconst (1 : Int32) dX9_hauls_48 (by decide) ?_
    refine s_iald dX9_hauls_49 (fun v6 => ?_)
    refine s_aload_n 0 dX9_hauls_50 rfl rfl ?_
    refine s_getR fk_X9_35 rfl dX9_hauls_51 (fun v7 => ?_)
    refine s_iconst (1 : Int32) dX9_hauls_54 (by decide) ?_
    refine s_iald dX9_hauls_55 (fun v8 => ?_)
    refine s_icmp_ne 61 dX9_hauls_56 (by decide) (fun _ => ?_) (fun _ => ?_)
    · refine s_aload_n 0 dX9_hauls_61 rfl rfl ?_
      refine s_getR fk_X9_78 rfl dX9_hauls_62 (fun v9 => ?_)
      refine s_iconst (1 : Int32) dX9_hauls_65 (by decide) ?_
      refine s_aload_n 0 dX9_hauls_66 rfl rfl ?_
      refine s_getR fk_X9_81 rfl dX9_hauls_67 (fun v10 => ?_)
      refine s_iload_n 1 dX9_hauls_70 rfl rfl ?_
      refine s_iald dX9_hauls_71 (fun v11 => ?_)
      refine s_iast dX9_hauls_72 (fun S12 => ?_)
      refine s_aload_n 0 dX9_hauls_73 rfl rfl ?_
      refine s_getR fk_X9_78 rfl dX9_hauls_74 (fun v13 => ?_)
      refine s_iconst (2 : Int32) dX9_hauls_77 (by decide) ?_
      refine s_aload_n 0 dX9_hauls_78 rfl rfl ?_
      refine s_getR fk_X9_93 rfl dX9_hauls_79 (fun v14 => ?_)
      refine s_iload_n 1 dX9_hauls_82 rfl rfl ?_
      refine s_iald dX9_hauls_83 (fun v15 => ?_)
      refine s_iast dX9_hauls_84 (fun S16 => ?_)
      refine s_aload_n 0 dX9_hauls_85 rfl rfl ?_
      refine s_getR fk_X9_78 rfl dX9_hauls_86 (fun v17 => ?_)
      refine s_iconst (3 : Int32) dX9_hauls_89 (by decide) ?_
      refine s_aload_n 0 dX9_hauls_90 rfl rfl ?_
      refine s_getI fk_X9_313 rfl dX9_hauls_91 (fun v18 => ?_)
      refine s_iast dX9_hauls_94 (fun S19 => ?_)
      refine s_aload_n 0 dX9_hauls_95 rfl rfl ?_
      refine s_getR fk_X9_78 rfl dX9_hauls_96 (fun v20 => ?_)
      refine s_iconst (4 : Int32) dX9_hauls_99 (by decide) ?_
      refine s_aload_n 0 dX9_hauls_100 rfl rfl ?_
      refine s_getI fk_X9_316 rfl dX9_hauls_101 (fun v21 => ?_)
      refine s_aload_n 0 dX9_hauls_104 rfl rfl ?_
      refine s_getR fk_X9_19 rfl dX9_hauls_105 (fun v22 => ?_)
      refine s_iload_n 1 dX9_hauls_108 rfl rfl ?_
      refine s_iald dX9_hauls_109 (fun v23 => ?_)
      refine s_isub dX9_hauls_110 ?_
      refine s_iast dX9_hauls_111 (fun S24 => ?_)
      refine s_aload_n 0 dX9_hauls_112 rfl rfl ?_
      refine s_getR fk_X9_78 rfl dX9_hauls_113 (fun v25 => ?_)
      refine s_iconst (5 : Int32) dX9_hauls_116 (by decide) ?_
      refine s_aload_n 0 dX9_hauls_117 rfl rfl ?_
      refine s_getR fk_X9_90 rfl dX9_hauls_118 (fun v26 => ?_)
      refine s_aload_n 0 dX9_hauls_121 rfl rfl ?_
      refine s_getR fk_X9_81 rfl dX9_hauls_122 (fun v27 => ?_)
      refine s_iload_n 1 dX9_hauls_125 rfl rfl ?_
      refine s_iald dX9_hauls_126 (fun v28 => ?_)
      refine s_iald dX9_hauls_127 (fun v29 => ?_)
      refine s_iast dX9_hauls_128 (fun S30 => ?_)
      refine s_aload_n 0 dX9_hauls_129 rfl rfl ?_
      refine s_getR fk_X9_78 rfl dX9_hauls_130 (fun v31 => ?_)
      refine s_bipush (6 : Int32) dX9_hauls_133 (by decide) ?_
      refine s_aload_n 0 dX9_hauls_135 rfl rfl ?_
      refine s_getR fk_X9_81 rfl dX9_hauls_136 (fun v32 => ?_)
      refine s_bipush (19 : Int32) dX9_hauls_139 (by decide) ?_
      refine s_iald dX9_hauls_141 (fun v33 => ?_)
      refine s_iast dX9_hauls_142 (fun S34 => ?_)
      refine s_aload_n 0 dX9_hauls_143 rfl rfl ?_
      refine s_iconst (1 : Int32) dX9_hauls_144 (by decide) ?_
      refine s_cV1I mk_X9_285 (by decide) rfl (fun v9 S9 h9 => con_X9_worked F _ _ _ v9 S9 h9) ⟨by omega, by omega⟩ (Nat.le_of_ble_eq_true rfl) dX9_hauls_145 (fun v35 S36 => ?_)
      refine s_iload_n 2 dX9_hauls_148 rfl rfl ?_
      refine s_ineg dX9_hauls_149 ?_
      refine s_iload_n 2 dX9_hauls_150 rfl rfl ?_
      refine s_cS3I mk_X9_288 (fun v9 S9 h9 => con_X9_between F _ _ _ _ v9 S9 h9) ⟨by omega, by omega⟩ (Nat.le_of_ble_eq_true rfl) dX9_hauls_151 (fun v37 S38 => ?_)
      exact s_iret dX9_hauls_154
    · refine s_iconst (0 : Int32) dX9_hauls_59 (by decide) ?_
      exact s_iret dX9_hauls_60
  · refine s_aload_n 0 dX9_hauls_19 rfl rfl ?_
    refine s_getR fk_X9_81 rfl dX9_hauls_20 (fun v39 => ?_)
    refine s_bipush (6 : Int32) dX9_hauls_23 (by decide) ?_
    refine s_iload_n 1 dX9_hauls_25 rfl rfl ?_
    refine s_iadd dX9_hauls_26 ?_
    refine s_iald dX9_hauls_27 (fun v40 => ?_)
    refine s_iconst (1 : Int32) dX9_hauls_28 (by decide) ?_
    refine s_isub dX9_hauls_29 ?_
    refine s_aload_n 0 dX9_hauls_30 rfl rfl ?_
    refine s_getR fk_X9_81 rfl dX9_hauls_31 (fun v41 => ?_)
    refine s_iload_n 1 dX9_hauls_34 rfl rfl ?_
    refine s_iald dX9_hauls_35 (fun v42 => ?_)
    refine s_isub dX9_hauls_36 ?_
    refine s_iload_n 2 dX9_hauls_37 rfl rfl ?_
    refine s_ineg dX9_hauls_38 ?_
    refine s_iload_n 2 dX9_hauls_39 rfl rfl ?_
    refine s_cS3I mk_X9_288 (fun v9 S9 h9 => con_X9_between F _ _ _ _ v9 S9 h9) ⟨by omega, by omega⟩ (Nat.le_of_ble_eq_true rfl) dX9_hauls_40 (fun v43 S44 => ?_)
    exact s_iret dX9_hauls_43
-- X9_changes
def f_X9_changes_104 (F : Nat) (k2 : Nat → Int32 → Mem → Option (Unit × Mem)) (x0 : Nat) (x1 : Int32) (S : Mem) : Option (Unit × Mem) :=
  k2 x0 (x1 + (1 : Int32)) S
def f_X9_changes_61 (F : Nat) (k2 : Nat → Int32 → Mem → Option (Unit × Mem)) (x0 : Nat) (x1 : Int32) (y0 : Nat) (y1 : Int32) (y2 : Int32) (S : Mem) : Option (Unit × Mem) :=
  (sA S y0 y1 y2).bind fun S1 =>
  (gR S1 8 36 x0).bind fun v2 =>
  (gR S1 8 44 x0).bind fun v3 =>
  (gA S1 10 v3 x1).bind fun v4 =>
  (sA S1 v2 x1 v4).bind fun S5 =>
  (gR S5 8 36 x0).bind fun v6 =>
  (gA S5 10 v6 ((6 : Int32) + x1)).bind fun v7 =>
  (gR S5 8 36 x0).bind fun v8 =>
  (gA S5 10 v8 x1).bind fun v9 =>
  if (v7 - (1 : Int32)) = v9 then
    (gR S5 8 36 x0).bind fun v10 =>
    (sA S5 v10 ((6 : Int32) + x1) (0 : Int32)).bind fun S11 =>
    f_X9_changes_104 F k2 x0 x1  S11
  else
    f_X9_changes_104 F k2 x0 x1  S5
def b_X9_changes_2 (F : Nat) (k2 : Nat → Int32 → Mem → Option (Unit × Mem)) (x0 : Nat) (x1 : Int32) (S : Mem) : Option (Unit × Mem) :=
  (gR S 8 10 x0).bind fun v1 =>
  (gA S 10 v1 (4 : Int32)).bind fun v2 =>
  if v2 ≤ x1 then
    (gR S 8 36 x0).bind fun v3 =>
    (gA S 10 v3 (19 : Int32)).bind fun v4 =>
    (sA S v3 (19 : Int32) (v4 + (1 : Int32))).bind fun S5 =>
    some ((), S5)
  else
    bd (cal S 8 x0 (fn_X9_isLost F x0 x1 S)) fun v6 S7 =>
    if v6 = 0 then
      (gR S7 8 36 x0).bind fun v8 =>
      (gR S7 8 44 x0).bind fun v9 =>
      (gA S7 10 v9 x1).bind fun v10 =>
      (gR S7 8 36 x0).bind fun v11 =>
      (gA S7 10 v11 x1).bind fun v12 =>
      if v10 = v12 then
        f_X9_changes_61 F k2 x0 x1 v8 ((12 : Int32) + x1) (0 : Int32) S7
      else
        (gR S7 8 36 x0).bind fun v13 =>
        (gA S7 10 v13 ((12 : Int32) + x1)).bind fun v14 =>
        f_X9_changes_61 F k2 x0 x1 v8 ((12 : Int32) + x1) (v14 + (1 : Int32)) S7
    else
      f_X9_changes_104 F k2 x0 x1  S7
def fn_X9_changes (F : Nat) (x0 : Nat) (S : Mem) : Option (Unit × Mem) :=
  fix2 (b_X9_changes_2 F) F x0 (0 : Int32) S
set_option maxRecDepth 100000 in
theorem t_X9_changes_104 {Γ : Cx} {F : Nat} {k2 : Nat → Int32 → Mem → Option (Unit × Mem)} (hk2 : ∀ (x0 : Nat) (x1 : Int32) (S : Mem), Sim cX9_changes RX9 1 21 none false Γ rV (k2 x0 x1 S) S 2 [some (.ref x0), some (.int x1)] []) : ∀ (x0 : Nat) (x1 : Int32) (S : Mem), Sim cX9_changes RX9 1 21 none false Γ rV (f_X9_changes_104 F k2 x0 x1 S) S 104 [some (.ref x0), some (.int x1)] [] := by
  intro x0 x1 S
  unfold f_X9_changes_104
  refine s_iinc_1 (1 : Int32) dX9_changes_104 (by decide) rfl ?_
  refine s_goto 2 dX9_changes_107 (by decide) ?_
  exact s_less (hk2 x0 (x1 + (1 : Int32)) S) (And.intro rfl (And.intro rfl trivial))
set_option maxRecDepth 100000 in
theorem t_X9_changes_61 {Γ : Cx} {F : Nat} {k2 : Nat → Int32 → Mem → Option (Unit × Mem)} (hk2 : ∀ (x0 : Nat) (x1 : Int32) (S : Mem), Sim cX9_changes RX9 1 21 none false Γ rV (k2 x0 x1 S) S 2 [some (.ref x0), some (.int x1)] []) : ∀ (x0 : Nat) (x1 : Int32) (y0 : Nat) (y1 : Int32) (y2 : Int32) (S : Mem), Sim cX9_changes RX9 1 21 none false Γ rV (f_X9_changes_61 F k2 x0 x1 y0 y1 y2 S) S 61 [some (.ref x0), some (.int x1)] [.int y2, .int y1, .ref y0] := by
  intro x0 x1 y0 y1 y2 S
  unfold f_X9_changes_61
  refine s_iast dX9_changes_61 (fun S1 => ?_)
  refine s_aload_n 0 dX9_changes_62 rfl rfl ?_
  refine s_getR fk_X9_81 rfl dX9_changes_63 (fun v2 => ?_)
  refine s_iload_n 1 dX9_changes_66 rfl rfl ?_
  refine s_aload_n 0 dX9_changes_67 rfl rfl ?_
  refine s_getR fk_X9_96 rfl dX9_changes_68 (fun v3 => ?_)
  refine s_iload_n 1 dX9_changes_71 rfl rfl ?_
  refine s_iald dX9_changes_72 (fun v4 => ?_)
  refine s_iast dX9_changes_73 (fun S5 => ?_)
  refine s_aload_n 0 dX9_changes_74 rfl rfl ?_
  refine s_getR fk_X9_81 rfl dX9_changes_75 (fun v6 => ?_)
  refine s_bipush (6 : Int32) dX9_changes_78 (by decide) ?_
  refine s_iload_n 1 dX9_changes_80 rfl rfl ?_
  refine s_iadd dX9_changes_81 ?_
  refine s_iald dX9_changes_82 (fun v7 => ?_)
  refine s_iconst (1 : Int32) dX9_changes_83 (by decide) ?_
  refine s_isub dX9_changes_84 ?_
  refine s_aload_n 0 dX9_changes_85 rfl rfl ?_
  refine s_getR fk_X9_81 rfl dX9_changes_86 (fun v8 => ?_)
  refine s_iload_n 1 dX9_changes_89 rfl rfl ?_
  refine s_iald dX9_changes_90 (fun v9 => ?_)
  refine s_icmp_ne 104 dX9_changes_91 (by decide) (fun _ => ?_) (fun _ => ?_)
  · exact s_less (t_X9_changes_104 hk2 x0 x1  S5) (And.intro rfl (And.intro rfl trivial))
  · refine s_aload_n 0 dX9_changes_94 rfl rfl ?_
    refine s_getR fk_X9_81 rfl dX9_changes_95 (fun v10 => ?_)
    refine s_bipush (6 : Int32) dX9_changes_98 (by decide) ?_
    refine s_iload_n 1 dX9_changes_100 rfl rfl ?_
    refine s_iadd dX9_changes_101 ?_
    refine s_iconst (0 : Int32) dX9_changes_102 (by decide) ?_
    refine s_iast dX9_changes_103 (fun S11 => ?_)
    exact s_less (t_X9_changes_104 hk2 x0 x1  S11) (And.intro rfl (And.intro rfl trivial))
set_option maxRecDepth 100000 in
theorem t_X9_changes_2 {Γ : Cx} {F : Nat} : ∀ (f : Nat) (x0 : Nat) (x1 : Int32) (S : Mem), Sim cX9_changes RX9 1 21 none false Γ rV (fix2 (b_X9_changes_2 F) f x0 x1 S) S 2 [some (.ref x0), some (.int x1)] [] := by
  refine s_fix2 (fun (x0 : Nat) (x1 : Int32) => [some (.ref x0), some (.int x1)]) (fun k2 hk2 => ?_)
  intro x0 x1 S
  unfold b_X9_changes_2
  refine s_iload_n 1 dX9_changes_2 rfl rfl ?_
  refine s_aload_n 0 dX9_changes_3 rfl rfl ?_
  refine s_getR fk_X9_13 rfl dX9_changes_4 (fun v1 => ?_)
  refine s_iconst (4 : Int32) dX9_changes_7 (by decide) ?_
  refine s_iald dX9_changes_8 (fun v2 => ?_)
  refine s_icmp_ge 110 dX9_changes_9 (by decide) (fun _ => ?_) (fun _ => ?_)
  · refine s_aload_n 0 dX9_changes_110 rfl rfl ?_
    refine s_getR fk_X9_81 rfl dX9_changes_111 (fun v3 => ?_)
    refine s_bipush (19 : Int32) dX9_changes_114 (by decide) ?_
    refine s_dup2 dX9_changes_116 rfl rfl ?_
    refine s_iald dX9_changes_117 (fun v4 => ?_)
    refine s_iconst (1 : Int32) dX9_changes_118 (by decide) ?_
    refine s_iadd dX9_changes_119 ?_
    refine s_iast dX9_changes_120 (fun S5 => ?_)
    exact s_vret dX9_changes_121
  · refine s_aload_n 0 dX9_changes_12 rfl rfl ?_
    refine s_iload_n 1 dX9_changes_13 rfl rfl ?_
    refine s_cV1I mk_X9_292 (by decide) rfl (fun v9 S9 h9 => con_X9_isLost F _ _ _ v9 S9 h9) ⟨by omega, by omega⟩ (Nat.le_of_ble_eq_true rfl) dX9_changes_14 (fun v6 S7 => ?_)
    refine s_if_eq 23 dX9_changes_17 (by decide) (fun _ => ?_) (fun _ => ?_)
    · refine s_aload_n 0 dX9_changes_23 rfl rfl ?_
      refine s_getR fk_X9_81 rfl dX9_changes_24 (fun v8 => ?_)
      refine s_bipush (12 : Int32) dX9_changes_27 (by decide) ?_
      refine s_iload_n 1 dX9_changes_29 rfl rfl ?_
      refine s_iadd dX9_changes_30 ?_
      refine s_aload_n 0 dX9_changes_31 rfl rfl ?_
      refine s_getR fk_X9_96 rfl dX9_changes_32 (fun v9 => ?_)
      refine s_iload_n 1 dX9_changes_35 rfl rfl ?_
      refine s_iald dX9_changes_36 (fun v10 => ?_)
      refine s_aload_n 0 dX9_changes_37 rfl rfl ?_
      refine s_getR fk_X9_81 rfl dX9_changes_38 (fun v11 => ?_)
      refine s_iload_n 1 dX9_changes_41 rfl rfl ?_
      refine s_iald dX9_changes_42 (fun v12 => ?_)
      refine s_icmp_ne 50 dX9_changes_43 (by decide) (fun _ => ?_) (fun _ => ?_)
      · refine s_aload_n 0 dX9_changes_50 rfl rfl ?_
        refine s_getR fk_X9_81 rfl dX9_changes_51 (fun v13 => ?_)
        refine s_bipush (12 : Int32) dX9_changes_54 (by decide) ?_
        refine s_iload_n 1 dX9_changes_56 rfl rfl ?_
        refine s_iadd dX9_changes_57 ?_
        refine s_iald dX9_changes_58 (fun v14 => ?_)
        refine s_iconst (1 : Int32) dX9_changes_59 (by decide) ?_
        refine s_iadd dX9_changes_60 ?_
        exact s_less (t_X9_changes_61 hk2 x0 x1 v8 ((12 : Int32) + x1) (v14 + (1 : Int32)) S7) (And.intro rfl (And.intro rfl trivial))
      · refine s_iconst (0 : Int32) dX9_changes_46 (by decide) ?_
        refine s_goto 61 dX9_changes_47 (by decide) ?_
        exact s_less (t_X9_changes_61 hk2 x0 x1 v8 ((12 : Int32) + x1) (0 : Int32) S7) (And.intro rfl (And.intro rfl trivial))
    · refine s_goto 104 dX9_changes_20 (by decide) ?_
      exact s_less (t_X9_changes_104 hk2 x0 x1  S7) (And.intro rfl (And.intro rfl trivial))
set_option maxRecDepth 100000 in
theorem con_X9_changes {l : Launch} (F : Nat) (x0 : Nat) (S : Mem) (v : Unit) (S1 : Mem) (h : fn_X9_changes F x0 S = some (v, S1)) : Con l yX9_changes cX9_changes 2 none 1 21 [.ref x0] S (rV v) S1 := by
  refine con_of (ι := rV) RX9 false [some (.ref x0), none] rfl (fun h => by cases h) (by decide) (Nat.le_of_ble_eq_true rfl) ⟨rfl, rfl⟩ (fun Γ hl => ?_) h
  unfold fn_X9_changes
  refine s_iconst (0 : Int32) dX9_changes_0 (by decide) ?_
  refine s_istore_1 dX9_changes_1 rfl ?_
  exact s_less (t_X9_changes_2 F x0 (0 : Int32) S) (And.intro rfl (And.intro rfl trivial))
-- X9_passes
def f_X9_passes_72 (F : Nat) (k14 : Nat → Int32 → Mem → Option (Unit × Mem)) (x0 : Nat) (x2 : Int32) (y0 : Nat) (y1 : Int32) (y2 : Int32) (S : Mem) : Option (Unit × Mem) :=
  (sA S y0 y1 y2).bind fun S1 =>
  k14 x0 (x2 + (1 : Int32)) S1
def f_X9_passes_45 (F : Nat) (k14 : Nat → Int32 → Mem → Option (Unit × Mem)) (x0 : Nat) (x2 : Int32) (y0 : Nat) (y1 : Int32) (S : Mem) : Option (Unit × Mem) :=
  (gR S 8 36 x0).bind fun v1 =>
  (gA S 10 v1 x2).bind fun v2 =>
  f_X9_passes_72 F k14 x0 x2 y0 y1 v2 S
def b_X9_passes_14 (F : Nat) (k14 : Nat → Int32 → Mem → Option (Unit × Mem)) (x0 : Nat) (x2 : Int32) (S : Mem) : Option (Unit × Mem) :=
  (gR S 8 10 x0).bind fun v1 =>
  (gA S 10 v1 (4 : Int32)).bind fun v2 =>
  if v2 ≤ x2 then
    bd (cal S 8 x0 (fn_X9_changes F x0 S)) fun _ S4 =>
    some ((), S4)
  else
    (gR S 8 44 x0).bind fun v5 =>
    bd (cal S 8 x0 (fn_X9_isLost F x0 x2 S)) fun v6 S7 =>
    if v6 = 0 then
      bd (cal S7 8 x0 (fn_X9_rests F x0 x2 S7)) fun v8 S9 =>
      if v8 = 0 then
        (gR S9 8 36 x0).bind fun v10 =>
        (gA S9 10 v10 x2).bind fun v11 =>
        bd (cal S9 8 x0 (fn_X9_hauls F x0 x2 S9)) fun v12 S13 =>
        bd ((fn_X9_between F (v11 + v12) (0 : Int32) (40 : Int32) S13)) fun v14 S15 =>
        f_X9_passes_72 F k14 x0 x2 v5 x2 v14 S15
      else
        f_X9_passes_45 F k14 x0 x2 v5 x2 S9
    else
      f_X9_passes_45 F k14 x0 x2 v5 x2 S7
def fn_X9_passes (F : Nat) (x0 : Nat) (x1 : Int32) (S : Mem) : Option (Unit × Mem) :=
  (gR S 8 36 x0).bind fun v1 =>
  (gA S 10 v1 (19 : Int32)).bind fun v2 =>
  bd (cal S 8 x0 (fn_X9_looks F x0 v2 x1 S)) fun _ S4 =>
  fix2 (b_X9_passes_14 F) F x0 (0 : Int32) S4
set_option maxRecDepth 100000 in
theorem t_X9_passes_72 {Γ : Cx} {F : Nat} {k14 : Nat → Int32 → Mem → Option (Unit × Mem)} (hk14 : ∀ (x0 : Nat) (x2 : Int32) (S : Mem), Sim cX9_passes RX9 5 113 none false Γ rV (k14 x0 x2 S) S 14 [some (.ref x0), none, some (.int x2)] []) : ∀ (x0 : Nat) (x2 : Int32) (y0 : Nat) (y1 : Int32) (y2 : Int32) (S : Mem), Sim cX9_passes RX9 5 113 none false Γ rV (f_X9_passes_72 F k14 x0 x2 y0 y1 y2 S) S 72 [some (.ref x0), none, some (.int x2)] [.int y2, .int y1, .ref y0] := by
  intro x0 x2 y0 y1 y2 S
  unfold f_X9_passes_72
  refine s_iast dX9_passes_72 (fun S1 => ?_)
  refine s_iinc_2 (1 : Int32) dX9_passes_73 (by decide) rfl ?_
  refine s_goto 14 dX9_passes_76 (by decide) ?_
  exact s_less (hk14 x0 (x2 + (1 : Int32)) S1) (And.intro rfl (And.intro rfl trivial))
set_option maxRecDepth 100000 in
theorem t_X9_passes_45 {Γ : Cx} {F : Nat} {k14 : Nat → Int32 → Mem → Option (Unit × Mem)} (hk14 : ∀ (x0 : Nat) (x2 : Int32) (S : Mem), Sim cX9_passes RX9 5 113 none false Γ rV (k14 x0 x2 S) S 14 [some (.ref x0), none, some (.int x2)] []) : ∀ (x0 : Nat) (x2 : Int32) (y0 : Nat) (y1 : Int32) (S : Mem), Sim cX9_passes RX9 5 113 none false Γ rV (f_X9_passes_45 F k14 x0 x2 y0 y1 S) S 45 [some (.ref x0), none, some (.int x2)] [.int y1, .ref y0] := by
  intro x0 x2 y0 y1 S
  unfold f_X9_passes_45
  refine s_aload_n 0 dX9_passes_45 rfl rfl ?_
  refine s_getR fk_X9_81 rfl dX9_passes_46 (fun v1 => ?_)
  refine s_iload_n 2 dX9_passes_49 rfl rfl ?_
  refine s_iald dX9_passes_50 (fun v2 => ?_)
  refine s_goto 72 dX9_passes_51 (by decide) ?_
  exact s_less (t_X9_passes_72 hk14 x0 x2 y0 y1 v2 S) (And.intro rfl (And.intro rfl trivial))
set_option maxRecDepth 100000 in
theorem t_X9_passes_14 {Γ : Cx} {F : Nat} : ∀ (f : Nat) (x0 : Nat) (x2 : Int32) (S : Mem), Sim cX9_passes RX9 5 113 none false Γ rV (fix2 (b_X9_passes_14 F) f x0 x2 S) S 14 [some (.ref x0), none, some (.int x2)] [] := by
  refine s_fix2 (fun (x0 : Nat) (x2 : Int32) => [some (.ref x0), none, some (.int x2)]) (fun k14 hk14 => ?_)
  intro x0 x2 S
  unfold b_X9_passes_14
  refine s_iload_n 2 dX9_passes_14 rfl rfl ?_
  refine s_aload_n 0 dX9_passes_15 rfl rfl ?_
  refine s_getR fk_X9_13 rfl dX9_passes_16 (fun v1 => ?_)
  refine s_iconst (4 : Int32) dX9_passes_19 (by decide) ?_
  refine s_iald dX9_passes_20 (fun v2 => ?_)
  refine s_icmp_ge 79 dX9_passes_21 (by decide) (fun _ => ?_) (fun _ => ?_)
  · refine s_aload_n 0 dX9_passes_79 rfl rfl ?_
    refine s_cV0V mk_X9_343 (by decide) rfl (fun v9 S9 h9 => con_X9_changes F _ _ v9 S9 h9) ⟨by omega, by omega⟩ (Nat.le_of_ble_eq_true rfl) dX9_passes_80 (fun _ S4 => ?_)
    exact s_vret dX9_passes_83
  · refine s_aload_n 0 dX9_passes_24 rfl rfl ?_
    refine s_getR fk_X9_96 rfl dX9_passes_25 (fun v5 => ?_)
    refine s_iload_n 2 dX9_passes_28 rfl rfl ?_
    refine s_aload_n 0 dX9_passes_29 rfl rfl ?_
    refine s_iload_n 2 dX9_passes_30 rfl rfl ?_
    refine s_cV1I mk_X9_292 (by decide) rfl (fun v9 S9 h9 => con_X9_isLost F _ _ _ v9 S9 h9) ⟨by omega, by omega⟩ (Nat.le_of_ble_eq_true rfl) dX9_passes_31 (fun v6 S7 => ?_)
    refine s_if_ne 45 dX9_passes_34 (by decide) (fun _ => ?_) (fun _ => ?_)
    · exact s_less (t_X9_passes_45 hk14 x0 x2 v5 x2 S7) (And.intro rfl (And.intro rfl trivial))
    · refine s_aload_n 0 dX9_passes_37 rfl rfl ?_
      refine s_iload_n 2 dX9_passes_38 rfl rfl ?_
      refine s_cV1I mk_X9_337 (by decide) rfl (fun v9 S9 h9 => con_X9_rests F _ _ _ v9 S9 h9) ⟨by omega, by omega⟩ (Nat.le_of_ble_eq_true rfl) dX9_passes_39 (fun v8 S9 => ?_)
      refine s_if_eq 54 dX9_passes_42 (by decide) (fun _ => ?_) (fun _ => ?_)
      · refine s_aload_n 0 dX9_passes_54 rfl rfl ?_
        refine s_getR fk_X9_81 rfl dX9_passes_55 (fun v10 => ?_)
        refine s_iload_n 2 dX9_passes_58 rfl rfl ?_
        refine s_iald dX9_passes_59 (fun v11 => ?_)
        refine s_aload_n 0 dX9_passes_60 rfl rfl ?_
        refine s_iload_n 2 dX9_passes_61 rfl rfl ?_
        refine s_cV1I mk_X9_340 (by decide) rfl (fun v9 S9 h9 => con_X9_hauls F _ _ _ v9 S9 h9) ⟨by omega, by omega⟩ (Nat.le_of_ble_eq_true rfl) dX9_passes_62 (fun v12 S13 => ?_)
        refine s_iadd dX9_passes_65 ?_
        refine s_iconst (0 : Int32) dX9_passes_66 (by decide) ?_
        refine s_bipush (40 : Int32) dX9_passes_67 (by decide) ?_
        refine s_cS3I mk_X9_288 (fun v9 S9 h9 => con_X9_between F _ _ _ _ v9 S9 h9) ⟨by omega, by omega⟩ (Nat.le_of_ble_eq_true rfl) dX9_passes_69 (fun v14 S15 => ?_)
        exact s_less (t_X9_passes_72 hk14 x0 x2 v5 x2 v14 S15) (And.intro rfl (And.intro rfl trivial))
      · exact s_less (t_X9_passes_45 hk14 x0 x2 v5 x2 S9) (And.intro rfl (And.intro rfl trivial))
set_option maxRecDepth 100000 in
theorem con_X9_passes {l : Launch} (F : Nat) (x0 : Nat) (x1 : Int32) (S : Mem) (v : Unit) (S1 : Mem) (h : fn_X9_passes F x0 x1 S = some (v, S1)) : Con l yX9_passes cX9_passes 3 none 5 113 [.ref x0, .int x1] S (rV v) S1 := by
  refine con_of (ι := rV) RX9 false [some (.ref x0), some (.int x1), none] rfl (fun h => by cases h) (by decide) (Nat.le_of_ble_eq_true rfl) ⟨rfl, rfl⟩ (fun Γ hl => ?_) h
  unfold fn_X9_passes
  refine s_aload_n 0 dX9_passes_0 rfl rfl ?_
  refine s_aload_n 0 dX9_passes_1 rfl rfl ?_
  refine s_getR fk_X9_81 rfl dX9_passes_2 (fun v1 => ?_)
  refine s_bipush (19 : Int32) dX9_passes_5 (by decide) ?_
  refine s_iald dX9_passes_7 (fun v2 => ?_)
  refine s_iload_n 1 dX9_passes_8 rfl rfl ?_
  refine s_cV2V mk_X9_325 (by decide) rfl (fun v9 S9 h9 => con_X9_looks F _ _ _ _ v9 S9 h9) ⟨by omega, by omega⟩ (Nat.le_of_ble_eq_true rfl) dX9_passes_9 (fun _ S4 => ?_)
  refine s_iconst (0 : Int32) dX9_passes_12 (by decide) ?_
  refine s_istore_2 dX9_passes_13 rfl ?_
  exact s_less (t_X9_passes_14 F x0 (0 : Int32) S4) (And.intro rfl (And.intro rfl trivial))
-- X9_run
def b_X9_run_20 (F : Nat) (k20 : Nat → Int32 → Int32 → Mem → Option (Int32 × Mem)) (x0 : Nat) (x1 : Int32) (x2 : Int32) (S : Mem) : Option (Int32 × Mem) :=
  if x1 ≤ x2 then
    (gR S 8 36 x0).bind fun v1 =>
    (gA S 10 v1 (19 : Int32)).bind fun v2 =>
    some (v2, S)
  else
    bd (cal S 8 x0 (fn_X9_passes F x0 (0 : Int32) S)) fun _ S4 =>
    k20 x0 x1 (x2 + (1 : Int32)) S4
def fn_X9_run (F : Nat) (x0 : Nat) (x1 : Int32) (S : Mem) : Option (Int32 × Mem) :=
  (sI S 8 0 x0 (0 : Int32)).bind fun S1 =>
  bd ((fn_X9_within F x1 (1 : Int32) (1000 : Int32) S1)) fun v2 S3 =>
  if v2 = 0 then
    some ((-1 : Int32), S3)
  else
    fix3 (b_X9_run_20 F) F x0 x1 (0 : Int32) S3
set_option maxRecDepth 100000 in
theorem t_X9_run_20 {Γ : Cx} {F : Nat} : ∀ (f : Nat) (x0 : Nat) (x1 : Int32) (x2 : Int32) (S : Mem), Sim cX9_run RX9 6 135 (some .int) false Γ rI (fix3 (b_X9_run_20 F) f x0 x1 x2 S) S 20 [some (.ref x0), some (.int x1), some (.int x2)] [] := by
  refine s_fix3 (fun (x0 : Nat) (x1 : Int32) (x2 : Int32) => [some (.ref x0), some (.int x1), some (.int x2)]) (fun k20 hk20 => ?_)
  intro x0 x1 x2 S
  unfold b_X9_run_20
  refine s_iload_n 2 dX9_run_20 rfl rfl ?_
  refine s_iload_n 1 dX9_run_21 rfl rfl ?_
  refine s_icmp_ge 36 dX9_run_22 (by decide) (fun _ => ?_) (fun _ => ?_)
  · refine s_aload_n 0 dX9_run_36 rfl rfl ?_
    refine s_getR fk_X9_81 rfl dX9_run_37 (fun v1 => ?_)
    refine s_bipush (19 : Int32) dX9_run_40 (by decide) ?_
    refine s_iald dX9_run_42 (fun v2 => ?_)
    exact s_iret dX9_run_43
  · refine s_aload_n 0 dX9_run_25 rfl rfl ?_
    refine s_iconst (0 : Int32) dX9_run_26 (by decide) ?_
    refine s_cV1V mk_X9_346 (by decide) rfl (fun v9 S9 h9 => con_X9_passes F _ _ _ v9 S9 h9) ⟨by omega, by omega⟩ (Nat.le_of_ble_eq_true rfl) dX9_run_27 (fun _ S4 => ?_)
    refine s_iinc_2 (1 : Int32) dX9_run_30 (by decide) rfl ?_
    refine s_goto 20 dX9_run_33 (by decide) ?_
    exact s_less (hk20 x0 x1 (x2 + (1 : Int32)) S4) (And.intro rfl (And.intro rfl (And.intro rfl trivial)))
set_option maxRecDepth 100000 in
theorem con_X9_run {l : Launch} (F : Nat) (x0 : Nat) (x1 : Int32) (S : Mem) (v : Int32) (S1 : Mem) (h : fn_X9_run F x0 x1 S = some (v, S1)) : Con l yX9_run cX9_run 3 (some .int) 6 135 [.ref x0, .int x1] S (rI v) S1 := by
  refine con_of (ι := rI) RX9 false [some (.ref x0), some (.int x1), none] rfl (fun h => by cases h) (by decide) (Nat.le_of_ble_eq_true rfl) ⟨rfl, rfl⟩ (fun Γ hl => ?_) h
  unfold fn_X9_run
  refine s_aload_n 0 dX9_run_0 rfl rfl ?_
  refine s_iconst (0 : Int32) dX9_run_1 (by decide) ?_
  refine s_putI fk_X9_109 (Or.inl rfl) rfl dX9_run_2 (fun S1 => ?_)
  refine s_iload_n 1 dX9_run_5 rfl rfl ?_
  refine s_iconst (1 : Int32) dX9_run_6 (by decide) ?_
  refine s_sipush (1000 : Int32) dX9_run_7 (by decide) ?_
  refine s_cS3I mk_X9_235 (fun v9 S9 h9 => con_X9_within F _ _ _ _ v9 S9 h9) ⟨by omega, by omega⟩ (Nat.le_of_ble_eq_true rfl) dX9_run_10 (fun v2 S3 => ?_)
  refine s_if_ne 18 dX9_run_13 (by decide) (fun _ => ?_) (fun _ => ?_)
  · refine s_iconst (0 : Int32) dX9_run_18 (by decide) ?_
    refine s_istore_2 dX9_run_19 rfl ?_
    exact s_less (t_X9_run_20 F x0 x1 (0 : Int32) S3) (And.intro rfl (And.intro rfl (And.intro rfl trivial)))
  · refine s_iconst (-1 : Int32) dX9_run_16 (by decide) ?_
    exact s_iret dX9_run_17
-- X9_awayNow
def fn_X9_awayNow (F : Nat) (x0 : Nat) (S : Mem) : Option (Int32 × Mem) :=
  bd (cal S 8 x0 (fn_X9_hangs F x0 S)) fun _ S2 =>
  (gI S2 8 43 x0).bind fun v3 =>
  (gI S2 8 45 x0).bind fun v4 =>
  bd ((fn_X9_away F v3 v4 S2)) fun v5 S6 =>
  (gI S6 8 42 x0).bind fun v7 =>
  (gI S6 8 46 x0).bind fun v8 =>
  bd ((fn_X9_away F v7 v8 S6)) fun v9 S10 =>
  some ((v5 + v9), S10)
set_option maxRecDepth 100000 in
theorem con_X9_awayNow {l : Launch} (F : Nat) (x0 : Nat) (S : Mem) (v : Int32) (S1 : Mem) (h : fn_X9_awayNow F x0 S = some (v, S1)) : Con l yX9_awayNow cX9_awayNow 1 (some .int) 4 90 [.ref x0] S (rI v) S1 := by
  refine con_of (ι := rI) RX9 false [some (.ref x0)] rfl (fun h => by cases h) (by decide) (Nat.le_of_ble_eq_true rfl) ⟨rfl, rfl⟩ (fun Γ hl => ?_) h
  unfold fn_X9_awayNow
  refine s_aload_n 0 dX9_awayNow_0 rfl rfl ?_
  refine s_cV0V mk_X9_322 (by decide) rfl (fun v9 S9 h9 => con_X9_hangs F _ _ v9 S9 h9) ⟨by omega, by omega⟩ (Nat.le_of_ble_eq_true rfl) dX9_awayNow_1 (fun _ S2 => ?_)
  refine s_aload_n 0 dX9_awayNow_4 rfl rfl ?_
  refine s_getI fk_X9_316 rfl dX9_awayNow_5 (fun v3 => ?_)
  refine s_aload_n 0 dX9_awayNow_8 rfl rfl ?_
  refine s_getI fk_X9_349 rfl dX9_awayNow_9 (fun v4 => ?_)
  refine s_cS2I mk_X9_352 (fun v9 S9 h9 => con_X9_away F _ _ _ v9 S9 h9) ⟨by omega, by omega⟩ (Nat.le_of_ble_eq_true rfl) dX9_awayNow_12 (fun v5 S6 => ?_)
  refine s_aload_n 0 dX9_awayNow_15 rfl rfl ?_
  refine s_getI fk_X9_313 rfl dX9_awayNow_16 (fun v7 => ?_)
  refine s_aload_n 0 dX9_awayNow_19 rfl rfl ?_
  refine s_getI fk_X9_355 rfl dX9_awayNow_20 (fun v8 => ?_)
  refine s_cS2I mk_X9_352 (fun v9 S9 h9 => con_X9_away F _ _ _ v9 S9 h9) ⟨by omega, by omega⟩ (Nat.le_of_ble_eq_true rfl) dX9_awayNow_23 (fun v9 S10 => ?_)
  refine s_iadd dX9_awayNow_26 ?_
  exact s_iret dX9_awayNow_27
-- X9_isWanted
def f_X9_isWanted_23 (F : Nat) (y0 : Int32) (S : Mem) : Option (Int32 × Mem) :=
  rz y0 S
def f_X9_isWanted_22 (F : Nat)  (S : Mem) : Option (Int32 × Mem) :=
  f_X9_isWanted_23 F  (0 : Int32) S
def fn_X9_isWanted (F : Nat) (x0 : Int32) (x1 : Int32) (S : Mem) : Option (Int32 × Mem) :=
  bd ((fn_X9_within F x0 (0 : Int32) (999 : Int32) S)) fun v1 S2 =>
  if v1 = 0 then
    f_X9_isWanted_22 F   S2
  else
    bd ((fn_X9_isHigh F x1 S2)) fun v3 S4 =>
    if v3 = 0 then
      f_X9_isWanted_22 F   S4
    else
      f_X9_isWanted_23 F  (1 : Int32) S4
set_option maxRecDepth 100000 in
theorem t_X9_isWanted_23 {Γ : Cx} {F : Nat} : ∀ (y0 : Int32) (S : Mem), Sim cX9_isWanted RX9 1 22 (some .boolean) false Γ rI (f_X9_isWanted_23 F y0 S) S 23 [none, none] [.int y0] := by
  intro y0 S
  unfold f_X9_isWanted_23
  exact s_zret dX9_isWanted_23
set_option maxRecDepth 100000 in
theorem t_X9_isWanted_22 {Γ : Cx} {F : Nat} : ∀ (S : Mem), Sim cX9_isWanted RX9 1 22 (some .boolean) false Γ rI (f_X9_isWanted_22 F  S) S 22 [none, none] [] := by
  intro  S
  unfold f_X9_isWanted_22
  refine s_iconst (0 : Int32) dX9_isWanted_22 (by decide) ?_
  exact s_less (t_X9_isWanted_23  (0 : Int32) S) trivial
set_option maxRecDepth 100000 in
theorem con_X9_isWanted {l : Launch} (F : Nat) (x0 : Int32) (x1 : Int32) (S : Mem) (v : Int32) (S1 : Mem) (h : fn_X9_isWanted F x0 x1 S = some (v, S1)) : Con l yX9_isWanted cX9_isWanted 2 (some .boolean) 1 22 [.int x0, .int x1] S (rI v) S1 := by
  refine con_of (ι := rI) RX9 false [some (.int x0), some (.int x1)] rfl (fun h => by cases h) (by decide) (Nat.le_of_ble_eq_true rfl) ⟨rfl, rfl⟩ (fun Γ hl => ?_) h
  unfold fn_X9_isWanted
  refine s_iload_n 0 dX9_isWanted_0 rfl rfl ?_
  refine s_iconst (0 : Int32) dX9_isWanted_1 (by decide) ?_
  refine s_sipush (999 : Int32) dX9_isWanted_2 (by decide) ?_
  refine s_cS3I mk_X9_235 (fun v9 S9 h9 => con_X9_within F _ _ _ _ v9 S9 h9) ⟨by omega, by omega⟩ (Nat.le_of_ble_eq_true rfl) dX9_isWanted_5 (fun v1 S2 => ?_)
  refine s_if_eq 22 dX9_isWanted_8 (by decide) (fun _ => ?_) (fun _ => ?_)
  · exact s_less (t_X9_isWanted_22   S2) trivial
  · refine s_iload_n 1 dX9_isWanted_11 rfl rfl ?_
    refine s_cS1I mk_X9_334 (fun v9 S9 h9 => con_X9_isHigh F _ _ v9 S9 h9) ⟨by omega, by omega⟩ (Nat.le_of_ble_eq_true rfl) dX9_isWanted_12 (fun v3 S4 => ?_)
    refine s_if_eq 22 dX9_isWanted_15 (by decide) (fun _ => ?_) (fun _ => ?_)
    · exact s_less (t_X9_isWanted_22   S4) trivial
    · refine s_iconst (1 : Int32) dX9_isWanted_18 (by decide) ?_
      refine s_goto 23 dX9_isWanted_19 (by decide) ?_
      exact s_less (t_X9_isWanted_23  (1 : Int32) S4) trivial
-- X9_tries
def f_X9_tries_171 (F : Nat) (rp : Nat → Int32 → Int32 → Int32 → Mem → Option (Unit × Mem)) (k106 : Nat → Int32 → Int32 → Int32 → Int32 → Int32 → Mem → Option (Unit × Mem)) (x0 : Nat) (x1 : Int32) (x2 : Int32) (x3 : Int32) (x4 : Int32) (x5 : Int32) (S : Mem) : Option (Unit × Mem) :=
  k106 x0 x1 x2 x3 x4 (x5 + (1 : Int32)) S
def f_X9_tries_167 (F : Nat) (rp : Nat → Int32 → Int32 → Int32 → Mem → Option (Unit × Mem)) (k106 : Nat → Int32 → Int32 → Int32 → Int32 → Int32 → Mem → Option (Unit × Mem)) (x0 : Nat) (x1 : Int32) (x2 : Int32) (x3 : Int32) (x4 : Int32) (x5 : Int32) (y0 : Nat) (y1 : Int32) (y2 : Int32) (y3 : Int32) (y4 : Int32) (S : Mem) : Option (Unit × Mem) :=
  bd (cal S 8 y0 (rp y0 y1 y2 (y3 + y4) S)) fun _ S2 =>
  f_X9_tries_171 F rp k106 x0 x1 x2 x3 x4 x5  S2
def f_X9_tries_141 (F : Nat) (rp : Nat → Int32 → Int32 → Int32 → Mem → Option (Unit × Mem)) (k106 : Nat → Int32 → Int32 → Int32 → Int32 → Int32 → Mem → Option (Unit × Mem)) (x0 : Nat) (x1 : Int32) (x2 : Int32) (x3 : Int32) (x4 : Int32) (x5 : Int32) (S : Mem) : Option (Unit × Mem) :=
  (gR S 8 36 x0).bind fun v1 =>
  (sA S v1 x1 x5).bind fun S2 =>
  if x5 = x4 then
    f_X9_tries_167 F rp k106 x0 x1 x2 x3 x4 x5 x0 (x1 + (1 : Int32)) x2 x3 (0 : Int32) S2
  else
    f_X9_tries_167 F rp k106 x0 x1 x2 x3 x4 x5 x0 (x1 + (1 : Int32)) x2 x3 (1 : Int32) S2
def b_X9_tries_106 (F : Nat) (rp : Nat → Int32 → Int32 → Int32 → Mem → Option (Unit × Mem)) (k106 : Nat → Int32 → Int32 → Int32 → Int32 → Int32 → Mem → Option (Unit × Mem)) (x0 : Nat) (x1 : Int32) (x2 : Int32) (x3 : Int32) (x4 : Int32) (x5 : Int32) (S : Mem) : Option (Unit × Mem) :=
  if (x4 + x2) < x5 then
    (gR S 8 36 x0).bind fun v1 =>
    (sA S v1 x1 x4).bind fun S2 =>
    some ((), S2)
  else
    bd ((fn_X9_isHigh F x5 S)) fun v3 S4 =>
    if v3 = 0 then
      f_X9_tries_171 F rp k106 x0 x1 x2 x3 x4 x5  S4
    else
      bd (cal S4 8 x0 (fn_X9_isLost F x0 x1 S4)) fun v5 S6 =>
      if v5 = 0 then
        f_X9_tries_141 F rp k106 x0 x1 x2 x3 x4 x5  S6
      else
        if x5 = x4 then
          f_X9_tries_141 F rp k106 x0 x1 x2 x3 x4 x5  S6
        else
          f_X9_tries_171 F rp k106 x0 x1 x2 x3 x4 x5  S6
def b_X9_tries_64 (F : Nat) (rp : Nat → Int32 → Int32 → Int32 → Mem → Option (Unit × Mem)) (k64 : Nat → Int32 → Mem → Option (Unit × Mem)) (x0 : Nat) (x5 : Int32) (S : Mem) : Option (Unit × Mem) :=
  if (6 : Int32) ≤ x5 then
    some ((), S)
  else
    (gR S 8 49 x0).bind fun v1 =>
    (gR S 8 36 x0).bind fun v2 =>
    (gA S 10 v2 x5).bind fun v3 =>
    (sA S v1 x5 v3).bind fun S4 =>
    k64 x0 (x5 + (1 : Int32)) S4
def f_X9_tries_50 (F : Nat) (rp : Nat → Int32 → Int32 → Int32 → Mem → Option (Unit × Mem)) (x0 : Nat) (x3 : Int32) (x4 : Int32) (S : Mem) : Option (Unit × Mem) :=
  (sI S 8 47 x0 x4).bind fun S1 =>
  (sI S1 8 48 x0 x3).bind fun S2 =>
  fix2 (b_X9_tries_64 F rp) F x0 (0 : Int32) S2
def f_X9_tries_49 (F : Nat) (rp : Nat → Int32 → Int32 → Int32 → Mem → Option (Unit × Mem))  (S : Mem) : Option (Unit × Mem) :=
  some ((), S)
def fb_X9_tries (F : Nat) (rp : Nat → Int32 → Int32 → Int32 → Mem → Option (Unit × Mem)) (x0 : Nat) (x1 : Int32) (x2 : Int32) (x3 : Int32) (S : Mem) : Option (Unit × Mem) :=
  (gR S 8 10 x0).bind fun v1 =>
  (gA S 10 v1 (4 : Int32)).bind fun v2 =>
  if x1 = v2 then
    bd (cal S 8 x0 (fn_X9_awayNow F x0 S)) fun v6 S7 =>
    (gI S7 8 47 x0).bind fun v8 =>
    if v8 < 0 then
      f_X9_tries_50 F rp x0 x3 v6  S7
    else
      (gI S7 8 47 x0).bind fun v9 =>
      if v9 < v6 then
        f_X9_tries_49 F rp   S7
      else
        (gI S7 8 47 x0).bind fun v10 =>
        if v6 = v10 then
          (gI S7 8 48 x0).bind fun v11 =>
          if x3 < v11 then
            f_X9_tries_50 F rp x0 x3 v6  S7
          else
            f_X9_tries_49 F rp   S7
        else
          f_X9_tries_50 F rp x0 x3 v6  S7
  else
    (gR S 8 36 x0).bind fun v3 =>
    (gA S 10 v3 x1).bind fun v4 =>
    lt ((v4 - x2)) fun v5 =>
    fix6 (b_X9_tries_106 F rp) F x0 x1 x2 x3 v4 v5 S
def fn_X9_tries (F : Nat) : Nat → Nat → Int32 → Int32 → Int32 → Mem → Option (Unit × Mem)
  | 0 => fun _ _ _ _ _ => none
  | d + 1 => fb_X9_tries F (fn_X9_tries F d)
set_option maxRecDepth 100000 in
theorem t_X9_tries_171 {Γ : Cx} {F : Nat} {rp : Nat → Int32 → Int32 → Int32 → Mem → Option (Unit × Mem)} {frR loR : Nat} (hrp : ∀ (z0 : Nat) (z1 : Int32) (z2 : Int32) (z3 : Int32) (S : Mem) (v : Unit) (S1 : Mem), rp z0 z1 z2 z3 S = some (v, S1) → Con (lOf Γ) yX9_tries cX9_tries 6 none frR loR [.ref z0, .int z1, .int z2, .int z3] S (rV v) S1) {k106 : Nat → Int32 → Int32 → Int32 → Int32 → Int32 → Mem → Option (Unit × Mem)} (hk106 : ∀ (x0 : Nat) (x1 : Int32) (x2 : Int32) (x3 : Int32) (x4 : Int32) (x5 : Int32) (S : Mem), Sim cX9_tries RX9 (frR + 5) (loR + 110) none false Γ rV (k106 x0 x1 x2 x3 x4 x5 S) S 106 [some (.ref x0), some (.int x1), some (.int x2), some (.int x3), some (.int x4), some (.int x5)] []) : ∀ (x0 : Nat) (x1 : Int32) (x2 : Int32) (x3 : Int32) (x4 : Int32) (x5 : Int32) (S : Mem), Sim cX9_tries RX9 (frR + 5) (loR + 110) none false Γ rV (f_X9_tries_171 F rp k106 x0 x1 x2 x3 x4 x5 S) S 171 [some (.ref x0), some (.int x1), some (.int x2), some (.int x3), some (.int x4), some (.int x5)] [] := by
  intro x0 x1 x2 x3 x4 x5 S
  unfold f_X9_tries_171
  refine s_iinc_5 (1 : Int32) dX9_tries_171 (by decide) rfl ?_
  refine s_goto 106 dX9_tries_174 (by decide) ?_
  exact s_less (hk106 x0 x1 x2 x3 x4 (x5 + (1 : Int32)) S) (And.intro rfl (And.intro rfl (And.intro rfl (And.intro rfl (And.intro rfl (And.intro rfl trivial))))))
set_option maxRecDepth 100000 in
theorem t_X9_tries_167 {Γ : Cx} {F : Nat} {rp : Nat → Int32 → Int32 → Int32 → Mem → Option (Unit × Mem)} {frR loR : Nat} (hrp : ∀ (z0 : Nat) (z1 : Int32) (z2 : Int32) (z3 : Int32) (S : Mem) (v : Unit) (S1 : Mem), rp z0 z1 z2 z3 S = some (v, S1) → Con (lOf Γ) yX9_tries cX9_tries 6 none frR loR [.ref z0, .int z1, .int z2, .int z3] S (rV v) S1) {k106 : Nat → Int32 → Int32 → Int32 → Int32 → Int32 → Mem → Option (Unit × Mem)} (hk106 : ∀ (x0 : Nat) (x1 : Int32) (x2 : Int32) (x3 : Int32) (x4 : Int32) (x5 : Int32) (S : Mem), Sim cX9_tries RX9 (frR + 5) (loR + 110) none false Γ rV (k106 x0 x1 x2 x3 x4 x5 S) S 106 [some (.ref x0), some (.int x1), some (.int x2), some (.int x3), some (.int x4), some (.int x5)] []) : ∀ (x0 : Nat) (x1 : Int32) (x2 : Int32) (x3 : Int32) (x4 : Int32) (x5 : Int32) (y0 : Nat) (y1 : Int32) (y2 : Int32) (y3 : Int32) (y4 : Int32) (S : Mem), Sim cX9_tries RX9 (frR + 5) (loR + 110) none false Γ rV (f_X9_tries_167 F rp k106 x0 x1 x2 x3 x4 x5 y0 y1 y2 y3 y4 S) S 167 [some (.ref x0), some (.int x1), some (.int x2), some (.int x3), some (.int x4), some (.int x5)] [.int y4, .int y3, .int y2, .int y1, .ref y0] := by
  intro x0 x1 x2 x3 x4 x5 y0 y1 y2 y3 y4 S
  unfold f_X9_tries_167
  refine s_iadd dX9_tries_167 ?_
  refine s_cV3V mk_X9_367 (by decide) rfl (fun v9 S9 h9 => hrp _ _ _ _ _ v9 S9 h9) ⟨by omega, by omega⟩ (Nat.le_of_ble_eq_true rfl) dX9_tries_168 (fun _ S2 => ?_)
  exact s_less (t_X9_tries_171 hrp hk106 x0 x1 x2 x3 x4 x5  S2) (And.intro rfl (And.intro rfl (And.intro rfl (And.intro rfl (And.intro rfl (And.intro rfl trivial))))))
set_option maxRecDepth 100000 in
theorem t_X9_tries_141 {Γ : Cx} {F : Nat} {rp : Nat → Int32 → Int32 → Int32 → Mem → Option (Unit × Mem)} {frR loR : Nat} (hrp : ∀ (z0 : Nat) (z1 : Int32) (z2 : Int32) (z3 : Int32) (S : Mem) (v : Unit) (S1 : Mem), rp z0 z1 z2 z3 S = some (v, S1) → Con (lOf Γ) yX9_tries cX9_tries 6 none frR loR [.ref z0, .int z1, .int z2, .int z3] S (rV v) S1) {k106 : Nat → Int32 → Int32 → Int32 → Int32 → Int32 → Mem → Option (Unit × Mem)} (hk106 : ∀ (x0 : Nat) (x1 : Int32) (x2 : Int32) (x3 : Int32) (x4 : Int32) (x5 : Int32) (S : Mem), Sim cX9_tries RX9 (frR + 5) (loR + 110) none false Γ rV (k106 x0 x1 x2 x3 x4 x5 S) S 106 [some (.ref x0), some (.int x1), some (.int x2), some (.int x3), some (.int x4), some (.int x5)] []) : ∀ (x0 : Nat) (x1 : Int32) (x2 : Int32) (x3 : Int32) (x4 : Int32) (x5 : Int32) (S : Mem), Sim cX9_tries RX9 (frR + 5) (loR + 110) none false Γ rV (f_X9_tries_141 F rp k106 x0 x1 x2 x3 x4 x5 S) S 141 [some (.ref x0), some (.int x1), some (.int x2), some (.int x3), some (.int x4), some (.int x5)] [] := by
  intro x0 x1 x2 x3 x4 x5 S
  unfold f_X9_tries_141
  refine s_aload_n 0 dX9_tries_141 rfl rfl ?_
  refine s_getR fk_X9_81 rfl dX9_tries_142 (fun v1 => ?_)
  refine s_iload_n 1 dX9_tries_145 rfl rfl ?_
  refine s_iload dX9_tries_146 rfl ?_
  refine s_iast dX9_tries_148 (fun S2 => ?_)
  refine s_aload_n 0 dX9_tries_149 rfl rfl ?_
  refine s_iload_n 1 dX9_tries_150 rfl rfl ?_
  refine s_iconst (1 : Int32) dX9_tries_151 (by decide) ?_
  refine s_iadd dX9_tries_152 ?_
  refine s_iload_n 2 dX9_tries_153 rfl rfl ?_
  refine s_iload_n 3 dX9_tries_154 rfl rfl ?_
  refine s_iload dX9_tries_155 rfl ?_
  refine s_iload dX9_tries_157 rfl ?_
  refine s_icmp_ne 166 dX9_tries_159 (by decide) (fun _ => ?_) (fun _ => ?_)
  · refine s_iconst (1 : Int32) dX9_tries_166 (by decide) ?_
    exact s_less (t_X9_tries_167 hrp hk106 x0 x1 x2 x3 x4 x5 x0 (x1 + (1 : Int32)) x2 x3 (1 : Int32) S2) (And.intro rfl (And.intro rfl (And.intro rfl (And.intro rfl (And.intro rfl (And.intro rfl trivial))))))
  · refine s_iconst (0 : Int32) dX9_tries_162 (by decide) ?_
    refine s_goto 167 dX9_tries_163 (by decide) ?_
    exact s_less (t_X9_tries_167 hrp hk106 x0 x1 x2 x3 x4 x5 x0 (x1 + (1 : Int32)) x2 x3 (0 : Int32) S2) (And.intro rfl (And.intro rfl (And.intro rfl (And.intro rfl (And.intro rfl (And.intro rfl trivial))))))
set_option maxRecDepth 100000 in
theorem t_X9_tries_106 {Γ : Cx} {F : Nat} {rp : Nat → Int32 → Int32 → Int32 → Mem → Option (Unit × Mem)} {frR loR : Nat} (hrp : ∀ (z0 : Nat) (z1 : Int32) (z2 : Int32) (z3 : Int32) (S : Mem) (v : Unit) (S1 : Mem), rp z0 z1 z2 z3 S = some (v, S1) → Con (lOf Γ) yX9_tries cX9_tries 6 none frR loR [.ref z0, .int z1, .int z2, .int z3] S (rV v) S1) : ∀ (f : Nat) (x0 : Nat) (x1 : Int32) (x2 : Int32) (x3 : Int32) (x4 : Int32) (x5 : Int32) (S : Mem), Sim cX9_tries RX9 (frR + 5) (loR + 110) none false Γ rV (fix6 (b_X9_tries_106 F rp) f x0 x1 x2 x3 x4 x5 S) S 106 [some (.ref x0), some (.int x1), some (.int x2), some (.int x3), some (.int x4), some (.int x5)] [] := by
  refine s_fix6 (fun (x0 : Nat) (x1 : Int32) (x2 : Int32) (x3 : Int32) (x4 : Int32) (x5 : Int32) => [some (.ref x0), some (.int x1), some (.int x2), some (.int x3), some (.int x4), some (.int x5)]) (fun k106 hk106 => ?_)
  intro x0 x1 x2 x3 x4 x5 S
  unfold b_X9_tries_106
  refine s_iload dX9_tries_106 rfl ?_
  refine s_iload dX9_tries_108 rfl ?_
  refine s_iload_n 2 dX9_tries_110 rfl rfl ?_
  refine s_iadd dX9_tries_111 ?_
  refine s_icmp_gt 177 dX9_tries_112 (by decide) (fun _ => ?_) (fun _ => ?_)
  · refine s_aload_n 0 dX9_tries_177 rfl rfl ?_
    refine s_getR fk_X9_81 rfl dX9_tries_178 (fun v1 => ?_)
    refine s_iload_n 1 dX9_tries_181 rfl rfl ?_
    refine s_iload dX9_tries_182 rfl ?_
    refine s_iast dX9_tries_184 (fun S2 => ?_)
    exact s_vret dX9_tries_185
  · refine s_iload dX9_tries_115 rfl ?_
    refine s_cS1I mk_X9_334 (fun v9 S9 h9 => con_X9_isHigh F _ _ v9 S9 h9) ⟨by omega, by omega⟩ (Nat.le_of_ble_eq_true rfl) dX9_tries_117 (fun v3 S4 => ?_)
    refine s_if_eq 171 dX9_tries_120 (by decide) (fun _ => ?_) (fun _ => ?_)
    · exact s_less (t_X9_tries_171 hrp hk106 x0 x1 x2 x3 x4 x5  S4) (And.intro rfl (And.intro rfl (And.intro rfl (And.intro rfl (And.intro rfl (And.intro rfl trivial))))))
    · refine s_aload_n 0 dX9_tries_123 rfl rfl ?_
      refine s_iload_n 1 dX9_tries_124 rfl rfl ?_
      refine s_cV1I mk_X9_292 (by decide) rfl (fun v9 S9 h9 => con_X9_isLost F _ _ _ v9 S9 h9) ⟨by omega, by omega⟩ (Nat.le_of_ble_eq_true rfl) dX9_tries_125 (fun v5 S6 => ?_)
      refine s_if_eq 141 dX9_tries_128 (by decide) (fun _ => ?_) (fun _ => ?_)
      · exact s_less (t_X9_tries_141 hrp hk106 x0 x1 x2 x3 x4 x5  S6) (And.intro rfl (And.intro rfl (And.intro rfl (And.intro rfl (And.intro rfl (And.intro rfl trivial))))))
      · refine s_iload dX9_tries_131 rfl ?_
        refine s_iload dX9_tries_133 rfl ?_
        refine s_icmp_eq 141 dX9_tries_135 (by decide) (fun _ => ?_) (fun _ => ?_)
        · exact s_less (t_X9_tries_141 hrp hk106 x0 x1 x2 x3 x4 x5  S6) (And.intro rfl (And.intro rfl (And.intro rfl (And.intro rfl (And.intro rfl (And.intro rfl trivial))))))
        · refine s_goto 171 dX9_tries_138 (by decide) ?_
          exact s_less (t_X9_tries_171 hrp hk106 x0 x1 x2 x3 x4 x5  S6) (And.intro rfl (And.intro rfl (And.intro rfl (And.intro rfl (And.intro rfl (And.intro rfl trivial))))))
set_option maxRecDepth 100000 in
theorem t_X9_tries_64 {Γ : Cx} {F : Nat} {rp : Nat → Int32 → Int32 → Int32 → Mem → Option (Unit × Mem)} {frR loR : Nat} (hrp : ∀ (z0 : Nat) (z1 : Int32) (z2 : Int32) (z3 : Int32) (S : Mem) (v : Unit) (S1 : Mem), rp z0 z1 z2 z3 S = some (v, S1) → Con (lOf Γ) yX9_tries cX9_tries 6 none frR loR [.ref z0, .int z1, .int z2, .int z3] S (rV v) S1) : ∀ (f : Nat) (x0 : Nat) (x5 : Int32) (S : Mem), Sim cX9_tries RX9 (frR + 5) (loR + 110) none false Γ rV (fix2 (b_X9_tries_64 F rp) f x0 x5 S) S 64 [some (.ref x0), none, none, none, none, some (.int x5)] [] := by
  refine s_fix2 (fun (x0 : Nat) (x5 : Int32) => [some (.ref x0), none, none, none, none, some (.int x5)]) (fun k64 hk64 => ?_)
  intro x0 x5 S
  unfold b_X9_tries_64
  refine s_iload dX9_tries_64 rfl ?_
  refine s_bipush (6 : Int32) dX9_tries_66 (by decide) ?_
  refine s_icmp_ge 91 dX9_tries_68 (by decide) (fun _ => ?_) (fun _ => ?_)
  · exact s_vret dX9_tries_91
  · refine s_aload_n 0 dX9_tries_71 rfl rfl ?_
    refine s_getR fk_X9_99 rfl dX9_tries_72 (fun v1 => ?_)
    refine s_iload dX9_tries_75 rfl ?_
    refine s_aload_n 0 dX9_tries_77 rfl rfl ?_
    refine s_getR fk_X9_81 rfl dX9_tries_78 (fun v2 => ?_)
    refine s_iload dX9_tries_81 rfl ?_
    refine s_iald dX9_tries_83 (fun v3 => ?_)
    refine s_iast dX9_tries_84 (fun S4 => ?_)
    refine s_iinc_5 (1 : Int32) dX9_tries_85 (by decide) rfl ?_
    refine s_goto 64 dX9_tries_88 (by decide) ?_
    exact s_less (hk64 x0 (x5 + (1 : Int32)) S4) (And.intro rfl (And.intro rfl trivial))
set_option maxRecDepth 100000 in
theorem t_X9_tries_50 {Γ : Cx} {F : Nat} {rp : Nat → Int32 → Int32 → Int32 → Mem → Option (Unit × Mem)} {frR loR : Nat} (hrp : ∀ (z0 : Nat) (z1 : Int32) (z2 : Int32) (z3 : Int32) (S : Mem) (v : Unit) (S1 : Mem), rp z0 z1 z2 z3 S = some (v, S1) → Con (lOf Γ) yX9_tries cX9_tries 6 none frR loR [.ref z0, .int z1, .int z2, .int z3] S (rV v) S1) : ∀ (x0 : Nat) (x3 : Int32) (x4 : Int32) (S : Mem), Sim cX9_tries RX9 (frR + 5) (loR + 110) none false Γ rV (f_X9_tries_50 F rp x0 x3 x4 S) S 50 [some (.ref x0), none, none, some (.int x3), some (.int x4), none] [] := by
  intro x0 x3 x4 S
  unfold f_X9_tries_50
  refine s_aload_n 0 dX9_tries_50 rfl rfl ?_
  refine s_iload dX9_tries_51 rfl ?_
  refine s_putI fk_X9_361 (Or.inl rfl) rfl dX9_tries_53 (fun S1 => ?_)
  refine s_aload_n 0 dX9_tries_56 rfl rfl ?_
  refine s_iload_n 3 dX9_tries_57 rfl rfl ?_
  refine s_putI fk_X9_364 (Or.inl rfl) rfl dX9_tries_58 (fun S2 => ?_)
  refine s_iconst (0 : Int32) dX9_tries_61 (by decide) ?_
  refine s_istore_5 dX9_tries_62 rfl ?_
  exact s_less (t_X9_tries_64 hrp F x0 (0 : Int32) S2) (And.intro rfl (And.intro rfl trivial))
set_option maxRecDepth 100000 in
theorem t_X9_tries_49 {Γ : Cx} {F : Nat} {rp : Nat → Int32 → Int32 → Int32 → Mem → Option (Unit × Mem)} {frR loR : Nat} (hrp : ∀ (z0 : Nat) (z1 : Int32) (z2 : Int32) (z3 : Int32) (S : Mem) (v : Unit) (S1 : Mem), rp z0 z1 z2 z3 S = some (v, S1) → Con (lOf Γ) yX9_tries cX9_tries 6 none frR loR [.ref z0, .int z1, .int z2, .int z3] S (rV v) S1) : ∀ (S : Mem), Sim cX9_tries RX9 (frR + 5) (loR + 110) none false Γ rV (f_X9_tries_49 F rp  S) S 49 [none, none, none, none, none, none] [] := by
  intro  S
  unfold f_X9_tries_49
  exact s_vret dX9_tries_49
set_option maxRecDepth 100000 in
theorem cob_X9_tries {l : Launch} (F : Nat) (rp : Nat → Int32 → Int32 → Int32 → Mem → Option (Unit × Mem)) {frR loR : Nat} (hrp : ∀ (z0 : Nat) (z1 : Int32) (z2 : Int32) (z3 : Int32) (S : Mem) (v : Unit) (S1 : Mem), rp z0 z1 z2 z3 S = some (v, S1) → Con l yX9_tries cX9_tries 6 none frR loR [.ref z0, .int z1, .int z2, .int z3] S (rV v) S1) (x0 : Nat) (x1 : Int32) (x2 : Int32) (x3 : Int32) (S : Mem) (v : Unit) (S1 : Mem) (h : fb_X9_tries F rp x0 x1 x2 x3 S = some (v, S1)) : Con l yX9_tries cX9_tries 6 none (frR + 5) (loR + 110) [.ref x0, .int x1, .int x2, .int x3] S (rV v) S1 := by
  refine con_of (ι := rV) RX9 false [some (.ref x0), some (.int x1), some (.int x2), some (.int x3), none, none] rfl (fun h => by cases h) (by decide) (Nat.le_of_ble_eq_true rfl) ⟨rfl, rfl⟩ (fun Γ hl => ?_) h
  subst hl
  unfold fb_X9_tries
  refine s_iload_n 1 dX9_tries_0 rfl rfl ?_
  refine s_aload_n 0 dX9_tries_1 rfl rfl ?_
  refine s_getR fk_X9_13 rfl dX9_tries_2 (fun v1 => ?_)
  refine s_iconst (4 : Int32) dX9_tries_5 (by decide) ?_
  refine s_iald dX9_tries_6 (fun v2 => ?_)
  refine s_icmp_ne 92 dX9_tries_7 (by decide) (fun _ => ?_) (fun _ => ?_)
  · refine s_aload_n 0 dX9_tries_92 rfl rfl ?_
    refine s_getR fk_X9_81 rfl dX9_tries_93 (fun v3 => ?_)
    refine s_iload_n 1 dX9_tries_96 rfl rfl ?_
    refine s_iald dX9_tries_97 (fun v4 => ?_)
    refine s_istore_4 dX9_tries_98 rfl ?_
    refine s_iload dX9_tries_100 rfl ?_
    refine s_iload_n 2 dX9_tries_102 rfl rfl ?_
    refine s_isub dX9_tries_103 ?_
    refine s_ltI (fun v5 => ?_)
    refine s_istore_5 dX9_tries_104 rfl ?_
    exact s_less (t_X9_tries_106 hrp F x0 x1 x2 x3 v4 v5 S) (And.intro rfl (And.intro rfl (And.intro rfl (And.intro rfl (And.intro rfl (And.intro rfl trivial))))))
  · refine s_aload_n 0 dX9_tries_10 rfl rfl ?_
    refine s_cV0I mk_X9_358 (by decide) rfl (fun v9 S9 h9 => con_X9_awayNow F _ _ v9 S9 h9) ⟨by omega, by omega⟩ (Nat.le_of_ble_eq_true rfl) dX9_tries_11 (fun v6 S7 => ?_)
    refine s_istore_4 dX9_tries_14 rfl ?_
    refine s_aload_n 0 dX9_tries_16 rfl rfl ?_
    refine s_getI fk_X9_361 rfl dX9_tries_17 (fun v8 => ?_)
    refine s_if_lt 50 dX9_tries_20 (by decide) (fun _ => ?_) (fun _ => ?_)
    · exact s_less (t_X9_tries_50 hrp x0 x3 v6  S7) (And.intro rfl (And.intro rfl (And.intro rfl trivial)))
    · refine s_iload dX9_tries_23 rfl ?_
      refine s_aload_n 0 dX9_tries_25 rfl rfl ?_
      refine s_getI fk_X9_361 rfl dX9_tries_26 (fun v9 => ?_)
      refine s_icmp_gt 49 dX9_tries_29 (by decide) (fun _ => ?_) (fun _ => ?_)
      · exact s_less (t_X9_tries_49 hrp   S7) trivial
      · refine s_iload dX9_tries_32 rfl ?_
        refine s_aload_n 0 dX9_tries_34 rfl rfl ?_
        refine s_getI fk_X9_361 rfl dX9_tries_35 (fun v10 => ?_)
        refine s_icmp_ne 50 dX9_tries_38 (by decide) (fun _ => ?_) (fun _ => ?_)
        · exact s_less (t_X9_tries_50 hrp x0 x3 v6  S7) (And.intro rfl (And.intro rfl (And.intro rfl trivial)))
        · refine s_iload_n 3 dX9_tries_41 rfl rfl ?_
          refine s_aload_n 0 dX9_tries_42 rfl rfl ?_
          refine s_getI fk_X9_364 rfl dX9_tries_43 (fun v11 => ?_)
          refine s_icmp_lt 50 dX9_tries_46 (by decide) (fun _ => ?_) (fun _ => ?_)
          · exact s_less (t_X9_tries_50 hrp x0 x3 v6  S7) (And.intro rfl (And.intro rfl (And.intro rfl trivial)))
          · exact s_less (t_X9_tries_49 hrp   S7) trivial
theorem con_X9_tries {l : Launch} (F : Nat) : ∀ (d : Nat) (x0 : Nat) (x1 : Int32) (x2 : Int32) (x3 : Int32) (S : Mem) (v : Unit) (S1 : Mem), fn_X9_tries F d x0 x1 x2 x3 S = some (v, S1) → Con l yX9_tries cX9_tries 6 none (5 * d) (110 * d) [.ref x0, .int x1, .int x2, .int x3] S (rV v) S1
  | 0 => fun _ _ _ _ _ _ _ h => by cases h
  | d + 1 => fun x0 x1 x2 x3 S v S1 h => cob_X9_tries F (fn_X9_tries F d) (con_X9_tries F d) x0 x1 x2 x3 S v S1 h
-- X9_nearest
def f_X9_nearest_96 (F : Nat) (y0 : Int32) (S : Mem) : Option (Int32 × Mem) :=
  some (y0, S)
def f_X9_nearest_29 (F : Nat)  (S : Mem) : Option (Int32 × Mem) :=
  some ((-1 : Int32), S)
def fn_X9_nearest (F : Nat) (x0 : Nat) (x1 : Int32) (x2 : Int32) (x3 : Int32) (S : Mem) : Option (Int32 × Mem) :=
  (sI S 8 0 x0 (0 : Int32)).bind fun S1 =>
  bd ((fn_X9_isWanted F x1 x2 S1)) fun v2 S3 =>
  if v2 = 0 then
    f_X9_nearest_29 F   S3
  else
    (gR S3 8 10 x0).bind fun v4 =>
    (gA S3 10 v4 (4 : Int32)).bind fun v5 =>
    bd ((fn_X9_within F x3 (0 : Int32) ((1 : Int32) + v5) S3)) fun v6 S7 =>
    if v6 = 0 then
      f_X9_nearest_29 F   S7
    else
      (sI S7 8 45 x0 x1).bind fun S8 =>
      (sI S8 8 46 x0 x2).bind fun S9 =>
      (sI S9 8 47 x0 (-1 : Int32)).bind fun S10 =>
      (gR S10 8 36 x0).bind fun v11 =>
      (gA S10 10 v11 (19 : Int32)).bind fun v12 =>
      bd (cal S10 8 x0 (fn_X9_blows F x0 v12 (0 : Int32) S10)) fun _ S14 =>
      bd (cal S14 8 x0 (fn_X9_tries F 8 x0 (0 : Int32) (2 : Int32) (0 : Int32) S14)) fun _ S16 =>
      if x3 = 0 then
        (gI S16 8 47 x0).bind fun v20 =>
        f_X9_nearest_96 F  v20 S16
      else
        if x3 = (1 : Int32) then
          (gI S16 8 48 x0).bind fun v19 =>
          f_X9_nearest_96 F  v19 S16
        else
          (gR S16 8 49 x0).bind fun v17 =>
          (gA S16 10 v17 (x3 - (2 : Int32))).bind fun v18 =>
          f_X9_nearest_96 F  v18 S16
set_option maxRecDepth 100000 in
theorem t_X9_nearest_96 {Γ : Cx} {F : Nat} : ∀ (y0 : Int32) (S : Mem), Sim cX9_nearest RX9 41 905 (some .int) false Γ rI (f_X9_nearest_96 F y0 S) S 96 [none, none, none, none] [.int y0] := by
  intro y0 S
  unfold f_X9_nearest_96
  exact s_iret dX9_nearest_96
set_option maxRecDepth 100000 in
theorem t_X9_nearest_29 {Γ : Cx} {F : Nat} : ∀ (S : Mem), Sim cX9_nearest RX9 41 905 (some .int) false Γ rI (f_X9_nearest_29 F  S) S 29 [none, none, none, none] [] := by
  intro  S
  unfold f_X9_nearest_29
  refine s_iconst (-1 : Int32) dX9_nearest_29 (by decide) ?_
  exact s_iret dX9_nearest_30
set_option maxRecDepth 100000 in
theorem con_X9_nearest {l : Launch} (F : Nat) (x0 : Nat) (x1 : Int32) (x2 : Int32) (x3 : Int32) (S : Mem) (v : Int32) (S1 : Mem) (h : fn_X9_nearest F x0 x1 x2 x3 S = some (v, S1)) : Con l yX9_nearest cX9_nearest 4 (some .int) 41 905 [.ref x0, .int x1, .int x2, .int x3] S (rI v) S1 := by
  refine con_of (ι := rI) RX9 false [some (.ref x0), some (.int x1), some (.int x2), some (.int x3)] rfl (fun h => by cases h) (by decide) (Nat.le_of_ble_eq_true rfl) ⟨rfl, rfl⟩ (fun Γ hl => ?_) h
  unfold fn_X9_nearest
  refine s_aload_n 0 dX9_nearest_0 rfl rfl ?_
  refine s_iconst (0 : Int32) dX9_nearest_1 (by decide) ?_
  refine s_putI fk_X9_109 (Or.inl rfl) rfl dX9_nearest_2 (fun S1 => ?_)
  refine s_iload_n 1 dX9_nearest_5 rfl rfl ?_
  refine s_iload_n 2 dX9_nearest_6 rfl rfl ?_
  refine s_cS2I mk_X9_371 (fun v9 S9 h9 => con_X9_isWanted F _ _ _ v9 S9 h9) ⟨by omega, by omega⟩ (Nat.le_of_ble_eq_true rfl) dX9_nearest_7 (fun v2 S3 => ?_)
  refine s_if_eq 29 dX9_nearest_10 (by decide) (fun _ => ?_) (fun _ => ?_)
  · exact s_less (t_X9_nearest_29   S3) trivial
  · refine s_iload_n 3 dX9_nearest_13 rfl rfl ?_
    refine s_iconst (0 : Int32) dX9_nearest_14 (by decide) ?_
    refine s_iconst (1 : Int32) dX9_nearest_15 (by decide) ?_
    refine s_aload_n 0 dX9_nearest_16 rfl rfl ?_
    refine s_getR fk_X9_13 rfl dX9_nearest_17 (fun v4 => ?_)
    refine s_iconst (4 : Int32) dX9_nearest_20 (by decide) ?_
    refine s_iald dX9_nearest_21 (fun v5 => ?_)
    refine s_iadd dX9_nearest_22 ?_
    refine s_cS3I mk_X9_235 (fun v9 S9 h9 => con_X9_within F _ _ _ _ v9 S9 h9) ⟨by omega, by omega⟩ (Nat.le_of_ble_eq_true rfl) dX9_nearest_23 (fun v6 S7 => ?_)
    refine s_if_ne 31 dX9_nearest_26 (by decide) (fun _ => ?_) (fun _ => ?_)
    · refine s_aload_n 0 dX9_nearest_31 rfl rfl ?_
      refine s_iload_n 1 dX9_nearest_32 rfl rfl ?_
      refine s_putI fk_X9_349 (Or.inl rfl) rfl dX9_nearest_33 (fun S8 => ?_)
      refine s_aload_n 0 dX9_nearest_36 rfl rfl ?_
      refine s_iload_n 2 dX9_nearest_37 rfl rfl ?_
      refine s_putI fk_X9_355 (Or.inl rfl) rfl dX9_nearest_38 (fun S9 => ?_)
      refine s_aload_n 0 dX9_nearest_41 rfl rfl ?_
      refine s_iconst (-1 : Int32) dX9_nearest_42 (by decide) ?_
      refine s_putI fk_X9_361 (Or.inl rfl) rfl dX9_nearest_43 (fun S10 => ?_)
      refine s_aload_n 0 dX9_nearest_46 rfl rfl ?_
      refine s_aload_n 0 dX9_nearest_47 rfl rfl ?_
      refine s_getR fk_X9_81 rfl dX9_nearest_48 (fun v11 => ?_)
      refine s_bipush (19 : Int32) dX9_nearest_51 (by decide) ?_
      refine s_iald dX9_nearest_53 (fun v12 => ?_)
      refine s_iconst (0 : Int32) dX9_nearest_54 (by decide) ?_
      refine s_cV2V mk_X9_319 (by decide) rfl (fun v9 S9 h9 => con_X9_blows F _ _ _ _ v9 S9 h9) ⟨by omega, by omega⟩ (Nat.le_of_ble_eq_true rfl) dX9_nearest_55 (fun _ S14 => ?_)
      refine s_aload_n 0 dX9_nearest_58 rfl rfl ?_
      refine s_iconst (0 : Int32) dX9_nearest_59 (by decide) ?_
      refine s_iconst (2 : Int32) dX9_nearest_60 (by decide) ?_
      refine s_iconst (0 : Int32) dX9_nearest_61 (by decide) ?_
      refine s_cV3V mk_X9_367 (by decide) rfl (fun v9 S9 h9 => con_X9_tries F 8 _ _ _ _ _ v9 S9 h9) ⟨by omega, by omega⟩ (Nat.le_of_ble_eq_true rfl) dX9_nearest_62 (fun _ S16 => ?_)
      refine s_iload_n 3 dX9_nearest_65 rfl rfl ?_
      refine s_if_ne 76 dX9_nearest_66 (by decide) (fun _ => ?_) (fun _ => ?_)
      · refine s_iload_n 3 dX9_nearest_76 rfl rfl ?_
        refine s_iconst (1 : Int32) dX9_nearest_77 (by decide) ?_
        refine s_icmp_ne 88 dX9_nearest_78 (by decide) (fun _ => ?_) (fun _ => ?_)
        · refine s_aload_n 0 dX9_nearest_88 rfl rfl ?_
          refine s_getR fk_X9_99 rfl dX9_nearest_89 (fun v17 => ?_)
          refine s_iload_n 3 dX9_nearest_92 rfl rfl ?_
          refine s_iconst (2 : Int32) dX9_nearest_93 (by decide) ?_
          refine s_isub dX9_nearest_94 ?_
          refine s_iald dX9_nearest_95 (fun v18 => ?_)
          exact s_less (t_X9_nearest_96  v18 S16) trivial
        · refine s_aload_n 0 dX9_nearest_81 rfl rfl ?_
          refine s_getI fk_X9_364 rfl dX9_nearest_82 (fun v19 => ?_)
          refine s_goto 96 dX9_nearest_85 (by decide) ?_
          exact s_less (t_X9_nearest_96  v19 S16) trivial
      · refine s_aload_n 0 dX9_nearest_69 rfl rfl ?_
        refine s_getI fk_X9_361 rfl dX9_nearest_70 (fun v20 => ?_)
        refine s_goto 96 dX9_nearest_73 (by decide) ?_
        exact s_less (t_X9_nearest_96  v20 S16) trivial
    · exact s_less (t_X9_nearest_29   S7) trivial
-- X9_does
def f_X9_does_134 (F : Nat) (rp : Nat → Int32 → Int32 → Int32 → Int32 → Mem → Option (Int32 × Mem)) (x0 : Nat) (x1 : Int32) (x5 : Int32) (x6 : Int32) (S : Mem) : Option (Int32 × Mem) :=
  (gR S 8 36 x0).bind fun v1 =>
  (sA S v1 x1 x5).bind fun S2 =>
  rz x6 S2
def f_X9_does_128 (F : Nat) (rp : Nat → Int32 → Int32 → Int32 → Int32 → Mem → Option (Int32 × Mem)) (k76 : Nat → Int32 → Int32 → Int32 → Int32 → Int32 → Int32 → Int32 → Mem → Option (Int32 × Mem)) (x0 : Nat) (x1 : Int32) (x2 : Int32) (x3 : Int32) (x4 : Int32) (x5 : Int32) (x6 : Int32) (x7 : Int32) (S : Mem) : Option (Int32 × Mem) :=
  k76 x0 x1 x2 x3 x4 x5 x6 (x7 + (1 : Int32)) S
def b_X9_does_76 (F : Nat) (rp : Nat → Int32 → Int32 → Int32 → Int32 → Mem → Option (Int32 × Mem)) (k76 : Nat → Int32 → Int32 → Int32 → Int32 → Int32 → Int32 → Int32 → Mem → Option (Int32 × Mem)) (x0 : Nat) (x1 : Int32) (x2 : Int32) (x3 : Int32) (x4 : Int32) (x5 : Int32) (x6 : Int32) (x7 : Int32) (S : Mem) : Option (Int32 × Mem) :=
  if (mnI (40 : Int32) (x5 + x2)) < x7 then
    f_X9_does_134 F rp x0 x1 x5 x6  S
  else
    if x6 = 0 then
      if x7 = x5 then
        f_X9_does_128 F rp k76 x0 x1 x2 x3 x4 x5 x6 x7  S
      else
        (gR S 8 36 x0).bind fun v1 =>
        (sA S v1 x1 x7).bind fun S2 =>
        bd (cal S2 8 x0 (rp x0 (x1 + (1 : Int32)) x2 (x3 - (1 : Int32)) x4 S2)) fun v3 S4 =>
        f_X9_does_128 F rp k76 x0 x1 x2 x3 x4 x5 v3 x7  S4
    else
      f_X9_does_134 F rp x0 x1 x5 x6  S
def f_X9_does_53 (F : Nat) (rp : Nat → Int32 → Int32 → Int32 → Int32 → Mem → Option (Int32 × Mem))  (S : Mem) : Option (Int32 × Mem) :=
  rz (0 : Int32) S
def f_X9_does_24 (F : Nat) (rp : Nat → Int32 → Int32 → Int32 → Int32 → Mem → Option (Int32 × Mem)) (y0 : Int32) (S : Mem) : Option (Int32 × Mem) :=
  rz y0 S
def fb_X9_does (F : Nat) (rp : Nat → Int32 → Int32 → Int32 → Int32 → Mem → Option (Int32 × Mem)) (x0 : Nat) (x1 : Int32) (x2 : Int32) (x3 : Int32) (x4 : Int32) (S : Mem) : Option (Int32 × Mem) :=
  (gR S 8 10 x0).bind fun v1 =>
  (gA S 10 v1 (4 : Int32)).bind fun v2 =>
  if x1 = v2 then
    bd (cal S 8 x0 (fn_X9_awayNow F x0 S)) fun v10 S11 =>
    if x4 < v10 then
      f_X9_does_24 F rp  (0 : Int32) S11
    else
      f_X9_does_24 F rp  (1 : Int32) S11
  else
    bd (cal S 8 x0 (rp x0 (x1 + (1 : Int32)) x2 x3 x4 S)) fun v3 S4 =>
    if v3 = 0 then
      if x3 = 0 then
        f_X9_does_53 F rp   S4
      else
        bd (cal S4 8 x0 (fn_X9_isLost F x0 x1 S4)) fun v5 S6 =>
        if v5 = 0 then
          (gR S6 8 36 x0).bind fun v7 =>
          (gA S6 10 v7 x1).bind fun v8 =>
          lt ((mxI (0 : Int32) (v8 - x2))) fun v9 =>
          fix8 (b_X9_does_76 F rp) F x0 x1 x2 x3 x4 v8 (0 : Int32) v9 S6
        else
          f_X9_does_53 F rp   S6
    else
      rz (1 : Int32) S4
def fn_X9_does (F : Nat) : Nat → Nat → Int32 → Int32 → Int32 → Int32 → Mem → Option (Int32 × Mem)
  | 0 => fun _ _ _ _ _ _ => none
  | d + 1 => fb_X9_does F (fn_X9_does F d)
set_option maxRecDepth 100000 in
theorem t_X9_does_134 {Γ : Cx} {F : Nat} {rp : Nat → Int32 → Int32 → Int32 → Int32 → Mem → Option (Int32 × Mem)} {frR loR : Nat} (hrp : ∀ (z0 : Nat) (z1 : Int32) (z2 : Int32) (z3 : Int32) (z4 : Int32) (S : Mem) (v : Int32) (S1 : Mem), rp z0 z1 z2 z3 z4 S = some (v, S1) → Con (lOf Γ) yX9_does cX9_does 8 (some .boolean) frR loR [.ref z0, .int z1, .int z2, .int z3, .int z4] S (rI v) S1) : ∀ (x0 : Nat) (x1 : Int32) (x5 : Int32) (x6 : Int32) (S : Mem), Sim cX9_does RX9 (frR + 5) (loR + 110) (some .boolean) false Γ rI (f_X9_does_134 F rp x0 x1 x5 x6 S) S 134 [some (.ref x0), some (.int x1), none, none, none, some (.int x5), some (.int x6), none] [] := by
  intro x0 x1 x5 x6 S
  unfold f_X9_does_134
  refine s_aload_n 0 dX9_does_134 rfl rfl ?_
  refine s_getR fk_X9_81 rfl dX9_does_135 (fun v1 => ?_)
  refine s_iload_n 1 dX9_does_138 rfl rfl ?_
  refine s_iload dX9_does_139 rfl ?_
  refine s_iast dX9_does_141 (fun S2 => ?_)
  refine s_iload dX9_does_142 rfl ?_
  exact s_zret dX9_does_144
set_option maxRecDepth 100000 in
theorem t_X9_does_128 {Γ : Cx} {F : Nat} {rp : Nat → Int32 → Int32 → Int32 → Int32 → Mem → Option (Int32 × Mem)} {frR loR : Nat} (hrp : ∀ (z0 : Nat) (z1 : Int32) (z2 : Int32) (z3 : Int32) (z4 : Int32) (S : Mem) (v : Int32) (S1 : Mem), rp z0 z1 z2 z3 z4 S = some (v, S1) → Con (lOf Γ) yX9_does cX9_does 8 (some .boolean) frR loR [.ref z0, .int z1, .int z2, .int z3, .int z4] S (rI v) S1) {k76 : Nat → Int32 → Int32 → Int32 → Int32 → Int32 → Int32 → Int32 → Mem → Option (Int32 × Mem)} (hk76 : ∀ (x0 : Nat) (x1 : Int32) (x2 : Int32) (x3 : Int32) (x4 : Int32) (x5 : Int32) (x6 : Int32) (x7 : Int32) (S : Mem), Sim cX9_does RX9 (frR + 5) (loR + 110) (some .boolean) false Γ rI (k76 x0 x1 x2 x3 x4 x5 x6 x7 S) S 76 [some (.ref x0), some (.int x1), some (.int x2), some (.int x3), some (.int x4), some (.int x5), some (.int x6), some (.int x7)] []) : ∀ (x0 : Nat) (x1 : Int32) (x2 : Int32) (x3 : Int32) (x4 : Int32) (x5 : Int32) (x6 : Int32) (x7 : Int32) (S : Mem), Sim cX9_does RX9 (frR + 5) (loR + 110) (some .boolean) false Γ rI (f_X9_does_128 F rp k76 x0 x1 x2 x3 x4 x5 x6 x7 S) S 128 [some (.ref x0), some (.int x1), some (.int x2), some (.int x3), some (.int x4), some (.int x5), some (.int x6), some (.int x7)] [] := by
  intro x0 x1 x2 x3 x4 x5 x6 x7 S
  unfold f_X9_does_128
  refine s_iinc_7 (1 : Int32) dX9_does_128 (by decide) rfl ?_
  refine s_goto 76 dX9_does_131 (by decide) ?_
  exact s_less (hk76 x0 x1 x2 x3 x4 x5 x6 (x7 + (1 : Int32)) S) (And.intro rfl (And.intro rfl (And.intro rfl (And.intro rfl (And.intro rfl (And.intro rfl (And.intro rfl (And.intro rfl trivial))))))))
set_option maxRecDepth 100000 in
theorem t_X9_does_76 {Γ : Cx} {F : Nat} {rp : Nat → Int32 → Int32 → Int32 → Int32 → Mem → Option (Int32 × Mem)} {frR loR : Nat} (hrp : ∀ (z0 : Nat) (z1 : Int32) (z2 : Int32) (z3 : Int32) (z4 : Int32) (S : Mem) (v : Int32) (S1 : Mem), rp z0 z1 z2 z3 z4 S = some (v, S1) → Con (lOf Γ) yX9_does cX9_does 8 (some .boolean) frR loR [.ref z0, .int z1, .int z2, .int z3, .int z4] S (rI v) S1) : ∀ (f : Nat) (x0 : Nat) (x1 : Int32) (x2 : Int32) (x3 : Int32) (x4 : Int32) (x5 : Int32) (x6 : Int32) (x7 : Int32) (S : Mem), Sim cX9_does RX9 (frR + 5) (loR + 110) (some .boolean) false Γ rI (fix8 (b_X9_does_76 F rp) f x0 x1 x2 x3 x4 x5 x6 x7 S) S 76 [some (.ref x0), some (.int x1), some (.int x2), some (.int x3), some (.int x4), some (.int x5), some (.int x6), some (.int x7)] [] := by
  refine s_fix8 (fun (x0 : Nat) (x1 : Int32) (x2 : Int32) (x3 : Int32) (x4 : Int32) (x5 : Int32) (x6 : Int32) (x7 : Int32) => [some (.ref x0), some (.int x1), some (.int x2), some (.int x3), some (.int x4), some (.int x5), some (.int x6), some (.int x7)]) (fun k76 hk76 => ?_)
  intro x0 x1 x2 x3 x4 x5 x6 x7 S
  unfold b_X9_does_76
  refine s_iload dX9_does_76 rfl ?_
  refine s_bipush (40 : Int32) dX9_does_78 (by decide) ?_
  refine s_iload dX9_does_80 rfl ?_
  refine s_iload_n 2 dX9_does_82 rfl rfl ?_
  refine s_iadd dX9_does_83 ?_
  refine s_mmin mm_X9_378 mm_min_s mm_i mm_min_c ⟨by omega, by simp [Value.category] <;> omega⟩ dX9_does_84 ?_
  refine s_icmp_gt 134 dX9_does_87 (by decide) (fun _ => ?_) (fun _ => ?_)
  · exact s_less (t_X9_does_134 hrp x0 x1 x5 x6  S) (And.intro rfl (And.intro rfl (And.intro rfl (And.intro rfl trivial))))
  · refine s_iload dX9_does_90 rfl ?_
    refine s_if_ne 134 dX9_does_92 (by decide) (fun _ => ?_) (fun _ => ?_)
    · exact s_less (t_X9_does_134 hrp x0 x1 x5 x6  S) (And.intro rfl (And.intro rfl (And.intro rfl (And.intro rfl trivial))))
    · refine s_iload dX9_does_95 rfl ?_
      refine s_iload dX9_does_97 rfl ?_
      refine s_icmp_ne 105 dX9_does_99 (by decide) (fun _ => ?_) (fun _ => ?_)
      · refine s_aload_n 0 dX9_does_105 rfl rfl ?_
        refine s_getR fk_X9_81 rfl dX9_does_106 (fun v1 => ?_)
        refine s_iload_n 1 dX9_does_109 rfl rfl ?_
        refine s_iload dX9_does_110 rfl ?_
        refine s_iast dX9_does_112 (fun S2 => ?_)
        refine s_aload_n 0 dX9_does_113 rfl rfl ?_
        refine s_iload_n 1 dX9_does_114 rfl rfl ?_
        refine s_iconst (1 : Int32) dX9_does_115 (by decide) ?_
        refine s_iadd dX9_does_116 ?_
        refine s_iload_n 2 dX9_does_117 rfl rfl ?_
        refine s_iload_n 3 dX9_does_118 rfl rfl ?_
        refine s_iconst (1 : Int32) dX9_does_119 (by decide) ?_
        refine s_isub dX9_does_120 ?_
        refine s_iload dX9_does_121 rfl ?_
        refine s_cV4I mk_X9_374 (by decide) rfl (fun v9 S9 h9 => hrp _ _ _ _ _ _ v9 S9 h9) ⟨by omega, by omega⟩ (Nat.le_of_ble_eq_true rfl) dX9_does_123 (fun v3 S4 => ?_)
        refine s_istore_6 dX9_does_126 rfl ?_
        exact s_less (t_X9_does_128 hrp hk76 x0 x1 x2 x3 x4 x5 v3 x7  S4) (And.intro rfl (And.intro rfl (And.intro rfl (And.intro rfl (And.intro rfl (And.intro rfl (And.intro rfl (And.intro rfl trivial))))))))
      · refine s_goto 128 dX9_does_102 (by decide) ?_
        exact s_less (t_X9_does_128 hrp hk76 x0 x1 x2 x3 x4 x5 x6 x7  S) (And.intro rfl (And.intro rfl (And.intro rfl (And.intro rfl (And.intro rfl (And.intro rfl (And.intro rfl (And.intro rfl trivial))))))))
set_option maxRecDepth 100000 in
theorem t_X9_does_53 {Γ : Cx} {F : Nat} {rp : Nat → Int32 → Int32 → Int32 → Int32 → Mem → Option (Int32 × Mem)} {frR loR : Nat} (hrp : ∀ (z0 : Nat) (z1 : Int32) (z2 : Int32) (z3 : Int32) (z4 : Int32) (S : Mem) (v : Int32) (S1 : Mem), rp z0 z1 z2 z3 z4 S = some (v, S1) → Con (lOf Γ) yX9_does cX9_does 8 (some .boolean) frR loR [.ref z0, .int z1, .int z2, .int z3, .int z4] S (rI v) S1) : ∀ (S : Mem), Sim cX9_does RX9 (frR + 5) (loR + 110) (some .boolean) false Γ rI (f_X9_does_53 F rp  S) S 53 [none, none, none, none, none, none, none, none] [] := by
  intro  S
  unfold f_X9_does_53
  refine s_iconst (0 : Int32) dX9_does_53 (by decide) ?_
  exact s_zret dX9_does_54
set_option maxRecDepth 100000 in
theorem t_X9_does_24 {Γ : Cx} {F : Nat} {rp : Nat → Int32 → Int32 → Int32 → Int32 → Mem → Option (Int32 × Mem)} {frR loR : Nat} (hrp : ∀ (z0 : Nat) (z1 : Int32) (z2 : Int32) (z3 : Int32) (z4 : Int32) (S : Mem) (v : Int32) (S1 : Mem), rp z0 z1 z2 z3 z4 S = some (v, S1) → Con (lOf Γ) yX9_does cX9_does 8 (some .boolean) frR loR [.ref z0, .int z1, .int z2, .int z3, .int z4] S (rI v) S1) : ∀ (y0 : Int32) (S : Mem), Sim cX9_does RX9 (frR + 5) (loR + 110) (some .boolean) false Γ rI (f_X9_does_24 F rp y0 S) S 24 [none, none, none, none, none, none, none, none] [.int y0] := by
  intro y0 S
  unfold f_X9_does_24
  exact s_zret dX9_does_24
set_option maxRecDepth 100000 in
theorem cob_X9_does {l : Launch} (F : Nat) (rp : Nat → Int32 → Int32 → Int32 → Int32 → Mem → Option (Int32 × Mem)) {frR loR : Nat} (hrp : ∀ (z0 : Nat) (z1 : Int32) (z2 : Int32) (z3 : Int32) (z4 : Int32) (S : Mem) (v : Int32) (S1 : Mem), rp z0 z1 z2 z3 z4 S = some (v, S1) → Con l yX9_does cX9_does 8 (some .boolean) frR loR [.ref z0, .int z1, .int z2, .int z3, .int z4] S (rI v) S1) (x0 : Nat) (x1 : Int32) (x2 : Int32) (x3 : Int32) (x4 : Int32) (S : Mem) (v : Int32) (S1 : Mem) (h : fb_X9_does F rp x0 x1 x2 x3 x4 S = some (v, S1)) : Con l yX9_does cX9_does 8 (some .boolean) (frR + 5) (loR + 110) [.ref x0, .int x1, .int x2, .int x3, .int x4] S (rI v) S1 := by
  refine con_of (ι := rI) RX9 false [some (.ref x0), some (.int x1), some (.int x2), some (.int x3), some (.int x4), none, none, none] rfl (fun h => by cases h) (by decide) (Nat.le_of_ble_eq_true rfl) ⟨rfl, rfl⟩ (fun Γ hl => ?_) h
  subst hl
  unfold fb_X9_does
  refine s_iload_n 1 dX9_does_0 rfl rfl ?_
  refine s_aload_n 0 dX9_does_1 rfl rfl ?_
  refine s_getR fk_X9_13 rfl dX9_does_2 (fun v1 => ?_)
  refine s_iconst (4 : Int32) dX9_does_5 (by decide) ?_
  refine s_iald dX9_does_6 (fun v2 => ?_)
  refine s_icmp_ne 25 dX9_does_7 (by decide) (fun _ => ?_) (fun _ => ?_)
  · refine s_aload_n 0 dX9_does_25 rfl rfl ?_
    refine s_iload_n 1 dX9_does_26 rfl rfl ?_
    refine s_iconst (1 : Int32) dX9_does_27 (by decide) ?_
    refine s_iadd dX9_does_28 ?_
    refine s_iload_n 2 dX9_does_29 rfl rfl ?_
    refine s_iload_n 3 dX9_does_30 rfl rfl ?_
    refine s_iload dX9_does_31 rfl ?_
    refine s_cV4I mk_X9_374 (by decide) rfl (fun v9 S9 h9 => hrp _ _ _ _ _ _ v9 S9 h9) ⟨by omega, by omega⟩ (Nat.le_of_ble_eq_true rfl) dX9_does_33 (fun v3 S4 => ?_)
    refine s_if_eq 41 dX9_does_36 (by decide) (fun _ => ?_) (fun _ => ?_)
    · refine s_iload_n 3 dX9_does_41 rfl rfl ?_
      refine s_if_eq 53 dX9_does_42 (by decide) (fun _ => ?_) (fun _ => ?_)
      · exact s_less (t_X9_does_53 hrp   S4) trivial
      · refine s_aload_n 0 dX9_does_45 rfl rfl ?_
        refine s_iload_n 1 dX9_does_46 rfl rfl ?_
        refine s_cV1I mk_X9_292 (by decide) rfl (fun v9 S9 h9 => con_X9_isLost F _ _ _ v9 S9 h9) ⟨by omega, by omega⟩ (Nat.le_of_ble_eq_true rfl) dX9_does_47 (fun v5 S6 => ?_)
        refine s_if_eq 55 dX9_does_50 (by decide) (fun _ => ?_) (fun _ => ?_)
        · refine s_aload_n 0 dX9_does_55 rfl rfl ?_
          refine s_getR fk_X9_81 rfl dX9_does_56 (fun v7 => ?_)
          refine s_iload_n 1 dX9_does_59 rfl rfl ?_
          refine s_iald dX9_does_60 (fun v8 => ?_)
          refine s_istore_5 dX9_does_61 rfl ?_
          refine s_iconst (0 : Int32) dX9_does_63 (by decide) ?_
          refine s_istore_6 dX9_does_64 rfl ?_
          refine s_iconst (0 : Int32) dX9_does_66 (by decide) ?_
          refine s_iload dX9_does_67 rfl ?_
          refine s_iload_n 2 dX9_does_69 rfl rfl ?_
          refine s_isub dX9_does_70 ?_
          refine s_mmax mm_X9_298 mm_max_s mm_i mm_max_c ⟨by omega, by simp [Value.category] <;> omega⟩ dX9_does_71 ?_
          refine s_ltI (fun v9 => ?_)
          refine s_istore_7 dX9_does_74 rfl ?_
          exact s_less (t_X9_does_76 hrp F x0 x1 x2 x3 x4 v8 (0 : Int32) v9 S6) (And.intro rfl (And.intro rfl (And.intro rfl (And.intro rfl (And.intro rfl (And.intro rfl (And.intro rfl (And.intro rfl trivial))))))))
        · exact s_less (t_X9_does_53 hrp   S6) trivial
    · refine s_iconst (1 : Int32) dX9_does_39 (by decide) ?_
      exact s_zret dX9_does_40
  · refine s_aload_n 0 dX9_does_10 rfl rfl ?_
    refine s_cV0I mk_X9_358 (by decide) rfl (fun v9 S9 h9 => con_X9_awayNow F _ _ v9 S9 h9) ⟨by omega, by omega⟩ (Nat.le_of_ble_eq_true rfl) dX9_does_11 (fun v10 S11 => ?_)
    refine s_iload dX9_does_14 rfl ?_
    refine s_icmp_gt 23 dX9_does_16 (by decide) (fun _ => ?_) (fun _ => ?_)
    · refine s_iconst (0 : Int32) dX9_does_23 (by decide) ?_
      exact s_less (t_X9_does_24 hrp  (0 : Int32) S11) trivial
    · refine s_iconst (1 : Int32) dX9_does_19 (by decide) ?_
      refine s_goto 24 dX9_does_20 (by decide) ?_
      exact s_less (t_X9_does_24 hrp  (1 : Int32) S11) trivial
theorem con_X9_does {l : Launch} (F : Nat) : ∀ (d : Nat) (x0 : Nat) (x1 : Int32) (x2 : Int32) (x3 : Int32) (x4 : Int32) (S : Mem) (v : Int32) (S1 : Mem), fn_X9_does F d x0 x1 x2 x3 x4 S = some (v, S1) → Con l yX9_does cX9_does 8 (some .boolean) (5 * d) (110 * d) [.ref x0, .int x1, .int x2, .int x3, .int x4] S (rI v) S1
  | 0 => fun _ _ _ _ _ _ _ _ h => by cases h
  | d + 1 => fun x0 x1 x2 x3 x4 S v S1 h => cob_X9_does F (fn_X9_does F d) (con_X9_does F d) x0 x1 x2 x3 x4 S v S1 h
-- X9_fewest
def b_X9_fewest_61 (F : Nat) (k61 : Nat → Int32 → Int32 → Int32 → Mem → Option (Int32 × Mem)) (x0 : Nat) (x3 : Int32) (x4 : Int32) (x5 : Int32) (S : Mem) : Option (Int32 × Mem) :=
  (gR S 8 10 x0).bind fun v1 =>
  (gA S 10 v1 (4 : Int32)).bind fun v2 =>
  if v2 < x5 then
    some ((-1 : Int32), S)
  else
    bd (cal S 8 x0 (fn_X9_does F 8 x0 (0 : Int32) x4 x5 x3 S)) fun v3 S4 =>
    if v3 = 0 then
      k61 x0 x3 x4 (x5 + (1 : Int32)) S4
    else
      some (x5, S4)
def f_X9_fewest_34 (F : Nat)  (S : Mem) : Option (Int32 × Mem) :=
  some ((-1 : Int32), S)
def fn_X9_fewest (F : Nat) (x0 : Nat) (x1 : Int32) (x2 : Int32) (x3 : Int32) (x4 : Int32) (S : Mem) : Option (Int32 × Mem) :=
  (sI S 8 0 x0 (0 : Int32)).bind fun S1 =>
  bd ((fn_X9_isWanted F x1 x2 S1)) fun v2 S3 =>
  if v2 = 0 then
    f_X9_fewest_34 F   S3
  else
    bd ((fn_X9_within F x3 (0 : Int32) (999 : Int32) S3)) fun v4 S5 =>
    if v4 = 0 then
      f_X9_fewest_34 F   S5
    else
      bd ((fn_X9_within F x4 (1 : Int32) (3 : Int32) S5)) fun v6 S7 =>
      if v6 = 0 then
        f_X9_fewest_34 F   S7
      else
        (sI S7 8 45 x0 x1).bind fun S8 =>
        (sI S8 8 46 x0 x2).bind fun S9 =>
        (gR S9 8 36 x0).bind fun v10 =>
        (gA S9 10 v10 (19 : Int32)).bind fun v11 =>
        bd (cal S9 8 x0 (fn_X9_blows F x0 v11 (0 : Int32) S9)) fun _ S13 =>
        fix4 (b_X9_fewest_61 F) F x0 x3 x4 (0 : Int32) S13
set_option maxRecDepth 100000 in
theorem t_X9_fewest_61 {Γ : Cx} {F : Nat} : ∀ (f : Nat) (x0 : Nat) (x3 : Int32) (x4 : Int32) (x5 : Int32) (S : Mem), Sim cX9_fewest RX9 41 907 (some .int) false Γ rI (fix4 (b_X9_fewest_61 F) f x0 x3 x4 x5 S) S 61 [some (.ref x0), none, none, some (.int x3), some (.int x4), some (.int x5)] [] := by
  refine s_fix4 (fun (x0 : Nat) (x3 : Int32) (x4 : Int32) (x5 : Int32) => [some (.ref x0), none, none, some (.int x3), some (.int x4), some (.int x5)]) (fun k61 hk61 => ?_)
  intro x0 x3 x4 x5 S
  unfold b_X9_fewest_61
  refine s_iload dX9_fewest_61 rfl ?_
  refine s_aload_n 0 dX9_fewest_63 rfl rfl ?_
  refine s_getR fk_X9_13 rfl dX9_fewest_64 (fun v1 => ?_)
  refine s_iconst (4 : Int32) dX9_fewest_67 (by decide) ?_
  refine s_iald dX9_fewest_68 (fun v2 => ?_)
  refine s_icmp_gt 94 dX9_fewest_69 (by decide) (fun _ => ?_) (fun _ => ?_)
  · refine s_iconst (-1 : Int32) dX9_fewest_94 (by decide) ?_
    exact s_iret dX9_fewest_95
  · refine s_aload_n 0 dX9_fewest_72 rfl rfl ?_
    refine s_iconst (0 : Int32) dX9_fewest_73 (by decide) ?_
    refine s_iload dX9_fewest_74 rfl ?_
    refine s_iload dX9_fewest_76 rfl ?_
    refine s_iload_n 3 dX9_fewest_78 rfl rfl ?_
    refine s_cV4I mk_X9_374 (by decide) rfl (fun v9 S9 h9 => con_X9_does F 8 _ _ _ _ _ _ v9 S9 h9) ⟨by omega, by omega⟩ (Nat.le_of_ble_eq_true rfl) dX9_fewest_79 (fun v3 S4 => ?_)
    refine s_if_eq 88 dX9_fewest_82 (by decide) (fun _ => ?_) (fun _ => ?_)
    · refine s_iinc_5 (1 : Int32) dX9_fewest_88 (by decide) rfl ?_
      refine s_goto 61 dX9_fewest_91 (by decide) ?_
      exact s_less (hk61 x0 x3 x4 (x5 + (1 : Int32)) S4) (And.intro rfl (And.intro rfl (And.intro rfl (And.intro rfl trivial))))
    · refine s_iload dX9_fewest_85 rfl ?_
      exact s_iret dX9_fewest_87
set_option maxRecDepth 100000 in
theorem t_X9_fewest_34 {Γ : Cx} {F : Nat} : ∀ (S : Mem), Sim cX9_fewest RX9 41 907 (some .int) false Γ rI (f_X9_fewest_34 F  S) S 34 [none, none, none, none, none, none] [] := by
  intro  S
  unfold f_X9_fewest_34
  refine s_iconst (-1 : Int32) dX9_fewest_34 (by decide) ?_
  exact s_iret dX9_fewest_35
set_option maxRecDepth 100000 in
theorem con_X9_fewest {l : Launch} (F : Nat) (x0 : Nat) (x1 : Int32) (x2 : Int32) (x3 : Int32) (x4 : Int32) (S : Mem) (v : Int32) (S1 : Mem) (h : fn_X9_fewest F x0 x1 x2 x3 x4 S = some (v, S1)) : Con l yX9_fewest cX9_fewest 6 (some .int) 41 907 [.ref x0, .int x1, .int x2, .int x3, .int x4] S (rI v) S1 := by
  refine con_of (ι := rI) RX9 false [some (.ref x0), some (.int x1), some (.int x2), some (.int x3), some (.int x4), none] rfl (fun h => by cases h) (by decide) (Nat.le_of_ble_eq_true rfl) ⟨rfl, rfl⟩ (fun Γ hl => ?_) h
  unfold fn_X9_fewest
  refine s_aload_n 0 dX9_fewest_0 rfl rfl ?_
  refine s_iconst (0 : Int32) dX9_fewest_1 (by decide) ?_
  refine s_putI fk_X9_109 (Or.inl rfl) rfl dX9_fewest_2 (fun S1 => ?_)
  refine s_iload_n 1 dX9_fewest_5 rfl rfl ?_
  refine s_iload_n 2 dX9_fewest_6 rfl rfl ?_
  refine s_cS2I mk_X9_371 (fun v9 S9 h9 => con_X9_isWanted F _ _ _ v9 S9 h9) ⟨by omega, by omega⟩ (Nat.le_of_ble_eq_true rfl) dX9_fewest_7 (fun v2 S3 => ?_)
  refine s_if_eq 34 dX9_fewest_10 (by decide) (fun _ => ?_) (fun _ => ?_)
  · exact s_less (t_X9_fewest_34   S3) trivial
  · refine s_iload_n 3 dX9_fewest_13 rfl rfl ?_
    refine s_iconst (0 : Int32) dX9_fewest_14 (by decide) ?_
    refine s_sipush (999 : Int32) dX9_fewest_15 (by decide) ?_
    refine s_cS3I mk_X9_235 (fun v9 S9 h9 => con_X9_within F _ _ _ _ v9 S9 h9) ⟨by omega, by omega⟩ (Nat.le_of_ble_eq_true rfl) dX9_fewest_18 (fun v4 S5 => ?_)
    refine s_if_eq 34 dX9_fewest_21 (by decide) (fun _ => ?_) (fun _ => ?_)
    · exact s_less (t_X9_fewest_34   S5) trivial
    · refine s_iload dX9_fewest_24 rfl ?_
      refine s_iconst (1 : Int32) dX9_fewest_26 (by decide) ?_
      refine s_iconst (3 : Int32) dX9_fewest_27 (by decide) ?_
      refine s_cS3I mk_X9_235 (fun v9 S9 h9 => con_X9_within F _ _ _ _ v9 S9 h9) ⟨by omega, by omega⟩ (Nat.le_of_ble_eq_true rfl) dX9_fewest_28 (fun v6 S7 => ?_)
      refine s_if_ne 36 dX9_fewest_31 (by decide) (fun _ => ?_) (fun _ => ?_)
      · refine s_aload_n 0 dX9_fewest_36 rfl rfl ?_
        refine s_iload_n 1 dX9_fewest_37 rfl rfl ?_
        refine s_putI fk_X9_349 (Or.inl rfl) rfl dX9_fewest_38 (fun S8 => ?_)
        refine s_aload_n 0 dX9_fewest_41 rfl rfl ?_
        refine s_iload_n 2 dX9_fewest_42 rfl rfl ?_
        refine s_putI fk_X9_355 (Or.inl rfl) rfl dX9_fewest_43 (fun S9 => ?_)
        refine s_aload_n 0 dX9_fewest_46 rfl rfl ?_
        refine s_aload_n 0 dX9_fewest_47 rfl rfl ?_
        refine s_getR fk_X9_81 rfl dX9_fewest_48 (fun v10 => ?_)
        refine s_bipush (19 : Int32) dX9_fewest_51 (by decide) ?_
        refine s_iald dX9_fewest_53 (fun v11 => ?_)
        refine s_iconst (0 : Int32) dX9_fewest_54 (by decide) ?_
        refine s_cV2V mk_X9_319 (by decide) rfl (fun v9 S9 h9 => con_X9_blows F _ _ _ _ v9 S9 h9) ⟨by omega, by omega⟩ (Nat.le_of_ble_eq_true rfl) dX9_fewest_55 (fun _ S13 => ?_)
        refine s_iconst (0 : Int32) dX9_fewest_58 (by decide) ?_
        refine s_istore_5 dX9_fewest_59 rfl ?_
        exact s_less (t_X9_fewest_61 F x0 x3 x4 (0 : Int32) S13) (And.intro rfl (And.intro rfl (And.intro rfl (And.intro rfl trivial))))
      · exact s_less (t_X9_fewest_34   S7) trivial
-- X9_holds
def f_X9_holds_115 (F : Nat) (x0 : Nat) (x5 : Int32) (S : Mem) : Option (Int32 × Mem) :=
  (gR S 8 37 x0).bind fun v1 =>
  (gR S 8 36 x0).bind fun v2 =>
  bd ((fn_X9_copies F v1 (0 : Int32) v2 (0 : Int32) S)) fun _ S4 =>
  some (x5, S4)
def f_X9_holds_104 (F : Nat) (k68 : Nat → Int32 → Int32 → Int32 → Int32 → Mem → Option (Int32 × Mem)) (x0 : Nat) (x3 : Int32) (x4 : Int32) (x5 : Int32) (x6 : Int32) (S : Mem) : Option (Int32 × Mem) :=
  bd (cal S 8 x0 (fn_X9_passes F x0 (0 : Int32) S)) fun _ S2 =>
  k68 x0 x3 x4 x5 (x6 + (1 : Int32)) S2
def b_X9_holds_68 (F : Nat) (k68 : Nat → Int32 → Int32 → Int32 → Int32 → Mem → Option (Int32 × Mem)) (x0 : Nat) (x3 : Int32) (x4 : Int32) (x5 : Int32) (x6 : Int32) (S : Mem) : Option (Int32 × Mem) :=
  if x4 ≤ x6 then
    f_X9_holds_115 F x0 x5  S
  else
    if 0 ≤ x5 then
      f_X9_holds_115 F x0 x5  S
    else
      (gR S 8 36 x0).bind fun v1 =>
      (gA S 10 v1 (19 : Int32)).bind fun v2 =>
      bd (cal S 8 x0 (fn_X9_blows F x0 v2 (0 : Int32) S)) fun _ S4 =>
      bd (cal S4 8 x0 (fn_X9_awayNow F x0 S4)) fun v5 S6 =>
      if v5 ≤ x3 then
        f_X9_holds_104 F k68 x0 x3 x4 x5 x6  S6
      else
        f_X9_holds_104 F k68 x0 x3 x4 x6 x6  S6
def f_X9_holds_36 (F : Nat)  (S : Mem) : Option (Int32 × Mem) :=
  some ((-2 : Int32), S)
def fn_X9_holds (F : Nat) (x0 : Nat) (x1 : Int32) (x2 : Int32) (x3 : Int32) (x4 : Int32) (S : Mem) : Option (Int32 × Mem) :=
  (sI S 8 0 x0 (0 : Int32)).bind fun S1 =>
  bd ((fn_X9_isWanted F x1 x2 S1)) fun v2 S3 =>
  if v2 = 0 then
    f_X9_holds_36 F   S3
  else
    bd ((fn_X9_within F x3 (0 : Int32) (999 : Int32) S3)) fun v4 S5 =>
    if v4 = 0 then
      f_X9_holds_36 F   S5
    else
      bd ((fn_X9_within F x4 (1 : Int32) (240 : Int32) S5)) fun v6 S7 =>
      if v6 = 0 then
        f_X9_holds_36 F   S7
      else
        (sI S7 8 45 x0 x1).bind fun S8 =>
        (sI S8 8 46 x0 x2).bind fun S9 =>
        (gR S9 8 36 x0).bind fun v10 =>
        (gR S9 8 37 x0).bind fun v11 =>
        bd ((fn_X9_copies F v10 (0 : Int32) v11 (0 : Int32) S9)) fun _ S13 =>
        fix5 (b_X9_holds_68 F) F x0 x3 x4 (-1 : Int32) (0 : Int32) S13
set_option maxRecDepth 100000 in
theorem t_X9_holds_115 {Γ : Cx} {F : Nat} : ∀ (x0 : Nat) (x5 : Int32) (S : Mem), Sim cX9_holds RX9 6 135 (some .int) false Γ rI (f_X9_holds_115 F x0 x5 S) S 115 [some (.ref x0), none, none, none, none, some (.int x5), none] [] := by
  intro x0 x5 S
  unfold f_X9_holds_115
  refine s_aload_n 0 dX9_holds_115 rfl rfl ?_
  refine s_getR fk_X9_84 rfl dX9_holds_116 (fun v1 => ?_)
  refine s_iconst (0 : Int32) dX9_holds_119 (by decide) ?_
  refine s_aload_n 0 dX9_holds_120 rfl rfl ?_
  refine s_getR fk_X9_81 rfl dX9_holds_121 (fun v2 => ?_)
  refine s_iconst (0 : Int32) dX9_holds_124 (by decide) ?_
  refine s_cS4V mk_X9_381 (fun v9 S9 h9 => con_X9_copies F _ _ _ _ _ v9 S9 h9) ⟨by omega, by omega⟩ (Nat.le_of_ble_eq_true rfl) dX9_holds_125 (fun _ S4 => ?_)
  refine s_iload dX9_holds_128 rfl ?_
  exact s_iret dX9_holds_130
set_option maxRecDepth 100000 in
theorem t_X9_holds_104 {Γ : Cx} {F : Nat} {k68 : Nat → Int32 → Int32 → Int32 → Int32 → Mem → Option (Int32 × Mem)} (hk68 : ∀ (x0 : Nat) (x3 : Int32) (x4 : Int32) (x5 : Int32) (x6 : Int32) (S : Mem), Sim cX9_holds RX9 6 135 (some .int) false Γ rI (k68 x0 x3 x4 x5 x6 S) S 68 [some (.ref x0), none, none, some (.int x3), some (.int x4), some (.int x5), some (.int x6)] []) : ∀ (x0 : Nat) (x3 : Int32) (x4 : Int32) (x5 : Int32) (x6 : Int32) (S : Mem), Sim cX9_holds RX9 6 135 (some .int) false Γ rI (f_X9_holds_104 F k68 x0 x3 x4 x5 x6 S) S 104 [some (.ref x0), none, none, some (.int x3), some (.int x4), some (.int x5), some (.int x6)] [] := by
  intro x0 x3 x4 x5 x6 S
  unfold f_X9_holds_104
  refine s_aload_n 0 dX9_holds_104 rfl rfl ?_
  refine s_iconst (0 : Int32) dX9_holds_105 (by decide) ?_
  refine s_cV1V mk_X9_346 (by decide) rfl (fun v9 S9 h9 => con_X9_passes F _ _ _ v9 S9 h9) ⟨by omega, by omega⟩ (Nat.le_of_ble_eq_true rfl) dX9_holds_106 (fun _ S2 => ?_)
  refine s_iinc_6 (1 : Int32) dX9_holds_109 (by decide) rfl ?_
  refine s_goto 68 dX9_holds_112 (by decide) ?_
  exact s_less (hk68 x0 x3 x4 x5 (x6 + (1 : Int32)) S2) (And.intro rfl (And.intro rfl (And.intro rfl (And.intro rfl (And.intro rfl trivial)))))
set_option maxRecDepth 100000 in
theorem t_X9_holds_68 {Γ : Cx} {F : Nat} : ∀ (f : Nat) (x0 : Nat) (x3 : Int32) (x4 : Int32) (x5 : Int32) (x6 : Int32) (S : Mem), Sim cX9_holds RX9 6 135 (some .int) false Γ rI (fix5 (b_X9_holds_68 F) f x0 x3 x4 x5 x6 S) S 68 [some (.ref x0), none, none, some (.int x3), some (.int x4), some (.int x5), some (.int x6)] [] := by
  refine s_fix5 (fun (x0 : Nat) (x3 : Int32) (x4 : Int32) (x5 : Int32) (x6 : Int32) => [some (.ref x0), none, none, some (.int x3), some (.int x4), some (.int x5), some (.int x6)]) (fun k68 hk68 => ?_)
  intro x0 x3 x4 x5 x6 S
  unfold b_X9_holds_68
  refine s_iload dX9_holds_68 rfl ?_
  refine s_iload dX9_holds_70 rfl ?_
  refine s_icmp_ge 115 dX9_holds_72 (by decide) (fun _ => ?_) (fun _ => ?_)
  · exact s_less (t_X9_holds_115 x0 x5  S) (And.intro rfl (And.intro rfl trivial))
  · refine s_iload dX9_holds_75 rfl ?_
    refine s_if_ge 115 dX9_holds_77 (by decide) (fun _ => ?_) (fun _ => ?_)
    · exact s_less (t_X9_holds_115 x0 x5  S) (And.intro rfl (And.intro rfl trivial))
    · refine s_aload_n 0 dX9_holds_80 rfl rfl ?_
      refine s_aload_n 0 dX9_holds_81 rfl rfl ?_
      refine s_getR fk_X9_81 rfl dX9_holds_82 (fun v1 => ?_)
      refine s_bipush (19 : Int32) dX9_holds_85 (by decide) ?_
      refine s_iald dX9_holds_87 (fun v2 => ?_)
      refine s_iconst (0 : Int32) dX9_holds_88 (by decide) ?_
      refine s_cV2V mk_X9_319 (by decide) rfl (fun v9 S9 h9 => con_X9_blows F _ _ _ _ v9 S9 h9) ⟨by omega, by omega⟩ (Nat.le_of_ble_eq_true rfl) dX9_holds_89 (fun _ S4 => ?_)
      refine s_aload_n 0 dX9_holds_92 rfl rfl ?_
      refine s_cV0I mk_X9_358 (by decide) rfl (fun v9 S9 h9 => con_X9_awayNow F _ _ v9 S9 h9) ⟨by omega, by omega⟩ (Nat.le_of_ble_eq_true rfl) dX9_holds_93 (fun v5 S6 => ?_)
      refine s_iload_n 3 dX9_holds_96 rfl rfl ?_
      refine s_icmp_le 104 dX9_holds_97 (by decide) (fun _ => ?_) (fun _ => ?_)
      · exact s_less (t_X9_holds_104 hk68 x0 x3 x4 x5 x6  S6) (And.intro rfl (And.intro rfl (And.intro rfl (And.intro rfl (And.intro rfl trivial)))))
      · refine s_iload dX9_holds_100 rfl ?_
        refine s_istore_5 dX9_holds_102 rfl ?_
        exact s_less (t_X9_holds_104 hk68 x0 x3 x4 x6 x6  S6) (And.intro rfl (And.intro rfl (And.intro rfl (And.intro rfl (And.intro rfl trivial)))))
set_option maxRecDepth 100000 in
theorem t_X9_holds_36 {Γ : Cx} {F : Nat} : ∀ (S : Mem), Sim cX9_holds RX9 6 135 (some .int) false Γ rI (f_X9_holds_36 F  S) S 36 [none, none, none, none, none, none, none] [] := by
  intro  S
  unfold f_X9_holds_36
  refine s_bipush (-2 : Int32) dX9_holds_36 (by decide) ?_
  exact s_iret dX9_holds_38
set_option maxRecDepth 100000 in
theorem con_X9_holds {l : Launch} (F : Nat) (x0 : Nat) (x1 : Int32) (x2 : Int32) (x3 : Int32) (x4 : Int32) (S : Mem) (v : Int32) (S1 : Mem) (h : fn_X9_holds F x0 x1 x2 x3 x4 S = some (v, S1)) : Con l yX9_holds cX9_holds 7 (some .int) 6 135 [.ref x0, .int x1, .int x2, .int x3, .int x4] S (rI v) S1 := by
  refine con_of (ι := rI) RX9 false [some (.ref x0), some (.int x1), some (.int x2), some (.int x3), some (.int x4), none, none] rfl (fun h => by cases h) (by decide) (Nat.le_of_ble_eq_true rfl) ⟨rfl, rfl⟩ (fun Γ hl => ?_) h
  unfold fn_X9_holds
  refine s_aload_n 0 dX9_holds_0 rfl rfl ?_
  refine s_iconst (0 : Int32) dX9_holds_1 (by decide) ?_
  refine s_putI fk_X9_109 (Or.inl rfl) rfl dX9_holds_2 (fun S1 => ?_)
  refine s_iload_n 1 dX9_holds_5 rfl rfl ?_
  refine s_iload_n 2 dX9_holds_6 rfl rfl ?_
  refine s_cS2I mk_X9_371 (fun v9 S9 h9 => con_X9_isWanted F _ _ _ v9 S9 h9) ⟨by omega, by omega⟩ (Nat.le_of_ble_eq_true rfl) dX9_holds_7 (fun v2 S3 => ?_)
  refine s_if_eq 36 dX9_holds_10 (by decide) (fun _ => ?_) (fun _ => ?_)
  · exact s_less (t_X9_holds_36   S3) trivial
  · refine s_iload_n 3 dX9_holds_13 rfl rfl ?_
    refine s_iconst (0 : Int32) dX9_holds_14 (by decide) ?_
    refine s_sipush (999 : Int32) dX9_holds_15 (by decide) ?_
    refine s_cS3I mk_X9_235 (fun v9 S9 h9 => con_X9_within F _ _ _ _ v9 S9 h9) ⟨by omega, by omega⟩ (Nat.le_of_ble_eq_true rfl) dX9_holds_18 (fun v4 S5 => ?_)
    refine s_if_eq 36 dX9_holds_21 (by decide) (fun _ => ?_) (fun _ => ?_)
    · exact s_less (t_X9_holds_36   S5) trivial
    · refine s_iload dX9_holds_24 rfl ?_
      refine s_iconst (1 : Int32) dX9_holds_26 (by decide) ?_
      refine s_sipush (240 : Int32) dX9_holds_27 (by decide) ?_
      refine s_cS3I mk_X9_235 (fun v9 S9 h9 => con_X9_within F _ _ _ _ v9 S9 h9) ⟨by omega, by omega⟩ (Nat.le_of_ble_eq_true rfl) dX9_holds_30 (fun v6 S7 => ?_)
      refine s_if_ne 39 dX9_holds_33 (by decide) (fun _ => ?_) (fun _ => ?_)
      · refine s_aload_n 0 dX9_holds_39 rfl rfl ?_
        refine s_iload_n 1 dX9_holds_40 rfl rfl ?_
        refine s_putI fk_X9_349 (Or.inl rfl) rfl dX9_holds_41 (fun S8 => ?_)
        refine s_aload_n 0 dX9_holds_44 rfl rfl ?_
        refine s_iload_n 2 dX9_holds_45 rfl rfl ?_
        refine s_putI fk_X9_355 (Or.inl rfl) rfl dX9_holds_46 (fun S9 => ?_)
        refine s_aload_n 0 dX9_holds_49 rfl rfl ?_
        refine s_getR fk_X9_81 rfl dX9_holds_50 (fun v10 => ?_)
        refine s_iconst (0 : Int32) dX9_holds_53 (by decide) ?_
        refine s_aload_n 0 dX9_holds_54 rfl rfl ?_
        refine s_getR fk_X9_84 rfl dX9_holds_55 (fun v11 => ?_)
        refine s_iconst (0 : Int32) dX9_holds_58 (by decide) ?_
        refine s_cS4V mk_X9_381 (fun v9 S9 h9 => con_X9_copies F _ _ _ _ _ v9 S9 h9) ⟨by omega, by omega⟩ (Nat.le_of_ble_eq_true rfl) dX9_holds_59 (fun _ S13 => ?_)
        refine s_iconst (-1 : Int32) dX9_holds_62 (by decide) ?_
        refine s_istore_5 dX9_holds_63 rfl ?_
        refine s_iconst (0 : Int32) dX9_holds_65 (by decide) ?_
        refine s_istore_6 dX9_holds_66 rfl ?_
        exact s_less (t_X9_holds_68 F x0 x3 x4 (-1 : Int32) (0 : Int32) S13) (And.intro rfl (And.intro rfl (And.intro rfl (And.intro rfl (And.intro rfl trivial)))))
      · exact s_less (t_X9_holds_36   S7) trivial
-- X9_highWith
def fn_X9_highWith (F : Nat) (x0 : Nat) (x1 : Int32) (S : Mem) : Option (Int32 × Mem) :=
  (gR S 8 36 x0).bind fun v1 =>
  (gA S 10 v1 (18 : Int32)).bind fun v2 =>
  (gR S 8 36 x0).bind fun v3 =>
  (sA S v3 (18 : Int32) x1).bind fun S4 =>
  bd (cal S4 8 x0 (fn_X9_hangs F x0 S4)) fun _ S6 =>
  (gR S6 8 36 x0).bind fun v7 =>
  (sA S6 v7 (18 : Int32) v2).bind fun S8 =>
  (gI S8 8 42 x0).bind fun v9 =>
  some (v9, S8)
set_option maxRecDepth 100000 in
theorem con_X9_highWith {l : Launch} (F : Nat) (x0 : Nat) (x1 : Int32) (S : Mem) (v : Int32) (S1 : Mem) (h : fn_X9_highWith F x0 x1 S = some (v, S1)) : Con l yX9_highWith cX9_highWith 3 (some .int) 4 90 [.ref x0, .int x1] S (rI v) S1 := by
  refine con_of (ι := rI) RX9 false [some (.ref x0), some (.int x1), none] rfl (fun h => by cases h) (by decide) (Nat.le_of_ble_eq_true rfl) ⟨rfl, rfl⟩ (fun Γ hl => ?_) h
  unfold fn_X9_highWith
  refine s_aload_n 0 dX9_highWith_0 rfl rfl ?_
  refine s_getR fk_X9_81 rfl dX9_highWith_1 (fun v1 => ?_)
  refine s_bipush (18 : Int32) dX9_highWith_4 (by decide) ?_
  refine s_iald dX9_highWith_6 (fun v2 => ?_)
  refine s_istore_2 dX9_highWith_7 rfl ?_
  refine s_aload_n 0 dX9_highWith_8 rfl rfl ?_
  refine s_getR fk_X9_81 rfl dX9_highWith_9 (fun v3 => ?_)
  refine s_bipush (18 : Int32) dX9_highWith_12 (by decide) ?_
  refine s_iload_n 1 dX9_highWith_14 rfl rfl ?_
  refine s_iast dX9_highWith_15 (fun S4 => ?_)
  refine s_aload_n 0 dX9_highWith_16 rfl rfl ?_
  refine s_cV0V mk_X9_322 (by decide) rfl (fun v9 S9 h9 => con_X9_hangs F _ _ v9 S9 h9) ⟨by omega, by omega⟩ (Nat.le_of_ble_eq_true rfl) dX9_highWith_17 (fun _ S6 => ?_)
  refine s_aload_n 0 dX9_highWith_20 rfl rfl ?_
  refine s_getR fk_X9_81 rfl dX9_highWith_21 (fun v7 => ?_)
  refine s_bipush (18 : Int32) dX9_highWith_24 (by decide) ?_
  refine s_iload_n 2 dX9_highWith_26 rfl rfl ?_
  refine s_iast dX9_highWith_27 (fun S8 => ?_)
  refine s_aload_n 0 dX9_highWith_28 rfl rfl ?_
  refine s_getI fk_X9_313 rfl dX9_highWith_29 (fun v9 => ?_)
  exact s_iret dX9_highWith_32
-- X9_mayGo
def f_X9_mayGo_75 (F : Nat) (k30 : Nat → Int32 → Int32 → Int32 → Mem → Option (Int32 × Mem)) (x0 : Nat) (x1 : Int32) (x3 : Int32) (y0 : Int32) (y1 : Int32) (S : Mem) : Option (Int32 × Mem) :=
  lt ((y0 ||| y1)) fun v1 =>
  k30 x0 x1 v1 (x3 + (1 : Int32)) S
def f_X9_mayGo_74 (F : Nat) (k30 : Nat → Int32 → Int32 → Int32 → Mem → Option (Int32 × Mem)) (x0 : Nat) (x1 : Int32) (x3 : Int32) (y0 : Int32) (S : Mem) : Option (Int32 × Mem) :=
  f_X9_mayGo_75 F k30 x0 x1 x3 y0 (0 : Int32) S
def b_X9_mayGo_30 (F : Nat) (k30 : Nat → Int32 → Int32 → Int32 → Mem → Option (Int32 × Mem)) (x0 : Nat) (x1 : Int32) (x2 : Int32) (x3 : Int32) (S : Mem) : Option (Int32 × Mem) :=
  (gR S 8 10 x0).bind fun v1 =>
  (gA S 10 v1 (4 : Int32)).bind fun v2 =>
  if v2 ≤ x3 then
    some (x2, S)
  else
    bd (cal S 8 x0 (fn_X9_isLost F x0 x3 S)) fun v3 S4 =>
    if v3 = 0 then
      (gR S4 8 36 x0).bind fun v5 =>
      (gA S4 10 v5 (18 : Int32)).bind fun v6 =>
      bd (cal S4 8 x0 (fn_X9_highWith F x0 (v6 ||| ((1 : Int32) <<< (x3 &&& 31))) S4)) fun v7 S8 =>
      if v7 < x1 then
        f_X9_mayGo_74 F k30 x0 x1 x3 x2 S8
      else
        f_X9_mayGo_75 F k30 x0 x1 x3 x2 ((1 : Int32) <<< (x3 &&& 31)) S8
    else
      f_X9_mayGo_74 F k30 x0 x1 x3 x2 S4
def fn_X9_mayGo (F : Nat) (x0 : Nat) (x1 : Int32) (S : Mem) : Option (Int32 × Mem) :=
  (sI S 8 0 x0 (0 : Int32)).bind fun S1 =>
  bd ((fn_X9_isHigh F x1 S1)) fun v2 S3 =>
  if v2 = 0 then
    some ((-1 : Int32), S3)
  else
    (gR S3 8 36 x0).bind fun v4 =>
    (gA S3 10 v4 (19 : Int32)).bind fun v5 =>
    bd (cal S3 8 x0 (fn_X9_blows F x0 v5 (0 : Int32) S3)) fun _ S7 =>
    fix4 (b_X9_mayGo_30 F) F x0 x1 (0 : Int32) (0 : Int32) S7
set_option maxRecDepth 100000 in
theorem t_X9_mayGo_75 {Γ : Cx} {F : Nat} {k30 : Nat → Int32 → Int32 → Int32 → Mem → Option (Int32 × Mem)} (hk30 : ∀ (x0 : Nat) (x1 : Int32) (x2 : Int32) (x3 : Int32) (S : Mem), Sim cX9_mayGo RX9 5 112 (some .int) false Γ rI (k30 x0 x1 x2 x3 S) S 30 [some (.ref x0), some (.int x1), some (.int x2), some (.int x3)] []) : ∀ (x0 : Nat) (x1 : Int32) (x3 : Int32) (y0 : Int32) (y1 : Int32) (S : Mem), Sim cX9_mayGo RX9 5 112 (some .int) false Γ rI (f_X9_mayGo_75 F k30 x0 x1 x3 y0 y1 S) S 75 [some (.ref x0), some (.int x1), none, some (.int x3)] [.int y1, .int y0] := by
  intro x0 x1 x3 y0 y1 S
  unfold f_X9_mayGo_75
  refine s_ior dX9_mayGo_75 ?_
  refine s_ltI (fun v1 => ?_)
  refine s_istore_2 dX9_mayGo_76 rfl ?_
  refine s_iinc_3 (1 : Int32) dX9_mayGo_77 (by decide) rfl ?_
  refine s_goto 30 dX9_mayGo_80 (by decide) ?_
  exact s_less (hk30 x0 x1 v1 (x3 + (1 : Int32)) S) (And.intro rfl (And.intro rfl (And.intro rfl (And.intro rfl trivial))))
set_option maxRecDepth 100000 in
theorem t_X9_mayGo_74 {Γ : Cx} {F : Nat} {k30 : Nat → Int32 → Int32 → Int32 → Mem → Option (Int32 × Mem)} (hk30 : ∀ (x0 : Nat) (x1 : Int32) (x2 : Int32) (x3 : Int32) (S : Mem), Sim cX9_mayGo RX9 5 112 (some .int) false Γ rI (k30 x0 x1 x2 x3 S) S 30 [some (.ref x0), some (.int x1), some (.int x2), some (.int x3)] []) : ∀ (x0 : Nat) (x1 : Int32) (x3 : Int32) (y0 : Int32) (S : Mem), Sim cX9_mayGo RX9 5 112 (some .int) false Γ rI (f_X9_mayGo_74 F k30 x0 x1 x3 y0 S) S 74 [some (.ref x0), some (.int x1), none, some (.int x3)] [.int y0] := by
  intro x0 x1 x3 y0 S
  unfold f_X9_mayGo_74
  refine s_iconst (0 : Int32) dX9_mayGo_74 (by decide) ?_
  exact s_less (t_X9_mayGo_75 hk30 x0 x1 x3 y0 (0 : Int32) S) (And.intro rfl (And.intro rfl (And.intro rfl trivial)))
set_option maxRecDepth 100000 in
theorem t_X9_mayGo_30 {Γ : Cx} {F : Nat} : ∀ (f : Nat) (x0 : Nat) (x1 : Int32) (x2 : Int32) (x3 : Int32) (S : Mem), Sim cX9_mayGo RX9 5 112 (some .int) false Γ rI (fix4 (b_X9_mayGo_30 F) f x0 x1 x2 x3 S) S 30 [some (.ref x0), some (.int x1), some (.int x2), some (.int x3)] [] := by
  refine s_fix4 (fun (x0 : Nat) (x1 : Int32) (x2 : Int32) (x3 : Int32) => [some (.ref x0), some (.int x1), some (.int x2), some (.int x3)]) (fun k30 hk30 => ?_)
  intro x0 x1 x2 x3 S
  unfold b_X9_mayGo_30
  refine s_iload_n 3 dX9_mayGo_30 rfl rfl ?_
  refine s_aload_n 0 dX9_mayGo_31 rfl rfl ?_
  refine s_getR fk_X9_13 rfl dX9_mayGo_32 (fun v1 => ?_)
  refine s_iconst (4 : Int32) dX9_mayGo_35 (by decide) ?_
  refine s_iald dX9_mayGo_36 (fun v2 => ?_)
  refine s_icmp_ge 83 dX9_mayGo_37 (by decide) (fun _ => ?_) (fun _ => ?_)
  · refine s_iload_n 2 dX9_mayGo_83 rfl rfl ?_
    exact s_iret dX9_mayGo_84
  · refine s_iload_n 2 dX9_mayGo_40 rfl rfl ?_
    refine s_aload_n 0 dX9_mayGo_41 rfl rfl ?_
    refine s_iload_n 3 dX9_mayGo_42 rfl rfl ?_
    refine s_cV1I mk_X9_292 (by decide) rfl (fun v9 S9 h9 => con_X9_isLost F _ _ _ v9 S9 h9) ⟨by omega, by omega⟩ (Nat.le_of_ble_eq_true rfl) dX9_mayGo_43 (fun v3 S4 => ?_)
    refine s_if_ne 74 dX9_mayGo_46 (by decide) (fun _ => ?_) (fun _ => ?_)
    · exact s_less (t_X9_mayGo_74 hk30 x0 x1 x3 x2 S4) (And.intro rfl (And.intro rfl (And.intro rfl trivial)))
    · refine s_aload_n 0 dX9_mayGo_49 rfl rfl ?_
      refine s_aload_n 0 dX9_mayGo_50 rfl rfl ?_
      refine s_getR fk_X9_81 rfl dX9_mayGo_51 (fun v5 => ?_)
      refine s_bipush (18 : Int32) dX9_mayGo_54 (by decide) ?_
      refine s_iald dX9_mayGo_56 (fun v6 => ?_)
      refine s_iconst (1 : Int32) dX9_mayGo_57 (by decide) ?_
      refine s_iload_n 3 dX9_mayGo_58 rfl rfl ?_
      refine s_ishl dX9_mayGo_59 ?_
      refine s_ior dX9_mayGo_60 ?_
      refine s_cV1I mk_X9_385 (by decide) rfl (fun v9 S9 h9 => con_X9_highWith F _ _ _ v9 S9 h9) ⟨by omega, by omega⟩ (Nat.le_of_ble_eq_true rfl) dX9_mayGo_61 (fun v7 S8 => ?_)
      refine s_iload_n 1 dX9_mayGo_64 rfl rfl ?_
      refine s_icmp_lt 74 dX9_mayGo_65 (by decide) (fun _ => ?_) (fun _ => ?_)
      · exact s_less (t_X9_mayGo_74 hk30 x0 x1 x3 x2 S8) (And.intro rfl (And.intro rfl (And.intro rfl trivial)))
      · refine s_iconst (1 : Int32) dX9_mayGo_68 (by decide) ?_
        refine s_iload_n 3 dX9_mayGo_69 rfl rfl ?_
        refine s_ishl dX9_mayGo_70 ?_
        refine s_goto 75 dX9_mayGo_71 (by decide) ?_
        exact s_less (t_X9_mayGo_75 hk30 x0 x1 x3 x2 ((1 : Int32) <<< (x3 &&& 31)) S8) (And.intro rfl (And.intro rfl (And.intro rfl trivial)))
set_option maxRecDepth 100000 in
theorem con_X9_mayGo {l : Launch} (F : Nat) (x0 : Nat) (x1 : Int32) (S : Mem) (v : Int32) (S1 : Mem) (h : fn_X9_mayGo F x0 x1 S = some (v, S1)) : Con l yX9_mayGo cX9_mayGo 4 (some .int) 5 112 [.ref x0, .int x1] S (rI v) S1 := by
  refine con_of (ι := rI) RX9 false [some (.ref x0), some (.int x1), none, none] rfl (fun h => by cases h) (by decide) (Nat.le_of_ble_eq_true rfl) ⟨rfl, rfl⟩ (fun Γ hl => ?_) h
  unfold fn_X9_mayGo
  refine s_aload_n 0 dX9_mayGo_0 rfl rfl ?_
  refine s_iconst (0 : Int32) dX9_mayGo_1 (by decide) ?_
  refine s_putI fk_X9_109 (Or.inl rfl) rfl dX9_mayGo_2 (fun S1 => ?_)
  refine s_iload_n 1 dX9_mayGo_5 rfl rfl ?_
  refine s_cS1I mk_X9_334 (fun v9 S9 h9 => con_X9_isHigh F _ _ v9 S9 h9) ⟨by omega, by omega⟩ (Nat.le_of_ble_eq_true rfl) dX9_mayGo_6 (fun v2 S3 => ?_)
  refine s_if_ne 14 dX9_mayGo_9 (by decide) (fun _ => ?_) (fun _ => ?_)
  · refine s_aload_n 0 dX9_mayGo_14 rfl rfl ?_
    refine s_aload_n 0 dX9_mayGo_15 rfl rfl ?_
    refine s_getR fk_X9_81 rfl dX9_mayGo_16 (fun v4 => ?_)
    refine s_bipush (19 : Int32) dX9_mayGo_19 (by decide) ?_
    refine s_iald dX9_mayGo_21 (fun v5 => ?_)
    refine s_iconst (0 : Int32) dX9_mayGo_22 (by decide) ?_
    refine s_cV2V mk_X9_319 (by decide) rfl (fun v9 S9 h9 => con_X9_blows F _ _ _ _ v9 S9 h9) ⟨by omega, by omega⟩ (Nat.le_of_ble_eq_true rfl) dX9_mayGo_23 (fun _ S7 => ?_)
    refine s_iconst (0 : Int32) dX9_mayGo_26 (by decide) ?_
    refine s_istore_2 dX9_mayGo_27 rfl ?_
    refine s_iconst (0 : Int32) dX9_mayGo_28 (by decide) ?_
    refine s_istore_3 dX9_mayGo_29 rfl ?_
    exact s_less (t_X9_mayGo_30 F x0 x1 (0 : Int32) (0 : Int32) S7) (And.intro rfl (And.intro rfl (And.intro rfl (And.intro rfl trivial))))
  · refine s_iconst (-1 : Int32) dX9_mayGo_12 (by decide) ?_
    exact s_iret dX9_mayGo_13
-- X9_bits
def b_X9_bits_4 (F : Nat) (k4 : Int32 → Int32 → Int32 → Mem → Option (Int32 × Mem)) (x0 : Int32) (x1 : Int32) (x2 : Int32) (S : Mem) : Option (Int32 × Mem) :=
  if (6 : Int32) ≤ x2 then
    some (x1, S)
  else
    lt ((x1 + ((x0 >>> (x2 &&& 31)) &&& (1 : Int32)))) fun v1 =>
    k4 x0 v1 (x2 + (1 : Int32)) S
def fn_X9_bits (F : Nat) (x0 : Int32) (S : Mem) : Option (Int32 × Mem) :=
  fix3 (b_X9_bits_4 F) F x0 (0 : Int32) (0 : Int32) S
set_option maxRecDepth 100000 in
theorem t_X9_bits_4 {Γ : Cx} {F : Nat} : ∀ (f : Nat) (x0 : Int32) (x1 : Int32) (x2 : Int32) (S : Mem), Sim cX9_bits RX9 0 0 (some .int) false Γ rI (fix3 (b_X9_bits_4 F) f x0 x1 x2 S) S 4 [some (.int x0), some (.int x1), some (.int x2)] [] := by
  refine s_fix3 (fun (x0 : Int32) (x1 : Int32) (x2 : Int32) => [some (.int x0), some (.int x1), some (.int x2)]) (fun k4 hk4 => ?_)
  intro x0 x1 x2 S
  unfold b_X9_bits_4
  refine s_iload_n 2 dX9_bits_4 rfl rfl ?_
  refine s_bipush (6 : Int32) dX9_bits_5 (by decide) ?_
  refine s_icmp_ge 24 dX9_bits_7 (by decide) (fun _ => ?_) (fun _ => ?_)
  · refine s_iload_n 1 dX9_bits_24 rfl rfl ?_
    exact s_iret dX9_bits_25
  · refine s_iload_n 1 dX9_bits_10 rfl rfl ?_
    refine s_iload_n 0 dX9_bits_11 rfl rfl ?_
    refine s_iload_n 2 dX9_bits_12 rfl rfl ?_
    refine s_ishr dX9_bits_13 ?_
    refine s_iconst (1 : Int32) dX9_bits_14 (by decide) ?_
    refine s_iand dX9_bits_15 ?_
    refine s_iadd dX9_bits_16 ?_
    refine s_ltI (fun v1 => ?_)
    refine s_istore_1 dX9_bits_17 rfl ?_
    refine s_iinc_2 (1 : Int32) dX9_bits_18 (by decide) rfl ?_
    refine s_goto 4 dX9_bits_21 (by decide) ?_
    exact s_less (hk4 x0 v1 (x2 + (1 : Int32)) S) (And.intro rfl (And.intro rfl (And.intro rfl trivial)))
set_option maxRecDepth 100000 in
theorem con_X9_bits {l : Launch} (F : Nat) (x0 : Int32) (S : Mem) (v : Int32) (S1 : Mem) (h : fn_X9_bits F x0 S = some (v, S1)) : Con l yX9_bits cX9_bits 3 (some .int) 0 0 [.int x0] S (rI v) S1 := by
  refine con_of (ι := rI) RX9 false [some (.int x0), none, none] rfl (fun h => by cases h) (by decide) (Nat.le_of_ble_eq_true rfl) ⟨rfl, rfl⟩ (fun Γ hl => ?_) h
  unfold fn_X9_bits
  refine s_iconst (0 : Int32) dX9_bits_0 (by decide) ?_
  refine s_istore_1 dX9_bits_1 rfl ?_
  refine s_iconst (0 : Int32) dX9_bits_2 (by decide) ?_
  refine s_istore_2 dX9_bits_3 rfl ?_
  exact s_less (t_X9_bits_4 F x0 (0 : Int32) (0 : Int32) S) (And.intro rfl (And.intro rfl (And.intro rfl trivial)))
-- X9_needed
def f_X9_needed_136 (F : Nat) (y0 : Int32) (S : Mem) : Option (Int32 × Mem) :=
  some (y0, S)
def f_X9_needed_126 (F : Nat) (x4 : Int32) (S : Mem) : Option (Int32 × Mem) :=
  f_X9_needed_136 F  x4 S
def f_X9_needed_110 (F : Nat) (k52 : Nat → Int32 → Int32 → Int32 → Int32 → Int32 → Mem → Option (Int32 × Mem)) (x0 : Nat) (x1 : Int32) (x2 : Int32) (x3 : Int32) (x4 : Int32) (x5 : Int32) (S : Mem) : Option (Int32 × Mem) :=
  k52 x0 x1 x2 x3 x4 (x5 + (1 : Int32)) S
def f_X9_needed_92 (F : Nat) (k52 : Nat → Int32 → Int32 → Int32 → Int32 → Int32 → Mem → Option (Int32 × Mem)) (x0 : Nat) (x1 : Int32) (x2 : Int32) (x3 : Int32) (x4 : Int32) (x5 : Int32) (S : Mem) : Option (Int32 × Mem) :=
  bd (cal S 8 x0 (fn_X9_highWith F x0 (x3 &&& (x5 ^^^ (-1 : Int32))) S)) fun v1 S2 =>
  if v1 < x1 then
    f_X9_needed_110 F k52 x0 x1 x2 x3 x4 x5  S2
  else
    f_X9_needed_110 F k52 x0 x1 x2 x3 x5 x5  S2
def b_X9_needed_52 (F : Nat) (k52 : Nat → Int32 → Int32 → Int32 → Int32 → Int32 → Mem → Option (Int32 × Mem)) (x0 : Nat) (x1 : Int32) (x2 : Int32) (x3 : Int32) (x4 : Int32) (x5 : Int32) (S : Mem) : Option (Int32 × Mem) :=
  if x3 < x5 then
    if x4 < 0 then
      f_X9_needed_126 F x4  S
    else
      if x2 = (1 : Int32) then
        f_X9_needed_126 F x4  S
      else
        bd ((fn_X9_bits F x4 S)) fun v1 S2 =>
        f_X9_needed_136 F  v1 S2
  else
    (gR S 8 36 x0).bind fun v3 =>
    (gA S 10 v3 (18 : Int32)).bind fun v4 =>
    if (x5 &&& v4) = 0 then
      if x4 < 0 then
        f_X9_needed_92 F k52 x0 x1 x2 x3 x4 x5  S
      else
        bd ((fn_X9_bits F x5 S)) fun v5 S6 =>
        bd ((fn_X9_bits F x4 S6)) fun v7 S8 =>
        if v5 < v7 then
          f_X9_needed_92 F k52 x0 x1 x2 x3 x4 x5  S8
        else
          f_X9_needed_110 F k52 x0 x1 x2 x3 x4 x5  S8
    else
      f_X9_needed_110 F k52 x0 x1 x2 x3 x4 x5  S
def f_X9_needed_21 (F : Nat)  (S : Mem) : Option (Int32 × Mem) :=
  some ((-1 : Int32), S)
def fn_X9_needed (F : Nat) (x0 : Nat) (x1 : Int32) (x2 : Int32) (S : Mem) : Option (Int32 × Mem) :=
  (sI S 8 0 x0 (0 : Int32)).bind fun S1 =>
  bd ((fn_X9_isHigh F x1 S1)) fun v2 S3 =>
  if v2 = 0 then
    f_X9_needed_21 F   S3
  else
    bd ((fn_X9_within F x2 (0 : Int32) (1 : Int32) S3)) fun v4 S5 =>
    if v4 = 0 then
      f_X9_needed_21 F   S5
    else
      (gR S5 8 36 x0).bind fun v6 =>
      (gA S5 10 v6 (19 : Int32)).bind fun v7 =>
      bd (cal S5 8 x0 (fn_X9_blows F x0 v7 (0 : Int32) S5)) fun _ S9 =>
      (gR S9 8 10 x0).bind fun v10 =>
      (gA S9 10 v10 (4 : Int32)).bind fun v11 =>
      lt ((((1 : Int32) <<< (v11 &&& 31)) - (1 : Int32))) fun v12 =>
      fix6 (b_X9_needed_52 F) F x0 x1 x2 v12 (-1 : Int32) (0 : Int32) S9
set_option maxRecDepth 100000 in
theorem t_X9_needed_136 {Γ : Cx} {F : Nat} : ∀ (y0 : Int32) (S : Mem), Sim cX9_needed RX9 5 112 (some .int) false Γ rI (f_X9_needed_136 F y0 S) S 136 [none, none, none, none, none, none] [.int y0] := by
  intro y0 S
  unfold f_X9_needed_136
  exact s_iret dX9_needed_136
set_option maxRecDepth 100000 in
theorem t_X9_needed_126 {Γ : Cx} {F : Nat} : ∀ (x4 : Int32) (S : Mem), Sim cX9_needed RX9 5 112 (some .int) false Γ rI (f_X9_needed_126 F x4 S) S 126 [none, none, none, none, some (.int x4), none] [] := by
  intro x4 S
  unfold f_X9_needed_126
  refine s_iload dX9_needed_126 rfl ?_
  refine s_goto 136 dX9_needed_128 (by decide) ?_
  exact s_less (t_X9_needed_136  x4 S) trivial
set_option maxRecDepth 100000 in
theorem t_X9_needed_110 {Γ : Cx} {F : Nat} {k52 : Nat → Int32 → Int32 → Int32 → Int32 → Int32 → Mem → Option (Int32 × Mem)} (hk52 : ∀ (x0 : Nat) (x1 : Int32) (x2 : Int32) (x3 : Int32) (x4 : Int32) (x5 : Int32) (S : Mem), Sim cX9_needed RX9 5 112 (some .int) false Γ rI (k52 x0 x1 x2 x3 x4 x5 S) S 52 [some (.ref x0), some (.int x1), some (.int x2), some (.int x3), some (.int x4), some (.int x5)] []) : ∀ (x0 : Nat) (x1 : Int32) (x2 : Int32) (x3 : Int32) (x4 : Int32) (x5 : Int32) (S : Mem), Sim cX9_needed RX9 5 112 (some .int) false Γ rI (f_X9_needed_110 F k52 x0 x1 x2 x3 x4 x5 S) S 110 [some (.ref x0), some (.int x1), some (.int x2), some (.int x3), some (.int x4), some (.int x5)] [] := by
  intro x0 x1 x2 x3 x4 x5 S
  unfold f_X9_needed_110
  refine s_iinc_5 (1 : Int32) dX9_needed_110 (by decide) rfl ?_
  refine s_goto 52 dX9_needed_113 (by decide) ?_
  exact s_less (hk52 x0 x1 x2 x3 x4 (x5 + (1 : Int32)) S) (And.intro rfl (And.intro rfl (And.intro rfl (And.intro rfl (And.intro rfl (And.intro rfl trivial))))))
set_option maxRecDepth 100000 in
theorem t_X9_needed_92 {Γ : Cx} {F : Nat} {k52 : Nat → Int32 → Int32 → Int32 → Int32 → Int32 → Mem → Option (Int32 × Mem)} (hk52 : ∀ (x0 : Nat) (x1 : Int32) (x2 : Int32) (x3 : Int32) (x4 : Int32) (x5 : Int32) (S : Mem), Sim cX9_needed RX9 5 112 (some .int) false Γ rI (k52 x0 x1 x2 x3 x4 x5 S) S 52 [some (.ref x0), some (.int x1), some (.int x2), some (.int x3), some (.int x4), some (.int x5)] []) : ∀ (x0 : Nat) (x1 : Int32) (x2 : Int32) (x3 : Int32) (x4 : Int32) (x5 : Int32) (S : Mem), Sim cX9_needed RX9 5 112 (some .int) false Γ rI (f_X9_needed_92 F k52 x0 x1 x2 x3 x4 x5 S) S 92 [some (.ref x0), some (.int x1), some (.int x2), some (.int x3), some (.int x4), some (.int x5)] [] := by
  intro x0 x1 x2 x3 x4 x5 S
  unfold f_X9_needed_92
  refine s_aload_n 0 dX9_needed_92 rfl rfl ?_
  refine s_iload_n 3 dX9_needed_93 rfl rfl ?_
  refine s_iload dX9_needed_94 rfl ?_
  refine s_iconst (-1 : Int32) dX9_needed_96 (by decide) ?_
  refine s_ixor dX9_needed_97 ?_
  refine s_iand dX9_needed_98 ?_
  refine s_cV1I mk_X9_385 (by decide) rfl (fun v9 S9 h9 => con_X9_highWith F _ _ _ v9 S9 h9) ⟨by omega, by omega⟩ (Nat.le_of_ble_eq_true rfl) dX9_needed_99 (fun v1 S2 => ?_)
  refine s_iload_n 1 dX9_needed_102 rfl rfl ?_
  refine s_icmp_lt 110 dX9_needed_103 (by decide) (fun _ => ?_) (fun _ => ?_)
  · exact s_less (t_X9_needed_110 hk52 x0 x1 x2 x3 x4 x5  S2) (And.intro rfl (And.intro rfl (And.intro rfl (And.intro rfl (And.intro rfl (And.intro rfl trivial))))))
  · refine s_iload dX9_needed_106 rfl ?_
    refine s_istore_4 dX9_needed_108 rfl ?_
    exact s_less (t_X9_needed_110 hk52 x0 x1 x2 x3 x5 x5  S2) (And.intro rfl (And.intro rfl (And.intro rfl (And.intro rfl (And.intro rfl (And.intro rfl trivial))))))
set_option maxRecDepth 100000 in
theorem t_X9_needed_52 {Γ : Cx} {F : Nat} : ∀ (f : Nat) (x0 : Nat) (x1 : Int32) (x2 : Int32) (x3 : Int32) (x4 : Int32) (x5 : Int32) (S : Mem), Sim cX9_needed RX9 5 112 (some .int) false Γ rI (fix6 (b_X9_needed_52 F) f x0 x1 x2 x3 x4 x5 S) S 52 [some (.ref x0), some (.int x1), some (.int x2), some (.int x3), some (.int x4), some (.int x5)] [] := by
  refine s_fix6 (fun (x0 : Nat) (x1 : Int32) (x2 : Int32) (x3 : Int32) (x4 : Int32) (x5 : Int32) => [some (.ref x0), some (.int x1), some (.int x2), some (.int x3), some (.int x4), some (.int x5)]) (fun k52 hk52 => ?_)
  intro x0 x1 x2 x3 x4 x5 S
  unfold b_X9_needed_52
  refine s_iload dX9_needed_52 rfl ?_
  refine s_iload_n 3 dX9_needed_54 rfl rfl ?_
  refine s_icmp_gt 116 dX9_needed_55 (by decide) (fun _ => ?_) (fun _ => ?_)
  · refine s_iload dX9_needed_116 rfl ?_
    refine s_if_lt 126 dX9_needed_118 (by decide) (fun _ => ?_) (fun _ => ?_)
    · exact s_less (t_X9_needed_126 x4  S) (And.intro rfl trivial)
    · refine s_iload_n 2 dX9_needed_121 rfl rfl ?_
      refine s_iconst (1 : Int32) dX9_needed_122 (by decide) ?_
      refine s_icmp_ne 131 dX9_needed_123 (by decide) (fun _ => ?_) (fun _ => ?_)
      · refine s_iload dX9_needed_131 rfl ?_
        refine s_cS1I mk_X9_388 (fun v9 S9 h9 => con_X9_bits F _ _ v9 S9 h9) ⟨by omega, by omega⟩ (Nat.le_of_ble_eq_true rfl) dX9_needed_133 (fun v1 S2 => ?_)
        exact s_less (t_X9_needed_136  v1 S2) trivial
      · exact s_less (t_X9_needed_126 x4  S) (And.intro rfl trivial)
  · refine s_iload dX9_needed_58 rfl ?_
    refine s_aload_n 0 dX9_needed_60 rfl rfl ?_
    refine s_getR fk_X9_81 rfl dX9_needed_61 (fun v3 => ?_)
    refine s_bipush (18 : Int32) dX9_needed_64 (by decide) ?_
    refine s_iald dX9_needed_66 (fun v4 => ?_)
    refine s_iand dX9_needed_67 ?_
    refine s_if_ne 110 dX9_needed_68 (by decide) (fun _ => ?_) (fun _ => ?_)
    · exact s_less (t_X9_needed_110 hk52 x0 x1 x2 x3 x4 x5  S) (And.intro rfl (And.intro rfl (And.intro rfl (And.intro rfl (And.intro rfl (And.intro rfl trivial))))))
    · refine s_iload dX9_needed_71 rfl ?_
      refine s_if_lt 92 dX9_needed_73 (by decide) (fun _ => ?_) (fun _ => ?_)
      · exact s_less (t_X9_needed_92 hk52 x0 x1 x2 x3 x4 x5  S) (And.intro rfl (And.intro rfl (And.intro rfl (And.intro rfl (And.intro rfl (And.intro rfl trivial))))))
      · refine s_iload dX9_needed_76 rfl ?_
        refine s_cS1I mk_X9_388 (fun v9 S9 h9 => con_X9_bits F _ _ v9 S9 h9) ⟨by omega, by omega⟩ (Nat.le_of_ble_eq_true rfl) dX9_needed_78 (fun v5 S6 => ?_)
        refine s_iload dX9_needed_81 rfl ?_
        refine s_cS1I mk_X9_388 (fun v9 S9 h9 => con_X9_bits F _ _ v9 S9 h9) ⟨by omega, by omega⟩ (Nat.le_of_ble_eq_true rfl) dX9_needed_83 (fun v7 S8 => ?_)
        refine s_icmp_lt 92 dX9_needed_86 (by decide) (fun _ => ?_) (fun _ => ?_)
        · exact s_less (t_X9_needed_92 hk52 x0 x1 x2 x3 x4 x5  S8) (And.intro rfl (And.intro rfl (And.intro rfl (And.intro rfl (And.intro rfl (And.intro rfl trivial))))))
        · refine s_goto 110 dX9_needed_89 (by decide) ?_
          exact s_less (t_X9_needed_110 hk52 x0 x1 x2 x3 x4 x5  S8) (And.intro rfl (And.intro rfl (And.intro rfl (And.intro rfl (And.intro rfl (And.intro rfl trivial))))))
set_option maxRecDepth 100000 in
theorem t_X9_needed_21 {Γ : Cx} {F : Nat} : ∀ (S : Mem), Sim cX9_needed RX9 5 112 (some .int) false Γ rI (f_X9_needed_21 F  S) S 21 [none, none, none, none, none, none] [] := by
  intro  S
  unfold f_X9_needed_21
  refine s_iconst (-1 : Int32) dX9_needed_21 (by decide) ?_
  exact s_iret dX9_needed_22
set_option maxRecDepth 100000 in
theorem con_X9_needed {l : Launch} (F : Nat) (x0 : Nat) (x1 : Int32) (x2 : Int32) (S : Mem) (v : Int32) (S1 : Mem) (h : fn_X9_needed F x0 x1 x2 S = some (v, S1)) : Con l yX9_needed cX9_needed 6 (some .int) 5 112 [.ref x0, .int x1, .int x2] S (rI v) S1 := by
  refine con_of (ι := rI) RX9 false [some (.ref x0), some (.int x1), some (.int x2), none, none, none] rfl (fun h => by cases h) (by decide) (Nat.le_of_ble_eq_true rfl) ⟨rfl, rfl⟩ (fun Γ hl => ?_) h
  unfold fn_X9_needed
  refine s_aload_n 0 dX9_needed_0 rfl rfl ?_
  refine s_iconst (0 : Int32) dX9_needed_1 (by decide) ?_
  refine s_putI fk_X9_109 (Or.inl rfl) rfl dX9_needed_2 (fun S1 => ?_)
  refine s_iload_n 1 dX9_needed_5 rfl rfl ?_
  refine s_cS1I mk_X9_334 (fun v9 S9 h9 => con_X9_isHigh F _ _ v9 S9 h9) ⟨by omega, by omega⟩ (Nat.le_of_ble_eq_true rfl) dX9_needed_6 (fun v2 S3 => ?_)
  refine s_if_eq 21 dX9_needed_9 (by decide) (fun _ => ?_) (fun _ => ?_)
  · exact s_less (t_X9_needed_21   S3) trivial
  · refine s_iload_n 2 dX9_needed_12 rfl rfl ?_
    refine s_iconst (0 : Int32) dX9_needed_13 (by decide) ?_
    refine s_iconst (1 : Int32) dX9_needed_14 (by decide) ?_
    refine s_cS3I mk_X9_235 (fun v9 S9 h9 => con_X9_within F _ _ _ _ v9 S9 h9) ⟨by omega, by omega⟩ (Nat.le_of_ble_eq_true rfl) dX9_needed_15 (fun v4 S5 => ?_)
    refine s_if_ne 23 dX9_needed_18 (by decide) (fun _ => ?_) (fun _ => ?_)
    · refine s_aload_n 0 dX9_needed_23 rfl rfl ?_
      refine s_aload_n 0 dX9_needed_24 rfl rfl ?_
      refine s_getR fk_X9_81 rfl dX9_needed_25 (fun v6 => ?_)
      refine s_bipush (19 : Int32) dX9_needed_28 (by decide) ?_
      refine s_iald dX9_needed_30 (fun v7 => ?_)
      refine s_iconst (0 : Int32) dX9_needed_31 (by decide) ?_
      refine s_cV2V mk_X9_319 (by decide) rfl (fun v9 S9 h9 => con_X9_blows F _ _ _ _ v9 S9 h9) ⟨by omega, by omega⟩ (Nat.le_of_ble_eq_true rfl) dX9_needed_32 (fun _ S9 => ?_)
      refine s_iconst (1 : Int32) dX9_needed_35 (by decide) ?_
      refine s_aload_n 0 dX9_needed_36 rfl rfl ?_
      refine s_getR fk_X9_13 rfl dX9_needed_37 (fun v10 => ?_)
      refine s_iconst (4 : Int32) dX9_needed_40 (by decide) ?_
      refine s_iald dX9_needed_41 (fun v11 => ?_)
      refine s_ishl dX9_needed_42 ?_
      refine s_iconst (1 : Int32) dX9_needed_43 (by decide) ?_
      refine s_isub dX9_needed_44 ?_
      refine s_ltI (fun v12 => ?_)
      refine s_istore_3 dX9_needed_45 rfl ?_
      refine s_iconst (-1 : Int32) dX9_needed_46 (by decide) ?_
      refine s_istore_4 dX9_needed_47 rfl ?_
      refine s_iconst (0 : Int32) dX9_needed_49 (by decide) ?_
      refine s_istore_5 dX9_needed_50 rfl ?_
      exact s_less (t_X9_needed_52 F x0 x1 x2 v12 (-1 : Int32) (0 : Int32) S9) (And.intro rfl (And.intro rfl (And.intro rfl (And.intro rfl (And.intro rfl (And.intro rfl trivial))))))
    · exact s_less (t_X9_needed_21   S5) trivial
