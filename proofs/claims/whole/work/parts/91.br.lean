/-! the branches of the law's loop -/
def br_0 (F : Nat) (k23 : Nat → Nat → Nat → Nat → Int32 → Mem → Option (Int32 × Mem)) (x0 : Nat) (x1 : Nat) (x2 : Nat) (x3 : Nat) (x4 : Int32) (S : Mem) : Option (Int32 × Mem) :=
  (gA S 14 x0 (x4 + (1 : Int32))).bind fun v4 =>
  (gA S 14 x0 (x4 + (2 : Int32))).bind fun v5 =>
  (gA S 14 x0 (x4 + (3 : Int32))).bind fun v6 =>
  (gA S 14 x0 (x4 + (4 : Int32))).bind fun v7 =>
  (gA S 14 x0 (x4 + (5 : Int32))).bind fun v8 =>
  (gA S 14 x0 (x4 + (6 : Int32))).bind fun v9 =>
  bd (cal S 7 x1 (fn_X8_feed F x1 (((v4).toInt64 <<< (((32 : Int32)).toInt64 &&& 63)) ||| ((v5).toInt64 &&& (4294967295 : Int64))) (((v6).toInt64 <<< (((32 : Int32)).toInt64 &&& 63)) ||| ((v7).toInt64 &&& (4294967295 : Int64))) (((v8).toInt64 <<< (((32 : Int32)).toInt64 &&& 63)) ||| ((v9).toInt64 &&& (4294967295 : Int64))) S)) fun v10 S11 =>
  (gA S11 14 x0 (x4 + (1 : Int32))).bind fun v12 =>
  (gA S11 14 x0 (x4 + (2 : Int32))).bind fun v13 =>
  (gA S11 14 x0 (x4 + (3 : Int32))).bind fun v14 =>
  (gA S11 14 x0 (x4 + (4 : Int32))).bind fun v15 =>
  (gA S11 14 x0 (x4 + (5 : Int32))).bind fun v16 =>
  (gA S11 14 x0 (x4 + (6 : Int32))).bind fun v17 =>
  bd (cal S11 8 x2 (fn_X9_feed F x2 (((v12).toInt64 <<< (((32 : Int32)).toInt64 &&& 63)) ||| ((v13).toInt64 &&& (4294967295 : Int64))) (((v14).toInt64 <<< (((32 : Int32)).toInt64 &&& 63)) ||| ((v15).toInt64 &&& (4294967295 : Int64))) (((v16).toInt64 <<< (((32 : Int32)).toInt64 &&& 63)) ||| ((v17).toInt64 &&& (4294967295 : Int64))) S11)) fun v18 S19 =>
  if v10 = v18 then
    f_L_law_1084 F k23 x0 x1 x2 x3 x4  S19
  else
    rz (0 : Int32) S19
def br_1 (F : Nat) (k23 : Nat → Nat → Nat → Nat → Int32 → Mem → Option (Int32 × Mem)) (x0 : Nat) (x1 : Nat) (x2 : Nat) (x3 : Nat) (x4 : Int32) (S : Mem) : Option (Int32 × Mem) :=
  bd (cal S 7 x1 (fn_X8_sky F x1 S)) fun v20 S21 =>
  bd (cal S21 8 x2 (fn_X9_sky F x2 S21)) fun v22 S23 =>
  if v20 = v22 then
    f_L_law_1084 F k23 x0 x1 x2 x3 x4  S23
  else
    rz (0 : Int32) S23
def br_2 (F : Nat) (k23 : Nat → Nat → Nat → Nat → Int32 → Mem → Option (Int32 × Mem)) (x0 : Nat) (x1 : Nat) (x2 : Nat) (x3 : Nat) (x4 : Int32) (S : Mem) : Option (Int32 × Mem) :=
  (gA S 14 x0 (x4 + (1 : Int32))).bind fun v24 =>
  (gA S 14 x0 (x4 + (2 : Int32))).bind fun v25 =>
  bd (cal S 7 x1 (fn_X8_kite F x1 v24 v25 S)) fun v26 S27 =>
  (gA S27 14 x0 (x4 + (1 : Int32))).bind fun v28 =>
  (gA S27 14 x0 (x4 + (2 : Int32))).bind fun v29 =>
  bd (cal S27 8 x2 (fn_X9_kite F x2 v28 v29 S27)) fun v30 S31 =>
  if v26 = v30 then
    f_L_law_1084 F k23 x0 x1 x2 x3 x4  S31
  else
    rz (0 : Int32) S31
def br_3 (F : Nat) (k23 : Nat → Nat → Nat → Nat → Int32 → Mem → Option (Int32 × Mem)) (x0 : Nat) (x1 : Nat) (x2 : Nat) (x3 : Nat) (x4 : Int32) (S : Mem) : Option (Int32 × Mem) :=
  (gA S 14 x0 (x4 + (1 : Int32))).bind fun v32 =>
  bd (cal S 7 x1 (fn_X8_wind F x1 v32 S)) fun v33 S34 =>
  (gA S34 14 x0 (x4 + (1 : Int32))).bind fun v35 =>
  bd (cal S34 8 x2 (fn_X9_wind F x2 v35 S34)) fun v36 S37 =>
  if v33 = v36 then
    f_L_law_1084 F k23 x0 x1 x2 x3 x4  S37
  else
    rz (0 : Int32) S37
def br_4 (F : Nat) (k23 : Nat → Nat → Nat → Nat → Int32 → Mem → Option (Int32 × Mem)) (x0 : Nat) (x1 : Nat) (x2 : Nat) (x3 : Nat) (x4 : Int32) (S : Mem) : Option (Int32 × Mem) :=
  (gA S 14 x0 (x4 + (1 : Int32))).bind fun v38 =>
  (gA S 14 x0 (x4 + (2 : Int32))).bind fun v39 =>
  bd (fn_L_lamp F x1 v38 v39 x3 S) fun v40 S41 =>
  (gA S41 14 x0 (x4 + (1 : Int32))).bind fun v42 =>
  (gA S41 14 x0 (x4 + (2 : Int32))).bind fun v43 =>
  bd (cal S41 8 x2 (fn_X9_lamp F x2 v42 v43 S41)) fun v44 S45 =>
  bd (cal S45 8 x2 (fn_X9_thrown F x2 S45)) fun v46 S47 =>
  if v46 = v40 then
    if v40 = 0 then
      (gAJ S47 x3 (0 : Int32)).bind fun v48 =>
      if (lg_cmp v48 ((v44).toInt64)) = 0 then
        f_L_law_431 F k23 x0 x1 x2 x3 x4  S47
      else
        rz (0 : Int32) S47
    else
      f_L_law_431 F k23 x0 x1 x2 x3 x4  S47
  else
    rz (0 : Int32) S47
def br_5 (F : Nat) (k23 : Nat → Nat → Nat → Nat → Int32 → Mem → Option (Int32 × Mem)) (x0 : Nat) (x1 : Nat) (x2 : Nat) (x3 : Nat) (x4 : Int32) (S : Mem) : Option (Int32 × Mem) :=
  (gA S 14 x0 (x4 + (1 : Int32))).bind fun v49 =>
  (gA S 14 x0 (x4 + (2 : Int32))).bind fun v50 =>
  bd (cal S 7 x1 (fn_X8_whistle F x1 v49 v50 S)) fun v51 S52 =>
  (gA S52 14 x0 (x4 + (1 : Int32))).bind fun v53 =>
  (gA S52 14 x0 (x4 + (2 : Int32))).bind fun v54 =>
  bd (cal S52 8 x2 (fn_X9_whistle F x2 v53 v54 S52)) fun v55 S56 =>
  if v51 = v55 then
    f_L_law_1084 F k23 x0 x1 x2 x3 x4  S56
  else
    rz (0 : Int32) S56
def br_6 (F : Nat) (k23 : Nat → Nat → Nat → Nat → Int32 → Mem → Option (Int32 × Mem)) (x0 : Nat) (x1 : Nat) (x2 : Nat) (x3 : Nat) (x4 : Int32) (S : Mem) : Option (Int32 × Mem) :=
  (gA S 14 x0 (x4 + (1 : Int32))).bind fun v57 =>
  (gA S 14 x0 (x4 + (2 : Int32))).bind fun v58 =>
  if v58 = 0 then
    f_L_law_492 F k23 x0 x1 x2 x3 x4 x1 v57 (0 : Int32) S
  else
    f_L_law_492 F k23 x0 x1 x2 x3 x4 x1 v57 (1 : Int32) S
def br_7 (F : Nat) (k23 : Nat → Nat → Nat → Nat → Int32 → Mem → Option (Int32 × Mem)) (x0 : Nat) (x1 : Nat) (x2 : Nat) (x3 : Nat) (x4 : Int32) (S : Mem) : Option (Int32 × Mem) :=
  (gA S 14 x0 (x4 + (1 : Int32))).bind fun v59 =>
  bd (cal S 7 x1 (fn_X8_run F x1 v59 S)) fun v60 S61 =>
  (gA S61 14 x0 (x4 + (1 : Int32))).bind fun v62 =>
  bd (cal S61 8 x2 (fn_X9_run F x2 v62 S61)) fun v63 S64 =>
  if v60 = v63 then
    f_L_law_1084 F k23 x0 x1 x2 x3 x4  S64
  else
    rz (0 : Int32) S64
def br_8 (F : Nat) (k23 : Nat → Nat → Nat → Nat → Int32 → Mem → Option (Int32 × Mem)) (x0 : Nat) (x1 : Nat) (x2 : Nat) (x3 : Nat) (x4 : Int32) (S : Mem) : Option (Int32 × Mem) :=
  (gA S 14 x0 (x4 + (1 : Int32))).bind fun v65 =>
  (gA S 14 x0 (x4 + (2 : Int32))).bind fun v66 =>
  (gA S 14 x0 (x4 + (3 : Int32))).bind fun v67 =>
  bd (cal S 7 x1 (fn_X8_nearest F x1 v65 v66 v67 S)) fun v68 S69 =>
  (gA S69 14 x0 (x4 + (1 : Int32))).bind fun v70 =>
  (gA S69 14 x0 (x4 + (2 : Int32))).bind fun v71 =>
  (gA S69 14 x0 (x4 + (3 : Int32))).bind fun v72 =>
  bd (cal S69 8 x2 (fn_X9_nearest F x2 v70 v71 v72 S69)) fun v73 S74 =>
  if v68 = v73 then
    f_L_law_1084 F k23 x0 x1 x2 x3 x4  S74
  else
    rz (0 : Int32) S74
def br_9 (F : Nat) (k23 : Nat → Nat → Nat → Nat → Int32 → Mem → Option (Int32 × Mem)) (x0 : Nat) (x1 : Nat) (x2 : Nat) (x3 : Nat) (x4 : Int32) (S : Mem) : Option (Int32 × Mem) :=
  (gA S 14 x0 (x4 + (1 : Int32))).bind fun v75 =>
  (gA S 14 x0 (x4 + (2 : Int32))).bind fun v76 =>
  (gA S 14 x0 (x4 + (3 : Int32))).bind fun v77 =>
  (gA S 14 x0 (x4 + (4 : Int32))).bind fun v78 =>
  bd (cal S 7 x1 (fn_X8_fewest F x1 v75 v76 v77 v78 S)) fun v79 S80 =>
  (gA S80 14 x0 (x4 + (1 : Int32))).bind fun v81 =>
  (gA S80 14 x0 (x4 + (2 : Int32))).bind fun v82 =>
  (gA S80 14 x0 (x4 + (3 : Int32))).bind fun v83 =>
  (gA S80 14 x0 (x4 + (4 : Int32))).bind fun v84 =>
  bd (cal S80 8 x2 (fn_X9_fewest F x2 v81 v82 v83 v84 S80)) fun v85 S86 =>
  if v79 = v85 then
    f_L_law_1084 F k23 x0 x1 x2 x3 x4  S86
  else
    rz (0 : Int32) S86
def br_10 (F : Nat) (k23 : Nat → Nat → Nat → Nat → Int32 → Mem → Option (Int32 × Mem)) (x0 : Nat) (x1 : Nat) (x2 : Nat) (x3 : Nat) (x4 : Int32) (S : Mem) : Option (Int32 × Mem) :=
  (gA S 14 x0 (x4 + (1 : Int32))).bind fun v87 =>
  (gA S 14 x0 (x4 + (2 : Int32))).bind fun v88 =>
  (gA S 14 x0 (x4 + (3 : Int32))).bind fun v89 =>
  (gA S 14 x0 (x4 + (4 : Int32))).bind fun v90 =>
  bd (cal S 7 x1 (fn_X8_holds F x1 v87 v88 v89 v90 S)) fun v91 S92 =>
  (gA S92 14 x0 (x4 + (1 : Int32))).bind fun v93 =>
  (gA S92 14 x0 (x4 + (2 : Int32))).bind fun v94 =>
  (gA S92 14 x0 (x4 + (3 : Int32))).bind fun v95 =>
  (gA S92 14 x0 (x4 + (4 : Int32))).bind fun v96 =>
  bd (cal S92 8 x2 (fn_X9_holds F x2 v93 v94 v95 v96 S92)) fun v97 S98 =>
  if v91 = v97 then
    f_L_law_1084 F k23 x0 x1 x2 x3 x4  S98
  else
    rz (0 : Int32) S98
def br_11 (F : Nat) (k23 : Nat → Nat → Nat → Nat → Int32 → Mem → Option (Int32 × Mem)) (x0 : Nat) (x1 : Nat) (x2 : Nat) (x3 : Nat) (x4 : Int32) (S : Mem) : Option (Int32 × Mem) :=
  (gA S 14 x0 (x4 + (1 : Int32))).bind fun v99 =>
  bd (cal S 7 x1 (fn_X8_mayGo F x1 v99 S)) fun v100 S101 =>
  (gA S101 14 x0 (x4 + (1 : Int32))).bind fun v102 =>
  bd (cal S101 8 x2 (fn_X9_mayGo F x2 v102 S101)) fun v103 S104 =>
  if v100 = v103 then
    f_L_law_1084 F k23 x0 x1 x2 x3 x4  S104
  else
    rz (0 : Int32) S104
def br_12 (F : Nat) (k23 : Nat → Nat → Nat → Nat → Int32 → Mem → Option (Int32 × Mem)) (x0 : Nat) (x1 : Nat) (x2 : Nat) (x3 : Nat) (x4 : Int32) (S : Mem) : Option (Int32 × Mem) :=
  (gA S 14 x0 (x4 + (1 : Int32))).bind fun v105 =>
  (gA S 14 x0 (x4 + (2 : Int32))).bind fun v106 =>
  bd (cal S 7 x1 (fn_X8_needed F x1 v105 v106 S)) fun v107 S108 =>
  (gA S108 14 x0 (x4 + (1 : Int32))).bind fun v109 =>
  (gA S108 14 x0 (x4 + (2 : Int32))).bind fun v110 =>
  bd (cal S108 8 x2 (fn_X9_needed F x2 v109 v110 S108)) fun v111 S112 =>
  if v107 = v111 then
    f_L_law_1084 F k23 x0 x1 x2 x3 x4  S112
  else
    rz (0 : Int32) S112
def br_13 (F : Nat) (k23 : Nat → Nat → Nat → Nat → Int32 → Mem → Option (Int32 × Mem)) (x0 : Nat) (x1 : Nat) (x2 : Nat) (x3 : Nat) (x4 : Int32) (S : Mem) : Option (Int32 × Mem) :=
  (gA S 14 x0 (x4 + (1 : Int32))).bind fun v113 =>
  (gA S 14 x0 (x4 + (2 : Int32))).bind fun v114 =>
  bd (cal S 7 x1 (fn_X8_mean F x1 v113 v114 S)) fun v115 S116 =>
  (gA S116 14 x0 (x4 + (1 : Int32))).bind fun v117 =>
  (gA S116 14 x0 (x4 + (2 : Int32))).bind fun v118 =>
  bd (cal S116 8 x2 (fn_X9_mean F x2 v117 v118 S116)) fun v119 S120 =>
  if (lg_cmp v115 v119) = 0 then
    f_L_law_1084 F k23 x0 x1 x2 x3 x4  S120
  else
    rz (0 : Int32) S120
def br_14 (F : Nat) (k23 : Nat → Nat → Nat → Nat → Int32 → Mem → Option (Int32 × Mem)) (x0 : Nat) (x1 : Nat) (x2 : Nat) (x3 : Nat) (x4 : Int32) (S : Mem) : Option (Int32 × Mem) :=
  bd (cal S 7 x1 (fn_X8_down F x1 S)) fun v121 S122 =>
  bd (cal S122 8 x2 (fn_X9_down F x2 S122)) fun v123 S124 =>
  if v121 = v123 then
    f_L_law_1084 F k23 x0 x1 x2 x3 x4  S124
  else
    rz (0 : Int32) S124
def br_15 (F : Nat) (k23 : Nat → Nat → Nat → Nat → Int32 → Mem → Option (Int32 × Mem)) (x0 : Nat) (x1 : Nat) (x2 : Nat) (x3 : Nat) (x4 : Int32) (S : Mem) : Option (Int32 × Mem) :=
  (gA S 14 x0 (x4 + (1 : Int32))).bind fun v125 =>
  (gA S 14 x0 (x4 + (2 : Int32))).bind fun v126 =>
  (gA S 14 x0 (x4 + (3 : Int32))).bind fun v127 =>
  bd (cal S 7 x1 (fn_X8_note F x1 v125 v126 v127 S)) fun v128 S129 =>
  (gA S129 14 x0 (x4 + (1 : Int32))).bind fun v130 =>
  (gA S129 14 x0 (x4 + (2 : Int32))).bind fun v131 =>
  (gA S129 14 x0 (x4 + (3 : Int32))).bind fun v132 =>
  bd (cal S129 8 x2 (fn_X9_note F x2 v130 v131 v132 S129)) fun v133 S134 =>
  if v128 = v133 then
    f_L_law_1084 F k23 x0 x1 x2 x3 x4  S134
  else
    rz (0 : Int32) S134
def br_16 (F : Nat) (k23 : Nat → Nat → Nat → Nat → Int32 → Mem → Option (Int32 × Mem)) (x0 : Nat) (x1 : Nat) (x2 : Nat) (x3 : Nat) (x4 : Int32) (S : Mem) : Option (Int32 × Mem) :=
  bd (cal S 7 x1 (fn_X8_clear F x1 S)) fun v135 S136 =>
  bd (cal S136 8 x2 (fn_X9_clear F x2 S136)) fun v137 S138 =>
  if v135 = v137 then
    f_L_law_1084 F k23 x0 x1 x2 x3 x4  S138
  else
    rz (0 : Int32) S138
def br_17 (F : Nat) (k23 : Nat → Nat → Nat → Nat → Int32 → Mem → Option (Int32 × Mem)) (x0 : Nat) (x1 : Nat) (x2 : Nat) (x3 : Nat) (x4 : Int32) (S : Mem) : Option (Int32 × Mem) :=
  bd (cal S 7 x1 (fn_X8_fits F x1 S)) fun v139 S140 =>
  bd (cal S140 8 x2 (fn_X9_fits F x2 S140)) fun v141 S142 =>
  if v139 = v141 then
    f_L_law_1084 F k23 x0 x1 x2 x3 x4  S142
  else
    rz (0 : Int32) S142
def br_18 (F : Nat) (k23 : Nat → Nat → Nat → Nat → Int32 → Mem → Option (Int32 × Mem)) (x0 : Nat) (x1 : Nat) (x2 : Nat) (x3 : Nat) (x4 : Int32) (S : Mem) : Option (Int32 × Mem) :=
  (gA S 14 x0 (x4 + (1 : Int32))).bind fun v143 =>
  bd (cal S 7 x1 (fn_X8_fit F x1 v143 S)) fun v144 S145 =>
  (gA S145 14 x0 (x4 + (1 : Int32))).bind fun v146 =>
  bd (cal S145 8 x2 (fn_X9_fit F x2 v146 S145)) fun v147 S148 =>
  if v144 = v147 then
    f_L_law_1084 F k23 x0 x1 x2 x3 x4  S148
  else
    rz (0 : Int32) S148
def br_19 (F : Nat) (k23 : Nat → Nat → Nat → Nat → Int32 → Mem → Option (Int32 × Mem)) (x0 : Nat) (x1 : Nat) (x2 : Nat) (x3 : Nat) (x4 : Int32) (S : Mem) : Option (Int32 × Mem) :=
  (gA S 14 x0 (x4 + (1 : Int32))).bind fun v149 =>
  (gA S 14 x0 (x4 + (2 : Int32))).bind fun v150 =>
  (gA S 14 x0 (x4 + (3 : Int32))).bind fun v151 =>
  (gA S 14 x0 (x4 + (4 : Int32))).bind fun v152 =>
  (gA S 14 x0 (x4 + (5 : Int32))).bind fun v153 =>
  bd (cal S 7 x1 (fn_X8_lots F x1 v149 v150 v151 v152 v153 S)) fun v154 S155 =>
  (gA S155 14 x0 (x4 + (1 : Int32))).bind fun v156 =>
  (gA S155 14 x0 (x4 + (2 : Int32))).bind fun v157 =>
  (gA S155 14 x0 (x4 + (3 : Int32))).bind fun v158 =>
  (gA S155 14 x0 (x4 + (4 : Int32))).bind fun v159 =>
  (gA S155 14 x0 (x4 + (5 : Int32))).bind fun v160 =>
  bd (cal S155 8 x2 (fn_X9_lots F x2 v156 v157 v158 v159 v160 S155)) fun v161 S162 =>
  if v154 = v161 then
    f_L_law_1084 F k23 x0 x1 x2 x3 x4  S162
  else
    rz (0 : Int32) S162
def br_20 (F : Nat) (k23 : Nat → Nat → Nat → Nat → Int32 → Mem → Option (Int32 × Mem)) (x0 : Nat) (x1 : Nat) (x2 : Nat) (x3 : Nat) (x4 : Int32) (S : Mem) : Option (Int32 × Mem) :=
  (gA S 14 x0 (x4 + (1 : Int32))).bind fun v163 =>
  (gA S 14 x0 (x4 + (2 : Int32))).bind fun v164 =>
  if v164 = 0 then
    f_L_law_1027 F k23 x0 x1 x2 x3 x4 x1 v163 (0 : Int32) S
  else
    f_L_law_1027 F k23 x0 x1 x2 x3 x4 x1 v163 (1 : Int32) S
def br_21 (F : Nat) (k23 : Nat → Nat → Nat → Nat → Int32 → Mem → Option (Int32 × Mem)) (x0 : Nat) (x1 : Nat) (x2 : Nat) (x3 : Nat) (x4 : Int32) (S : Mem) : Option (Int32 × Mem) :=
  (gA S 14 x0 (x4 + (1 : Int32))).bind fun v165 =>
  bd (cal S 7 x1 (fn_X8_count F x1 v165 S)) fun v166 S167 =>
  (gA S167 14 x0 (x4 + (1 : Int32))).bind fun v168 =>
  bd (cal S167 8 x2 (fn_X9_count F x2 v168 S167)) fun v169 S170 =>
  if v166 = v169 then
    f_L_law_1084 F k23 x0 x1 x2 x3 x4  S170
  else
    rz (0 : Int32) S170
theorem br_eq {F : Nat} {k23 : Nat → Nat → Nat → Nat → Int32 → Mem → Option (Int32 × Mem)} {x0 x1 x2 x3 : Nat} {x4 : Int32} {S : Mem} : b_L_law_23 F k23 x0 x1 x2 x3 x4 S = ((gLen S x0).bind fun v1 => if (v1 - (7 : Int32)) < x4 then rz (1 : Int32) S else (gA S 14 x0 x4).bind fun v2 => if (v2 &&& (31 : Int32)) = (0 : Int32) then br_0 F k23 x0 x1 x2 x3 x4 S else if (v2 &&& (31 : Int32)) = (1 : Int32) then br_1 F k23 x0 x1 x2 x3 x4 S else if (v2 &&& (31 : Int32)) = (2 : Int32) then br_2 F k23 x0 x1 x2 x3 x4 S else if (v2 &&& (31 : Int32)) = (3 : Int32) then br_3 F k23 x0 x1 x2 x3 x4 S else if (v2 &&& (31 : Int32)) = (4 : Int32) then br_4 F k23 x0 x1 x2 x3 x4 S else if (v2 &&& (31 : Int32)) = (5 : Int32) then br_5 F k23 x0 x1 x2 x3 x4 S else if (v2 &&& (31 : Int32)) = (6 : Int32) then br_6 F k23 x0 x1 x2 x3 x4 S else if (v2 &&& (31 : Int32)) = (7 : Int32) then br_7 F k23 x0 x1 x2 x3 x4 S else if (v2 &&& (31 : Int32)) = (8 : Int32) then br_8 F k23 x0 x1 x2 x3 x4 S else if (v2 &&& (31 : Int32)) = (9 : Int32) then br_9 F k23 x0 x1 x2 x3 x4 S else if (v2 &&& (31 : Int32)) = (10 : Int32) then br_10 F k23 x0 x1 x2 x3 x4 S else if (v2 &&& (31 : Int32)) = (11 : Int32) then br_11 F k23 x0 x1 x2 x3 x4 S else if (v2 &&& (31 : Int32)) = (12 : Int32) then br_12 F k23 x0 x1 x2 x3 x4 S else if (v2 &&& (31 : Int32)) = (13 : Int32) then br_13 F k23 x0 x1 x2 x3 x4 S else if (v2 &&& (31 : Int32)) = (14 : Int32) then br_14 F k23 x0 x1 x2 x3 x4 S else if (v2 &&& (31 : Int32)) = (15 : Int32) then br_15 F k23 x0 x1 x2 x3 x4 S else if (v2 &&& (31 : Int32)) = (16 : Int32) then br_16 F k23 x0 x1 x2 x3 x4 S else if (v2 &&& (31 : Int32)) = (17 : Int32) then br_17 F k23 x0 x1 x2 x3 x4 S else if (v2 &&& (31 : Int32)) = (18 : Int32) then br_18 F k23 x0 x1 x2 x3 x4 S else if (v2 &&& (31 : Int32)) = (19 : Int32) then br_19 F k23 x0 x1 x2 x3 x4 S else if (v2 &&& (31 : Int32)) = (20 : Int32) then br_20 F k23 x0 x1 x2 x3 x4 S else if (v2 &&& (31 : Int32)) = (21 : Int32) then br_21 F k23 x0 x1 x2 x3 x4 S else f_L_law_1084 F k23 x0 x1 x2 x3 x4 S) := rfl
