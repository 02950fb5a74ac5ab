/-! the model: a law worked out -/
def opensV (d : Nat) (V : Vw) : Vw := u2 (u2 (u2 (u2 (u2 V 15 d 0) 17 d 0) 18 d 0) 19 d 20) 21 d 0
def sumsV (d : Nat) (V : Vw) : Vw := u2 (u2 V 18 d (if V 19 d = 21 then V 18 d - V 20 d else V 18 d + V 20 d)) 21 d 0
def cmpV (ag ah su : Int32) : Int32 := if ag = 24 then (if su ≤ ah then 0 else 1) else if ag = 25 then (if ah = su then 1 else 0) else su
def joinV (kb kp v : Int32) : Int32 := if kb = 26 then (if kp = 0 then 0 else if v = 0 then 0 else 1) else if kb = 27 then (if kp = 0 then (if v = 0 then 0 else 1) else 1) else v
def tstV (d : Nat) (V : Vw) (v : Int32) : Vw := u2 (u2 (u2 (u2 V 14 d v) 17 d 0) 18 d 0) 19 d 20
def testsV (d : Nat) (V : Vw) : Vw := tstV d (sumsV d V) (joinV (sumsV d V 15 d) (sumsV d V 14 d) (cmpV (sumsV d V 17 d) (sumsV d V 16 d) (sumsV d V 18 d)))
def dlv : Nat → Vw → Int32 → Nat × Vw
  | 0, V, v => (0, u2 V 20 0 (if V 21 0 = 0 then v else V 20 0 * v))
  | d + 1, V, v => if V 22 (d + 1) = 1 then dlv d V (if v = 0 then 1 else 0) else (d + 1, u2 V 20 (d + 1) (if V 21 (d + 1) = 0 then v else V 20 (d + 1) * v))
def eqsV (d : Nat) (V : Vw) (c : Int32) : Vw := u2 (u2 (u2 (u2 (sumsV d V) 16 d (sumsV d V 18 d)) 17 d c) 18 d 0) 19 d 20
def stepW (val : Nat → Int32) (c : Int32) (d : Nat) (V : Vw) : Option (Nat × Vw) :=
  if c = 28 ∨ c = 30 then (if d < 6 then some (d + 1, opensV (d + 1) (u2 V 22 (d + 1) (if c = 30 then 1 else 0))) else none)
  else if c = 20 ∨ c = 21 then some (d, u2 (sumsV d V) 19 d c)
  else if c = 22 then some (d, u2 V 21 d c)
  else if c = 24 ∨ c = 25 then some (d, eqsV d V c)
  else if c = 26 ∨ c = 27 then some (d, u2 (testsV d V) 15 d c)
  else if c = 29 then (if 0 < d then some (dlv (d - 1) (testsV d V) (testsV d V 14 d)) else none)
  else if c < 100 then (if 20 ≤ c then some (dlv d V 0) else if inB c 20 then some (dlv d V (val c.toNatClampNeg)) else none)
  else some (dlv d V (c - 100))
def wkRun (cd val : Nat → Int32) : Nat → Nat → Nat → Vw → Option (Nat × Vw)
  | 0, _, d, V => some (d, V)
  | n + 1, i, d, V => (stepW val (cd i) d V).bind fun q => wkRun cd val n (i + 1) q.1 q.2
theorem p_opens {d : Nat} {F M : Nat} {S : Mem} {V : Vw} {U : Uw} (h : shM S M) (hd : d < 7) : fn_X9_opens F M (nI d) (wM S M V U) = some ((), wM S M (opensV d V) U) := by
  unfold fn_X9_opens opensV
  simp (disch := first | assumption | exact inB_n (by omega) (by decide) | exact inB_l (by omega) (by decide) | exact inB_al (by omega) (by decide) | exact inB_la (by omega) (by decide) | exact inB_j (by assumption) (by omega) (by decide) | exact inB_e (by assumption) (by decide) | omega) only [↓eM h, ↓bd_r, ↓lt_r, ↓Option.bind_some, ↓reduceIte, ix_nI, ix_l, nI_al, nI_la, nI_lm, u2_ne, u2_eq, nI_leI, nI_ltI, nI_eq, le_ln, le_nl, lt_ln, lt_nl, eq_nl, eq_ln]
theorem p_sums {d : Nat} {F M : Nat} {S : Mem} {V : Vw} {U : Uw} (h : shM S M) (hd : d < 7) : fn_X9_sums F M (nI d) (wM S M V U) = some ((), wM S M (sumsV d V) U) := by
  unfold fn_X9_sums f_X9_sums_45 sumsV
  simp (disch := first | assumption | exact inB_n (by omega) (by decide) | exact inB_l (by omega) (by decide) | exact inB_al (by omega) (by decide) | exact inB_la (by omega) (by decide) | exact inB_j (by assumption) (by omega) (by decide) | exact inB_e (by assumption) (by decide) | omega) only [↓eM h, ↓bd_r, ↓lt_r, ↓Option.bind_some, ↓reduceIte, ix_nI, ix_l, nI_al, nI_la, nI_lm, u2_ne, u2_eq, nI_leI, nI_ltI, nI_eq, le_ln, le_nl, lt_ln, lt_nl, eq_nl, eq_ln]
  by_cases hc : V 19 d = 21
  · simp only [if_pos hc]
  · simp only [if_neg hc]
theorem p_tests136 {d : Nat} {v : Int32} {F M : Nat} {S : Mem} {V : Vw} {U : Uw} (h : shM S M) (hd : d < 7) : f_X9_tests_136 F M (nI d) v (wM S M V U) = some ((), wM S M (tstV d V v) U) := by
  unfold f_X9_tests_136 tstV
  simp (disch := first | assumption | exact inB_n (by omega) (by decide) | exact inB_l (by omega) (by decide) | exact inB_al (by omega) (by decide) | exact inB_la (by omega) (by decide) | exact inB_j (by assumption) (by omega) (by decide) | exact inB_e (by assumption) (by decide) | omega) only [↓eM h, ↓bd_r, ↓lt_r, ↓Option.bind_some, ↓reduceIte, ix_nI, ix_l, nI_al, nI_la, nI_lm, u2_ne, u2_eq, nI_leI, nI_ltI, nI_eq, le_ln, le_nl, lt_ln, lt_nl, eq_nl, eq_ln]
theorem p_tests106 {d : Nat} {v : Int32} {F M : Nat} {S : Mem} {V : Vw} {U : Uw} (h : shM S M) (hd : d < 7) : f_X9_tests_106 F M (nI d) v (wM S M V U) = some ((), wM S M (tstV d V (if V 15 d = 27 then (if V 14 d = 0 then (if v = 0 then 0 else 1) else 1) else v)) U) := by
  unfold f_X9_tests_106 f_X9_tests_130 f_X9_tests_135
  simp (disch := first | assumption | exact inB_n (by omega) (by decide) | exact inB_l (by omega) (by decide) | exact inB_al (by omega) (by decide) | exact inB_la (by omega) (by decide) | exact inB_j (by assumption) (by omega) (by decide) | exact inB_e (by assumption) (by decide) | omega) only [↓eM h, ↓bd_r, ↓lt_r, ↓Option.bind_some, ↓reduceIte, ix_nI, ix_l, nI_al, nI_la, nI_lm, u2_ne, u2_eq, nI_leI, nI_ltI, nI_eq, le_ln, le_nl, lt_ln, lt_nl, eq_nl, eq_ln, p_tests136 h hd]
  by_cases h1 : V 15 d = 27
  · by_cases h2 : V 14 d = 0
    · by_cases h3 : v = 0
      · simp only [if_pos h1, if_pos h2, if_pos h3]
      · simp only [if_pos h1, if_pos h2, if_neg h3]
    · simp only [if_pos h1, if_neg h2]
  · simp only [if_neg h1]
theorem p_tests76 {d : Nat} {v : Int32} {F M : Nat} {S : Mem} {V : Vw} {U : Uw} (h : shM S M) (hd : d < 7) : f_X9_tests_76 F M (nI d) v (wM S M V U) = some ((), wM S M (tstV d V (joinV (V 15 d) (V 14 d) v)) U) := by
  unfold f_X9_tests_76 f_X9_tests_104 f_X9_tests_105 joinV
  simp (disch := first | assumption | exact inB_n (by omega) (by decide) | exact inB_l (by omega) (by decide) | exact inB_al (by omega) (by decide) | exact inB_la (by omega) (by decide) | exact inB_j (by assumption) (by omega) (by decide) | exact inB_e (by assumption) (by decide) | omega) only [↓eM h, ↓bd_r, ↓lt_r, ↓Option.bind_some, ↓reduceIte, ix_nI, ix_l, nI_al, nI_la, nI_lm, u2_ne, u2_eq, nI_leI, nI_ltI, nI_eq, le_ln, le_nl, lt_ln, lt_nl, eq_nl, eq_ln, p_tests106 h hd]
  by_cases h1 : V 15 d = 26
  · have h9 : ¬ V 15 d = 27 := by rw [h1]; decide
    by_cases h2 : V 14 d = 0
    · simp only [if_pos h1, if_pos h2, if_neg h9]
    · by_cases h3 : v = 0
      · simp only [if_pos h1, if_neg h2, if_pos h3, if_neg h9]
      · simp only [if_pos h1, if_neg h2, if_neg h3, if_neg h9]
  · simp only [if_neg h1]
theorem p_tests {d : Nat} {F M : Nat} {S : Mem} {V : Vw} {U : Uw} (h : shM S M) (hd : d < 7) : fn_X9_tests F M (nI d) (wM S M V U) = some ((), wM S M (testsV d V) U) := by
  unfold fn_X9_tests
  simp only [eM h, p_sums h hd, bd_r]
  unfold testsV
  generalize sumsV d V = W
  unfold f_X9_tests_43 f_X9_tests_44 f_X9_tests_75 cmpV
  simp (disch := first | assumption | exact inB_n (by omega) (by decide) | exact inB_l (by omega) (by decide) | exact inB_al (by omega) (by decide) | exact inB_la (by omega) (by decide) | exact inB_j (by assumption) (by omega) (by decide) | exact inB_e (by assumption) (by decide) | omega) only [↓eM h, ↓bd_r, ↓lt_r, ↓Option.bind_some, ↓reduceIte, ix_nI, ix_l, nI_al, nI_la, nI_lm, u2_ne, u2_eq, nI_leI, nI_ltI, nI_eq, le_ln, le_nl, lt_ln, lt_nl, eq_nl, eq_ln, p_tests76 h hd]
  by_cases h1 : W 17 d = 24
  · have h9 : ¬ W 17 d = 25 := by rw [h1]; decide
    by_cases h2 : W 18 d ≤ W 16 d
    · simp only [if_pos h1, if_pos h2, if_neg h9]
    · simp only [if_pos h1, if_neg h2, if_neg h9]
  · by_cases h3 : W 17 d = 25
    · by_cases h2 : W 16 d = W 18 d
      · simp only [if_neg h1, if_pos h2, if_pos h3]
      · simp only [if_neg h1, if_neg h2, if_pos h3]
    · simp only [if_neg h1, if_neg h3]
theorem p_dlv {line i v : Int32} {k14 : Nat → Int32 → Int32 → Int32 → Mem → Option (Int32 × Mem)} {F M : Nat} {S : Mem} {U : Uw} (h : shM S M) : ∀ (d f : Nat) (V : Vw) (v : Int32), d < 7 → d < f →
    fix5 (b_X9_worked_268 F k14) f M line (nI d) i v (wM S M V U) = k14 M line (nI (dlv d V v).1) (i + 1) (wM S M (dlv d V v).2 U) := by
  have fin : ∀ (d : Nat) (V : Vw) (v : Int32), d < 7 → f_X9_worked_300 F k14 M line (nI d) i v (wM S M V U) = k14 M line (nI d) (i + 1) (wM S M (u2 V 20 d (if V 21 d = 0 then v else V 20 d * v)) U) := by
    intro d V v hd
    unfold f_X9_worked_300 f_X9_worked_328 f_X9_worked_329
    simp (disch := first | assumption | exact inB_n (by omega) (by decide) | exact inB_l (by omega) (by decide) | exact inB_al (by omega) (by decide) | exact inB_la (by omega) (by decide) | exact inB_j (by assumption) (by omega) (by decide) | exact inB_e (by assumption) (by decide) | omega) only [↓eM h, ↓bd_r, ↓lt_r, ↓Option.bind_some, ↓reduceIte, ix_nI, ix_l, nI_al, nI_la, nI_lm, u2_ne, u2_eq, nI_leI, nI_ltI, nI_eq, le_ln, le_nl, lt_ln, lt_nl, eq_nl, eq_ln]
    by_cases h1 : V 21 d = 0
    · simp only [if_pos h1]
    · simp only [if_neg h1]
  intro d
  induction d with
  | zero =>
    intro f V v hd hf
    obtain ⟨f, rfl⟩ : ∃ f', f = f' + 1 := ⟨f - 1, by omega⟩
    show b_X9_worked_268 F k14 (fix5 (b_X9_worked_268 F k14) f) M line (nI 0) i v (wM S M V U) = _
    unfold b_X9_worked_268
    rw [if_pos (by decide), fin 0 V v hd]
    rfl
  | succ d ih =>
    intro f V v hd hf
    obtain ⟨f, rfl⟩ : ∃ f', f = f' + 1 := ⟨f - 1, by omega⟩
    show b_X9_worked_268 F k14 (fix5 (b_X9_worked_268 F k14) f) M line (nI (d + 1)) i v (wM S M V U) = _
    have i0 := ih f V 0 (by omega) (by omega)
    have i1 := ih f V 1 (by omega) (by omega)
    generalize fix5 (b_X9_worked_268 F k14) f = k5 at i0 i1 ⊢
    unfold b_X9_worked_268 f_X9_worked_292
    rw [if_neg (nI_nle (by omega) (by omega))]
    have e : nI (d + 1) + (-1 : Int32) = nI d := pk_m1 d
    simp (disch := first | assumption | exact inB_n (by omega) (by decide) | exact inB_l (by omega) (by decide) | exact inB_al (by omega) (by decide) | exact inB_la (by omega) (by decide) | exact inB_j (by assumption) (by omega) (by decide) | exact inB_e (by assumption) (by decide) | omega) only [↓eM h, ↓bd_r, ↓lt_r, ↓Option.bind_some, ↓reduceIte, ix_nI, ix_l, nI_al, nI_la, nI_lm, u2_ne, u2_eq, nI_leI, nI_ltI, nI_eq, le_ln, le_nl, lt_ln, lt_nl, eq_nl, eq_ln, fin (d + 1) V v hd, e, i0, i1]
    have e9 : dlv (d + 1) V v = if V 22 (d + 1) = 1 then dlv d V (if v = 0 then 1 else 0) else (d + 1, u2 V 20 (d + 1) (if V 21 (d + 1) = 0 then v else V 20 (d + 1) * v)) := rfl
    rw [e9]
    by_cases h1 : V 22 (d + 1) = 1
    · by_cases h2 : v = 0
      · simp only [if_pos h1, if_pos h2]
      · simp only [if_pos h1, if_neg h2]
    · simp only [if_neg h1]
theorem dlv_fr : ∀ (d : Nat) (V : Vw) (v : Int32), d < 7 → (dlv d V v).1 < 7 ∧ ∀ j, j < 14 ∨ 22 < j → (dlv d V v).2 j = V j := by
  intro d
  induction d with
  | zero => exact fun V v hd => ⟨(by omega : 0 < 7), fun j hj => u2_row (by omega)⟩
  | succ d ih =>
    intro V v hd
    unfold dlv
    by_cases h1 : V 22 (d + 1) = 1
    · rw [if_pos h1]; exact ih V _ (by omega)
    · rw [if_neg h1]; exact ⟨hd, fun j hj => u2_row (by omega)⟩
theorem tests_fr {d : Nat} {V : Vw} {j : Nat} (hj : j < 14 ∨ 22 < j) : testsV d V j = V j := by
  unfold testsV tstV sumsV
  rw [u2_row (by omega), u2_row (by omega), u2_row (by omega), u2_row (by omega), u2_row (by omega), u2_row (by omega)]
theorem stepW_fr {val : Nat → Int32} {c : Int32} {d d' : Nat} {V V' : Vw} (hd : d < 7) (hs : stepW val c d V = some (d', V')) : d' < 7 ∧ ∀ j, j < 14 ∨ 22 < j → V' j = V j := by
  have sm : ∀ j, j < 14 ∨ 22 < j → sumsV d V j = V j := fun j hj => by
    unfold sumsV; rw [u2_row (by omega), u2_row (by omega)]
  unfold stepW at hs
  split at hs
  · split at hs
    · cases hs
      refine ⟨by omega, fun j hj => ?_⟩
      unfold opensV
      rw [u2_row (by omega), u2_row (by omega), u2_row (by omega), u2_row (by omega), u2_row (by omega), u2_row (by omega)]
    · cases hs
  · split at hs
    · cases hs
      exact ⟨hd, fun j hj => by rw [u2_row (by omega), sm j hj]⟩
    · split at hs
      · cases hs
        exact ⟨hd, fun j hj => by rw [u2_row (by omega)]⟩
      · split at hs
        · cases hs
          refine ⟨hd, fun j hj => ?_⟩
          unfold eqsV
          rw [u2_row (by omega), u2_row (by omega), u2_row (by omega), u2_row (by omega), sm j hj]
        · split at hs
          · cases hs
            exact ⟨hd, fun j hj => by rw [u2_row (by omega), tests_fr hj]⟩
          · split at hs
            · split at hs
              · have e := Option.some.inj hs
                have q := dlv_fr (d - 1) (testsV d V) (testsV d V 14 d) (by omega)
                rw [e] at q
                exact ⟨q.1, fun j hj => (q.2 j hj).trans (tests_fr hj)⟩
              · cases hs
            · split at hs
              · split at hs
                · have e := Option.some.inj hs
                  have q := dlv_fr d V 0 hd
                  rw [e] at q
                  exact q
                · split at hs
                  · have e := Option.some.inj hs
                    have q := dlv_fr d V (val c.toNatClampNeg) hd
                    rw [e] at q
                    exact q
                  · cases hs
              · have e := Option.some.inj hs
                have q := dlv_fr d V (c - 100) hd
                rw [e] at q
                exact q
theorem p_stepW {line i d d' b : Nat} {V' : Vw} {k14 : Nat → Int32 → Int32 → Int32 → Mem → Option (Int32 × Mem)} {F M : Nat} {S : Mem} {V : Vw} {U : Uw} (h : shM S M) (hF : 7 < F) (hl : line < 12) (hb : V 10 line = nI b) (hi : i < b) (hb6 : b ≤ 6000) (hd : d < 7) (hs : stepW (V 23) (V 11 i) d V = some (d', V')) :
    b_X9_worked_14 F k14 M (nI line) (nI d) (nI i) (wM S M V U) = k14 M (nI line) (nI d') (nI (i + 1)) (wM S M V' U) := by
  unfold b_X9_worked_14
  rw [cm_lineTo h, cn_lineTo h hl, hb, if_neg (nI_ge hi (by omega) : ¬ nI b ≤ nI i), cm_codes h, cn_codes h (by omega)]
  generalize V 11 i = c at hs ⊢
  unfold stepW at hs
  have e1 : nI i + (1 : Int32) = nI (i + 1) := nI_1 i
  have e2 : nI d + (1 : Int32) = nI (d + 1) := nI_1 d
  by_cases h28 : c = 28 ∨ c = 30
  · rw [if_pos h28] at hs
    by_cases h6 : d < 6
    · rw [if_pos h6] at hs
      cases hs
      unfold f_X9_worked_46 f_X9_worked_66 f_X9_worked_329
      rcases h28 with rfl | rfl
      · rw [if_pos rfl]
        simp (disch := first | assumption | exact inB_n (by omega) (by decide) | exact inB_l (by omega) (by decide) | exact inB_al (by omega) (by decide) | exact inB_la (by omega) (by decide) | exact inB_j (by assumption) (by omega) (by decide) | exact inB_e (by assumption) (by decide) | omega) only [↓eM h, ↓bd_r, ↓lt_r, ↓Option.bind_some, ↓reduceIte, ix_nI, ix_l, nI_al, nI_la, nI_lm, u2_ne, u2_eq, nI_leI, nI_ltI, nI_eq, le_ln, le_nl, lt_ln, lt_nl, eq_nl, eq_ln, if_neg (by decide : ¬ (28 : Int32) = 30), p_opens h (show d + 1 < 7 by omega)]
      · rw [if_neg (by decide), if_pos rfl]
        simp (disch := first | assumption | exact inB_n (by omega) (by decide) | exact inB_l (by omega) (by decide) | exact inB_al (by omega) (by decide) | exact inB_la (by omega) (by decide) | exact inB_j (by assumption) (by omega) (by decide) | exact inB_e (by assumption) (by decide) | omega) only [↓eM h, ↓bd_r, ↓lt_r, ↓Option.bind_some, ↓reduceIte, ix_nI, ix_l, nI_al, nI_la, nI_lm, u2_ne, u2_eq, nI_leI, nI_ltI, nI_eq, le_ln, le_nl, lt_ln, lt_nl, eq_nl, eq_ln, p_opens h (show d + 1 < 7 by omega)]
    · rw [if_neg h6] at hs; cases hs
  rw [if_neg h28] at hs
  rw [if_neg (fun q => h28 (Or.inl q)), if_neg (fun q => h28 (Or.inr q))]
  by_cases h20 : c = 20 ∨ c = 21
  · rw [if_pos h20] at hs
    cases hs
    unfold f_X9_worked_89 f_X9_worked_329
    rcases h20 with rfl | rfl
    · rw [if_pos rfl]
      simp (disch := first | assumption | exact inB_n (by omega) (by decide) | exact inB_l (by omega) (by decide) | exact inB_al (by omega) (by decide) | exact inB_la (by omega) (by decide) | exact inB_j (by assumption) (by omega) (by decide) | exact inB_e (by assumption) (by decide) | omega) only [↓eM h, ↓bd_r, ↓lt_r, ↓Option.bind_some, ↓reduceIte, ix_nI, ix_l, nI_al, nI_la, nI_lm, u2_ne, u2_eq, nI_leI, nI_ltI, nI_eq, le_ln, le_nl, lt_ln, lt_nl, eq_nl, eq_ln, p_sums h hd]
    · rw [if_neg (by decide), if_pos rfl]
      simp (disch := first | assumption | exact inB_n (by omega) (by decide) | exact inB_l (by omega) (by decide) | exact inB_al (by omega) (by decide) | exact inB_la (by omega) (by decide) | exact inB_j (by assumption) (by omega) (by decide) | exact inB_e (by assumption) (by decide) | omega) only [↓eM h, ↓bd_r, ↓lt_r, ↓Option.bind_some, ↓reduceIte, ix_nI, ix_l, nI_al, nI_la, nI_lm, u2_ne, u2_eq, nI_leI, nI_ltI, nI_eq, le_ln, le_nl, lt_ln, lt_nl, eq_nl, eq_ln, p_sums h hd]
  rw [if_neg h20] at hs
  rw [if_neg (fun q => h20 (Or.inl q)), if_neg (fun q => h20 (Or.inr q))]
  by_cases h22 : c = 22
  · rw [if_pos h22] at hs
    cases hs
    rw [if_pos h22]
    unfold f_X9_worked_329
    simp (disch := first | assumption | exact inB_n (by omega) (by decide) | exact inB_l (by omega) (by decide) | exact inB_al (by omega) (by decide) | exact inB_la (by omega) (by decide) | exact inB_j (by assumption) (by omega) (by decide) | exact inB_e (by assumption) (by decide) | omega) only [↓eM h, ↓bd_r, ↓lt_r, ↓Option.bind_some, ↓reduceIte, ix_nI, ix_l, nI_al, nI_la, nI_lm, u2_ne, u2_eq, nI_leI, nI_ltI, nI_eq, le_ln, le_nl, lt_ln, lt_nl, eq_nl, eq_ln]
  rw [if_neg h22] at hs ⊢
  by_cases h24 : c = 24 ∨ c = 25
  · rw [if_pos h24] at hs
    cases hs
    unfold f_X9_worked_137 f_X9_worked_329 eqsV
    rcases h24 with rfl | rfl
    · rw [if_pos rfl]
      simp (disch := first | assumption | exact inB_n (by omega) (by decide) | exact inB_l (by omega) (by decide) | exact inB_al (by omega) (by decide) | exact inB_la (by omega) (by decide) | exact inB_j (by assumption) (by omega) (by decide) | exact inB_e (by assumption) (by decide) | omega) only [↓eM h, ↓bd_r, ↓lt_r, ↓Option.bind_some, ↓reduceIte, ix_nI, ix_l, nI_al, nI_la, nI_lm, u2_ne, u2_eq, nI_leI, nI_ltI, nI_eq, le_ln, le_nl, lt_ln, lt_nl, eq_nl, eq_ln, p_sums h hd]
    · rw [if_neg (by decide), if_pos rfl]
      simp (disch := first | assumption | exact inB_n (by omega) (by decide) | exact inB_l (by omega) (by decide) | exact inB_al (by omega) (by decide) | exact inB_la (by omega) (by decide) | exact inB_j (by assumption) (by omega) (by decide) | exact inB_e (by assumption) (by decide) | omega) only [↓eM h, ↓bd_r, ↓lt_r, ↓Option.bind_some, ↓reduceIte, ix_nI, ix_l, nI_al, nI_la, nI_lm, u2_ne, u2_eq, nI_leI, nI_ltI, nI_eq, le_ln, le_nl, lt_ln, lt_nl, eq_nl, eq_ln, p_sums h hd]
  rw [if_neg h24] at hs
  rw [if_neg (fun q => h24 (Or.inl q)), if_neg (fun q => h24 (Or.inr q))]
  by_cases h26 : c = 26 ∨ c = 27
  · rw [if_pos h26] at hs
    cases hs
    unfold f_X9_worked_194 f_X9_worked_329
    rcases h26 with rfl | rfl
    · rw [if_pos rfl]
      simp (disch := first | assumption | exact inB_n (by omega) (by decide) | exact inB_l (by omega) (by decide) | exact inB_al (by omega) (by decide) | exact inB_la (by omega) (by decide) | exact inB_j (by assumption) (by omega) (by decide) | exact inB_e (by assumption) (by decide) | omega) only [↓eM h, ↓bd_r, ↓lt_r, ↓Option.bind_some, ↓reduceIte, ix_nI, ix_l, nI_al, nI_la, nI_lm, u2_ne, u2_eq, nI_leI, nI_ltI, nI_eq, le_ln, le_nl, lt_ln, lt_nl, eq_nl, eq_ln, p_tests h hd]
    · rw [if_neg (by decide), if_pos rfl]
      simp (disch := first | assumption | exact inB_n (by omega) (by decide) | exact inB_l (by omega) (by decide) | exact inB_al (by omega) (by decide) | exact inB_la (by omega) (by decide) | exact inB_j (by assumption) (by omega) (by decide) | exact inB_e (by assumption) (by decide) | omega) only [↓eM h, ↓bd_r, ↓lt_r, ↓Option.bind_some, ↓reduceIte, ix_nI, ix_l, nI_al, nI_la, nI_lm, u2_ne, u2_eq, nI_leI, nI_ltI, nI_eq, le_ln, le_nl, lt_ln, lt_nl, eq_nl, eq_ln, p_tests h hd]
  rw [if_neg h26] at hs
  rw [if_neg (fun q => h26 (Or.inl q)), if_neg (fun q => h26 (Or.inr q))]
  have fin : ∀ (d0 : Nat) (W : Vw) (v : Int32), d0 < 7 → some (dlv d0 W v) = some (d', V') → fix5 (b_X9_worked_268 F k14) F M (nI line) (nI d0) (nI i) v (wM S M W U) = k14 M (nI line) (nI d') (nI (i + 1)) (wM S M V' U) := by
    intro d0 W v h0 e
    rw [p_dlv h (v := v) d0 F W v h0 (by omega), Option.some.inj e, e1]
  by_cases h29 : c = 29
  · rw [if_pos h29] at hs
    by_cases hp : 0 < d
    · rw [if_pos hp] at hs
      have e3 : nI d + (-1 : Int32) = nI (d - 1) := by
        obtain ⟨d0, rfl⟩ : ∃ d0, d = d0 + 1 := ⟨d - 1, by omega⟩
        exact pk_m1 d0
      subst h29
      rw [if_pos (by decide), if_pos (by decide)]
      unfold f_X9_worked_243
      rw [if_pos rfl]
      simp (disch := first | assumption | exact inB_n (by omega) (by decide) | exact inB_l (by omega) (by decide) | exact inB_al (by omega) (by decide) | exact inB_la (by omega) (by decide) | exact inB_j (by assumption) (by omega) (by decide) | exact inB_e (by assumption) (by decide) | omega) only [↓eM h, ↓bd_r, ↓lt_r, ↓Option.bind_some, ↓reduceIte, ix_nI, ix_l, nI_al, nI_la, nI_lm, u2_ne, u2_eq, nI_leI, nI_ltI, nI_eq, le_ln, le_nl, lt_ln, lt_nl, eq_nl, eq_ln, p_tests h hd, e3]
      exact fin _ _ _ (by omega) hs
    · rw [if_neg hp] at hs; cases hs
  rw [if_neg h29] at hs
  unfold f_X9_worked_243
  by_cases h100 : c < 100
  · rw [if_pos h100] at hs ⊢
    by_cases h20' : 20 ≤ c
    · rw [if_pos h20'] at hs ⊢
      rw [if_neg h29]
      exact fin _ _ _ hd hs
    · rw [if_neg h20'] at hs ⊢
      by_cases hin : inB c 20
      · rw [if_pos hin] at hs
        simp (disch := first | assumption | exact inB_n (by omega) (by decide) | exact inB_l (by omega) (by decide) | exact inB_al (by omega) (by decide) | exact inB_la (by omega) (by decide) | exact inB_j (by assumption) (by omega) (by decide) | exact inB_e (by assumption) (by decide) | omega) only [↓eM h, ↓bd_r, ↓lt_r, ↓Option.bind_some, ↓reduceIte, ix_nI, ix_l, nI_al, nI_la, nI_lm, u2_ne, u2_eq, nI_leI, nI_ltI, nI_eq, le_ln, le_nl, lt_ln, lt_nl, eq_nl, eq_ln, if_neg h29]
        exact fin _ _ _ hd hs
      · rw [if_neg hin] at hs; cases hs
  · rw [if_neg h100] at hs ⊢
    rw [if_neg h29]
    exact fin _ _ _ hd hs
theorem p_workedL {line b : Nat} {F M : Nat} {S : Mem} {U : Uw} (h : shM S M) (hF : 7 < F) (hl : line < 12) (hb6 : b ≤ 6000) (cd val : Nat → Int32) : ∀ (n i d f : Nat) (V : Vw) (d' : Nat) (V' : Vw), d < 7 → i + n = b → n < f → V 10 line = nI b → V 11 = cd → V 23 = val → wkRun cd val n i d V = some (d', V') →
    fix4 (b_X9_worked_14 F) f M (nI line) (nI d) (nI i) (wM S M V U) = some (testsV 0 V' 14 0, wM S M (testsV 0 V') U) ∧ ∀ j, j < 14 ∨ 22 < j → V' j = V j := by
  intro n
  induction n with
  | zero =>
    intro i d f V d' V' hd hi hf hb hc hv hr
    obtain ⟨f, rfl⟩ : ∃ f', f = f' + 1 := ⟨f - 1, by omega⟩
    obtain rfl : i = b := by omega
    cases hr
    refine ⟨?_, fun _ _ => rfl⟩
    show b_X9_worked_14 F (fix4 (b_X9_worked_14 F) f) M (nI line) (nI d) (nI i) (wM S M V U) = _
    unfold b_X9_worked_14
    have e0 : fn_X9_tests F M (0 : Int32) (wM S M V U) = some ((), wM S M (testsV 0 V) U) := p_tests h (d := 0) (by omega)
    rw [cm_lineTo h, cn_lineTo h hl, hb, if_pos (Int32.le_refl (nI i)), cm_cal h, e0]
    simp (disch := first | assumption | exact inB_n (by omega) (by decide) | exact inB_l (by omega) (by decide) | exact inB_al (by omega) (by decide) | exact inB_la (by omega) (by decide) | exact inB_j (by assumption) (by omega) (by decide) | exact inB_e (by assumption) (by decide) | omega) only [↓eM h, ↓bd_r, ↓lt_r, ↓Option.bind_some, ↓reduceIte, ix_nI, ix_l, nI_al, nI_la, nI_lm, u2_ne, u2_eq, nI_leI, nI_ltI, nI_eq, le_ln, le_nl, lt_ln, lt_nl, eq_nl, eq_ln]
  | succ n ih =>
    intro i d f V d' V' hd hi hf hb hc hv hr
    obtain ⟨f, rfl⟩ : ∃ f', f = f' + 1 := ⟨f - 1, by omega⟩
    unfold wkRun at hr
    cases hs : stepW val (cd i) d V with
    | none => rw [hs] at hr; cases hr
    | some q =>
      obtain ⟨d1, V1⟩ := q
      rw [hs] at hr
      have hr : wkRun cd val n (i + 1) d1 V1 = some (d', V') := hr
      have fr := stepW_fr hd hs
      subst hc hv
      have q := ih (i + 1) d1 f V1 d' V' fr.1 (by omega) (by omega) (by rw [fr.2 10 (by omega)]; exact hb) (fr.2 11 (by omega)) (fr.2 23 (by omega)) hr
      refine ⟨?_, fun j hj => (q.2 j hj).trans (fr.2 j hj)⟩
      show b_X9_worked_14 F (fix4 (b_X9_worked_14 F) f) M (nI line) (nI d) (nI i) (wM S M V U) = _
      rw [p_stepW h hF hl hb (by omega) hb6 hd hs]
      exact q.1
/-- the codes of a law stand for a function of its facts -/
def lawM (cd : Nat → Int32) (a b : Nat) (f : (Nat → Int32) → Int32) : Prop := a ≤ b ∧ ∀ (val : Nat → Int32) (V : Vw), ∃ d V', wkRun cd val (b - a) a 0 (opensV 0 V) = some (d, V') ∧ testsV 0 V' 14 0 = f val
theorem p_worked {line a b : Nat} {f : (Nat → Int32) → Int32} {F M : Nat} {S : Mem} {V : Vw} {U : Uw} (h : shM S M) (hF : 6007 < F) (hl : line < 12) (ha : V 9 line = nI a) (hb : V 10 line = nI b) (hb6 : b ≤ 6000) (hf : lawM (V 11) a b f) :
    ∃ V', fn_X9_worked F M (nI line) (wM S M V U) = some (f (V 23), wM S M V' U) ∧ ∀ j, j < 14 ∨ 22 < j → V' j = V j := by
  obtain ⟨d, V', hr, hv⟩ := hf.2 (V 23) V
  have ofr : ∀ j, j < 14 ∨ 22 < j → opensV 0 V j = V j := fun j hj => by
    unfold opensV
    rw [u2_row (by omega), u2_row (by omega), u2_row (by omega), u2_row (by omega), u2_row (by omega)]
  have q := p_workedL h (U := U) (by omega : 7 < F) hl hb6 (V 11) (V 23) (b - a) a 0 F (opensV 0 V) d V' (by omega) (by have := hf.1; omega) (by omega) (by rw [ofr 10 (by omega)]; exact hb) (ofr 11 (by omega)) (ofr 23 (by omega)) hr
  refine ⟨testsV 0 V', ?_, fun j hj => (tests_fr hj).trans ((q.2 j hj).trans (ofr j hj))⟩
  unfold fn_X9_worked
  have e0 : fn_X9_opens F M (0 : Int32) (wM S M V U) = some ((), wM S M (opensV 0 V) U) := p_opens h (d := 0) (by omega)
  simp (disch := first | assumption | exact inB_n (by omega) (by decide) | exact inB_l (by omega) (by decide) | exact inB_al (by omega) (by decide) | exact inB_la (by omega) (by decide) | exact inB_j (by assumption) (by omega) (by decide) | exact inB_e (by assumption) (by decide) | omega) only [↓eM h, ↓bd_r, ↓lt_r, ↓Option.bind_some, ↓reduceIte, ix_nI, ix_l, nI_al, nI_la, nI_lm, u2_ne, u2_eq, nI_leI, nI_ltI, nI_eq, le_ln, le_nl, lt_ln, lt_nl, eq_nl, eq_ln, e0, ofr 9 (Or.inl (by decide)), ha]
  rw [← hv]
  exact q.1
