/-! the class's Cutter -/
def tx (V : Vw) (X : Tp) : Prop := ∀ i, i < X.1 → V 7 i = nI (X.2 i)
def f9 (V V' : Vw) : Prop := (∀ j, j ≠ 9 → V' j = V j) ∧ V' 9 2 = V 9 2
def u9 (U U' : Uw) : Prop := ∀ j, j ≠ 9 → U' j = U j
theorem f9.rf {V : Vw} : f9 V V := ⟨fun _ _ => rfl, rfl⟩
theorem f9.tr {V V' V'' : Vw} (a : f9 V V') (b : f9 V' V'') : f9 V V'' := ⟨fun j hj => (b.1 j hj).trans (a.1 j hj), b.2.trans a.2⟩
theorem u9.rf {U : Uw} : u9 U U := fun _ _ => rfl
theorem u9.tr {U U' U'' : Uw} (a : u9 U U') (b : u9 U' U'') : u9 U U'' := fun j hj => (b j hj).trans (a j hj)
theorem f9.u {V : Vw} {k : Nat} {v : Int32} (h : k ≠ 2) : f9 V (u2 V 9 k v) := ⟨fun j hj => u2_row hj, u2_ne (Or.inr (fun q => h q.symm))⟩
theorem u9.u {U : Uw} {k : Nat} {v : Int64} : u9 U (u2 U 9 k v) := fun j hj => u2_row hj
theorem tx.keep {V V' : Vw} {X : Tp} (h : tx V X) (e : f9 V V') : tx V' X := fun i hi => by rw [e.1 7 (by omega)]; exact h i hi
def cL (X : Tp) (p : Nat) (V : Vw) (U : Uw) : Prop := V 9 2 = nI X.1 ∧ V 9 3 = nI (lE X p) ∧ V 9 4 = nI (lB X p) ∧ V 9 5 = nI (lT X p) ∧ (lT X p = 26 → V 9 6 = nI (lV X p)) ∧ (lT X p ≤ 25 → U 9 7 = lN (lW X p))
def wds (U : Uw) : Prop := ∀ i, i < 25 → U 11 i = lN (W5.getD i 0)
theorem c_isLetter {F c : Nat} {S : Mem} (hc : c < 2 ^ 31) : fn_X1_isLetter F (nI c) S = some (b1 (isLt c), S) := by
  unfold fn_X1_isLetter f_X1_isLetter_16 f_X1_isLetter_17 isLt
  by_cases h1 : c < 97
  · rw [if_pos ((lt_nl (m := 97) (by decide) hc).mpr h1), decide_eq_false (by omega), rz_0]; rfl
  · rw [if_neg (fun q => h1 ((lt_nl (m := 97) (by decide) hc).mp q)), decide_eq_true (by omega)]
    by_cases h2 : 122 < c
    · rw [if_pos ((lt_ln (m := 122) (by decide) hc).mpr h2), decide_eq_false (by omega), rz_0]; rfl
    · rw [if_neg (fun q => h2 ((lt_ln (m := 122) (by decide) hc).mp q)), decide_eq_true (by omega), rz_1]; rfl
theorem c_isDigit {F c : Nat} {S : Mem} (hc : c < 2 ^ 31) : fn_X1_isDigit F (nI c) S = some (b1 (isDg c), S) := by
  unfold fn_X1_isDigit f_X1_isDigit_16 f_X1_isDigit_17 isDg
  by_cases h1 : c < 48
  · rw [if_pos ((lt_nl (m := 48) (by decide) hc).mpr h1), decide_eq_false (by omega), rz_0]; rfl
  · rw [if_neg (fun q => h1 ((lt_nl (m := 48) (by decide) hc).mp q)), decide_eq_true (by omega)]
    by_cases h2 : 57 < c
    · rw [if_pos ((lt_ln (m := 57) (by decide) hc).mpr h2), decide_eq_false (by omega), rz_0]; rfl
    · rw [if_neg (fun q => h2 ((lt_ln (m := 57) (by decide) hc).mp q)), decide_eq_true (by omega), rz_1]; rfl
theorem c_ofSign {F c : Nat} {S : Mem} (hc : c < 2 ^ 31) : fn_X7_ofSign F (nI c) S = some (nI (sgT c), S) := by
  unfold fn_X7_ofSign sgT
  by_cases h0 : c = 40
  · rw [if_pos (show nI c = (40 : Int32) from (eq_nl (m := 40) (by decide) (by omega)).mpr h0), if_pos h0]
    rfl
  rw [if_neg (show ¬ nI c = (40 : Int32) from fun q => h0 ((eq_nl (m := 40) (by decide) (by omega)).mp q)), if_neg h0]
  by_cases h1 : c = 41
  · rw [if_pos (show nI c = (41 : Int32) from (eq_nl (m := 41) (by decide) (by omega)).mpr h1), if_pos h1]
    rfl
  rw [if_neg (show ¬ nI c = (41 : Int32) from fun q => h1 ((eq_nl (m := 41) (by decide) (by omega)).mp q)), if_neg h1]
  by_cases h2 : c = 42
  · rw [if_pos (show nI c = (42 : Int32) from (eq_nl (m := 42) (by decide) (by omega)).mpr h2), if_pos h2]
    rfl
  rw [if_neg (show ¬ nI c = (42 : Int32) from fun q => h2 ((eq_nl (m := 42) (by decide) (by omega)).mp q)), if_neg h2]
  by_cases h3 : c = 43
  · rw [if_pos (show nI c = (43 : Int32) from (eq_nl (m := 43) (by decide) (by omega)).mpr h3), if_pos h3]
    rfl
  rw [if_neg (show ¬ nI c = (43 : Int32) from fun q => h3 ((eq_nl (m := 43) (by decide) (by omega)).mp q)), if_neg h3]
  by_cases h4 : c = 45
  · rw [if_pos (show nI c = (45 : Int32) from (eq_nl (m := 45) (by decide) (by omega)).mpr h4), if_pos h4]
    rfl
  rw [if_neg (show ¬ nI c = (45 : Int32) from fun q => h4 ((eq_nl (m := 45) (by decide) (by omega)).mp q)), if_neg h4]
  by_cases h5 : c = 59
  · rw [if_pos (show nI c = (59 : Int32) from (eq_nl (m := 59) (by decide) (by omega)).mpr h5), if_pos h5]
    rfl
  rw [if_neg (show ¬ nI c = (59 : Int32) from fun q => h5 ((eq_nl (m := 59) (by decide) (by omega)).mp q)), if_neg h5]
  by_cases h6 : c = 60
  · rw [if_pos (show nI c = (60 : Int32) from (eq_nl (m := 60) (by decide) (by omega)).mpr h6), if_pos h6]
    rfl
  rw [if_neg (show ¬ nI c = (60 : Int32) from fun q => h6 ((eq_nl (m := 60) (by decide) (by omega)).mp q)), if_neg h6]
  by_cases h7 : c = 61
  · rw [if_pos (show nI c = (61 : Int32) from (eq_nl (m := 61) (by decide) (by omega)).mpr h7), if_pos h7]
    rfl
  rw [if_neg (show ¬ nI c = (61 : Int32) from fun q => h7 ((eq_nl (m := 61) (by decide) (by omega)).mp q)), if_neg h7]
  simp only [ite_self]
  rfl
theorem lN_or5 {a y : Nat} (ha : a * 32 + y < 2 ^ 64) (hy : y < 32) : lN (a * 32) ||| lN y = lN (a * 32 + y) := by
  apply lN_of
  show ((lN (a * 32)).toBitVec ||| (lN y).toBitVec).toNat = _
  rw [BitVec.toNat_or]
  show nL (lN (a * 32)) ||| nL (lN y) = _
  rw [nL_lN (by omega), nL_lN (by omega)]
  have := Nat.shiftLeft_add_eq_or_of_lt (i := 5) (show y < 2 ^ 5 by omega) a
  rw [Nat.shiftLeft_eq] at this
  exact this.symm
theorem sh5 : ((((5 : Int32)).toInt64 &&& 63).toBitVec.smod 64).toNat = 5 := by decide
theorem c_withLetter {F a c : Nat} {S : Mem} (ha : a < 2 ^ 40) (hc : 97 ≤ c ∧ c ≤ 122) : fn_X1_withLetter F (lN a) (nI c) S = some (lN (a * 32 + (c - 96)), S) := by
  unfold fn_X1_withLetter
  have e1 : nI c - (97 : Int32) = nI (c - 97) := pk_sub (b := 97) hc.1
  have e2 : nI (c - 97) + (1 : Int32) = nI (c - 96) := by rw [nI_1]; congr 1; omega
  rw [e1, e2, nI_l (by omega), lN_shl (k := 5) _ sh5 (by omega), show a * 2 ^ 5 = a * 32 from rfl, lN_or5 (by omega) (by omega)]
theorem c_skip {X : Tp} {F C : Nat} {S : Mem} {U : Uw} {D : Dw} (h : shC S C) (hX : okTp X) (hD : D 9 0 = C + 7) : ∀ (d p f : Nat) (V : Vw), p + d = X.1 → d < f → V 9 2 = nI X.1 → V 9 3 = nI p → tx V X →
    ∃ V', fix1 (b_X1_step_0 F) f (C + 9) (wC S C V U D) = f_X1_step_52 F (C + 9) (wC S C V' U D) ∧ f9 V V' ∧ V' 9 3 = nI (rnE isBl X.2 d p) := by
  have h1 := hX.1
  intro d
  induction d with
  | zero =>
    intro p f V hp hf h2 h3 ht
    obtain ⟨f, rfl⟩ : ∃ f', f = f' + 1 := ⟨f - 1, by omega⟩
    refine ⟨V, ?_, f9.rf, h3⟩
    show b_X1_step_0 F (fix1 (b_X1_step_0 F) f) (C + 9) (wC S C V U D) = _
    unfold b_X1_step_0
    simp (disch := first | assumption | exact inB_n (by omega) (by decide) | exact inB_l (by omega) (by decide) | exact inB_al (by omega) (by decide) | exact inB_la (by omega) (by decide) | exact inB_j (by assumption) (by omega) (by decide) | exact inB_e (by assumption) (by decide) | omega) only [↓eC h, ↓bd_r, ↓lt_r, ↓Option.bind_some, ↓reduceIte, ix_nI, ix_l, nI_al, nI_la, nI_lm, u2_ne, u2_eq, nI_leI, nI_ltI, nI_eq, le_ln, le_nl, lt_ln, lt_nl, eq_nl, eq_ln, h2, h3, if_pos (show X.1 ≤ p by omega)]
  | succ d ih =>
    intro p f V hp hf h2 h3 ht
    obtain ⟨f, rfl⟩ : ∃ f', f = f' + 1 := ⟨f - 1, by omega⟩
    have ih := fun V => ih (p + 1) f V (by omega) (by omega)
    show ∃ V', b_X1_step_0 F (fix1 (b_X1_step_0 F) f) (C + 9) (wC S C V U D) = _ ∧ _
    generalize fix1 (b_X1_step_0 F) f = k0 at ih ⊢
    have hc := okTape_le (hX.2 p (by omega))
    have e7 := ht p (by omega)
    have i7 : inB (nI p) 1000 := inB_n (by omega) (by decide)
    unfold b_X1_step_0 f_X1_step_39
    simp (disch := first | assumption | exact inB_n (by omega) (by decide) | exact inB_l (by omega) (by decide) | exact inB_al (by omega) (by decide) | exact inB_la (by omega) (by decide) | exact inB_j (by assumption) (by omega) (by decide) | exact inB_e (by assumption) (by decide) | omega) only [↓eC h, ↓bd_r, ↓lt_r, ↓Option.bind_some, ↓reduceIte, ix_nI, ix_l, nI_al, nI_la, nI_lm, u2_ne, u2_eq, nI_leI, nI_ltI, nI_eq, le_ln, le_nl, lt_ln, lt_nl, eq_nl, eq_ln, hD, h2, h3, if_neg (show ¬ X.1 ≤ p by omega), e7]
    have go : isBl (X.2 p) = true → ∃ V', k0 (C + 9) (wC S C (u2 V 9 3 (nI (p + 1))) U D) = f_X1_step_52 F (C + 9) (wC S C V' U D) ∧ f9 V V' ∧ V' 9 3 = nI (rnE isBl X.2 (d + 1) p) := by
      intro hb
      obtain ⟨V', a1, a2, a3⟩ := ih (u2 V 9 3 (nI (p + 1))) (by rw [u2_ne (by omega)]; exact h2) (u2_eq ⟨rfl, rfl⟩) (ht.keep (f9.u (by omega)))
      refine ⟨V', a1, (f9.u (by omega)).tr a2, ?_⟩
      rw [a3]
      conv => rhs; unfold rnE
      rw [if_pos hb]
    by_cases h32 : X.2 p = 32
    · rw [if_pos h32]
      exact go (isBl_iff.mpr (Or.inl h32))
    · rw [if_neg h32]
      by_cases h10 : X.2 p = 10
      · rw [if_pos h10]
        exact go (isBl_iff.mpr (Or.inr h10))
      · rw [if_neg h10]
        refine ⟨V, rfl, f9.rf, ?_⟩
        rw [h3]
        unfold rnE
        rw [if_neg (fun q => by exact (isBl_iff.mp q).elim h32 h10)]
theorem c_wordL {X : Tp} {b : Nat} {F C : Nat} {S : Mem} {D : Dw} (h : shC S C) (hX : okTp X) (hD : D 9 0 = C + 7) : ∀ (d p f : Nat) (V : Vw) (U : Uw), p + d = X.1 → b ≤ p → d < f → V 9 2 = nI X.1 → V 9 3 = nI p → V 9 4 = nI b → tx V X → (∀ j, j < p - b → isLt (X.2 (b + j)) = true) → (p - b ≤ 8 → U 9 7 = lN (w5 X.2 b (p - b))) →
    ∃ V' U', fix1 (b_X1_stepWord_5 F) f (C + 9) (wC S C V U D) = f_X1_stepWord_64 F (C + 9) (wC S C V' U' D) ∧ f9 V V' ∧ u9 U U' ∧ V' 9 3 = nI (rnE isLt X.2 d p) ∧ V' 9 4 = nI b ∧ (rnE isLt X.2 d p - b ≤ 8 → U' 9 7 = lN (w5 X.2 b (rnE isLt X.2 d p - b))) := by
  have h1 := hX.1
  intro d
  induction d with
  | zero =>
    intro p f V U hp hbp hf h2 h3 h4 ht hl hw
    obtain ⟨f, rfl⟩ : ∃ f', f = f' + 1 := ⟨f - 1, by omega⟩
    refine ⟨V, U, ?_, f9.rf, u9.rf, h3, h4, hw⟩
    show b_X1_stepWord_5 F (fix1 (b_X1_stepWord_5 F) f) (C + 9) (wC S C V U D) = _
    unfold b_X1_stepWord_5
    simp (disch := first | assumption | exact inB_n (by omega) (by decide) | exact inB_l (by omega) (by decide) | exact inB_al (by omega) (by decide) | exact inB_la (by omega) (by decide) | exact inB_j (by assumption) (by omega) (by decide) | exact inB_e (by assumption) (by decide) | omega) only [↓eC h, ↓bd_r, ↓lt_r, ↓Option.bind_some, ↓reduceIte, ix_nI, ix_l, nI_al, nI_la, nI_lm, u2_ne, u2_eq, nI_leI, nI_ltI, nI_eq, le_ln, le_nl, lt_ln, lt_nl, eq_nl, eq_ln, h2, h3, if_pos (show X.1 ≤ p by omega)]
  | succ d ih =>
    intro p f V U hp hbp hf h2 h3 h4 ht hl hw
    obtain ⟨f, rfl⟩ : ∃ f', f = f' + 1 := ⟨f - 1, by omega⟩
    have ih := fun V U => ih (p + 1) f V U (by omega) (by omega) (by omega)
    show ∃ V' U', b_X1_stepWord_5 F (fix1 (b_X1_stepWord_5 F) f) (C + 9) (wC S C V U D) = _ ∧ _
    generalize fix1 (b_X1_stepWord_5 F) f = k5 at ih ⊢
    have hc := okTape_le (hX.2 p (by omega))
    have e7 := ht p (by omega)
    have i7 : inB (nI p) 1000 := inB_n (by omega) (by decide)
    have el : ∀ S, fn_X1_isLetter F (nI (X.2 p)) S = some (b1 (isLt (X.2 p)), S) := fun S => c_isLetter (by omega)
    unfold b_X1_stepWord_5
    simp (disch := first | assumption | exact inB_n (by omega) (by decide) | exact inB_l (by omega) (by decide) | exact inB_al (by omega) (by decide) | exact inB_la (by omega) (by decide) | exact inB_j (by assumption) (by omega) (by decide) | exact inB_e (by assumption) (by decide) | omega) only [↓eC h, ↓bd_r, ↓lt_r, ↓Option.bind_some, ↓reduceIte, ix_nI, ix_l, nI_al, nI_la, nI_lm, u2_ne, u2_eq, nI_leI, nI_ltI, nI_eq, le_ln, le_nl, lt_ln, lt_nl, eq_nl, eq_ln, hD, h2, h3, if_neg (show ¬ X.1 ≤ p by omega), e7, el]
    cases hb : isLt (X.2 p) with
    | false =>
      rw [if_pos (show b1 false = 0 from rfl)]
      have e : rnE isLt X.2 (d + 1) p = p := by unfold rnE; rw [if_neg (by rw [hb]; decide)]
      rw [e]
      exact ⟨V, U, rfl, f9.rf, u9.rf, h3, h4, hw⟩
    | true =>
      rw [if_neg (show ¬ b1 true = 0 by decide)]
      have e : rnE isLt X.2 (d + 1) p = rnE isLt X.2 d (p + 1) := by conv => lhs; unfold rnE
                                                                     rw [if_pos hb]
      rw [e]
      have hcc := isLt_iff.mp hb
      have hl' : ∀ j, j < p + 1 - b → isLt (X.2 (b + j)) = true := fun j hj => by
        by_cases hj2 : j = p - b
        · subst hj2; rw [show b + (p - b) = p by omega]; exact hb
        · exact hl j (by omega)
      by_cases h8 : p - b ≤ 7
      · have hlt := (w5_lt (T := X.2) (b := b) (p - b) hl).1
        have hlt : w5 X.2 b (p - b) < 2 ^ 40 := Nat.lt_of_lt_of_le hlt (Nat.le_trans (Nat.pow_le_pow_right (by decide) (show p - b ≤ 8 by omega)) (by decide : 32 ^ 8 ≤ 2 ^ 40))
        have ew : ∀ S, fn_X1_withLetter F (lN (w5 X.2 b (p - b))) (nI (X.2 p)) S = _ := fun S => c_withLetter hlt hcc
        simp (disch := first | assumption | exact inB_n (by omega) (by decide) | exact inB_l (by omega) (by decide) | exact inB_al (by omega) (by decide) | exact inB_la (by omega) (by decide) | exact inB_j (by assumption) (by omega) (by decide) | exact inB_e (by assumption) (by decide) | omega) only [↓eC h, ↓bd_r, ↓lt_r, ↓Option.bind_some, ↓reduceIte, ix_nI, ix_l, nI_al, nI_la, nI_lm, u2_ne, u2_eq, nI_leI, nI_ltI, nI_eq, le_ln, le_nl, lt_ln, lt_nl, eq_nl, eq_ln, h3, hw (by omega), ew]
        have e5 : w5 X.2 b (p - b) * 32 + (X.2 p - 96) = w5 X.2 b (p + 1 - b) := by
          rw [show p + 1 - b = (p - b) + 1 by omega]
          show _ = w5 X.2 b (p - b) * 32 + (X.2 (b + (p - b)) - 96)
          rw [show b + (p - b) = p by omega]
        rw [e5]
        obtain ⟨V', U', a1, a2, a3, a4, a5, a6⟩ := ih (u2 V 9 3 (nI (p + 1))) (u2 U 9 7 (lN (w5 X.2 b (p + 1 - b)))) (by rw [u2_ne (by omega)]; exact h2) (u2_eq ⟨rfl, rfl⟩) (by rw [u2_ne (by omega)]; exact h4) (ht.keep (f9.u (by omega))) hl' (fun _ => u2_eq ⟨rfl, rfl⟩)
        exact ⟨V', U', a1, (f9.u (by omega)).tr a2, u9.u.tr a3, a4, a5, a6⟩
      · have ew : ∀ (y : Int64) S, fn_X1_withLetter F y (nI (X.2 p)) S = some (_, S) := fun y S => rfl
        simp (disch := first | assumption | exact inB_n (by omega) (by decide) | exact inB_l (by omega) (by decide) | exact inB_al (by omega) (by decide) | exact inB_la (by omega) (by decide) | exact inB_j (by assumption) (by omega) (by decide) | exact inB_e (by assumption) (by decide) | omega) only [↓eC h, ↓bd_r, ↓lt_r, ↓Option.bind_some, ↓reduceIte, ix_nI, ix_l, nI_al, nI_la, nI_lm, u2_ne, u2_eq, nI_leI, nI_ltI, nI_eq, le_ln, le_nl, lt_ln, lt_nl, eq_nl, eq_ln, h3, ew]
        obtain ⟨V', U', a1, a2, a3, a4, a5, a6⟩ := ih (u2 V 9 3 (nI (p + 1))) (u2 U 9 7 _) (by rw [u2_ne (by omega)]; exact h2) (u2_eq ⟨rfl, rfl⟩) (by rw [u2_ne (by omega)]; exact h4) (ht.keep (f9.u (by omega))) hl' (fun q => absurd q (by omega))
        exact ⟨V', U', a1, (f9.u (by omega)).tr a2, u9.u.tr a3, a4, a5, a6⟩
theorem W5_drop : ∀ i : Fin 25, W5.drop i.val = W5.getD i.val 0 :: W5.drop (i.val + 1) := by decide +kernel
theorem W5_lt : ∀ i : Fin 25, W5.getD i.val 0 < 2 ^ 40 := by decide +kernel
theorem c_find {w : Nat} {F C : Nat} {S : Mem} {V : Vw} {U : Uw} {D : Dw} (h : shC S C) (hw : w < 2 ^ 40) (hU : U 9 7 = lN w) (hW : wds U) : ∀ (d i f : Nat), i + d = 25 → d < f → fix2 (b_X1_stepWord_83 F) f (C + 9) (nI i) (wC S C V U D) = some (nI (fnd (W5.drop i) w i), wC S C V U D) := by
  intro d
  induction d with
  | zero =>
    intro i f hi hf
    obtain ⟨f, rfl⟩ : ∃ f', f = f' + 1 := ⟨f - 1, by omega⟩
    obtain rfl : i = 25 := by omega
    rfl
  | succ d ih =>
    intro i f hi hf
    obtain ⟨f, rfl⟩ : ∃ f', f = f' + 1 := ⟨f - 1, by omega⟩
    have ih := ih (i + 1) f (by omega) (by omega)
    show b_X1_stepWord_83 F (fix2 (b_X1_stepWord_83 F) f) (C + 9) (nI i) (wC S C V U D) = _
    generalize fix2 (b_X1_stepWord_83 F) f = k at ih ⊢
    have e1 : W5.drop i = W5.getD i 0 :: W5.drop (i + 1) := W5_drop ⟨i, by omega⟩
    have e2 : W5.getD i 0 < 2 ^ 40 := W5_lt ⟨i, by omega⟩
    unfold b_X1_stepWord_83
    rw [e1]
    show _ = some (nI (if W5.getD i 0 = w then i else fnd (W5.drop (i + 1)) w (i + 1)), _)
    rw [if_neg (show ¬ (25 : Int32) ≤ nI i from nI_ge (b := 25) (by omega) (by decide))]
    simp (disch := first | assumption | exact inB_n (by omega) (by decide) | exact inB_l (by omega) (by decide) | exact inB_al (by omega) (by decide) | exact inB_la (by omega) (by decide) | exact inB_j (by assumption) (by omega) (by decide) | exact inB_e (by assumption) (by decide) | omega) only [↓eC h, ↓bd_r, ↓lt_r, ↓Option.bind_some, ↓reduceIte, ix_nI, ix_l, nI_al, nI_la, nI_lm, u2_ne, u2_eq, nI_leI, nI_ltI, nI_eq, le_ln, le_nl, lt_ln, lt_nl, eq_nl, eq_ln, hU, hW i (by omega)]
    by_cases hc : W5.getD i 0 = w
    · rw [if_pos ((lg_cmp_eq _ _).mpr (by rw [hc])), if_pos hc]
    · rw [if_neg (fun q => hc ((lN_eq2 (by omega) (by omega)).mp ((lg_cmp_eq _ _).mp q))), if_neg hc]
      exact ih
theorem c_numL {X : Tp} {b : Nat} {F C : Nat} {S : Mem} {U : Uw} {D : Dw} (h : shC S C) (hX : okTp X) (hD : D 9 0 = C + 7) : ∀ (d p f : Nat) (V : Vw), p + d = X.1 → b ≤ p → d < f → V 9 2 = nI X.1 → V 9 3 = nI p → V 9 4 = nI b → tx V X → (∀ j, j < p - b → isDg (X.2 (b + j)) = true) → (p - b ≤ 4 → V 9 6 = nI (d10 X.2 b (p - b))) →
    ∃ V', fix1 (b_X1_stepNumber_5 F) f (C + 9) (wC S C V U D) = f_X1_stepNumber_68 F (C + 9) (wC S C V' U D) ∧ f9 V V' ∧ V' 9 3 = nI (rnE isDg X.2 d p) ∧ V' 9 4 = nI b ∧ (rnE isDg X.2 d p - b ≤ 4 → V' 9 6 = nI (d10 X.2 b (rnE isDg X.2 d p - b))) := by
  have h1 := hX.1
  intro d
  induction d with
  | zero =>
    intro p f V hp hbp hf h2 h3 h4 ht hl hw
    obtain ⟨f, rfl⟩ : ∃ f', f = f' + 1 := ⟨f - 1, by omega⟩
    refine ⟨V, ?_, f9.rf, h3, h4, hw⟩
    show b_X1_stepNumber_5 F (fix1 (b_X1_stepNumber_5 F) f) (C + 9) (wC S C V U D) = _
    unfold b_X1_stepNumber_5
    simp (disch := first | assumption | exact inB_n (by omega) (by decide) | exact inB_l (by omega) (by decide) | exact inB_al (by omega) (by decide) | exact inB_la (by omega) (by decide) | exact inB_j (by assumption) (by omega) (by decide) | exact inB_e (by assumption) (by decide) | omega) only [↓eC h, ↓bd_r, ↓lt_r, ↓Option.bind_some, ↓reduceIte, ix_nI, ix_l, nI_al, nI_la, nI_lm, u2_ne, u2_eq, nI_leI, nI_ltI, nI_eq, le_ln, le_nl, lt_ln, lt_nl, eq_nl, eq_ln, h2, h3, if_pos (show X.1 ≤ p by omega)]
  | succ d ih =>
    intro p f V hp hbp hf h2 h3 h4 ht hl hw
    obtain ⟨f, rfl⟩ : ∃ f', f = f' + 1 := ⟨f - 1, by omega⟩
    have ih := fun V => ih (p + 1) f V (by omega) (by omega) (by omega)
    show ∃ V', b_X1_stepNumber_5 F (fix1 (b_X1_stepNumber_5 F) f) (C + 9) (wC S C V U D) = _ ∧ _
    generalize fix1 (b_X1_stepNumber_5 F) f = k5 at ih ⊢
    have hc := okTape_le (hX.2 p (by omega))
    have e7 := ht p (by omega)
    have i7 : inB (nI p) 1000 := inB_n (by omega) (by decide)
    have el : ∀ S, fn_X1_isDigit F (nI (X.2 p)) S = some (b1 (isDg (X.2 p)), S) := fun S => c_isDigit (by omega)
    unfold b_X1_stepNumber_5
    simp (disch := first | assumption | exact inB_n (by omega) (by decide) | exact inB_l (by omega) (by decide) | exact inB_al (by omega) (by decide) | exact inB_la (by omega) (by decide) | exact inB_j (by assumption) (by omega) (by decide) | exact inB_e (by assumption) (by decide) | omega) only [↓eC h, ↓bd_r, ↓lt_r, ↓Option.bind_some, ↓reduceIte, ix_nI, ix_l, nI_al, nI_la, nI_lm, u2_ne, u2_eq, nI_leI, nI_ltI, nI_eq, le_ln, le_nl, lt_ln, lt_nl, eq_nl, eq_ln, hD, h2, h3, if_neg (show ¬ X.1 ≤ p by omega), e7, el]
    cases hb : isDg (X.2 p) with
    | false =>
      rw [if_pos (show b1 false = 0 from rfl)]
      have e : rnE isDg X.2 (d + 1) p = p := by unfold rnE; rw [if_neg (by rw [hb]; decide)]
      rw [e]
      exact ⟨V, rfl, f9.rf, h3, h4, hw⟩
    | true =>
      rw [if_neg (show ¬ b1 true = 0 by decide)]
      have e : rnE isDg X.2 (d + 1) p = rnE isDg X.2 d (p + 1) := by conv => lhs; unfold rnE
                                                                     rw [if_pos hb]
      rw [e]
      have hcc := isDg_iff.mp hb
      have hl' : ∀ j, j < p + 1 - b → isDg (X.2 (b + j)) = true := fun j hj => by
        by_cases hj2 : j = p - b
        · subst hj2; rw [show b + (p - b) = p by omega]; exact hb
        · exact hl j (by omega)
      obtain ⟨V', a1, a2, a4, a5, a6⟩ := ih (u2 (u2 V 9 6 (V 9 6 * (10 : Int32) + nI (X.2 p) - (48 : Int32))) 9 3 (nI (p + 1))) (by rw [u2_ne (by omega), u2_ne (by omega)]; exact h2) (u2_eq ⟨rfl, rfl⟩) (by rw [u2_ne (by omega), u2_ne (by omega)]; exact h4) (ht.keep ((f9.u (by omega)).tr (f9.u (by omega)))) hl' (fun q => by
        rw [u2_ne (by omega), u2_eq ⟨rfl, rfl⟩, hw (by omega)]
        have e5 : d10 X.2 b (p + 1 - b) = d10 X.2 b (p - b) * 10 + (X.2 p - 48) := by
          rw [show p + 1 - b = (p - b) + 1 by omega]
          show d10 X.2 b (p - b) * 10 + (X.2 (b + (p - b)) - 48) = _
          rw [show b + (p - b) = p by omega]
        rw [e5, show nI (d10 X.2 b (p - b)) * (10 : Int32) = nI (d10 X.2 b (p - b) * 10) from pk_mul _ 10, nI_add, show nI (d10 X.2 b (p - b) * 10 + X.2 p) - (48 : Int32) = nI (d10 X.2 b (p - b) * 10 + X.2 p - 48) from pk_sub (b := 48) (by omega)]
        congr 1
        omega)
      exact ⟨V', a1, ((f9.u (by omega)).tr (f9.u (by omega))).tr a2, a4, a5, a6⟩
/-- a step of the Cutter -/
theorem c_step {X : Tp} {p : Nat} {F C : Nat} {S : Mem} {V : Vw} {U : Uw} {D : Dw} (h : shC S C) (hF : 2000 < F) (hX : okTp X) (hD : D 9 0 = C + 7) (hW : wds U) (hp : p ≤ X.1) (h2 : V 9 2 = nI X.1) (h3 : V 9 3 = nI p) (ht : tx V X) :
    ∃ V' U', fn_X1_step F (C + 9) (wC S C V U D) = some ((), wC S C V' U' D) ∧ f9 V V' ∧ u9 U U' ∧ cL X p V' U' := by
  have h1 := hX.1
  obtain ⟨V1, e1, f1, g1⟩ := c_skip (F := F) (U := U) h hX hD (X.1 - p) p F V (by omega) (by omega) h2 h3 ht
  have g1 : V1 9 3 = nI (lB X p) := g1
  have hb := lB_b hp
  have he := lE_b hp
  unfold fn_X1_step
  rw [e1]
  have n2 : V1 9 2 = nI X.1 := f1.2.trans h2
  have t1 : tx V1 X := ht.keep f1
  have hfr : f9 V1 (u2 V1 9 4 (nI (lB X p))) := f9.u (by omega)
  unfold f_X1_step_52
  by_cases hn : lB X p < X.1
  · have hc := okTape_le (hX.2 (lB X p) hn)
    have e7 := t1 (lB X p) hn
    have i7 : inB (nI (lB X p)) 1000 := inB_n (by omega) (by decide)
    have el : ∀ S, fn_X1_isLetter F (nI (X.2 (lB X p))) S = some (b1 (isLt (X.2 (lB X p))), S) := fun S => c_isLetter (by omega)
    have ed : ∀ S, fn_X1_isDigit F (nI (X.2 (lB X p))) S = some (b1 (isDg (X.2 (lB X p))), S) := fun S => c_isDigit (by omega)
    have eo : ∀ S, fn_X7_ofSign F (nI (X.2 (lB X p))) S = some (nI (sgT (X.2 (lB X p))), S) := fun S => c_ofSign (by omega)
    simp (disch := first | assumption | exact inB_n (by omega) (by decide) | exact inB_l (by omega) (by decide) | exact inB_al (by omega) (by decide) | exact inB_la (by omega) (by decide) | exact inB_j (by assumption) (by omega) (by decide) | exact inB_e (by assumption) (by decide) | omega) only [↓eC h, ↓bd_r, ↓lt_r, ↓Option.bind_some, ↓reduceIte, ix_nI, ix_l, nI_al, nI_la, nI_lm, u2_ne, u2_eq, nI_leI, nI_ltI, nI_eq, le_ln, le_nl, lt_ln, lt_nl, eq_nl, eq_ln, hD, g1, n2, e7, el, if_pos hn]
    cases hl : isLt (X.2 (lB X p)) with
    | true =>
      rw [if_neg (show ¬ b1 true = 0 by decide)]
      have ew : lE X p = rnE isLt X.2 (X.1 - lB X p) (lB X p) := by unfold lE eAt; rw [if_pos hn, if_pos hl]
      have eT : lT X p = if lE X p - lB X p ≤ 8 then wTok (lW X p) else 36 := by
        unfold lT tAt
        rw [if_pos hn, if_pos hl]
        rfl
      obtain ⟨V2, U2, a1, a2, a3, a4, a5, a6⟩ := c_wordL (b := lB X p) (F := F) h hX hD (X.1 - lB X p) (lB X p) F (u2 V1 9 4 (nI (lB X p))) (u2 U 9 7 0) (by omega) (Nat.le_refl _) (by omega) (hfr.2.trans n2) (by rw [u2_ne (by omega)]; exact g1) (u2_eq ⟨rfl, rfl⟩) (t1.keep hfr) (fun j hj => by omega) (fun _ => by rw [Nat.sub_self]; exact u2_eq ⟨rfl, rfl⟩)
      rw [← ew] at a4 a6
      have es : fn_X1_stepWord F (C + 9) (wC S C (u2 V1 9 4 (nI (lB X p))) U D) = some (nI (lT X p), wC S C V2 U2 D) := by
        unfold fn_X1_stepWord
        simp (disch := first | assumption | exact inB_n (by omega) (by decide) | exact inB_l (by omega) (by decide) | exact inB_al (by omega) (by decide) | exact inB_la (by omega) (by decide) | exact inB_j (by assumption) (by omega) (by decide) | exact inB_e (by assumption) (by decide) | omega) only [↓eC h, ↓bd_r, ↓lt_r, ↓Option.bind_some, ↓reduceIte, ix_nI, ix_l, nI_al, nI_la, nI_lm, u2_ne, u2_eq, nI_leI, nI_ltI, nI_eq, le_ln, le_nl, lt_ln, lt_nl, eq_nl, eq_ln, a1]
        unfold f_X1_stepWord_64
        have e9 : nI (lE X p) - nI (lB X p) = nI (lE X p - lB X p) := pk_sub (by omega)
        simp (disch := first | assumption | exact inB_n (by omega) (by decide) | exact inB_l (by omega) (by decide) | exact inB_al (by omega) (by decide) | exact inB_la (by omega) (by decide) | exact inB_j (by assumption) (by omega) (by decide) | exact inB_e (by assumption) (by decide) | omega) only [↓eC h, ↓bd_r, ↓lt_r, ↓Option.bind_some, ↓reduceIte, ix_nI, ix_l, nI_al, nI_la, nI_lm, u2_ne, u2_eq, nI_leI, nI_ltI, nI_eq, le_ln, le_nl, lt_ln, lt_nl, eq_nl, eq_ln, a4, a5, e9]
        rw [eT]
        by_cases h8 : lE X p - lB X p ≤ 8
        · rw [if_pos h8, if_pos h8]
          have hin : ∀ j, j < lE X p - lB X p → isLt (X.2 (lB X p + j)) = true := fun j hj => rnE_in (X.1 - lB X p) (lB X p) _ (by omega) (by rw [← ew]; omega)
          have hlt := (w5_lt (T := X.2) (b := lB X p) _ hin).1
          have hlt : lW X p < 2 ^ 40 := Nat.lt_of_lt_of_le hlt (Nat.le_trans (Nat.pow_le_pow_right (by decide) h8) (by decide : 32 ^ 8 ≤ 2 ^ 40))
          have wu : wds U2 := fun i hi => by rw [a3 11 (by omega), u2_row (by omega)]; exact hW i hi
          exact c_find h hlt (a6 h8) wu 25 0 F (by omega) (by omega)
        · rw [if_neg h8, if_neg h8]
          rfl
      unfold f_X1_step_158
      simp (disch := first | assumption | exact inB_n (by omega) (by decide) | exact inB_l (by omega) (by decide) | exact inB_al (by omega) (by decide) | exact inB_la (by omega) (by decide) | exact inB_j (by assumption) (by omega) (by decide) | exact inB_e (by assumption) (by decide) | omega) only [↓eC h, ↓bd_r, ↓lt_r, ↓Option.bind_some, ↓reduceIte, ix_nI, ix_l, nI_al, nI_la, nI_lm, u2_ne, u2_eq, nI_leI, nI_ltI, nI_eq, le_ln, le_nl, lt_ln, lt_nl, eq_nl, eq_ln, es]
      have gb : f9 V2 (u2 V2 9 5 (nI (lT X p))) := f9.u (by omega)
      refine ⟨_, U2, rfl, ((f1.tr hfr).tr a2).tr gb, (u9.u (U := U)).tr a3, ?_, ?_, ?_, u2_eq ⟨rfl, rfl⟩, fun q => ?_, fun q => ?_⟩
      · rw [u2_ne (by omega), a2.2, hfr.2]; exact n2
      · rw [u2_ne (by omega)]; exact a4
      · rw [u2_ne (by omega)]; exact a5
      · have := (lT_num hp q).2.2.2.1
        rw [hl] at this; cases this
      · exact a6 (lT_word hp q).2.1
    | false =>
      rw [if_pos (show b1 false = 0 from rfl)]
      simp (disch := first | assumption | exact inB_n (by omega) (by decide) | exact inB_l (by omega) (by decide) | exact inB_al (by omega) (by decide) | exact inB_la (by omega) (by decide) | exact inB_j (by assumption) (by omega) (by decide) | exact inB_e (by assumption) (by decide) | omega) only [↓eC h, ↓bd_r, ↓lt_r, ↓Option.bind_some, ↓reduceIte, ix_nI, ix_l, nI_al, nI_la, nI_lm, u2_ne, u2_eq, nI_leI, nI_ltI, nI_eq, le_ln, le_nl, lt_ln, lt_nl, eq_nl, eq_ln, hD, g1, n2, e7, ed]
      cases hd : isDg (X.2 (lB X p)) with
      | true =>
        rw [if_neg (show ¬ b1 true = 0 by decide)]
        have ew : lE X p = rnE isDg X.2 (X.1 - lB X p) (lB X p) := by unfold lE eAt; rw [if_pos hn, if_neg (by rw [hl]; decide), if_pos hd]
        have eT : lT X p = if lE X p - lB X p ≤ 4 then 26 else 36 := by
          unfold lT tAt
          rw [if_pos hn, if_neg (by rw [hl]; decide), if_pos hd]
          rfl
        have hf6 : f9 (u2 V1 9 4 (nI (lB X p))) (u2 (u2 V1 9 4 (nI (lB X p))) 9 6 0) := f9.u (by omega)
        obtain ⟨V2, a1, a2, a4, a5, a6⟩ := c_numL (b := lB X p) (F := F) (U := U) h hX hD (X.1 - lB X p) (lB X p) F (u2 (u2 V1 9 4 (nI (lB X p))) 9 6 0) (by omega) (Nat.le_refl _) (by omega) ((hfr.tr hf6).2.trans n2) (by rw [u2_ne (by omega), u2_ne (by omega)]; exact g1) (by rw [u2_ne (by omega)]; exact u2_eq ⟨rfl, rfl⟩) (t1.keep (hfr.tr hf6)) (fun j hj => by omega) (fun _ => by rw [Nat.sub_self]; exact u2_eq ⟨rfl, rfl⟩)
        rw [← ew] at a4 a6
        have es : fn_X1_stepNumber F (C + 9) (wC S C (u2 V1 9 4 (nI (lB X p))) U D) = some (nI (lT X p), wC S C V2 U D) := by
          unfold fn_X1_stepNumber
          simp (disch := first | assumption | exact inB_n (by omega) (by decide) | exact inB_l (by omega) (by decide) | exact inB_al (by omega) (by decide) | exact inB_la (by omega) (by decide) | exact inB_j (by assumption) (by omega) (by decide) | exact inB_e (by assumption) (by decide) | omega) only [↓eC h, ↓bd_r, ↓lt_r, ↓Option.bind_some, ↓reduceIte, ix_nI, ix_l, nI_al, nI_la, nI_lm, u2_ne, u2_eq, nI_leI, nI_ltI, nI_eq, le_ln, le_nl, lt_ln, lt_nl, eq_nl, eq_ln, a1]
          unfold f_X1_stepNumber_68 f_X1_stepNumber_88
          have e9 : nI (lE X p) - nI (lB X p) = nI (lE X p - lB X p) := pk_sub (by omega)
          simp (disch := first | assumption | exact inB_n (by omega) (by decide) | exact inB_l (by omega) (by decide) | exact inB_al (by omega) (by decide) | exact inB_la (by omega) (by decide) | exact inB_j (by assumption) (by omega) (by decide) | exact inB_e (by assumption) (by decide) | omega) only [↓eC h, ↓bd_r, ↓lt_r, ↓Option.bind_some, ↓reduceIte, ix_nI, ix_l, nI_al, nI_la, nI_lm, u2_ne, u2_eq, nI_leI, nI_ltI, nI_eq, le_ln, le_nl, lt_ln, lt_nl, eq_nl, eq_ln, a4, a5, e9]
          rw [eT]
          by_cases h8 : lE X p - lB X p ≤ 4
          · rw [if_pos h8, if_pos h8]; rfl
          · rw [if_neg h8, if_neg h8]; rfl
        unfold f_X1_step_158
        simp (disch := first | assumption | exact inB_n (by omega) (by decide) | exact inB_l (by omega) (by decide) | exact inB_al (by omega) (by decide) | exact inB_la (by omega) (by decide) | exact inB_j (by assumption) (by omega) (by decide) | exact inB_e (by assumption) (by decide) | omega) only [↓eC h, ↓bd_r, ↓lt_r, ↓Option.bind_some, ↓reduceIte, ix_nI, ix_l, nI_al, nI_la, nI_lm, u2_ne, u2_eq, nI_leI, nI_ltI, nI_eq, le_ln, le_nl, lt_ln, lt_nl, eq_nl, eq_ln, es]
        have gb : f9 V2 (u2 V2 9 5 (nI (lT X p))) := f9.u (by omega)
        refine ⟨_, U, rfl, ((f1.tr (hfr.tr hf6)).tr a2).tr gb, u9.rf, ?_, ?_, ?_, u2_eq ⟨rfl, rfl⟩, fun q => ?_, fun q => ?_⟩
        · rw [u2_ne (by omega), a2.2, (hfr.tr hf6).2]; exact n2
        · rw [u2_ne (by omega)]; exact a4
        · rw [u2_ne (by omega)]; exact a5
        · rw [u2_ne (by omega)]; exact a6 (lT_num hp q).2.1
        · have := (lT_word hp q).2.2.2.1
          rw [hl] at this; cases this
      | false =>
        rw [if_pos (show b1 false = 0 from rfl)]
        have eT : lT X p = sgT (X.2 (lB X p)) := by
          unfold lT tAt
          rw [if_pos hn, if_neg (by rw [hl]; decide), if_neg (by rw [hd]; decide)]
        have eE : lE X p = lB X p + 1 := by unfold lE eAt; rw [if_pos hn, if_neg (by rw [hl]; decide), if_neg (by rw [hd]; decide)]
        unfold f_X1_step_158
        simp (disch := first | assumption | exact inB_n (by omega) (by decide) | exact inB_l (by omega) (by decide) | exact inB_al (by omega) (by decide) | exact inB_la (by omega) (by decide) | exact inB_j (by assumption) (by omega) (by decide) | exact inB_e (by assumption) (by decide) | omega) only [↓eC h, ↓bd_r, ↓lt_r, ↓Option.bind_some, ↓reduceIte, ix_nI, ix_l, nI_al, nI_la, nI_lm, u2_ne, u2_eq, nI_leI, nI_ltI, nI_eq, le_ln, le_nl, lt_ln, lt_nl, eq_nl, eq_ln, hD, g1, n2, e7, eo]
        refine ⟨_, U, rfl, (((f1.tr hfr).tr (f9.u (k := 5) (by omega))).tr (f9.u (k := 3) (by omega))), u9.rf, ?_, ?_, ?_, ?_, fun q => ?_, fun q => ?_⟩
        · rw [u2_ne (by omega), u2_ne (by omega), u2_ne (by omega)]; exact n2
        · rw [u2_eq ⟨rfl, rfl⟩, eE]
        · rw [u2_ne (by omega), u2_ne (by omega), u2_eq ⟨rfl, rfl⟩]
        · rw [u2_ne (by omega), u2_eq ⟨rfl, rfl⟩, eT]
        · have := (lT_num hp q).2.2.2.2
          rw [hd] at this; cases this
        · have := (lT_word hp q).2.2.2.1
          rw [hl] at this; cases this
  · have eT : lT X p = 35 := by unfold lT tAt; rw [if_neg hn]
    have eE : lE X p = lB X p := by unfold lE eAt; rw [if_neg hn]
    unfold f_X1_step_158
    simp (disch := first | assumption | exact inB_n (by omega) (by decide) | exact inB_l (by omega) (by decide) | exact inB_al (by omega) (by decide) | exact inB_la (by omega) (by decide) | exact inB_j (by assumption) (by omega) (by decide) | exact inB_e (by assumption) (by decide) | omega) only [↓eC h, ↓bd_r, ↓lt_r, ↓Option.bind_some, ↓reduceIte, ix_nI, ix_l, nI_al, nI_la, nI_lm, u2_ne, u2_eq, nI_leI, nI_ltI, nI_eq, le_ln, le_nl, lt_ln, lt_nl, eq_nl, eq_ln, g1, n2, if_neg hn]
    refine ⟨_, U, rfl, ((f1.tr hfr).tr (f9.u (k := 5) (by omega))), u9.rf, ?_, ?_, ?_, ?_, fun q => ?_, fun q => ?_⟩
    · rw [u2_ne (by omega), u2_ne (by omega)]; exact n2
    · rw [u2_ne (by omega), u2_ne (by omega), eE]; exact g1
    · rw [u2_ne (by omega), u2_eq ⟨rfl, rfl⟩]
    · rw [u2_eq ⟨rfl, rfl⟩, eT]; rfl
    · omega
    · omega
