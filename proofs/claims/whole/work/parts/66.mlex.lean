/-! the model's nextToken -/
def mx (V : Vw) (X : Tp) : Prop := ∀ i, i < X.1 → V 1 i = nI (X.2 i)
def f0 (V V' : Vw) : Prop := (∀ j, j ≠ 0 → V' j = V j) ∧ ∀ k, k ≠ 4 → k ≠ 5 → k ≠ 6 → k ≠ 8 → V' 0 k = V 0 k
def u0 (U U' : Uw) : Prop := ∀ j, j ≠ 0 → U' j = U j
theorem f0.rf {V : Vw} : f0 V V := ⟨fun _ _ => rfl, fun _ _ _ _ _ => rfl⟩
theorem f0.tr {V V' V'' : Vw} (a : f0 V V') (b : f0 V' V'') : f0 V V'' := ⟨fun j hj => (b.1 j hj).trans (a.1 j hj), fun k h4 h5 h6 h8 => (b.2 k h4 h5 h6 h8).trans (a.2 k h4 h5 h6 h8)⟩
theorem u0.rf {U : Uw} : u0 U U := fun _ _ => rfl
theorem u0.tr {U U' U'' : Uw} (a : u0 U U') (b : u0 U' U'') : u0 U U'' := fun j hj => (b j hj).trans (a j hj)
theorem f0.u {V : Vw} {k : Nat} {v : Int32} (h : k = 4 ∨ k = 5 ∨ k = 6 ∨ k = 8) : f0 V (u2 V 0 k v) := ⟨fun j hj => u2_row hj, fun i h4 h5 h6 h8 => u2_ne (Or.inr (by omega))⟩
theorem u0.u {U : Uw} {k : Nat} {v : Int64} : u0 U (u2 U 0 k v) := fun j hj => u2_row hj
theorem mx.keep {V V' : Vw} {X : Tp} (h : mx V X) (e : V' 1 = V 1) : mx V' X := fun i hi => by rw [e]; exact h i hi
def tkK (t : Nat) : Nat := if t ≤ 25 then 1 else if t = 26 then 2 else if t ≤ 34 then 3 else if t = 35 then 0 else 4
def mL (X : Tp) (p : Nat) (V : Vw) (U : Uw) : Prop := V 0 3 = nI X.1 ∧ V 0 4 = nI (lE X p) ∧ V 0 5 = nI (lB X p) ∧ V 0 6 = nI (tkK (lT X p)) ∧ (lT X p = 26 → V 0 8 = nI (lV X p)) ∧ (lT X p ≤ 25 → U 0 7 = lN (lY X p))
def sAt (X : Tp) (k : Nat) : Nat := if k < X.1 then X.2 k else 0
theorem q_signAt {X : Tp} {k : Nat} {F M : Nat} {S : Mem} {V : Vw} {U : Uw} (h : shM S M) (hX : okTp X) (h3 : V 0 3 = nI X.1) (ht : mx V X) (hk : k ≤ X.1) : fn_X9_signAt F M (nI k) (wM S M V U) = some (nI (sAt X k), wM S M V U) := by
  have h1 := hX.1
  unfold fn_X9_signAt f_X9_signAt_18 sAt
  by_cases hc : k < X.1
  · have i1 : inB (nI k) 1000 := inB_n (by omega) (by decide)
    rw [if_pos hc]
    simp (disch := first | assumption | exact inB_n (by omega) (by decide) | exact inB_l (by omega) (by decide) | exact inB_al (by omega) (by decide) | exact inB_la (by omega) (by decide) | exact inB_j (by assumption) (by omega) (by decide) | exact inB_e (by assumption) (by decide) | omega) only [↓eM h, ↓bd_r, ↓lt_r, ↓Option.bind_some, ↓reduceIte, ix_nI, ix_l, nI_al, nI_la, nI_lm, u2_ne, u2_eq, nI_leI, nI_ltI, nI_eq, le_ln, le_nl, lt_ln, lt_nl, eq_nl, eq_ln, h3, if_neg (show ¬ X.1 ≤ k by omega), ht k hc]
  · rw [if_neg hc]
    simp (disch := first | assumption | exact inB_n (by omega) (by decide) | exact inB_l (by omega) (by decide) | exact inB_al (by omega) (by decide) | exact inB_la (by omega) (by decide) | exact inB_j (by assumption) (by omega) (by decide) | exact inB_e (by assumption) (by decide) | omega) only [↓eM h, ↓bd_r, ↓lt_r, ↓Option.bind_some, ↓reduceIte, ix_nI, ix_l, nI_al, nI_la, nI_lm, u2_ne, u2_eq, nI_leI, nI_ltI, nI_eq, le_ln, le_nl, lt_ln, lt_nl, eq_nl, eq_ln, h3, if_pos (show X.1 ≤ k by omega)]
    rfl
theorem q_skip {X : Tp} {F M : Nat} {S : Mem} {U : Uw} (h : shM S M) (hX : okTp X) : ∀ (d p f : Nat) (V : Vw), p + d = X.1 → d < f → V 0 3 = nI X.1 → V 0 4 = nI p → mx V X →
    ∃ V', fix1 (b_X9_nextToken_0 F) f M (wM S M V U) = f_X9_nextToken_52 F M (wM S M V' U) ∧ f0 V V' ∧ V' 0 4 = nI (rnE isBl X.2 d p) := by
  have h1 := hX.1
  intro d
  induction d with
  | zero =>
    intro p f V hp hf h2 h3 ht
    obtain ⟨f, rfl⟩ : ∃ f', f = f' + 1 := ⟨f - 1, by omega⟩
    refine ⟨V, ?_, f0.rf, h3⟩
    show b_X9_nextToken_0 F (fix1 (b_X9_nextToken_0 F) f) M (wM S M V U) = _
    unfold b_X9_nextToken_0
    simp (disch := first | assumption | exact inB_n (by omega) (by decide) | exact inB_l (by omega) (by decide) | exact inB_al (by omega) (by decide) | exact inB_la (by omega) (by decide) | exact inB_j (by assumption) (by omega) (by decide) | exact inB_e (by assumption) (by decide) | omega) only [↓eM h, ↓bd_r, ↓lt_r, ↓Option.bind_some, ↓reduceIte, ix_nI, ix_l, nI_al, nI_la, nI_lm, u2_ne, u2_eq, nI_leI, nI_ltI, nI_eq, le_ln, le_nl, lt_ln, lt_nl, eq_nl, eq_ln, h2, h3, if_pos (show X.1 ≤ p by omega)]
  | succ d ih =>
    intro p f V hp hf h2 h3 ht
    obtain ⟨f, rfl⟩ : ∃ f', f = f' + 1 := ⟨f - 1, by omega⟩
    have ih := fun V => ih (p + 1) f V (by omega) (by omega)
    show ∃ V', b_X9_nextToken_0 F (fix1 (b_X9_nextToken_0 F) f) M (wM S M V U) = _ ∧ _
    generalize fix1 (b_X9_nextToken_0 F) f = k0 at ih ⊢
    have hc := okTape_le (hX.2 p (by omega))
    have e7 := ht p (by omega)
    have i7 : inB (nI p) 1000 := inB_n (by omega) (by decide)
    unfold b_X9_nextToken_0 f_X9_nextToken_39
    simp (disch := first | assumption | exact inB_n (by omega) (by decide) | exact inB_l (by omega) (by decide) | exact inB_al (by omega) (by decide) | exact inB_la (by omega) (by decide) | exact inB_j (by assumption) (by omega) (by decide) | exact inB_e (by assumption) (by decide) | omega) only [↓eM h, ↓bd_r, ↓lt_r, ↓Option.bind_some, ↓reduceIte, ix_nI, ix_l, nI_al, nI_la, nI_lm, u2_ne, u2_eq, nI_leI, nI_ltI, nI_eq, le_ln, le_nl, lt_ln, lt_nl, eq_nl, eq_ln, h2, h3, if_neg (show ¬ X.1 ≤ p by omega), e7]
    have go : isBl (X.2 p) = true → ∃ V', k0 M (wM S M (u2 V 0 4 (nI (p + 1))) U) = f_X9_nextToken_52 F M (wM S M V' U) ∧ f0 V V' ∧ V' 0 4 = nI (rnE isBl X.2 (d + 1) p) := by
      intro hb
      obtain ⟨V', a1, a2, a3⟩ := ih (u2 V 0 4 (nI (p + 1))) (by rw [u2_ne (by omega)]; exact h2) (u2_eq ⟨rfl, rfl⟩) (ht.keep (u2_row (by omega)))
      refine ⟨V', a1, (f0.u (by omega)).tr a2, ?_⟩
      rw [a3]
      conv => rhs; unfold rnE
      rw [if_pos hb]
    by_cases h32 : X.2 p = 32
    · rw [if_pos h32]
      exact go (isBl_iff.mpr (Or.inl h32))
    · rw [if_neg h32]
      by_cases h10 : X.2 p = 10
      · rw [if_pos h10]
        exact go (isBl_iff.mpr (Or.inr h10))
      · rw [if_neg h10]
        refine ⟨V, rfl, f0.rf, ?_⟩
        rw [h3]
        unfold rnE
        rw [if_neg (fun q => by exact (isBl_iff.mp q).elim h32 h10)]
theorem q_wordL {X : Tp} {b : Nat} {F M : Nat} {S : Mem} (h : shM S M) (hX : okTp X) : ∀ (d p f : Nat) (V : Vw) (U : Uw), p + d = X.1 → b ≤ p → d < f → V 0 3 = nI X.1 → V 0 4 = nI p → V 0 5 = nI b → mx V X → (∀ j, j < p - b → isLt (X.2 (b + j)) = true) → (p - b ≤ 8 → U 0 7 = lN (w27 X.2 b (p - b))) →
    ∃ V' U', fix1 (b_X9_nextToken_109 F) f M (wM S M V U) = f_X9_nextToken_188 F M (wM S M V' U') ∧ f0 V V' ∧ u0 U U' ∧ V' 0 4 = nI (rnE isLt X.2 d p) ∧ V' 0 5 = nI b ∧ (rnE isLt X.2 d p - b ≤ 8 → U' 0 7 = lN (w27 X.2 b (rnE isLt X.2 d p - b))) := by
  have h1 := hX.1
  intro d
  induction d with
  | zero =>
    intro p f V U hp hbp hf h2 h3 h4 ht hl hw
    obtain ⟨f, rfl⟩ : ∃ f', f = f' + 1 := ⟨f - 1, by omega⟩
    refine ⟨V, U, ?_, f0.rf, u0.rf, h3, h4, hw⟩
    show b_X9_nextToken_109 F (fix1 (b_X9_nextToken_109 F) f) M (wM S M V U) = _
    have es := q_signAt (F := F) (U := U) h hX h2 ht (show p ≤ X.1 by omega)
    have e0 : sAt X p = 0 := if_neg (by omega)
    rw [e0] at es
    unfold b_X9_nextToken_109
    simp (disch := first | assumption | exact inB_n (by omega) (by decide) | exact inB_l (by omega) (by decide) | exact inB_al (by omega) (by decide) | exact inB_la (by omega) (by decide) | exact inB_j (by assumption) (by omega) (by decide) | exact inB_e (by assumption) (by decide) | omega) only [↓eM h, ↓bd_r, ↓lt_r, ↓Option.bind_some, ↓reduceIte, ix_nI, ix_l, nI_al, nI_la, nI_lm, u2_ne, u2_eq, nI_leI, nI_ltI, nI_eq, le_ln, le_nl, lt_ln, lt_nl, eq_nl, eq_ln, h3, es]
    rw [if_pos (by decide)]
  | succ d ih =>
    intro p f V U hp hbp hf h2 h3 h4 ht hl hw
    obtain ⟨f, rfl⟩ : ∃ f', f = f' + 1 := ⟨f - 1, by omega⟩
    have ih := fun V U => ih (p + 1) f V U (by omega) (by omega) (by omega)
    show ∃ V' U', b_X9_nextToken_109 F (fix1 (b_X9_nextToken_109 F) f) M (wM S M V U) = _ ∧ _
    generalize fix1 (b_X9_nextToken_109 F) f = k5 at ih ⊢
    have hc := okTape_le (hX.2 p (by omega))
    have es := q_signAt (F := F) (U := U) h hX h2 ht (show p ≤ X.1 by omega)
    have e0 : sAt X p = X.2 p := if_pos (by omega)
    rw [e0] at es
    have e9 : nI p - nI b = nI (p - b) := pk_sub (by omega)
    unfold b_X9_nextToken_109 f_X9_nextToken_175
    simp (disch := first | assumption | exact inB_n (by omega) (by decide) | exact inB_l (by omega) (by decide) | exact inB_al (by omega) (by decide) | exact inB_la (by omega) (by decide) | exact inB_j (by assumption) (by omega) (by decide) | exact inB_e (by assumption) (by decide) | omega) only [↓eM h, ↓bd_r, ↓lt_r, ↓Option.bind_some, ↓reduceIte, ix_nI, ix_l, nI_al, nI_la, nI_lm, u2_ne, u2_eq, nI_leI, nI_ltI, nI_eq, le_ln, le_nl, lt_ln, lt_nl, eq_nl, eq_ln, h3, h4, es, e9]
    have stop : isLt (X.2 p) = false → ∃ V' U', f_X9_nextToken_188 F M (wM S M V U) = f_X9_nextToken_188 F M (wM S M V' U') ∧ f0 V V' ∧ u0 U U' ∧ V' 0 4 = nI (rnE isLt X.2 (d + 1) p) ∧ V' 0 5 = nI b ∧ (rnE isLt X.2 (d + 1) p - b ≤ 8 → U' 0 7 = lN (w27 X.2 b (rnE isLt X.2 (d + 1) p - b))) := by
      intro hb
      have e : rnE isLt X.2 (d + 1) p = p := by unfold rnE; rw [if_neg (by rw [hb]; decide)]
      rw [e]
      exact ⟨V, U, rfl, f0.rf, u0.rf, h3, h4, hw⟩
    by_cases h97 : X.2 p < 97
    · rw [if_pos h97]
      exact stop (by unfold isLt; rw [decide_eq_false (by omega)]; rfl)
    rw [if_neg h97]
    by_cases h122 : 122 < X.2 p
    · rw [if_pos h122]
      exact stop (by unfold isLt; rw [decide_eq_false (show ¬ X.2 p ≤ 122 by omega), Bool.and_false])
    rw [if_neg h122]
    have hb : isLt (X.2 p) = true := isLt_iff.mpr (by omega)
    have e : rnE isLt X.2 (d + 1) p = rnE isLt X.2 d (p + 1) := by conv => lhs; unfold rnE
                                                                   rw [if_pos hb]
    rw [e]
    have hl' : ∀ j, j < p + 1 - b → isLt (X.2 (b + j)) = true := fun j hj => by
      by_cases hj2 : j = p - b
      · subst hj2; rw [show b + (p - b) = p by omega]; exact hb
      · exact hl j (by omega)
    by_cases h8 : 8 ≤ p - b
    · rw [if_pos h8]
      obtain ⟨V', U', a1, a2, a3, a4, a5, a6⟩ := ih (u2 V 0 4 (nI (p + 1))) U (by rw [u2_ne (by omega)]; exact h2) (u2_eq ⟨rfl, rfl⟩) (by rw [u2_ne (by omega)]; exact h4) (ht.keep (u2_row (by omega))) hl' (fun q => absurd q (by omega))
      exact ⟨V', U', a1, (f0.u (by omega)).tr a2, a3, a4, a5, a6⟩
    · rw [if_neg h8]
      have e5 : (U 0 7 * 27 + (nI (X.2 p)).toInt64) - 96 = lN (w27 X.2 b (p + 1 - b)) := by
        rw [hw (by omega), nI_l (by omega), show lN (w27 X.2 b (p - b)) * (27 : Int64) = lN (w27 X.2 b (p - b) * 27) from lN_mul _ 27, lN_add, show lN (w27 X.2 b (p - b) * 27 + X.2 p) - (96 : Int64) = lN (w27 X.2 b (p - b) * 27 + X.2 p - 96) from lN_sub (b := 96) (by omega), show p + 1 - b = (p - b) + 1 by omega]
        show _ = lN (w27 X.2 b (p - b) * 27 + (X.2 (b + (p - b)) - 96))
        rw [show b + (p - b) = p by omega]
        congr 1
        omega
      simp (disch := first | assumption | exact inB_n (by omega) (by decide) | exact inB_l (by omega) (by decide) | exact inB_al (by omega) (by decide) | exact inB_la (by omega) (by decide) | exact inB_j (by assumption) (by omega) (by decide) | exact inB_e (by assumption) (by decide) | omega) only [↓eM h, ↓bd_r, ↓lt_r, ↓Option.bind_some, ↓reduceIte, ix_nI, ix_l, nI_al, nI_la, nI_lm, u2_ne, u2_eq, nI_leI, nI_ltI, nI_eq, le_ln, le_nl, lt_ln, lt_nl, eq_nl, eq_ln, e5]
      obtain ⟨V', U', a1, a2, a3, a4, a5, a6⟩ := ih (u2 V 0 4 (nI (p + 1))) (u2 U 0 7 (lN (w27 X.2 b (p + 1 - b)))) (by rw [u2_ne (by omega)]; exact h2) (u2_eq ⟨rfl, rfl⟩) (by rw [u2_ne (by omega)]; exact h4) (ht.keep (u2_row (by omega))) hl' (fun _ => u2_eq ⟨rfl, rfl⟩)
      exact ⟨V', U', a1, (f0.u (by omega)).tr a2, u0.u.tr a3, a4, a5, a6⟩
theorem q_numL {X : Tp} {b : Nat} {F M : Nat} {S : Mem} {U : Uw} (h : shM S M) (hX : okTp X) : ∀ (d p f : Nat) (V : Vw), p + d = X.1 → b ≤ p → d < f → V 0 3 = nI X.1 → V 0 4 = nI p → V 0 5 = nI b → mx V X → (∀ j, j < p - b → isDg (X.2 (b + j)) = true) → (p - b ≤ 4 → V 0 8 = nI (d10 X.2 b (p - b))) →
    ∃ V', fix1 (b_X9_nextToken_224 F) f M (wM S M V U) = f_X9_nextToken_299 F M (wM S M V' U) ∧ f0 V V' ∧ V' 0 4 = nI (rnE isDg X.2 d p) ∧ V' 0 5 = nI b ∧ (rnE isDg X.2 d p - b ≤ 4 → V' 0 8 = nI (d10 X.2 b (rnE isDg X.2 d p - b))) := by
  have h1 := hX.1
  intro d
  induction d with
  | zero =>
    intro p f V hp hbp hf h2 h3 h4 ht hl hw
    obtain ⟨f, rfl⟩ : ∃ f', f = f' + 1 := ⟨f - 1, by omega⟩
    refine ⟨V, ?_, f0.rf, h3, h4, hw⟩
    show b_X9_nextToken_224 F (fix1 (b_X9_nextToken_224 F) f) M (wM S M V U) = _
    have es := q_signAt (F := F) (U := U) h hX h2 ht (show p ≤ X.1 by omega)
    have e0 : sAt X p = 0 := if_neg (by omega)
    rw [e0] at es
    unfold b_X9_nextToken_224
    simp (disch := first | assumption | exact inB_n (by omega) (by decide) | exact inB_l (by omega) (by decide) | exact inB_al (by omega) (by decide) | exact inB_la (by omega) (by decide) | exact inB_j (by assumption) (by omega) (by decide) | exact inB_e (by assumption) (by decide) | omega) only [↓eM h, ↓bd_r, ↓lt_r, ↓Option.bind_some, ↓reduceIte, ix_nI, ix_l, nI_al, nI_la, nI_lm, u2_ne, u2_eq, nI_leI, nI_ltI, nI_eq, le_ln, le_nl, lt_ln, lt_nl, eq_nl, eq_ln, h3, es]
    rw [if_pos (by decide)]
  | succ d ih =>
    intro p f V hp hbp hf h2 h3 h4 ht hl hw
    obtain ⟨f, rfl⟩ : ∃ f', f = f' + 1 := ⟨f - 1, by omega⟩
    have ih := fun V => ih (p + 1) f V (by omega) (by omega) (by omega)
    show ∃ V', b_X9_nextToken_224 F (fix1 (b_X9_nextToken_224 F) f) M (wM S M V U) = _ ∧ _
    generalize fix1 (b_X9_nextToken_224 F) f = k5 at ih ⊢
    have hc := okTape_le (hX.2 p (by omega))
    have es := q_signAt (F := F) (U := U) h hX h2 ht (show p ≤ X.1 by omega)
    have e0 : sAt X p = X.2 p := if_pos (by omega)
    rw [e0] at es
    have e9 : nI p - nI b = nI (p - b) := pk_sub (by omega)
    unfold b_X9_nextToken_224 f_X9_nextToken_286
    simp (disch := first | assumption | exact inB_n (by omega) (by decide) | exact inB_l (by omega) (by decide) | exact inB_al (by omega) (by decide) | exact inB_la (by omega) (by decide) | exact inB_j (by assumption) (by omega) (by decide) | exact inB_e (by assumption) (by decide) | omega) only [↓eM h, ↓bd_r, ↓lt_r, ↓Option.bind_some, ↓reduceIte, ix_nI, ix_l, nI_al, nI_la, nI_lm, u2_ne, u2_eq, nI_leI, nI_ltI, nI_eq, le_ln, le_nl, lt_ln, lt_nl, eq_nl, eq_ln, h3, h4, es, e9]
    have stop : isDg (X.2 p) = false → ∃ V', f_X9_nextToken_299 F M (wM S M V U) = f_X9_nextToken_299 F M (wM S M V' U) ∧ f0 V V' ∧ V' 0 4 = nI (rnE isDg X.2 (d + 1) p) ∧ V' 0 5 = nI b ∧ (rnE isDg X.2 (d + 1) p - b ≤ 4 → V' 0 8 = nI (d10 X.2 b (rnE isDg X.2 (d + 1) p - b))) := by
      intro hb
      have e : rnE isDg X.2 (d + 1) p = p := by unfold rnE; rw [if_neg (by rw [hb]; decide)]
      rw [e]
      exact ⟨V, rfl, f0.rf, h3, h4, hw⟩
    by_cases h97 : X.2 p < 48
    · rw [if_pos h97]
      exact stop (by unfold isDg; rw [decide_eq_false (by omega)]; rfl)
    rw [if_neg h97]
    by_cases h122 : 57 < X.2 p
    · rw [if_pos h122]
      exact stop (by unfold isDg; rw [decide_eq_false (show ¬ X.2 p ≤ 57 by omega), Bool.and_false])
    rw [if_neg h122]
    have hb : isDg (X.2 p) = true := isDg_iff.mpr (by omega)
    have e : rnE isDg X.2 (d + 1) p = rnE isDg X.2 d (p + 1) := by conv => lhs; unfold rnE
                                                                   rw [if_pos hb]
    rw [e]
    have hl' : ∀ j, j < p + 1 - b → isDg (X.2 (b + j)) = true := fun j hj => by
      by_cases hj2 : j = p - b
      · subst hj2; rw [show b + (p - b) = p by omega]; exact hb
      · exact hl j (by omega)
    by_cases h8 : 4 ≤ p - b
    · rw [if_pos h8]
      obtain ⟨V', a1, a2, a4, a5, a6⟩ := ih (u2 V 0 4 (nI (p + 1))) (by rw [u2_ne (by omega)]; exact h2) (u2_eq ⟨rfl, rfl⟩) (by rw [u2_ne (by omega)]; exact h4) (ht.keep (u2_row (by omega))) hl' (fun q => absurd q (by omega))
      exact ⟨V', a1, (f0.u (by omega)).tr a2, a4, a5, a6⟩
    · rw [if_neg h8]
      have e5 : (V 0 8 * 10 + nI (X.2 p)) - 48 = nI (d10 X.2 b (p + 1 - b)) := by
        have e5 : d10 X.2 b (p + 1 - b) = d10 X.2 b (p - b) * 10 + (X.2 p - 48) := by
          rw [show p + 1 - b = (p - b) + 1 by omega]
          show d10 X.2 b (p - b) * 10 + (X.2 (b + (p - b)) - 48) = _
          rw [show b + (p - b) = p by omega]
        rw [hw (by omega), e5, show nI (d10 X.2 b (p - b)) * (10 : Int32) = nI (d10 X.2 b (p - b) * 10) from pk_mul _ 10, nI_add, show nI (d10 X.2 b (p - b) * 10 + X.2 p) - (48 : Int32) = nI (d10 X.2 b (p - b) * 10 + X.2 p - 48) from pk_sub (b := 48) (by omega)]
        congr 1
        omega
      simp (disch := first | assumption | exact inB_n (by omega) (by decide) | exact inB_l (by omega) (by decide) | exact inB_al (by omega) (by decide) | exact inB_la (by omega) (by decide) | exact inB_j (by assumption) (by omega) (by decide) | exact inB_e (by assumption) (by decide) | omega) only [↓eM h, ↓bd_r, ↓lt_r, ↓Option.bind_some, ↓reduceIte, ix_nI, ix_l, nI_al, nI_la, nI_lm, u2_ne, u2_eq, nI_leI, nI_ltI, nI_eq, le_ln, le_nl, lt_ln, lt_nl, eq_nl, eq_ln, e5, h3]
      obtain ⟨V', a1, a2, a4, a5, a6⟩ := ih (u2 (u2 V 0 8 (nI (d10 X.2 b (p + 1 - b)))) 0 4 (nI (p + 1))) (by rw [u2_ne (by omega), u2_ne (by omega)]; exact h2) (u2_eq ⟨rfl, rfl⟩) (by rw [u2_ne (by omega), u2_ne (by omega)]; exact h4) (ht.keep (by rw [u2_row (by omega), u2_row (by omega)])) hl' (fun _ => by rw [u2_ne (by omega)]; exact u2_eq ⟨rfl, rfl⟩)
      exact ⟨V', a1, ((f0.u (by omega)).tr (f0.u (by omega))).tr a2, a4, a5, a6⟩
theorem tk_sign : ∀ c : Fin 127, isLt c.val = false → isDg c.val = false → tkK (sgT c.val) = (if c.val < 40 then (if c.val = 45 then 3 else if c.val < 59 then 4 else if 61 < c.val then 4 else 3) else if c.val ≤ 43 then 3 else if c.val = 45 then 3 else if c.val < 59 then 4 else if 61 < c.val then 4 else 3) := by decide +kernel
theorem q_next {X : Tp} {p : Nat} {F M : Nat} {S : Mem} {V : Vw} {U : Uw} (h : shM S M) (hF : 2000 < F) (hX : okTp X) (hp : p ≤ X.1) (h2 : V 0 3 = nI X.1) (h3 : V 0 4 = nI p) (ht : mx V X) :
    ∃ V' U', fn_X9_nextToken F M (wM S M V U) = some ((), wM S M V' U') ∧ f0 V V' ∧ u0 U U' ∧ mL X p V' U' := by
  have h1 := hX.1
  obtain ⟨V1, e1, f1, g1⟩ := q_skip (F := F) (U := U) h hX (X.1 - p) p F V (by omega) (by omega) h2 h3 ht
  have g1 : V1 0 4 = nI (lB X p) := g1
  have hb := lB_b hp
  have he := lE_b hp
  unfold fn_X9_nextToken
  rw [e1]
  have n2 : V1 0 3 = nI X.1 := (f1.2 3 (by omega) (by omega) (by omega) (by omega)).trans h2
  have t1 : mx V1 X := ht.keep (f1.1 1 (by omega))
  unfold f_X9_nextToken_52
  have hfr : f0 V1 (u2 (u2 V1 0 5 (nI (lB X p))) 0 8 0) := (f0.u (by omega)).tr (f0.u (by omega))
  by_cases hn : lB X p < X.1
  · have hc := okTape_le (hX.2 (lB X p) hn)
    have e7 := t1 (lB X p) hn
    have i7 : inB (nI (lB X p)) 1000 := inB_n (by omega) (by decide)
    simp (disch := first | assumption | exact inB_n (by omega) (by decide) | exact inB_l (by omega) (by decide) | exact inB_al (by omega) (by decide) | exact inB_la (by omega) (by decide) | exact inB_j (by assumption) (by omega) (by decide) | exact inB_e (by assumption) (by decide) | omega) only [↓eM h, ↓bd_r, ↓lt_r, ↓Option.bind_some, ↓reduceIte, ix_nI, ix_l, nI_al, nI_la, nI_lm, u2_ne, u2_eq, nI_leI, nI_ltI, nI_eq, le_ln, le_nl, lt_ln, lt_nl, eq_nl, eq_ln, g1, n2, e7, if_neg (show ¬ lB X p = X.1 by omega)]
    have q2 : u2 (u2 V1 0 5 (nI (lB X p))) 0 8 0 0 3 = nI X.1 := by rw [u2_ne (by omega), u2_ne (by omega)]; exact n2
    have q3 : u2 (u2 V1 0 5 (nI (lB X p))) 0 8 0 0 4 = nI (lB X p) := by rw [u2_ne (by omega), u2_ne (by omega)]; exact g1
    have q4 : u2 (u2 V1 0 5 (nI (lB X p))) 0 8 0 0 5 = nI (lB X p) := by rw [u2_ne (by omega)]; exact u2_eq ⟨rfl, rfl⟩
    have q8 : u2 (u2 V1 0 5 (nI (lB X p))) 0 8 0 0 8 = 0 := u2_eq ⟨rfl, rfl⟩
    have q7 : u2 U 0 7 0 0 7 = 0 := u2_eq ⟨rfl, rfl⟩
    have qm : mx (u2 (u2 V1 0 5 (nI (lB X p))) 0 8 0) X := t1.keep (by rw [u2_row (by omega), u2_row (by omega)])
    have qu : u0 U (u2 U 0 7 0) := u0.u
    generalize u2 (u2 V1 0 5 (nI (lB X p))) 0 8 0 = V2 at hfr q2 q3 q4 q8 qm ⊢
    generalize u2 U 0 7 0 = U2 at q7 qu ⊢
    have sign : isLt (X.2 (lB X p)) = false → ∃ V' U', f_X9_nextToken_212 F M (nI (X.2 (lB X p))) (wM S M V2 U2) = some ((), wM S M V' U') ∧ f0 V V' ∧ u0 U U' ∧ mL X p V' U' := by
      intro hl
      unfold f_X9_nextToken_212
      cases hd : isDg (X.2 (lB X p)) with
      | true =>
        have hd2 := isDg_iff.mp hd
        rw [if_neg (fun q => by have : X.2 (lB X p) < 48 := (lt_nl (m := 48) (by decide) (by omega)).mp q; omega), if_neg (fun q => by have : 57 < X.2 (lB X p) := (lt_ln (m := 57) (by decide) (by omega)).mp q; omega)]
        have ew : lE X p = rnE isDg X.2 (X.1 - lB X p) (lB X p) := by unfold lE eAt; rw [if_pos hn, if_neg (by rw [hl]; decide), if_pos hd]
        have eT : lT X p = if lE X p - lB X p ≤ 4 then 26 else 36 := by
          unfold lT tAt
          rw [if_pos hn, if_neg (by rw [hl]; decide), if_pos hd]
          rfl
        obtain ⟨V3, a1, a2, a4, a5, a6⟩ := q_numL (b := lB X p) (F := F) (U := U2) h hX (X.1 - lB X p) (lB X p) F V2 (by omega) (Nat.le_refl _) (by omega) q2 q3 q4 qm (fun j hj => by omega) (fun _ => by rw [Nat.sub_self]; exact q8)
        rw [← ew] at a4 a6
        rw [a1]
        unfold f_X9_nextToken_299 f_X9_nextToken_318
        have e9 : nI (lE X p) - nI (lB X p) = nI (lE X p - lB X p) := pk_sub (by omega)
        simp (disch := first | assumption | exact inB_n (by omega) (by decide) | exact inB_l (by omega) (by decide) | exact inB_al (by omega) (by decide) | exact inB_la (by omega) (by decide) | exact inB_j (by assumption) (by omega) (by decide) | exact inB_e (by assumption) (by decide) | omega) only [↓eM h, ↓bd_r, ↓lt_r, ↓Option.bind_some, ↓reduceIte, ix_nI, ix_l, nI_al, nI_la, nI_lm, u2_ne, u2_eq, nI_leI, nI_ltI, nI_eq, le_ln, le_nl, lt_ln, lt_nl, eq_nl, eq_ln, a4, a5, e9]
        have fin : ∀ t : Nat, t = tkK (lT X p) → mL X p (u2 V3 0 6 (nI t)) U2 := fun t et => ⟨by rw [u2_ne (by omega), a2.2 3 (by omega) (by omega) (by omega) (by omega)]; exact q2, by rw [u2_ne (by omega)]; exact a4, by rw [u2_ne (by omega)]; exact a5, by rw [u2_eq ⟨rfl, rfl⟩, et], fun q => by rw [u2_ne (by omega)]; exact a6 (lT_num hp q).2.1, fun q => by
          exact Bool.noConfusion (hl.symm.trans (lT_word hp q).2.2.2.1)⟩
        by_cases h8 : lE X p - lB X p ≤ 4
        · rw [if_pos h8] at eT ⊢
          exact ⟨_, U2, rfl, ((f1.tr hfr).tr a2).tr (f0.u (by omega)), qu, fin 2 (by rw [eT]; rfl)⟩
        · rw [if_neg h8] at eT ⊢
          exact ⟨_, U2, rfl, ((f1.tr hfr).tr a2).tr (f0.u (by omega)), qu, fin 4 (by rw [eT]; rfl)⟩
      | false =>
        have eT : lT X p = sgT (X.2 (lB X p)) := by
          unfold lT tAt
          rw [if_pos hn, if_neg (by rw [hl]; decide), if_neg (by rw [hd]; decide)]
        have eE : lE X p = lB X p + 1 := by unfold lE eAt; rw [if_pos hn, if_neg (by rw [hl]; decide), if_neg (by rw [hd]; decide)]
        have fin : ∀ t : Nat, t = tkK (lT X p) → ∃ V' U', some ((), wM S M (u2 (u2 V2 0 4 (nI (lB X p + 1))) 0 6 (nI t)) U2) = some ((), wM S M V' U') ∧ f0 V V' ∧ u0 U U' ∧ mL X p V' U' := fun t et => ⟨_, U2, rfl, ((f1.tr hfr).tr (f0.u (k := 4) (by omega))).tr (f0.u (k := 6) (by omega)), qu, by rw [u2_ne (by omega), u2_ne (by omega)]; exact q2, by rw [u2_ne (by omega), u2_eq ⟨rfl, rfl⟩, eE], by rw [u2_ne (by omega), u2_ne (by omega)]; exact q4, by rw [u2_eq ⟨rfl, rfl⟩, et], fun q => Bool.noConfusion (hd.symm.trans (lT_num hp q).2.2.2.2), fun q => Bool.noConfusion (hl.symm.trans (lT_word hp q).2.2.2.1)⟩
        have et := tk_sign ⟨X.2 (lB X p), by omega⟩ hl hd
        have et : tkK (sgT (X.2 (lB X p))) = _ := et
        rw [← eT] at et
        have e22 : f_X9_nextToken_322 F M (nI (X.2 (lB X p))) (wM S M V2 U2) = some ((), wM S M (u2 (u2 V2 0 4 (nI (lB X p + 1))) 0 6 (nI (tkK (lT X p)))) U2) := by
          rw [et]
          unfold f_X9_nextToken_322 f_X9_nextToken_345 f_X9_nextToken_363 f_X9_nextToken_367 f_X9_nextToken_368
          simp (disch := first | assumption | exact inB_n (by omega) (by decide) | exact inB_l (by omega) (by decide) | exact inB_al (by omega) (by decide) | exact inB_la (by omega) (by decide) | exact inB_j (by assumption) (by omega) (by decide) | exact inB_e (by assumption) (by decide) | omega) only [↓eM h, ↓bd_r, ↓lt_r, ↓Option.bind_some, ↓reduceIte, ix_nI, ix_l, nI_al, nI_la, nI_lm, u2_ne, u2_eq, nI_leI, nI_ltI, nI_eq, le_ln, le_nl, lt_ln, lt_nl, eq_nl, eq_ln, q3]
          by_cases c1 : X.2 (lB X p) < 40 <;> by_cases c2 : X.2 (lB X p) ≤ 43 <;> by_cases c3 : X.2 (lB X p) = 45 <;> by_cases c4 : X.2 (lB X p) < 59 <;> by_cases c5 : 61 < X.2 (lB X p) <;> first | omega | (simp only [c1, c2, c3, c4, c5, if_true, if_false, ↓reduceIte]; rfl)
        have fin2 := fin _ rfl
        rw [← e22] at fin2
        have hne : ¬ (48 ≤ X.2 (lB X p) ∧ X.2 (lB X p) ≤ 57) := fun q => by rw [isDg_iff.mpr q] at hd; cases hd
        by_cases c1 : X.2 (lB X p) < 48
        · rw [if_pos ((lt_nl (m := 48) (by decide) (by omega)).mpr c1)]
          exact fin2
        · rw [if_neg (fun q => c1 ((lt_nl (m := 48) (by decide) (by omega)).mp q)), if_pos ((lt_ln (m := 57) (by decide) (by omega)).mpr (show 57 < X.2 (lB X p) by omega))]
          exact fin2
    by_cases h97 : X.2 (lB X p) < 97
    · rw [if_pos h97]
      exact sign (by unfold isLt; rw [decide_eq_false (by omega)]; rfl)
    rw [if_neg h97]
    by_cases h122 : 122 < X.2 (lB X p)
    · rw [if_pos h122]
      exact sign (by unfold isLt; rw [decide_eq_false (show ¬ X.2 (lB X p) ≤ 122 by omega), Bool.and_false])
    rw [if_neg h122]
    have hl : isLt (X.2 (lB X p)) = true := isLt_iff.mpr (by omega)
    have ew : lE X p = rnE isLt X.2 (X.1 - lB X p) (lB X p) := by unfold lE eAt; rw [if_pos hn, if_pos hl]
    have eT : lT X p = if lE X p - lB X p ≤ 8 then wTok (lW X p) else 36 := by
      unfold lT tAt
      rw [if_pos hn, if_pos hl]
      rfl
    obtain ⟨V3, U3, a1, a2, a3, a4, a5, a6⟩ := q_wordL (b := lB X p) (F := F) h hX (X.1 - lB X p) (lB X p) F V2 U2 (by omega) (Nat.le_refl _) (by omega) q2 q3 q4 qm (fun j hj => by omega) (fun _ => by rw [Nat.sub_self]; exact q7)
    rw [← ew] at a4 a6
    rw [a1]
    unfold f_X9_nextToken_188 f_X9_nextToken_208
    have e9 : nI (lE X p) - nI (lB X p) = nI (lE X p - lB X p) := pk_sub (by omega)
    simp (disch := first | assumption | exact inB_n (by omega) (by decide) | exact inB_l (by omega) (by decide) | exact inB_al (by omega) (by decide) | exact inB_la (by omega) (by decide) | exact inB_j (by assumption) (by omega) (by decide) | exact inB_e (by assumption) (by decide) | omega) only [↓eM h, ↓bd_r, ↓lt_r, ↓Option.bind_some, ↓reduceIte, ix_nI, ix_l, nI_al, nI_la, nI_lm, u2_ne, u2_eq, nI_leI, nI_ltI, nI_eq, le_ln, le_nl, lt_ln, lt_nl, eq_nl, eq_ln, a4, a5, e9]
    have fin : ∀ t : Nat, t = tkK (lT X p) → mL X p (u2 V3 0 6 (nI t)) U3 := fun t et => ⟨by rw [u2_ne (by omega), a2.2 3 (by omega) (by omega) (by omega) (by omega)]; exact q2, by rw [u2_ne (by omega)]; exact a4, by rw [u2_ne (by omega)]; exact a5, by rw [u2_eq ⟨rfl, rfl⟩, et], fun q => Bool.noConfusion ((lT_num hp q).2.2.2.1.symm.trans hl), fun q => a6 (lT_word hp q).2.1⟩
    by_cases h8 : lE X p - lB X p ≤ 8
    · rw [if_pos h8] at eT ⊢
      have h25 := wTok_le (lW X p)
      exact ⟨_, U3, rfl, ((f1.tr hfr).tr a2).tr (f0.u (by omega)), qu.tr a3, fin 1 (by rw [eT]; exact (if_pos h25).symm)⟩
    · rw [if_neg h8] at eT ⊢
      exact ⟨_, U3, rfl, ((f1.tr hfr).tr a2).tr (f0.u (by omega)), qu.tr a3, fin 4 (by rw [eT]; rfl)⟩
  · have eT : lT X p = 35 := by unfold lT tAt; rw [if_neg hn]
    have eE : lE X p = lB X p := by unfold lE eAt; rw [if_neg hn]
    simp (disch := first | assumption | exact inB_n (by omega) (by decide) | exact inB_l (by omega) (by decide) | exact inB_al (by omega) (by decide) | exact inB_la (by omega) (by decide) | exact inB_j (by assumption) (by omega) (by decide) | exact inB_e (by assumption) (by decide) | omega) only [↓eM h, ↓bd_r, ↓lt_r, ↓Option.bind_some, ↓reduceIte, ix_nI, ix_l, nI_al, nI_la, nI_lm, u2_ne, u2_eq, nI_leI, nI_ltI, nI_eq, le_ln, le_nl, lt_ln, lt_nl, eq_nl, eq_ln, g1, n2, if_pos (show lB X p = X.1 by omega)]
    refine ⟨_, _, rfl, (f1.tr hfr).tr (f0.u (k := 6) (by omega)), u0.u, ?_, ?_, ?_, ?_, fun q => ?_, fun q => ?_⟩
    · rw [u2_ne (by omega), u2_ne (by omega), u2_ne (by omega)]; exact n2
    · rw [u2_ne (by omega), u2_ne (by omega), u2_ne (by omega), eE]; exact g1
    · rw [u2_ne (by omega), u2_ne (by omega), u2_eq ⟨rfl, rfl⟩]
    · rw [u2_eq ⟨rfl, rfl⟩, eT]; rfl
    · omega
    · omega
