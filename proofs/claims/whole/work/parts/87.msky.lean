/-! the model's sky -/
theorem q_stat {X : Tp} {s : SkR} {p : Nat} {k : Nat → Mem → Option (Int32 × Mem)} {F M : Nat} {S : Mem} {V : Vw} {U : Uw} (h : shM S M) (hF : 10000 < F) (hX : okTp X) (hw9 : wfZ X s) (hp : p ≤ X.1) (h35 : lT X p ≠ 35) (hG : mG X s p V U) :
    ∃ Y, mOut X (pStat X p s) S M V U Y ∧ b_X9_readsAll_39 F k M (wM S M V U) = bd Y (fun v T => f_X9_readsAll_188 F k M v T) := by
  have hL := hG.1
  have ht := hG.2.1
  have hT := lT_le (X := X) (p := p)
  have et := mL_tok (x := 0) (n := 0) hL rfl (by omega)
  have w0 : fn_X9_isWord F M 459652 (wM S M V U) = some (b1 (decide (lT X p = 0)), wM S M V U) := q_isWordD (i := 0) h hp hL (by decide) rfl
  have w1 : fn_X9_isWord F M 369932 (wM S M V U) = some (b1 (decide (lT X p = 1)), wM S M V U) := q_isWordD (i := 1) h hp hL (by decide) rfl
  have w2 : fn_X9_isWord F M 237292 (wM S M V U) = some (b1 (decide (lT X p = 2)), wM S M V U) := q_isWordD (i := 2) h hp hL (by decide) rfl
  have w3 : fn_X9_isWord F M 158772 (wM S M V U) = some (b1 (decide (lT X p = 3)), wM S M V U) := q_isWordD (i := 3) h hp hL (by decide) rfl
  have w4 : fn_X9_isWord F M 10819228 (wM S M V U) = some (b1 (decide (lT X p = 4)), wM S M V U) := q_isWordD (i := 4) h hp hL (by decide) rfl
  have w5 : fn_X9_isWord F M 4147840 (wM S M V U) = some (b1 (decide (lT X p = 5)), wM S M V U) := q_isWordD (i := 5) h hp hL (by decide) rfl
  have w6 : fn_X9_isWord F M 223619 (wM S M V U) = some (b1 (decide (lT X p = 6)), wM S M V U) := q_isWordD (i := 6) h hp hL (by decide) rfl
  have est : pStat X p s = stR (pStat0 X p s) X := rfl
  rw [est]
  unfold b_X9_readsAll_39 pStat0
  simp only [↓eM h, w0, w1, w2, w3, w4, w5, w6, ↓bd_r, b1_0]
  rw [if_neg (fun q => h35 (tkK_0.mp (et.mp q)))]
  by_cases h6 : lT X p = 6
  · rw [if_pos h6]
    refine ⟨_, q_kite (F := F) h hF hX hw9 hp h6 hG, ?_⟩
    rw [if_pos (show ¬ lT X p = 0 by omega), if_pos (show ¬ lT X p = 1 by omega), if_pos (show ¬ lT X p = 2 by omega), if_pos (show ¬ lT X p = 3 by omega), if_pos (show ¬ lT X p = 4 by omega), if_pos (show ¬ lT X p = 5 by omega), if_neg (fun q => q h6)]
  · rw [if_neg h6]
    by_cases h5 : lT X p ≤ 5
    · rw [if_pos h5]
      rcases (by omega : lT X p = 0 ∨ lT X p = 1 ∨ lT X p = 2 ∨ lT X p = 3 ∨ lT X p = 4 ∨ lT X p = 5) with e | e | e | e | e | e
      · rw [e]
        refine ⟨_, q_lawS (F := F) (l := 0) (x1 := 0) h hF hX hw9 hp (by omega) rfl e hG, ?_⟩
        rw [if_neg (by decide)]
      · rw [e]
        refine ⟨_, q_lawS (F := F) (l := 1) (x1 := 1) h hF hX hw9 hp (by omega) rfl e hG, ?_⟩
        rw [if_pos (by decide), if_neg (by decide)]
      · rw [e]
        refine ⟨_, q_one (F := F) (w := 0) (x1 := 0) (x2 := 0) (x3 := 999) h hF hX hw9 hp (by omega) rfl rfl rfl e hG, ?_⟩
        rw [if_pos (by decide), if_pos (by decide), if_neg (by decide)]
      · rw [e]
        refine ⟨_, q_one (F := F) (w := 1) (x1 := 1) (x2 := 1) (x3 := 5) h hF hX hw9 hp (by omega) rfl rfl rfl e hG, ?_⟩
        rw [if_pos (by decide), if_pos (by decide), if_pos (by decide), if_neg (by decide)]
      · rw [e]
        refine ⟨_, q_one (F := F) (w := 2) (x1 := 2) (x2 := 1) (x3 := 20) h hF hX hw9 hp (by omega) rfl rfl rfl e hG, ?_⟩
        rw [if_pos (by decide), if_pos (by decide), if_pos (by decide), if_pos (by decide), if_neg (by decide)]
      · rw [e]
        refine ⟨_, q_one (F := F) (w := 3) (x1 := 3) (x2 := 0) (x3 := 50) h hF hX hw9 hp (by omega) rfl rfl rfl e hG, ?_⟩
        rw [if_pos (by decide), if_pos (by decide), if_pos (by decide), if_pos (by decide), if_pos (by decide), if_neg (by decide)]
    · rw [if_neg h5]
      refine ⟨fn_X9_fails F M 1 (wM S M V U), mOut_bad rfl (q_fails (k := 1) (x := 1) h hL rfl) (frS.u (by omega)) uS.rf (u2_eq ⟨rfl, rfl⟩), ?_⟩
      rw [if_pos (show ¬ lT X p = 0 by omega), if_pos (show ¬ lT X p = 1 by omega), if_pos (show ¬ lT X p = 2 by omega), if_pos (show ¬ lT X p = 3 by omega), if_pos (show ¬ lT X p = 4 by omega), if_pos (show ¬ lT X p = 5 by omega), if_pos h6]
theorem q_all {X : Tp} {F M : Nat} {S : Mem} (h : shM S M) (hF : 10000 < F) (hX : okTp X) : ∀ (n p fu : Nat) (s : SkR) (V : Vw) (U : Uw), X.1 < n + p → p ≤ X.1 → 1002 < fu + p → mG X s p V U → wfZ X s →
    ∃ V' U', fix1 (b_X9_readsAll_39 F) fu M (wM S M V U) = some (b1 (isR (pSky X n p s)), wM S M V' U') ∧ frS V V' ∧ uS U U' ∧ (∀ k, pSky X n p s = .inl k → V' 0 9 = nI k) ∧ ∀ s', pSky X n p s = .inr s' → ∃ p', p' ≤ X.1 ∧ mG X s' p' V' U' ∧ wfZ X s' := by
  have hX1 := hX.1
  intro n
  induction n with
  | zero => intro p fu s V U h1 h2; omega
  | succ n ih =>
    intro p fu s V U h1 h2 h3 hG hw
    obtain ⟨fu, rfl⟩ : ∃ f', fu = f' + 1 := ⟨fu - 1, by omega⟩
    show ∃ V' U', b_X9_readsAll_39 F (fix1 (b_X9_readsAll_39 F) fu) M (wM S M V U) = _ ∧ _
    unfold pSky
    by_cases h35 : lT X p = 35
    · rw [if_pos h35]
      refine ⟨V, U, ?_, frS.rf, uS.rf, fun k e => (by cases e), fun s' e => (by cases e; exact ⟨p, h2, hG, hw⟩)⟩
      have et := mL_tok (x := 0) (n := 0) hG.1 rfl (by omega)
      unfold b_X9_readsAll_39
      simp only [↓eM h]
      rw [if_pos (et.mpr (tkK_0.mpr h35)), rz_1]
      rfl
    · rw [if_neg h35]
      obtain ⟨Y, ⟨V1, U1, y1, y2, y3, y4, y5⟩, e9⟩ := q_stat (F := F) (k := fix1 (b_X9_readsAll_39 F) fu) h hF hX hw h2 h35 hG
      rw [e9, y1, bd_r]
      unfold f_X9_readsAll_188
      cases hs : pStat X p s with
      | inl k =>
        rw [if_pos (show b1 (isR (Sum.inl k : Sum Nat (Nat × SkR))) = 0 from rfl), rz_0]
        exact ⟨V1, U1, rfl, y2, y3, fun k' e => (by cases e; exact y4 k hs), fun s' e => (by cases e)⟩
      | inr z =>
        obtain ⟨q, s1⟩ := z
        rw [if_neg (show ¬ b1 (isR (Sum.inr (q, s1) : Sum Nat (Nat × SkR))) = 0 from (by decide : ¬ (1 : Int32) = 0))]
        obtain ⟨w1, w2, w3⟩ := pStat_wf h2 hw hs
        obtain ⟨V', U', a1, a2, a3, a4, a5⟩ := ih q fu s1 V1 U1 (by omega) w2 (by omega) (y5 q s1 hs) w3
        exact ⟨V', U', a1, y2.tr a2, y3.tr a3, a4, a5⟩
theorem q_plain {r : Nat} {F M : Nat} {S : Mem} {V : Vw} {U : Uw} (h : shM S M) (hF : 10 < F) (hr : r < 6) : ∃ V', fn_X9_plain F M (nI r) (wM S M V U) = some ((), wM S M V' U) ∧ (V' 2 (5 * r) = 20 ∧ V' 2 (5 * r + 1) = 2 ∧ V' 2 (5 * r + 2) = 5 ∧ V' 2 (5 * r + 3) = 0 ∧ V' 2 (5 * r + 4) = 0) ∧ (V' 9 (2 * r) = nI (1000 * r) ∧ V' 9 (2 * r + 1) = nI (1000 * r) ∧ V' 10 (2 * r) = nI (1000 * r) ∧ V' 10 (2 * r + 1) = nI (1000 * r)) ∧ (∀ j, j ≠ 2 → j ≠ 9 → j ≠ 10 → V' j = V j) ∧ (∀ i, i < 5 * r ∨ 5 * r + 5 ≤ i → V' 2 i = V 2 i) ∧ ∀ i, i < 2 * r ∨ 2 * r + 2 ≤ i → V' 9 i = V 9 i ∧ V' 10 i = V 10 i := by
  obtain ⟨f, hf⟩ : ∃ f, F = f + 3 := ⟨F - 3, by omega⟩
  have lp : ∀ W, fix3 (b_X9_plain_58 F) F M (nI r) (nI 0) (wM S M W U) = some ((), wM S M (u2 (u2 (u2 (u2 W 9 (2 * r) (nI (1000 * r))) 10 (2 * r) (nI (1000 * r))) 9 (2 * r + 1) (nI (1000 * r))) 10 (2 * r + 1) (nI (1000 * r))) U) := by
    intro W
    have st2 : ∀ W, fix3 (b_X9_plain_58 F) (f + 1) M (nI r) (nI 2) (wM S M W U) = some ((), wM S M W U) := fun W => rfl
    have st1 : ∀ W, fix3 (b_X9_plain_58 F) (f + 2) M (nI r) (nI 1) (wM S M W U) = some ((), wM S M (u2 (u2 W 9 (2 * r + 1) (nI (1000 * r))) 10 (2 * r + 1) (nI (1000 * r))) U) := by
      intro W
      show b_X9_plain_58 F (fix3 (b_X9_plain_58 F) (f + 1)) M (nI r) (nI 1) (wM S M W U) = _
      generalize fix3 (b_X9_plain_58 F) (f + 1) = k4 at st2 ⊢
      unfold b_X9_plain_58
      rw [if_neg (by decide)]
      simp only [nI_lm, nI_add, nI_1]
      simp (disch := first | assumption | exact inB_n (by omega) (by decide) | exact inB_l (by omega) (by decide) | exact inB_al (by omega) (by decide) | exact inB_la (by omega) (by decide) | exact inB_j (by assumption) (by omega) (by decide) | exact inB_e (by assumption) (by decide) | omega) only [↓eM h, ↓bd_r, ↓lt_r, ↓Option.bind_some, ↓reduceIte, ix_nI, ix_l, nI_al, nI_la, nI_lm, u2_ne, u2_eq, nI_leI, nI_ltI, nI_eq, le_ln, le_nl, lt_ln, lt_nl, eq_nl, eq_ln, st2]
    rw [show fix3 (b_X9_plain_58 F) F M (nI r) (nI 0) (wM S M W U) = fix3 (b_X9_plain_58 F) (f + 3) M (nI r) (nI 0) (wM S M W U) from by rw [← hf]]
    show b_X9_plain_58 F (fix3 (b_X9_plain_58 F) (f + 2)) M (nI r) (nI 0) (wM S M W U) = _
    generalize fix3 (b_X9_plain_58 F) (f + 2) = k4 at st1 ⊢
    unfold b_X9_plain_58
    rw [if_neg (by decide)]
    simp only [nI_lm, nI_add, nI_1]
    simp (disch := first | assumption | exact inB_n (by omega) (by decide) | exact inB_l (by omega) (by decide) | exact inB_al (by omega) (by decide) | exact inB_la (by omega) (by decide) | exact inB_j (by assumption) (by omega) (by decide) | exact inB_e (by assumption) (by decide) | omega) only [↓eM h, ↓bd_r, ↓lt_r, ↓Option.bind_some, ↓reduceIte, ix_nI, ix_l, nI_al, nI_la, nI_lm, u2_ne, u2_eq, nI_leI, nI_ltI, nI_eq, le_ln, le_nl, lt_ln, lt_nl, eq_nl, eq_ln, Nat.add_zero]
    rw [show (0 + 1 : Nat) = 1 from rfl]
    rw [st1 _]
  refine ⟨u2 (u2 (u2 (u2 (u2 (u2 (u2 (u2 (u2 V 2 (5 * r) 20) 2 (5 * r + 1) 2) 2 (5 * r + 2) 5) 2 (5 * r + 3) 0) 2 (5 * r + 4) 0) 9 (2 * r) (nI (1000 * r))) 10 (2 * r) (nI (1000 * r))) 9 (2 * r + 1) (nI (1000 * r))) 10 (2 * r + 1) (nI (1000 * r)), ?_, ⟨?_, ?_, ?_, ?_, ?_⟩, ⟨?_, ?_, ?_, ?_⟩, fun j h2 h9 h10 => ?_, fun i hi => ?_, fun i hi => ⟨?_, ?_⟩⟩
  · rw [← lp]
    unfold fn_X9_plain
    simp (disch := first | assumption | exact inB_n (by omega) (by decide) | exact inB_l (by omega) (by decide) | exact inB_al (by omega) (by decide) | exact inB_la (by omega) (by decide) | exact inB_j (by assumption) (by omega) (by decide) | exact inB_e (by assumption) (by decide) | omega) only [↓eM h, ↓bd_r, ↓lt_r, ↓Option.bind_some, ↓reduceIte, ix_nI, ix_l, nI_al, nI_la, nI_lm, u2_ne, u2_eq, nI_leI, nI_ltI, nI_eq, le_ln, le_nl, lt_ln, lt_nl, eq_nl, eq_ln, Nat.add_zero]
    rfl
  all_goals first | (simp (disch := omega) only [u2_ne, u2_eq]; done) | (rw [u2_row h10, u2_row h9, u2_row h10, u2_row h9, u2_row h2, u2_row h2, u2_row h2, u2_row h2, u2_row h2])
theorem q_sky46 {n : Nat} {F M : Nat} {S : Mem} {U : Uw} (h : shM S M) (hn : n ≤ 6) : ∀ (d i fu : Nat) (V : Vw), i + d = n → d < fu → V 2 4 = nI n → ∃ V', fix2 (b_X9_sky_46 F) fu M (nI i) (wM S M V U) = some (0, wM S M V' U) ∧ (∀ j, j ≠ 24 → V' j = V j) ∧ ∀ k, V' 24 k = if i ≤ k ∧ k < n then V 7 k else V 24 k := by
  intro d
  induction d with
  | zero =>
    intro i fu V hi hf h4
    obtain ⟨fu, rfl⟩ : ∃ f', fu = f' + 1 := ⟨fu - 1, by omega⟩
    obtain rfl : i = n := by omega
    refine ⟨V, ?_, fun _ _ => rfl, fun k => by rw [if_neg (by omega)]⟩
    show b_X9_sky_46 F (fix2 (b_X9_sky_46 F) fu) M (nI i) (wM S M V U) = _
    unfold b_X9_sky_46
    simp (disch := first | assumption | exact inB_n (by omega) (by decide) | exact inB_l (by omega) (by decide) | exact inB_al (by omega) (by decide) | exact inB_la (by omega) (by decide) | exact inB_j (by assumption) (by omega) (by decide) | exact inB_e (by assumption) (by decide) | omega) only [↓eM h, ↓bd_r, ↓lt_r, ↓Option.bind_some, ↓reduceIte, ix_nI, ix_l, nI_al, nI_la, nI_lm, u2_ne, u2_eq, nI_leI, nI_ltI, nI_eq, le_ln, le_nl, lt_ln, lt_nl, eq_nl, eq_ln, h4, Nat.le_refl]
  | succ d ih =>
    intro i fu V hi hf h4
    obtain ⟨fu, rfl⟩ : ∃ f', fu = f' + 1 := ⟨fu - 1, by omega⟩
    obtain ⟨V', a1, a2, a3⟩ := ih (i + 1) fu (u2 V 24 i (V 7 i)) (by omega) (by omega) (by rw [u2_ne (by omega)]; exact h4)
    have e1 : nI i + (1 : Int32) = nI (i + 1) := nI_1 i
    refine ⟨V', ?_, fun j hj => by rw [a2 j hj, u2_row hj], fun k => ?_⟩
    · show b_X9_sky_46 F (fix2 (b_X9_sky_46 F) fu) M (nI i) (wM S M V U) = _
      generalize fix2 (b_X9_sky_46 F) fu = k2 at a1 ⊢
      unfold b_X9_sky_46
      simp (disch := first | assumption | exact inB_n (by omega) (by decide) | exact inB_l (by omega) (by decide) | exact inB_al (by omega) (by decide) | exact inB_la (by omega) (by decide) | exact inB_j (by assumption) (by omega) (by decide) | exact inB_e (by assumption) (by decide) | omega) only [↓eM h, ↓bd_r, ↓lt_r, ↓Option.bind_some, ↓reduceIte, ix_nI, ix_l, nI_al, nI_la, nI_lm, u2_ne, u2_eq, nI_leI, nI_ltI, nI_eq, le_ln, le_nl, lt_ln, lt_nl, eq_nl, eq_ln, h4, if_neg (show ¬ n ≤ i by omega), e1, a1]
    · rw [a3 k]
      by_cases hk : k = i
      · subst hk
        rw [if_neg (by omega), u2_eq ⟨rfl, rfl⟩, if_pos (by omega)]
      · by_cases hc : i + 1 ≤ k ∧ k < n
        · rw [if_pos hc, if_pos (by omega), u2_ne (by omega)]
        · rw [if_neg hc, if_neg (by omega), u2_ne (by omega)]
theorem q_sky25 {n : Nat} {F M : Nat} {S : Mem} {U : Uw} (h : shM S M) (hF : 10000 < F) (hn : n ≤ 6) : ∀ (d i fu : Nat) (V : Vw), i + d = 64 → d < fu → V 2 4 = nI n → ∃ V', fix2 (b_X9_sky_25 F) fu M (nI i) (wM S M V U) = some (0, wM S M V' U) ∧ (∀ j, j ≠ 24 → V' j = V j) ∧ ∀ k, k < 64 → V' 24 k = if k < n then V 7 k else if i ≤ k then 0 else V 24 k := by
  intro d
  induction d with
  | zero =>
    intro i fu V hi hf h4
    obtain ⟨fu, rfl⟩ : ∃ f', fu = f' + 1 := ⟨fu - 1, by omega⟩
    obtain rfl : i = 64 := by omega
    obtain ⟨V', a1, a2, a3⟩ := q_sky46 (F := F) (U := U) h hn n 0 F V (by omega) (by omega) h4
    refine ⟨V', ?_, a2, fun k hk => ?_⟩
    · show b_X9_sky_25 F (fix2 (b_X9_sky_25 F) fu) M (nI 64) (wM S M V U) = _
      unfold b_X9_sky_25
      rw [if_pos (by decide)]
      exact a1
    · rw [a3 k]
      by_cases hc : k < n
      · rw [if_pos (by omega), if_pos hc]
      · rw [if_neg (by omega), if_neg hc, if_neg (by omega)]
  | succ d ih =>
    intro i fu V hi hf h4
    obtain ⟨fu, rfl⟩ : ∃ f', fu = f' + 1 := ⟨fu - 1, by omega⟩
    obtain ⟨V', a1, a2, a3⟩ := ih (i + 1) fu (u2 V 24 i 0) (by omega) (by omega) (by rw [u2_ne (by omega)]; exact h4)
    have e1 : nI i + (1 : Int32) = nI (i + 1) := nI_1 i
    refine ⟨V', ?_, fun j hj => by rw [a2 j hj, u2_row hj], fun k hk => ?_⟩
    · show b_X9_sky_25 F (fix2 (b_X9_sky_25 F) fu) M (nI i) (wM S M V U) = _
      generalize fix2 (b_X9_sky_25 F) fu = k2 at a1 ⊢
      unfold b_X9_sky_25
      simp (disch := first | assumption | exact inB_n (by omega) (by decide) | exact inB_l (by omega) (by decide) | exact inB_al (by omega) (by decide) | exact inB_la (by omega) (by decide) | exact inB_j (by assumption) (by omega) (by decide) | exact inB_e (by assumption) (by decide) | omega) only [↓eM h, ↓bd_r, ↓lt_r, ↓Option.bind_some, ↓reduceIte, ix_nI, ix_l, nI_al, nI_la, nI_lm, u2_ne, u2_eq, nI_leI, nI_ltI, nI_eq, le_ln, le_nl, lt_ln, lt_nl, eq_nl, eq_ln, if_neg (show ¬ 64 ≤ i by omega), e1, a1]
    · rw [a3 k hk]
      by_cases hc : k < n
      · rw [if_pos hc, if_pos hc, u2_ne (by omega)]
      · rw [if_neg hc, if_neg hc]
        by_cases hki : k = i
        · subst hki
          rw [if_neg (by omega), u2_eq ⟨rfl, rfl⟩, if_pos (by omega)]
        · by_cases hc2 : i + 1 ≤ k
          · rw [if_pos hc2, if_pos (by omega)]
          · rw [if_neg hc2, if_neg (by omega), u2_ne (by omega)]
theorem mSky_fr {V V' : Vw} {r : Nat} {K : SkyT} (hK : mSky V r K) (hn : kN K ≤ 6) (hr : r = 0 ∨ 2 ≤ r) (f2 : ∀ i, i < 5 ∨ 10 ≤ i → V' 2 i = V 2 i) (f3 : ∀ j, 3 ≤ j → j ≤ 7 → ∀ i, i < 6 ∨ 12 ≤ i → V' j i = V j i) (f9 : ∀ j, j = 9 ∨ j = 10 → ∀ i, i < 2 ∨ 4 ≤ i → V' j i = V j i) (f11 : ∀ i, i < 1000 ∨ 2000 ≤ i → V' 11 i = V 11 i) : mSky V' r K := by
  obtain ⟨h1, h2, h3, h4⟩ := hK
  refine ⟨⟨by rw [f2 _ (by omega)]; exact h1.1, by rw [f2 _ (by omega)]; exact h1.2.1, by rw [f2 _ (by omega)]; exact h1.2.2.1, by rw [f2 _ (by omega)]; exact h1.2.2.2.1, by rw [f2 _ (by omega)]; exact h1.2.2.2.2⟩, fun k hk => ?_, h3.stay (f9 9 (by omega) _ (by omega)) (f9 10 (by omega) _ (by omega)) (fun k hk => f11 _ (by omega)), h4.stay (f9 9 (by omega) _ (by omega)) (f9 10 (by omega) _ (by omega)) (fun k hk => f11 _ (by omega))⟩
  have q := h2 k hk
  rw [f3 3 (by omega) (by omega) _ (by omega), f3 4 (by omega) (by omega) _ (by omega), f3 5 (by omega) (by omega) _ (by omega), f3 6 (by omega) (by omega) _ (by omega)]
  exact q
theorem mb_sky {X : Tp} {F M : Nat} {S : Mem} {V : Vw} {U : Uw} (h : shM S M) (hF : 10000 < F) (hX : okTp X) (hT : V 0 1 = nI X.1) (hx : mx V X) :
    ∃ V' U', fn_X9_sky F M (wM S M V U) = some (nI (skF (pSky X 1001 0 sk0)), wM S M V' U') ∧ V' 0 1 = 0 ∧ (V' 1 = V 1 ∧ V' 26 = V 26 ∧ V' 31 = V 31) ∧ (∀ r K, 2 ≤ r → mSky V r K → kN K ≤ 6 → mSky V' r K) ∧ match pSky X 1001 0 sk0 with
      | .inl k => (∀ K, mSky V 0 K → kN K ≤ 6 → mSky V' 0 K) ∧ V' 24 = V 24
      | .inr s => mSky V' 0 (skK s) ∧ mS V' (skS s) := by
  have hX1 := hX.1
  obtain ⟨V1, p1, p2, p3, p4, p5, p6⟩ := q_plain (F := F) (r := 1) (V := u2 V 0 0 0) (U := U) h (by omega) (by omega)
  have p1 : fn_X9_plain F M 1 (wM S M (u2 V 0 0 0) U) = some ((), wM S M V1 U) := p1
  have r0 : ∀ k, k ≠ 0 → V1 0 k = V 0 k := fun k hk => by rw [p4 0 (by omega) (by omega) (by omega), u2_ne (by omega)]
  have t1 : mx V1 X := hx.keep (by rw [p4 1 (by omega) (by omega) (by omega), u2_row (by omega)])
  obtain ⟨V3, U3, a1, a2, a3, a4⟩ := q_next (p := 0) (F := F) (U := U) (V := u2 (u2 (u2 (u2 (u2 V1 0 21 0) 0 20 1000) 0 3 (nI X.1)) 0 1 0) 0 4 0) h (by omega) hX (by omega) (by rw [u2_ne (by omega), u2_ne (by omega), u2_eq ⟨rfl, rfl⟩]) (u2_eq ⟨rfl, rfl⟩) (t1.keep (by rw [u2_row (by omega), u2_row (by omega), u2_row (by omega), u2_row (by omega), u2_row (by omega)]))
  have row : ∀ j, j ≠ 0 → V3 j = V1 j := fun j hj => by rw [a2.1 j hj, u2_row hj, u2_row hj, u2_row hj, u2_row hj, u2_row hj]
  have v0 : ∀ k, k ≠ 4 → k ≠ 5 → k ≠ 6 → k ≠ 8 → V3 0 k = u2 (u2 (u2 (u2 (u2 V1 0 21 0) 0 20 1000) 0 3 (nI X.1)) 0 1 0) 0 4 0 0 k := fun k h4 h5 h6 h8 => a2.2 k h4 h5 h6 h8
  have hG : mG X sk0 0 V3 U3 := by
    have l2 : lnM V3 2 1000 none := ⟨1000, 1000, by rw [row 9 (by omega)]; exact p3.1, by rw [row 10 (by omega)]; exact p3.2.2.1, by omega, by omega, by omega, rfl⟩
    have l3 : lnM V3 3 1000 none := ⟨1000, 1000, by rw [row 9 (by omega)]; exact p3.2.1, by rw [row 10 (by omega)]; exact p3.2.2.2, by omega, by omega, by omega, rfl⟩
    refine ⟨a4, t1.keep (row 1 (by omega)), ⟨?_, ?_, ?_, ?_, ?_⟩, fun k hk => absurd hk (by show ¬ k < 0; omega), ?_, 1000, ?_, by omega, by omega, l2, l3⟩
    · rw [row 2 (by omega)]; exact p2.1
    · rw [row 2 (by omega)]; exact p2.2.1
    · rw [row 2 (by omega)]; exact p2.2.2.1
    · rw [row 2 (by omega)]; exact p2.2.2.2.1
    · rw [row 2 (by omega)]; exact p2.2.2.2.2
    · rw [v0 21 (by omega) (by omega) (by omega) (by omega), u2_ne (by omega), u2_ne (by omega), u2_ne (by omega), u2_ne (by omega), u2_eq ⟨rfl, rfl⟩]; rfl
    · rw [v0 20 (by omega) (by omega) (by omega) (by omega), u2_ne (by omega), u2_ne (by omega), u2_ne (by omega), u2_eq ⟨rfl, rfl⟩]; rfl
  obtain ⟨V4, U4, c1, c2, c3, c4, c5⟩ := q_all (F := F) h hF hX 1001 0 F sk0 V3 U3 (by omega) (by omega) (by omega) hG wfZ_0
  have e9 : fn_X9_readsAll F M (wM S M (u2 V 0 0 0) U) = some (b1 (isR (pSky X 1001 0 sk0)), wM S M V4 U4) := by
    unfold fn_X9_readsAll
    simp only [↓eM h, p1, ↓bd_r, u2_ne, u2_eq]
    have e1 : u2 (u2 V1 0 21 0) 0 20 1000 0 1 = nI X.1 := by rw [u2_ne (by omega), u2_ne (by omega), r0 1 (by omega)]; exact hT
    simp only [e1, a1, ↓bd_r]
    exact c1
  -- rows
  have g1 : ∀ j, j = 1 ∨ 14 ≤ j → V4 j = V j := fun j hj => by rw [c2.1 j hj, row j (by omega), p4 j (by omega) (by omega) (by omega), u2_row (by omega)]
  have g2 : ∀ i, i < 5 ∨ 10 ≤ i → V4 2 i = V 2 i := fun i hi => by rw [c2.2.1 i hi, row 2 (by omega), p5 i (by omega), u2_ne (by omega)]
  have g3 : ∀ j, 3 ≤ j → j ≤ 7 → ∀ i, i < 6 ∨ 12 ≤ i → V4 j i = V j i := fun j h1 h2 i hi => by rw [c2.2.2.1 j h1 h2 i hi, row j (by omega), p4 j (by omega) (by omega) (by omega), u2_ne (by omega)]
  have g9 : ∀ j, j = 9 ∨ j = 10 → ∀ i, i < 2 ∨ 4 ≤ i → V4 j i = V j i := fun j hj i hi => by
    have q := p6 i (by omega)
    rw [c2.2.2.2.1 j hj i hi, row j (by omega)]
    rcases hj with rfl | rfl
    · rw [q.1, u2_ne (by omega)]
    · rw [q.2, u2_ne (by omega)]
  have g11 : ∀ i, i < 1000 ∨ 2000 ≤ i → V4 11 i = V 11 i := fun i hi => by rw [c2.2.2.2.2.1 i hi, row 11 (by omega), p4 11 (by omega) (by omega) (by omega), u2_ne (by omega)]
  have g01 : V4 0 1 = 0 := by rw [c2.2.2.2.2.2 1 (by omega), v0 1 (by omega) (by omega) (by omega) (by omega), u2_ne (by omega), u2_eq ⟨rfl, rfl⟩]
  have e0 : fn_X9_sky F M (wM S M V U) = if b1 (isR (pSky X 1001 0 sk0)) = 0 then some (V4 0 9, wM S M V4 U4) else bd (fn_X9_lays F M 1 0 (wM S M V4 U4)) (fun _ S5 => fix2 (b_X9_sky_25 F) F M (0 : Int32) S5) := by
    unfold fn_X9_sky
    simp only [↓eM h, e9, ↓bd_r]
  rw [e0]
  cases hs : pSky X 1001 0 sk0 with
  | inl k =>
    rw [if_pos (show b1 (isR (Sum.inl k : Sum Nat SkR)) = 0 from rfl), c4 k hs]
    exact ⟨V4, U4, rfl, g01, ⟨g1 1 (by omega), g1 26 (by omega), g1 31 (by omega)⟩, fun r K hr hK hn => mSky_fr hK hn (Or.inr hr) g2 g3 g9 g11, fun K hK hn => mSky_fr hK hn (Or.inl rfl) g2 g3 g9 g11, g1 24 (by omega)⟩
  | inr s =>
    rw [if_neg (show ¬ b1 (isR (Sum.inr s : Sum Nat SkR)) = 0 from (by decide : ¬ (1 : Int32) = 0))]
    obtain ⟨p', hp', hG', hw⟩ := c5 s hs
    obtain ⟨hL, ht, hV, hk, h21, nc, h20, hnc1, hnc2, hl2, hl3⟩ := hG'
    have hn6 := hw.1
    have ml : ∀ i f, lnM V4 i nc f → mLaw V4 i 1 True f := by
      intro i f ⟨a, b, x1, x2, x3, x4, x5, x6⟩
      exact ⟨a, b, x1, x2, by omega, x4, by omega, x6⟩
    have hK1 : mSky V4 1 (skK s) := ⟨hV, fun k hk' => by
      have q := (hk k hk').1
      exact ⟨q 1 (by omega) (by omega), q 2 (by omega) (by omega), q 3 (by omega) (by omega), q 4 (by omega) (by omega)⟩, by rw [sk_wlF hw]; exact ml 2 _ hl2, by rw [sk_rlF hw]; exact ml 3 _ hl3⟩
    obtain ⟨V5, d1, d2, d3, d4, d5⟩ := q_lays (F := F) (U := U4) (fr := 1) (to := 0) h (by omega) (by omega) (by omega) (by omega) hK1 hn6
    have d1 : fn_X9_lays F M 1 0 (wM S M V4 U4) = some ((), wM S M V5 U4) := d1
    obtain ⟨V6, f1, f2, f3⟩ := q_sky25 (F := F) (U := U4) (n := zN s) h hF hn6 64 0 F V5 (by omega) (by omega) d4.1.2.2.2.2
    have f1 : fix2 (b_X9_sky_25 F) F M 0 (wM S M V5 U4) = some (0, wM S M V6 U4) := f1
    rw [d1, bd_r, f1]
    refine ⟨V6, U4, rfl, by rw [f2 0 (by omega), d2 0 (by omega)]; exact g01, ⟨by rw [f2 1 (by omega), d2 1 (by omega)]; exact g1 1 (by omega), by rw [f2 26 (by omega), d2 26 (by omega)]; exact g1 26 (by omega), by rw [f2 31 (by omega), d2 31 (by omega)]; exact g1 31 (by omega)⟩, fun r K hr hK hn => ?_, d4.keep (fun j hj => f2 j (by omega)), fun j hj => ?_⟩
    · exact (d5 r K (by omega) (mSky_fr hK hn (Or.inr hr) g2 g3 g9 g11) hn).keep (fun j hj => f2 j (by omega))
    · rw [f3 j hj]
      unfold skS
      by_cases hc : j < zN s
      · rw [if_pos hc, if_pos hc]
        have q := d3 j (by omega)
        rw [show 6 * 0 + j = j by omega, show 6 * 1 + j = 6 + j by omega] at q
        rw [q]
        exact (hk j hc).1 5 (by omega) (by omega)
      · rw [if_neg hc, if_neg hc, if_pos (by omega)]
        rfl
