/-! the model reads words and numbers -/
def fN (V V' : Vw) : Prop := (∀ j, j ≠ 0 → V' j = V j) ∧ ∀ k, k ≠ 4 → k ≠ 5 → k ≠ 6 → k ≠ 8 → k ≠ 9 → k ≠ 35 → V' 0 k = V 0 k
theorem fN.rf {V : Vw} : fN V V := ⟨fun _ _ => rfl, fun _ _ _ _ _ _ _ => rfl⟩
theorem fN.tr {V V' V'' : Vw} (a : fN V V') (b : fN V' V'') : fN V V'' := ⟨fun j hj => (b.1 j hj).trans (a.1 j hj), fun k h4 h5 h6 h8 h9 h35 => (b.2 k h4 h5 h6 h8 h9 h35).trans (a.2 k h4 h5 h6 h8 h9 h35)⟩
theorem fN.of0 {V V' : Vw} (a : f0 V V') : fN V V' := ⟨a.1, fun k h4 h5 h6 h8 _ _ => a.2 k h4 h5 h6 h8⟩
theorem fN.u {V : Vw} {k : Nat} {v : Int32} (h : k = 9 ∨ k = 35) : fN V (u2 V 0 k v) := ⟨fun j hj => u2_row hj, fun i h4 h5 h6 h8 h9 h35 => u2_ne (by omega)⟩
def isR {α : Type} (r : Sum Nat α) : Bool := match r with
  | .inl _ => false
  | .inr _ => true
theorem q_num {X : Tp} {p lw hi : Nat} {x1 x2 : Int32} {F M : Nat} {S : Mem} {V : Vw} {U : Uw} (h : shM S M) (hF : 10000 < F) (hX : okTp X) (hp : p ≤ X.1) (hL : mL X p V U) (ht : mx V X) (hx1 : x1 = nI lw) (hx2 : x2 = nI hi) (hh : lw < 10000 ∧ hi < 10000) :
    ∃ V' U', fn_X9_needsNumber F M x1 x2 (wM S M V U) = some (b1 (isR (nuS X lw hi p)), wM S M V' U') ∧ fN V V' ∧ u0 U U' ∧ (∀ k, nuS X lw hi p = .inl k → V' 0 9 = nI k) ∧ ∀ q n, nuS X lw hi p = .inr (q, n) → V' 0 35 = nI n ∧ mL X q V' U' := by
  unfold fn_X9_needsNumber nuS
  have et := mL_tok (x := 2) (n := 2) hL rfl (by omega)
  by_cases h26 : lT X p = 26
  · have ev := hL.2.2.2.2.1 h26
    have hlv := lV_lt hp h26
    have e9 : (decide (¬ nI (lV X p) < x1) && decide (¬ x2 < nI (lV X p))) = decide (lw ≤ lV X p ∧ lV X p ≤ hi) := by rw [hx1, hx2]; exact inr_n (by omega) (by omega) (by omega)
    rw [if_pos h26]
    by_cases hc : lw ≤ lV X p ∧ lV X p ≤ hi
    · rw [if_pos hc]
      rw [decide_eq_true hc] at e9
      have hL2 : mL X p (u2 V 0 35 (nI (lV X p))) U := mL_fr hL (fun k hk => u2_ne (by omega))
      obtain ⟨V', U', a1, a2, a3, a4⟩ := q_nextL (F := F) h hF hX hp hL2 (ht.keep (u2_row (by omega)))
      refine ⟨V', U', ?_, (fN.u (by omega)).tr (fN.of0 a2), a3, fun k e => (by cases e), fun q n e => ?_⟩
      · simp only [↓eM h, ev]
        rw [if_pos (et.mpr (tkK_2.mpr h26)), p_within, bd_r, e9, if_neg (show ¬ b1 true = 0 by decide)]
        simp only [↓eM h, ev, a1, ↓bd_r, rz_1]
        rfl
      · cases e
        exact ⟨by rw [a2.2 35 (by omega) (by omega) (by omega) (by omega)]; exact u2_eq ⟨rfl, rfl⟩, a4⟩
    · rw [if_neg hc]
      rw [decide_eq_false hc] at e9
      refine ⟨_, U, ?_, fN.u (k := 9) (by omega), u0.rf, fun k e => (by cases e; exact u2_eq ⟨rfl, rfl⟩), fun q n e => by cases e⟩
      simp only [↓eM h, ev]
      rw [if_pos (et.mpr (tkK_2.mpr h26)), p_within, bd_r, e9, if_pos (show b1 false = 0 from rfl)]
      simp only [↓eM h, q_fails (k := 4) (x := 4) h hL rfl, ↓bd_r, rz_0]
      rfl
  · rw [if_neg h26]
    refine ⟨_, U, ?_, fN.u (k := 9) (by omega), u0.rf, fun k e => (by cases e; exact u2_eq ⟨rfl, rfl⟩), fun q n e => by cases e⟩
    simp only [↓eM h]
    rw [if_neg (fun q => h26 (tkK_2.mp (et.mp q)))]
    simp only [↓eM h, q_fails (k := 1) (x := 1) h hL rfl, ↓bd_r, rz_0]
    rfl
theorem q_word {X : Tp} {p i : Nat} {w : Int64} {F M : Nat} {S : Mem} {V : Vw} {U : Uw} (h : shM S M) (hF : 10000 < F) (hX : okTp X) (hp : p ≤ X.1) (hL : mL X p V U) (ht : mx V X) (hi : i < 25) (hw : w = lN (W27.getD i 0)) :
    ∃ V' U', fn_X9_needsWord F M w (wM S M V U) = some (b1 (isR (exS X i p)), wM S M V' U') ∧ fN V V' ∧ u0 U U' ∧ (∀ k, exS X i p = .inl k → V' 0 9 = nI k) ∧ ∀ q, exS X i p = .inr q → mL X q V' U' := by
  unfold fn_X9_needsWord exS
  by_cases hc : lT X p = i
  · rw [if_pos hc]
    obtain ⟨V', U', a1, a2, a3, a4⟩ := q_nextL (F := F) h hF hX hp hL ht
    refine ⟨V', U', ?_, fN.of0 a2, a3, fun k e => (by cases e), fun q e => by cases e; exact a4⟩
    simp only [↓eM h]
    rw [q_isWordY h hp hL hi hw hc, bd_r, if_neg (by decide)]
    simp only [↓eM h, a1, ↓bd_r, rz_1]
    rfl
  · rw [if_neg hc]
    refine ⟨_, U, ?_, fN.u (k := 9) (by omega), u0.rf, fun k e => (by cases e; exact u2_eq ⟨rfl, rfl⟩), fun q e => by cases e⟩
    simp only [↓eM h]
    rw [q_isWordN h hp hL hi hw hc, bd_r, if_pos rfl]
    simp only [↓eM h, q_fails (k := 1) (x := 1) h hL rfl, ↓bd_r, rz_0]
    rfl
theorem q_ends {X : Tp} {p : Nat} {F M : Nat} {S : Mem} {V : Vw} {U : Uw} (h : shM S M) (hF : 10000 < F) (hX : okTp X) (hp : p ≤ X.1) (hL : mL X p V U) (ht : mx V X) :
    ∃ V' U', fn_X9_ends F M (wM S M V U) = some (b1 (isR (exS X 34 p)), wM S M V' U') ∧ fN V V' ∧ u0 U U' ∧ (∀ k, exS X 34 p = .inl k → V' 0 9 = nI k) ∧ ∀ q, exS X 34 p = .inr q → mL X q V' U' := by
  unfold fn_X9_ends exS
  have q59 := q_s59 (F := F) h hX hL ht
  by_cases hc : lT X p = 34
  · rw [if_pos hc]
    rw [decide_eq_true hc] at q59
    obtain ⟨V', U', a1, a2, a3, a4⟩ := q_nextL (F := F) h hF hX hp hL ht
    refine ⟨V', U', ?_, fN.of0 a2, a3, fun k e => (by cases e), fun q e => by cases e; exact a4⟩
    simp only [↓eM h]
    rw [q59, bd_r, if_neg (show ¬ b1 true = 0 by decide)]
    simp only [↓eM h, a1, ↓bd_r, rz_1]
    rfl
  · rw [if_neg hc]
    rw [decide_eq_false hc] at q59
    refine ⟨_, U, ?_, fN.u (k := 9) (by omega), u0.rf, fun k e => (by cases e; exact u2_eq ⟨rfl, rfl⟩), fun q e => by cases e⟩
    simp only [↓eM h]
    rw [q59, bd_r, if_pos (show b1 false = 0 from rfl)]
    simp only [↓eM h, q_fails (k := 1) (x := 1) h hL rfl, ↓bd_r, rz_0]
    rfl
/-- a word and a number behind it -/
theorem q_wn {X : Tp} {p i lw hi : Nat} {x1 x2 : Int32} {w : Int64} {G : Mem → Option (Int32 × Mem)} {F M : Nat} {S : Mem} {V : Vw} {U : Uw} (h : shM S M) (hF : 10000 < F) (hX : okTp X) (hp : p ≤ X.1) (hL : mL X p V U) (ht : mx V X) (hi' : i < 25) (hw : w = lN (W27.getD i 0)) (hx1 : x1 = nI lw) (hx2 : x2 = nI hi) (hh : lw < 10000 ∧ hi < 10000) :
    ∃ V' U', (bd (cal (wM S M V U) 8 M (fn_X9_needsWord F M w (wM S M V U))) fun v18 S19 => if v18 = 0 then rz (0 : Int32) S19 else bd (cal S19 8 M (fn_X9_needsNumber F M x1 x2 S19)) fun v20 S21 => if v20 = 0 then rz (0 : Int32) S21 else G S21) = (if isR (wnS X i lw hi p) = true then G (wM S M V' U') else some (0, wM S M V' U')) ∧ fN V V' ∧ u0 U U' ∧ (∀ k, wnS X i lw hi p = .inl k → V' 0 9 = nI k) ∧ ∀ q n, wnS X i lw hi p = .inr (q, n) → V' 0 35 = nI n ∧ mL X q V' U' := by
  obtain ⟨V1, U1, a1, a2, a3, a4, a5⟩ := q_word (F := F) h hF hX hp hL ht hi' hw
  simp only [↓eM h]
  rw [a1, bd_r]
  unfold wnS
  cases h1 : exS X i p with
  | inl k =>
    refine ⟨V1, U1, ?_, a2, a3, fun k' e => (by cases e; exact a4 k h1), fun q n e => (by cases e)⟩
    rw [if_pos (show b1 (isR (Sum.inl k : Sum Nat Nat)) = 0 from rfl), rz_0]
    rfl
  | inr q =>
    have hq := (exS_r h1).2
    have hq2 : q ≤ X.1 := by rw [hq]; exact (lE_b hp).2
    obtain ⟨V2, U2, b1', b2, b3, b4, b5⟩ := q_num (F := F) h hF hX hq2 (a5 q h1) (ht.keep (a2.1 1 (by omega))) hx1 hx2 hh
    refine ⟨V2, U2, ?_, a2.tr b2, a3.tr b3, b4, b5⟩
    rw [if_neg (show ¬ b1 (isR (Sum.inr q : Sum Nat Nat)) = 0 from (by decide : ¬ (1 : Int32) = 0))]
    simp only [↓eM h]
    rw [b1', bd_r, bS_i]
    cases hn : isR (nuS X lw hi q) with
    | true => rw [if_neg (show ¬ b1 true = 0 by decide), if_pos rfl]
    | false => rw [if_pos (show b1 false = 0 from rfl), if_neg (by decide), rz_0]
theorem q_isKept {X : Tp} {p : Nat} {F M : Nat} {S : Mem} {V : Vw} {U : Uw} (h : shM S M) (hp : p ≤ X.1) (hL : mL X p V U) : fn_X9_isKept F M (wM S M V U) = some (b1 (decide (¬ (19 < lT X p ∧ lT X p ≤ 25))), wM S M V U) := by
  unfold fn_X9_isKept f_X9_isKept_230 f_X9_isKept_235
  simp only [↓eM h, rz_0, rz_1]
  by_cases h25 : lT X p ≤ 25
  · rw [if_pos ((mL_tok (x := 1) (n := 1) hL rfl (by omega)).mpr (tkK_1.mpr h25))]
    have c0 := mL_cmp (i := 0) (w := 459652) hp hL h25 (by decide) rfl
    have c1 := mL_cmp (i := 1) (w := 369932) hp hL h25 (by decide) rfl
    have c2 := mL_cmp (i := 2) (w := 237292) hp hL h25 (by decide) rfl
    have c3 := mL_cmp (i := 3) (w := 158772) hp hL h25 (by decide) rfl
    have c4 := mL_cmp (i := 4) (w := 10819228) hp hL h25 (by decide) rfl
    have c5 := mL_cmp (i := 5) (w := 4147840) hp hL h25 (by decide) rfl
    have c6 := mL_cmp (i := 6) (w := 223619) hp hL h25 (by decide) rfl
    have c7 := mL_cmp (i := 7) (w := 47) hp hL h25 (by decide) rfl
    have c8 := mL_cmp (i := 8) (w := 242939) hp hL h25 (by decide) rfl
    have c9 := mL_cmp (i := 9) (w := 6476969) hp hL h25 (by decide) rfl
    have c10 := mL_cmp (i := 10) (w := 247516) hp hL h25 (by decide) rfl
    have c11 := mL_cmp (i := 11) (w := 8740238) hp hL h25 (by decide) rfl
    have c12 := mL_cmp (i := 12) (w := 1887) hp hL h25 (by decide) rfl
    have c13 := mL_cmp (i := 13) (w := 394644) hp hL h25 (by decide) rfl
    have c14 := mL_cmp (i := 14) (w := 4351291) hp hL h25 (by decide) rfl
    have c15 := mL_cmp (i := 15) (w := 82410) hp hL h25 (by decide) rfl
    have c16 := mL_cmp (i := 16) (w := 237652) hp hL h25 (by decide) rfl
    have c17 := mL_cmp (i := 17) (w := 10631) hp hL h25 (by decide) rfl
    have c18 := mL_cmp (i := 18) (w := 1111) hp hL h25 (by decide) rfl
    have c19 := mL_cmp (i := 19) (w := 423) hp hL h25 (by decide) rfl
    simp only [c0, c1, c2, c3, c4, c5, c6, c7, c8, c9, c10, c11, c12, c13, c14, c15, c16, c17, c18, c19]
    by_cases hc : 19 < lT X p
    · rw [decide_eq_false (fun q => q ⟨hc, h25⟩)]
      rw [if_neg (show ¬ lT X p = 0 by omega), if_neg (show ¬ lT X p = 1 by omega), if_neg (show ¬ lT X p = 2 by omega), if_neg (show ¬ lT X p = 3 by omega), if_neg (show ¬ lT X p = 4 by omega), if_neg (show ¬ lT X p = 5 by omega), if_neg (show ¬ lT X p = 6 by omega), if_neg (show ¬ lT X p = 7 by omega), if_neg (show ¬ lT X p = 8 by omega), if_neg (show ¬ lT X p = 9 by omega), if_neg (show ¬ lT X p = 10 by omega), if_neg (show ¬ lT X p = 11 by omega), if_neg (show ¬ lT X p = 12 by omega), if_neg (show ¬ lT X p = 13 by omega), if_neg (show ¬ lT X p = 14 by omega), if_neg (show ¬ lT X p = 15 by omega), if_neg (show ¬ lT X p = 16 by omega), if_neg (show ¬ lT X p = 17 by omega), if_neg (show ¬ lT X p = 18 by omega), if_neg (show ¬ lT X p = 19 by omega)]
      rfl
    · rw [decide_eq_true (show ¬ (19 < lT X p ∧ lT X p ≤ 25) from fun q => hc q.1)]
      rcases (by omega : lT X p = 0 ∨ lT X p = 1 ∨ lT X p = 2 ∨ lT X p = 3 ∨ lT X p = 4 ∨ lT X p = 5 ∨ lT X p = 6 ∨ lT X p = 7 ∨ lT X p = 8 ∨ lT X p = 9 ∨ lT X p = 10 ∨ lT X p = 11 ∨ lT X p = 12 ∨ lT X p = 13 ∨ lT X p = 14 ∨ lT X p = 15 ∨ lT X p = 16 ∨ lT X p = 17 ∨ lT X p = 18 ∨ lT X p = 19) with e | e | e | e | e | e | e | e | e | e | e | e | e | e | e | e | e | e | e | e <;> (rw [e]; rfl)
  · rw [if_neg (fun q => h25 (tkK_1.mp ((mL_tok (x := 1) (n := 1) hL rfl (by omega)).mp q))), decide_eq_true (show ¬ (19 < lT X p ∧ lT X p ≤ 25) from fun q => h25 q.2)]
    rfl
theorem q_kindAt {X : Tp} {p : Nat} {F M : Nat} {S : Mem} {V : Vw} {U : Uw} (h : shM S M) (hp : p ≤ X.1) (hL : mL X p V U) : fn_X9_kindAt F M (wM S M V U) = some (if 11 ≤ lT X p ∧ lT X p ≤ 16 then nI (lT X p - 11) else -1, wM S M V U) := by
  have w11 : fn_X9_isWord F M 8740238 (wM S M V U) = some (b1 (decide (lT X p = 11)), wM S M V U) := q_isWordD (i := 11) h hp hL (by decide) rfl
  have w12 : fn_X9_isWord F M 1887 (wM S M V U) = some (b1 (decide (lT X p = 12)), wM S M V U) := q_isWordD (i := 12) h hp hL (by decide) rfl
  have w13 : fn_X9_isWord F M 394644 (wM S M V U) = some (b1 (decide (lT X p = 13)), wM S M V U) := q_isWordD (i := 13) h hp hL (by decide) rfl
  have w14 : fn_X9_isWord F M 4351291 (wM S M V U) = some (b1 (decide (lT X p = 14)), wM S M V U) := q_isWordD (i := 14) h hp hL (by decide) rfl
  have w15 : fn_X9_isWord F M 82410 (wM S M V U) = some (b1 (decide (lT X p = 15)), wM S M V U) := q_isWordD (i := 15) h hp hL (by decide) rfl
  have w16 : fn_X9_isWord F M 237652 (wM S M V U) = some (b1 (decide (lT X p = 16)), wM S M V U) := q_isWordD (i := 16) h hp hL (by decide) rfl
  unfold fn_X9_kindAt f_X9_kindAt_85
  simp only [↓eM h, w11, w12, w13, w14, w15, w16, ↓bd_r, b1_0]
  by_cases hc : 11 ≤ lT X p ∧ lT X p ≤ 16
  · rw [if_pos hc]
    rcases (by omega : lT X p = 11 ∨ lT X p = 12 ∨ lT X p = 13 ∨ lT X p = 14 ∨ lT X p = 15 ∨ lT X p = 16) with e | e | e | e | e | e <;> (rw [e]; rfl)
  · rw [if_neg hc, if_pos (show ¬ lT X p = 11 by omega), if_pos (show ¬ lT X p = 12 by omega), if_pos (show ¬ lT X p = 13 by omega), if_pos (show ¬ lT X p = 14 by omega), if_pos (show ¬ lT X p = 15 by omega), if_pos (show ¬ lT X p = 16 by omega)]
