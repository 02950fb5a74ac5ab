/-! the class reads what a sky tells: words and numbers -/
def cR (X : Tp) (law : Nat) (r : Sum Nat Nat) (nc : Nat) (V : Vw) (U : Uw) : Prop := match r with
  | .inl k => 0 < k ∧ k < 20000 ∧ cP X law X.1 k nc V U
  | .inr p => p ≤ X.1 ∧ cP X law p 0 nc V U
/-- the fault of a wrong token -/
theorem er_b {X : Tp} {p k : Nat} (hX : okTp X) (hp : p ≤ X.1) (hk : 1 ≤ k ∧ k ≤ 5) : 0 < k + 16 * lB X p ∧ k + 16 * lB X p < 20000 := by
  have h1 := hX.1
  have h2 := lB_b hp
  omega
theorem c_failR {X : Tp} {law nc k : Nat} {x : Int32} {r : Sum Nat Nat} {F C : Nat} {S : Mem} {V : Vw} {U : Uw} {D : Dw} (h : shC S C) (hX : okTp X) (hx : x = nI k) (hk : 1 ≤ k ∧ k ≤ 5) (hr : cR X law r nc V U) :
    ∃ V', fn_X6_fail F (C + 8) x (wC S C V U D) = some ((), wC S C V' U D) ∧ fr8 V V' ∧ V' 13 = V 13 ∧ cR X law (bS r fun p => .inl (k + 16 * lB X p)) nc V' U := by
  cases r with
  | inl f =>
    obtain ⟨h0, h1, h2⟩ := hr
    obtain ⟨V1, e1, b1, b2, b3⟩ := c_fail (F := F) (k := k) (D := D) h hx hX h1 h2
    rw [flt2_n h0] at b3
    exact ⟨V1, e1, b1, b2, h0, h1, b3⟩
  | inr p =>
    obtain ⟨h0, h2⟩ := hr
    obtain ⟨V1, e1, b1, b2, b3⟩ := c_fail (F := F) (k := k) (D := D) h hx hX (by omega) h2
    rw [flt2_0] at b3
    have q := er_b hX h0 hk
    exact ⟨V1, e1, b1, b2, q.1, q.2, b3⟩
theorem c_stepR {X : Tp} {law nc : Nat} {r : Sum Nat Nat} {F C : Nat} {S : Mem} {V : Vw} {U : Uw} {D : Dw} (h : shC S C) (hF : 10000 < F) (hX : okTp X) (hD : D 9 0 = C + 7) (hr : cR X law r nc V U) :
    ∃ V' U', fn_X1_step F (C + 9) (wC S C V U D) = some ((), wC S C V' U' D) ∧ f9 V V' ∧ u9 U U' ∧ cR X law (bS r fun p => .inr (lE X p)) nc V' U' := by
  cases r with
  | inl f =>
    obtain ⟨h0, h1, h2⟩ := hr
    obtain ⟨V', U', a1, a2, a3, a4⟩ := c_stepP (F := F) h hF hX hD (Nat.le_refl _) h2
    rw [lE_n] at a4
    exact ⟨V', U', a1, a2, a3, h0, h1, a4⟩
  | inr p =>
    obtain ⟨h0, h2⟩ := hr
    obtain ⟨V', U', a1, a2, a3, a4⟩ := c_stepP (F := F) h hF hX hD h0 h2
    exact ⟨V', U', a1, a2, a3, (lE_b h0).2, a4⟩
theorem c_expR {X : Tp} {law nc t : Nat} {x : Int32} {r : Sum Nat Nat} {F C : Nat} {S : Mem} {V : Vw} {U : Uw} {D : Dw} (h : shC S C) (hF : 10000 < F) (hX : okTp X) (hD : D 9 0 = C + 7) (hx : x = nI t) (ht9 : t < 35) (hr : cR X law r nc V U) :
    ∃ V' U', fn_X6_expect F (C + 8) x (wC S C V U D) = some ((), wC S C V' U' D) ∧ fr8 V V' ∧ u9 U U' ∧ V' 13 = V 13 ∧ cR X law (bS r (exS X t)) nc V' U' := by
  cases r with
  | inl f =>
    obtain ⟨h0, h1, h2⟩ := hr
    obtain ⟨V', U', d1, d2, d3, d4, d5⟩ := c_expect (F := F) (t := t) (D := D) h hF hX hD hx (by omega) (Nat.le_refl _) h1 h2
    rw [if_neg (by rw [lT_n]; omega), flt2_n h0] at d5
    exact ⟨V', U', d1, d2, d3, d4, h0, h1, d5⟩
  | inr p =>
    obtain ⟨h0, h2⟩ := hr
    obtain ⟨V', U', d1, d2, d3, d4, d5⟩ := c_expect (F := F) (t := t) (D := D) h hF hX hD hx (by omega) h0 (by omega) h2
    refine ⟨V', U', d1, d2, d3, d4, ?_⟩
    show cR X law (exS X t p) nc V' U'
    unfold exS
    by_cases hc : lT X p = t
    · rw [if_pos hc] at d5 ⊢
      exact ⟨(lE_b h0).2, d5⟩
    · rw [if_neg hc, flt2_0] at d5
      rw [if_neg hc]
      have q := er_b (k := 1) hX h0 (by omega)
      exact ⟨q.1, q.2, d5⟩
theorem inr_n {n a b : Nat} (hn : n < 2 ^ 31) (ha : a < 2 ^ 31) (hb : b < 2 ^ 31) : inr (nI n) (nI a) (nI b) = decide (a ≤ n ∧ n ≤ b) := by
  unfold inr
  rw [show (decide (¬ nI n < nI a)) = decide (a ≤ n) from decide_eq_decide.mpr ⟨fun q => Nat.le_of_not_lt (fun z => q ((nI_ltI hn ha).mpr z)), fun q z => by have := (nI_ltI hn ha).mp z; omega⟩, show (decide (¬ nI b < nI n)) = decide (n ≤ b) from decide_eq_decide.mpr ⟨fun q => Nat.le_of_not_lt (fun z => q ((nI_ltI hb hn).mpr z)), fun q z => by have := (nI_ltI hb hn).mp z; omega⟩]
  rw [Bool.decide_and]
/-- a number: what it is counts only where it may stand -/
theorem c_numR {X : Tp} {law nc lw hi : Nat} {x1 x2 : Int32} {r : Sum Nat Nat} {F C : Nat} {S : Mem} {V : Vw} {U : Uw} {D : Dw} (h : shC S C) (hF : 10000 < F) (hX : okTp X) (hD : D 9 0 = C + 7) (hx1 : x1 = nI lw) (hx2 : x2 = nI hi) (hh : lw < 10000 ∧ hi < 10000) (hr : cR X law r nc V U) :
    ∃ V' U' v, fn_X6_readNumber F (C + 8) x1 x2 (wC S C V U D) = some (v, wC S C V' U' D) ∧ fr8 V V' ∧ u9 U U' ∧ V' 13 = V 13 ∧ cR X law (psR (bS r (nuS X lw hi))) nc V' U' ∧ ∀ q n, bS r (nuS X lw hi) = .inr (q, n) → v = nI n := by
  -- behind the test
  have h40 : ∀ (r : Sum Nat Nat) (V : Vw), cR X law r nc V U → ∃ V' U', f_X6_readNumber_40 F (C + 8) (wC S C V U D) = some (V 9 6, wC S C V' U' D) ∧ fr8 V V' ∧ u9 U U' ∧ V' 13 = V 13 ∧ cR X law (bS r fun p => .inr (lE X p)) nc V' U' := by
    intro r V hr
    obtain ⟨V', U', a1, a2, a3, a4⟩ := c_stepR (F := F) (U := U) h hF hX hD hr
    refine ⟨V', U', ?_, fr8.of9 a2, a3, a2.1 13 (by omega), a4⟩
    unfold f_X6_readNumber_40
    simp (disch := first | assumption | exact inB_n (by omega) (by decide) | exact inB_l (by omega) (by decide) | exact inB_al (by omega) (by decide) | exact inB_la (by omega) (by decide) | exact inB_j (by assumption) (by omega) (by decide) | exact inB_e (by assumption) (by decide) | omega) only [↓eC h, ↓bd_r, ↓lt_r, ↓Option.bind_some, ↓reduceIte, ix_nI, ix_l, nI_al, nI_la, nI_lm, u2_ne, u2_eq, nI_leI, nI_ltI, nI_eq, le_ln, le_nl, lt_ln, lt_nl, eq_nl, eq_ln, a1]
  have bad : ∀ (k : Nat) (x : Int32), x = nI k → 1 ≤ k ∧ k ≤ 5 → ∃ V' U' v, (bd (fn_X6_fail F (C + 8) x (wC S C V U D)) fun _ S10 => f_X6_readNumber_40 F (C + 8) S10) = some (v, wC S C V' U' D) ∧ fr8 V V' ∧ u9 U U' ∧ V' 13 = V 13 ∧ cR X law (bS r fun p => .inl (k + 16 * lB X p)) nc V' U' := by
    intro k x hx hk
    obtain ⟨V1, e1, b1, b2, b3⟩ := c_failR (F := F) (D := D) h hX hx hk hr
    obtain ⟨V', U', d1, d2, d3, d4, d5⟩ := h40 _ V1 b3
    refine ⟨V', U', V1 9 6, ?_, b1.tr d2, d3, d4.trans b2, ?_⟩
    · simp only [e1, ↓bd_r, d1]
    · cases r with
      | inl f => exact d5
      | inr p => exact d5
  have hd35 : ∀ f, r = .inl f → V 9 5 = 35 := by
    rintro f rfl
    have := hr.2.2.1.2.2.2.1
    rw [lT_n] at this
    exact this
  unfold fn_X6_readNumber
  cases r with
  | inl f =>
    obtain ⟨V', U', v, d1, d2, d3, d4, d5⟩ := bad 1 1 rfl (by omega)
    refine ⟨V', U', v, ?_, d2, d3, d4, d5, fun q n e => by cases e⟩
    rw [← d1]
    simp (disch := first | assumption | exact inB_n (by omega) (by decide) | exact inB_l (by omega) (by decide) | exact inB_al (by omega) (by decide) | exact inB_la (by omega) (by decide) | exact inB_j (by assumption) (by omega) (by decide) | exact inB_e (by assumption) (by decide) | omega) only [↓eC h, ↓bd_r, ↓lt_r, ↓Option.bind_some, ↓reduceIte, ix_nI, ix_l, nI_al, nI_la, nI_lm, u2_ne, u2_eq, nI_leI, nI_ltI, nI_eq, le_ln, le_nl, lt_ln, lt_nl, eq_nl, eq_ln, hd35 f rfl, if_neg (show ¬ (35 : Int32) = 26 by decide)]
  | inr p =>
    obtain ⟨h0, h2⟩ := hr
    have hT := lT_le (X := X) (p := p)
    have et := h2.1.2.2.2.1
    show ∃ V' U' v, _ ∧ fr8 V V' ∧ u9 U U' ∧ V' 13 = V 13 ∧ cR X law (psR (nuS X lw hi p)) nc V' U' ∧ ∀ q n, nuS X lw hi p = .inr (q, n) → v = nI n
    unfold nuS
    by_cases h26 : lT X p = 26
    · have ev := h2.1.2.2.2.2.1 h26
      have hlv := lV_lt h0 h26
      have e9 : inr (nI (lV X p)) x1 x2 = decide (lw ≤ lV X p ∧ lV X p ≤ hi) := by rw [hx1, hx2]; exact inr_n (by omega) (by omega) (by omega)
      by_cases hc : lw ≤ lV X p ∧ lV X p ≤ hi
      · rw [if_pos h26, if_pos hc]
        obtain ⟨V', U', d1, d2, d3, d4, d5⟩ := h40 (.inr p) V ⟨h0, h2⟩
        refine ⟨V', U', V 9 6, ?_, d2, d3, d4, d5, fun q n e => by cases e; exact ev⟩
        rw [decide_eq_true hc] at e9
        simp (disch := first | assumption | exact inB_n (by omega) (by decide) | exact inB_l (by omega) (by decide) | exact inB_al (by omega) (by decide) | exact inB_la (by omega) (by decide) | exact inB_j (by assumption) (by omega) (by decide) | exact inB_e (by assumption) (by decide) | omega) only [↓eC h, ↓bd_r, ↓lt_r, ↓Option.bind_some, ↓reduceIte, ix_nI, ix_l, nI_al, nI_la, nI_lm, u2_ne, u2_eq, nI_leI, nI_ltI, nI_eq, le_ln, le_nl, lt_ln, lt_nl, eq_nl, eq_ln, et, if_pos h26, ev, c_within, e9, if_neg (show ¬ b1 true = 0 by decide)]
        rw [d1, ev]
      · rw [if_pos h26, if_neg hc]
        obtain ⟨V', U', v, d1, d2, d3, d4, d5⟩ := bad 4 4 rfl (by omega)
        refine ⟨V', U', v, ?_, d2, d3, d4, d5, fun q n e => by cases e⟩
        rw [decide_eq_false hc] at e9
        rw [← d1]
        simp (disch := first | assumption | exact inB_n (by omega) (by decide) | exact inB_l (by omega) (by decide) | exact inB_al (by omega) (by decide) | exact inB_la (by omega) (by decide) | exact inB_j (by assumption) (by omega) (by decide) | exact inB_e (by assumption) (by decide) | omega) only [↓eC h, ↓bd_r, ↓lt_r, ↓Option.bind_some, ↓reduceIte, ix_nI, ix_l, nI_al, nI_la, nI_lm, u2_ne, u2_eq, nI_leI, nI_ltI, nI_eq, le_ln, le_nl, lt_ln, lt_nl, eq_nl, eq_ln, et, if_pos h26, ev, c_within, e9, if_pos (show b1 false = 0 from rfl)]
    · rw [if_neg h26]
      obtain ⟨V', U', v, d1, d2, d3, d4, d5⟩ := bad 1 1 rfl (by omega)
      refine ⟨V', U', v, ?_, d2, d3, d4, d5, fun q n e => by cases e⟩
      rw [← d1]
      simp (disch := first | assumption | exact inB_n (by omega) (by decide) | exact inB_l (by omega) (by decide) | exact inB_al (by omega) (by decide) | exact inB_la (by omega) (by decide) | exact inB_j (by assumption) (by omega) (by decide) | exact inB_e (by assumption) (by decide) | omega) only [↓eC h, ↓bd_r, ↓lt_r, ↓Option.bind_some, ↓reduceIte, ix_nI, ix_l, nI_al, nI_la, nI_lm, u2_ne, u2_eq, nI_leI, nI_ltI, nI_eq, le_ln, le_nl, lt_ln, lt_nl, eq_nl, eq_ln, et, if_neg h26]
theorem c_kindR {X : Tp} {law nc : Nat} {r : Sum Nat Nat} {F C : Nat} {S : Mem} {V : Vw} {U : Uw} {D : Dw} (h : shC S C) (hF : 10000 < F) (hX : okTp X) (hD : D 9 0 = C + 7) (hr : cR X law r nc V U) :
    ∃ V' U' v, fn_X6_readKind F (C + 8) (wC S C V U D) = some (v, wC S C V' U' D) ∧ fr8 V V' ∧ u9 U U' ∧ V' 13 = V 13 ∧ cR X law (psR (bS r (kiS X))) nc V' U' ∧ ∀ q n, bS r (kiS X) = .inr (q, n) → v = nI n := by
  have h33 : ∀ (r : Sum Nat Nat) (V : Vw) (x : Int32), cR X law r nc V U → ∃ V' U', f_X6_readKind_33 F (C + 8) x (wC S C V U D) = some (x, wC S C V' U' D) ∧ fr8 V V' ∧ u9 U U' ∧ V' 13 = V 13 ∧ cR X law (bS r fun p => .inr (lE X p)) nc V' U' := by
    intro r V x hr
    obtain ⟨V', U', a1, a2, a3, a4⟩ := c_stepR (F := F) (U := U) h hF hX hD hr
    refine ⟨V', U', ?_, fr8.of9 a2, a3, a2.1 13 (by omega), a4⟩
    unfold f_X6_readKind_33
    simp (disch := first | assumption | exact inB_n (by omega) (by decide) | exact inB_l (by omega) (by decide) | exact inB_al (by omega) (by decide) | exact inB_la (by omega) (by decide) | exact inB_j (by assumption) (by omega) (by decide) | exact inB_e (by assumption) (by decide) | omega) only [↓eC h, ↓bd_r, ↓lt_r, ↓Option.bind_some, ↓reduceIte, ix_nI, ix_l, nI_al, nI_la, nI_lm, u2_ne, u2_eq, nI_leI, nI_ltI, nI_eq, le_ln, le_nl, lt_ln, lt_nl, eq_nl, eq_ln, a1]
  have bad : ∀ x : Int32, ∃ V' U', (bd (fn_X6_fail F (C + 8) 1 (wC S C V U D)) fun _ S10 => f_X6_readKind_33 F (C + 8) x S10) = some (x, wC S C V' U' D) ∧ fr8 V V' ∧ u9 U U' ∧ V' 13 = V 13 ∧ cR X law (bS r fun p => .inl (1 + 16 * lB X p)) nc V' U' := by
    intro x
    obtain ⟨V1, e1, b1, b2, b3⟩ := c_failR (F := F) (k := 1) (x := 1) (D := D) h hX rfl (by omega) hr
    obtain ⟨V', U', d1, d2, d3, d4, d5⟩ := h33 _ V1 x b3
    refine ⟨V', U', ?_, b1.tr d2, d3, d4.trans b2, ?_⟩
    · simp only [e1, ↓bd_r, d1]
    · cases r with
      | inl f => exact d5
      | inr p => exact d5
  unfold fn_X6_readKind
  cases r with
  | inl f =>
    have e35 : V 9 5 = 35 := by
      have := hr.2.2.1.2.2.2.1
      rw [lT_n] at this
      exact this
    obtain ⟨V', U', d1, d2, d3, d4, d5⟩ := bad ((35 : Int32) - 11)
    refine ⟨V', U', (35 : Int32) - 11, ?_, d2, d3, d4, d5, fun q n e => by cases e⟩
    rw [← d1]
    simp (disch := first | assumption | exact inB_n (by omega) (by decide) | exact inB_l (by omega) (by decide) | exact inB_al (by omega) (by decide) | exact inB_la (by omega) (by decide) | exact inB_j (by assumption) (by omega) (by decide) | exact inB_e (by assumption) (by decide) | omega) only [↓eC h, ↓bd_r, ↓lt_r, ↓Option.bind_some, ↓reduceIte, ix_nI, ix_l, nI_al, nI_la, nI_lm, u2_ne, u2_eq, nI_leI, nI_ltI, nI_eq, le_ln, le_nl, lt_ln, lt_nl, eq_nl, eq_ln, e35, c_within, show inr 35 11 16 = false by decide, if_pos (show b1 false = 0 from rfl)]
  | inr p =>
    obtain ⟨h0, h2⟩ := hr
    have hT := lT_le (X := X) (p := p)
    have et := h2.1.2.2.2.1
    have e9 : inr (nI (lT X p)) 11 16 = decide (11 ≤ lT X p ∧ lT X p ≤ 16) := inr_n (a := 11) (b := 16) (by omega) (by omega) (by omega)
    show ∃ V' U' v, _ ∧ fr8 V V' ∧ u9 U U' ∧ V' 13 = V 13 ∧ cR X law (psR (kiS X p)) nc V' U' ∧ ∀ q n, kiS X p = .inr (q, n) → v = nI n
    unfold kiS
    by_cases hc : 11 ≤ lT X p ∧ lT X p ≤ 16
    · rw [if_pos hc]
      obtain ⟨V', U', d1, d2, d3, d4, d5⟩ := h33 (.inr p) V (nI (lT X p) - 11) ⟨h0, h2⟩
      refine ⟨V', U', nI (lT X p) - 11, ?_, d2, d3, d4, d5, fun q n e => by
        cases e
        exact pk_sub (b := 11) hc.1⟩
      rw [decide_eq_true hc] at e9
      rw [← d1]
      simp (disch := first | assumption | exact inB_n (by omega) (by decide) | exact inB_l (by omega) (by decide) | exact inB_al (by omega) (by decide) | exact inB_la (by omega) (by decide) | exact inB_j (by assumption) (by omega) (by decide) | exact inB_e (by assumption) (by decide) | omega) only [↓eC h, ↓bd_r, ↓lt_r, ↓Option.bind_some, ↓reduceIte, ix_nI, ix_l, nI_al, nI_la, nI_lm, u2_ne, u2_eq, nI_leI, nI_ltI, nI_eq, le_ln, le_nl, lt_ln, lt_nl, eq_nl, eq_ln, et, c_within, e9, if_neg (show ¬ b1 true = 0 by decide)]
    · rw [if_neg hc]
      obtain ⟨V', U', d1, d2, d3, d4, d5⟩ := bad (nI (lT X p) - 11)
      refine ⟨V', U', nI (lT X p) - 11, ?_, d2, d3, d4, d5, fun q n e => by cases e⟩
      rw [decide_eq_false hc] at e9
      rw [← d1]
      simp (disch := first | assumption | exact inB_n (by omega) (by decide) | exact inB_l (by omega) (by decide) | exact inB_al (by omega) (by decide) | exact inB_la (by omega) (by decide) | exact inB_j (by assumption) (by omega) (by decide) | exact inB_e (by assumption) (by decide) | omega) only [↓eC h, ↓bd_r, ↓lt_r, ↓Option.bind_some, ↓reduceIte, ix_nI, ix_l, nI_al, nI_la, nI_lm, u2_ne, u2_eq, nI_leI, nI_ltI, nI_eq, le_ln, le_nl, lt_ln, lt_nl, eq_nl, eq_ln, et, c_within, e9, if_pos (show b1 false = 0 from rfl)]
/-! a name -/
theorem c_nameL {X : Tp} {law nc n : Nat} {w : Int64} {F C : Nat} {S : Mem} {U : Uw} {D : Dw} (h : shC S C) (hF : 10000 < F) (hX : okTp X) (hD : D 9 0 = C + 7) (hn : n ≤ 6) : ∀ (d i fu : Nat) (r : Sum Nat Nat) (V : Vw), i + d = n → d < fu → cR X law r nc V U →
    ∃ V' U', fix4 (b_X6_readName_29 F) fu (C + 8) (nI n) w (nI i) (wC S C V U D) = some (w, wC S C V' U' D) ∧ fr8 V V' ∧ u9 U U' ∧ V' 13 = V 13 ∧ cR X law (bS r fun p => if anyB (fun j => decide (U 12 j = w)) i d = true then .inl (3 + 16 * lB X p) else .inr (lE X p)) nc V' U' := by
  intro d
  induction d with
  | zero =>
    intro i fu r V hi hfu hr
    obtain ⟨fu, rfl⟩ : ∃ f', fu = f' + 1 := ⟨fu - 1, by omega⟩
    obtain rfl : i = n := by omega
    obtain ⟨V', U', a1, a2, a3, a4⟩ := c_stepR (F := F) (U := U) h hF hX hD hr
    refine ⟨V', U', ?_, fr8.of9 a2, a3, a2.1 13 (by omega), a4⟩
    show b_X6_readName_29 F (fix4 (b_X6_readName_29 F) fu) (C + 8) (nI i) w (nI i) (wC S C V U D) = _
    unfold b_X6_readName_29
    rw [if_pos (Int32.le_refl _)]
    simp (disch := first | assumption | exact inB_n (by omega) (by decide) | exact inB_l (by omega) (by decide) | exact inB_al (by omega) (by decide) | exact inB_la (by omega) (by decide) | exact inB_j (by assumption) (by omega) (by decide) | exact inB_e (by assumption) (by decide) | omega) only [↓eC h, ↓bd_r, ↓lt_r, ↓Option.bind_some, ↓reduceIte, ix_nI, ix_l, nI_al, nI_la, nI_lm, u2_ne, u2_eq, nI_leI, nI_ltI, nI_eq, le_ln, le_nl, lt_ln, lt_nl, eq_nl, eq_ln, a1]
  | succ d ih =>
    intro i fu r V hi hfu hr
    obtain ⟨fu, rfl⟩ : ∃ f', fu = f' + 1 := ⟨fu - 1, by omega⟩
    have ih := ih (i + 1) fu
    have e1 : nI i + (1 : Int32) = nI (i + 1) := nI_1 i
    show ∃ V' U', b_X6_readName_29 F (fix4 (b_X6_readName_29 F) fu) (C + 8) (nI n) w (nI i) (wC S C V U D) = _ ∧ _
    generalize fix4 (b_X6_readName_29 F) fu = k at ih ⊢
    have i6 : inB (nI i) 6 := inB_n (by omega) (by decide)
    have e9 : anyB (fun j => decide (U 12 j = w)) i (d + 1) = (decide (U 12 i = w) || anyB (fun j => decide (U 12 j = w)) (i + 1) d) := rfl
    rw [e9]
    by_cases hc : U 12 i = w
    · obtain ⟨V1, f1, b1, b2, b3⟩ := c_failR (F := F) (k := 3) (x := 3) (D := D) h hX rfl (by omega) hr
      obtain ⟨V', U', d1, d2, d3, d4, d5⟩ := ih _ V1 (by omega) (by omega) b3
      refine ⟨V', U', ?_, b1.tr d2, d3, d4.trans b2, ?_⟩
      · unfold b_X6_readName_29 f_X6_readName_52
        rw [if_neg (nI_ge (by omega) (by omega) : ¬ nI n ≤ nI i)]
        simp (disch := first | assumption | exact inB_n (by omega) (by decide) | exact inB_l (by omega) (by decide) | exact inB_al (by omega) (by decide) | exact inB_la (by omega) (by decide) | exact inB_j (by assumption) (by omega) (by decide) | exact inB_e (by assumption) (by decide) | omega) only [↓eC h, ↓bd_r, ↓lt_r, ↓Option.bind_some, ↓reduceIte, ix_nI, ix_l, nI_al, nI_la, nI_lm, u2_ne, u2_eq, nI_leI, nI_ltI, nI_eq, le_ln, le_nl, lt_ln, lt_nl, eq_nl, eq_ln, if_pos ((lg_cmp_eq _ _).mpr hc), f1, e1, d1]
      · rw [decide_eq_true hc]
        cases r with
        | inl f => exact d5
        | inr p => exact d5
    · obtain ⟨V', U', d1, d2, d3, d4, d5⟩ := ih r V (by omega) (by omega) hr
      refine ⟨V', U', ?_, d2, d3, d4, ?_⟩
      · unfold b_X6_readName_29 f_X6_readName_52
        rw [if_neg (nI_ge (by omega) (by omega) : ¬ nI n ≤ nI i)]
        simp (disch := first | assumption | exact inB_n (by omega) (by decide) | exact inB_l (by omega) (by decide) | exact inB_al (by omega) (by decide) | exact inB_la (by omega) (by decide) | exact inB_j (by assumption) (by omega) (by decide) | exact inB_e (by assumption) (by decide) | omega) only [↓eC h, ↓bd_r, ↓lt_r, ↓Option.bind_some, ↓reduceIte, ix_nI, ix_l, nI_al, nI_la, nI_lm, u2_ne, u2_eq, nI_leI, nI_ltI, nI_eq, le_ln, le_nl, lt_ln, lt_nl, eq_nl, eq_ln, if_neg (fun q => hc ((lg_cmp_eq _ _).mp q)), e1, d1]
      · rw [decide_eq_false hc, Bool.false_or]
        exact d5
theorem anyB_cg {g g' : Nat → Bool} : ∀ (d i : Nat), (∀ j, i ≤ j → j < i + d → g j = g' j) → anyB g i d = anyB g' i d
  | 0, _, _ => rfl
  | d + 1, i, e => by
    show (g i || anyB g (i + 1) d) = (g' i || anyB g' (i + 1) d)
    rw [e i (by omega) (by omega), anyB_cg d (i + 1) (fun j h1 h2 => e j (by omega) (by omega))]
theorem c_isName {F t : Nat} {S : Mem} (ht : t ≤ 36) : fn_X7_isName F (nI t) S = some (b1 (decide (19 < t ∧ t ≤ 25)), S) := by
  unfold fn_X7_isName f_X7_isName_16 f_X7_isName_17
  by_cases h1 : t ≤ 19
  · rw [if_pos ((le_nl (m := 19) (by decide) (by omega)).mpr h1), rz_0, decide_eq_false (by omega)]; rfl
  · rw [if_neg (fun q => h1 ((le_nl (m := 19) (by decide) (by omega)).mp q))]
    by_cases h2 : 25 < t
    · rw [if_pos ((lt_ln (m := 25) (by decide) (by omega)).mpr h2), rz_0, decide_eq_false (by omega)]; rfl
    · rw [if_neg (fun q => h2 ((lt_ln (m := 25) (by decide) (by omega)).mp q)), rz_1, decide_eq_true (by omega)]; rfl
theorem c_nameR {X : Tp} {law nc p : Nat} {s : SkR} {F C : Nat} {S : Mem} {V : Vw} {U : Uw} {D : Dw} (h : shC S C) (hF : 10000 < F) (hX : okTp X) (hD : D 9 0 = C + 7) (hw : wfZ X s) (hU : ∀ k, k < zN s → U 12 k = lN (lW X (zF s 0 k))) (hp : p ≤ X.1) (hP : cP X law p 0 nc V U) :
    ∃ V' U' v, fn_X6_readName F (C + 8) (nI (zN s)) (wC S C V U D) = some (v, wC S C V' U' D) ∧ fr8 V V' ∧ u9 U U' ∧ V' 13 = V 13 ∧ cR X law (naS X s p) nc V' U' ∧ ∀ q, naS X s p = .inr q → v = lN (lW X p) := by
  have hT := lT_le (X := X) (p := p)
  have et := hP.1.2.2.2.1
  have hn6 := hw.1
  have e0 := fun W => c_isName (F := F) (S := W) hT
  unfold fn_X6_readName naS
  by_cases hc : 19 < lT X p ∧ lT X p ≤ 25
  · have ew := hP.1.2.2.2.2.2 hc.2
    simp only [decide_eq_true hc] at e0
    rw [if_pos hc]
    obtain ⟨V', U', d1, d2, d3, d4, d5⟩ := c_nameL (w := U 9 7) (U := U) h hF hX hD hn6 (zN s) 0 F (.inr p) V (by omega) (by omega) ⟨hp, hP⟩
    rw [anyB_cg (g' := fun j => decide (lW X (zF s 0 j) = lW X p)) (zN s) 0 (fun j _ hj => by
      have hj : j < zN s := by omega
      have q1 := (lW_lt hp hc.2).1
      have q2 := hw.2.2.2.2.2.1 j hj
      have q3 := (lW_lt q2.2.2.2.2.2.1 q2.2.2.2.2.2.2).1
      show decide (U 12 j = U 9 7) = decide (lW X (zF s 0 j) = lW X p)
      rw [hU j hj, ew]
      exact decide_eq_decide.mpr (lN_eq2 (by omega) (by omega)))] at d5
    refine ⟨V', U', U 9 7, ?_, d2, d3, d4, d5, fun q _ => ew⟩
    unfold f_X6_readName_18
    simp (disch := first | assumption | exact inB_n (by omega) (by decide) | exact inB_l (by omega) (by decide) | exact inB_al (by omega) (by decide) | exact inB_la (by omega) (by decide) | exact inB_j (by assumption) (by omega) (by decide) | exact inB_e (by assumption) (by decide) | omega) only [↓eC h, ↓bd_r, ↓lt_r, ↓Option.bind_some, ↓reduceIte, ix_nI, ix_l, nI_al, nI_la, nI_lm, u2_ne, u2_eq, nI_leI, nI_ltI, nI_eq, le_ln, le_nl, lt_ln, lt_nl, eq_nl, eq_ln, et, e0, if_neg (show ¬ b1 true = 0 by decide)]
    exact d1
  · simp only [decide_eq_false hc] at e0
    rw [if_neg hc]
    obtain ⟨V1, f1, b1', b2, b3⟩ := c_failR (F := F) (k := 1) (x := 1) (r := .inr p) (D := D) h hX rfl (by omega) ⟨hp, hP⟩
    obtain ⟨V', U', d1, d2, d3, d4, d5⟩ := c_nameL (w := U 9 7) (U := U) h hF hX hD hn6 (zN s) 0 F _ V1 (by omega) (by omega) b3
    refine ⟨V', U', U 9 7, ?_, b1'.tr d2, d3, d4.trans b2, d5, fun q e => by cases e⟩
    unfold f_X6_readName_18
    simp (disch := first | assumption | exact inB_n (by omega) (by decide) | exact inB_l (by omega) (by decide) | exact inB_al (by omega) (by decide) | exact inB_la (by omega) (by decide) | exact inB_j (by assumption) (by omega) (by decide) | exact inB_e (by assumption) (by decide) | omega) only [↓eC h, ↓bd_r, ↓lt_r, ↓Option.bind_some, ↓reduceIte, ix_nI, ix_l, nI_al, nI_la, nI_lm, u2_ne, u2_eq, nI_leI, nI_ltI, nI_eq, le_ln, le_nl, lt_ln, lt_nl, eq_nl, eq_ln, et, e0, if_pos (show b1 false = 0 from rfl), f1]
    exact d1
