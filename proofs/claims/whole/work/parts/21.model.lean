/-! the model's small methods -/
def lostB (m x : Int32) : Bool := decide ((m >>> (x &&& 31)) &&& 1 = 1)
def b1 (c : Bool) : Int32 := if c then 1 else 0
theorem rz_1 (S : Mem) : rz 1 S = some (1, S) := by simp [rz]
theorem rz_0 (S : Mem) : rz 0 S = some (0, S) := by simp [rz]
theorem p_isLost {F M : Nat} {S : Mem} {x : Int32} (h : shM S M) : fn_X9_isLost F M x S = some (b1 (lostB (mI S (M + 24) 18) x), S) := by
  unfold fn_X9_isLost
  rw [gm_s h, Option.bind_some]
  show (gA S 10 (M + 24) (nI 18)).bind _ = _
  rw [am_s h (by decide), Option.bind_some]
  unfold f_X9_isLost_20 b1 lostB
  by_cases hc : (mI S (M + 24) 18 >>> (x &&& 31)) &&& 1 = 1
  · rw [if_pos hc, rz_1, decide_eq_true hc]; rfl
  · rw [if_neg hc, rz_0, decide_eq_false hc]; rfl
theorem p_within {F : Nat} {S : Mem} {x a b : Int32} : fn_X9_within F x a b S = some (b1 (decide (¬ x < a) && decide (¬ b < x)), S) := by
  unfold fn_X9_within f_X9_within_14 f_X9_within_15 b1
  by_cases h1 : x < a
  · simp [h1, rz_0]
  · by_cases h2 : b < x
    · simp [h1, h2, rz_0]
    · simp [h1, h2, rz_1]
theorem p_isWithin {F : Nat} {S : Mem} {x a b : Int32} : fn_X8_isWithin F x a b S = some (b1 (decide (¬ x < a) && decide (¬ b < x)), S) := by
  unfold fn_X8_isWithin f_X8_isWithin_14 f_X8_isWithin_15 b1
  by_cases h1 : x < a
  · simp [h1, rz_0]
  · by_cases h2 : b < x
    · simp [h1, h2, rz_0]
    · simp [h1, h2, rz_1]
/-- does kite k fly: kinds, leasts, lost, lengths, winds -/
def fliesF (kd le s w : Nat → Int32) (k : Nat) : Bool := (!lostB (s 18) (nI k)) && (decide (¬ s k ≤ 0) && decide (¬ w (s k).toNatClampNeg < (if kd k = 2 then le k / 2 else le k)))
theorem p_flies {F M : Nat} {S : Mem} {k : Nat} (h : shM S M) (hk : k < 6) (hs : ∃ j : Nat, j < 41 ∧ mI S (M + 24) k = nI j) : fn_X9_flies F M (nI k) S = some (b1 (fliesF (mI S (M + 3)) (mI S (M + 6)) (mI S (M + 24)) (mI S (M + 27)) k), S) := by
  have key : ∀ y : Int32, f_X9_flies_27 F M (nI k) y S = some (b1 ((!lostB (mI S (M + 24) 18) (nI k)) && (decide (¬ mI S (M + 24) k ≤ 0) && decide (¬ mI S (M + 27) (mI S (M + 24) k).toNatClampNeg < y))), S) := by
    intro y
    unfold f_X9_flies_27
    rw [cal_of h.1, p_isLost h, bd_some]
    unfold f_X9_flies_64 f_X9_flies_65
    cases hl : lostB (mI S (M + 24) 18) (nI k) with
    | true => simp [b1, rz_0]
    | false =>
      show (if (0 : Int32) = 0 then _ else _) = _
      rw [if_pos rfl, gm_s h, Option.bind_some, am_s h (by omega), Option.bind_some]
      by_cases h1 : mI S (M + 24) k ≤ 0
      · rw [if_pos h1, rz_0]; simp [b1, h1]
      · obtain ⟨j, hj, ej⟩ := hs
        rw [if_neg h1, gm_winds h, Option.bind_some, Option.bind_some, am_s h (by omega), Option.bind_some, ej, am_winds h hj, Option.bind_some, nI_clamp (by omega)]
        rw [ej] at h1
        by_cases h2 : mI S (M + 27) j < y
        · rw [if_pos h2, rz_0]; simp [b1, h1, h2]
        · rw [if_neg h2, rz_1]; simp [b1, h1, h2]
  unfold fn_X9_flies
  rw [gm_kind h, Option.bind_some, am_kind h (by omega), Option.bind_some]
  unfold fliesF
  by_cases hc : mI S (M + 3) k = 2
  · rw [if_pos hc, gm_least h, Option.bind_some, am_least h (by omega), Option.bind_some, key, if_pos hc]
  · rw [if_neg hc, gm_least h, Option.bind_some, am_least h (by omega), Option.bind_some, key, if_neg hc]
/-- what kite k pulls -/
def pullK (kd : Int32) (li w : Int32) : Int32 := if kd = 1 ∧ ¬ w < 40 then 2 * (li * w / 10) else if kd = 3 then mxI 0 (li * w / 10 - 3) else li * w / 10
def pullF (kd le li s w : Nat → Int32) (k : Nat) : Int32 := if fliesF kd le s w k = true then pullK (kd k) (li k) (w (s k).toNatClampNeg) else 0
theorem p_pullOf {F M : Nat} {S : Mem} {k : Nat} (h : shM S M) (hk : k < 6) (hs : ∃ j : Nat, j < 41 ∧ mI S (M + 24) k = nI j) : fn_X9_pullOf F M (nI k) S = some (pullF (mI S (M + 3)) (mI S (M + 6)) (mI S (M + 5)) (mI S (M + 24)) (mI S (M + 27)) k, S) := by
  unfold fn_X9_pullOf
  rw [cal_of h.1, p_flies h hk hs, bd_some]
  unfold pullF
  cases hf : fliesF (mI S (M + 3)) (mI S (M + 6)) (mI S (M + 24)) (mI S (M + 27)) k with
  | false => rfl
  | true =>
    obtain ⟨j, hj, ej⟩ := hs
    show (if (1 : Int32) = 0 then _ else _) = _
    rw [if_neg (by decide), gm_winds h, Option.bind_some, gm_s h, Option.bind_some, am_s h (by omega), Option.bind_some, ej, am_winds h hj, Option.bind_some, gm_lift h, Option.bind_some, am_lift h (by omega), Option.bind_some]
    dsimp only [lt]
    rw [gm_kind h, Option.bind_some, am_kind h (by omega), Option.bind_some, nI_clamp (by omega)]
    have key : ∀ y : Int32, f_X9_pullOf_56 F M (nI k) y S = some (if mI S (M + 3) k = 3 then mxI 0 (y - 3) else y, S) := by
      intro y
      unfold f_X9_pullOf_56 f_X9_pullOf_77
      rw [gm_kind h, Option.bind_some, am_kind h (by omega), Option.bind_some]
      by_cases h3 : mI S (M + 3) k = 3
      · rw [if_pos h3, if_pos h3]
      · rw [if_neg h3, if_neg h3]
    unfold pullK
    rw [if_pos rfl]
    by_cases h1 : mI S (M + 3) k = 1
    · rw [if_pos h1]
      by_cases h2 : mI S (M + 27) j < 40
      · rw [if_pos h2, key, if_neg (show ¬ (mI S (M + 3) k = 1 ∧ ¬ mI S (M + 27) j < 40) from fun q => q.2 h2)]
      · rw [if_neg h2, if_pos ⟨h1, h2⟩]; rfl
    · rw [if_neg h1, key, if_neg (show ¬ (mI S (M + 3) k = 1 ∧ ¬ mI S (M + 27) j < 40) from fun q => h1 q.1)]
