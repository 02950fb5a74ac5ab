/-! hangs: the pulls, the slack lines -/
def upP (S : Mem) (c : Nat) (f : Nat → Int32) (i : Nat) : Nat → Nat → Int32 := fun a j => if a = c ∧ j < i then f j else mI S a j
theorem upP_0 (S : Mem) (c : Nat) (f : Nat → Int32) : wI S (upP S c f 0) = S := by
  have : upP S c f 0 = mI S := by funext a j; simp [upP]
  rw [this]; rfl
theorem upP_s (S : Mem) (c : Nat) (f : Nat → Int32) (i : Nat) : pI (wI S (upP S c f i)) c i (f i) = wI S (upP S c f (i + 1)) := by
  rw [pI_wI, wI_wI, wI_mI]
  congr 1
  funext a j
  unfold u2 upP
  by_cases ha : a = c
  · by_cases hj : j = i
    · simp [ha, hj]
    · by_cases hl : j < i
      · simp [ha, hj, hl, Nat.lt_succ_of_lt hl]
      · have : ¬ j < i + 1 := by omega
        simp [ha, hj, hl, this]
  · simp [ha]
theorem upP_o (S : Mem) {c a : Nat} (f : Nat → Int32) (i : Nat) (h : a ≠ c) : mI (wI S (upP S c f i)) a = mI S a := by
  funext j
  simp [wI_mI, upP, h]
theorem shM.wI {S : Mem} {M : Nat} (h : shM S M) (f : Nat → Nat → Int32) : shM (wI S f) M := h
def slackF (q : Nat → Bool) : Nat → Nat → Int32 → Int32
  | 0, _, acc => acc
  | d + 1, i, acc => slackF q d (i + 1) (acc + b1 (q i))
def slkF (kd le s w : Nat → Int32) (k : Nat) : Bool := (!lostB (s 18) (nI k)) && (!fliesF kd le s w k)
theorem p_hangs1 {F M : Nat} {S : Mem} {n : Nat} (h : shM S M) (hk : mI S (M + 2) 4 = nI n) (hn : n ≤ 6) (hs : ∀ k, k < n → ∃ j : Nat, j < 41 ∧ mI S (M + 24) k = nI j) : ∀ (d i f : Nat) (acc : Int32), i + d = n → d < f →
    fix3 (b_X9_hangs_4 F) f M acc (nI i) (wI S (upP S (M + 28) (pullF (mI S (M + 3)) (mI S (M + 6)) (mI S (M + 5)) (mI S (M + 24)) (mI S (M + 27))) i)) = fix2 (b_X9_hangs_61 F) F M (slackF (slkF (mI S (M + 3)) (mI S (M + 6)) (mI S (M + 24)) (mI S (M + 27))) d i acc) (pI (wI S (upP S (M + 28) (pullF (mI S (M + 3)) (mI S (M + 6)) (mI S (M + 5)) (mI S (M + 24)) (mI S (M + 27))) n)) M 41 40) := by
  generalize hP : pullF (mI S (M + 3)) (mI S (M + 6)) (mI S (M + 5)) (mI S (M + 24)) (mI S (M + 27)) = P
  have o2 : ∀ i, mI (wI S (upP S (M + 28) P i)) (M + 2) = mI S (M + 2) := fun i => upP_o S P i (by omega)
  have o3 : ∀ i, mI (wI S (upP S (M + 28) P i)) (M + 3) = mI S (M + 3) := fun i => upP_o S P i (by omega)
  have o5 : ∀ i, mI (wI S (upP S (M + 28) P i)) (M + 5) = mI S (M + 5) := fun i => upP_o S P i (by omega)
  have o6 : ∀ i, mI (wI S (upP S (M + 28) P i)) (M + 6) = mI S (M + 6) := fun i => upP_o S P i (by omega)
  have o24 : ∀ i, mI (wI S (upP S (M + 28) P i)) (M + 24) = mI S (M + 24) := fun i => upP_o S P i (by omega)
  have o27 : ∀ i, mI (wI S (upP S (M + 28) P i)) (M + 27) = mI S (M + 27) := fun i => upP_o S P i (by omega)
  intro d
  induction d with
  | zero =>
    intro i f acc hi hf
    obtain ⟨f, rfl⟩ : ∃ f', f = f' + 1 := ⟨f - 1, by omega⟩
    obtain rfl : i = n := by omega
    show b_X9_hangs_4 F (fix3 (b_X9_hangs_4 F) f) M acc (nI i) _ = _
    generalize fix3 (b_X9_hangs_4 F) f = k4
    unfold b_X9_hangs_4
    rw [gm_sky (h.wI _), Option.bind_some]
    show (gA _ 10 (M + 2) (nI 4)).bind _ = _
    rw [am_sky (h.wI _) (by decide), Option.bind_some, o2, hk, if_pos (nI_le (by omega) (by omega)), sI_of (h.wI _).1, Option.bind_some]
    rfl
  | succ d ih =>
    intro i f acc hi hf
    obtain ⟨f, rfl⟩ : ∃ f', f = f' + 1 := ⟨f - 1, by omega⟩
    have ih := fun acc => ih (i + 1) f acc (by omega) (by omega)
    have e : nI i + (1 : Int32) = nI (i + 1) := nI_1 i
    show b_X9_hangs_4 F (fix3 (b_X9_hangs_4 F) f) M acc (nI i) _ = _
    generalize fix3 (b_X9_hangs_4 F) f = k4 at ih ⊢
    unfold b_X9_hangs_4
    rw [gm_sky (h.wI _), Option.bind_some]
    show (gA _ 10 (M + 2) (nI 4)).bind _ = _
    have hsi : ∀ q, ∃ j : Nat, j < 41 ∧ mI (wI S (upP S (M + 28) P q)) (M + 24) i = nI j := fun q => by rw [o24]; exact hs i (by omega)
    rw [am_sky (h.wI _) (by decide), Option.bind_some, o2, hk, if_neg (nI_ge (by omega) (by omega)), gm_pulls (h.wI _), Option.bind_some, cal_of (h.wI _).1, p_pullOf (h.wI _) (by omega) (hsi i), bd_some, o3, o5, o6, o24, o27, hP, um_pulls (h.wI _) (by omega), Option.bind_some, upP_s, cal_of (h.wI _).1, p_isLost (h.wI _), bd_some, o24]
    have fin : ∀ v : Int32, f_X9_hangs_47 F k4 M (nI i) acc v (wI S (upP S (M + 28) P (i + 1))) = fix2 (b_X9_hangs_61 F) F M (slackF (slkF (mI S (M + 3)) (mI S (M + 6)) (mI S (M + 24)) (mI S (M + 27))) d (i + 1) (acc + v)) (pI (wI S (upP S (M + 28) P n)) M 41 40) := by
      intro v
      show k4 M (acc + v) (nI i + (1 : Int32)) _ = _
      rw [e, ih]
    show _ = fix2 (b_X9_hangs_61 F) F M (slackF _ d (i + 1) (acc + b1 (slkF (mI S (M + 3)) (mI S (M + 6)) (mI S (M + 24)) (mI S (M + 27)) i))) _
    unfold slkF
    cases hl : lostB (mI S (M + 24) 18) (nI i) with
    | true => exact fin 0
    | false =>
      show (if (0 : Int32) = 0 then _ else _) = _
      rw [if_pos rfl, cal_of (h.wI _).1, p_flies (h.wI _) (by omega) (hsi (i + 1)), bd_some, o3, o6, o24, o27]
      cases hf9 : fliesF (mI S (M + 3)) (mI S (M + 6)) (mI S (M + 24)) (mI S (M + 27)) i with
      | true => exact fin 0
      | false => exact fin 1
