/-! the calls: what they answer, in the spec's words -/
def inr (x a b : Int32) : Bool := decide (¬ x < a) && decide (¬ b < x)
def isK (n : Nat) (x : Int32) : Bool := decide (¬ x < 0) && decide (¬ nI n ≤ x)
theorem inr_nI {x : Int32} {a b : Nat} (ha : a < 2 ^ 31) (hb : b < 2 ^ 31) (h : inr x (nI a) (nI b) = true) : ∃ j, a ≤ j ∧ j ≤ b ∧ x = nI j := by
  unfold inr at h
  rw [Bool.and_eq_true] at h
  have h1 := of_decide_eq_true h.1
  have h2 := of_decide_eq_true h.2
  by_cases h0 : x < 0
  · exact absurd (Int32.lt_of_lt_of_le h0 (nI_pos' ha)) h1
  · obtain ⟨j, hj, rfl⟩ := nI_of h0
    refine ⟨j, ?_, ?_, rfl⟩
    · exact Nat.not_lt.mp (fun q => h1 (nI_lt q ha))
    · exact Nat.not_lt.mp (fun q => h2 (nI_lt q hj))
theorem isK_nI {x : Int32} {n : Nat} (hn : n ≤ 6) (h : isK n x = true) : ∃ j, j < n ∧ x = nI j := by
  unfold isK at h
  rw [Bool.and_eq_true] at h
  have h1 := of_decide_eq_true h.1
  have h2 := of_decide_eq_true h.2
  obtain ⟨j, hj, rfl⟩ := nI_of h1
  exact ⟨j, Nat.not_le.mp (fun q => h2 (nI_le q hj)), rfl⟩
theorem q_within {F : Nat} {S : Mem} {x a b : Int32} : fn_X9_within F x a b S = some (b1 (inr x a b), S) := p_within
theorem c_within {F : Nat} {S : Mem} {x a b : Int32} : fn_X8_isWithin F x a b S = some (b1 (inr x a b), S) := p_isWithin
theorem q_isHigh {F : Nat} {S : Mem} {x : Int32} : fn_X9_isHigh F x S = some (b1 (inr x 0 40), S) := by
  unfold fn_X9_isHigh f_X9_isHigh_14 f_X9_isHigh_15 inr
  by_cases h1 : x < 0
  · simp [h1, rz_0, b1]
  · by_cases h2 : (40 : Int32) < x
    · simp [h1, h2, rz_0, b1]
    · simp [h1, h2, rz_1, b1]
theorem rz_b1 {c : Bool} {S : Mem} : rz (b1 c) S = some (b1 c, S) := by cases c <;> simp [b1, rz]
theorem c_isHeight {F : Nat} {S : Mem} {x : Int32} : fn_X8_isHeight F x S = some (b1 (inr x 0 40), S) := by
  unfold fn_X8_isHeight
  rw [c_within, bd_r, rz_b1]
theorem q_isWanted {F : Nat} {S : Mem} {x y : Int32} : fn_X9_isWanted F x y S = some (b1 (inr x 0 999 && inr y 0 40), S) := by
  unfold fn_X9_isWanted f_X9_isWanted_22 f_X9_isWanted_23
  rw [q_within, bd_r]
  cases inr x 0 999 with
  | false => rfl
  | true =>
    show (if (1 : Int32) = 0 then _ else _) = _
    rw [if_neg (by decide), q_isHigh, bd_r]
    cases inr y 0 40 <;> rfl
theorem c_isSpot {F : Nat} {S : Mem} {x y : Int32} : fn_X8_isSpot F x y S = some (b1 (inr x 0 999 && inr y 0 40), S) := by
  unfold fn_X8_isSpot f_X8_isSpot_22 f_X8_isSpot_23
  rw [c_within, bd_r]
  cases inr x 0 999 with
  | false => rfl
  | true =>
    show (if (1 : Int32) = 0 then _ else _) = _
    rw [if_neg (by decide), c_isHeight, bd_r]
    cases inr y 0 40 <;> rfl
theorem q_isKite {n : Nat} {x : Int32} {F M : Nat} {S : Mem} {V : Vw} {U : Uw} (h : shM S M) (hn : V 2 4 = nI n) : fn_X9_isKite F M x (wM S M V U) = some (b1 (isK n x), wM S M V U) := by
  unfold fn_X9_isKite f_X9_isKite_18 f_X9_isKite_19 isK
  by_cases h1 : x < 0
  · simp [h1, rz_0, b1]
  · rw [if_neg h1]
    simp (disch := first | assumption | exact inB_n (by omega) (by decide) | exact inB_l (by omega) (by decide) | exact inB_al (by omega) (by decide) | exact inB_la (by omega) (by decide) | exact inB_j (by assumption) (by omega) (by decide) | exact inB_e (by assumption) (by decide) | omega) only [↓eM h, ↓bd_r, ↓lt_r, ↓Option.bind_some, ↓reduceIte, ix_nI, ix_l, nI_al, nI_la, nI_lm, u2_ne, u2_eq, nI_leI, nI_ltI, nI_eq, le_ln, le_nl, lt_ln, lt_nl, eq_nl, eq_ln, hn]
    by_cases h2 : nI n ≤ x
    · simp [h1, h2, rz_0, b1]
    · simp [h1, h2, rz_1, b1]
theorem sub1_lt {n : Nat} {x : Int32} (hn : n ≤ 6) : (nI n - 1 < x) ↔ nI n ≤ x := by
  have e : (nI n - 1).toInt = (n : Int) - 1 := pk_sub_toInt (b := 1) (by omega) (by decide)
  rw [Int32.lt_iff_toInt_lt, Int32.le_iff_toInt_le, e, nI_toInt (by omega)]
  omega
theorem isN28 : isN 28 := by unfold isN; omega
theorem isN35 : isN 35 := by unfold isN; omega
theorem c_isKite {b : Nat} {K : SkyT} {x : Int32} {F C : Nat} {S : Mem} {V : Vw} {U : Uw} {D : Dw} (h : shC S C) (hw9 : wfK K) (hK : cSky S C b K) (hb : D 28 0 = b) : fn_X8_isKite F C x (wC S C V U D) = some (b1 (isK (kN K) x), wC S C V U D) := by
  unfold fn_X8_isKite
  simp only [↓eC h, ↓eN h isN28, ↓eK hK.1, hb, hK.2.1.1, c_within, ↓bd_r]
  unfold inr isK
  rw [decide_eq_decide.mpr (not_congr (sub1_lt hw9.1.1)), rz_b1]
/-! what a call leaves of the class, of the model -/
def ck (V V' : Vw) : Prop := ∀ j, j = 0 ∨ j = 7 ∨ 42 < j → V' j = V j
def dk (D D' : Dw) : Prop := ∀ o, isN o → o ≠ 35 → D' o 0 = D o 0
def mk (V V' : Vw) : Prop := (∀ j, j ≠ 0 → j < 14 ∨ j = 26 ∨ j = 31 → V' j = V j) ∧ V' 0 1 = V 0 1
theorem ck.rf {V : Vw} : ck V V := fun _ _ => rfl
theorem dk.rf {D : Dw} : dk D D := fun _ _ _ => rfl
theorem dk.air {D : Dw} {b : Nat} : dk D (u2 D 14 7 b) := fun o ho _ => u2_ne (by unfold isN at ho; omega)
theorem dk.ahead {D : Dw} {b : Nat} : dk D (u2 D 35 0 b) := fun o ho h35 => u2_ne (Or.inl h35)
theorem dk.tr {D D1 D2 : Dw} (h1 : dk D D1) (h2 : dk D1 D2) : dk D D2 := fun o a b => (h2 o a b).trans (h1 o a b)
theorem ck.tr {V V1 V2 : Vw} (h1 : ck V V1) (h2 : ck V1 V2) : ck V V2 := fun j a => (h2 j a).trans (h1 j a)
theorem mk.rf {V : Vw} : mk V V := ⟨fun _ _ _ => rfl, rfl⟩
theorem mk.tr {V V1 V2 : Vw} (h1 : mk V V1) (h2 : mk V1 V2) : mk V V2 := ⟨fun j a b => (h2.1 j a b).trans (h1.1 j a b), h2.2.trans h1.2⟩
theorem kp.mk {V V' : Vw} (h : kp V V') : mk V V' := ⟨fun j a b => h.1 j a (by omega), h.2 1 (by omega) (by omega) (by omega)⟩
theorem mk.thrown {V : Vw} {v : Int32} : mk V (u2 V 0 0 v) := ⟨fun j a _ => u2_row a, u2_ne (by omega)⟩
theorem mSky.thrown {V : Vw} {r : Nat} {K : SkyT} {v : Int32} {j : Nat} (h : mSky V r K) : mSky (u2 V 0 j v) r K := h.keep (fun i hi => u2_row (by omega))
theorem mS.thrown {V : Vw} {s : Nat → Nat} {v : Int32} {j : Nat} (h : mS V s) : mS (u2 V 0 j v) s := fun i hi => by rw [u2_row (by omega)]; exact h i hi
/-! kite -/
def kiteV (K : SkyT) (s : Nat → Nat) (k : Nat) (y : Int32) : Int32 := if y = 0 then nI (kd K k) else if y = 1 then nI (s k) else if y = 2 then nI (plN K (s 18) (wR K (s 19) 0) s k) else if y = 3 then (if lo (s 18) k = true then 2 else if flyN K (wR K (s 19) 0) s k = true then 0 else 1) else if y = 4 then nI (s (6 + k)) - 1 else if y = 5 then nI (s (12 + k)) else -1
def sp_kite (K : SkyT) (s : Nat → Nat) (x y : Int32) : Int32 := if isK (kN K) x = true then kiteV K s x.toNatClampNeg y else -1
theorem ca_kite {x y : Int32} {B b : Nat} {K : SkyT} {s : Nat → Nat} {F C : Nat} {S : Mem} {V : Vw} {U : Uw} {D : Dw} (h : shC S C) (hF : 10000 < F) (hw9 : wfK K) (hK : cSky S C b K) (hb : D 28 0 = b) (hS : cNt V 28 K s) (hs : wfS K B s) (hB : B < 2 ^ 29) : ∃ V' D', fn_X8_kite F C x y (wC S C V U D) = some (sp_kite K s x y, wC S C V' U D') ∧ ck V V' ∧ dk D D' ∧ cNt V' 28 K s := by
  have hn6 := hw9.1.1
  have hl2 : s 18 < 2 ^ 31 := by have := hs.lost hw9; omega
  unfold fn_X8_kite sp_kite f_X8_kite_114 f_X8_kite_160
  have e0 : ∀ {α : Type} (X : Option (Int32 × Mem)) (K' : Int32 → Mem → Option α), bd (cal (wC S C V U D) 7 C X) K' = bd X K' := fun X K' => by simp only [↓eC h]
  rw [e0, c_isKite h hw9 hK hb, bd_r]
  cases hk : isK (kN K) x with
  | false => exact ⟨V, D, rfl, ck.rf, dk.rf, hS⟩
  | true =>
    obtain ⟨k, hkn, rfl⟩ := isK_nI hn6 hk
    show ∃ V' D', (if (1 : Int32) = 0 then _ else _) = _ ∧ _
    have vk := hS.2.2.2.1 k hkn
    have kk := hK.2.2.1 k hkn
    rw [if_neg (by decide), if_pos rfl, nI_clamp (by omega)]
    unfold kiteV
    by_cases y0 : y = 0
    · rw [if_pos y0, if_pos y0]
      refine ⟨V, D, ?_, ck.rf, dk.rf, hS⟩
      simp (disch := first | assumption | exact inB_n (by omega) (by decide) | exact inB_l (by omega) (by decide) | exact inB_al (by omega) (by decide) | exact inB_la (by omega) (by decide) | exact inB_j (by assumption) (by omega) (by decide) | exact inB_e (by assumption) (by decide) | omega) only [↓eC h, ↓eN h isN28, ↓eK hK.1, hb, kk.1, ix_nI, ix_l, nI_al, nI_la, nI_lm, u2_ne, u2_eq]
    rw [if_neg y0, if_neg y0]
    by_cases y1 : y = 1
    · rw [if_pos y1, if_pos y1]
      refine ⟨V, D, ?_, ck.rf, dk.rf, hS⟩
      simp (disch := first | assumption | exact inB_n (by omega) (by decide) | exact inB_l (by omega) (by decide) | exact inB_al (by omega) (by decide) | exact inB_la (by omega) (by decide) | exact inB_j (by assumption) (by omega) (by decide) | exact inB_e (by assumption) (by decide) | omega) only [↓eC h, ↓eN h isN28, vk.1, ix_nI, ix_l, nI_al, nI_la, nI_lm, u2_ne, u2_eq]
    rw [if_neg y1, if_neg y1]
    obtain ⟨V1, e1, f1, g1⟩ := c_feel (F := F) (U := U) (m := s 19) (g := 0) (len := s) h isN28 (by omega) hw9 hK hb (fun k hk => (hS.2.2.2.1 k hk).1) (fun k hk => (hs.1 k hk).1)
    have c1 : ck V V1 := fun j hj => f1 j (by omega)
    have n1 : cNt V1 28 K s := hS.keep (fun i hi => f1 (28 + i) (by omega))
    have p1 := c_isLost (F := F) (U := U) (D := u2 D 14 7 b) (k := k) h isN28 (by omega) n1.2.1 hl2
    have p19 := (g1.2.2.2.2 k hkn).2
    have p3 := g1.2.2.2.1
    by_cases y2 : y = 2
    · rw [if_pos y2, if_pos y2]
      refine ⟨V1, u2 D 14 7 b, ?_, c1, dk.air, n1⟩
      simp (disch := first | assumption | exact inB_n (by omega) (by decide) | exact inB_l (by omega) (by decide) | exact inB_al (by omega) (by decide) | exact inB_la (by omega) (by decide) | exact inB_j (by assumption) (by omega) (by decide) | exact inB_e (by assumption) (by decide) | omega) only [↓eC h, ↓eN h isN28, hS.1, e1, ↓bd_r, p1, p19, ix_nI, ix_l, nI_al, nI_la, nI_lm, u2_ne, u2_eq]
      unfold plN
      cases lo (s 18) k <;> rfl
    rw [if_neg y2, if_neg y2]
    by_cases y3 : y = 3
    · rw [if_pos y3, if_pos y3]
      refine ⟨V1, u2 D 14 7 b, ?_, c1, dk.air, n1⟩
      have h6 : smk K (wR K (s 19) 0) s (kN K) < 2 ^ 31 := by
        have h1 := bitsum_lt (fun k => !flyN K (wR K (s 19) 0) s k) (kN K)
        have h2 : 2 ^ kN K ≤ 2 ^ 6 := Nat.pow_le_pow_right (by decide) hn6
        unfold smk
        omega
      simp (disch := first | assumption | exact inB_n (by omega) (by decide) | exact inB_l (by omega) (by decide) | exact inB_al (by omega) (by decide) | exact inB_la (by omega) (by decide) | exact inB_j (by assumption) (by omega) (by decide) | exact inB_e (by assumption) (by decide) | omega) only [↓eC h, ↓eN h isN28, hS.1, e1, ↓bd_r, p1, p3, lo_nI h6 (show k < 6 by omega), ix_nI, ix_l, nI_al, nI_la, nI_lm, u2_ne, u2_eq]
      have h7 := bitsum_lo (fun k => !flyN K (wR K (s 19) 0) s k) (kN K) k
      rw [decide_eq_true hkn] at h7
      unfold lo at h7
      have h8 : smk K (wR K (s 19) 0) s (kN K) / 2 ^ k % 2 = if flyN K (wR K (s 19) 0) s k = true then 0 else 1 := by
        unfold smk
        cases hf : flyN K (wR K (s 19) 0) s k with
        | true =>
          rw [hf] at h7
          have := of_decide_eq_false h7
          rw [if_pos rfl]; omega
        | false =>
          rw [hf] at h7
          exact of_decide_eq_true h7
      rw [h8]
      cases lo (s 18) k <;> cases flyN K (wR K (s 19) 0) s k <;> rfl
    rw [if_neg y3, if_neg y3]
    by_cases y4 : y = 4
    · rw [if_pos y4, if_pos y4]
      refine ⟨V, D, ?_, ck.rf, dk.rf, hS⟩
      simp (disch := first | assumption | exact inB_n (by omega) (by decide) | exact inB_l (by omega) (by decide) | exact inB_al (by omega) (by decide) | exact inB_la (by omega) (by decide) | exact inB_j (by assumption) (by omega) (by decide) | exact inB_e (by assumption) (by decide) | omega) only [↓eC h, ↓eN h isN28, vk.2.1, ix_nI, ix_l, nI_al, nI_la, nI_lm, u2_ne, u2_eq]
    rw [if_neg y4, if_neg y4]
    by_cases y5 : y = 5
    · rw [if_pos y5, if_pos y5]
      refine ⟨V, D, ?_, ck.rf, dk.rf, hS⟩
      simp (disch := first | assumption | exact inB_n (by omega) (by decide) | exact inB_l (by omega) (by decide) | exact inB_al (by omega) (by decide) | exact inB_la (by omega) (by decide) | exact inB_j (by assumption) (by omega) (by decide) | exact inB_e (by assumption) (by decide) | omega) only [↓eC h, ↓eN h isN28, vk.2.2, ix_nI, ix_l, nI_al, nI_la, nI_lm, u2_ne, u2_eq]
    rw [if_neg y5, if_neg y5]
    exact ⟨V, D, rfl, ck.rf, dk.rf, hS⟩
theorem ma_kite {x y : Int32} {B : Nat} {K : SkyT} {s : Nat → Nat} {F M : Nat} {S : Mem} {V : Vw} {U : Uw} (h : shM S M) (hF : 10000 < F) (hw9 : wfK K) (hK : mSky V 0 K) (hS : mS V s) (hs : wfS K B s) (hB : B < 2 ^ 29) : ∃ V' U', fn_X9_kite F M x y (wM S M V U) = some (sp_kite K s x y, wM S M V' U') ∧ mk V V' ∧ mS V' s := by
  have hn6 := hw9.1.1
  have hl2 : s 18 < 2 ^ 31 := by have := hs.lost hw9; omega
  have hn : V 2 4 = nI (kN K) := hK.1.2.2.2.2
  unfold fn_X9_kite sp_kite f_X9_kite_22 f_X9_kite_66 f_X9_kite_128
  rw [cm_sI h, cm_cal h, q_isKite h (show u2 V 0 0 0 2 4 = nI (kN K) by rw [u2_row (by omega)]; exact hn), bd_r]
  cases hk : isK (kN K) x with
  | false => exact ⟨_, _, rfl, mk.thrown, hS.thrown⟩
  | true =>
    obtain ⟨k, hkn, rfl⟩ := isK_nI hn6 hk
    show ∃ V' U', (if (1 : Int32) = 0 then _ else _) = _ ∧ _
    rw [if_neg (by decide), if_pos rfl, nI_clamp (by omega), q_within, bd_r]
    cases hy : inr y 0 5 with
    | false =>
      show ∃ V' U', (if (0 : Int32) = 0 then _ else _) = _ ∧ _
      refine ⟨u2 V 0 0 0, U, ?_, mk.thrown, hS.thrown⟩
      rw [if_pos rfl]
      unfold kiteV
      have hne : ∀ j : Int32, inr j 0 5 = true → ¬ y = j := fun j hj q => by rw [q, hj] at hy; cases hy
      rw [if_neg (hne 0 (by decide)), if_neg (hne 1 (by decide)), if_neg (hne 2 (by decide)), if_neg (hne 3 (by decide)), if_neg (hne 4 (by decide)), if_neg (hne 5 (by decide))]
    | true =>
      obtain ⟨j, -, hj5, rfl⟩ := inr_nI (a := 0) (b := 5) (by decide) (by decide) hy
      show ∃ V' U', (if (1 : Int32) = 0 then _ else _) = _ ∧ _
      rw [if_neg (by decide)]
      have S1 : mS (u2 V 0 0 0) s := hS.thrown
      obtain ⟨V1, e1, f1, f0, w1, p1, r1, r2, r3⟩ := q_looks (F := F) (V := u2 V 0 0 0) (U := U) (m := s 19) (g := 0) (l := s 18) (len := s) h (by omega) hw9 hK.thrown (S1 18 (by omega)) hl2 (fun k hk => S1 k (by omega)) (fun k hk => (hs.1 k hk).1)
      have S2 : mS V1 s := fun i hi => by rw [f1 24 (by omega) (by omega)]; exact S1 i hi
      have K2 : mSky V1 0 K := (hK.thrown (v := 0) (j := 0)).keep (fun j hj => f1 j (by omega) (by omega))
      have m2 : mk V V1 := mk.thrown.tr ⟨fun j a b => f1 j a (by omega), f0 1 (by omega) (by omega) (by omega)⟩
      have e2 : fn_X9_looksNow F M (wM S M (u2 V 0 0 0) U) = some ((), wM S M V1 U) := by
        unfold fn_X9_looksNow
        have e3 : fn_X9_looks F M (nI (s 19)) 0 (wM S M (u2 V 0 0 0) U) = _ := e1
        simp (disch := first | assumption | exact inB_n (by omega) (by decide) | exact inB_l (by omega) (by decide) | exact inB_al (by omega) (by decide) | exact inB_la (by omega) (by decide) | exact inB_j (by assumption) (by omega) (by decide) | exact inB_e (by assumption) (by decide) | omega) only [↓eM h, ↓bd_r, ↓lt_r, ↓Option.bind_some, ↓reduceIte, ix_nI, ix_l, nI_al, nI_la, nI_lm, u2_ne, u2_eq, nI_leI, nI_ltI, nI_eq, le_ln, le_nl, lt_ln, lt_nl, eq_nl, eq_ln, hS 19 (by omega), e3]
      rw [cm_cal h, e2, bd_r]
      refine ⟨V1, U, ?_, m2, S2⟩
      have pl := q_isLost (F := F) (V := V1) (U := U) (k := k) h (by omega) (S2 18 (by omega)) hl2
      have pf := q_flies (F := F) (V := V1) (U := U) (w := wR K (s 19) 0) (len := s) h hw9 K2 hkn (S2 18 (by omega)) hl2 (S2 k (by omega)) (hs.1 k hkn).1 w1 (wR_le K (s 19) 0)
      have kk := (K2.2.1 k hkn).1
      rw [Nat.mul_zero, Nat.zero_add] at kk
      unfold kiteV
      rcases (by omega : j = 0 ∨ j = 1 ∨ j = 2 ∨ j = 3 ∨ j = 4 ∨ j = 5) with rfl | rfl | rfl | rfl | rfl | rfl
      · rw [if_neg (by decide), if_pos (by decide), if_pos (by decide)]
        simp (disch := first | assumption | exact inB_n (by omega) (by decide) | exact inB_l (by omega) (by decide) | exact inB_al (by omega) (by decide) | exact inB_la (by omega) (by decide) | exact inB_j (by assumption) (by omega) (by decide) | exact inB_e (by assumption) (by decide) | omega) only [↓eM h, ↓bd_r, ↓lt_r, ↓Option.bind_some, ↓reduceIte, ix_nI, ix_l, nI_al, nI_la, nI_lm, u2_ne, u2_eq, nI_leI, nI_ltI, nI_eq, le_ln, le_nl, lt_ln, lt_nl, eq_nl, eq_ln, kk]
      · rw [if_neg (by decide), if_neg (by decide), if_pos (by decide), if_neg (by decide), if_pos (by decide)]
        simp (disch := first | assumption | exact inB_n (by omega) (by decide) | exact inB_l (by omega) (by decide) | exact inB_al (by omega) (by decide) | exact inB_la (by omega) (by decide) | exact inB_j (by assumption) (by omega) (by decide) | exact inB_e (by assumption) (by decide) | omega) only [↓eM h, ↓bd_r, ↓lt_r, ↓Option.bind_some, ↓reduceIte, ix_nI, ix_l, nI_al, nI_la, nI_lm, u2_ne, u2_eq, nI_leI, nI_ltI, nI_eq, le_ln, le_nl, lt_ln, lt_nl, eq_nl, eq_ln, S2 k (by omega)]
      · rw [if_neg (by decide), if_neg (by decide), if_neg (by decide), if_neg (by decide), if_neg (by decide), if_pos (by decide)]
        simp (disch := first | assumption | exact inB_n (by omega) (by decide) | exact inB_l (by omega) (by decide) | exact inB_al (by omega) (by decide) | exact inB_la (by omega) (by decide) | exact inB_j (by assumption) (by omega) (by decide) | exact inB_e (by assumption) (by decide) | omega) only [↓eM h, ↓bd_r, ↓lt_r, ↓Option.bind_some, ↓reduceIte, ix_nI, ix_l, nI_al, nI_la, nI_lm, u2_ne, u2_eq, nI_leI, nI_ltI, nI_eq, le_ln, le_nl, lt_ln, lt_nl, eq_nl, eq_ln, p1 k hkn]
      · rw [if_pos (by decide), if_pos (by decide), if_neg (by decide), if_neg (by decide), if_neg (by decide), if_pos (by decide), cm_cal h, pl, bd_r]
        cases hl : lo (s 18) k with
        | true => rfl
        | false =>
          show (if (0 : Int32) = 0 then _ else _) = _
          rw [hl] at pf
          rw [if_pos rfl, cm_cal h, pf, bd_r]
          cases flyN K (wR K (s 19) 0) s k <;> rfl
      · rw [if_pos (by decide), if_neg (by decide), if_pos (by decide), if_neg (by decide), if_neg (by decide), if_neg (by decide), if_neg (by decide), if_pos (by decide)]
        simp (disch := first | assumption | exact inB_n (by omega) (by decide) | exact inB_l (by omega) (by decide) | exact inB_al (by omega) (by decide) | exact inB_la (by omega) (by decide) | exact inB_j (by assumption) (by omega) (by decide) | exact inB_e (by assumption) (by decide) | omega) only [↓eM h, ↓bd_r, ↓lt_r, ↓Option.bind_some, ↓reduceIte, ix_nI, ix_l, nI_al, nI_la, nI_lm, u2_ne, u2_eq, nI_leI, nI_ltI, nI_eq, le_ln, le_nl, lt_ln, lt_nl, eq_nl, eq_ln, S2 (6 + k) (by omega)]
      · rw [if_pos (by decide), if_neg (by decide), if_neg (by decide), if_neg (by decide), if_neg (by decide), if_neg (by decide), if_neg (by decide), if_neg (by decide), if_pos (by decide)]
        simp (disch := first | assumption | exact inB_n (by omega) (by decide) | exact inB_l (by omega) (by decide) | exact inB_al (by omega) (by decide) | exact inB_la (by omega) (by decide) | exact inB_j (by assumption) (by omega) (by decide) | exact inB_e (by assumption) (by decide) | omega) only [↓eM h, ↓bd_r, ↓lt_r, ↓Option.bind_some, ↓reduceIte, ix_nI, ix_l, nI_al, nI_la, nI_lm, u2_ne, u2_eq, nI_leI, nI_ltI, nI_eq, le_ln, le_nl, lt_ln, lt_nl, eq_nl, eq_ln, S2 (12 + k) (by omega)]
/-! wind -/
def sp_wind (K : SkyT) (s : Nat → Nat) (x : Int32) : Int32 := if inr x 0 40 = true then nI (windN K x.toNatClampNeg (s 19) 0) else -1
theorem ca_wind {x : Int32} {B b : Nat} {K : SkyT} {s : Nat → Nat} {F C : Nat} {S : Mem} {V : Vw} {U : Uw} {D : Dw} (h : shC S C) (hF : 10000 < F) (hw9 : wfK K) (hK : cSky S C b K) (hb : D 28 0 = b) (hS : cNt V 28 K s) (hs : wfS K B s) (hB : B < 2 ^ 29) : ∃ V' D', fn_X8_wind F C x (wC S C V U D) = some (sp_wind K s x, wC S C V' U D') ∧ ck V V' ∧ dk D D' ∧ cNt V' 28 K s := by
  unfold fn_X8_wind sp_wind
  rw [c_isHeight, bd_r]
  cases hx : inr x 0 40 with
  | false => exact ⟨V, D, rfl, ck.rf, dk.rf, hS⟩
  | true =>
    obtain ⟨j, -, hj, rfl⟩ := inr_nI (a := 0) (b := 40) (by decide) (by decide) hx
    show ∃ V' D', (if (1 : Int32) = 0 then _ else _) = _ ∧ _
    obtain ⟨V1, e1, f1⟩ := c_windAt (F := F) (V := V) (U := U) (D := D) (hh := j) (m := s 19) (g := 0) h (by omega) hK
    rw [if_neg (by decide), if_pos rfl, nI_clamp (by omega)]
    refine ⟨V1, D, ?_, fun i hi => f1 i (by omega) (by omega), dk.rf, hS.keep (fun i hi => f1 (28 + i) (by omega) (by omega))⟩
    simp only [↓eC h, ↓eN h isN28, hb, hS.1, e1, ↓bd_r]
theorem ma_wind {x : Int32} {B : Nat} {K : SkyT} {s : Nat → Nat} {F M : Nat} {S : Mem} {V : Vw} {U : Uw} (h : shM S M) (hF : 10000 < F) (hw9 : wfK K) (hK : mSky V 0 K) (hS : mS V s) (hs : wfS K B s) (hB : B < 2 ^ 29) : ∃ V' U', fn_X9_wind F M x (wM S M V U) = some (sp_wind K s x, wM S M V' U') ∧ mk V V' ∧ mS V' s := by
  unfold fn_X9_wind sp_wind
  rw [cm_sI h, q_isHigh, bd_r]
  cases hx : inr x 0 40 with
  | false => exact ⟨_, _, rfl, mk.thrown, hS.thrown⟩
  | true =>
    obtain ⟨j, -, hj, rfl⟩ := inr_nI (a := 0) (b := 40) (by decide) (by decide) hx
    show ∃ V' U', (if (1 : Int32) = 0 then _ else _) = _ ∧ _
    have S1 : mS (u2 V 0 0 0) s := hS.thrown
    obtain ⟨V1, e1, f1, w1⟩ := q_blows (F := F) (V0 := u2 V 0 0 0) (U := U) (m := s 19) (g := 0) h (by omega) hK.thrown
    rw [if_neg (by decide), if_pos rfl, nI_clamp (by omega)]
    refine ⟨V1, U, ?_, mk.thrown.tr ⟨fun j a b => f1 j (by omega), by rw [f1 0 (by omega)]⟩, fun i hi => by rw [f1 24 (by omega)]; exact S1 i hi⟩
    simp (disch := first | assumption | exact inB_n (by omega) (by decide) | exact inB_l (by omega) (by decide) | exact inB_al (by omega) (by decide) | exact inB_la (by omega) (by decide) | exact inB_j (by assumption) (by omega) (by decide) | exact inB_e (by assumption) (by decide) | omega) only [↓eM h, ↓bd_r, ↓lt_r, ↓Option.bind_some, ↓reduceIte, ix_nI, ix_l, nI_al, nI_la, nI_lm, u2_ne, u2_eq, nI_leI, nI_ltI, nI_eq, le_ln, le_nl, lt_ln, lt_nl, eq_nl, eq_ln, hS 19 (by omega), e1, w1 j (by omega)]
