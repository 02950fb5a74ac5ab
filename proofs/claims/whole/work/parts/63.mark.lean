/-! mark -/
def setB (l m : Nat) : Nat := if lo l m = true then l else l + 2 ^ m
theorem setB_F : ∀ l : Fin 16, ∀ m : Fin 4, (nI l.val ||| ((1 : Int32) <<< (nI m.val &&& 31)) = nI (setB l.val m.val)) ∧ setB l.val m.val < 16 ∧ (∀ j : Fin 4, lo (setB l.val m.val) j.val = (lo l.val j.val || decide (j.val = m.val))) ∧ (nI l.val >>> (nI m.val &&& 31)) &&& (1 : Int32) = b1 (lo l.val m.val) := by decide +kernel
theorem isNm {m : Nat} (h : m < 4) : isN (43 + 7 * m) := by unfold isN; omega
theorem gAR_m {α : Type} {S : Mem} {C m : Nat} {V : Vw} {U : Uw} {D : Dw} {K : Nat → Option α} (h : shC S C) (hm : m < 4) : (gAR (wC S C V U D) (C + 42) (nI m)).bind K = K (C + (43 + 7 * m)) := by
  rcases (by omega : m = 0 ∨ m = 1 ∨ m = 2 ∨ m = 3) with rfl | rfl | rfl | rfl
  · simp only [↓eC h]
  · simp only [↓eC h]
  · simp only [↓eC h]
  · simp only [↓eC h]
theorem ca_markL {m lm : Nat} {K : SkyT} {s : Nat → Nat} {F C : Nat} {S : Mem} {V : Vw} {U : Uw} {D : Dw} (h : shC S C) (hm : m < 4) (hl : lm < 16) (hV : V 0 8 = nI lm) (hw9 : wfK K) (hS : cNt V 28 K s) (h20 : s 20 ≤ 10) :
    ∃ V', fn_X8_mark F C (nI m) 0 (wC S C V U D) = some (1, wC S C V' U (u2 D (43 + 7 * m) 0 (D 28 0))) ∧ (∀ j, 0 < j → j < 43 + 7 * m ∨ 43 + 7 * m + 6 < j → V' j = V j) ∧ (∀ j, j ≠ 8 → V' 0 j = V 0 j) ∧ V' 0 8 = nI (setB lm m) ∧ cNt V' (43 + 7 * m) K s := by
  obtain ⟨V1, e1, f1, g1⟩ := c_take (o := 43 + 7 * m) (o' := 28) (F := F) (U := U) (D := D) h (isNm hm) isN28 (by omega) hw9 hS h20
  have eb := (setB_F ⟨lm, hl⟩ ⟨m, hm⟩).1
  have eb : nI lm ||| ((1 : Int32) <<< (nI m &&& 31)) = nI (setB lm m) := eb
  have i4 : inr (nI m) 0 3 = true := by
    rcases (by omega : m = 0 ∨ m = 1 ∨ m = 2 ∨ m = 3) with rfl | rfl | rfl | rfl <;> decide
  have v8 : V1 0 8 = nI lm := by rw [f1 0 (by omega)]; exact hV
  unfold fn_X8_mark
  rw [c_within, bd_r, i4, if_neg (show ¬ b1 true = 0 by decide), if_pos rfl]
  simp only [↓eC h, ↓gAR_m h hm, ↓eN h (isNm hm), e1, ↓bd_r, v8, eb, rz_1]
  refine ⟨_, rfl, fun j h0 hj => by rw [u2_row (by omega), f1 j hj], fun j hj => by rw [u2_ne (Or.inr hj), f1 0 (by omega)], u2_eq ⟨rfl, rfl⟩, g1.keep (fun i hi => u2_row (by omega))⟩
theorem ca_markB {m lm : Nat} {K : SkyT} {s : Nat → Nat} {y : Int32} {F C : Nat} {S : Mem} {V : Vw} {U : Uw} {D : Dw} (h : shC S C) (hm : m < 4) (hy : y ≠ 0) (hl : lm < 16) (hV : V 0 8 = nI lm) (hlo : lo lm m = true) (hw9 : wfK K) (hS : cNt V (43 + 7 * m) K s) (h20 : s 20 ≤ 10) :
    ∃ V', fn_X8_mark F C (nI m) y (wC S C V U D) = some (1, wC S C V' U (u2 D 28 0 (D (43 + 7 * m) 0))) ∧ (∀ j, j < 28 ∨ 34 < j → V' j = V j) ∧ cNt V' 28 K s := by
  obtain ⟨V1, e1, f1, g1⟩ := c_take (o := 28) (o' := 43 + 7 * m) (F := F) (U := U) (D := D) h isN28 (isNm hm) (by omega) hw9 hS h20
  have eb := (setB_F ⟨lm, hl⟩ ⟨m, hm⟩).2.2.2
  have eb : (nI lm >>> (nI m &&& 31)) &&& (1 : Int32) = b1 (lo lm m) := eb
  have i4 : inr (nI m) 0 3 = true := by
    rcases (by omega : m = 0 ∨ m = 1 ∨ m = 2 ∨ m = 3) with rfl | rfl | rfl | rfl <;> decide
  unfold fn_X8_mark
  rw [c_within, bd_r, i4, if_neg (show ¬ b1 true = 0 by decide), if_neg hy]
  simp only [↓eC h, ↓gAR_m h hm, ↓eN h isN28, ↓bd_r, hV, eb, hlo, if_neg (show ¬ b1 true = 0 by decide), e1, rz_1]
  exact ⟨V1, rfl, fun j hj => f1 j (by omega), g1⟩
theorem ca_markN {m lm : Nat} {y : Int32} {F C : Nat} {S : Mem} {V : Vw} {U : Uw} {D : Dw} (h : shC S C) (hm : m < 4) (hy : y ≠ 0) (hl : lm < 16) (hV : V 0 8 = nI lm) (hlo : lo lm m = false) : fn_X8_mark F C (nI m) y (wC S C V U D) = some (0, wC S C V U D) := by
  have eb := (setB_F ⟨lm, hl⟩ ⟨m, hm⟩).2.2.2
  have eb : (nI lm >>> (nI m &&& 31)) &&& (1 : Int32) = b1 (lo lm m) := eb
  have i4 : inr (nI m) 0 3 = true := by
    rcases (by omega : m = 0 ∨ m = 1 ∨ m = 2 ∨ m = 3) with rfl | rfl | rfl | rfl <;> decide
  unfold fn_X8_mark
  rw [c_within, bd_r, i4, if_neg (show ¬ b1 true = 0 by decide), if_neg hy]
  simp only [↓eC h, hV, eb, hlo, if_pos (show b1 false = 0 from rfl), rz_0]
theorem ca_markO {x y : Int32} {F C : Nat} {S : Mem} {V : Vw} {U : Uw} {D : Dw} (hx : inr x 0 3 = false) : fn_X8_mark F C x y (wC S C V U D) = some (0, wC S C V U D) := by
  unfold fn_X8_mark
  rw [c_within, bd_r, hx, if_pos (show b1 false = 0 from rfl), rz_0]
/-! the model's -/
theorem sAZ_31 {α : Type} {S : Mem} {M m : Nat} {V : Vw} {U : Uw} {K : Mem → Option α} (h : shM S M) (hm : m < 4) : (sAZ (wM S M V U) (M + 31) (nI m) 1).bind K = K (wM S M (u2 V 31 m 1) U) := by
  simp (disch := first | assumption | exact inB_n (by omega) (by decide) | exact inB_l (by omega) (by decide) | exact inB_al (by omega) (by decide) | exact inB_la (by omega) (by decide) | exact inB_j (by assumption) (by omega) (by decide) | exact inB_e (by assumption) (by decide) | omega) only [↓eM h, ↓bd_r, ↓lt_r, ↓Option.bind_some, ↓reduceIte, ix_nI, ix_l, nI_al, nI_la, nI_lm, u2_ne, u2_eq, nI_leI, nI_ltI, nI_eq, le_ln, le_nl, lt_ln, lt_nl, eq_nl, eq_ln]
  rfl
theorem ma_markL {m : Nat} {K : SkyT} {s : Nat → Nat} {F M : Nat} {S : Mem} {V : Vw} {U : Uw} (h : shM S M) (hF : 10000 < F) (hm : m < 4) (hw9 : wfK K) (hK : mSky V 0 K) (hS : mS V s) :
    ∃ V', fn_X9_mark F M (nI m) 0 (wM S M V U) = some (1, wM S M V' U) ∧ V' 0 1 = V 0 1 ∧ V' 1 = V 1 ∧ (∀ j, j < 4 → j ≠ m → V' 31 j = V 31 j) ∧ V' 31 m = 1 ∧ mSky V' (2 + m) K ∧ (∀ r K', r ≠ 2 + m → mSky V r K' → kN K' ≤ 6 → mSky V' r K') ∧ mS V' s ∧ (∀ j, j < 64 → V' 26 (64 * m + j) = nI (s j)) ∧ ∀ j, j < 64 * m ∨ 64 * m + 64 ≤ j → V' 26 j = V 26 j := by
  have i4 : inr (nI m) 0 3 = true := by
    rcases (by omega : m = 0 ∨ m = 1 ∨ m = 2 ∨ m = 3) with rfl | rfl | rfl | rfl <;> decide
  unfold fn_X9_mark f_X9_mark_29
  rw [cm_sI h, q_within, bd_r, i4, if_neg (show ¬ b1 true = 0 by decide), if_pos rfl, cm_isLaid h, sAZ_31 h hm, if_pos rfl, nI_al]
  have kk : mSky (u2 (u2 V 0 0 0) 31 m 1) 0 K := hK.keep (fun j hj => by rw [u2_row (by omega), u2_row (by omega)])
  obtain ⟨V1, e1, f1, -, k1, kr⟩ := q_lays (fr := 0) (to := 2 + m) (U := U) h (show 1001 < F by omega) (by omega) (by omega) (by omega) kk hw9.1.1
  obtain ⟨V2, e2, f2, c2, d2⟩ := q_copies_c (oa := 0) (ob := 64 * m) (V0 := V1) (U := U) h (show 65 < F by omega) (by omega) (by omega)
  have e2 : fn_X9_copies F (M + 24) 0 (M + 26) (nI (64 * m)) (wM S M V1 U) = some ((), wM S M V2 U) := e2
  have e1 : fn_X9_lays F M 0 (nI (2 + m)) (wM S M (u2 (u2 V 0 0 0) 31 m 1) U) = some ((), wM S M V1 U) := e1
  simp only [↓eM h, e1, ↓bd_r, nI_lm, e2, rz_1]
  have s24 : V1 24 = V 24 := by rw [f1 24 (by omega), u2_row (by omega), u2_row (by omega)]
  refine ⟨V2, rfl, ?_, ?_, fun j hj hne => ?_, ?_, ?_, fun r K' hr hK' hn' => ?_, fun j hj => ?_, fun j hj => ?_, fun j hj => ?_⟩
  · rw [f2 0 (by omega), f1 0 (by omega), u2_row (by omega), u2_ne (by omega)]
  · rw [f2 1 (by omega), f1 1 (by omega), u2_row (by omega), u2_row (by omega)]
  · rw [f2 31 (by omega), f1 31 (by omega), u2_ne (Or.inr hne), u2_row (by omega)]
  · rw [f2 31 (by omega), f1 31 (by omega), u2_eq ⟨rfl, rfl⟩]
  · exact k1.keep (fun j hj => f2 j (by omega))
  · exact (kr r K' hr (hK'.keep (fun j hj => by rw [u2_row (by omega), u2_row (by omega)])) hn').keep (fun j hj => f2 j (by omega))
  · rw [f2 24 (by omega), s24]; exact hS j hj
  · have := c2 j hj
    rw [Nat.zero_add, s24, hS j hj] at this
    exact this
  · rw [d2 j hj, f1 26 (by omega), u2_row (by omega), u2_row (by omega)]
theorem ma_markB {m : Nat} {K : SkyT} {s : Nat → Nat} {y : Int32} {F M : Nat} {S : Mem} {V : Vw} {U : Uw} (h : shM S M) (hF : 10000 < F) (hm : m < 4) (hy : y ≠ 0) (hl : V 31 m = 1) (hw9 : wfK K) (hK : mSky V (2 + m) K) (hS : ∀ j, j < 64 → V 26 (64 * m + j) = nI (s j)) :
    ∃ V', fn_X9_mark F M (nI m) y (wM S M V U) = some (1, wM S M V' U) ∧ V' 0 1 = V 0 1 ∧ V' 1 = V 1 ∧ (∀ j, j < 4 → V' 31 j = V 31 j) ∧ mSky V' 0 K ∧ (∀ r K', r ≠ 0 → mSky V r K' → kN K' ≤ 6 → mSky V' r K') ∧ mS V' s ∧ V' 26 = V 26 := by
  have i4 : inr (nI m) 0 3 = true := by
    rcases (by omega : m = 0 ∨ m = 1 ∨ m = 2 ∨ m = 3) with rfl | rfl | rfl | rfl <;> decide
  unfold fn_X9_mark f_X9_mark_29
  rw [cm_sI h, q_within, bd_r, i4, if_neg (show ¬ b1 true = 0 by decide), if_neg hy, cm_isLaid h, cn_isLaid h hm, u2_row (show 31 ≠ 0 by omega), hl, if_neg (by decide), cm_isLaid h, sAZ_31 h hm, if_neg hy, nI_al]
  have kk : mSky (u2 (u2 V 0 0 0) 31 m 1) (2 + m) K := hK.keep (fun j hj => by rw [u2_row (by omega), u2_row (by omega)])
  obtain ⟨V1, e1, f1, -, k1, kr⟩ := q_lays (fr := 2 + m) (to := 0) (U := U) h (show 1001 < F by omega) (by omega) (by omega) (by omega) kk hw9.1.1
  obtain ⟨V2, e2, f2, c2, d2⟩ := q_copies_d (oa := 64 * m) (ob := 0) (V0 := V1) (U := U) h (show 65 < F by omega) (by omega) (by omega)
  have e2 : fn_X9_copies F (M + 26) (nI (64 * m)) (M + 24) 0 (wM S M V1 U) = some ((), wM S M V2 U) := e2
  have e1 : fn_X9_lays F M (nI (2 + m)) 0 (wM S M (u2 (u2 V 0 0 0) 31 m 1) U) = some ((), wM S M V1 U) := e1
  simp only [↓eM h, e1, ↓bd_r, nI_lm, e2, rz_1]
  have s26 : V1 26 = V 26 := by rw [f1 26 (by omega), u2_row (by omega), u2_row (by omega)]
  refine ⟨V2, rfl, ?_, ?_, fun j hj => ?_, ?_, fun r K' hr hK' hn' => ?_, fun j hj => ?_, ?_⟩
  · rw [f2 0 (by omega), f1 0 (by omega), u2_row (by omega), u2_ne (by omega)]
  · rw [f2 1 (by omega), f1 1 (by omega), u2_row (by omega), u2_row (by omega)]
  · rw [f2 31 (by omega), f1 31 (by omega)]
    by_cases hne : j = m
    · subst hne; rw [u2_eq ⟨rfl, rfl⟩, hl]
    · rw [u2_ne (Or.inr hne), u2_row (by omega)]
  · exact k1.keep (fun j hj => f2 j (by omega))
  · exact (kr r K' hr (hK'.keep (fun j hj => by rw [u2_row (by omega), u2_row (by omega)])) hn').keep (fun j hj => f2 j (by omega))
  · have := c2 j hj
    rw [Nat.zero_add, s26, hS j hj] at this
    exact this
  · rw [f2 26 (by omega), s26]
theorem ma_markN {m : Nat} {y : Int32} {F M : Nat} {S : Mem} {V : Vw} {U : Uw} (h : shM S M) (hm : m < 4) (hy : y ≠ 0) (hl : V 31 m = 0) : fn_X9_mark F M (nI m) y (wM S M V U) = some (0, wM S M (u2 V 0 0 0) U) := by
  have i4 : inr (nI m) 0 3 = true := by
    rcases (by omega : m = 0 ∨ m = 1 ∨ m = 2 ∨ m = 3) with rfl | rfl | rfl | rfl <;> decide
  unfold fn_X9_mark f_X9_mark_27
  rw [cm_sI h, q_within, bd_r, i4, if_neg (show ¬ b1 true = 0 by decide), if_neg hy, cm_isLaid h, cn_isLaid h hm, u2_row (show 31 ≠ 0 by omega), hl, if_pos rfl, rz_0]
theorem ma_markO {x y : Int32} {F M : Nat} {S : Mem} {V : Vw} {U : Uw} (h : shM S M) (hx : inr x 0 3 = false) : fn_X9_mark F M x y (wM S M V U) = some (0, wM S M (u2 V 0 0 0) U) := by
  unfold fn_X9_mark f_X9_mark_27
  rw [cm_sI h, q_within, bd_r, hx, if_pos (show b1 false = 0 from rfl), rz_0]
