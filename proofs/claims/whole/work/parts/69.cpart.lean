/-! the class reads a part of E -/
def isFactF (x0 x1 : Int32) : Int32 := if x0 = 20 then 1 else if x0 = 21 then 1 else if x1 = 0 then (if x0 = 22 then 1 else 0) else if x0 = 10 then 1 else if x0 = 23 then 1 else if x0 = 24 then 1 else if x0 = 0 then 1 else 0
theorem c_isFactF {F : Nat} {S : Mem} {x0 x1 : Int32} : fn_X7_isFact F x0 x1 S = some (isFactF x0 x1, S) := by
  unfold fn_X7_isFact isFactF f_X7_isFact_12 f_X7_isFact_29 f_X7_isFact_52 f_X7_isFact_57
  simp only [rz_0, rz_1]
  by_cases h1 : x0 = 20
  · simp only [if_pos h1]
  by_cases h2 : x0 = 21
  · simp only [if_neg h1, if_pos h2]
  by_cases h3 : x1 = 0
  · by_cases h4 : x0 = 22
    · simp only [if_neg h1, if_neg h2, if_pos h3, if_pos h4]
    · simp only [if_neg h1, if_neg h2, if_pos h3, if_neg h4]
  by_cases h5 : x0 = 10
  · simp only [if_neg h1, if_neg h2, if_neg h3, if_pos h5]
  by_cases h6 : x0 = 23
  · simp only [if_neg h1, if_neg h2, if_neg h3, if_neg h5, if_pos h6]
  by_cases h7 : x0 = 24
  · simp only [if_neg h1, if_neg h2, if_neg h3, if_neg h5, if_neg h6, if_pos h7]
  by_cases h8 : x0 = 0
  · simp only [if_neg h1, if_neg h2, if_neg h3, if_neg h5, if_neg h6, if_neg h7, if_pos h8]
  · simp only [if_neg h1, if_neg h2, if_neg h3, if_neg h5, if_neg h6, if_neg h7, if_neg h8]
theorem isFact_v : ∀ law : Fin 2, ∀ t : Fin 37, isFactF (nI t.val) (nI law.val) = if factOf law.val t.val = 0 then 0 else 1 := by decide +kernel
theorem c_isFact {F law t : Nat} {S : Mem} (hl : law < 2) (ht : t ≤ 36) : fn_X7_isFact F (nI t) (nI law) S = some (if factOf law t = 0 then 0 else 1, S) := by
  rw [c_isFactF, show isFactF (nI t) (nI law) = _ from isFact_v ⟨law, hl⟩ ⟨t, by omega⟩]
theorem flt2_0 {X : Tp} {k p : Nat} : flt2 X 0 k p = k + 16 * lB X p := if_pos rfl
theorem flt2_n {X : Tp} {flt k p : Nat} (h : 0 < flt) : flt2 X flt k p = flt := if_neg (by omega)
theorem canB_35 : ∀ law : Fin 2, canB law.val 35 = false := by decide +kernel
theorem c_partY {X : Tp} {law p flt nc : Nat} {x1 : Int32} {rp : Nat → Int32 → Mem → Option (Unit × Mem)} {F C : Nat} {S : Mem} {V : Vw} {U : Uw} {D : Dw} (h : shC S C) (hl : law < 2) (hP : cP X law p flt nc V U) (hc : canB law (lT X p) = true) :
    fb_X6_readPart F rp (C + 8) x1 (wC S C V U D) = f_X6_readPart_63 F rp (C + 8) x1 (if factOf law (lT X p) = 0 then 0 else 1) (wC S C V U D) := by
  have hT := lT_le (X := X) (p := p)
  have et := hP.1.2.2.2.1
  have h6 := hP.2.2.2.1
  have e0 := fun W => c_isFact (F := F) (S := W) hl hT
  unfold fb_X6_readPart
  by_cases hf : factOf law (lT X p) = 0
  · simp only [if_pos hf] at e0 ⊢
    rcases canB_iff.mp hc with q | q | q | q
    · exact absurd hf q
    · simp (disch := first | assumption | exact inB_n (by omega) (by decide) | exact inB_l (by omega) (by decide) | exact inB_al (by omega) (by decide) | exact inB_la (by omega) (by decide) | exact inB_j (by assumption) (by omega) (by decide) | exact inB_e (by assumption) (by decide) | omega) only [↓eC h, ↓bd_r, ↓lt_r, ↓Option.bind_some, ↓reduceIte, ix_nI, ix_l, nI_al, nI_la, nI_lm, u2_ne, u2_eq, nI_leI, nI_ltI, nI_eq, le_ln, le_nl, lt_ln, lt_nl, eq_nl, eq_ln, et, h6, e0, if_pos q]
    · have q1 : ¬ lT X p = 26 := by omega
      simp (disch := first | assumption | exact inB_n (by omega) (by decide) | exact inB_l (by omega) (by decide) | exact inB_al (by omega) (by decide) | exact inB_la (by omega) (by decide) | exact inB_j (by assumption) (by omega) (by decide) | exact inB_e (by assumption) (by decide) | omega) only [↓eC h, ↓bd_r, ↓lt_r, ↓Option.bind_some, ↓reduceIte, ix_nI, ix_l, nI_al, nI_la, nI_lm, u2_ne, u2_eq, nI_leI, nI_ltI, nI_eq, le_ln, le_nl, lt_ln, lt_nl, eq_nl, eq_ln, et, h6, e0, if_neg q1, if_pos q]
    · have q1 : ¬ lT X p = 26 := by omega
      have q2 : ¬ lT X p = 17 := by omega
      simp (disch := first | assumption | exact inB_n (by omega) (by decide) | exact inB_l (by omega) (by decide) | exact inB_al (by omega) (by decide) | exact inB_la (by omega) (by decide) | exact inB_j (by assumption) (by omega) (by decide) | exact inB_e (by assumption) (by decide) | omega) only [↓eC h, ↓bd_r, ↓lt_r, ↓Option.bind_some, ↓reduceIte, ix_nI, ix_l, nI_al, nI_la, nI_lm, u2_ne, u2_eq, nI_leI, nI_ltI, nI_eq, le_ln, le_nl, lt_ln, lt_nl, eq_nl, eq_ln, et, h6, e0, if_neg q1, if_neg q2, if_pos q]
  · simp only [if_neg hf] at e0 ⊢
    simp (disch := first | assumption | exact inB_n (by omega) (by decide) | exact inB_l (by omega) (by decide) | exact inB_al (by omega) (by decide) | exact inB_la (by omega) (by decide) | exact inB_j (by assumption) (by omega) (by decide) | exact inB_e (by assumption) (by decide) | omega) only [↓eC h, ↓bd_r, ↓lt_r, ↓Option.bind_some, ↓reduceIte, ix_nI, ix_l, nI_al, nI_la, nI_lm, u2_ne, u2_eq, nI_leI, nI_ltI, nI_eq, le_ln, le_nl, lt_ln, lt_nl, eq_nl, eq_ln, et, h6, e0, if_neg (show ¬ (1 : Int32) = 0 by decide)]
theorem c_partN {X : Tp} {law p flt nc : Nat} {x1 : Int32} {W : Mem} {rp : Nat → Int32 → Mem → Option (Unit × Mem)} {F C : Nat} {S : Mem} {V : Vw} {U : Uw} {D : Dw} (h : shC S C) (hl : law < 2) (hP : cP X law p flt nc V U) (hc : canB law (lT X p) = false) (e1 : fn_X6_fail F (C + 8) 1 (wC S C V U D) = some ((), W)) :
    fb_X6_readPart F rp (C + 8) x1 (wC S C V U D) = some ((), W) := by
  have hT := lT_le (X := X) (p := p)
  have et := hP.1.2.2.2.1
  have h6 := hP.2.2.2.1
  have e0 := fun W => c_isFact (F := F) (S := W) hl hT
  have hn : ¬ (factOf law (lT X p) ≠ 0 ∨ lT X p = 26 ∨ lT X p = 17 ∨ lT X p = 27) := fun q => by rw [canB_iff.mpr q] at hc; cases hc
  have hf : factOf law (lT X p) = 0 := Classical.byContradiction fun q => hn (Or.inl q)
  have q1 : ¬ lT X p = 26 := fun q => hn (Or.inr (Or.inl q))
  have q2 : ¬ lT X p = 17 := fun q => hn (Or.inr (Or.inr (Or.inl q)))
  have q3 : ¬ lT X p = 27 := fun q => hn (Or.inr (Or.inr (Or.inr q)))
  unfold fb_X6_readPart f_X6_readPart_182
  simp only [if_pos hf] at e0
  simp (disch := first | assumption | exact inB_n (by omega) (by decide) | exact inB_l (by omega) (by decide) | exact inB_al (by omega) (by decide) | exact inB_la (by omega) (by decide) | exact inB_j (by assumption) (by omega) (by decide) | exact inB_e (by assumption) (by decide) | omega) only [↓eC h, ↓bd_r, ↓lt_r, ↓Option.bind_some, ↓reduceIte, ix_nI, ix_l, nI_al, nI_la, nI_lm, u2_ne, u2_eq, nI_leI, nI_ltI, nI_eq, le_ln, le_nl, lt_ln, lt_nl, eq_nl, eq_ln, et, h6, e0, if_neg q1, if_neg q2, if_neg q3, e1]
/-- a part that can't stand there; and all that is read behind a fault -/
theorem c_partBad {X : Tp} {law hh m : Nat} {x1 : Int32} {rp : Nat → Int32 → Mem → Option (Unit × Mem)} {F C : Nat} {S : Mem} {D : Dw} (h : shC S C) (hX : okTp X) (hl : law < 2) : (∀ p nc V U, p ≤ X.1 → nc + X.1 ≤ 999 + p → cP X law p 0 nc V U → canB law (lT X p) = false → ∃ V' U', fb_X6_readPart F rp (C + 8) x1 (wC S C V U D) = some ((), wC S C V' U' D) ∧ outC X law p nc hh (pPart X law m p) V U V' U') ∧
    ∀ flt nc V U, 0 < flt → flt < 20000 → cP X law X.1 flt nc V U → ∃ V' U', fb_X6_readPart F rp (C + 8) x1 (wC S C V U D) = some ((), wC S C V' U' D) ∧ fr8 V V' ∧ u9 U U' ∧ V' 13 = V 13 ∧ cP X law X.1 flt nc V' U' := by
  have hX1 := hX.1
  refine ⟨fun p nc V U hp hn hP hc => ?_, fun flt nc V U hf0 hf1 hP => ?_⟩
  · have hb := lB_b hp
    obtain ⟨V1, e1, b1, b2, b3⟩ := c_fail (F := F) (k := 1) (x := 1) (D := D) h rfl hX (by omega) hP
    rw [flt2_0] at b3
    have e9 : pPart X law m p = .inl (1 + 16 * lB X p) := by
      cases m with
      | zero => unfold pPart; rw [hc]; rfl
      | succ m => unfold pPart; rw [hc]; rfl
    rw [e9]
    exact ⟨V1, U, c_partN h hl hP hc e1, b1, u9.rf, fun i _ => by rw [b2], nc, Nat.le_refl _, by omega, by omega, by omega, b3⟩
  · obtain ⟨V1, e1, b1, b2, b3⟩ := c_fail (F := F) (k := 1) (x := 1) (D := D) h rfl hX hf1 hP
    rw [flt2_n hf0] at b3
    exact ⟨V1, U, c_partN h hl hP (by rw [lT_n]; exact canB_35 ⟨law, hl⟩) e1, b1, u9.rf, b2, b3⟩
theorem g_readPart {X : Tp} {law : Nat} {F C : Nat} {S : Mem} {D : Dw} (h : shC S C) (hF : 10000 < F) (hX : okTp X) (hD : D 9 0 = C + 7) (hl : law < 2) : ∀ (m dd : Nat), m ≤ 5 → m < dd → rpG X law S C D (1 + 4 * m) (nI (5 - m)) (fn_X6_readPart F dd) (pPart X law m) := by
  have hX1 := hX.1
  intro m
  induction m with
  | zero =>
    intro dd _ hdd
    obtain ⟨dd, rfl⟩ : ∃ d', dd = d' + 1 := ⟨dd - 1, by omega⟩
    refine ⟨fun p nc V U hp hn hP => ?_, (c_partBad (m := 0) (hh := 1) h hX hl).2⟩
    cases hc : canB law (lT X p) with
    | false => exact (c_partBad (m := 0) h hX hl).1 p nc V U hp hn hP hc
    | true =>
      have hb := lB_b hp
      obtain ⟨V1, e1, b1, b2, b3⟩ := c_fail (F := F) (k := 5) (x := 5) (D := D) h rfl hX (by omega) hP
      rw [flt2_0] at b3
      have e9 : pPart X law 0 p = .inl (5 + 16 * lB X p) := by unfold pPart; rw [hc]; rfl
      rw [e9]
      refine ⟨V1, U, ?_, b1, u9.rf, fun i _ => by rw [b2], nc, Nat.le_refl _, by omega, by omega, by omega, b3⟩
      show fb_X6_readPart F (fn_X6_readPart F dd) (C + 8) (nI 5) (wC S C V U D) = _
      rw [c_partY h hl hP hc]
      unfold f_X6_readPart_63 f_X6_readPart_182
      rw [if_neg (by decide)]
      simp (disch := first | assumption | exact inB_n (by omega) (by decide) | exact inB_l (by omega) (by decide) | exact inB_al (by omega) (by decide) | exact inB_la (by omega) (by decide) | exact inB_j (by assumption) (by omega) (by decide) | exact inB_e (by assumption) (by decide) | omega) only [↓eC h, ↓bd_r, ↓lt_r, ↓Option.bind_some, ↓reduceIte, ix_nI, ix_l, nI_al, nI_la, nI_lm, u2_ne, u2_eq, nI_leI, nI_ltI, nI_eq, le_ln, le_nl, lt_ln, lt_nl, eq_nl, eq_ln, e1]
  | succ m ih =>
    intro dd hm hdd
    obtain ⟨dd, rfl⟩ : ∃ d', dd = d' + 1 := ⟨dd - 1, by omega⟩
    have ih := ih dd (by omega) (by omega)
    have hA := fun p hp => pPart_adv (X := X) (law := law) m p hp
    have hq1 := g_readProduct h hF hX hD (by omega) ih hA
    have hA1 := chain_adv (O := o33) rfl hA
    have hq2 := g_readSum h hF hX hD (by omega) hq1 hA1
    have hA2 := chain_adv (O := o31) rfl hA1
    have hq3 := g_readTest h hF hX hD (by omega) hq2 hA2
    have hq4 := g_readTests h hF hX hD (by omega) hq3 (pTest_adv hA)
    have ex : nI (5 - (m + 1)) + (1 : Int32) = nI (5 - m) := by rw [show 5 - m = 5 - (m + 1) + 1 by omega]; exact nI_1 _
    have h5 : 5 - (m + 1) < 5 := by omega
    have h5' : nI (5 - (m + 1)) < (5 : Int32) := (lt_nl (m := 5) (by decide) (by omega)).mpr h5
    refine ⟨fun p nc V U hp hn hP => ?_, (c_partBad (m := m + 1) (hh := 1) h hX hl).2⟩
    cases hc : canB law (lT X p) with
    | false => exact (c_partBad (m := m + 1) h hX hl).1 p nc V U hp hn hP hc
    | true =>
      have hT := lT_le (X := X) (p := p)
      have hne : lT X p ≠ 35 := fun z => by rw [z, canB_35 ⟨law, hl⟩] at hc; cases hc
      have ha := lE_adv hp rfl hne
      have et := hP.1.2.2.2.1
      show ∃ V' U', fb_X6_readPart F (fn_X6_readPart F dd) (C + 8) (nI (5 - (m + 1))) (wC S C V U D) = _ ∧ _
      rw [c_partY h hl hP hc]
      generalize fn_X6_readPart F dd = rp at ih hq1 hq2 hq3 hq4 ⊢
      unfold f_X6_readPart_63 f_X6_readPart_182
      rw [if_pos h5']
      unfold pPart
      rw [if_pos hc]
      by_cases h17 : lT X p = 17
      · rw [if_pos h17]
        obtain ⟨V1, U1, a1, a2, a3, a4⟩ := c_stepP (F := F) h hF hX hD hp hP
        obtain ⟨V2, U2, c1, c2, c3, c4, c5⟩ := ih.1 (lE X p) nc V1 U1 ha.2 (by omega) a4
        cases hr : pPart X law m (lE X p) with
        | inl k =>
          rw [hr] at c5
          obtain ⟨nc2, n1, n2, k0, k2, hP2⟩ := c5
          obtain ⟨V3, d1, d2, d3, d4, d5⟩ := c_put (F := F) (x := 10017) (D := D) h (show nc2 < 1000 by omega) hP2
          refine ⟨V3, U2, ?_, ((fr8.of9 a2).tr c2).tr d2, a3.tr c3, fun i hi => ?_, nc2 + 1, by omega, by omega, k0, k2, d5⟩
          · simp (disch := first | assumption | exact inB_n (by omega) (by decide) | exact inB_l (by omega) (by decide) | exact inB_al (by omega) (by decide) | exact inB_la (by omega) (by decide) | exact inB_j (by assumption) (by omega) (by decide) | exact inB_e (by assumption) (by decide) | omega) only [↓eC h, ↓bd_r, ↓lt_r, ↓Option.bind_some, ↓reduceIte, ix_nI, ix_l, nI_al, nI_la, nI_lm, u2_ne, u2_eq, nI_leI, nI_ltI, nI_eq, le_ln, le_nl, lt_ln, lt_nl, eq_nl, eq_ln, et, if_pos h17, a1, ex, c1, d1]
          · rw [d4 i (by omega), c4 i (by omega), a2.1 13 (by omega)]
        | inr z =>
          obtain ⟨q, f⟩ := z
          rw [hr] at c5
          obtain ⟨nc2, n1, n2, hP2, hs2⟩ := c5
          have hq := hA (lE X p) ha.2 q f hr
          obtain ⟨V3, d1, d2, d3, d4, d5⟩ := c_put (F := F) (x := 10017) (D := D) h (show nc2 < 1000 by omega) hP2
          have s1 : segC law (V3 13) nc nc2 (1 + 4 * m) f := hs2.cg (fun k h1 h2 => by rw [d4 k (by omega)])
          refine ⟨V3, U2, ?_, ((fr8.of9 a2).tr c2).tr d2, a3.tr c3, fun i hi => ?_, nc2 + 1, by omega, by omega, d5, (s1.neg d3).up (by omega)⟩
          · simp (disch := first | assumption | exact inB_n (by omega) (by decide) | exact inB_l (by omega) (by decide) | exact inB_al (by omega) (by decide) | exact inB_la (by omega) (by decide) | exact inB_j (by assumption) (by omega) (by decide) | exact inB_e (by assumption) (by decide) | omega) only [↓eC h, ↓bd_r, ↓lt_r, ↓Option.bind_some, ↓reduceIte, ix_nI, ix_l, nI_al, nI_la, nI_lm, u2_ne, u2_eq, nI_leI, nI_ltI, nI_eq, le_ln, le_nl, lt_ln, lt_nl, eq_nl, eq_ln, et, if_pos h17, a1, ex, c1, d1]
          · rw [d4 i (by omega), c4 i (by omega), a2.1 13 (by omega)]
      · rw [if_neg h17]
        by_cases h27 : lT X p = 27
        · rw [if_pos h27]
          obtain ⟨V1, U1, a1, a2, a3, a4⟩ := c_stepP (F := F) h hF hX hD hp hP
          obtain ⟨V2, U2, c1, c2, c3, c4, c5⟩ := hq4.1 (lE X p) nc V1 U1 ha.2 (by omega) a4
          cases hr : pTests X (pPart X law m) (lE X p) with
          | inl k =>
            rw [hr] at c5
            obtain ⟨nc2, n1, n2, k0, k2, hP2⟩ := c5
            obtain ⟨V3, U3, d1, d2, d3, d4, d5⟩ := c_expect (F := F) (t := 28) (x := 28) (D := D) h hF hX hD rfl (by omega) (Nat.le_refl _) k2 hP2
            rw [if_neg (by rw [lT_n]; decide), flt2_n k0] at d5
            refine ⟨V3, U3, ?_, ((fr8.of9 a2).tr c2).tr d2, (a3.tr c3).tr d3, fun i hi => ?_, nc2, by omega, by omega, k0, k2, d5⟩
            · simp (disch := first | assumption | exact inB_n (by omega) (by decide) | exact inB_l (by omega) (by decide) | exact inB_al (by omega) (by decide) | exact inB_la (by omega) (by decide) | exact inB_j (by assumption) (by omega) (by decide) | exact inB_e (by assumption) (by decide) | omega) only [↓eC h, ↓bd_r, ↓lt_r, ↓Option.bind_some, ↓reduceIte, ix_nI, ix_l, nI_al, nI_la, nI_lm, u2_ne, u2_eq, nI_leI, nI_ltI, nI_eq, le_ln, le_nl, lt_ln, lt_nl, eq_nl, eq_ln, et, if_neg h17, if_pos h27, a1, ex, c1, d1]
            · rw [d4, c4 i (by omega), a2.1 13 (by omega)]
          | inr z =>
            obtain ⟨q, f⟩ := z
            rw [hr] at c5
            obtain ⟨nc2, n1, n2, hP2, hs2⟩ := c5
            have hq := pTests_adv hA (lE X p) ha.2 q f hr
            obtain ⟨V3, U3, d1, d2, d3, d4, d5⟩ := c_expect (F := F) (t := 28) (x := 28) (D := D) h hF hX hD rfl (by omega) hq.2 (by omega) hP2
            have hb := lB_b hq.2
            have e9 : f_X6_readPart_63 F rp (C + 8) (nI (5 - (m + 1))) (if factOf law (lT X p) = 0 then 0 else 1) (wC S C V U D) = some ((), wC S C V3 U3 D) := by
              unfold f_X6_readPart_63 f_X6_readPart_182
              rw [if_pos h5']
              simp (disch := first | assumption | exact inB_n (by omega) (by decide) | exact inB_l (by omega) (by decide) | exact inB_al (by omega) (by decide) | exact inB_la (by omega) (by decide) | exact inB_j (by assumption) (by omega) (by decide) | exact inB_e (by assumption) (by decide) | omega) only [↓eC h, ↓bd_r, ↓lt_r, ↓Option.bind_some, ↓reduceIte, ix_nI, ix_l, nI_al, nI_la, nI_lm, u2_ne, u2_eq, nI_leI, nI_ltI, nI_eq, le_ln, le_nl, lt_ln, lt_nl, eq_nl, eq_ln, et, if_neg h17, if_pos h27, a1, ex, c1, d1]
            unfold f_X6_readPart_63 f_X6_readPart_182 at e9
            rw [if_pos h5'] at e9
            show ∃ V' U', _ ∧ outC X law p nc _ (if lT X q = 28 then Sum.inr (lE X q, f) else fl X 1 q) V U V' U'
            by_cases h28 : lT X q = 28
            · rw [if_pos h28] at d5 ⊢
              have hq2 := lE_adv hq.2 h28 (by decide)
              have s1 : segC law (V3 13) nc nc2 (1 + 4 * (m + 1)) f := (hs2.up (by omega)).cg (fun k h1 h2 => by rw [d4])
              refine ⟨V3, U3, e9, ((fr8.of9 a2).tr c2).tr d2, (a3.tr c3).tr d3, fun i hi => ?_, nc2, by omega, by omega, d5, s1⟩
              rw [d4, c4 i (by omega), a2.1 13 (by omega)]
            · rw [if_neg h28] at d5 ⊢
              rw [flt2_0] at d5
              refine ⟨V3, U3, e9, ((fr8.of9 a2).tr c2).tr d2, (a3.tr c3).tr d3, fun i hi => ?_, nc2, by omega, by omega, by omega, by omega, d5⟩
              rw [d4, c4 i (by omega), a2.1 13 (by omega)]
        · rw [if_neg h27]
          have hnc : nc < 1000 := by omega
          by_cases hf : factOf law (lT X p) = 0
          · have h26 : lT X p = 26 := by
              rcases canB_iff.mp hc with q | q | q | q
              · exact absurd hf q
              · exact q
              · exact absurd q h17
              · exact absurd q h27
            have ev := hP.1.2.2.2.2.1 h26
            obtain ⟨V1, d1, d2, d3, d4, d5⟩ := c_put (F := F) (x := nI (lV X p)) (D := D) h hnc hP
            obtain ⟨V2, U2, a1, a2, a3, a4⟩ := c_stepP (F := F) h hF hX hD hp d5
            have el : leafD X law p = fun _ => nI (lV X p) := by funext v; exact if_pos hf
            rw [el]
            have s1 : segC law (V2 13) nc (nc + 1) (1 + 4 * (m + 1)) (fun _ => nI (lV X p)) := segC.num (lV_lt hp h26) (by rw [a2.1 13 (by omega)]; exact d3) (by omega)
            refine ⟨V2, U2, ?_, d2.tr (fr8.of9 a2), a3, fun i hi => ?_, nc + 1, by omega, by omega, a4, s1⟩
            · unfold f_X6_readPart_172 f_X6_readPart_182
              simp (disch := first | assumption | exact inB_n (by omega) (by decide) | exact inB_l (by omega) (by decide) | exact inB_al (by omega) (by decide) | exact inB_la (by omega) (by decide) | exact inB_j (by assumption) (by omega) (by decide) | exact inB_e (by assumption) (by decide) | omega) only [↓eC h, ↓bd_r, ↓lt_r, ↓Option.bind_some, ↓reduceIte, ix_nI, ix_l, nI_al, nI_la, nI_lm, u2_ne, u2_eq, nI_leI, nI_ltI, nI_eq, le_ln, le_nl, lt_ln, lt_nl, eq_nl, eq_ln, et, if_neg h17, if_neg h27, if_pos hf, ev, d1, a1]
            · rw [a2.1 13 (by omega), d4 i (by omega)]
          · obtain ⟨V1, d1, d2, d3, d4, d5⟩ := c_put (F := F) (x := (-1 : Int32) - nI (lT X p)) (D := D) h hnc hP
            obtain ⟨V2, U2, a1, a2, a3, a4⟩ := c_stepP (F := F) h hF hX hD hp d5
            have el : leafD X law p = fun v => v (factOf law (lT X p)) := by funext v; exact if_neg hf
            rw [el]
            have s1 : segC law (V2 13) nc (nc + 1) (1 + 4 * (m + 1)) (fun v => v (factOf law (lT X p))) := segC.fact hl (by omega) hf (by rw [a2.1 13 (by omega)]; exact d3) (by omega)
            refine ⟨V2, U2, ?_, d2.tr (fr8.of9 a2), a3, fun i hi => ?_, nc + 1, by omega, by omega, a4, s1⟩
            · unfold f_X6_readPart_172 f_X6_readPart_182 fn_X3_factCode
              simp (disch := first | assumption | exact inB_n (by omega) (by decide) | exact inB_l (by omega) (by decide) | exact inB_al (by omega) (by decide) | exact inB_la (by omega) (by decide) | exact inB_j (by assumption) (by omega) (by decide) | exact inB_e (by assumption) (by decide) | omega) only [↓eC h, ↓bd_r, ↓lt_r, ↓Option.bind_some, ↓reduceIte, ix_nI, ix_l, nI_al, nI_la, nI_lm, u2_ne, u2_eq, nI_leI, nI_ltI, nI_eq, le_ln, le_nl, lt_ln, lt_nl, eq_nl, eq_ln, et, if_neg h17, if_neg h27, if_neg hf, if_neg (show ¬ (1 : Int32) = 0 by decide), d1, a1]
            · rw [a2.1 13 (by omega), d4 i (by omega)]
/-- E whole, at the depth 0 -/
theorem g_readE {X : Tp} {law : Nat} {F C : Nat} {S : Mem} {D : Dw} (h : shC S C) (hF : 10000 < F) (hX : okTp X) (hD : D 9 0 = C + 7) (hl : law < 2) : rpG X law S C D 25 0 (fn_X6_readTests F (fn_X6_readPart F 8)) (pTests X (pPart X law 5)) := by
  have ih := g_readPart h hF hX hD hl 5 8 (by omega) (by omega)
  have hA := fun p hp => pPart_adv (X := X) (law := law) 5 p hp
  have hq1 := g_readProduct h hF hX hD (by omega) ih hA
  have hA1 := chain_adv (O := o33) rfl hA
  have hq2 := g_readSum h hF hX hD (by omega) hq1 hA1
  have hA2 := chain_adv (O := o31) rfl hA1
  have hq3 := g_readTest h hF hX hD (by omega) hq2 hA2
  exact g_readTests h hF hX hD (by omega) hq3 (pTest_adv hA)
