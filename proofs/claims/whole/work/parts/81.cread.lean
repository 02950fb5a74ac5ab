/-! the class reads a tape whole -/
def skF (r : Sum Nat SkR) : Nat := match r with
  | .inl k => k
  | .inr _ => 0
theorem skI.cg {X : Tp} {s : SkR} {S : Mem} {C b q0 : Nat} {W V V' : Vw} {U U' : Uw} (h : skI X s S C b W V U q0) (e1 : V' 8 4 = V 8 4) (e2 : U' 12 = U 12) : skI X s S C b W V' U' q0 := by
  obtain ⟨hG, h84, hZ⟩ := h
  exact ⟨⟨hG.1, hG.2.1, fun k hk => ⟨(hG.2.2 k hk).1, by rw [e2]; exact (hG.2.2 k hk).2⟩⟩, by rw [e1]; exact h84, hZ⟩
theorem pStat_ps {X : Tp} {p : Nat} {s : SkR} : psR (pStat X p s) = bS (psR (pStat0 X p s)) (exS X 34) := by
  unfold pStat
  cases pStat0 X p s with
  | inl k => rfl
  | inr z =>
    obtain ⟨q, s1⟩ := z
    show psR (bS (exS X 34 q) _) = exS X 34 q
    cases exS X 34 q with
    | inl k => rfl
    | inr q => rfl
theorem c_dead {X : Tp} {law nc k b fu : Nat} {x : Int32} {W : Vw} {F C : Nat} {S : Mem} {V : Vw} {U : Uw} {D : Dw} (h : shC S C) (hP : cP X law X.1 k nc V U) (hfu : 0 < fu) : fix2 (b_X6_read_27 F) fu (C + 8) x (wC (wK S b W) C V U D) = some (nI k, wC (wK S b W) C V U D) := by
  obtain ⟨fu, rfl⟩ : ∃ f', fu = f' + 1 := ⟨fu - 1, by omega⟩
  have hh : shC (wK S b W) C := h
  have e5 : V 9 5 = 35 := by have := hP.1.2.2.2.1; rw [lT_n] at this; exact this
  show b_X6_read_27 F (fix2 (b_X6_read_27 F) fu) (C + 8) x (wC (wK S b W) C V U D) = _
  have e8 : f_X6_read_108 F (C + 8) (wC (wK S b W) C V U D) = some (nI k, wC (wK S b W) C V U D) := by
    unfold f_X6_read_108
    simp only [↓eC hh, hP.2.1]
  unfold b_X6_read_27
  by_cases hx : (1000 : Int32) < x
  · rw [if_pos hx]; exact e8
  · rw [if_neg hx]
    simp only [↓eC hh, e5, ↓reduceIte]
    exact e8
theorem c_stat0 {X : Tp} {law nc p b q0 : Nat} {i : Int32} {s : SkR} {W : Vw} {k : Nat → Int32 → Mem → Option (Int32 × Mem)} {F C : Nat} {S : Mem} {V : Vw} {U : Uw} {D : Dw} (h : shC S C) (hF : 10000 < F) (hX : okTp X) (hD : D 9 0 = C + 7) (hb : D 8 7 = b) (hC : C + 71 ≤ b) (hw : wfZ X s) (hp : p ≤ X.1) (hP : cP X law p 0 nc V U) (hI : skI X s S C b W V U q0) (h35 : lT X p ≠ 35) (hi : ¬ (1000 : Int32) < i) :
    ∃ Y, onceR X s S C b W V U D q0 (pStat0 X p s) Y ∧ b_X6_read_27 F k (C + 8) i (wC (wK S b W) C V U D) = bd Y (fun _ T => f_X6_read_96 F k (C + 8) i T) := by
  have hh : shC (wK S b W) C := h
  have hT := lT_le (X := X) (p := p)
  have et := hP.1.2.2.2.1
  have hz2 := zc_le (T := zT s)
  have hI' := hI
  obtain ⟨hG, h84, hZ, hQ, hlw, hlr, -, hK⟩ := hI
  unfold b_X6_read_27 pStat0
  rw [if_neg hi]
  by_cases h6 : lT X p = 6
  · rw [if_pos h6]
    refine ⟨fn_X6_readKite F (C + 8) (wC (wK S b W) C V U D), ?_, ?_⟩
    · obtain ⟨W', V', U', a1, a2, a3, a4, a5, a6⟩ := c_kite (F := F) h hK hF hX hD hb hw hp h6 hP hG
      refine ⟨S, W', V', U', law, nc, a1, xS.rf, by omega, by omega, a2.g, a3, ⟨h, hK⟩, a5, fun q s' e => ?_⟩
      have hz : zT s' = zT s ∧ zW s' = zW s ∧ zR s' = zR s := by
        by_cases hn : 6 ≤ zN s
        · unfold pKite at e; rw [if_pos hn] at e; cases e
        · obtain ⟨x3, x4, x5, x6, x7, q3, q4, q5, q6, y1, y2, y3, y4, y5, y6, y7⟩ := (pKite_ps hn).2 q s' e
          rw [y7]
          exact ⟨rfl, rfl, rfl⟩
      exact ⟨a6 q s' e, by rw [a2.2 4 (by omega) (by omega), hz.1]; exact h84, by rw [hz.1]; exact hZ, by rw [hz.1]; exact hQ, by rw [hz.2.1]; exact hlw, by rw [hz.2.2]; exact hlr, h, hK⟩
    · simp (disch := first | assumption | exact inB_n (by omega) (by decide) | exact inB_l (by omega) (by decide) | exact inB_al (by omega) (by decide) | exact inB_la (by omega) (by decide) | exact inB_j (by assumption) (by omega) (by decide) | exact inB_e (by assumption) (by decide) | omega) only [↓eC hh, ↓bd_r, ↓lt_r, ↓Option.bind_some, ↓reduceIte, ix_nI, ix_l, nI_al, nI_la, nI_lm, u2_ne, u2_eq, nI_leI, nI_ltI, nI_eq, le_ln, le_nl, lt_ln, lt_nl, eq_nl, eq_ln, et, if_neg h35, if_pos h6]
  · rw [if_neg h6]
    by_cases h5 : lT X p ≤ 5
    · rw [if_pos h5]
      refine ⟨fn_X6_readOnce F (C + 8) (nI (lT X p)) (wC (wK S b W) C V U D), ?_, ?_⟩
      · by_cases h2 : lT X p < 2
        · exact c_onceL h hF hX hD hb hC hw hp rfl h2 hP hI'
        · exact c_onceN h hF hX hD hb hw hp rfl (by omega) hP hI'
      · simp (disch := first | assumption | exact inB_n (by omega) (by decide) | exact inB_l (by omega) (by decide) | exact inB_al (by omega) (by decide) | exact inB_la (by omega) (by decide) | exact inB_j (by assumption) (by omega) (by decide) | exact inB_e (by assumption) (by decide) | omega) only [↓eC hh, ↓bd_r, ↓lt_r, ↓Option.bind_some, ↓reduceIte, ix_nI, ix_l, nI_al, nI_la, nI_lm, u2_ne, u2_eq, nI_leI, nI_ltI, nI_eq, le_ln, le_nl, lt_ln, lt_nl, eq_nl, eq_ln, et, if_neg h35, if_neg h6, if_neg (show ¬ 5 < lT X p by omega)]
    · rw [if_neg h5]
      refine ⟨fn_X6_fail F (C + 8) 1 (wC (wK S b W) C V U D), ?_, ?_⟩
      · obtain ⟨V1, e1, b1, b2, b3⟩ := c_failR (F := F) (k := 1) (x := 1) (r := .inr p) (D := D) hh hX rfl (by omega) ⟨hp, hP⟩
        exact ⟨S, W, V1, U, law, nc, e1, xS.rf, by omega, by omega, b1.g, uG.rf, ⟨h, hK⟩, b3, fun q s' e => by cases e⟩
      · simp (disch := first | assumption | exact inB_n (by omega) (by decide) | exact inB_l (by omega) (by decide) | exact inB_al (by omega) (by decide) | exact inB_la (by omega) (by decide) | exact inB_j (by assumption) (by omega) (by decide) | exact inB_e (by assumption) (by decide) | omega) only [↓eC hh, ↓bd_r, ↓lt_r, ↓Option.bind_some, ↓reduceIte, ix_nI, ix_l, nI_al, nI_la, nI_lm, u2_ne, u2_eq, nI_leI, nI_ltI, nI_eq, le_ln, le_nl, lt_ln, lt_nl, eq_nl, eq_ln, et, if_neg h35, if_neg h6, if_pos (show 5 < lT X p by omega)]
theorem c_readL {X : Tp} {b q0 : Nat} {F C : Nat} {D : Dw} (hF : 10000 < F) (hX : okTp X) (hD : D 9 0 = C + 7) (hb : D 8 7 = b) (hC : C + 71 ≤ b) : ∀ (n p i fu law nc : Nat) (s : SkR) (S : Mem) (W V : Vw) (U : Uw), X.1 < n + p → i ≤ p → p ≤ X.1 → 1002 < fu + i → cP X law p 0 nc V U → skI X s S C b W V U q0 → wfZ X s →
    ∃ S' W' V' U', fix2 (b_X6_read_27 F) fu (C + 8) (nI i) (wC (wK S b W) C V U D) = some (nI (skF (pSky X n p s)), wC (wK S' b W') C V' U' D) ∧ xS b S S' ∧ mZ S' ≤ b + 8 ∧ mQ S' ≤ q0 + 2000 ∧ frG V V' ∧ uG U U' ∧ (shC S' C ∧ shK S' C b) ∧ (∀ k, pSky X n p s = .inl k → 0 < k ∧ k < 20000) ∧ ∀ s', pSky X n p s = .inr s' → skI X s' S' C b W' V' U' q0 ∧ wfZ X s' := by
  have hX1 := hX.1
  intro n
  induction n with
  | zero => intro p i fu law nc s S W V U h1 h2 h3; omega
  | succ n ih =>
    intro p i fu law nc s S W V U h1 h2 h3 h4 hP hI hw
    have h : shC S C := hI.2.2.2.2.2.2.1
    have hK : shK S C b := hI.2.2.2.2.2.2.2
    have hh : shC (wK S b W) C := h
    have hz2 := zc_le (T := zT s)
    have hZ := hI.2.2.1
    have hQ := hI.2.2.2.1
    obtain ⟨fu, rfl⟩ : ∃ f', fu = f' + 1 := ⟨fu - 1, by omega⟩
    have hi : ¬ (1000 : Int32) < nI i := fun q => by have : 1000 < i := (lt_ln (m := 1000) (by decide) (by omega)).mp q; omega
    show ∃ S' W' V' U', b_X6_read_27 F (fix2 (b_X6_read_27 F) fu) (C + 8) (nI i) (wC (wK S b W) C V U D) = _ ∧ _
    unfold pSky
    by_cases h35 : lT X p = 35
    · rw [if_pos h35]
      refine ⟨S, W, V, U, ?_, xS.rf, by omega, by omega, frG.rf, uG.rf, ⟨h, hK⟩, fun k e => (by cases e), fun s' e => by cases e; exact ⟨hI, hw⟩⟩
      have et := hP.1.2.2.2.1
      unfold b_X6_read_27 f_X6_read_108
      rw [if_neg hi]
      simp only [↓eC hh, et, h35, hP.2.1]
      rfl
    · rw [if_neg h35]
      obtain ⟨Y, ⟨S1, W1, V1, U1, law1, nc1, y1, y2, y3, y4, y5, y6, y7, y8, y9⟩, e9⟩ := c_stat0 (F := F) (D := D) (k := fix2 (b_X6_read_27 F) fu) h hF hX hD hb hC hw h3 hP hI h35 hi
      have hh1 : shC (wK S1 b W1) C := y7.1
      obtain ⟨V2, U2, x1, x2, x3, x4, x5⟩ := c_expR (F := F) (t := 34) (x := 34) (D := D) hh1 hF hX hD rfl (by omega) y8
      rw [← pStat_ps] at x5
      have e1 : nI i + (1 : Int32) = nI (i + 1) := nI_1 i
      have e8 : b_X6_read_27 F (fix2 (b_X6_read_27 F) fu) (C + 8) (nI i) (wC (wK S b W) C V U D) = fix2 (b_X6_read_27 F) fu (C + 8) (nI (i + 1)) (wC (wK S1 b W1) C V2 U2 D) := by
        rw [e9, y1, bd_r]
        unfold f_X6_read_96
        simp only [↓eC hh1, x1, ↓bd_r, e1]
      rw [e8]
      cases hs : pStat X p s with
      | inl k =>
        rw [hs] at x5
        obtain ⟨k0, k1, x5⟩ := x5
        exact ⟨S1, W1, V2, U2, c_dead y7.1 x5 (by omega), y2, y3, y4, y5.tr x2.g, y6.tr (uG.of9 x3), y7, fun k' e => by cases e; exact ⟨k0, k1⟩, fun s' e => by cases e⟩
      | inr z =>
        obtain ⟨q, s1⟩ := z
        rw [hs] at x5
        obtain ⟨q0', x5⟩ := x5
        obtain ⟨w1, w2, w3⟩ := pStat_wf h3 hw hs
        unfold pStat at hs
        obtain ⟨⟨q1, s2⟩, r1, r2⟩ := bS_r hs
        obtain ⟨q2, r3, r4⟩ := bS_r r2
        cases r4
        have hI1 := (y9 q1 _ r1).cg (x2.2 4 (by omega) (by omega)) (x3 12 (by omega))
        obtain ⟨S', W', V', U', a1, a2, a3, a4, a5, a6, a7, a8, a9⟩ := ih q (i + 1) fu law1 nc1 _ S1 W1 V2 U2 (by omega) (by omega) w2 (by omega) x5 hI1 w3
        exact ⟨S', W', V', U', a1, y2.tr a2, a3, a4, (y5.tr x2.g).tr a5, (y6.tr (uG.of9 x3)).tr a6, a7, a8, a9⟩
theorem nI_ex (x : Int32) : ∃ n, x = nI n := ⟨x.toBitVec.toNat, by
  rw [← Int32.toBitVec_inj]
  show x.toBitVec = BitVec.ofNat 32 x.toBitVec.toNat
  simp⟩
theorem u2D_eq {D : Dw} {a k v : Nat} : u2 D a k v a k = v := u2_eq ⟨rfl, rfl⟩
theorem c_read {X : Tp} {b q0 : Nat} {W : Vw} {F C : Nat} {S : Mem} {V : Vw} {U : Uw} {D : Dw} (h : shC S C) (hF : 10000 < F) (hX : okTp X) (hC : C + 71 ≤ b) (hT : tx V X) (hwd : wds U) (hI : skI X sk0 S C b W (u2 V 8 4 0) U q0) :
    ∃ S' W' V' U', fn_X6_read F (C + 8) (C + 7) (nI X.1) b (wC (wK S b W) C V U D) = some (nI (skF (pSky X 1001 0 sk0)), wC (wK S' b W') C V' U' (u2 (u2 D 8 7 b) 9 0 (C + 7))) ∧ xS b S S' ∧ mZ S' ≤ b + 8 ∧ mQ S' ≤ q0 + 2000 ∧ frG V V' ∧ uG U U' ∧ (shC S' C ∧ shK S' C b) ∧ (∀ k, pSky X 1001 0 sk0 = .inl k → 0 < k ∧ k < 20000) ∧ ∀ s', pSky X 1001 0 sk0 = .inr s' → skI X s' S' C b W' V' U' q0 ∧ wfZ X s' := by
  have hX1 := hX.1
  have hh : shC (wK S b W) C := h
  have hD1 : u2 (u2 D 8 7 b) 9 0 (C + 7) 9 0 = C + 7 := u2_eq ⟨rfl, rfl⟩
  have hD2 : u2 (u2 D 8 7 b) 9 0 (C + 7) 8 7 = b := by rw [u2_ne (by omega), u2_eq ⟨rfl, rfl⟩]
  have g7 : ∀ (V : Vw) (D : Dw) (K : Int32 → Option (Unit × Mem)), (gLen (wC (wK S b W) C V U D) (C + 7)).bind K = K (nI 1000) := fun V D K => gLen_k (S := wC (wK S b W) C V U D) h.2.2.2.2.2.2.1.1 (by decide) (by decide) h.2.2.2.2.2.2.1.2
  have ecl : clI (nI X.1) 0 (nI 1000) = nI X.1 := by
    unfold clI
    rw [if_pos (show (0 : Int32) ≤ nI X.1 from (nI_leI (a := 0) (by omega) (by omega)).mpr (by omega)), if_pos ((nI_leI (by omega) (by omega)).mpr hX1)]
  have t2 : tx (u2 (u2 (u2 (u2 V 8 3 0) 8 4 0) 9 2 (nI X.1)) 9 3 0) X := fun i hi => by
    rw [u2_row (by omega), u2_row (by omega), u2_row (by omega), u2_row (by omega)]
    exact hT i hi
  obtain ⟨V1, U1, a1, a2, a3, a4⟩ := c_step (p := 0) (F := F) (U := U) (V := u2 (u2 (u2 (u2 V 8 3 0) 8 4 0) 9 2 (nI X.1)) 9 3 0) (D := u2 (u2 D 8 7 b) 9 0 (C + 7)) hh (by omega) hX hD1 hwd (by omega) (by rw [u2_ne (by omega), u2_eq ⟨rfl, rfl⟩]) (u2_eq ⟨rfl, rfl⟩) t2
  obtain ⟨nc, enc⟩ := nI_ex (V1 8 5)
  obtain ⟨law, elaw⟩ := nI_ex (V1 8 6)
  have hP : cP X law 0 0 nc V1 U1 := ⟨a4, by rw [a2.1 8 (by omega), u2_row (by omega), u2_row (by omega), u2_ne (by omega)]; exact u2_eq ⟨rfl, rfl⟩, enc, elaw, t2.keep a2, fun i hi => by rw [a3 11 (by omega)]; exact hwd i hi⟩
  have hI1 : skI X sk0 S C b W V1 U1 q0 := hI.cg (by rw [a2.1 8 (by omega), u2_row (by omega), u2_row (by omega), u2_eq ⟨rfl, rfl⟩, u2_eq ⟨rfl, rfl⟩]) (a3 12 (by omega))
  obtain ⟨S', W', V', U', b1, b2, b3, b4, b5, b6, b7, b8, b9⟩ := c_readL (D := u2 (u2 D 8 7 b) 9 0 (C + 7)) hF hX hD1 hD2 hC 1001 0 0 F law nc sk0 S W V1 U1 (by omega) (by omega) (by omega) (by omega) hP hI1 wfZ_0
  refine ⟨S', W', V', U', ?_, b2, b3, b4, fun j h8 h9 h13 => by rw [b5 j h8 h9 h13, a2.1 j h9, u2_row h9, u2_row h9, u2_row h8, u2_row h8], (uG.of9 a3).tr b6, b7, b8, b9⟩
  unfold fn_X6_read fn_X1_open
  simp only [↓eC hh, ↓bd_r, g7, p_clamped, ecl, a1]
  exact b1
