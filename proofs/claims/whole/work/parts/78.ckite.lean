/-! a sky that is being written -/
def wK (S : Mem) (b : Nat) (W : Vw) : Mem := (S.1, S.2.1, (fun a k => if b ≤ a ∧ a < b + 6 then W (a - b) k else mI S a k), S.2.2.2)
theorem wK_mI {S : Mem} {b i k : Nat} {W : Vw} (hi : i < 6) : mI (wK S b W) (b + i) k = W i k := by
  show (if b ≤ b + i ∧ b + i < b + 6 then W (b + i - b) k else mI S (b + i) k) = _
  rw [if_pos (by omega), Nat.add_sub_cancel_left]
theorem wK_mIo {S : Mem} {b a k : Nat} {W : Vw} (h : ¬ (b ≤ a ∧ a < b + 6)) : mI (wK S b W) a k = mI S a k := if_neg h
theorem wK_pI {S : Mem} {b i k : Nat} {W : Vw} {v : Int32} (hi : i < 6) : pI (wK S b W) (b + i) k v = wK S b (u2 W i k v) := by
  have h1 : u2 (mI (wK S b W)) (b + i) k v = fun a j => if b ≤ a ∧ a < b + 6 then u2 W i k v (a - b) j else mI S a j := by
    funext a j
    unfold u2
    by_cases h2 : a = b + i ∧ j = k
    · obtain ⟨rfl, rfl⟩ := h2
      rw [if_pos ⟨rfl, rfl⟩, if_pos (by omega), if_pos ⟨by omega, rfl⟩]
    · rw [if_neg h2]
      show (if b ≤ a ∧ a < b + 6 then W (a - b) j else mI S a j) = _
      by_cases h3 : b ≤ a ∧ a < b + 6
      · rw [if_pos h3, if_pos h3, if_neg (fun q => h2 ⟨by omega, q.2⟩)]
      · rw [if_neg h3, if_neg h3]
  show ((wK S b W).1, (wK S b W).2.1, u2 (mI (wK S b W)) (b + i) k v, (wK S b W).2.2.2) = _
  rw [h1]
  rfl
theorem wC_pIo {S : Mem} {C a k : Nat} {V : Vw} {U : Uw} {D : Dw} {v : Int32} (h : ¬ inR C a) : pI (wC S C V U D) a k v = wC (pI S a k v) C V U D := by
  have h1 : u2 (mI (wC S C V U D)) a k v = fun c j => if c = C ∨ (C + 7 ≤ c ∧ c < C + 71) then V (c - C) j else mI (pI S a k v) c j := by
    funext c j
    show (if c = a ∧ j = k then v else if c = C ∨ (C + 7 ≤ c ∧ c < C + 71) then V (c - C) j else mI S c j) = (if c = C ∨ (C + 7 ≤ c ∧ c < C + 71) then V (c - C) j else if c = a ∧ j = k then v else mI S c j)
    by_cases h2 : c = C ∨ (C + 7 ≤ c ∧ c < C + 71)
    · rw [if_pos h2, if_pos h2, if_neg (fun q => h (by rw [← q.1]; exact h2))]
    · rw [if_neg h2, if_neg h2]
  show ((wC S C V U D).1, (wC S C V U D).2.1, u2 (mI (wC S C V U D)) a k v, (wC S C V U D).2.2.2) = _
  rw [h1]
  rfl
theorem k_gI {α : Type} {S : Mem} {C b k : Nat} {W V : Vw} {U : Uw} {D : Dw} {K : Int32 → Option α} (hK : shK S C b) : (gI (wC (wK S b W) C V U D) 5 k b).bind K = K (W 0 k) := by
  rw [gI_k (S := wC (wK S b W) C V U D) hK.1]
  exact congrArg K ((congrFun (wC_out (hK.2.2 0 (by omega))) k).trans (wK_mI (i := 0) (by omega)))
theorem k_gR {α : Type} {S : Mem} {C b i : Nat} {W V : Vw} {U : Uw} {D : Dw} {K : Nat → Option α} (hK : shK S C b) (hi : 1 ≤ i ∧ i ≤ 5) : (gR (wC (wK S b W) C V U D) 5 i b).bind K = K (b + i) := by
  obtain ⟨j, rfl⟩ : ∃ j, i = 1 + j := ⟨i - 1, by omega⟩
  exact gR_k (S := wC (wK S b W) C V U D) hK.1 ((wC_mRn (S := wK S b W) (fun q => hK.2.2 0 (by omega) q.1)).trans (hK.2.1 j (by omega)).1)
theorem k_sA {α : Type} {S : Mem} {C b i n : Nat} {W V : Vw} {U : Uw} {D : Dw} {v : Int32} {K : Mem → Option α} (hK : shK S C b) (hi : 1 ≤ i ∧ i ≤ 5) (hn : n < 6) : (sA (wC (wK S b W) C V U D) (b + i) (nI n) v).bind K = K (wC (wK S b (u2 W i n v)) C V U D) := by
  obtain ⟨j, rfl⟩ : ∃ j, i = 1 + j := ⟨i - 1, by omega⟩
  have q := hK.2.1 j (by omega)
  rw [sA_k (S := wC (wK S b W) C V U D) q.2.1 q.2.2 (inB_n hn (by decide)), nI_clamp (by omega), wC_pIo (hK.2.2 (1 + j) (by omega)), wK_pI (by omega)]
theorem k_sI {α : Type} {S : Mem} {C b k : Nat} {W V : Vw} {U : Uw} {D : Dw} {v : Int32} {K : Mem → Option α} (hK : shK S C b) : (sI (wC (wK S b W) C V U D) 5 k b v).bind K = K (wC (wK S b (u2 W 0 k v)) C V U D) := by
  rw [sI_k (S := wC (wK S b W) C V U D) hK.1, wC_pIo (a := b) (hK.2.2 0 (by omega))]
  exact congrArg (fun T => K (wC T C V U D)) (wK_pI (i := 0) (by omega))
def cG (X : Tp) (s : SkR) (W : Vw) (U : Uw) : Prop := W 0 0 = nI (zN s) ∧ (W 0 6 = nI (zV s 2) ∧ W 0 7 = nI (zV s 3) ∧ W 0 8 = nI (zV s 4) ∧ W 0 9 = nI (zV s 5)) ∧ ∀ k, k < zN s → (∀ j, 1 ≤ j → j ≤ 5 → W j k = nI (zF s j k)) ∧ U 12 k = lN (lW X (zF s 0 k))
def uG (U U' : Uw) : Prop := ∀ j, j ≠ 9 → j ≠ 12 → U' j = U j
theorem uG.rf {U : Uw} : uG U U := fun _ _ _ => rfl
theorem uG.tr {U U' U'' : Uw} (a : uG U U') (b : uG U' U'') : uG U U'' := fun j h1 h2 => (b j h1 h2).trans (a j h1 h2)
theorem uG.of9 {U U' : Uw} (a : u9 U U') : uG U U' := fun j h1 _ => a j h1
theorem cR.u12 {X : Tp} {law nc k : Nat} {r : Sum Nat Nat} {V : Vw} {U : Uw} {v : Int64} (h : cR X law r nc V U) : cR X law r nc V (u2 U 12 k v) := by
  have key : ∀ p f, cP X law p f nc V U → cP X law p f nc V (u2 U 12 k v) := fun p f q => ⟨⟨q.1.1, q.1.2.1, q.1.2.2.1, q.1.2.2.2.1, q.1.2.2.2.2.1, fun z => by rw [u2_ne (by omega)]; exact q.1.2.2.2.2.2 z⟩, q.2.1, q.2.2.1, q.2.2.2.1, q.2.2.2.2.1, fun i hi => by rw [u2_ne (by omega)]; exact q.2.2.2.2.2 i hi⟩
  cases r with
  | inl f => exact ⟨h.1, h.2.1, key _ _ h.2.2⟩
  | inr p => exact ⟨h.1, key _ _ h.2⟩
theorem bS_l {α β : Type} {k : Nat} {f : α → Sum Nat β} : bS (.inl k) f = .inl k := rfl
theorem bS_i {α β : Type} {a : α} {f : α → Sum Nat β} : bS (.inr a) f = f a := rfl
theorem psR_l {α : Type} {k : Nat} : psR (α := α) (.inl k) = .inl k := rfl
theorem psR_i {α : Type} {q : Nat} {a : α} : psR (.inr (q, a)) = .inr q := rfl
def kr1 (X : Tp) (p : Nat) (s : SkR) : Sum Nat Nat := naS X s (lE X p)
def kr2 (X : Tp) (p : Nat) (s : SkR) : Sum Nat (Nat × Nat) := bS (kr1 X p s) (kiS X)
def kr3 (X : Tp) (p : Nat) (s : SkR) : Sum Nat (Nat × Nat) := bS (bS (psR (kr2 X p s)) (exS X 7)) (nuS X 0 99)
def kr4 (X : Tp) (p : Nat) (s : SkR) : Sum Nat (Nat × Nat) := bS (bS (psR (kr3 X p s)) (exS X 8)) (nuS X 1 20)
def kr5 (X : Tp) (p : Nat) (s : SkR) : Sum Nat (Nat × Nat) := bS (bS (psR (kr4 X p s)) (exS X 9)) (nuS X 0 99)
def kr6 (X : Tp) (p : Nat) (s : SkR) : Sum Nat (Nat × Nat) := bS (bS (psR (kr5 X p s)) (exS X 10)) (nuS X 0 40)
theorem pKite_ps {X : Tp} {p : Nat} {s : SkR} (hn : ¬ 6 ≤ zN s) : psR (pKite X p s) = psR (kr6 X p s) ∧ ∀ q s', pKite X p s = .inr (q, s') → ∃ n3 n4 n5 n6 n7 q3 q4 q5 q6, kr1 X p s = .inr (lE X (lE X p)) ∧ kr2 X p s = .inr (q3, n3) ∧ kr3 X p s = .inr (q4, n4) ∧ kr4 X p s = .inr (q5, n5) ∧ kr5 X p s = .inr (q6, n6) ∧ kr6 X p s = .inr (q, n7) ∧ s' = (zT s, zN s + 1, zV s, setK (zF s) (zN s) (six (lE X p) n3 n4 n5 n6 n7), zW s, zR s) := by
  have e1 : kr1 X p s = naS X s (lE X p) := rfl
  unfold pKite
  rw [if_neg hn]
  cases h1 : naS X s (lE X p) with
  | inl k =>
    have e2 : kr2 X p s = .inl k := by unfold kr2 kr1; rw [h1]; rfl
    have e3 : kr3 X p s = .inl k := by unfold kr3; rw [e2]; rfl
    have e4 : kr4 X p s = .inl k := by unfold kr4; rw [e3]; rfl
    have e5 : kr5 X p s = .inl k := by unfold kr5; rw [e4]; rfl
    have e6 : kr6 X p s = .inl k := by unfold kr6; rw [e5]; rfl
    rw [e6]
    exact ⟨rfl, fun q s' e => by cases e⟩
  | inr p2 =>
    have hp2 := (naS_r h1).2
    have e2 : kr2 X p s = kiS X p2 := by unfold kr2 kr1; rw [h1]; rfl
    rw [bS_i]
    cases h2 : kiS X p2 with
    | inl k =>
      rw [h2] at e2
      have e3 : kr3 X p s = .inl k := by unfold kr3; rw [e2]; rfl
      have e4 : kr4 X p s = .inl k := by unfold kr4; rw [e3]; rfl
      have e5 : kr5 X p s = .inl k := by unfold kr5; rw [e4]; rfl
      have e6 : kr6 X p s = .inl k := by unfold kr6; rw [e5]; rfl
      rw [e6]
      exact ⟨rfl, fun q s' e => by cases e⟩
    | inr z3 =>
      obtain ⟨q3, n3⟩ := z3
      rw [h2] at e2
      have e3 : kr3 X p s = wnS X 7 0 99 q3 := by unfold kr3; rw [e2]; rfl
      rw [bS_i]
      show psR (bS (wnS X 7 0 99 q3) _) = _ ∧ ∀ q s', bS (wnS X 7 0 99 q3) _ = _ → _
      cases h3 : wnS X 7 0 99 q3 with
      | inl k =>
        rw [h3] at e3
        have e4 : kr4 X p s = .inl k := by unfold kr4; rw [e3]; rfl
        have e5 : kr5 X p s = .inl k := by unfold kr5; rw [e4]; rfl
        have e6 : kr6 X p s = .inl k := by unfold kr6; rw [e5]; rfl
        rw [e6]
        exact ⟨rfl, fun q s' e => by cases e⟩
      | inr z4 =>
        obtain ⟨q4, n4⟩ := z4
        rw [h3] at e3
        have e4 : kr4 X p s = wnS X 8 1 20 q4 := by unfold kr4; rw [e3]; rfl
        rw [bS_i]
        show psR (bS (wnS X 8 1 20 q4) _) = _ ∧ ∀ q s', bS (wnS X 8 1 20 q4) _ = _ → _
        cases h4 : wnS X 8 1 20 q4 with
        | inl k =>
          rw [h4] at e4
          have e5 : kr5 X p s = .inl k := by unfold kr5; rw [e4]; rfl
          have e6 : kr6 X p s = .inl k := by unfold kr6; rw [e5]; rfl
          rw [e6]
          exact ⟨rfl, fun q s' e => by cases e⟩
        | inr z5 =>
          obtain ⟨q5, n5⟩ := z5
          rw [h4] at e4
          have e5 : kr5 X p s = wnS X 9 0 99 q5 := by unfold kr5; rw [e4]; rfl
          rw [bS_i]
          show psR (bS (wnS X 9 0 99 q5) _) = _ ∧ ∀ q s', bS (wnS X 9 0 99 q5) _ = _ → _
          cases h5 : wnS X 9 0 99 q5 with
          | inl k =>
            rw [h5] at e5
            have e6 : kr6 X p s = .inl k := by unfold kr6; rw [e5]; rfl
            rw [e6]
            exact ⟨rfl, fun q s' e => by cases e⟩
          | inr z6 =>
            obtain ⟨q6, n6⟩ := z6
            rw [h5] at e5
            have e6 : kr6 X p s = wnS X 10 0 40 q6 := by unfold kr6; rw [e5]; rfl
            rw [bS_i]
            show psR (bS (wnS X 10 0 40 q6) _) = _ ∧ ∀ q s', bS (wnS X 10 0 40 q6) _ = _ → _
            cases h6 : wnS X 10 0 40 q6 with
            | inl k =>
              rw [h6] at e6
              rw [e6]
              exact ⟨rfl, fun q s' e => by cases e⟩
            | inr z7 =>
              obtain ⟨q7, n7⟩ := z7
              rw [h6] at e6
              rw [e6]
              refine ⟨rfl, fun q s' e => ?_⟩
              cases e
              exact ⟨n3, n4, n5, n6, n7, q3, q4, q5, q6, by rw [e1, h1, hp2], e2, e3, e4, e5, rfl, rfl⟩
set_option maxHeartbeats 1000000 in
theorem c_kite {X : Tp} {law nc p b : Nat} {s : SkR} {W : Vw} {F C : Nat} {S : Mem} {V : Vw} {U : Uw} {D : Dw} (h : shC S C) (hK : shK S C b) (hF : 10000 < F) (hX : okTp X) (hD : D 9 0 = C + 7) (hb : D 8 7 = b) (hw : wfZ X s) (hp : p ≤ X.1) (h6 : lT X p = 6) (hP : cP X law p 0 nc V U) (hG : cG X s W U) :
    ∃ W' V' U', fn_X6_readKite F (C + 8) (wC (wK S b W) C V U D) = some ((), wC (wK S b W') C V' U' D) ∧ fr8 V V' ∧ uG U U' ∧ V' 13 = V 13 ∧ cR X law (psR (pKite X p s)) nc V' U' ∧ ∀ q s', pKite X p s = .inr (q, s') → cG X s' W' U' := by
  have hh : ∀ W, shC (wK S b W) C := fun _ => h
  have hT := lT_le (X := X) (p := p)
  have hn6 := hw.1
  obtain ⟨g1, g2, g3⟩ := hG
  unfold fn_X6_readKite
  by_cases hn : 6 ≤ zN s
  · obtain ⟨V1, e1, b1, b2, b3⟩ := c_failR (F := F) (k := 5) (x := 5) (r := .inr p) (D := D) (hh W) hX rfl (by omega) ⟨hp, hP⟩
    have e9 : pKite X p s = .inl (5 + 16 * lB X p) := by unfold pKite; rw [if_pos hn]
    rw [e9]
    refine ⟨W, V1, U, ?_, b1, uG.rf, b2, b3, fun q s' e => by cases e⟩
    simp (disch := first | assumption | exact inB_n (by omega) (by decide) | exact inB_l (by omega) (by decide) | exact inB_al (by omega) (by decide) | exact inB_la (by omega) (by decide) | exact inB_j (by assumption) (by omega) (by decide) | exact inB_e (by assumption) (by decide) | omega) only [↓fun W => eC (hh W), ↓bd_r, ↓Option.bind_some, hb, k_gI hK, g1, lt_nl, if_neg (show ¬ zN s < 6 by omega), e1]
  · have hn' : zN s < 6 := by omega
    obtain ⟨V1, U1, a1, a2, a3, a4⟩ := c_stepP (F := F) (D := D) (hh W) hF hX hD hp hP
    have u1' : ∀ k, U1 12 k = U 12 k := fun k => by rw [a3 12 (by omega)]
    obtain ⟨V2, U2, v2, b1, b2, b3, b4, b5, b6⟩ := c_nameR (F := F) (D := D) (s := s) (hh W) hF hX hD hw (fun k hk => by rw [u1' k]; exact (g3 k hk).2) (lE_b hp).2 a4
    have b5 := b5.u12 (k := zN s) (v := v2)
    obtain ⟨V3, U3, v3, c1, c2, c3, c4, c5, c6⟩ := c_kindR (F := F) (D := D) (hh W) hF hX hD b5
    obtain ⟨V4, U4, d1, d2, d3, d4, d5⟩ := c_expR (F := F) (x := 7) (t := 7) (D := D) (hh (u2 W 1 (zN s) v3)) hF hX hD rfl (by omega) c5
    obtain ⟨V5, U5, v5, f1, f2, f3, f4, f5, f6⟩ := c_numR (F := F) (x1 := 0) (x2 := 99) (lw := 0) (hi := 99) (D := D) (hh (u2 W 1 (zN s) v3)) hF hX hD rfl rfl (by omega) d5
    obtain ⟨V6, U6, i1, i2, i3, i4, i5⟩ := c_expR (F := F) (x := 8) (t := 8) (D := D) (hh (u2 (u2 W 1 (zN s) v3) 2 (zN s) v5)) hF hX hD rfl (by omega) f5
    obtain ⟨V7, U7, v7, j1, j2, j3, j4, j5, j6⟩ := c_numR (F := F) (x1 := 1) (x2 := 20) (lw := 1) (hi := 20) (D := D) (hh (u2 (u2 W 1 (zN s) v3) 2 (zN s) v5)) hF hX hD rfl rfl (by omega) i5
    obtain ⟨V8, U8, k1, k2, k3, k4, k5⟩ := c_expR (F := F) (x := 9) (t := 9) (D := D) (hh (u2 (u2 (u2 W 1 (zN s) v3) 2 (zN s) v5) 3 (zN s) v7)) hF hX hD rfl (by omega) j5
    obtain ⟨V9, U9, v9, l1, l2, l3, l4, l5, l6⟩ := c_numR (F := F) (x1 := 0) (x2 := 99) (lw := 0) (hi := 99) (D := D) (hh (u2 (u2 (u2 W 1 (zN s) v3) 2 (zN s) v5) 3 (zN s) v7)) hF hX hD rfl rfl (by omega) k5
    obtain ⟨V10, U10, m1, m2, m3, m4, m5⟩ := c_expR (F := F) (x := 10) (t := 10) (D := D) (hh (u2 (u2 (u2 (u2 W 1 (zN s) v3) 2 (zN s) v5) 3 (zN s) v7) 4 (zN s) v9)) hF hX hD rfl (by omega) l5
    obtain ⟨V11, U11, v11, n1, n2, n3, n4, n5, n6⟩ := c_numR (F := F) (x1 := 0) (x2 := 40) (lw := 0) (hi := 40) (D := D) (hh (u2 (u2 (u2 (u2 W 1 (zN s) v3) 2 (zN s) v5) 3 (zN s) v7) 4 (zN s) v9)) hF hX hD rfl rfl (by omega) m5
    obtain ⟨r1, r2⟩ := pKite_ps (X := X) (p := p) hn
    refine ⟨u2 (u2 (u2 (u2 (u2 (u2 W 1 (zN s) v3) 2 (zN s) v5) 3 (zN s) v7) 4 (zN s) v9) 5 (zN s) v11) 0 0 (nI (zN s + 1)), V11, U11, ?_, (((((((((((fr8.of9 a2).tr b2).tr c2).tr d2).tr f2).tr i2).tr j2).tr k2).tr l2).tr m2).tr n2), ?_, ?_, ?_, fun q s' e => ?_⟩
    · simp (disch := first | assumption | exact inB_n (by omega) (by decide) | exact inB_l (by omega) (by decide) | exact inB_al (by omega) (by decide) | exact inB_la (by omega) (by decide) | exact inB_j (by assumption) (by omega) (by decide) | exact inB_e (by assumption) (by decide) | omega) only [↓fun W => eC (hh W), ↓bd_r, ↓Option.bind_some, hb, k_gI hK, k_gR hK, k_sA hK, k_sI hK, g1, lt_nl, if_pos hn', a1, b1, c1, d1, f1, i1, j1, k1, l1, m1, n1, nI_la, ix_nI]
    · intro j h9 h12
      rw [n3 j h9, m3 j h9, l3 j h9, k3 j h9, j3 j h9, i3 j h9, f3 j h9, d3 j h9, c3 j h9, u2_row h12, b3 j h9, a3 j h9]
    · rw [n4, m4, l4, k4, j4, i4, f4, d4, c4, b4, a2.1 13 (by omega)]
    · rw [r1]
      exact n5
    · obtain ⟨x3, x4, x5, x6, x7, q3, q4, q5, q6, y1, y2, y3, y4, y5, y6, y7⟩ := r2 q s' e
      have hv2 := b6 _ y1
      have hv3 := c6 _ _ y2
      have hv5 := f6 _ _ y3
      have hv7 := j6 _ _ y4
      have hv9 := l6 _ _ y5
      have hv11 := n6 _ _ y6
      subst y7
      refine ⟨u2_eq ⟨rfl, rfl⟩, ?_, fun k hk => ?_⟩
      · have z : ∀ i, i ≠ 0 → u2 (u2 (u2 (u2 (u2 (u2 W 1 (zN s) v3) 2 (zN s) v5) 3 (zN s) v7) 4 (zN s) v9) 5 (zN s) v11) 0 0 (nI (zN s + 1)) 0 i = W 0 i := fun i hi => by
          rw [u2_ne (by omega), u2_ne (by omega), u2_ne (by omega), u2_ne (by omega), u2_ne (by omega), u2_ne (by omega)]
        rw [z 6 (by omega), z 7 (by omega), z 8 (by omega), z 9 (by omega)]
        exact g2
      · have hk : k < zN s + 1 := hk
        have eU : U11 12 k = u2 U2 12 (zN s) v2 12 k := by
          rw [n3 12 (by omega), m3 12 (by omega), l3 12 (by omega), k3 12 (by omega), j3 12 (by omega), i3 12 (by omega), f3 12 (by omega), d3 12 (by omega), c3 12 (by omega)]
        by_cases hkn : k = zN s
        · subst hkn
          have e9 : ∀ j, zF (zT s, zN s + 1, zV s, setK (zF s) (zN s) (six (lE X p) x3 x4 x5 x6 x7), zW s, zR s) j (zN s) = six (lE X p) x3 x4 x5 x6 x7 j := fun j => if_pos rfl
          refine ⟨fun j h1 h5 => ?_, ?_⟩
          · rw [e9]
            rcases (by omega : j = 1 ∨ j = 2 ∨ j = 3 ∨ j = 4 ∨ j = 5) with rfl | rfl | rfl | rfl | rfl
            · rw [u2_ne (by omega), u2_ne (by omega), u2_ne (by omega), u2_ne (by omega), u2_ne (by omega), u2_eq ⟨rfl, rfl⟩]; exact hv3
            · rw [u2_ne (by omega), u2_ne (by omega), u2_ne (by omega), u2_ne (by omega), u2_eq ⟨rfl, rfl⟩]; exact hv5
            · rw [u2_ne (by omega), u2_ne (by omega), u2_ne (by omega), u2_eq ⟨rfl, rfl⟩]; exact hv7
            · rw [u2_ne (by omega), u2_ne (by omega), u2_eq ⟨rfl, rfl⟩]; exact hv9
            · rw [u2_ne (by omega), u2_eq ⟨rfl, rfl⟩]; exact hv11
          · rw [eU, u2_eq ⟨rfl, rfl⟩, e9]
            exact hv2
        · have e9 : ∀ j, zF (zT s, zN s + 1, zV s, setK (zF s) (zN s) (six (lE X p) x3 x4 x5 x6 x7), zW s, zR s) j k = zF s j k := fun j => if_neg hkn
          have q := g3 k (by omega)
          refine ⟨fun j h1 h5 => ?_, ?_⟩
          · rw [e9, u2_ne (by omega), u2_ne (by omega), u2_ne (by omega), u2_ne (by omega), u2_ne (by omega), u2_ne (by omega)]
            exact q.1 j h1 h5
          · rw [eU, u2_ne (by omega), e9, b3 12 (by omega), a3 12 (by omega)]
            exact q.2
