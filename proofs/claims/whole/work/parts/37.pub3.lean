/-! lose -/
def xorN (l k : Nat) : Nat := if lo l k = true then l - 2 ^ k else l + 2 ^ k
theorem xor_F : ∀ l : Fin 64, ∀ k : Fin 6, nI l.val ^^^ ((1 : Int32) <<< (nI k.val &&& 31)) = nI (xorN l.val k.val) := by decide +kernel
theorem xor_bit {l k : Nat} (hl : l < 64) (hk : k < 6) : nI l ^^^ ((1 : Int32) <<< (nI k &&& 31)) = nI (xorN l k) := xor_F ⟨l, hl⟩ ⟨k, hk⟩
theorem xorF_lt : ∀ n : Fin 7, ∀ l : Fin 64, ∀ k : Fin 6, k.val < n.val → l.val < 2 ^ n.val → xorN l.val k.val < 2 ^ n.val := by decide +kernel
theorem xorN_lt {n l k : Nat} (hn : n ≤ 6) (hk : k < n) (hl : l < 2 ^ n) : xorN l k < 2 ^ n := by
  have h2 : 2 ^ n ≤ 2 ^ 6 := Nat.pow_le_pow_right (by decide) hn
  exact xorF_lt ⟨n, by omega⟩ ⟨l, by omega⟩ ⟨k, by omega⟩ hk hl
def okLo (K : SkyT) (s : Nat → Nat) (x y : Int32) : Bool := isK (kN K) x && decide (b1 (lo (s 18) x.toNatClampNeg) = y)
def loN (s : Nat → Nat) (k : Nat) (y : Int32) (j : Nat) : Nat := if j = 18 then xorN (s 18) k else if j = 6 + k ∨ j = 12 + k then 0 else if j = k ∧ y ≠ 0 then 0 else s j
theorem wf_lo {K : SkyT} {B k : Nat} {y : Int32} {s : Nat → Nat} (hs : wfS K B s) (hw : wfK K) (hk : k < kN K) : wfS K B (loN s k y) := by
  have hn6 := hw.1.1
  have e : ∀ j, 19 ≤ j → loN s k y j = s j := fun j hj => by
    unfold loN
    rw [if_neg (by omega), if_neg (by omega), if_neg (by omega)]
  refine ⟨fun i hi => ?_, by unfold loN; rw [if_pos rfl]; exact xorN_lt hn6 hk hs.2.1, by rw [e 19 (by omega)]; exact hs.2.2.1, by rw [e 20 (by omega)]; exact hs.2.2.2.1, fun i hi => ?_⟩
  · have q := hs.1 i hi
    unfold loN
    refine ⟨?_, ?_, ?_⟩
    · rw [if_neg (by omega), if_neg (by omega)]; split <;> omega
    · rw [if_neg (by omega)]; split
      · omega
      · rw [if_neg (by omega)]; exact q.2.1
    · rw [if_neg (by omega)]; split
      · omega
      · rw [if_neg (by omega)]; exact q.2.2
  · rw [e 20 (by omega)] at hi
    rw [e _ (by omega), e _ (by omega), e _ (by omega)]
    exact hs.2.2.2.2 i hi
theorem ca_lose {x y : Int32} {B b : Nat} {K : SkyT} {s : Nat → Nat} {F C : Nat} {S : Mem} {V : Vw} {U : Uw} {D : Dw} (h : shC S C) (hF : 10000 < F) (hw9 : wfK K) (hK : cSky S C b K) (hb : D 28 0 = b) (hS : cNt V 28 K s) (hs : wfS K B s) (hB : B < 2 ^ 29) : ∃ V' D', fn_X8_lose F C x y (wC S C V U D) = some (b1 (okLo K s x y), wC S C V' U D') ∧ ck V V' ∧ dk D D' ∧ cNt V' 28 K (if okLo K s x y = true then loN s x.toNatClampNeg y else s) := by
  have hn6 := hw9.1.1
  have hl6 := hs.lost hw9
  unfold fn_X8_lose f_X8_lose_20 f_X8_lose_71 okLo
  have e0 : ∀ {α : Type} (X : Option (Int32 × Mem)) (K' : Int32 → Mem → Option α), bd (cal (wC S C V U D) 7 C X) K' = bd X K' := fun X K' => by simp only [↓eC h]
  rw [e0, c_isKite h hw9 hK hb, bd_r]
  cases hk : isK (kN K) x with
  | false => exact ⟨V, D, rfl, ck.rf, dk.rf, hS⟩
  | true =>
    obtain ⟨k, hkn, rfl⟩ := isK_nI hn6 hk
    show ∃ V' D', (if (1 : Int32) = 0 then _ else _) = _ ∧ _
    have p1 := c_isLost (F := F) (V := V) (U := U) (D := D) (k := k) h isN28 (by omega) hS.2.1 (by omega)
    rw [if_neg (by decide), nI_clamp (by omega)]
    simp (disch := first | assumption | exact inB_n (by omega) (by decide) | exact inB_l (by omega) (by decide) | exact inB_al (by omega) (by decide) | exact inB_la (by omega) (by decide) | exact inB_j (by assumption) (by omega) (by decide) | exact inB_e (by assumption) (by decide) | omega) only [↓eC h, ↓eN h isN28, ↓bd_r, p1, hS.2.1, xor_bit hl6 (show k < 6 by omega), ix_nI, ix_l, nI_al, nI_la, nI_lm, u2_ne, u2_eq]
    by_cases hc : b1 (lo (s 18) k) = y
    · rw [if_pos hc, decide_eq_true hc]
      show ∃ V' D', _ = _ ∧ ck V V' ∧ dk D D' ∧ cNt V' 28 K (if true = true then _ else _)
      rw [if_pos rfl]
      have e18 : loN s k y 18 = xorN (s 18) k := if_pos rfl
      have ei : ∀ j, 19 ≤ j → loN s k y j = s j := fun j hj => by
        unfold loN
        rw [if_neg (by omega), if_neg (by omega), if_neg (by omega)]
      have ea : ∀ i, i < 6 → loN s k y i = if i = k ∧ y ≠ 0 then 0 else s i := fun i hi => by
        unfold loN
        rw [if_neg (by omega), if_neg (by omega)]
      have eb : ∀ i, i < 6 → loN s k y (6 + i) = if i = k then 0 else s (6 + i) := fun i hi => by
        unfold loN
        rw [if_neg (by omega)]
        by_cases hik : i = k
        · rw [if_pos (by omega), if_pos hik]
        · rw [if_neg (by omega), if_neg (by omega), if_neg hik]
      have ec : ∀ i, i < 6 → loN s k y (12 + i) = if i = k then 0 else s (12 + i) := fun i hi => by
        unfold loN
        rw [if_neg (by omega)]
        by_cases hik : i = k
        · rw [if_pos (by omega), if_pos hik]
        · rw [if_neg (by omega), if_neg (by omega), if_neg hik]
      have fin : ∀ W : Vw, (∀ j, j ≠ 28 → j ≠ 29 → j ≠ 30 → j ≠ 31 → W j = V j) → (∀ j, W 28 j = if j = 2 then nI (xorN (s 18) k) else V 28 j) → (∀ i, i < 6 → W 29 i = if i = k ∧ y ≠ 0 then 0 else V 29 i) → (∀ i, i < 6 → W 30 i = if i = k then -1 else V 30 i) → (∀ i, i < 6 → W 31 i = if i = k then 0 else V 31 i) → cNt W 28 K (loN s k y) := by
        intro W w0 w1 w2 w3 w4
        refine ⟨?_, ?_, ?_, fun i hi => ⟨?_, ?_, ?_⟩, fun i hi => ?_⟩
        · rw [w1, if_neg (by decide), ei 19 (by omega)]; exact hS.1
        · rw [w1, if_pos rfl, e18]
        · rw [w1, if_neg (by decide), ei 20 (by omega)]; exact hS.2.2.1
        · rw [ea i (by omega), w2 i (by omega)]
          split
          · rfl
          · exact (hS.2.2.2.1 i hi).1
        · rw [eb i (by omega), w3 i (by omega)]
          split
          · decide
          · exact (hS.2.2.2.1 i hi).2.1
        · rw [ec i (by omega), w4 i (by omega)]
          split
          · rfl
          · exact (hS.2.2.2.1 i hi).2.2
        · rw [ei 20 (by omega)] at hi
          rw [w0 32 (by omega) (by omega) (by omega) (by omega), w0 33 (by omega) (by omega) (by omega) (by omega), w0 34 (by omega) (by omega) (by omega) (by omega), ei _ (by omega), ei _ (by omega), ei _ (by omega)]
          exact hS.2.2.2.2 i hi
      by_cases hy : y = 0
      · rw [if_pos hy]
        refine ⟨_, D, by rw [rz_1]; rfl, fun j hj => ?_, dk.rf, fin _ (fun j a b c d => ?_) (fun j => ?_) (fun i hi => ?_) (fun i hi => ?_) (fun i hi => ?_)⟩
        · rw [u2_row (by omega), u2_row (by omega), u2_row (by omega)]
        · rw [u2_row (by omega), u2_row (by omega), u2_row (by omega)]
        · rw [u2_row (by omega), u2_row (by omega)]; show (if _ ∧ j = 2 then _ else _) = _; simp
        · rw [u2_row (by omega), u2_row (by omega), u2_row (by omega), if_neg (fun q => q.2 hy)]
        · rw [u2_row (by omega)]; show (if _ ∧ i = k then _ else _) = _; simp [u2_row (show 30 ≠ 28 by decide)]
        · show (if _ ∧ i = k then _ else _) = _; simp [u2_row (show 31 ≠ 30 by decide), u2_row (show 31 ≠ 28 by decide)]
      · rw [if_neg hy]
        refine ⟨_, D, by rw [rz_1]; rfl, fun j hj => ?_, dk.rf, fin _ (fun j a b c d => ?_) (fun j => ?_) (fun i hi => ?_) (fun i hi => ?_) (fun i hi => ?_)⟩
        · rw [u2_row (by omega), u2_row (by omega), u2_row (by omega), u2_row (by omega)]
        · rw [u2_row (by omega), u2_row (by omega), u2_row (by omega), u2_row (by omega)]
        · rw [u2_row (by omega), u2_row (by omega), u2_row (by omega)]; show (if _ ∧ j = 2 then _ else _) = _; simp
        · show (if _ ∧ i = k then _ else _) = _; simp [hy, u2_row (show 29 ≠ 31 by decide), u2_row (show 29 ≠ 30 by decide), u2_row (show 29 ≠ 28 by decide)]
        · rw [u2_row (by omega), u2_row (by omega)]; show (if _ ∧ i = k then _ else _) = _; simp [u2_row (show 30 ≠ 28 by decide)]
        · rw [u2_row (by omega)]; show (if _ ∧ i = k then _ else _) = _; simp [u2_row (show 31 ≠ 30 by decide), u2_row (show 31 ≠ 28 by decide)]
    · rw [if_neg hc, decide_eq_false hc]
      exact ⟨V, D, rfl, ck.rf, dk.rf, hS⟩
theorem ma_lose {x y : Int32} {B : Nat} {K : SkyT} {s : Nat → Nat} {F M : Nat} {S : Mem} {V : Vw} {U : Uw} (h : shM S M) (hF : 10000 < F) (hw9 : wfK K) (hK : mSky V 0 K) (hS : mS V s) (hs : wfS K B s) (hB : B < 2 ^ 29) : ∃ V' U', fn_X9_lose F M x y (wM S M V U) = some (b1 (okLo K s x y), wM S M V' U') ∧ mk V V' ∧ mS V' (if okLo K s x y = true then loN s x.toNatClampNeg y else s) := by
  have hn6 := hw9.1.1
  have hl6 := hs.lost hw9
  have hn : V 2 4 = nI (kN K) := hK.1.2.2.2.2
  unfold fn_X9_lose f_X9_lose_22 f_X9_lose_68 okLo
  rw [cm_sI h, cm_cal h, q_isKite h (show u2 V 0 0 0 2 4 = nI (kN K) by rw [u2_row (by omega)]; exact hn), bd_r]
  have S1 : mS (u2 V 0 0 0) s := hS.thrown
  have m1 : mk V (u2 V 0 0 0) := mk.thrown
  generalize u2 V 0 0 0 = W at S1 m1 ⊢
  cases hk : isK (kN K) x with
  | false => exact ⟨W, U, rfl, m1, S1⟩
  | true =>
    obtain ⟨k, hkn, rfl⟩ := isK_nI hn6 hk
    show ∃ V' U', (if (1 : Int32) = 0 then _ else _) = _ ∧ _
    have p1 := q_isLost (F := F) (V := W) (U := U) (k := k) h (by omega) (S1 18 (by omega)) (by omega)
    rw [if_neg (by decide), nI_clamp (by omega)]
    simp (disch := first | assumption | exact inB_n (by omega) (by decide) | exact inB_l (by omega) (by decide) | exact inB_al (by omega) (by decide) | exact inB_la (by omega) (by decide) | exact inB_j (by assumption) (by omega) (by decide) | exact inB_e (by assumption) (by decide) | omega) only [↓eM h, ↓bd_r, ↓lt_r, ↓Option.bind_some, ↓reduceIte, ix_nI, ix_l, nI_al, nI_la, nI_lm, u2_ne, u2_eq, nI_leI, nI_ltI, nI_eq, le_ln, le_nl, lt_ln, lt_nl, eq_nl, eq_ln, p1, S1 18 (by omega), xor_bit hl6 (show k < 6 by omega)]
    by_cases hc : b1 (lo (s 18) k) = y
    · rw [if_pos hc, decide_eq_true hc]
      show ∃ V' U', _ = _ ∧ mk V V' ∧ mS V' (if true = true then _ else _)
      rw [if_pos rfl]
      have fin : ∀ X : Vw, (∀ j, j ≠ 24 → X j = W j) → (∀ i, i < 64 → X 24 i = if i = 18 then nI (xorN (s 18) k) else if i = 6 + k ∨ i = 12 + k then 0 else if i = k ∧ y ≠ 0 then 0 else W 24 i) → mk V X ∧ mS X (loN s k y) := by
        intro X x0 x1
        refine ⟨m1.tr ⟨fun i a b => x0 i (by omega), by rw [x0 0 (by omega)]⟩, fun i hi => ?_⟩
        rw [x1 i hi]
        unfold loN
        split
        · rfl
        · split
          · rfl
          · split
            · rfl
            · exact S1 i hi
      by_cases hy : y = 0
      · rw [if_pos hy]
        have q := fin (u2 (u2 (u2 W 24 18 (nI (xorN (s 18) k))) 24 (6 + k) 0) 24 (12 + k) 0) (fun j hj => by rw [u2_row hj, u2_row hj, u2_row hj]) (fun i hi => by
          by_cases i1 : i = 18
          · subst i1; rw [u2_ne (by omega), u2_ne (by omega), u2_eq ⟨rfl, rfl⟩]; rfl
          · by_cases i2 : i = 6 + k
            · rw [if_neg i1, if_pos (Or.inl i2), u2_ne (by omega), u2_eq ⟨rfl, i2⟩]
            · by_cases i3 : i = 12 + k
              · rw [if_neg i1, if_pos (Or.inr i3), u2_eq ⟨rfl, i3⟩]
              · rw [if_neg i1, if_neg (by omega), if_neg (fun q => q.2 hy), u2_ne (by omega), u2_ne (by omega), u2_ne (by omega)])
        exact ⟨_, U, by rw [rz_1]; rfl, q.1, q.2⟩
      · rw [if_neg hy]
        have q := fin (u2 (u2 (u2 (u2 W 24 18 (nI (xorN (s 18) k))) 24 (6 + k) 0) 24 (12 + k) 0) 24 k 0) (fun j hj => by rw [u2_row hj, u2_row hj, u2_row hj, u2_row hj]) (fun i hi => by
          by_cases i1 : i = 18
          · subst i1; rw [u2_ne (by omega), u2_ne (by omega), u2_ne (by omega), u2_eq ⟨rfl, rfl⟩]; rfl
          · by_cases i2 : i = 6 + k
            · rw [if_neg i1, if_pos (Or.inl i2), u2_ne (by omega), u2_ne (by omega), u2_eq ⟨rfl, i2⟩]
            · by_cases i3 : i = 12 + k
              · rw [if_neg i1, if_pos (Or.inr i3), u2_ne (by omega), u2_eq ⟨rfl, i3⟩]
              · by_cases i4 : i = k
                · rw [if_neg i1, if_neg (by omega), if_pos ⟨i4, hy⟩, u2_eq ⟨rfl, i4⟩]
                · rw [if_neg i1, if_neg (by omega), if_neg (fun q => i4 q.1), u2_ne (by omega), u2_ne (by omega), u2_ne (by omega), u2_ne (by omega)])
        exact ⟨_, U, by rw [rz_1]; rfl, q.1, q.2⟩
    · rw [if_neg hc, decide_eq_false hc]
      exact ⟨W, U, rfl, m1, S1⟩
/-! run -/
def itN {σ : Type} (f : σ → σ) : Nat → σ → σ
  | 0, s => s
  | n + 1, s => itN f n (f s)
theorem itN_s {σ : Type} (f : σ → σ) : ∀ (n : Nat) (s : σ), itN f (n + 1) s = f (itN f n s)
  | 0, _ => rfl
  | n + 1, s => itN_s f n (f s)
theorem wf_it {K : SkyT} {g : Int32} (hw : wfK K) : ∀ {n B : Nat} {s : Nat → Nat}, wfS K B s → wfS K (B + n) (itN (passN K g) n s)
  | 0, _, _, h => h
  | n + 1, B, s, h => by
    have := wf_it (g := g) (n := n) hw (wf_pass (g := g) h hw)
    rw [show B + (n + 1) = B + 1 + n by omega]
    exact this
def spR (x : Int32) : Bool := inr x 1 1000
def sp_run (K : SkyT) (s : Nat → Nat) (x : Int32) : Int32 := if spR x = true then nI (itN (passN K 0) x.toNatClampNeg s 19) else -1
theorem ca_run {x : Int32} {B b : Nat} {K : SkyT} {s : Nat → Nat} {F C : Nat} {S : Mem} {V : Vw} {U : Uw} {D : Dw} (h : shC S C) (hF : 10000 < F) (hw9 : wfK K) (hK : cSky S C b K) (hb : D 28 0 = b) (hS : cNt V 28 K s) (hs : wfS K B s) (hB : B < 2 ^ 29) : ∃ V' D', fn_X8_run F C x (wC S C V U D) = some (sp_run K s x, wC S C V' U D') ∧ ck V V' ∧ dk D D' ∧ cNt V' 28 K (if spR x = true then itN (passN K 0) x.toNatClampNeg s else s) := by
  have hn6 := hw9.1.1
  unfold fn_X8_run sp_run
  rw [c_within, bd_r]
  unfold spR
  cases hx : inr x 1 1000 with
  | false => exact ⟨V, D, rfl, ck.rf, dk.rf, hS⟩
  | true =>
    obtain ⟨n, hn1, hn, rfl⟩ := inr_nI (a := 1) (b := 1000) (by decide) (by decide) hx
    show ∃ V' D', (if (1 : Int32) = 0 then _ else _) = _ ∧ _
    rw [if_neg (by decide), if_pos rfl, if_pos rfl, nI_clamp (by omega)]
    have key : ∀ (d i f : Nat) (W : Vw) (E : Dw) (t : Nat → Nat), i + d = n → d < f → ck V W → dk D E → cNt W 28 K t → wfS K (B + i) t →
        ∃ V' D', fix3 (b_X8_run_15 F) f C (nI n) (nI i) (wC S C W U E) = some (nI (itN (passN K 0) d t 19), wC S C V' U D') ∧ ck V V' ∧ dk D D' ∧ cNt V' 28 K (itN (passN K 0) d t) := by
      intro d
      induction d with
      | zero =>
        intro i f W E t hi hf c1 d1 n1 w1
        obtain ⟨f, rfl⟩ : ∃ f', f = f' + 1 := ⟨f - 1, by omega⟩
        obtain rfl : i = n := by omega
        refine ⟨W, E, ?_, c1, d1, n1⟩
        show b_X8_run_15 F (fix3 (b_X8_run_15 F) f) C (nI i) (nI i) (wC S C W U E) = _
        unfold b_X8_run_15
        rw [if_pos (Int32.le_refl _)]
        simp only [↓eC h, ↓eN h isN28, n1.1]
        rfl
      | succ d ih =>
        intro i f W E t hi hf c1 d1 n1 w1
        obtain ⟨f, rfl⟩ : ∃ f', f = f' + 1 := ⟨f - 1, by omega⟩
        have ih := fun W E => ih (i + 1) f W E (passN K 0 t) (by omega) (by omega)
        show ∃ V' D', b_X8_run_15 F (fix3 (b_X8_run_15 F) f) C (nI n) (nI i) (wC S C W U E) = _ ∧ _
        generalize fix3 (b_X8_run_15 F) f = k4 at ih ⊢
        have hbE : E 28 0 = b := (d1 28 isN28 (by decide)).trans hb
        have lt6 := w1.lost hw9
        have st : ∀ (W1 : Vw) (E1 : Dw), ck V W1 → dk D E1 → cNt W1 28 K t → ((rl K).isSome = true → looked K (t 19) b (t 18) 0 t W1 E1) → ∃ V' D', f_X8_run_52 F k4 C (nI n) (nI i) (wC S C W1 U E1) = some (nI (itN (passN K 0) (d + 1) t 19), wC S C V' U D') ∧ ck V V' ∧ dk D D' ∧ cNt V' 28 K (itN (passN K 0) (d + 1) t) := by
          intro W1 E1 c2 d2 n2 L2
          obtain ⟨W2, e2, f2, n3⟩ := c_pass (F := F) (U := U) (D := E1) (g := 0) h isN28 (by omega) hw9 hK ((d2 28 isN28 (by decide)).trans hb) n2 w1 (by omega) L2
          unfold f_X8_run_52
          simp only [↓eC h, ↓eN h isN28, ↓bd_r, e2, nI_1]
          exact ih W2 E1 (fun j hj => (f2 j (by omega) (by omega) (by omega)).trans (c2 j hj)) d2 n3 (wf_pass w1 hw9)
        unfold b_X8_run_15
        rw [if_neg (show ¬ nI n ≤ nI i from nI_ge (by omega) (by omega))]
        simp only [↓eC h, ↓eN h isN28, ↓eK hK.1, hbE, c_hasRule hK, ↓bd_r]
        cases hr : rl K with
        | none =>
          exact st W E c1 d1 n1 (fun q => by rw [hr] at q; cases q)
        | some ff =>
          show ∃ V' D', (if (1 : Int32) = 0 then _ else _) = _ ∧ _
          obtain ⟨W1, e1, f1, l1⟩ := c_look (F := F) (U := U) (m := t 19) (g := 0) (l := t 18) (len := t) h isN28 (by omega) hw9 hK hbE lt6 n1.2.1 (fun k hk => (n1.2.2.2.1 k hk).1) (fun k hk => (w1.1 k hk).1)
          rw [if_neg (by decide), n1.1, e1, bd_r]
          exact st W1 _ (fun j hj => (f1 j (by omega)).trans (c1 j hj)) (d1.tr dk.air) (n1.keep (fun i hi => f1 (28 + i) (by omega))) (fun _ => l1)
    exact key n 0 F V D s (by omega) (by omega) ck.rf dk.rf hS hs
theorem ma_run {x : Int32} {B : Nat} {K : SkyT} {s : Nat → Nat} {F M : Nat} {S : Mem} {V : Vw} {U : Uw} (h : shM S M) (hF : 10000 < F) (hw9 : wfK K) (hK : mSky V 0 K) (hS : mS V s) (hs : wfS K B s) (hB : B < 2 ^ 29) : ∃ V' U', fn_X9_run F M x (wM S M V U) = some (sp_run K s x, wM S M V' U') ∧ mk V V' ∧ mS V' (if spR x = true then itN (passN K 0) x.toNatClampNeg s else s) := by
  have hn6 := hw9.1.1
  unfold fn_X9_run sp_run
  rw [cm_sI h, q_within, bd_r]
  have S1 : mS (u2 V 0 0 0) s := hS.thrown
  have K1 : mSky (u2 V 0 0 0) 0 K := hK.thrown
  have m1 : mk V (u2 V 0 0 0) := mk.thrown
  generalize u2 V 0 0 0 = W at S1 K1 m1 ⊢
  unfold spR
  cases hx : inr x 1 1000 with
  | false => exact ⟨W, U, rfl, m1, S1⟩
  | true =>
    obtain ⟨n, hn1, hn, rfl⟩ := inr_nI (a := 1) (b := 1000) (by decide) (by decide) hx
    show ∃ V' U', (if (1 : Int32) = 0 then _ else _) = _ ∧ _
    rw [if_neg (by decide), if_pos rfl, if_pos rfl, nI_clamp (by omega)]
    have key : ∀ (d i f : Nat) (W : Vw) (t : Nat → Nat), i + d = n → d < f → mk V W → mSky W 0 K → mS W t → wfS K (B + i) t →
        ∃ V' U', fix3 (b_X9_run_20 F) f M (nI n) (nI i) (wM S M W U) = some (nI (itN (passN K 0) d t 19), wM S M V' U') ∧ mk V V' ∧ mS V' (itN (passN K 0) d t) := by
      intro d
      induction d with
      | zero =>
        intro i f W t hi hf c1 k1 n1 w1
        obtain ⟨f, rfl⟩ : ∃ f', f = f' + 1 := ⟨f - 1, by omega⟩
        obtain rfl : i = n := by omega
        refine ⟨W, U, ?_, c1, n1⟩
        show b_X9_run_20 F (fix3 (b_X9_run_20 F) f) M (nI i) (nI i) (wM S M W U) = _
        unfold b_X9_run_20
        rw [if_pos (Int32.le_refl _)]
        simp (disch := first | assumption | exact inB_n (by omega) (by decide) | exact inB_l (by omega) (by decide) | exact inB_al (by omega) (by decide) | exact inB_la (by omega) (by decide) | exact inB_j (by assumption) (by omega) (by decide) | exact inB_e (by assumption) (by decide) | omega) only [↓eM h, ↓bd_r, ↓lt_r, ↓Option.bind_some, ↓reduceIte, ix_nI, ix_l, nI_al, nI_la, nI_lm, u2_ne, u2_eq, nI_leI, nI_ltI, nI_eq, le_ln, le_nl, lt_ln, lt_nl, eq_nl, eq_ln, n1 19 (by omega)]
        rfl
      | succ d ih =>
        intro i f W t hi hf c1 k1 n1 w1
        obtain ⟨f, rfl⟩ : ∃ f', f = f' + 1 := ⟨f - 1, by omega⟩
        have ih := fun W => ih (i + 1) f W (passN K 0 t) (by omega) (by omega)
        show ∃ V' U', b_X9_run_20 F (fix3 (b_X9_run_20 F) f) M (nI n) (nI i) (wM S M W U) = _ ∧ _
        generalize fix3 (b_X9_run_20 F) f = k4 at ih ⊢
        obtain ⟨W1, e1, p1, s1⟩ := q_passes (F := F) (V0 := W) (U := U) (g := 0) h (by omega) hw9 k1 n1 w1 (by omega)
        unfold b_X9_run_20
        rw [if_neg (show ¬ nI n ≤ nI i from nI_ge (by omega) (by omega)), cm_cal h, e1, bd_r, nI_1]
        exact ih W1 (c1.tr p1.mk) (p1.sky k1) s1 (wf_pass w1 hw9)
    exact key n 0 F W s (by omega) (by omega) m1 K1 S1 hs
