/-! down -/
def dnR (K : SkyT) : Nat → (Nat → Nat) → Nat
  | 0, _ => 0
  | d + 1, s => if upN K s (kN K) = 0 then 0 else 1 + dnR K d (downN K s)
def sp_down (K : SkyT) (s : Nat → Nat) : Int32 := nI (dnR K 200 s)
def wtN (K : SkyT) (s : Nat → Nat) (k : Nat) : Nat := if restsN K s k = true then (if kd K k = 5 ∧ ¬ s 19 % 2 = 1 then 2 else 1) else 0
theorem dn_18 {K : SkyT} {s : Nat → Nat} : downN K s 18 = s 18 := by
  unfold downN chgN
  rw [if_neg (by decide), chgI_i (by decide)]
theorem dn_19 {K : SkyT} {s : Nat → Nat} : downN K s 19 = s 19 + 1 := by
  unfold downN chgN
  rw [if_pos rfl]
theorem dn_k {K : SkyT} {s : Nat → Nat} {k : Nat} (hn : kN K ≤ 6) (hk : k < kN K) (hl : lo (s 18) k = false) : downN K s k = dwnX K s k ∧ downN K s (12 + k) = if dwnX K s k = s k then 0 else s (12 + k) + 1 := by
  unfold downN chgN chgI
  refine ⟨?_, ?_⟩
  · rw [if_neg (by omega), if_pos (by omega), if_pos ⟨hk, hl⟩]
  · rw [if_neg (by omega), if_neg (by omega), if_neg (by omega), if_pos (by omega), show 12 + k - 12 = k by omega, if_pos ⟨hk, hl⟩]
theorem dn_phi {K : SkyT} {s : Nat → Nat} {k : Nat} (hw : wfK K) (hk : k < kN K) (hl : lo (s 18) k = false) (h0 : 0 < s k) : 3 * downN K s k + wtN K (downN K s) k + 1 ≤ 3 * s k + wtN K s k := by
  obtain ⟨e1, e2⟩ := dn_k hw.1.1 hk hl
  have hH := hw.1.2.2.1
  have hT := hw.1.2.2.2.2.1
  have w2 : wtN K (downN K s) k ≤ 2 := by unfold wtN; split <;> (try split) <;> omega
  by_cases hr : restsN K s k = true
  · have ex : dwnX K s k = s k := by unfold dwnX; rw [if_pos hr]
    rw [ex, if_pos rfl] at e2
    rw [ex] at e1
    rw [e1]
    have hr2 : restsN K (downN K s) k = (decide (kd K k = 5) && decide ((s 19 + 1) % 2 = 1)) := by
      unfold restsN
      rw [e2, dn_19, decide_eq_false (by omega), Bool.false_or]
    unfold wtN
    rw [hr2, dn_19, hr, if_pos rfl]
    by_cases h5 : kd K k = 5 <;> by_cases ho : s 19 % 2 = 1
    · have : ¬ (s 19 + 1) % 2 = 1 := by omega
      simp [h5, ho, this]
    · have : (s 19 + 1) % 2 = 1 := by omega
      simp [h5, ho, this]
    · simp [h5]
    · simp [h5]
  · have ex : dwnX K s k = s k - kH K := by unfold dwnX; rw [if_neg hr]
    rw [e1, ex]
    unfold wtN at w2 ⊢
    omega
theorem dn_zero {K : SkyT} {s : Nat → Nat} {k : Nat} (hw : wfK K) (hk : k < kN K) (hl : lo (s 18) k = false) (h0 : s k = 0) : downN K s k = 0 := by
  rw [(dn_k hw.1.1 hk hl).1]
  unfold dwnX
  split <;> omega
theorem dn_it {K : SkyT} {k : Nat} (hw : wfK K) (hk : k < kN K) : ∀ (m : Nat) (s : Nat → Nat), lo (s 18) k = false → (itN (downN K) m s k = 0 ∨ 3 * itN (downN K) m s k + wtN K (itN (downN K) m s) k + m ≤ 3 * s k + wtN K s k) ∧ itN (downN K) m s 18 = s 18
  | 0, s, _ => ⟨Or.inr (by show 3 * s k + wtN K s k + 0 ≤ _; omega), rfl⟩
  | m + 1, s, hl => by
    have hl2 : lo (downN K s 18) k = false := by rw [dn_18]; exact hl
    obtain ⟨h1, h2⟩ := dn_it hw hk m (downN K s) hl2
    refine ⟨?_, h2.trans dn_18⟩
    show itN (downN K) m (downN K s) k = 0 ∨ 3 * itN (downN K) m (downN K s) k + wtN K (itN (downN K) m (downN K s)) k + (m + 1) ≤ _
    by_cases h0 : s k = 0
    · left
      have z : ∀ (m : Nat) (t : Nat → Nat), lo (t 18) k = false → t k = 0 → itN (downN K) m t k = 0 := by
        intro m
        induction m with
        | zero => exact fun t _ h => h
        | succ m ih => exact fun t a b => ih (downN K t) (by rw [dn_18]; exact a) (dn_zero hw hk a b)
      exact z m (downN K s) hl2 (dn_zero hw hk hl h0)
    · have := dn_phi hw hk hl (show 0 < s k by omega)
      rcases h1 with h1 | h1
      · exact Or.inl h1
      · right; omega
theorem dn_end {K : SkyT} {B : Nat} {s : Nat → Nat} (hw : wfK K) (hs : wfS K B s) : upN K (itN (downN K) 200 s) (kN K) = 0 := by
  refine upN_0.mpr (fun k hk hl => ?_)
  by_cases h9 : lo (s 18) k = false
  · have h4 := (hs.1 k hk).1
    have w2 : wtN K s k ≤ 2 := by unfold wtN; split <;> (try split) <;> omega
    rcases (dn_it hw hk 200 s h9).1 with h | h
    · exact h
    · omega
  · exfalso
    have e18 : ∀ (m : Nat) (t : Nat → Nat), itN (downN K) m t 18 = t 18 := by
      intro m
      induction m with
      | zero => exact fun t => rfl
      | succ m ih => exact fun t => (ih (downN K t)).trans dn_18
    rw [e18] at hl
    exact h9 hl
theorem dnR_le {K : SkyT} : ∀ (d : Nat) (s : Nat → Nat), dnR K d s ≤ d
  | 0, _ => Nat.le_refl 0
  | d + 1, s => by
    have := dnR_le (K := K) d (downN K s)
    unfold dnR
    split <;> omega
theorem ca_down {B b : Nat} {K : SkyT} {s : Nat → Nat} {F C : Nat} {S : Mem} {V : Vw} {U : Uw} {D : Dw} (h : shC S C) (hF : 10000 < F) (hw9 : wfK K) (hK : cSky S C b K) (hb : D 28 0 = b) (hS : cNt V 28 K s) (hs : wfS K B s) (hB : B < 2 ^ 29) : ∃ V' D', fn_X8_down F C (wC S C V U D) = some (sp_down K s, wC S C V' U D') ∧ ck V V' ∧ dk D D' ∧ cNt V' 28 K s := by
  have hn6 := hw9.1.1
  obtain ⟨V1, e1, f1, n1⟩ := c_take (F := F) (U := U) (D := D) (s := s) h isN35 isN28 (by decide) hw9 hS hs.2.2.2.1
  rw [hb] at e1
  have b1 : (u2 D 35 0 b) 35 0 = b := u2_eq ⟨rfl, rfl⟩
  have d1 : dk D (u2 D 35 0 b) := dk.ahead
  generalize u2 D 35 0 b = E at e1 b1 d1
  have key : ∀ (d i f : Nat) (W : Vw) (t : Nat → Nat), i + d = 200 → d < f → (∀ j, j < 14 ∨ (27 < j ∧ j < 35) ∨ 41 < j → W j = V j) → cNt W 35 K t → wfS K (B + i) t →
      ∃ V', fix2 (b_X8_down_13 F) f C (nI i) (wC S C W U E) = some (nI (i + dnR K d t), wC S C V' U E) ∧ (∀ j, j < 14 ∨ (27 < j ∧ j < 35) ∨ 41 < j → V' j = V j) := by
    intro d
    induction d with
    | zero =>
      intro i f W t hi hf c1 n1 w1
      obtain ⟨f, rfl⟩ : ∃ f', f = f' + 1 := ⟨f - 1, by omega⟩
      obtain rfl : i = 200 := by omega
      exact ⟨W, rfl, c1⟩
    | succ d ih =>
      intro i f W t hi hf c1 n1 w1
      obtain ⟨f, rfl⟩ : ∃ f', f = f' + 1 := ⟨f - 1, by omega⟩
      have ih := fun W => ih (i + 1) f W (downN K t) (by omega) (by omega)
      show ∃ V', b_X8_down_13 F (fix2 (b_X8_down_13 F) f) C (nI i) (wC S C W U E) = _ ∧ _
      generalize fix2 (b_X8_down_13 F) f = k4 at ih ⊢
      have p1 := c_isAllDown (F := F) (U := U) (D := E) h isN35 (by omega) hw9 hK b1 n1 w1
      obtain ⟨W1, e2, f2, n2⟩ := c_haulDown (F := F) (U := U) (D := E) h isN35 (by omega) hw9 hK b1 n1 w1 (by omega)
      unfold b_X8_down_13 f_X8_down_43
      rw [if_neg (show ¬ (200 : Int32) ≤ nI i from nI_ge (b := 200) (by omega) (by decide))]
      simp only [↓eC h, ↓eN h isN35, ↓bd_r, p1, e2, nI_1]
      unfold dnR
      by_cases h0 : upN K t (kN K) = 0
      · rw [if_pos h0, decide_eq_true h0]
        exact ⟨W, rfl, c1⟩
      · rw [if_neg h0, decide_eq_false h0]
        show ∃ V', (if (0 : Int32) = 0 then _ else _) = _ ∧ _
        rw [if_pos rfl, show i + (1 + dnR K d (downN K t)) = i + 1 + dnR K d (downN K t) by omega]
        exact ih W1 (fun j hj => (f2 j (by omega)).trans (c1 j hj)) n2 (wf_down w1 hw9)
  obtain ⟨V2, e2, c2⟩ := key 200 0 F V1 s (by omega) (by omega) (fun j hj => f1 j (by omega)) n1 hs
  rw [Nat.zero_add] at e2
  refine ⟨V2, E, ?_, fun j hj => c2 j (by omega), d1, hS.keep (fun i hi => c2 (28 + i) (by omega))⟩
  unfold fn_X8_down sp_down
  simp only [↓eC h, ↓eN h isN35, ↓bd_r, e1]
  exact e2
theorem ma_down {B : Nat} {K : SkyT} {s : Nat → Nat} {F M : Nat} {S : Mem} {V : Vw} {U : Uw} (h : shM S M) (hF : 10000 < F) (hw9 : wfK K) (hK : mSky V 0 K) (hS : mS V s) (hs : wfS K B s) (hB : B < 2 ^ 29) : ∃ V' U', fn_X9_down F M (wM S M V U) = some (sp_down K s, wM S M V' U') ∧ mk V V' ∧ mS V' s := by
  have hn6 := hw9.1.1
  unfold fn_X9_down sp_down
  rw [cm_sI h]
  have S1 : mS (u2 V 0 0 0) s := hS.thrown
  have K1 : mSky (u2 V 0 0 0) 0 K := hK.thrown
  have m1 : mk V (u2 V 0 0 0) := mk.thrown
  generalize u2 V 0 0 0 = X at S1 K1 m1 ⊢
  rw [cm_s h, cm_aside h]
  obtain ⟨Y, eY, fY, cY, -⟩ := q_copies_a (F := F) (V0 := X) (U := U) (oa := 0) (ob := 0) h (by omega) (by omega) (by omega)
  have eY : fn_X9_copies F (M + 24) 0 (M + 25) 0 (wM S M X U) = some ((), wM S M Y U) := eY
  rw [eY, bd_r]
  have aY : ∀ j, j < 64 → Y 25 j = nI (s j) := fun j hj => by
    have := cY j hj
    rw [Nat.zero_add] at this
    rw [this]; exact S1 j hj
  have SY : mS Y s := fun j hj => by rw [fY 24 (by omega)]; exact S1 j hj
  have KY : mSky Y 0 K := K1.keep (fun j hj => fY j (by omega))
  have mY : mk V Y := m1.tr ⟨fun j a b => fY j (by omega), by rw [fY 0 (by omega)]⟩
  -- the next lengths, then the lines hauled
  have nxt : ∀ (k20 : Nat → Int32 → Mem → Option (Int32 × Mem)) (x1 : Int32) (t : Nat → Nat) (B' : Nat), wfS K B' t → B' < 2 ^ 30 → ∀ (d i f : Nat) (W : Vw), i + d = kN K → d < f → mSky W 0 K → mS W t → (∀ k, k < i → W 29 k = nI (dwnX K t k)) →
      ∃ W', fix3 (b_X9_down_70 F k20) f M x1 (nI i) (wM S M W U) = k20 M (x1 + 1) (wM S M W' U) ∧ (∀ j, j ≠ 24 → j ≠ 29 → W' j = W j) ∧ mS W' (downN K t) := by
    intro k20 x1 t B' w1 hB' d
    induction d with
    | zero =>
      intro i f W hi hf k1 n1 hP
      obtain ⟨f, rfl⟩ : ∃ f', f = f' + 1 := ⟨f - 1, by omega⟩
      obtain rfl : i = kN K := by omega
      obtain ⟨W1, e1, f1, s1⟩ := q_changes (F := F) (V0 := W) (U := U) (s := t) (nx := dwnX K t) h (by omega) hw9 k1 n1 w1 hB' (fun k hk _ => ⟨hP k hk, by
        have := (w1.1 k hk).1
        unfold dwnX
        split <;> omega⟩)
      refine ⟨W1, ?_, fun j a b => f1 j a, s1⟩
      show b_X9_down_70 F k20 (fix3 (b_X9_down_70 F k20) f) M x1 (nI (kN K)) (wM S M W U) = _
      generalize fix3 (b_X9_down_70 F k20) f = k4
      unfold b_X9_down_70
      rw [cm_sky h, ca_sky h (inB_l (by omega) (by decide)), show W 2 (4 : Int32).toNatClampNeg = nI (kN K) from k1.1.2.2.2.2, if_pos (Int32.le_refl _), cm_cal h, e1, bd_r]
    | succ d ih =>
      intro i f W hi hf k1 n1 hP
      obtain ⟨f, rfl⟩ : ∃ f', f = f' + 1 := ⟨f - 1, by omega⟩
      have ih := fun W => ih (i + 1) f W (by omega) (by omega)
      show ∃ W', b_X9_down_70 F k20 (fix3 (b_X9_down_70 F k20) f) M x1 (nI i) (wM S M W U) = _ ∧ _
      generalize fix3 (b_X9_down_70 F k20) f = k4 at ih ⊢
      have p1 := q_rests (F := F) (V := W) (U := U) h hw9 k1 n1 w1 hB' (show i < kN K by omega)
      have hH : W 2 1 = nI (kH K) := k1.1.2.1
      have hH5 := hw9.1.2.2.2.1
      have h4 := (w1.1 i (by omega)).1
      have st : ∃ W', k4 M x1 (nI (i + 1)) (wM S M (u2 W 29 i (nI (dwnX K t i))) U) = k20 M (x1 + 1) (wM S M W' U) ∧ (∀ j, j ≠ 24 → j ≠ 29 → W' j = W j) ∧ mS W' (downN K t) := by
        obtain ⟨W', e, f', s'⟩ := ih (u2 W 29 i (nI (dwnX K t i))) (k1.keep (fun j hj => u2_row (by omega))) (fun j hj => by rw [u2_row (by omega)]; exact n1 j hj) (fun k hk => by
          by_cases hki : k = i
          · subst hki; rw [u2_eq ⟨rfl, rfl⟩]
          · rw [u2_ne (Or.inr hki)]; exact hP k (by omega))
        exact ⟨W', e, fun j a b => (f' j a b).trans (u2_row b), s'⟩
      unfold dwnX at st
      unfold b_X9_down_70 f_X9_down_119
      rw [cm_sky h, ca_sky h (inB_l (by omega) (by decide)), show W 2 (4 : Int32).toNatClampNeg = nI (kN K) from k1.1.2.2.2.2, if_neg (show ¬ nI (kN K) ≤ nI i from nI_ge (by omega) (by omega)), cm_next h, cm_cal h, p1, bd_r]
      cases hr : restsN K t i with
      | true =>
        rw [hr, if_pos rfl] at st
        show ∃ W', (if (1 : Int32) = 0 then _ else _) = _ ∧ _
        rw [if_neg (by decide)]
        simp (disch := first | assumption | exact inB_n (by omega) (by decide) | exact inB_l (by omega) (by decide) | exact inB_al (by omega) (by decide) | exact inB_la (by omega) (by decide) | exact inB_j (by assumption) (by omega) (by decide) | exact inB_e (by assumption) (by decide) | omega) only [↓eM h, ↓bd_r, ↓lt_r, ↓Option.bind_some, ↓reduceIte, ix_nI, ix_l, nI_al, nI_la, nI_lm, u2_ne, u2_eq, nI_leI, nI_ltI, nI_eq, le_ln, le_nl, lt_ln, lt_nl, eq_nl, eq_ln, n1 i (by omega)]
        exact st
      | false =>
        rw [hr, if_neg (show ¬ false = true by decide)] at st
        show ∃ W', (if (0 : Int32) = 0 then _ else _) = _ ∧ _
        rw [if_pos rfl]
        simp (disch := first | assumption | exact inB_n (by omega) (by decide) | exact inB_l (by omega) (by decide) | exact inB_al (by omega) (by decide) | exact inB_la (by omega) (by decide) | exact inB_j (by assumption) (by omega) (by decide) | exact inB_e (by assumption) (by decide) | omega) only [↓eM h, ↓bd_r, ↓lt_r, ↓Option.bind_some, ↓reduceIte, ix_nI, ix_l, nI_al, nI_la, nI_lm, u2_ne, u2_eq, nI_leI, nI_ltI, nI_eq, le_ln, le_nl, lt_ln, lt_nl, eq_nl, eq_ln, n1 i (by omega), hH, mx_sub (show t i < 2 ^ 30 by omega) (show kH K < 2 ^ 30 by omega)]
        exact st
  -- how long the lines are
  have sum : ∀ (k20 : Nat → Int32 → Mem → Option (Int32 × Mem)) (x1 : Int32) (t : Nat → Nat) (B' : Nat), wfS K B' t → ∀ (d i f : Nat) (W : Vw), i + d = kN K → d < f → mSky W 0 K → mS W t →
      fix4 (b_X9_down_24 F k20) f M x1 (nI (upN K t i)) (nI i) (wM S M W U) = b_X9_down_24 F k20 (fun _ _ _ _ _ => none) M x1 (nI (upN K t (kN K))) (nI (kN K)) (wM S M W U) := by
    intro k20 x1 t B' w1 d
    induction d with
    | zero =>
      intro i f W hi hf k1 n1
      obtain ⟨f, rfl⟩ : ∃ f', f = f' + 1 := ⟨f - 1, by omega⟩
      obtain rfl : i = kN K := by omega
      show b_X9_down_24 F k20 (fix4 (b_X9_down_24 F k20) f) M x1 _ (nI (kN K)) (wM S M W U) = _
      generalize fix4 (b_X9_down_24 F k20) f = k4
      unfold b_X9_down_24
      rw [cm_sky h, ca_sky h (inB_l (by omega) (by decide)), show W 2 (4 : Int32).toNatClampNeg = nI (kN K) from k1.1.2.2.2.2, if_pos (Int32.le_refl _), cm_sky h, ca_sky h (inB_l (by omega) (by decide)), show W 2 (4 : Int32).toNatClampNeg = nI (kN K) from k1.1.2.2.2.2, if_pos (Int32.le_refl _)]
    | succ d ih =>
      intro i f W hi hf k1 n1
      obtain ⟨f, rfl⟩ : ∃ f', f = f' + 1 := ⟨f - 1, by omega⟩
      have ih := ih (i + 1) f W (by omega) (by omega) k1 n1
      rw [← ih]
      show b_X9_down_24 F k20 (fix4 (b_X9_down_24 F k20) f) M x1 _ (nI i) (wM S M W U) = _
      generalize fix4 (b_X9_down_24 F k20) f = k4
      have lt6 := w1.lost hw9
      have p1 := q_isLost (F := F) (V := W) (U := U) (k := i) h (by omega) (n1 18 (by omega)) (by omega)
      have e : upN K t (i + 1) = upN K t i + if lo (t 18) i = true then 0 else t i := rfl
      rw [e]
      unfold b_X9_down_24 f_X9_down_53
      rw [cm_sky h, ca_sky h (inB_l (by omega) (by decide)), show W 2 (4 : Int32).toNatClampNeg = nI (kN K) from k1.1.2.2.2.2, if_neg (show ¬ nI (kN K) ≤ nI i from nI_ge (by omega) (by omega)), cm_cal h, p1, bd_r]
      cases hl : lo (t 18) i with
      | true =>
        show (if (1 : Int32) = 0 then _ else _) = _
        rw [if_neg (by decide), lt_r, nI_1]
        show k4 M x1 (nI (upN K t i) + nI 0) _ _ = k4 M x1 (nI (upN K t i + 0)) _ _
        rw [nI_add]
      | false =>
        show (if (0 : Int32) = 0 then _ else _) = _
        rw [if_pos rfl]
        simp (disch := first | assumption | exact inB_n (by omega) (by decide) | exact inB_l (by omega) (by decide) | exact inB_al (by omega) (by decide) | exact inB_la (by omega) (by decide) | exact inB_j (by assumption) (by omega) (by decide) | exact inB_e (by assumption) (by decide) | omega) only [↓eM h, ↓bd_r, ↓lt_r, ↓Option.bind_some, ↓reduceIte, ix_nI, ix_l, nI_al, nI_la, nI_lm, u2_ne, u2_eq, nI_leI, nI_ltI, nI_eq, le_ln, le_nl, lt_ln, lt_nl, eq_nl, eq_ln, n1 i (by omega), nI_add]
        rfl
  have key : ∀ (d i f : Nat) (W : Vw) (t : Nat → Nat), upN K (itN (downN K) d t) (kN K) = 0 → d < f → d + i ≤ 200 → mk V W → mSky W 0 K → mS W t → (∀ j, j < 64 → W 25 j = nI (s j)) → wfS K (B + i) t →
      ∃ V' U', fix2 (b_X9_down_20 F) f M (nI i) (wM S M W U) = some (nI (i + dnR K d t), wM S M V' U') ∧ mk V V' ∧ mS V' s := by
    have exit : ∀ (i : Nat) (k20 : Nat → Int32 → Mem → Option (Int32 × Mem)) (W : Vw) (t : Nat → Nat), upN K t (kN K) = 0 → mk V W → mSky W 0 K → mS W t → (∀ j, j < 64 → W 25 j = nI (s j)) → wfS K (B + i) t → ∃ V' U', b_X9_down_20 F k20 M (nI i) (wM S M W U) = some (nI i, wM S M V' U') ∧ mk V V' ∧ mS V' s := by
      intro i k20 W t h0 c1 k1 n1 a1 w1
      obtain ⟨Z, eZ, fZ, cZ, -⟩ := q_copies_b (F := F) (V0 := W) (U := U) (oa := 0) (ob := 0) h (by omega) (by omega) (by omega)
      have eZ : fn_X9_copies F (M + 25) 0 (M + 24) 0 (wM S M W U) = some ((), wM S M Z U) := eZ
      refine ⟨Z, U, ?_, c1.tr ⟨fun j a b => fZ j (by omega), by rw [fZ 0 (by omega)]⟩, back_s cZ a1⟩
      have q := sum k20 (nI i) t _ w1 (kN K) 0 F W (by omega) (by omega) k1 n1
      unfold b_X9_down_20
      refine Eq.trans q ?_
      rw [h0]
      unfold b_X9_down_24
      rw [cm_sky h, ca_sky h (inB_l (by omega) (by decide)), show W 2 (4 : Int32).toNatClampNeg = nI (kN K) from k1.1.2.2.2.2, if_pos (Int32.le_refl _), if_pos (show nI 0 = 0 from rfl), cm_aside h, cm_s h, eZ, bd_r]
    intro d
    induction d with
    | zero =>
      intro i f W t h0 hf hi c1 k1 n1 a1 w1
      obtain ⟨f, rfl⟩ : ∃ f', f = f' + 1 := ⟨f - 1, by omega⟩
      exact exit i (fix2 (b_X9_down_20 F) f) W t h0 c1 k1 n1 a1 w1
    | succ d ih =>
      intro i f W t h0 hf hi c1 k1 n1 a1 w1
      obtain ⟨f, rfl⟩ : ∃ f', f = f' + 1 := ⟨f - 1, by omega⟩
      unfold dnR
      by_cases hz : upN K t (kN K) = 0
      · rw [if_pos hz]
        exact exit i (fix2 (b_X9_down_20 F) f) W t hz c1 k1 n1 a1 w1
      · rw [if_neg hz]
        have ih := fun W => ih (i + 1) f W (downN K t) h0 (by omega) (by omega)
        show ∃ V' U', b_X9_down_20 F (fix2 (b_X9_down_20 F) f) M (nI i) (wM S M W U) = _ ∧ _
        generalize fix2 (b_X9_down_20 F) f = k20 at ih ⊢
        obtain ⟨W1, e1, f1, s1⟩ := nxt k20 (nI i) t (B + i) w1 (by omega) (kN K) 0 F W (by omega) (by omega) k1 n1 (fun k hk => by omega)
        have q := sum k20 (nI i) t _ w1 (kN K) 0 F W (by omega) (by omega) k1 n1
        have hub : upN K t (kN K) ≤ kN K * 40 := sumTo_le (fun k hk => by
          split
          · omega
          · exact (w1.1 k hk).1)
        have hd : b_X9_down_20 F k20 M (nI i) (wM S M W U) = k20 M (nI (i + 1)) (wM S M W1 U) := by
          unfold b_X9_down_20
          refine Eq.trans q ?_
          unfold b_X9_down_24
          rw [cm_sky h, ca_sky h (inB_l (by omega) (by decide)), show W 2 (4 : Int32).toNatClampNeg = nI (kN K) from k1.1.2.2.2.2, if_pos (Int32.le_refl _), if_neg (nI_ne0 (by omega) (by omega))]
          exact e1.trans (by rw [nI_1])
        rw [hd, show i + (1 + dnR K d (downN K t)) = i + 1 + dnR K d (downN K t) by omega]
        exact ih W1 (c1.tr ⟨fun j a b => f1 j (by omega) (by omega), by rw [f1 0 (by omega) (by omega)]⟩) (k1.keep (fun j hj => f1 j (by omega) (by omega))) s1 (fun j hj => by rw [f1 25 (by omega) (by omega)]; exact a1 j hj) (wf_down w1 hw9)
  have q := key 200 0 F Y s (dn_end hw9 hs) (by omega) (by omega) mY KY SY aY hs
  rw [Nat.zero_add] at q
  exact q
