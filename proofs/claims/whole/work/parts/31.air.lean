/-! a sky of the class -/
def shK (S : Mem) (C b : Nat) : Prop := mK S b = 5 ∧ (∀ i, i < 5 → mR S b (1 + i) = some (b + (1 + i)) ∧ mK S (b + (1 + i)) = 10 ∧ mN S (b + (1 + i)) = 6) ∧ ∀ i, i ≤ 5 → ¬ inR C (b + i)
theorem eK {S : Mem} {C b : Nat} (h : shK S C b) : (∀ {α : Type} (V : Vw) (U : Uw) (D : Dw) (k : Nat) (K : Int32 → Option α), (gI (wC S C V U D) 5 k b).bind K = K (mI S b k)) ∧ (∀ {α β : Type} (V : Vw) (U : Uw) (D : Dw) (X : Option (β × Mem)) (K : β → Mem → Option α), bd (cal (wC S C V U D) 5 b X) K = bd X K)
 ∧ (∀ {α : Type} (V : Vw) (U : Uw) (D : Dw) (K : Nat → Option α), (gR (wC S C V U D) 5 1 b).bind K = K (b + 1)) ∧ (∀ {α : Type} (V : Vw) (U : Uw) (D : Dw) (x : Int32) (K : Int32 → Option α), inB x 6 → (gA (wC S C V U D) 10 (b + 1) x).bind K = K (mI S (b + 1) x.toNatClampNeg))
 ∧ (∀ {α : Type} (V : Vw) (U : Uw) (D : Dw) (K : Nat → Option α), (gR (wC S C V U D) 5 2 b).bind K = K (b + 2)) ∧ (∀ {α : Type} (V : Vw) (U : Uw) (D : Dw) (x : Int32) (K : Int32 → Option α), inB x 6 → (gA (wC S C V U D) 10 (b + 2) x).bind K = K (mI S (b + 2) x.toNatClampNeg))
 ∧ (∀ {α : Type} (V : Vw) (U : Uw) (D : Dw) (K : Nat → Option α), (gR (wC S C V U D) 5 3 b).bind K = K (b + 3)) ∧ (∀ {α : Type} (V : Vw) (U : Uw) (D : Dw) (x : Int32) (K : Int32 → Option α), inB x 6 → (gA (wC S C V U D) 10 (b + 3) x).bind K = K (mI S (b + 3) x.toNatClampNeg))
 ∧ (∀ {α : Type} (V : Vw) (U : Uw) (D : Dw) (K : Nat → Option α), (gR (wC S C V U D) 5 4 b).bind K = K (b + 4)) ∧ (∀ {α : Type} (V : Vw) (U : Uw) (D : Dw) (x : Int32) (K : Int32 → Option α), inB x 6 → (gA (wC S C V U D) 10 (b + 4) x).bind K = K (mI S (b + 4) x.toNatClampNeg))
 ∧ (∀ {α : Type} (V : Vw) (U : Uw) (D : Dw) (K : Nat → Option α), (gR (wC S C V U D) 5 5 b).bind K = K (b + 5)) ∧ (∀ {α : Type} (V : Vw) (U : Uw) (D : Dw) (x : Int32) (K : Int32 → Option α), inB x 6 → (gA (wC S C V U D) 10 (b + 5) x).bind K = K (mI S (b + 5) x.toNatClampNeg))
 := by
  have hR : ∀ (V : Vw) (U : Uw) (D : Dw) (k : Nat), mR (wC S C V U D) b k = mR S b k := fun V U D k => wC_mRn (fun q => h.2.2 0 (by omega) q.1)
  have hI : ∀ (V : Vw) (U : Uw) (D : Dw) (i : Nat), i ≤ 5 → mI (wC S C V U D) (b + i) = mI S (b + i) := fun V U D i hi => wC_out (h.2.2 i hi)
  refine ⟨fun V U D k K => ?_, fun V U D X K => cal_r (S := wC S C V U D) h.1, ?_⟩
  · rw [gI_k (S := wC S C V U D) h.1]
    exact congrArg K (congrFun (hI V U D 0 (by omega)) k)
  refine ⟨
    fun V U D K => gR_k (S := wC S C V U D) h.1 ((hR V U D _).trans (h.2.1 0 (by omega)).1), fun V U D x K hx => by rw [gA_k (S := wC S C V U D) (h.2.1 0 (by omega)).2.1 (h.2.1 0 (by omega)).2.2 hx, hI V U D _ (by omega)],
    fun V U D K => gR_k (S := wC S C V U D) h.1 ((hR V U D _).trans (h.2.1 1 (by omega)).1), fun V U D x K hx => by rw [gA_k (S := wC S C V U D) (h.2.1 1 (by omega)).2.1 (h.2.1 1 (by omega)).2.2 hx, hI V U D _ (by omega)],
    fun V U D K => gR_k (S := wC S C V U D) h.1 ((hR V U D _).trans (h.2.1 2 (by omega)).1), fun V U D x K hx => by rw [gA_k (S := wC S C V U D) (h.2.1 2 (by omega)).2.1 (h.2.1 2 (by omega)).2.2 hx, hI V U D _ (by omega)],
    fun V U D K => gR_k (S := wC S C V U D) h.1 ((hR V U D _).trans (h.2.1 3 (by omega)).1), fun V U D x K hx => by rw [gA_k (S := wC S C V U D) (h.2.1 3 (by omega)).2.1 (h.2.1 3 (by omega)).2.2 hx, hI V U D _ (by omega)],
    fun V U D K => gR_k (S := wC S C V U D) h.1 ((hR V U D _).trans (h.2.1 4 (by omega)).1), fun V U D x K hx => by rw [gA_k (S := wC S C V U D) (h.2.1 4 (by omega)).2.1 (h.2.1 4 (by omega)).2.2 hx, hI V U D _ (by omega)]⟩
/-! a law reckoned by the class -/
def joinedF (op a b : Int32) : Int32 := if op = 18 then (if a = 0 then 0 else if b = 0 then 0 else 1) else if op = 19 then (if a = 0 then (if b = 0 then 0 else 1) else 1) else if op = 29 then (if b ≤ a then 0 else 1) else if op = 30 then (if a = b then 1 else 0) else if op = 31 then a + b else if op = 32 then a - b else a * b
theorem p_joined {F : Nat} {S : Mem} {op a b : Int32} : fn_X3_joined F op a b S = some (joinedF op a b, S) := by
  unfold fn_X3_joined joinedF f_X3_joined_88 f_X3_joined_89 f_X3_joined_98 f_X3_joined_103 f_X3_joined_114 f_X3_joined_125
  by_cases h1 : op = 18
  · simp only [if_pos h1]
    by_cases h2 : a = 0 <;> by_cases h3 : b = 0 <;> simp only [h2, h3, if_true, if_false, ↓reduceIte]
  · by_cases h2 : op = 19
    · simp only [if_neg h1, if_pos h2]
      by_cases h2 : a = 0 <;> by_cases h3 : b = 0 <;> simp only [h2, h3, if_true, if_false, ↓reduceIte]
    · by_cases h3 : op = 29
      · simp only [if_neg h1, if_neg h2, if_pos h3]
        by_cases h4 : b ≤ a <;> simp only [h4, if_true, if_false, ↓reduceIte]
      · by_cases h4 : op = 30
        · simp only [if_neg h1, if_neg h2, if_neg h3, if_pos h4]
          by_cases h5 : a = b <;> simp only [h5, if_true, if_false, ↓reduceIte]
        · by_cases h5 : op = 31
          · simp only [if_neg h1, if_neg h2, if_neg h3, if_neg h4, if_pos h5]
          · by_cases h6 : op = 32
            · simp only [if_neg h1, if_neg h2, if_neg h3, if_neg h4, if_neg h5, if_pos h6]
            · simp only [if_neg h1, if_neg h2, if_neg h3, if_neg h4, if_neg h5, if_neg h6, ite_self]
def rkStep (facts : Nat → Int32) (c : Int32) (t : Nat) (V : Vw) : Option (Nat × Vw) :=
  if c = 10017 then (if 1 ≤ t then some (t, u2 V 17 (t - 1) (if V 17 (t - 1) = 0 then 1 else 0)) else none)
  else if c < 10000 then (if t < 32 then (if c < 0 then (if inB (-1 - c) 25 then some (t + 1, u2 V 17 t (facts (-1 - c).toNatClampNeg)) else none) else some (t + 1, u2 V 17 t c)) else none)
  else if 2 ≤ t ∧ t ≤ 32 then some (t - 1, u2 V 17 (t - 2) (joinedF (c - 10000) (V 17 (t - 2)) (V 17 (t - 1)))) else none
def rkRun (cd facts : Nat → Int32) : Nat → Nat → Nat → Vw → Option (Nat × Vw)
  | 0, _, t, V => some (t, V)
  | n + 1, i, t, V => (rkStep facts (cd i) t V).bind fun q => rkRun cd facts n (i + 1) q.1 q.2
theorem rkStep_fr {facts : Nat → Int32} {c : Int32} {t t' : Nat} {V V' : Vw} (ht : t ≤ 32) (hs : rkStep facts c t V = some (t', V')) : t' ≤ 32 ∧ ∀ j, j ≠ 17 → V' j = V j := by
  unfold rkStep at hs
  split at hs
  · split at hs
    · cases hs; exact ⟨ht, fun j hj => u2_row hj⟩
    · cases hs
  · split at hs
    · split at hs
      · split at hs
        · split at hs
          · cases hs; exact ⟨by omega, fun j hj => u2_row hj⟩
          · cases hs
        · cases hs; exact ⟨by omega, fun j hj => u2_row hj⟩
      · cases hs
    · split at hs
      · cases hs; exact ⟨by omega, fun j hj => u2_row hj⟩
      · cases hs
theorem p_rkStep {w n i t t' : Nat} {V' : Vw} {k4 : Nat → Nat → Int32 → Int32 → Mem → Option (Int32 × Mem)} {F C : Nat} {S : Mem} {V : Vw} {U : Uw} {D : Dw} (h : shC S C) (hk : mK S w = 10) (hn : mN S w = n) (ho : ¬ inR C w) (hn1 : n ≤ 1000) (hi : i < n) (ht : t ≤ 32) (hs : rkStep (V 16) (mI S w i) t V = some (t', V')) :
    b_X3_reckon_4 F k4 (C + 15) w (nI t) (nI i) (wC S C V U D) = k4 (C + 15) w (nI t') (nI (i + 1)) (wC S C V' U D) := by
  unfold b_X3_reckon_4
  rw [gLen_k (S := wC S C V U D) hk (by decide) (by decide) hn, if_neg (nI_ge hi (by omega)), gA_k (S := wC S C V U D) hk hn (inB_n hi (by omega)), nI_clamp (by omega), wC_out ho]
  generalize mI S w i = c at hs ⊢
  unfold f_X3_reckon_51 f_X3_reckon_134 f_X3_reckon_138
  unfold rkStep at hs
  have e1 : nI i + (1 : Int32) = nI (i + 1) := nI_1 i
  have e2 : nI t + (1 : Int32) = nI (t + 1) := nI_1 t
  by_cases h1 : c = 10017
  · rw [if_pos h1] at hs ⊢
    by_cases h2 : 1 ≤ t
    · rw [if_pos h2] at hs
      cases hs
      have e3 : nI t - (1 : Int32) = nI (t - 1) := pk_sub (b := 1) h2
      rw [if_neg (show ¬ nI t < 1 from nI_nlt (b := 1) h2 (by omega)), e3, e1]
      simp (disch := first | assumption | exact inB_n (by omega) (by decide) | exact inB_l (by omega) (by decide) | exact inB_al (by omega) (by decide) | exact inB_la (by omega) (by decide) | exact inB_j (by assumption) (by omega) (by decide) | exact inB_e (by assumption) (by decide) | omega) only [↓eC h, ↓bd_r, ↓lt_r, ↓Option.bind_some, ↓reduceIte, ix_nI, ix_l, nI_al, nI_la, nI_lm, u2_ne, u2_eq, nI_leI, nI_ltI, nI_eq, le_ln, le_nl, lt_ln, lt_nl, eq_nl, eq_ln]
      by_cases h3 : V 17 (t - 1) = 0
      · simp only [if_pos h3]
      · simp only [if_neg h3]
    · rw [if_neg h2] at hs; cases hs
  rw [if_neg h1] at hs ⊢
  by_cases h2 : c < 10000
  · rw [if_pos h2] at hs ⊢
    by_cases h3 : t < 32
    · rw [if_pos h3] at hs
      rw [if_neg (show ¬ (32 : Int32) ≤ nI t from nI_ge (b := 32) h3 (by decide)), e1, e2]
      by_cases h4 : c < 0
      · rw [if_pos h4] at hs
        by_cases h5 : inB (-1 - c) 25
        · rw [if_pos h5] at hs
          cases hs
          have e5 : fn_X3_fact F (C + 15) (-1 - c) (wC S C V U D) = some (V 16 (-1 - c).toNatClampNeg, wC S C V U D) := by
            unfold fn_X3_fact f_X3_fact_19
            obtain ⟨j, hj, e⟩ := inB_j2 h5
            rw [e]
            simp (disch := first | assumption | exact inB_n (by omega) (by decide) | exact inB_l (by omega) (by decide) | exact inB_al (by omega) (by decide) | exact inB_la (by omega) (by decide) | exact inB_j (by assumption) (by omega) (by decide) | exact inB_e (by assumption) (by decide) | omega) only [↓eC h, ↓bd_r, ↓lt_r, ↓Option.bind_some, ↓reduceIte, ix_nI, ix_l, nI_al, nI_la, nI_lm, u2_ne, u2_eq, nI_leI, nI_ltI, nI_eq, le_ln, le_nl, lt_ln, lt_nl, eq_nl, eq_ln, if_neg (show ¬ 25 ≤ j by omega)]
          simp (disch := first | assumption | exact inB_n (by omega) (by decide) | exact inB_l (by omega) (by decide) | exact inB_al (by omega) (by decide) | exact inB_la (by omega) (by decide) | exact inB_j (by assumption) (by omega) (by decide) | exact inB_e (by assumption) (by decide) | omega) only [↓eC h, ↓bd_r, ↓lt_r, ↓Option.bind_some, ↓reduceIte, ix_nI, ix_l, nI_al, nI_la, nI_lm, u2_ne, u2_eq, nI_leI, nI_ltI, nI_eq, le_ln, le_nl, lt_ln, lt_nl, eq_nl, eq_ln, if_pos h4, e5]
        · rw [if_neg h5] at hs; cases hs
      · rw [if_neg h4] at hs
        cases hs
        simp (disch := first | assumption | exact inB_n (by omega) (by decide) | exact inB_l (by omega) (by decide) | exact inB_al (by omega) (by decide) | exact inB_la (by omega) (by decide) | exact inB_j (by assumption) (by omega) (by decide) | exact inB_e (by assumption) (by decide) | omega) only [↓eC h, ↓bd_r, ↓lt_r, ↓Option.bind_some, ↓reduceIte, ix_nI, ix_l, nI_al, nI_la, nI_lm, u2_ne, u2_eq, nI_leI, nI_ltI, nI_eq, le_ln, le_nl, lt_ln, lt_nl, eq_nl, eq_ln, if_neg h4]
    · rw [if_neg h3] at hs; cases hs
  · rw [if_neg h2] at hs ⊢
    by_cases h3 : 2 ≤ t ∧ t ≤ 32
    · rw [if_pos h3] at hs
      cases hs
      have e3 : nI t + (-1 : Int32) = nI (t - 1) := by
        obtain ⟨t0, rfl⟩ : ∃ t0, t = t0 + 1 := ⟨t - 1, by omega⟩
        exact pk_m1 t0
      have e4 : nI (t - 1) - (1 : Int32) = nI (t - 2) := pk_sub (b := 1) (by omega)
      rw [if_neg (show ¬ nI t < 2 from nI_nlt (b := 2) h3.1 (by omega)), e3, e4, e1]
      simp (disch := first | assumption | exact inB_n (by omega) (by decide) | exact inB_l (by omega) (by decide) | exact inB_al (by omega) (by decide) | exact inB_la (by omega) (by decide) | exact inB_j (by assumption) (by omega) (by decide) | exact inB_e (by assumption) (by decide) | omega) only [↓eC h, ↓bd_r, ↓lt_r, ↓Option.bind_some, ↓reduceIte, ix_nI, ix_l, nI_al, nI_la, nI_lm, u2_ne, u2_eq, nI_leI, nI_ltI, nI_eq, le_ln, le_nl, lt_ln, lt_nl, eq_nl, eq_ln, p_joined]
    · rw [if_neg h3] at hs; cases hs
/-- the codes of a law stand for a function of its facts, by the class -/
def lawC (cd : Nat → Int32) (n : Nat) (f : (Nat → Int32) → Int32) : Prop := ∀ (facts : Nat → Int32) (V : Vw), ∃ t V', rkRun cd facts n 0 0 V = some (t, V') ∧ 1 ≤ t ∧ V' 17 (t - 1) = f facts
theorem p_reckonL {w n : Nat} {F C : Nat} {S : Mem} {U : Uw} {D : Dw} (h : shC S C) (hk : mK S w = 10) (hn : mN S w = n) (ho : ¬ inR C w) (hn1 : n ≤ 1000) (facts : Nat → Int32) : ∀ (m i t f : Nat) (V : Vw) (t' : Nat) (V' : Vw), t ≤ 32 → i + m = n → m < f → V 16 = facts → rkRun (mI S w) facts m i t V = some (t', V') → 1 ≤ t' →
    fix4 (b_X3_reckon_4 F) f (C + 15) w (nI t) (nI i) (wC S C V U D) = some (V' 17 (t' - 1), wC S C V' U D) ∧ ∀ j, j ≠ 17 → V' j = V j := by
  intro m
  induction m with
  | zero =>
    intro i t f V t' V' ht hi hf hv hr ht1
    obtain ⟨f, rfl⟩ : ∃ f', f = f' + 1 := ⟨f - 1, by omega⟩
    obtain rfl : i = n := by omega
    cases hr
    refine ⟨?_, fun _ _ => rfl⟩
    show b_X3_reckon_4 F (fix4 (b_X3_reckon_4 F) f) (C + 15) w (nI t) (nI i) (wC S C V U D) = _
    unfold b_X3_reckon_4 f_X3_reckon_161
    have e3 : nI t - (1 : Int32) = nI (t - 1) := pk_sub (b := 1) ht1
    rw [gLen_k (S := wC S C V U D) hk (by decide) (by decide) hn, if_pos (Int32.le_refl _), if_neg (show ¬ nI t < 1 from nI_nlt (b := 1) ht1 (by omega)), e3]
    simp (disch := first | assumption | exact inB_n (by omega) (by decide) | exact inB_l (by omega) (by decide) | exact inB_al (by omega) (by decide) | exact inB_la (by omega) (by decide) | exact inB_j (by assumption) (by omega) (by decide) | exact inB_e (by assumption) (by decide) | omega) only [↓eC h, ↓bd_r, ↓lt_r, ↓Option.bind_some, ↓reduceIte, ix_nI, ix_l, nI_al, nI_la, nI_lm, u2_ne, u2_eq, nI_leI, nI_ltI, nI_eq, le_ln, le_nl, lt_ln, lt_nl, eq_nl, eq_ln]
  | succ m ih =>
    intro i t f V t' V' ht hi hf hv hr ht1
    obtain ⟨f, rfl⟩ : ∃ f', f = f' + 1 := ⟨f - 1, by omega⟩
    unfold rkRun at hr
    cases hs : rkStep facts (mI S w i) t V with
    | none => rw [hs] at hr; cases hr
    | some q =>
      obtain ⟨t1, V1⟩ := q
      rw [hs] at hr
      have hr : rkRun (mI S w) facts m (i + 1) t1 V1 = some (t', V') := hr
      have fr := rkStep_fr ht hs
      subst hv
      have q := ih (i + 1) t1 f V1 t' V' fr.1 (by omega) (by omega) (fr.2 16 (by omega)) hr ht1
      refine ⟨?_, fun j hj => (q.2 j hj).trans (fr.2 j hj)⟩
      show b_X3_reckon_4 F (fix4 (b_X3_reckon_4 F) f) (C + 15) w (nI t) (nI i) (wC S C V U D) = _
      rw [p_rkStep h hk hn ho hn1 (by omega) ht hs]
      exact q.1
theorem p_reckon {w n : Nat} {f : (Nat → Int32) → Int32} {F C : Nat} {S : Mem} {V : Vw} {U : Uw} {D : Dw} (h : shC S C) (hF : 1001 < F) (hk : mK S w = 10) (hn : mN S w = n) (ho : ¬ inR C w) (hn1 : n ≤ 1000) (hf : lawC (mI S w) n f) :
    ∃ V', fn_X3_reckon F (C + 15) w (wC S C V U D) = some (f (V 16), wC S C V' U D) ∧ ∀ j, j ≠ 17 → V' j = V j := by
  obtain ⟨t, V', hr, h1, hv⟩ := hf (V 16) V
  have q := p_reckonL (F := F) (U := U) (D := D) h hk hn ho hn1 (V 16) n 0 0 F V t V' (by omega) (by omega) (by omega) rfl hr h1
  rw [hv] at q
  exact ⟨V', q.1, q.2⟩
/-- the class holds a law at w -/
def cLaw (S : Mem) (C w : Nat) (f : Option ((Nat → Int32) → Int32)) : Prop := match f with
  | none => (9 ≤ mK S w ∧ mK S w < 15) ∧ mN S w = 0
  | some f => mK S w = 10 ∧ 0 < mN S w ∧ mN S w ≤ 1000 ∧ ¬ inR C w ∧ lawC (mI S w) (mN S w) f
def wlC (K : SkyT) : Option ((Nat → Int32) → Int32) := (wl K).map fun f v => f (v 20) (v 21) (v 22)
def rlC (K : SkyT) : Option ((Nat → Int32) → Int32) := (rl K).map fun f v => f (v 10) (v 23) (v 20) (v 24) (v 0) (v 21)
/-- the class holds a sky at b -/
def cSky (S : Mem) (C b : Nat) (K : SkyT) : Prop := shK S C b ∧ (mI S b 0 = nI (kN K) ∧ mI S b 6 = nI (kW K) ∧ mI S b 7 = nI (kH K) ∧ mI S b 8 = nI (kT K) ∧ mI S b 9 = nI (kG K)) ∧
  (∀ k, k < kN K → mI S (b + 1) k = nI (kd K k) ∧ mI S (b + 2) k = nI (wi K k) ∧ mI S (b + 3) k = nI (li K k) ∧ mI S (b + 4) k = nI (le_ K k)) ∧ (∃ w, mR S b 10 = some w ∧ cLaw S C w (wlC K)) ∧ ∃ w, mR S b 11 = some w ∧ cLaw S C w (rlC K)
theorem p_clamped {F : Nat} {S : Mem} {x a b : Int32} : fn_X8_clamped F x a b S = some (clI x a b, S) := by
  unfold fn_X8_clamped f_X8_clamped_19 clI
  by_cases h1 : a ≤ x
  · by_cases h2 : x ≤ b
    · simp only [if_pos h1, if_pos h2]
    · simp only [if_pos h1, if_neg h2]
  · simp only [if_neg h1]
theorem gRl {α : Type} {S : Mem} {C b w k : Nat} {V : Vw} {U : Uw} {D : Dw} {K : Nat → Option α} (h : shK S C b) (hw : mR S b k = some w) : (gR (wC S C V U D) 5 k b).bind K = K w := gR_k (S := wC S C V U D) h.1 ((wC_mRn (fun q => h.2.2 0 (by omega) q.1)).trans hw)
theorem c_hasWind {b : Nat} {K : SkyT} {F C : Nat} {S : Mem} {V : Vw} {U : Uw} {D : Dw} (hK : cSky S C b K) : fn_X5_hasWind F b (wC S C V U D) = some (b1 (wl K).isSome, wC S C V U D) := by
  obtain ⟨w, hw, hl⟩ := hK.2.2.2.1
  unfold fn_X5_hasWind f_X5_hasWind_13
  rw [gRl hK.1 hw]
  unfold wlC at hl
  cases hr : wl K with
  | none =>
    rw [hr] at hl
    rw [gLen_k (S := wC S C V U D) (a := w) rfl hl.1.1 hl.1.2 hl.2]
    rfl
  | some f =>
    rw [hr] at hl
    rw [gLen_k (S := wC S C V U D) (a := w) (N := mN S w) hl.1 (by decide) (by decide) rfl, if_neg (nI_nle hl.2.1 (by have := hl.2.2.1; show mN S w < _; omega))]
    rfl
theorem c_hasRule {b : Nat} {K : SkyT} {F C : Nat} {S : Mem} {V : Vw} {U : Uw} {D : Dw} (hK : cSky S C b K) : fn_X5_hasRule F b (wC S C V U D) = some (b1 (rl K).isSome, wC S C V U D) := by
  obtain ⟨w, hw, hl⟩ := hK.2.2.2.2
  unfold fn_X5_hasRule f_X5_hasRule_13
  rw [gRl hK.1 hw]
  unfold rlC at hl
  cases hr : rl K with
  | none =>
    rw [hr] at hl
    rw [gLen_k (S := wC S C V U D) (a := w) rfl hl.1.1 hl.1.2 hl.2]
    rfl
  | some f =>
    rw [hr] at hl
    rw [gLen_k (S := wC S C V U D) (a := w) (N := mN S w) hl.1 (by decide) (by decide) rfl, if_neg (nI_nle hl.2.1 (by have := hl.2.2.1; show mN S w < _; omega))]
    rfl
theorem c_windAt {b hh m : Nat} {g : Int32} {K : SkyT} {F C : Nat} {S : Mem} {V : Vw} {U : Uw} {D : Dw} (h : shC S C) (hF : 1001 < F) (hK : cSky S C b K) :
    ∃ V', fn_X0_windAt F (C + 14) b (nI hh) (nI m) g (wC S C V U D) = some (nI (windN K hh m g), wC S C V' U D) ∧ ∀ j, j ≠ 16 → j ≠ 17 → V' j = V j := by
  unfold fn_X0_windAt
  rw [(eK hK.1).2.1, c_hasWind hK, bd_r]
  cases hr : wl K with
  | none =>
    refine ⟨V, ?_, fun _ _ _ => rfl⟩
    unfold windN
    rw [hr]
    rfl
  | some f =>
    show ∃ V', (if (1 : Int32) = 0 then _ else _) = _ ∧ _
    rw [if_neg (by decide)]
    obtain ⟨w, hw, hl⟩ := hK.2.2.2.1
    unfold wlC at hl
    rw [hr] at hl
    generalize hW : u2 (u2 (u2 V 16 20 (nI hh)) 16 21 (nI m)) 16 22 g = W
    have w1 : W 16 20 = nI hh := by rw [← hW]; simp (disch := omega) only [u2_ne, u2_eq]
    have w2 : W 16 21 = nI m := by rw [← hW]; simp (disch := omega) only [u2_ne, u2_eq]
    have w3 : W 16 22 = g := by rw [← hW]; simp (disch := omega) only [u2_ne, u2_eq]
    have wf : ∀ j, j ≠ 16 → W j = V j := fun j hj => by rw [← hW]; simp (disch := omega) only [u2_row]
    obtain ⟨V1, e1, f1⟩ := p_reckon (F := F) (V := W) (U := U) (D := D) h hF hl.1 rfl hl.2.2.2.1 hl.2.2.1 hl.2.2.2.2
    refine ⟨V1, ?_, fun j h16 h17 => (f1 j h17).trans (wf j h16)⟩
    simp (disch := first | assumption | exact inB_n (by omega) (by decide) | exact inB_l (by omega) (by decide) | exact inB_al (by omega) (by decide) | exact inB_la (by omega) (by decide) | exact inB_j (by assumption) (by omega) (by decide) | exact inB_e (by assumption) (by decide) | omega) only [↓eC h, ↓bd_r, ↓lt_r, ↓Option.bind_some, ↓reduceIte, ix_nI, ix_l, nI_al, nI_la, nI_lm, u2_ne, u2_eq, nI_leI, nI_ltI, nI_eq, le_ln, le_nl, lt_ln, lt_nl, eq_nl, eq_ln, gRl hK.1 hw, hW, e1, p_clamped, w1, w2, w3, (windN_ok K hh m g).2 f hr]
theorem c_pullOf {b k ln w : Nat} {K : SkyT} {F C : Nat} {S : Mem} {V : Vw} {U : Uw} {D : Dw} (hw9 : wfK K) (hK : cSky S C b K) (hk : k < kN K) (hln : ln ≤ 40) (hw : w ≤ 99) :
    fn_X5_pullOf F b (nI k) (nI ln) (nI w) (wC S C V U D) = some (if 0 < ln ∧ needN K k ≤ w then nI (pullN (kd K k) (li K k) w) else -1, wC S C V U D) := by
  have hk6 := hw9.1.1
  have hb := hw9.2 k hk
  have hkk := hK.2.2.1 k hk
  have e2 : nI (le_ K k) / 2 = nI (le_ K k / 2) := pk_div (by omega) (d := 2) (by decide) (by decide)
  have key : ∀ y : Nat, y ≤ 99 → f_X5_pullOf_31 F b (nI k) (nI ln) (nI w) (nI (kd K k)) (nI y) (wC S C V U D) = some (if 0 < ln ∧ y ≤ w then nI (pullN (kd K k) (li K k) w) else -1, wC S C V U D) := by
    intro y hy
    unfold f_X5_pullOf_31 f_X5_pullOf_43 f_X5_pullOf_75 f_X5_pullOf_94
    have hm : li K k * w ≤ 20 * 99 := Nat.mul_le_mul hb.2.2.2.1 hw
    have e1 : nI (li K k) * nI w / 10 = nI (li K k * w / 10) := by
      rw [pk_mul]; exact pk_div (by omega) (d := 10) (by decide) (by decide)
    simp (disch := first | assumption | exact inB_n (by omega) (by decide) | exact inB_l (by omega) (by decide) | exact inB_al (by omega) (by decide) | exact inB_la (by omega) (by decide) | exact inB_j (by assumption) (by omega) (by decide) | exact inB_e (by assumption) (by decide) | omega) only [↓eK hK.1, ↓bd_r, ↓lt_r, ix_nI, ix_l, nI_al, nI_la, nI_lm, u2_ne, u2_eq, nI_leI, nI_ltI, nI_eq, le_ln, le_nl, lt_ln, lt_nl, eq_nl, eq_ln, hkk.2.2.1, e1]
    unfold pullN
    generalize hx : li K k * w / 10 = x
    have hx2 : x ≤ 198 := by omega
    have e3 : mxI 0 (nI x - 3) = nI (x - 3) := by
      unfold mxI
      by_cases h3 : 3 < x
      · have : nI x - 3 = nI (x - 3) := pk_sub (b := 3) (by omega)
        rw [this, if_pos (show (0 : Int32) < nI (x - 3) from nI_lt (a := 0) (by omega) (by omega))]
      · have : x - 3 = 0 := by omega
        rw [this]
        by_cases h4 : x = 3
        · subst h4; rfl
        · have hn : nI x - 3 < 0 := pk_sneg (b := 3) (by decide) (by omega)
          rw [if_neg (fun q => absurd (Int32.lt_trans q hn) Int32.lt_irrefl)]
          rfl
    by_cases h0 : ln ≤ 0
    · rw [if_pos h0, if_neg (by omega)]
    · by_cases h9 : y ≤ w
      · rw [if_neg h0, if_pos h9, if_pos (show 0 < ln ∧ y ≤ w by omega)]
        by_cases h1 : kd K k = 1 <;> by_cases h2 : w < 40 <;> by_cases h3 : kd K k = 3 <;> simp [h1, h2, h3, e3, Nat.not_le.mpr, Nat.not_lt.mp] <;> omega
      · rw [if_neg h0, if_neg h9, if_neg (by omega)]
  unfold fn_X5_pullOf needN
  simp (disch := first | assumption | exact inB_n (by omega) (by decide) | exact inB_l (by omega) (by decide) | exact inB_al (by omega) (by decide) | exact inB_la (by omega) (by decide) | exact inB_j (by assumption) (by omega) (by decide) | exact inB_e (by assumption) (by decide) | omega) only [↓eK hK.1, ↓bd_r, ↓lt_r, ix_nI, ix_l, nI_al, nI_la, nI_lm, u2_ne, u2_eq, nI_leI, nI_ltI, nI_eq, le_ln, le_nl, lt_ln, lt_nl, eq_nl, eq_ln, hkk.1, hkk.2.2.2, e2]
  by_cases h2 : kd K k = 2
  · rw [if_pos h2, if_pos h2, key _ (by omega)]
  · rw [if_neg h2, if_neg h2, key _ (by omega)]
