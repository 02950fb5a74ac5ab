/-! the model: a minute -/
def mS (V : Vw) (s : Nat → Nat) : Prop := ∀ j, j < 64 → V 24 j = nI (s j)
/-- a night's row is as it should be: lengths, whistles, hauled, lost, minute, notes -/
def wfS (K : SkyT) (B : Nat) (s : Nat → Nat) : Prop := (∀ k, k < kN K → s k ≤ 40 ∧ s (6 + k) ≤ 41 ∧ s (12 + k) ≤ 20) ∧ s 18 < 2 ^ kN K ∧ s 19 ≤ B ∧ s 20 ≤ 10 ∧ ∀ i, i < s 20 → s (21 + 3 * i) ≤ 9999 ∧ s (21 + 3 * i + 1) ≤ 999 ∧ s (21 + 3 * i + 2) ≤ 40
theorem wfS.lost {K : SkyT} {B : Nat} {s : Nat → Nat} (hw : wfK K) (h : wfS K B s) : s 18 < 64 := by
  have h1 : 2 ^ kN K ≤ 2 ^ 6 := Nat.pow_le_pow_right (by decide) hw.1.1
  have h2 := h.2.1
  omega
def wR (K : SkyT) (m : Nat) (g : Int32) : Nat → Nat := fun i => windN K i m g
theorem wR_le (K : SkyT) (m : Nat) (g : Int32) (i : Nat) : wR K m g i ≤ 99 := (windN_ok K i m g).1
theorem q_looks {m l : Nat} {g : Int32} {K : SkyT} {len : Nat → Nat} {F M : Nat} {S : Mem} {V : Vw} {U : Uw} (h : shM S M) (hF : 6007 < F) (hw9 : wfK K) (hK : mSky V 0 K) (hl : V 24 18 = nI l) (hl2 : l < 2 ^ 31) (hs : ∀ k, k < kN K → V 24 k = nI (len k)) (hs4 : ∀ k, k < kN K → len k ≤ 40) :
    ∃ V', fn_X9_looks F M (nI m) g (wM S M V U) = some ((), wM S M V' U) ∧ (∀ j, j ≠ 0 → j < 14 ∨ (23 < j ∧ j ≠ 27 ∧ j ≠ 28) → V' j = V j) ∧ (∀ j, j ≠ 41 → j ≠ 42 → j ≠ 43 → V' 0 j = V 0 j) ∧ (∀ i, i < 41 → V' 27 i = nI (wR K m g i)) ∧ (∀ k, k < kN K → V' 28 k = nI (plN K l (wR K m g) len k)) ∧ V' 0 41 = nI (rawN K l (wR K m g) len) ∧ V' 0 42 = nI (highN K l (wR K m g) len) ∧ V' 0 43 = nI (placeN K l (wR K m g) len) := by
  obtain ⟨V1, e1, f1, w1⟩ := q_blows (F := F) (V0 := V) (U := U) (m := m) (g := g) h hF hK
  obtain ⟨V2, e2, f2, f0, p2, r1, r2, r3⟩ := q_hangs (F := F) (V0 := V1) (U := U) (l := l) (w := wR K m g) (len := len) h (by omega) hw9 (hK.keep (fun j hj => f1 j (by omega))) (by rw [f1 24 (by omega)]; exact hl) hl2 (by rw [f1 24 (by omega)]; exact hs) hs4 w1 (wR_le K m g)
  refine ⟨V2, ?_, fun j h0 hj => (f2 j h0 (by omega)).trans (f1 j (by omega)), fun j a b c => (f0 j a b c).trans (congrFun (f1 0 (by omega)) j), fun i hi => by rw [f2 27 (by omega) (by omega)]; exact w1 i hi, p2, r1, r2, r3⟩
  unfold fn_X9_looks
  simp (disch := first | assumption | exact inB_n (by omega) (by decide) | exact inB_l (by omega) (by decide) | exact inB_al (by omega) (by decide) | exact inB_la (by omega) (by decide) | exact inB_j (by assumption) (by omega) (by decide) | exact inB_e (by assumption) (by decide) | omega) only [↓eM h, ↓bd_r, ↓lt_r, ↓Option.bind_some, ↓reduceIte, ix_nI, ix_l, nI_al, nI_la, nI_lm, u2_ne, u2_eq, nI_leI, nI_ltI, nI_eq, le_ln, le_nl, lt_ln, lt_nl, eq_nl, eq_ln, e1, e2]
def restsN (K : SkyT) (s : Nat → Nat) (k : Nat) : Bool := decide (kT K ≤ s (12 + k)) || (decide (kd K k = 5) && decide (s 19 % 2 = 1))
theorem q_rests {k B : Nat} {K : SkyT} {s : Nat → Nat} {F M : Nat} {S : Mem} {V : Vw} {U : Uw} (h : shM S M) (hw9 : wfK K) (hK : mSky V 0 K) (hS : mS V s) (hs : wfS K B s) (hB : B < 2 ^ 30) (hk : k < kN K) : fn_X9_rests F M (nI k) (wM S M V U) = some (b1 (restsN K s k), wM S M V U) := by
  have hk6 := hw9.1.1
  have hb := hw9.2 k hk
  have hkk := (hK.2.1 k hk).1
  have hT : V 2 2 = nI (kT K) := hK.1.2.2.1
  have hq := hs.1 k hk
  have hm := hs.2.2.1
  have hT2 := hw9.1.2.2.2.2.2.1
  rw [Nat.mul_zero, Nat.zero_add] at hkk
  have e1 : nI (s 19) - nI (s 19) / 2 * 2 = nI (s 19 % 2) := pk_rem (d := 2) (by omega) (by decide) (by decide)
  unfold fn_X9_rests f_X9_rests_41 f_X9_rests_45 f_X9_rests_46 restsN
  simp (disch := first | assumption | exact inB_n (by omega) (by decide) | exact inB_l (by omega) (by decide) | exact inB_al (by omega) (by decide) | exact inB_la (by omega) (by decide) | exact inB_j (by assumption) (by omega) (by decide) | exact inB_e (by assumption) (by decide) | omega) only [↓eM h, ↓bd_r, ↓lt_r, ↓Option.bind_some, ↓reduceIte, ix_nI, ix_l, nI_al, nI_la, nI_lm, u2_ne, u2_eq, nI_leI, nI_ltI, nI_eq, le_ln, le_nl, lt_ln, lt_nl, eq_nl, eq_ln, hS (12 + k) (by omega), hT, hkk, hS 19 (by omega), e1, rz_1, rz_0]
  by_cases h1 : kT K ≤ s (12 + k) <;> by_cases h2 : kd K k = 5 <;> by_cases h3 : s 19 % 2 = 1 <;> simp [h1, h2, h3, b1]
/-- what the boy hauls, before the line's ends -/
def outN (K : SkyT) (g : Int32) (s : Nat → Nat) (k : Nat) : Int32 := if s (6 + k) = 0 then (match rl K with
  | none => 0
  | some f => clI (f (nI (s k)) (nI (plN K (s 18) (wR K (s 19) g) s k)) (nI (highN K (s 18) (wR K (s 19) g) s)) (nI (placeN K (s 18) (wR K (s 19) g) s) - nI (wi K k)) (nI (wR K (s 19) g (s k))) (nI (s 19))) (-(nI (kH K))) (nI (kH K)))
  else clI (nI (s (6 + k)) - 1 - nI (s k)) (-(nI (kH K))) (nI (kH K))
def mLook (K : SkyT) (g : Int32) (s : Nat → Nat) (V : Vw) : Prop := (∀ i, i < 41 → V 27 i = nI (wR K (s 19) g i)) ∧ (∀ k, k < kN K → V 28 k = nI (plN K (s 18) (wR K (s 19) g) s k)) ∧ V 0 41 = nI (rawN K (s 18) (wR K (s 19) g) s) ∧ V 0 42 = nI (highN K (s 18) (wR K (s 19) g) s) ∧ V 0 43 = nI (placeN K (s 18) (wR K (s 19) g) s)
theorem q_hauls {k B : Nat} {g : Int32} {K : SkyT} {s : Nat → Nat} {F M : Nat} {S : Mem} {V : Vw} {U : Uw} (h : shM S M) (hF : 6007 < F) (hw9 : wfK K) (hK : mSky V 0 K) (hS : mS V s) (hs : wfS K B s) (hL : mLook K g s V) (hk : k < kN K) :
    ∃ V', fn_X9_hauls F M (nI k) (wM S M V U) = some (outN K g s k, wM S M V' U) ∧ ∀ j, j < 14 ∨ 23 < j → V' j = V j := by
  have hk6 := hw9.1.1
  have hkk := (hK.2.1 k hk).2.1
  have hH : V 2 1 = nI (kH K) := hK.1.2.1
  have hq := hs.1 k hk
  rw [Nat.mul_zero, Nat.zero_add] at hkk
  obtain ⟨a, b, ha, hb, h0, hab, hb6, hm⟩ := hK.2.2.2
  have hb : V 10 1 = nI b := hb
  have ha : V 9 1 = nI a := ha
  unfold fn_X9_hauls outN
  rw [cm_sky h, ca_sky h (inB_l (by omega) (by decide)), cm_s h, ca_s h (inB_al (by omega) (by decide)), nI_al, nI_clamp (by omega), hS (6 + k) (by omega)]
  by_cases hc : s (6 + k) = 0
  · rw [hc, if_pos (by decide), if_pos rfl]
    rw [cm_lineTo h, ca_lineTo h (inB_l (by omega) (by decide)), cm_lineFrom h, ca_lineFrom h (inB_l (by omega) (by decide))]
    show ∃ V', (if V 10 1 = V 9 1 then _ else _) = _ ∧ _
    rw [ha, hb]
    by_cases he : b = a
    · rw [if_pos (by rw [he])]
      unfold rlF at hm
      cases hr : rl K with
      | none => exact ⟨V, rfl, fun _ _ => rfl⟩
      | some f =>
        rw [hr] at hm
        exact absurd hm.1 (by omega)
    · rw [if_neg (fun q => he ((nI_eq (by omega) (by omega)).mp q))]
      unfold rlF at hm
      cases hr : rl K with
      | none =>
        rw [hr] at hm
        exact absurd hm.symm he
      | some f =>
        rw [hr] at hm
        generalize hW : u2 (u2 (u2 (u2 (u2 (u2 V 23 1 (nI (s k))) 23 2 (nI (plN K (s 18) (wR K (s 19) g) s k))) 23 3 (nI (highN K (s 18) (wR K (s 19) g) s))) 23 4 (nI (placeN K (s 18) (wR K (s 19) g) s) - nI (wi K k))) 23 5 (nI (wR K (s 19) g (s k)))) 23 6 (nI (s 19)) = W
        have w1 : W 23 1 = nI (s k) := by rw [← hW]; simp (disch := omega) only [u2_ne, u2_eq]
        have w2 : W 23 2 = nI (plN K (s 18) (wR K (s 19) g) s k) := by rw [← hW]; simp (disch := omega) only [u2_ne, u2_eq]
        have w3 : W 23 3 = nI (highN K (s 18) (wR K (s 19) g) s) := by rw [← hW]; simp (disch := omega) only [u2_ne, u2_eq]
        have w4 : W 23 4 = nI (placeN K (s 18) (wR K (s 19) g) s) - nI (wi K k) := by rw [← hW]; simp (disch := omega) only [u2_ne, u2_eq]
        have w5 : W 23 5 = nI (wR K (s 19) g (s k)) := by rw [← hW]; simp (disch := omega) only [u2_ne, u2_eq]
        have w6 : W 23 6 = nI (s 19) := by rw [← hW]; simp (disch := omega) only [u2_ne, u2_eq]
        have wf : ∀ j, j ≠ 23 → W j = V j := fun j hj => by rw [← hW]; simp (disch := omega) only [u2_row]
        have hm2 : lawM (W 11) a b (fun v => f (v 1) (v 2) (v 3) (v 4) (v 5) (v 6)) := by rw [wf 11 (by omega)]; exact hm.2
        obtain ⟨V1, e1, f1⟩ := p_worked (F := F) (line := 1) (U := U) h hF (by decide) (by rw [wf 9 (by omega)]; exact ha) (by rw [wf 10 (by omega)]; exact hb) (by omega) hm2
        have e1 : fn_X9_worked F M (1 : Int32) (wM S M W U) = _ := e1
        have hq1 := hq.1
        have i1 : inB (nI (s k)) 41 := inB_n (by omega) (by decide)
        have eH : V 2 (1 : Int32).toNatClampNeg = nI (kH K) := hH
        simp (disch := first | assumption | exact inB_n (by omega) (by decide) | exact inB_l (by omega) (by decide) | exact inB_al (by omega) (by decide) | exact inB_la (by omega) (by decide) | exact inB_j (by assumption) (by omega) (by decide) | exact inB_e (by assumption) (by decide) | omega) only [↓eM h, ↓bd_r, ↓lt_r, ↓Option.bind_some, ↓reduceIte, ix_nI, ix_l, nI_al, nI_la, nI_lm, u2_ne, u2_eq, nI_leI, nI_ltI, nI_eq, le_ln, le_nl, lt_ln, lt_nl, eq_nl, eq_ln, hS k (by omega), hL.2.1 k hk, hL.2.2.2.1, hL.2.2.2.2, hkk, hL.1 (s k) (by omega), hS 19 (by omega), hW, e1, p_between, w1, w2, w3, w4, w5, w6, hH]
        exact ⟨V1, rfl, fun j hj => (f1 j (by omega)).trans (wf j (by omega))⟩
  · rw [if_neg (nI_nle (by omega) (by omega)), if_neg hc]
    refine ⟨V, ?_, fun _ _ => rfl⟩
    simp (disch := first | assumption | exact inB_n (by omega) (by decide) | exact inB_l (by omega) (by decide) | exact inB_al (by omega) (by decide) | exact inB_la (by omega) (by decide) | exact inB_j (by assumption) (by omega) (by decide) | exact inB_e (by assumption) (by decide) | omega) only [↓eM h, ↓bd_r, ↓lt_r, ↓Option.bind_some, ↓reduceIte, ix_nI, ix_l, nI_al, nI_la, nI_lm, u2_ne, u2_eq, nI_leI, nI_ltI, nI_eq, le_ln, le_nl, lt_ln, lt_nl, eq_nl, eq_ln, hS k (by omega), hS (6 + k) (by omega), p_between, hH]
def nxtN (K : SkyT) (g : Int32) (s : Nat → Nat) (k : Nat) : Nat := if lo (s 18) k = true then s k else if restsN K s k = true then s k else (clI (nI (s k) + outN K g s k) 0 40).toNatClampNeg
/-- the lines hauled: those of the kites before i -/
def chgI (i l : Nat) (s nx : Nat → Nat) (j : Nat) : Nat :=
  if j < 6 then (if j < i ∧ lo l j = false then nx j else s j)
  else if j < 12 then (if j - 6 < i ∧ lo l (j - 6) = false ∧ s j = nx (j - 6) + 1 then 0 else s j)
  else if j < 18 then (if j - 12 < i ∧ lo l (j - 12) = false then (if nx (j - 12) = s (j - 12) then 0 else s j + 1) else s j)
  else s j
def chgN (K : SkyT) (s nx : Nat → Nat) (j : Nat) : Nat := if j = 19 then s 19 + 1 else chgI (kN K) (s 18) s nx j
theorem chgI_0 {l : Nat} {s nx : Nat → Nat} (j : Nat) : chgI 0 l s nx j = s j := by
  unfold chgI
  simp
theorem chgI_ne {i l j : Nat} {s nx : Nat → Nat} (h : lo l i = true ∨ (j ≠ i ∧ j ≠ 6 + i ∧ j ≠ 12 + i)) : chgI (i + 1) l s nx j = chgI i l s nx j := by
  unfold chgI
  by_cases h6 : j < 6
  · rw [if_pos h6, if_pos h6]
    by_cases hj : j = i
    · subst hj
      rcases h with h | h
      · simp [h]
      · omega
    · have : j < i + 1 ↔ j < i := by omega
      simp [this]
  · rw [if_neg h6, if_neg h6]
    by_cases h12 : j < 12
    · rw [if_pos h12, if_pos h12]
      by_cases hj : j - 6 = i
      · rw [hj]
        rcases h with h | h
        · simp [h]
        · omega
      · have : j - 6 < i + 1 ↔ j - 6 < i := by omega
        simp [this]
    · rw [if_neg h12, if_neg h12]
      by_cases h18 : j < 18
      · rw [if_pos h18, if_pos h18]
        by_cases hj : j - 12 = i
        · rw [hj]
          rcases h with h | h
          · simp [h]
          · omega
        · have : j - 12 < i + 1 ↔ j - 12 < i := by omega
          simp [this]
      · rw [if_neg h18, if_neg h18]
theorem chgI_a {i l : Nat} {s nx : Nat → Nat} (h : i < 6) : chgI i l s nx i = s i ∧ chgI i l s nx (6 + i) = s (6 + i) ∧ chgI i l s nx (12 + i) = s (12 + i) := by
  unfold chgI
  refine ⟨?_, ?_, ?_⟩
  · rw [if_pos h, if_neg (by omega)]
  · rw [if_neg (by omega), if_pos (by omega), if_neg (by omega)]
  · rw [if_neg (by omega), if_neg (by omega), if_pos (by omega), if_neg (by omega)]
theorem chgI_b {i l : Nat} {s nx : Nat → Nat} (h : i < 6) (hl : lo l i = false) : chgI (i + 1) l s nx i = nx i ∧ chgI (i + 1) l s nx (6 + i) = (if s (6 + i) = nx i + 1 then 0 else s (6 + i)) ∧ chgI (i + 1) l s nx (12 + i) = if nx i = s i then 0 else s (12 + i) + 1 := by
  unfold chgI
  have e6 : 6 + i - 6 = i := by omega
  have e12 : 12 + i - 12 = i := by omega
  refine ⟨?_, ?_, ?_⟩
  · rw [if_pos h, if_pos ⟨by omega, hl⟩]
  · rw [if_neg (by omega), if_pos (by omega), e6]
    by_cases h1 : s (6 + i) = nx i + 1
    · rw [if_pos ⟨by omega, hl, h1⟩, if_pos h1]
    · rw [if_neg (fun q => h1 q.2.2), if_neg h1]
  · rw [if_neg (by omega), if_neg (by omega), if_pos (by omega), e12, if_pos ⟨by omega, hl⟩]
theorem q_changes {B : Nat} {K : SkyT} {s nx : Nat → Nat} {F M : Nat} {S : Mem} {V0 : Vw} {U : Uw} (h : shM S M) (hF : 7 < F) (hw9 : wfK K) (hK : mSky V0 0 K) (hS : mS V0 s) (hs : wfS K B s) (hB : B < 2 ^ 30) (hx : ∀ k, k < kN K → lo (s 18) k = false → V0 29 k = nI (nx k) ∧ nx k ≤ 40) :
    ∃ V', fn_X9_changes F M (wM S M V0 U) = some ((), wM S M V' U) ∧ (∀ j, j ≠ 24 → V' j = V0 j) ∧ mS V' (chgN K s nx) := by
  have hn6 := hw9.1.1
  have hn : V0 2 4 = nI (kN K) := hK.1.2.2.2.2
  have hl2 : s 18 < 2 ^ 31 := by have := hs.lost hw9; omega
  have c18 : ∀ i, chgI i (s 18) s nx 18 = s 18 := fun i => by unfold chgI; simp
  have c19 : ∀ i, chgI i (s 18) s nx 19 = s 19 := fun i => by unfold chgI; simp
  have key : ∀ (d i f : Nat) (V : Vw), i + d = kN K → d < f → (∀ j, j ≠ 24 → V j = V0 j) → mS V (chgI i (s 18) s nx) →
      ∃ V', fix2 (b_X9_changes_2 F) f M (nI i) (wM S M V U) = some ((), wM S M V' U) ∧ (∀ j, j ≠ 24 → V' j = V0 j) ∧ mS V' (chgN K s nx) := by
    intro d
    induction d with
    | zero =>
      intro i f V hi hf hV hP
      obtain ⟨f, rfl⟩ : ∃ f', f = f' + 1 := ⟨f - 1, by omega⟩
      obtain rfl : i = kN K := by omega
      show ∃ V', b_X9_changes_2 F (fix2 (b_X9_changes_2 F) f) M (nI (kN K)) (wM S M V U) = _ ∧ _
      generalize fix2 (b_X9_changes_2 F) f = k4
      unfold b_X9_changes_2
      rw [cm_sky h, ca_sky h (inB_l (by omega) (by decide)), hV 2 (by omega)]
      show ∃ V', (if V0 2 4 ≤ nI (kN K) then _ else _) = _ ∧ _
      rw [hn, if_pos (Int32.le_refl _)]
      have e19 : V 24 19 = nI (s 19) := (hP 19 (by omega)).trans (by rw [c19])
      simp (disch := first | assumption | exact inB_n (by omega) (by decide) | exact inB_l (by omega) (by decide) | exact inB_al (by omega) (by decide) | exact inB_la (by omega) (by decide) | exact inB_j (by assumption) (by omega) (by decide) | exact inB_e (by assumption) (by decide) | omega) only [↓eM h, ↓bd_r, ↓lt_r, ↓Option.bind_some, ↓reduceIte, ix_nI, ix_l, nI_al, nI_la, nI_lm, u2_ne, u2_eq, nI_leI, nI_ltI, nI_eq, le_ln, le_nl, lt_ln, lt_nl, eq_nl, eq_ln, e19]
      refine ⟨_, rfl, fun j hj => by rw [u2_row hj, hV j hj], fun j hj => ?_⟩
      unfold chgN
      by_cases hj9 : j = 19
      · subst hj9; rw [u2_eq ⟨rfl, rfl⟩, if_pos rfl]
      · rw [u2_ne (Or.inr hj9), if_neg hj9, hP j hj]
    | succ d ih =>
      intro i f V hi hf hV hP
      obtain ⟨f, rfl⟩ : ∃ f', f = f' + 1 := ⟨f - 1, by omega⟩
      have ih := fun V => ih (i + 1) f V (by omega) (by omega)
      show ∃ V', b_X9_changes_2 F (fix2 (b_X9_changes_2 F) f) M (nI i) (wM S M V U) = _ ∧ _
      generalize fix2 (b_X9_changes_2 F) f = k4 at ih ⊢
      have p2 := q_isLost (F := F) (V := V) (U := U) (k := i) (l := s 18) h (by omega) ((hP 18 (by omega)).trans (by rw [c18])) hl2
      unfold b_X9_changes_2 f_X9_changes_61 f_X9_changes_104
      rw [cm_sky h, ca_sky h (inB_l (by omega) (by decide)), hV 2 (by omega)]
      show ∃ V', (if V0 2 4 ≤ nI i then _ else _) = _ ∧ _
      rw [hn, if_neg (nI_ge (by omega) (by omega)), cm_cal h, p2, bd_r]
      cases hl9 : lo (s 18) i with
      | true =>
        show ∃ V', (if (1 : Int32) = 0 then _ else _) = _ ∧ _
        rw [if_neg (by decide), nI_1]
        exact ih V hV (fun j hj => by rw [hP j hj, chgI_ne (Or.inl hl9)])
      | false =>
        show ∃ V', (if (0 : Int32) = 0 then _ else _) = _ ∧ _
        rw [if_pos rfl]
        have hq := hs.1 i (by omega)
        obtain ⟨hx1, hx2⟩ := hx i (by omega) hl9
        have v29 : V 29 i = nI (nx i) := by rw [hV 29 (by omega)]; exact hx1
        obtain ⟨ca, cb, cc⟩ := chgI_a (i := i) (l := s 18) (s := s) (nx := nx) (by omega)
        obtain ⟨da, db, dc⟩ := chgI_b (i := i) (l := s 18) (s := s) (nx := nx) (by omega) hl9
        have va : V 24 i = nI (s i) := by rw [hP i (by omega), ca]
        have vb : V 24 (6 + i) = nI (s (6 + i)) := by rw [hP (6 + i) (by omega), cb]
        have vc : V 24 (12 + i) = nI (s (12 + i)) := by rw [hP (12 + i) (by omega), cc]
        have fin : ∀ c : Int32, c = nI (if nx i = s i then 0 else s (12 + i) + 1) → ∃ V', (if nI (s (6 + i)) - 1 = nI (nx i) then k4 M (nI (i + 1)) (wM S M (u2 (u2 (u2 V 24 (12 + i) c) 24 i (nI (nx i))) 24 (6 + i) 0) U) else k4 M (nI (i + 1)) (wM S M (u2 (u2 V 24 (12 + i) c) 24 i (nI (nx i))) U)) = some ((), wM S M V' U) ∧ (∀ j, j ≠ 24 → V' j = V0 j) ∧ mS V' (chgN K s nx) := by
          intro c hc
          have e9 : (nI (s (6 + i)) - 1 = nI (nx i)) ↔ s (6 + i) = nx i + 1 := by
            constructor
            · intro q
              have q2 : nI (s (6 + i)) = nI (nx i + 1) := by rw [← nI_1, ← q]; exact (Int32.sub_add_cancel _ _).symm
              exact (nI_eq (by omega) (by omega)).mp q2
            · intro q
              rw [q]; exact nI_pred _
          by_cases h9 : s (6 + i) = nx i + 1
          · rw [if_pos (e9.mpr h9)]
            refine ih _ (fun j hj => by rw [u2_row hj, u2_row hj, u2_row hj, hV j hj]) (fun j hj => ?_)
            by_cases j1 : j = 6 + i
            · subst j1; rw [u2_eq ⟨rfl, rfl⟩, db, if_pos h9]; rfl
            · by_cases j2 : j = i
              · subst j2; rw [u2_ne (by omega), u2_eq ⟨rfl, rfl⟩, da]
              · by_cases j3 : j = 12 + i
                · subst j3; rw [u2_ne (by omega), u2_ne (by omega), u2_eq ⟨rfl, rfl⟩, dc, hc]
                · rw [u2_ne (by omega), u2_ne (by omega), u2_ne (by omega), hP j hj, chgI_ne (Or.inr ⟨j2, j1, j3⟩)]
          · rw [if_neg (fun q => h9 (e9.mp q))]
            refine ih _ (fun j hj => by rw [u2_row hj, u2_row hj, hV j hj]) (fun j hj => ?_)
            by_cases j1 : j = 6 + i
            · subst j1; rw [u2_ne (by omega), u2_ne (by omega), db, if_neg h9, vb]
            · by_cases j2 : j = i
              · subst j2; rw [u2_eq ⟨rfl, rfl⟩, da]
              · by_cases j3 : j = 12 + i
                · subst j3; rw [u2_ne (by omega), u2_eq ⟨rfl, rfl⟩, dc, hc]
                · rw [u2_ne (by omega), u2_ne (by omega), hP j hj, chgI_ne (Or.inr ⟨j2, j1, j3⟩)]
        rw [cm_s h, cm_next h, cn_next h (by omega), cm_s h, cn_s h (by omega), v29, va]
        by_cases h8 : nx i = s i
        · rw [if_pos (by rw [h8])]
          simp (disch := first | assumption | exact inB_n (by omega) (by decide) | exact inB_l (by omega) (by decide) | exact inB_al (by omega) (by decide) | exact inB_la (by omega) (by decide) | exact inB_j (by assumption) (by omega) (by decide) | exact inB_e (by assumption) (by decide) | omega) only [↓eM h, ↓bd_r, ↓lt_r, ↓Option.bind_some, ↓reduceIte, ix_nI, ix_l, nI_al, nI_la, nI_lm, u2_ne, u2_eq, nI_leI, nI_ltI, nI_eq, le_ln, le_nl, lt_ln, lt_nl, eq_nl, eq_ln, va, vb, v29]
          exact fin 0 (by rw [if_pos h8]; rfl)
        · rw [if_neg (fun q => h8 ((nI_eq (by omega) (by omega)).mp q))]
          simp (disch := first | assumption | exact inB_n (by omega) (by decide) | exact inB_l (by omega) (by decide) | exact inB_al (by omega) (by decide) | exact inB_la (by omega) (by decide) | exact inB_j (by assumption) (by omega) (by decide) | exact inB_e (by assumption) (by decide) | omega) only [↓eM h, ↓bd_r, ↓lt_r, ↓Option.bind_some, ↓reduceIte, ix_nI, ix_l, nI_al, nI_la, nI_lm, u2_ne, u2_eq, nI_leI, nI_ltI, nI_eq, le_ln, le_nl, lt_ln, lt_nl, eq_nl, eq_ln, va, vb, vc, v29]
          exact fin _ (by rw [if_neg h8])
  exact key (kN K) 0 F V0 (by omega) (by omega) (fun _ _ => rfl) (fun j hj => by rw [chgI_0]; exact hS j hj)
