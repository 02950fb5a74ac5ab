/-! the model asks what its token is -/
theorem W27_lt : ∀ i : Fin 25, W27.getD i.val 0 < 2 ^ 40 := by decide +kernel
theorem tkK_1 {t : Nat} : tkK t = 1 ↔ t ≤ 25 := by
  unfold tkK
  by_cases h : t ≤ 25
  · rw [if_pos h]; exact ⟨fun _ => h, fun _ => rfl⟩
  · rw [if_neg h]
    refine ⟨fun q => ?_, fun q => absurd q h⟩
    split at q
    · omega
    · split at q
      · omega
      · split at q <;> omega
theorem tkK_2 {t : Nat} : tkK t = 2 ↔ t = 26 := by
  unfold tkK
  by_cases h : t ≤ 25
  · rw [if_pos h]; omega
  · rw [if_neg h]
    by_cases h2 : t = 26
    · rw [if_pos h2]; omega
    · rw [if_neg h2]
      refine ⟨fun q => ?_, fun q => absurd q h2⟩
      split at q
      · omega
      · split at q <;> omega
theorem tkK_3 {t : Nat} : tkK t = 3 ↔ 27 ≤ t ∧ t ≤ 34 := by
  unfold tkK
  by_cases h : t ≤ 25
  · rw [if_pos h]; omega
  · rw [if_neg h]
    by_cases h2 : t = 26
    · rw [if_pos h2]; omega
    · rw [if_neg h2]
      by_cases h3 : t ≤ 34
      · rw [if_pos h3]; omega
      · rw [if_neg h3]
        refine ⟨fun q => ?_, fun q => by omega⟩
        split at q <;> omega
theorem tkK_0 {t : Nat} : tkK t = 0 ↔ t = 35 := by
  unfold tkK
  by_cases h : t ≤ 25
  · rw [if_pos h]; omega
  · rw [if_neg h]
    by_cases h2 : t = 26
    · rw [if_pos h2]; omega
    · rw [if_neg h2]
      by_cases h3 : t ≤ 34
      · rw [if_pos h3]; omega
      · rw [if_neg h3]
        by_cases h4 : t = 35
        · rw [if_pos h4]; omega
        · rw [if_neg h4]; omega
theorem tkK_le {t : Nat} : tkK t ≤ 4 := by
  unfold tkK
  split
  · omega
  · split
    · omega
    · split
      · omega
      · split <;> omega
theorem mL_tok {X : Tp} {p n : Nat} {x : Int32} {V : Vw} {U : Uw} (hL : mL X p V U) (hx : x = nI n) (hn : n < 5) : V 0 6 = x ↔ tkK (lT X p) = n := by
  have := tkK_le (t := lT X p)
  rw [hL.2.2.2.1, hx]
  exact nI_eq (by omega) (by omega)
theorem mL_cmp {X : Tp} {p i : Nat} {w : Int64} {V : Vw} {U : Uw} (hp : p ≤ X.1) (hL : mL X p V U) (h25 : lT X p ≤ 25) (hi : i < 25) (hw : w = lN (W27.getD i 0)) : lg_cmp (U 0 7) w = 0 ↔ lT X p = i := by
  have hlt := (lW_lt hp h25).2
  have hWl : W27.getD i 0 < 2 ^ 40 := W27_lt ⟨i, hi⟩
  rw [lg_cmp_eq, hL.2.2.2.2.2 h25, hw, lN_eq2 (by omega) (by omega)]
  exact (lT_Y hp h25 hi).symm
theorem q_isWordY {X : Tp} {p i : Nat} {w : Int64} {F M : Nat} {S : Mem} {V : Vw} {U : Uw} (h : shM S M) (hp : p ≤ X.1) (hL : mL X p V U) (hi : i < 25) (hw : w = lN (W27.getD i 0)) (hc : lT X p = i) : fn_X9_isWord F M w (wM S M V U) = some (1, wM S M V U) := by
  have h25 : lT X p ≤ 25 := by omega
  unfold fn_X9_isWord f_X9_isWord_22
  simp only [↓eM h]
  rw [if_pos ((mL_tok (x := 1) (n := 1) hL rfl (by omega)).mpr (tkK_1.mpr h25)), if_pos ((mL_cmp hp hL h25 hi hw).mpr hc), rz_1]
theorem q_isWordN {X : Tp} {p i : Nat} {w : Int64} {F M : Nat} {S : Mem} {V : Vw} {U : Uw} (h : shM S M) (hp : p ≤ X.1) (hL : mL X p V U) (hi : i < 25) (hw : w = lN (W27.getD i 0)) (hc : ¬ lT X p = i) : fn_X9_isWord F M w (wM S M V U) = some (0, wM S M V U) := by
  unfold fn_X9_isWord f_X9_isWord_21 f_X9_isWord_22
  simp only [↓eM h]
  by_cases h25 : lT X p ≤ 25
  · rw [if_pos ((mL_tok (x := 1) (n := 1) hL rfl (by omega)).mpr (tkK_1.mpr h25)), if_neg (fun q => hc ((mL_cmp hp hL h25 hi hw).mp q)), rz_0]
  · rw [if_neg (fun q => h25 (tkK_1.mp ((mL_tok (x := 1) (n := 1) hL rfl (by omega)).mp q))), rz_0]
theorem sgT_inj : ∀ a c : Fin 127, sgT c.val ≠ 36 → sgT a.val = sgT c.val → a.val = c.val := by decide +kernel
theorem mL_sgn {X : Tp} {p c t : Nat} {x : Int32} {V : Vw} (hX : okTp X) (ht : mx V X) (hx : x = nI c) (hc : c < 127) (hs : sgT c = t) (h36 : t ≠ 36) (h3 : 27 ≤ lT X p ∧ lT X p ≤ 34) : lB X p < 1000 ∧ (V 1 (lB X p) = x ↔ lT X p = t) := by
  obtain ⟨hn, hs2, -, -⟩ := lT_sign h3.1 h3.2
  have h1 := hX.1
  have hc9 : X.2 (lB X p) ≤ 126 := okTape_le (hX.2 (lB X p) hn)
  refine ⟨by omega, ?_⟩
  rw [ht _ hn, hx, nI_eq (by omega) (by omega), hs2, ← hs]
  exact ⟨fun q => by rw [q], fun q => sgT_inj ⟨X.2 (lB X p), by omega⟩ ⟨c, hc⟩ (by rw [hs]; exact h36) q⟩
theorem q_isSignY {X : Tp} {p c t : Nat} {x : Int32} {F M : Nat} {S : Mem} {V : Vw} {U : Uw} (h : shM S M) (hX : okTp X) (hL : mL X p V U) (ht : mx V X) (hx : x = nI c) (hc : c < 127) (hs : sgT c = t) (h36 : 27 ≤ t ∧ t ≤ 34) (hq : lT X p = t) : fn_X9_isSign F M x (wM S M V U) = some (1, wM S M V U) := by
  obtain ⟨g1, g2⟩ := mL_sgn (p := p) hX ht hx hc hs (by omega) (by omega)
  unfold fn_X9_isSign f_X9_isSign_26
  simp (disch := first | assumption | exact inB_n (by omega) (by decide) | exact inB_l (by omega) (by decide) | exact inB_al (by omega) (by decide) | exact inB_la (by omega) (by decide) | exact inB_j (by assumption) (by omega) (by decide) | exact inB_e (by assumption) (by decide) | omega) only [↓eM h, ↓bd_r, ↓lt_r, ↓Option.bind_some, ↓reduceIte, ix_nI, ix_l, nI_al, nI_la, nI_lm, u2_ne, u2_eq, nI_leI, nI_ltI, nI_eq, le_ln, le_nl, lt_ln, lt_nl, eq_nl, eq_ln]
  rw [if_pos ((mL_tok (x := 3) (n := 3) hL rfl (by omega)).mpr (tkK_3.mpr (by omega)))]
  simp (disch := first | assumption | exact inB_n (by omega) (by decide) | exact inB_l (by omega) (by decide) | exact inB_al (by omega) (by decide) | exact inB_la (by omega) (by decide) | exact inB_j (by assumption) (by omega) (by decide) | exact inB_e (by assumption) (by decide) | omega) only [↓eM h, ↓bd_r, ↓lt_r, ↓Option.bind_some, ↓reduceIte, ix_nI, ix_l, nI_al, nI_la, nI_lm, u2_ne, u2_eq, nI_leI, nI_ltI, nI_eq, le_ln, le_nl, lt_ln, lt_nl, eq_nl, eq_ln, hL.2.2.1]
  rw [if_pos (g2.mpr hq), rz_1]
theorem q_isSignN {X : Tp} {p c t : Nat} {x : Int32} {F M : Nat} {S : Mem} {V : Vw} {U : Uw} (h : shM S M) (hX : okTp X) (hL : mL X p V U) (ht : mx V X) (hx : x = nI c) (hc : c < 127) (hs : sgT c = t) (h36 : 27 ≤ t ∧ t ≤ 34) (hq : ¬ lT X p = t) : fn_X9_isSign F M x (wM S M V U) = some (0, wM S M V U) := by
  unfold fn_X9_isSign f_X9_isSign_25 f_X9_isSign_26
  simp (disch := first | assumption | exact inB_n (by omega) (by decide) | exact inB_l (by omega) (by decide) | exact inB_al (by omega) (by decide) | exact inB_la (by omega) (by decide) | exact inB_j (by assumption) (by omega) (by decide) | exact inB_e (by assumption) (by decide) | omega) only [↓eM h, ↓bd_r, ↓lt_r, ↓Option.bind_some, ↓reduceIte, ix_nI, ix_l, nI_al, nI_la, nI_lm, u2_ne, u2_eq, nI_leI, nI_ltI, nI_eq, le_ln, le_nl, lt_ln, lt_nl, eq_nl, eq_ln]
  by_cases h3 : 27 ≤ lT X p ∧ lT X p ≤ 34
  · obtain ⟨g1, g2⟩ := mL_sgn (p := p) hX ht hx hc hs (by omega) h3
    rw [if_pos ((mL_tok (x := 3) (n := 3) hL rfl (by omega)).mpr (tkK_3.mpr h3))]
    simp (disch := first | assumption | exact inB_n (by omega) (by decide) | exact inB_l (by omega) (by decide) | exact inB_al (by omega) (by decide) | exact inB_la (by omega) (by decide) | exact inB_j (by assumption) (by omega) (by decide) | exact inB_e (by assumption) (by decide) | omega) only [↓eM h, ↓bd_r, ↓lt_r, ↓Option.bind_some, ↓reduceIte, ix_nI, ix_l, nI_al, nI_la, nI_lm, u2_ne, u2_eq, nI_leI, nI_ltI, nI_eq, le_ln, le_nl, lt_ln, lt_nl, eq_nl, eq_ln, hL.2.2.1]
    rw [if_neg (fun q => hq (g2.mp q)), rz_0]
  · rw [if_neg (fun q => h3 (tkK_3.mp ((mL_tok (x := 3) (n := 3) hL rfl (by omega)).mp q))), rz_0]
theorem factOf_25 {law t : Nat} (h : 25 < t) : factOf law t = 0 := by
  unfold factOf
  split
  · rw [if_neg (by omega), if_neg (by omega), if_neg (by omega)]
  · rw [if_neg (by omega), if_neg (by omega), if_neg (by omega), if_neg (by omega), if_neg (by omega), if_neg (by omega)]
theorem q_fact {X : Tp} {p law : Nat} {F M : Nat} {S : Mem} {V : Vw} {U : Uw} (h : shM S M) (hp : p ≤ X.1) (hL : mL X p V U) (h22 : V 0 22 = nI law) (hl : law < 2) : fn_X9_fact F M (wM S M V U) = some (nI (factOf law (lT X p)), wM S M V U) := by
  unfold fn_X9_fact
  simp only [↓eM h]
  by_cases h25 : lT X p ≤ 25
  · rw [if_pos ((mL_tok (x := 1) (n := 1) hL rfl (by omega)).mpr (tkK_1.mpr h25)), h22]
    have c20 := mL_cmp (i := 20) (w := 164222) hp hL h25 (by decide) rfl
    have c21 := mL_cmp (i := 21) (w := 191610176) hp hL h25 (by decide) rfl
    have c22 := mL_cmp (i := 22) (w := 153623) hp hL h25 (by decide) rfl
    have c10 := mL_cmp (i := 10) (w := 247516) hp hL h25 (by decide) rfl
    have c23 := mL_cmp (i := 23) (w := 330573) hp hL h25 (by decide) rfl
    have c24 := mL_cmp (i := 24) (w := 239882) hp hL h25 (by decide) rfl
    have c0 := mL_cmp (i := 0) (w := 459652) hp hL h25 (by decide) rfl
    simp only [c20, c21, c22, c10, c23, c24, c0]
    unfold factOf
    rcases (by omega : law = 0 ∨ law = 1) with rfl | rfl
    · rw [if_pos (show nI 0 = 0 from rfl), if_pos rfl]
      by_cases a1 : lT X p = 20
      · rw [if_pos a1, if_pos a1]; rfl
      rw [if_neg a1, if_neg a1]
      by_cases a2 : lT X p = 21
      · rw [if_pos a2, if_pos a2]; rfl
      rw [if_neg a2, if_neg a2]
      by_cases a3 : lT X p = 22
      · rw [if_pos a3, if_pos a3]; rfl
      rw [if_neg a3, if_neg a3]
      rfl
    · rw [if_neg (show ¬ nI 1 = 0 by decide), if_neg (show ¬ 1 = 0 by decide)]
      by_cases a1 : lT X p = 10
      · rw [if_pos a1, if_pos a1]; rfl
      rw [if_neg a1, if_neg a1]
      by_cases a2 : lT X p = 23
      · rw [if_pos a2, if_pos a2]; rfl
      rw [if_neg a2, if_neg a2]
      by_cases a3 : lT X p = 20
      · rw [if_pos a3, if_pos a3]; rfl
      rw [if_neg a3, if_neg a3]
      by_cases a4 : lT X p = 24
      · rw [if_pos a4, if_pos a4]; rfl
      rw [if_neg a4, if_neg a4]
      by_cases a5 : lT X p = 0
      · rw [if_pos a5, if_pos a5]; rfl
      rw [if_neg a5, if_neg a5]
      by_cases a6 : lT X p = 21
      · rw [if_pos a6, if_pos a6]; rfl
      rw [if_neg a6, if_neg a6]
      rfl
  · rw [if_neg (fun q => h25 (tkK_1.mp ((mL_tok (x := 1) (n := 1) hL rfl (by omega)).mp q))), factOf_25 (by omega)]
    rfl
theorem q_fails {X : Tp} {p k : Nat} {x : Int32} {F M : Nat} {S : Mem} {V : Vw} {U : Uw} (h : shM S M) (hL : mL X p V U) (hx : x = nI k) : fn_X9_fails F M x (wM S M V U) = some (0, wM S M (u2 V 0 9 (nI (k + 16 * lB X p))) U) := by
  subst hx
  unfold fn_X9_fails
  simp (disch := first | assumption | exact inB_n (by omega) (by decide) | exact inB_l (by omega) (by decide) | exact inB_al (by omega) (by decide) | exact inB_la (by omega) (by decide) | exact inB_j (by assumption) (by omega) (by decide) | exact inB_e (by assumption) (by decide) | omega) only [↓eM h, ↓bd_r, ↓lt_r, ↓Option.bind_some, ↓reduceIte, ix_nI, ix_l, nI_al, nI_la, nI_lm, u2_ne, u2_eq, nI_leI, nI_ltI, nI_eq, le_ln, le_nl, lt_ln, lt_nl, eq_nl, eq_ln, hL.2.2.1, nI_add, rz_0]
theorem q_puts {nc : Nat} {x : Int32} {F M : Nat} {S : Mem} {V : Vw} {U : Uw} (h : shM S M) (h20 : V 0 20 = nI nc) (hn : nc < 6000) : fn_X9_puts F M x (wM S M V U) = some ((), wM S M (u2 (u2 V 11 nc x) 0 20 (nI (nc + 1))) U) := by
  have i9 : inB (nI nc) 6000 := inB_n hn (by decide)
  unfold fn_X9_puts
  simp (disch := first | assumption | exact inB_n (by omega) (by decide) | exact inB_l (by omega) (by decide) | exact inB_al (by omega) (by decide) | exact inB_la (by omega) (by decide) | exact inB_j (by assumption) (by omega) (by decide) | exact inB_e (by assumption) (by decide) | omega) only [↓eM h, ↓bd_r, ↓lt_r, ↓Option.bind_some, ↓reduceIte, ix_nI, ix_l, nI_al, nI_la, nI_lm, u2_ne, u2_eq, nI_leI, nI_ltI, nI_eq, le_ln, le_nl, lt_ln, lt_nl, eq_nl, eq_ln, h20]
theorem sAZ_130 {α : Type} {S : Mem} {M m : Nat} {V : Vw} {U : Uw} {K : Mem → Option α} (h : shM S M) (hm : m < 7) : (sAZ (wM S M V U) (M + 13) (nI m) 0).bind K = K (wM S M (u2 V 13 m 0) U) := by
  simp (disch := first | assumption | exact inB_n (by omega) (by decide) | exact inB_l (by omega) (by decide) | exact inB_al (by omega) (by decide) | exact inB_la (by omega) (by decide) | exact inB_j (by assumption) (by omega) (by decide) | exact inB_e (by assumption) (by decide) | omega) only [↓eM h, ↓bd_r, ↓lt_r, ↓Option.bind_some, ↓reduceIte, ix_nI, ix_l, nI_al, nI_la, nI_lm, u2_ne, u2_eq, nI_leI, nI_ltI, nI_eq, le_ln, le_nl, lt_ln, lt_nl, eq_nl, eq_ln]
  rfl
theorem sAZ_131 {α : Type} {S : Mem} {M m : Nat} {V : Vw} {U : Uw} {K : Mem → Option α} (h : shM S M) (hm : m < 7) : (sAZ (wM S M V U) (M + 13) (nI m) 1).bind K = K (wM S M (u2 V 13 m 1) U) := by
  simp (disch := first | assumption | exact inB_n (by omega) (by decide) | exact inB_l (by omega) (by decide) | exact inB_al (by omega) (by decide) | exact inB_la (by omega) (by decide) | exact inB_j (by assumption) (by omega) (by decide) | exact inB_e (by assumption) (by decide) | omega) only [↓eM h, ↓bd_r, ↓lt_r, ↓Option.bind_some, ↓reduceIte, ix_nI, ix_l, nI_al, nI_la, nI_lm, u2_ne, u2_eq, nI_leI, nI_ltI, nI_eq, le_ln, le_nl, lt_ln, lt_nl, eq_nl, eq_ln]
  rfl
/-! what the model keeps while it reads E -/
def setO (f : Nat → Bool) (k : Nat) (v : Bool) : Nat → Bool := fun i => if i = k then v else f i
theorem setO_eq {f : Nat → Bool} {k i : Nat} {v : Bool} (h : i = k) : setO f k v i = v := if_pos h
theorem setO_ne {f : Nat → Bool} {k i : Nat} {v : Bool} (h : i ≠ k) : setO f k v i = f i := if_neg h
def popO (op : Nat → Bool) : Nat → Nat
  | 0 => 0
  | d + 1 => if op (d + 1) = true then popO op d else d + 1
theorem popO_le {op : Nat → Bool} : ∀ d, popO op d ≤ d
  | 0 => Nat.le_refl 0
  | d + 1 => by
    unfold popO
    have := popO_le (op := op) d
    split <;> omega
theorem popO_cg {op op' : Nat → Bool} : ∀ d, (∀ k, 1 ≤ k → k ≤ d → op' k = op k) → popO op' d = popO op d
  | 0, _ => rfl
  | d + 1, e => by
    unfold popO
    rw [e (d + 1) (by omega) (by omega), popO_cg d (fun k h1 h2 => e k h1 (by omega))]
def mP (X : Tp) (law p nc d : Nat) (op cm : Nat → Bool) (V : Vw) (U : Uw) : Prop := mL X p V U ∧ mx V X ∧ V 0 22 = nI law ∧ V 0 20 = nI nc ∧ (∀ k, 1 ≤ k → k ≤ d → V 12 k = if op k = true then 1 else 2) ∧ ∀ k, k ≤ d → V 13 k = b1 (cm k)
def frM (V V' : Vw) : Prop := (∀ j, j ≠ 0 → j ≠ 11 → j ≠ 12 → j ≠ 13 → V' j = V j) ∧ ∀ k, k ≠ 4 → k ≠ 5 → k ≠ 6 → k ≠ 8 → k ≠ 9 → k ≠ 20 → V' 0 k = V 0 k
theorem frM.rf {V : Vw} : frM V V := ⟨fun _ _ _ _ _ => rfl, fun _ _ _ _ _ _ _ => rfl⟩
theorem frM.tr {V V' V'' : Vw} (a : frM V V') (b : frM V' V'') : frM V V'' := ⟨fun j h0 h1 h2 h3 => (b.1 j h0 h1 h2 h3).trans (a.1 j h0 h1 h2 h3), fun k h4 h5 h6 h8 h9 h20 => (b.2 k h4 h5 h6 h8 h9 h20).trans (a.2 k h4 h5 h6 h8 h9 h20)⟩
theorem frM.of0 {V V' : Vw} (a : f0 V V') : frM V V' := ⟨fun j h0 _ _ _ => a.1 j h0, fun k h4 h5 h6 h8 _ _ => a.2 k h4 h5 h6 h8⟩
theorem frM.u {V : Vw} {j k : Nat} {v : Int32} (h : j = 11 ∨ j = 12 ∨ j = 13 ∨ (j = 0 ∧ (k = 9 ∨ k = 20))) : frM V (u2 V j k v) := ⟨fun i h0 h1 h2 h3 => u2_row (by omega), fun i h4 h5 h6 h8 h9 h20 => u2_ne (by omega)⟩
theorem q_pop152 {x2 : Int32} {k11 : Nat → Int32 → Int32 → Mem → Option (Int32 × Mem)} {op : Nat → Bool} {F M : Nat} {S : Mem} {V : Vw} {U : Uw} (h : shM S M) : ∀ (d f : Nat), d < 7 → d < f → (∀ k, 1 ≤ k → k ≤ d → V 12 k = if op k = true then 1 else 2) →
    fix3 (b_X9_reads_152 F k11) f M (nI d) x2 (wM S M V U) = f_X9_reads_172 F k11 M (nI (popO op d)) x2 (wM S M V U) := by
  intro d
  induction d with
  | zero =>
    intro f hd hf _
    obtain ⟨f, rfl⟩ : ∃ f', f = f' + 1 := ⟨f - 1, by omega⟩
    show b_X9_reads_152 F k11 (fix3 (b_X9_reads_152 F k11) f) M (nI 0) x2 (wM S M V U) = _
    unfold b_X9_reads_152
    rw [if_pos (by decide)]
    rfl
  | succ d ih =>
    intro f hd hf ho
    obtain ⟨f, rfl⟩ : ∃ f', f = f' + 1 := ⟨f - 1, by omega⟩
    have ih := ih f (by omega) (by omega) (fun k h1 h2 => ho k h1 (by omega))
    show b_X9_reads_152 F k11 (fix3 (b_X9_reads_152 F k11) f) M (nI (d + 1)) x2 (wM S M V U) = _
    generalize fix3 (b_X9_reads_152 F k11) f = k5 at ih ⊢
    unfold b_X9_reads_152 popO
    rw [if_neg (nI_nle (by omega) (by omega))]
    have e : nI (d + 1) + (-1 : Int32) = nI d := pk_m1 d
    simp (disch := first | assumption | exact inB_n (by omega) (by decide) | exact inB_l (by omega) (by decide) | exact inB_al (by omega) (by decide) | exact inB_la (by omega) (by decide) | exact inB_j (by assumption) (by omega) (by decide) | exact inB_e (by assumption) (by decide) | omega) only [↓eM h, ↓bd_r, ↓lt_r, ↓Option.bind_some, ↓reduceIte, ix_nI, ix_l, nI_al, nI_la, nI_lm, u2_ne, u2_eq, nI_leI, nI_ltI, nI_eq, le_ln, le_nl, lt_ln, lt_nl, eq_nl, eq_ln, ho (d + 1) (by omega) (by omega), e, ih]
    cases op (d + 1) with
    | true => rfl
    | false => rfl
theorem q_pop379 {x2 : Int32} {k11 : Nat → Int32 → Int32 → Mem → Option (Int32 × Mem)} {op : Nat → Bool} {F M : Nat} {S : Mem} {V : Vw} {U : Uw} (h : shM S M) : ∀ (d f : Nat), d < 7 → d < f → (∀ k, 1 ≤ k → k ≤ d → V 12 k = if op k = true then 1 else 2) →
    fix3 (b_X9_reads_379 F k11) f M (nI d) x2 (wM S M V U) = f_X9_reads_424 F k11 M (nI (popO op d)) x2 (wM S M V U) := by
  intro d
  induction d with
  | zero =>
    intro f hd hf _
    obtain ⟨f, rfl⟩ : ∃ f', f = f' + 1 := ⟨f - 1, by omega⟩
    show b_X9_reads_379 F k11 (fix3 (b_X9_reads_379 F k11) f) M (nI 0) x2 (wM S M V U) = _
    unfold b_X9_reads_379
    rw [if_pos (by decide)]
    rfl
  | succ d ih =>
    intro f hd hf ho
    obtain ⟨f, rfl⟩ : ∃ f', f = f' + 1 := ⟨f - 1, by omega⟩
    have ih := ih f (by omega) (by omega) (fun k h1 h2 => ho k h1 (by omega))
    show b_X9_reads_379 F k11 (fix3 (b_X9_reads_379 F k11) f) M (nI (d + 1)) x2 (wM S M V U) = _
    generalize fix3 (b_X9_reads_379 F k11) f = k5 at ih ⊢
    unfold b_X9_reads_379 popO
    rw [if_neg (nI_nle (by omega) (by omega))]
    have e : nI (d + 1) + (-1 : Int32) = nI d := pk_m1 d
    simp (disch := first | assumption | exact inB_n (by omega) (by decide) | exact inB_l (by omega) (by decide) | exact inB_al (by omega) (by decide) | exact inB_la (by omega) (by decide) | exact inB_j (by assumption) (by omega) (by decide) | exact inB_e (by assumption) (by decide) | omega) only [↓eM h, ↓bd_r, ↓lt_r, ↓Option.bind_some, ↓reduceIte, ix_nI, ix_l, nI_al, nI_la, nI_lm, u2_ne, u2_eq, nI_leI, nI_ltI, nI_eq, le_ln, le_nl, lt_ln, lt_nl, eq_nl, eq_ln, ho (d + 1) (by omega) (by omega), e, ih]
    cases op (d + 1) with
    | true => rfl
    | false => rfl
