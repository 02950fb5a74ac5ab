/-! note, clear, count -/
def okNo (s : Nat → Nat) (x y z : Int32) : Bool := inr x 0 9999 && (inr y 0 999 && inr z 0 40) && decide (s 20 < 10)
def noN (s : Nat → Nat) (x y z j : Nat) : Nat := if j = 20 then s 20 + 1 else if j = 21 + 3 * s 20 then x else if j = 21 + 3 * s 20 + 1 then y else if j = 21 + 3 * s 20 + 2 then z else s j
def sp_note (s : Nat → Nat) (x y z : Int32) : Int32 := if okNo s x y z = true then nI (s 20 + 1) else -1
theorem noN_v {s : Nat → Nat} {x y z : Nat} : noN s x y z (21 + 3 * s 20) = x ∧ noN s x y z (21 + 3 * s 20 + 1) = y ∧ noN s x y z (21 + 3 * s 20 + 2) = z := by
  unfold noN
  refine ⟨?_, ?_, ?_⟩
  · rw [if_neg (by omega), if_pos rfl]
  · rw [if_neg (by omega), if_neg (by omega), if_pos rfl]
  · rw [if_neg (by omega), if_neg (by omega), if_neg (by omega), if_pos rfl]
theorem wf_no {K : SkyT} {B x y z : Nat} {s : Nat → Nat} (hs : wfS K B s) (hw : wfK K) (h10 : s 20 < 10) (hx : x ≤ 9999) (hy : y ≤ 999) (hz : z ≤ 40) : wfS K B (noN s x y z) := by
  have hn6 := hw.1.1
  have e : ∀ j, j < 20 → noN s x y z j = s j := fun j hj => by
    unfold noN
    rw [if_neg (by omega), if_neg (by omega), if_neg (by omega), if_neg (by omega)]
  have e20 : noN s x y z 20 = s 20 + 1 := if_pos rfl
  refine ⟨fun i hi => ?_, by rw [e 18 (by omega)]; exact hs.2.1, by rw [e 19 (by omega)]; exact hs.2.2.1, by rw [e20]; omega, fun i hi => ?_⟩
  · rw [e i (by omega), e (6 + i) (by omega), e (12 + i) (by omega)]; exact hs.1 i hi
  · rw [e20] at hi
    by_cases hic : i = s 20
    · subst hic
      rw [noN_v.1, noN_v.2.1, noN_v.2.2]
      exact ⟨hx, hy, hz⟩
    · have q := hs.2.2.2.2 i (by omega)
      unfold noN
      rw [if_neg (by omega), if_neg (by omega), if_neg (by omega), if_neg (by omega), if_neg (by omega), if_neg (by omega), if_neg (by omega), if_neg (by omega), if_neg (by omega), if_neg (by omega), if_neg (by omega), if_neg (by omega)]
      exact q
theorem ca_note {x y z : Int32} {B b : Nat} {K : SkyT} {s : Nat → Nat} {F C : Nat} {S : Mem} {V : Vw} {U : Uw} {D : Dw} (h : shC S C) (hF : 10000 < F) (hw9 : wfK K) (hK : cSky S C b K) (hb : D 28 0 = b) (hS : cNt V 28 K s) (hs : wfS K B s) (hB : B < 2 ^ 29) : ∃ V' D', fn_X8_note F C x y z (wC S C V U D) = some (sp_note s x y z, wC S C V' U D') ∧ ck V V' ∧ dk D D' ∧ cNt V' 28 K (if okNo s x y z = true then noN s x.toNatClampNeg y.toNatClampNeg z.toNatClampNeg else s) := by
  have hn6 := hw9.1.1
  have h20 := hs.2.2.2.1
  unfold fn_X8_note f_X8_note_31 sp_note okNo
  rw [c_within, bd_r]
  cases hx : inr x 0 9999 with
  | false => exact ⟨V, D, rfl, ck.rf, dk.rf, hS⟩
  | true =>
    show ∃ V' D', (if (1 : Int32) = 0 then _ else _) = _ ∧ _
    rw [if_neg (by decide), c_isSpot, bd_r]
    cases hyz : (inr y 0 999 && inr z 0 40) with
    | false => exact ⟨V, D, rfl, ck.rf, dk.rf, hS⟩
    | true =>
      show ∃ V' D', (if (1 : Int32) = 0 then _ else _) = _ ∧ _
      rw [Bool.and_eq_true] at hyz
      obtain ⟨a, -, ha, rfl⟩ := inr_nI (a := 0) (b := 9999) (by decide) (by decide) hx
      obtain ⟨c, -, hc, rfl⟩ := inr_nI (a := 0) (b := 999) (by decide) (by decide) hyz.1
      obtain ⟨d, -, hd, rfl⟩ := inr_nI (a := 0) (b := 40) (by decide) (by decide) hyz.2
      rw [if_neg (by decide), nI_clamp (by omega), nI_clamp (by omega), nI_clamp (by omega)]
      by_cases h10 : s 20 < 10
      · rw [decide_eq_true h10]
        show ∃ V' D', _ = some ((if true = true then _ else _), _) ∧ ck V V' ∧ dk D D' ∧ cNt V' 28 K (if true = true then _ else _)
        rw [if_pos rfl, if_pos rfl]
        have i10 : inB (nI (s 20)) 10 := inB_n h10 (by decide)
        simp (disch := first | assumption | exact inB_n (by omega) (by decide) | exact inB_l (by omega) (by decide) | exact inB_al (by omega) (by decide) | exact inB_la (by omega) (by decide) | exact inB_j (by assumption) (by omega) (by decide) | exact inB_e (by assumption) (by decide) | omega) only [↓eC h, ↓eN h isN28, hS.2.2.1, if_pos (show s 20 < 10 from h10), ix_nI, ix_l, nI_al, nI_la, nI_lm, u2_ne, u2_eq, nI_leI, nI_ltI, nI_eq, le_ln, le_nl, lt_ln, lt_nl, eq_nl, eq_ln]
        refine ⟨_, D, rfl, fun j hj => ?_, dk.rf, ?_⟩
        · rw [u2_row (by omega), u2_row (by omega), u2_row (by omega), u2_row (by omega)]
        · have e : ∀ j, j < 20 → noN s a c d j = s j := fun j hj => by
            unfold noN
            rw [if_neg (by omega), if_neg (by omega), if_neg (by omega), if_neg (by omega)]
          have e20 : noN s a c d 20 = s 20 + 1 := if_pos rfl
          refine ⟨?_, ?_, ?_, fun i hi => ?_, fun i hi => ?_⟩
          · rw [u2_ne (by omega), u2_row (by omega), u2_row (by omega), u2_row (by omega), e 19 (by omega)]; exact hS.1
          · rw [u2_ne (by omega), u2_row (by omega), u2_row (by omega), u2_row (by omega), e 18 (by omega)]; exact hS.2.1
          · rw [u2_eq ⟨rfl, rfl⟩, e20]
          · rw [u2_row (by omega), u2_row (by omega), u2_row (by omega), u2_row (by omega), u2_row (by omega), u2_row (by omega), u2_row (by omega), u2_row (by omega), u2_row (by omega), u2_row (by omega), u2_row (by omega), u2_row (by omega), e i (by omega), e (6 + i) (by omega), e (12 + i) (by omega)]
            exact hS.2.2.2.1 i hi
          · rw [e20] at hi
            by_cases hic : i = s 20
            · subst hic
              refine ⟨?_, ?_, ?_⟩
              · rw [u2_row (by omega), u2_row (by omega), u2_row (by omega), u2_eq ⟨rfl, rfl⟩, noN_v.1]
              · rw [u2_row (by omega), u2_row (by omega), u2_eq ⟨rfl, rfl⟩, noN_v.2.1]
              · rw [u2_row (by omega), u2_eq ⟨rfl, rfl⟩, noN_v.2.2]
            · have q := hS.2.2.2.2 i (by omega)
              unfold noN
              rw [if_neg (by omega), if_neg (by omega), if_neg (by omega), if_neg (by omega), if_neg (by omega), if_neg (by omega), if_neg (by omega), if_neg (by omega), if_neg (by omega), if_neg (by omega), if_neg (by omega), if_neg (by omega)]
              refine ⟨?_, ?_, ?_⟩
              · rw [u2_row (by omega), u2_row (by omega), u2_row (by omega), u2_ne (by omega)]; exact q.1
              · rw [u2_row (by omega), u2_row (by omega), u2_ne (by omega), u2_row (by omega)]; exact q.2.1
              · rw [u2_row (by omega), u2_ne (by omega), u2_row (by omega), u2_row (by omega)]; exact q.2.2
      · rw [decide_eq_false h10]
        refine ⟨V, D, ?_, ck.rf, dk.rf, hS⟩
        simp (disch := first | assumption | exact inB_n (by omega) (by decide) | exact inB_l (by omega) (by decide) | exact inB_al (by omega) (by decide) | exact inB_la (by omega) (by decide) | exact inB_j (by assumption) (by omega) (by decide) | exact inB_e (by assumption) (by decide) | omega) only [↓eC h, ↓eN h isN28, hS.2.2.1, if_neg (show ¬ s 20 < 10 from h10), ix_nI, ix_l, nI_al, nI_la, nI_lm, u2_ne, u2_eq, nI_leI, nI_ltI, nI_eq, le_ln, le_nl, lt_ln, lt_nl, eq_nl, eq_ln]
        rfl
theorem ma_note {x y z : Int32} {B : Nat} {K : SkyT} {s : Nat → Nat} {F M : Nat} {S : Mem} {V : Vw} {U : Uw} (h : shM S M) (hF : 10000 < F) (hw9 : wfK K) (hK : mSky V 0 K) (hS : mS V s) (hs : wfS K B s) (hB : B < 2 ^ 29) : ∃ V' U', fn_X9_note F M x y z (wM S M V U) = some (sp_note s x y z, wM S M V' U') ∧ mk V V' ∧ mS V' (if okNo s x y z = true then noN s x.toNatClampNeg y.toNatClampNeg z.toNatClampNeg else s) := by
  have hn6 := hw9.1.1
  have h20 := hs.2.2.2.1
  unfold fn_X9_note f_X9_note_36 sp_note okNo
  rw [cm_sI h, q_within, bd_r]
  have S1 : mS (u2 V 0 0 0) s := hS.thrown
  have m1 : mk V (u2 V 0 0 0) := mk.thrown
  generalize u2 V 0 0 0 = W at S1 m1 ⊢
  cases hx : inr x 0 9999 with
  | false => exact ⟨W, U, rfl, m1, S1⟩
  | true =>
    show ∃ V' U', (if (1 : Int32) = 0 then _ else _) = _ ∧ _
    rw [if_neg (by decide), q_isWanted, bd_r]
    cases hyz : (inr y 0 999 && inr z 0 40) with
    | false => exact ⟨W, U, rfl, m1, S1⟩
    | true =>
      show ∃ V' U', (if (1 : Int32) = 0 then _ else _) = _ ∧ _
      rw [Bool.and_eq_true] at hyz
      obtain ⟨a, -, ha, rfl⟩ := inr_nI (a := 0) (b := 9999) (by decide) (by decide) hx
      obtain ⟨c, -, hc, rfl⟩ := inr_nI (a := 0) (b := 999) (by decide) (by decide) hyz.1
      obtain ⟨d, -, hd, rfl⟩ := inr_nI (a := 0) (b := 40) (by decide) (by decide) hyz.2
      rw [if_neg (by decide), nI_clamp (by omega), nI_clamp (by omega), nI_clamp (by omega)]
      by_cases h10 : s 20 < 10
      · rw [decide_eq_true h10]
        show ∃ V' U', _ = some ((if true = true then _ else _), _) ∧ mk V V' ∧ mS V' (if true = true then _ else _)
        rw [if_pos rfl, if_pos rfl]
        have e1 : (21 : Int32) + 3 * nI (s 20) = nI (21 + 3 * s 20) := by rw [nI_lm, nI_al]
        rw [cm_s h, ca_s h (inB_l (by omega) (by decide))]
        show ∃ V' U', (if W 24 20 = 10 then _ else _) = _ ∧ _
        rw [S1 20 (by omega), if_neg (fun q => by
          have := (nI_eq (b := 10) (by omega) (by decide)).mp q
          omega)]
        simp (disch := first | assumption | exact inB_n (by omega) (by decide) | exact inB_l (by omega) (by decide) | exact inB_al (by omega) (by decide) | exact inB_la (by omega) (by decide) | exact inB_j (by assumption) (by omega) (by decide) | exact inB_e (by assumption) (by decide) | omega) only [↓eM h, ↓bd_r, ↓lt_r, ↓Option.bind_some, ↓reduceIte, ix_nI, ix_l, nI_al, nI_la, nI_lm, u2_ne, u2_eq, nI_leI, nI_ltI, nI_eq, le_ln, le_nl, lt_ln, lt_nl, eq_nl, eq_ln, S1 20 (by omega), e1]
        refine ⟨_, U, rfl, m1.tr ⟨fun j a b => by rw [u2_row (by omega), u2_row (by omega), u2_row (by omega), u2_row (by omega)], by rw [u2_row (by omega), u2_row (by omega), u2_row (by omega), u2_row (by omega)]⟩, fun i hi => ?_⟩
        unfold noN
        by_cases i0 : i = 20
        · subst i0; rw [u2_eq ⟨rfl, rfl⟩, if_pos rfl]
        · rw [u2_ne (Or.inr i0), if_neg i0]
          by_cases i1 : i = 21 + 3 * s 20
          · subst i1; rw [u2_ne (by omega), u2_ne (by omega), u2_eq ⟨rfl, rfl⟩, if_pos rfl]
          · rw [if_neg i1]
            by_cases i2 : i = 21 + 3 * s 20 + 1
            · rw [if_pos i2, u2_ne (by omega), u2_eq ⟨rfl, by omega⟩]
            · rw [if_neg i2]
              by_cases i3 : i = 21 + 3 * s 20 + 2
              · rw [if_pos i3, u2_eq ⟨rfl, by omega⟩]
              · rw [if_neg i3, u2_ne (by omega), u2_ne (by omega), u2_ne (by omega), S1 i hi]
      · rw [decide_eq_false h10]
        refine ⟨W, U, ?_, m1, S1⟩
        have e10 : s 20 = 10 := by omega
        rw [cm_s h, ca_s h (inB_l (by omega) (by decide))]
        show (if W 24 20 = 10 then _ else _) = _
        rw [S1 20 (by omega), e10, if_pos (show nI 10 = 10 from rfl)]
        rfl
def clN (s : Nat → Nat) : Nat → Nat := u1 s 20 0
theorem wf_cl {K : SkyT} {B : Nat} {s : Nat → Nat} (hs : wfS K B s) (hw : wfK K) : wfS K B (clN s) := by
  have hn6 := hw.1.1
  have e : ∀ j, j ≠ 20 → clN s j = s j := fun j hj => if_neg hj
  have e20 : clN s 20 = 0 := by
    show (if 20 = 20 then 0 else s 20) = 0
    rfl
  refine ⟨fun i hi => ?_, by rw [e 18 (by omega)]; exact hs.2.1, by rw [e 19 (by omega)]; exact hs.2.2.1, by rw [e20]; omega, fun i hi => by rw [e20] at hi; omega⟩
  rw [e i (by omega), e (6 + i) (by omega), e (12 + i) (by omega)]; exact hs.1 i hi
theorem ca_clear {B b : Nat} {K : SkyT} {s : Nat → Nat} {F C : Nat} {S : Mem} {V : Vw} {U : Uw} {D : Dw} (h : shC S C) (hF : 10000 < F) (hw9 : wfK K) (hK : cSky S C b K) (hb : D 28 0 = b) (hS : cNt V 28 K s) (hs : wfS K B s) (hB : B < 2 ^ 29) : ∃ V' D', fn_X8_clear F C (wC S C V U D) = some (1, wC S C V' U D') ∧ ck V V' ∧ dk D D' ∧ cNt V' 28 K (clN s) := by
  have hn6 := hw9.1.1
  have e : ∀ j, j ≠ 20 → clN s j = s j := fun j hj => if_neg hj
  have e20 : clN s 20 = 0 := by
    show (if 20 = 20 then 0 else s 20) = 0
    rfl
  unfold fn_X8_clear
  simp only [↓eC h, ↓eN h isN28, rz_1]
  refine ⟨_, D, rfl, fun j hj => u2_row (by omega), dk.rf, ?_, ?_, ?_, fun i hi => ?_, fun i hi => by rw [e20] at hi; omega⟩
  · rw [u2_ne (by omega), e 19 (by omega)]; exact hS.1
  · rw [u2_ne (by omega), e 18 (by omega)]; exact hS.2.1
  · rw [u2_eq ⟨rfl, rfl⟩, e20]; rfl
  · rw [u2_row (by omega), u2_row (by omega), u2_row (by omega), e i (by omega), e (6 + i) (by omega), e (12 + i) (by omega)]
    exact hS.2.2.2.1 i hi
theorem ma_clear {B : Nat} {K : SkyT} {s : Nat → Nat} {F M : Nat} {S : Mem} {V : Vw} {U : Uw} (h : shM S M) (hF : 10000 < F) (hw9 : wfK K) (hK : mSky V 0 K) (hS : mS V s) (hs : wfS K B s) (hB : B < 2 ^ 29) : ∃ V' U', fn_X9_clear F M (wM S M V U) = some (1, wM S M V' U') ∧ mk V V' ∧ mS V' (clN s) := by
  unfold fn_X9_clear
  simp (disch := first | assumption | exact inB_n (by omega) (by decide) | exact inB_l (by omega) (by decide) | exact inB_al (by omega) (by decide) | exact inB_la (by omega) (by decide) | exact inB_j (by assumption) (by omega) (by decide) | exact inB_e (by assumption) (by decide) | omega) only [↓eM h, ↓bd_r, ↓lt_r, ↓Option.bind_some, ↓reduceIte, ix_nI, ix_l, nI_al, nI_la, nI_lm, u2_ne, u2_eq, nI_leI, nI_ltI, nI_eq, le_ln, le_nl, lt_ln, lt_nl, eq_nl, eq_ln, rz_1]
  refine ⟨_, U, rfl, mk.thrown.tr ⟨fun j a b => u2_row (by omega), u2_ne (by omega)⟩, fun i hi => ?_⟩
  show _ = nI (if i = 20 then 0 else s i)
  by_cases h0 : i = 20
  · subst h0; rw [u2_eq ⟨rfl, rfl⟩]; rfl
  · rw [u2_ne (Or.inr h0), if_neg h0]; exact hS.thrown i hi
/-- bits of a small set -/
def popN (l : Nat) : Nat := sumTo (fun k => l / 2 ^ k % 2) 6
theorem bc_pop : ∀ l : Fin 64, bcF (nI l.val) = nI (popN l.val) := by decide +kernel
theorem q_bits {l : Nat} {F : Nat} {S : Mem} (hF : 7 < F) (hl : l < 64) : fn_X9_bits F (nI l) S = some (nI (popN l), S) := by
  have key : ∀ (d i f : Nat), i + d = 6 → d < f → fix3 (b_X9_bits_4 F) f (nI l) (nI (sumTo (fun k => l / 2 ^ k % 2) i)) (nI i) S = some (nI (popN l), S) := by
    intro d
    induction d with
    | zero =>
      intro i f hi hf
      obtain ⟨f, rfl⟩ : ∃ f', f = f' + 1 := ⟨f - 1, by omega⟩
      obtain rfl : i = 6 := by omega
      rfl
    | succ d ih =>
      intro i f hi hf
      obtain ⟨f, rfl⟩ : ∃ f', f = f' + 1 := ⟨f - 1, by omega⟩
      have ih := ih (i + 1) f (by omega) (by omega)
      show b_X9_bits_4 F (fix3 (b_X9_bits_4 F) f) (nI l) _ (nI i) S = _
      generalize fix3 (b_X9_bits_4 F) f = k at ih ⊢
      unfold b_X9_bits_4
      rw [if_neg (show ¬ (6 : Int32) ≤ nI i from nI_ge (b := 6) (by omega) (by decide)), lo_nI (by omega) (by omega), lt_r, nI_add, nI_1]
      exact ih
  exact key 6 0 F (by omega) (by omega)
def sp_count (K : SkyT) (s : Nat → Nat) (t : Nat) (x : Int32) : Int32 := if x = 0 then nI (kN K) else if x = 1 then nI (s 19) else if x = 2 then nI (kW K) else if x = 3 then nI (kH K) else if x = 4 then nI (kT K) else if x = 5 then nI (kG K) else if x = 6 then nI (popN (s 18)) else if x = 7 then nI (s 20) else if x = 8 then nI t else -1
theorem ca_count {t : Nat} {x : Int32} {B b : Nat} {K : SkyT} {s : Nat → Nat} {F C : Nat} {S : Mem} {V : Vw} {U : Uw} {D : Dw} (h : shC S C) (hF : 10000 < F) (hw9 : wfK K) (hK : cSky S C b K) (hb : D 28 0 = b) (hS : cNt V 28 K s) (hs : wfS K B s) (hB : B < 2 ^ 29) (ht : V 0 1 = nI t) : fn_X8_count F C x (wC S C V U D) = some (sp_count K s t x, wC S C V U D) := by
  have hl6 := hs.lost hw9
  obtain ⟨q0, q6, q7, q8, q9⟩ := hK.2.1
  unfold fn_X8_count sp_count
  simp only [↓eC h, ↓eN h isN28, ↓eK hK.1, ↓bd_r, hb, q0, q6, q7, q8, q9, hS.1, hS.2.1, hS.2.2.1, ht, p_bitCount, bc_pop ⟨s 18, hl6⟩]
  by_cases x0 : x = 0
  · rw [if_pos x0, if_pos x0]
  rw [if_neg x0, if_neg x0]
  by_cases x0 : x = 1
  · rw [if_pos x0, if_pos x0]
  rw [if_neg x0, if_neg x0]
  by_cases x0 : x = 2
  · rw [if_pos x0, if_pos x0]
  rw [if_neg x0, if_neg x0]
  by_cases x0 : x = 3
  · rw [if_pos x0, if_pos x0]
  rw [if_neg x0, if_neg x0]
  by_cases x0 : x = 4
  · rw [if_pos x0, if_pos x0]
  rw [if_neg x0, if_neg x0]
  by_cases x0 : x = 5
  · rw [if_pos x0, if_pos x0]
  rw [if_neg x0, if_neg x0]
  by_cases x0 : x = 6
  · rw [if_pos x0, if_pos x0]
  rw [if_neg x0, if_neg x0]
  by_cases x0 : x = 7
  · rw [if_pos x0, if_pos x0]
  rw [if_neg x0, if_neg x0]
  by_cases x0 : x = 8
  · rw [if_pos x0, if_pos x0]
  rw [if_neg x0, if_neg x0]
theorem ma_count {t : Nat} {x : Int32} {B : Nat} {K : SkyT} {s : Nat → Nat} {F M : Nat} {S : Mem} {V : Vw} {U : Uw} (h : shM S M) (hF : 10000 < F) (hw9 : wfK K) (hK : mSky V 0 K) (hS : mS V s) (hs : wfS K B s) (hB : B < 2 ^ 29) (ht : V 0 1 = nI t) : ∃ V' U', fn_X9_count F M x (wM S M V U) = some (sp_count K s t x, wM S M V' U') ∧ mk V V' ∧ mS V' s := by
  have hl6 := hs.lost hw9
  refine ⟨u2 V 0 0 0, U, ?_, mk.thrown, hS.thrown⟩
  obtain ⟨q0, q1, q2, q3, q4⟩ := hK.1
  have q0 : V 2 0 = nI (kW K) := q0
  have q1 : V 2 1 = nI (kH K) := q1
  have q2 : V 2 2 = nI (kT K) := q2
  have q3 : V 2 3 = nI (kG K) := q3
  have q4 : V 2 4 = nI (kN K) := q4
  have pb := fun S => q_bits (F := F) (S := S) (show 7 < F by omega) hl6
  unfold fn_X9_count f_X9_count_42 f_X9_count_99
  rw [cm_sI h, q_within, bd_r]
  cases hx : inr x 0 8 with
  | false =>
    have hne : ∀ j : Int32, inr j 0 8 = true → ¬ x = j := fun j hj q => by rw [q, hj] at hx; cases hx
    have e9 : sp_count K s t x = -1 := by
      unfold sp_count
      rw [if_neg (hne 0 (by decide)), if_neg (hne 1 (by decide)), if_neg (hne 2 (by decide)), if_neg (hne 3 (by decide)), if_neg (hne 4 (by decide)), if_neg (hne 5 (by decide)), if_neg (hne 6 (by decide)), if_neg (hne 7 (by decide)), if_neg (hne 8 (by decide))]
    rw [e9]
    rfl
  | true =>
    obtain ⟨j, -, hj, rfl⟩ := inr_nI (a := 0) (b := 8) (by decide) (by decide) hx
    show (if (1 : Int32) = 0 then _ else _) = _
    rw [if_neg (by decide)]
    rcases (by omega : j = 0 ∨ j = 1 ∨ j = 2 ∨ j = 3 ∨ j = 4 ∨ j = 5 ∨ j = 6 ∨ j = 7 ∨ j = 8) with rfl | rfl | rfl | rfl | rfl | rfl | rfl | rfl | rfl
    · rw [if_neg (by decide), if_pos (by decide)]
      simp (disch := first | assumption | exact inB_n (by omega) (by decide) | exact inB_l (by omega) (by decide) | exact inB_al (by omega) (by decide) | exact inB_la (by omega) (by decide) | exact inB_j (by assumption) (by omega) (by decide) | exact inB_e (by assumption) (by decide) | omega) only [↓eM h, ↓bd_r, ↓lt_r, ↓Option.bind_some, ↓reduceIte, ix_nI, ix_l, nI_al, nI_la, nI_lm, u2_ne, u2_eq, nI_leI, nI_ltI, nI_eq, le_ln, le_nl, lt_ln, lt_nl, eq_nl, eq_ln, q4]
      rfl
    · rw [if_neg (by decide), if_neg (by decide)]
      simp (disch := first | assumption | exact inB_n (by omega) (by decide) | exact inB_l (by omega) (by decide) | exact inB_al (by omega) (by decide) | exact inB_la (by omega) (by decide) | exact inB_j (by assumption) (by omega) (by decide) | exact inB_e (by assumption) (by decide) | omega) only [↓eM h, ↓bd_r, ↓lt_r, ↓Option.bind_some, ↓reduceIte, ix_nI, ix_l, nI_al, nI_la, nI_lm, u2_ne, u2_eq, nI_leI, nI_ltI, nI_eq, le_ln, le_nl, lt_ln, lt_nl, eq_nl, eq_ln, hS 19 (by omega)]
      rfl
    · rw [if_pos (by decide), if_neg (by decide), show nI 2 - (2 : Int32) = nI 0 from by decide]
      simp (disch := first | assumption | exact inB_n (by omega) (by decide) | exact inB_l (by omega) (by decide) | exact inB_al (by omega) (by decide) | exact inB_la (by omega) (by decide) | exact inB_j (by assumption) (by omega) (by decide) | exact inB_e (by assumption) (by decide) | omega) only [↓eM h, ↓bd_r, ↓lt_r, ↓Option.bind_some, ↓reduceIte, ix_nI, ix_l, nI_al, nI_la, nI_lm, u2_ne, u2_eq, nI_leI, nI_ltI, nI_eq, le_ln, le_nl, lt_ln, lt_nl, eq_nl, eq_ln, q0]
      rfl
    · rw [if_pos (by decide), if_neg (by decide), show nI 3 - (2 : Int32) = nI 1 from by decide]
      simp (disch := first | assumption | exact inB_n (by omega) (by decide) | exact inB_l (by omega) (by decide) | exact inB_al (by omega) (by decide) | exact inB_la (by omega) (by decide) | exact inB_j (by assumption) (by omega) (by decide) | exact inB_e (by assumption) (by decide) | omega) only [↓eM h, ↓bd_r, ↓lt_r, ↓Option.bind_some, ↓reduceIte, ix_nI, ix_l, nI_al, nI_la, nI_lm, u2_ne, u2_eq, nI_leI, nI_ltI, nI_eq, le_ln, le_nl, lt_ln, lt_nl, eq_nl, eq_ln, q1]
      rfl
    · rw [if_pos (by decide), if_neg (by decide), show nI 4 - (2 : Int32) = nI 2 from by decide]
      simp (disch := first | assumption | exact inB_n (by omega) (by decide) | exact inB_l (by omega) (by decide) | exact inB_al (by omega) (by decide) | exact inB_la (by omega) (by decide) | exact inB_j (by assumption) (by omega) (by decide) | exact inB_e (by assumption) (by decide) | omega) only [↓eM h, ↓bd_r, ↓lt_r, ↓Option.bind_some, ↓reduceIte, ix_nI, ix_l, nI_al, nI_la, nI_lm, u2_ne, u2_eq, nI_leI, nI_ltI, nI_eq, le_ln, le_nl, lt_ln, lt_nl, eq_nl, eq_ln, q2]
      rfl
    · rw [if_pos (by decide), if_neg (by decide), show nI 5 - (2 : Int32) = nI 3 from by decide]
      simp (disch := first | assumption | exact inB_n (by omega) (by decide) | exact inB_l (by omega) (by decide) | exact inB_al (by omega) (by decide) | exact inB_la (by omega) (by decide) | exact inB_j (by assumption) (by omega) (by decide) | exact inB_e (by assumption) (by decide) | omega) only [↓eM h, ↓bd_r, ↓lt_r, ↓Option.bind_some, ↓reduceIte, ix_nI, ix_l, nI_al, nI_la, nI_lm, u2_ne, u2_eq, nI_leI, nI_ltI, nI_eq, le_ln, le_nl, lt_ln, lt_nl, eq_nl, eq_ln, q3]
      rfl
    · rw [if_pos (by decide), if_pos (by decide), if_pos (by decide)]
      simp (disch := first | assumption | exact inB_n (by omega) (by decide) | exact inB_l (by omega) (by decide) | exact inB_al (by omega) (by decide) | exact inB_la (by omega) (by decide) | exact inB_j (by assumption) (by omega) (by decide) | exact inB_e (by assumption) (by decide) | omega) only [↓eM h, ↓bd_r, ↓lt_r, ↓Option.bind_some, ↓reduceIte, ix_nI, ix_l, nI_al, nI_la, nI_lm, u2_ne, u2_eq, nI_leI, nI_ltI, nI_eq, le_ln, le_nl, lt_ln, lt_nl, eq_nl, eq_ln, hS 18 (by omega), pb]
      rfl
    · rw [if_pos (by decide), if_pos (by decide), if_neg (by decide), if_pos (by decide)]
      simp (disch := first | assumption | exact inB_n (by omega) (by decide) | exact inB_l (by omega) (by decide) | exact inB_al (by omega) (by decide) | exact inB_la (by omega) (by decide) | exact inB_j (by assumption) (by omega) (by decide) | exact inB_e (by assumption) (by decide) | omega) only [↓eM h, ↓bd_r, ↓lt_r, ↓Option.bind_some, ↓reduceIte, ix_nI, ix_l, nI_al, nI_la, nI_lm, u2_ne, u2_eq, nI_leI, nI_ltI, nI_eq, le_ln, le_nl, lt_ln, lt_nl, eq_nl, eq_ln, hS 20 (by omega)]
      rfl
    · rw [if_pos (by decide), if_pos (by decide), if_neg (by decide), if_neg (by decide)]
      simp (disch := first | assumption | exact inB_n (by omega) (by decide) | exact inB_l (by omega) (by decide) | exact inB_al (by omega) (by decide) | exact inB_la (by omega) (by decide) | exact inB_j (by assumption) (by omega) (by decide) | exact inB_e (by assumption) (by decide) | omega) only [↓eM h, ↓bd_r, ↓lt_r, ↓Option.bind_some, ↓reduceIte, ix_nI, ix_l, nI_al, nI_la, nI_lm, u2_ne, u2_eq, nI_leI, nI_ltI, nI_eq, le_ln, le_nl, lt_ln, lt_nl, eq_nl, eq_ln, ht]
      rfl
