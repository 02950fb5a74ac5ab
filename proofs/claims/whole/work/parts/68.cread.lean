/-! the class reads E -/
def cP (X : Tp) (law p flt nc : Nat) (V : Vw) (U : Uw) : Prop := cL X p V U ∧ V 8 3 = nI flt ∧ V 8 5 = nI nc ∧ V 8 6 = nI law ∧ tx V X ∧ wds U
def fr8 (V V' : Vw) : Prop := (∀ j, j ≠ 8 → j ≠ 9 → j ≠ 13 → V' j = V j) ∧ ∀ k, k ≠ 3 → k ≠ 5 → V' 8 k = V 8 k
theorem fr8.rf {V : Vw} : fr8 V V := ⟨fun _ _ _ _ => rfl, fun _ _ _ => rfl⟩
theorem fr8.tr {V V' V'' : Vw} (a : fr8 V V') (b : fr8 V' V'') : fr8 V V'' := ⟨fun j h8 h9 h13 => (b.1 j h8 h9 h13).trans (a.1 j h8 h9 h13), fun k h3 h5 => (b.2 k h3 h5).trans (a.2 k h3 h5)⟩
theorem fr8.of9 {V V' : Vw} (a : f9 V V') : fr8 V V' := ⟨fun j _ h9 _ => a.1 j h9, fun k _ _ => by rw [a.1 8 (by omega)]⟩
theorem cL_end {X : Tp} {V : Vw} {U : Uw} (h2 : V 9 2 = nI X.1) (h3 : V 9 3 = nI X.1) (h4 : V 9 4 = nI X.1) (h5 : V 9 5 = 35) : cL X X.1 V U :=
  ⟨h2, by rw [lE_n]; exact h3, by rw [lB_n]; exact h4, by rw [lT_n]; exact h5, fun q => by rw [lT_n] at q; omega, fun q => by rw [lT_n] at q; omega⟩
/-- the fault that stands behind another -/
def flt2 (X : Tp) (flt k p : Nat) : Nat := if flt = 0 then k + 16 * lB X p else flt
theorem c_stepP {X : Tp} {law p flt nc : Nat} {F C : Nat} {S : Mem} {V : Vw} {U : Uw} {D : Dw} (h : shC S C) (hF : 10000 < F) (hX : okTp X) (hD : D 9 0 = C + 7) (hp : p ≤ X.1) (hP : cP X law p flt nc V U) :
    ∃ V' U', fn_X1_step F (C + 9) (wC S C V U D) = some ((), wC S C V' U' D) ∧ f9 V V' ∧ u9 U U' ∧ cP X law (lE X p) flt nc V' U' := by
  obtain ⟨hL, h3, h5, h6, ht, hw⟩ := hP
  obtain ⟨V', U', a1, a2, a3, a4⟩ := c_step (F := F) (U := U) h (by omega) hX hD hw (lE_b hp).2 hL.1 hL.2.1 ht
  exact ⟨V', U', a1, a2, a3, a4, by rw [a2.1 8 (by omega)]; exact h3, by rw [a2.1 8 (by omega)]; exact h5, by rw [a2.1 8 (by omega)]; exact h6, ht.keep a2, fun i hi => by rw [a3 11 (by omega)]; exact hw i hi⟩
theorem c_fail {X : Tp} {law p flt nc k : Nat} {x : Int32} {F C : Nat} {S : Mem} {V : Vw} {U : Uw} {D : Dw} (h : shC S C) (hx : x = nI k) (hX : okTp X) (hf : flt < 20000) (hP : cP X law p flt nc V U) :
    ∃ V', fn_X6_fail F (C + 8) x (wC S C V U D) = some ((), wC S C V' U D) ∧ fr8 V V' ∧ V' 13 = V 13 ∧ cP X law X.1 (flt2 X flt k p) nc V' U := by
  obtain ⟨hL, h3, h5, h6, ht, hw⟩ := hP
  have h1 := hX.1
  subst hx
  unfold fn_X6_fail f_X6_fail_23 fn_X1_close
  simp (disch := first | assumption | exact inB_n (by omega) (by decide) | exact inB_l (by omega) (by decide) | exact inB_al (by omega) (by decide) | exact inB_la (by omega) (by decide) | exact inB_j (by assumption) (by omega) (by decide) | exact inB_e (by assumption) (by decide) | omega) only [↓eC h, ↓bd_r, ↓lt_r, ↓Option.bind_some, ↓reduceIte, ix_nI, ix_l, nI_al, nI_la, nI_lm, u2_ne, u2_eq, nI_leI, nI_ltI, nI_eq, le_ln, le_nl, lt_ln, lt_nl, eq_nl, eq_ln, h3]
  unfold flt2
  by_cases hc : flt = 0
  · rw [if_pos hc, if_pos hc]
    simp (disch := first | assumption | exact inB_n (by omega) (by decide) | exact inB_l (by omega) (by decide) | exact inB_al (by omega) (by decide) | exact inB_la (by omega) (by decide) | exact inB_j (by assumption) (by omega) (by decide) | exact inB_e (by assumption) (by decide) | omega) only [↓eC h, ↓bd_r, ↓lt_r, ↓Option.bind_some, ↓reduceIte, ix_nI, ix_l, nI_al, nI_la, nI_lm, u2_ne, u2_eq, nI_leI, nI_ltI, nI_eq, le_ln, le_nl, lt_ln, lt_nl, eq_nl, eq_ln, hL.1, hL.2.2.1, nI_add]
    refine ⟨_, rfl, ⟨fun j h8 h9 _ => ?_, fun i i3 _ => ?_⟩, ?_, cL_end ?_ ?_ ?_ ?_, ?_, ?_, ?_, fun i hi => ?_, hw⟩
    · rw [u2_row h9, u2_row h9, u2_row h9, u2_row h8]
    · rw [u2_row (by omega), u2_row (by omega), u2_row (by omega), u2_ne (Or.inr i3)]
    · rw [u2_row (by omega), u2_row (by omega), u2_row (by omega), u2_row (by omega)]
    · rw [u2_ne (by omega), u2_ne (by omega), u2_ne (by omega), u2_row (by omega)]; exact hL.1
    · rw [u2_ne (by omega), u2_ne (by omega), u2_eq ⟨rfl, rfl⟩]
    · rw [u2_ne (by omega), u2_eq ⟨rfl, rfl⟩]
    · rw [u2_eq ⟨rfl, rfl⟩]
    · rw [u2_row (by omega), u2_row (by omega), u2_row (by omega), u2_eq ⟨rfl, rfl⟩]
    · rw [u2_row (by omega), u2_row (by omega), u2_row (by omega), u2_ne (by omega)]; exact h5
    · rw [u2_row (by omega), u2_row (by omega), u2_row (by omega), u2_ne (by omega)]; exact h6
    · rw [u2_row (by omega), u2_row (by omega), u2_row (by omega), u2_row (by omega)]; exact ht i hi
  · rw [if_neg hc, if_neg hc]
    simp (disch := first | assumption | exact inB_n (by omega) (by decide) | exact inB_l (by omega) (by decide) | exact inB_al (by omega) (by decide) | exact inB_la (by omega) (by decide) | exact inB_j (by assumption) (by omega) (by decide) | exact inB_e (by assumption) (by decide) | omega) only [↓eC h, ↓bd_r, ↓lt_r, ↓Option.bind_some, ↓reduceIte, ix_nI, ix_l, nI_al, nI_la, nI_lm, u2_ne, u2_eq, nI_leI, nI_ltI, nI_eq, le_ln, le_nl, lt_ln, lt_nl, eq_nl, eq_ln, hL.1]
    refine ⟨_, rfl, ⟨fun j h8 h9 _ => ?_, fun i i3 _ => ?_⟩, ?_, cL_end ?_ ?_ ?_ ?_, ?_, ?_, ?_, fun i hi => ?_, hw⟩
    · rw [u2_row h9, u2_row h9, u2_row h9]
    · rw [u2_row (by omega), u2_row (by omega), u2_row (by omega)]
    · rw [u2_row (by omega), u2_row (by omega), u2_row (by omega)]
    · rw [u2_ne (by omega), u2_ne (by omega), u2_ne (by omega)]; exact hL.1
    · rw [u2_ne (by omega), u2_ne (by omega), u2_eq ⟨rfl, rfl⟩]
    · rw [u2_ne (by omega), u2_eq ⟨rfl, rfl⟩]
    · rw [u2_eq ⟨rfl, rfl⟩]
    · rw [u2_row (by omega), u2_row (by omega), u2_row (by omega)]; exact h3
    · rw [u2_row (by omega), u2_row (by omega), u2_row (by omega)]; exact h5
    · rw [u2_row (by omega), u2_row (by omega), u2_row (by omega)]; exact h6
    · rw [u2_row (by omega), u2_row (by omega), u2_row (by omega)]; exact ht i hi
theorem c_put {X : Tp} {law p flt nc : Nat} {x : Int32} {F C : Nat} {S : Mem} {V : Vw} {U : Uw} {D : Dw} (h : shC S C) (hn : nc < 1000) (hP : cP X law p flt nc V U) :
    ∃ V', fn_X6_put F (C + 8) x (wC S C V U D) = some ((), wC S C V' U D) ∧ fr8 V V' ∧ V' 13 nc = x ∧ (∀ i, i ≠ nc → V' 13 i = V 13 i) ∧ cP X law p flt (nc + 1) V' U := by
  obtain ⟨hL, h3, h5, h6, ht, hw⟩ := hP
  have i9 : inB (nI nc) 1000 := inB_n hn (by decide)
  unfold fn_X6_put f_X6_put_32
  simp (disch := first | assumption | exact inB_n (by omega) (by decide) | exact inB_l (by omega) (by decide) | exact inB_al (by omega) (by decide) | exact inB_la (by omega) (by decide) | exact inB_j (by assumption) (by omega) (by decide) | exact inB_e (by assumption) (by decide) | omega) only [↓eC h, ↓bd_r, ↓lt_r, ↓Option.bind_some, ↓reduceIte, ix_nI, ix_l, nI_al, nI_la, nI_lm, u2_ne, u2_eq, nI_leI, nI_ltI, nI_eq, le_ln, le_nl, lt_ln, lt_nl, eq_nl, eq_ln, h5, if_neg (show ¬ 1000 ≤ nc by omega)]
  refine ⟨_, rfl, ⟨fun j h8 h9 h13 => ?_, fun i i3 i5 => ?_⟩, ?_, fun i hi => ?_, ⟨?_, ?_, ?_, ?_, ?_, hL.2.2.2.2.2⟩, ?_, ?_, ?_, fun i hi => ?_, hw⟩
  · rw [u2_row h8, u2_row h13]
  · rw [u2_ne (Or.inr i5), u2_row (by omega)]
  · rw [u2_row (by omega), u2_eq ⟨rfl, rfl⟩]
  · rw [u2_row (by omega), u2_ne (Or.inr hi)]
  · rw [u2_row (by omega), u2_row (by omega)]; exact hL.1
  · rw [u2_row (by omega), u2_row (by omega)]; exact hL.2.1
  · rw [u2_row (by omega), u2_row (by omega)]; exact hL.2.2.1
  · rw [u2_row (by omega), u2_row (by omega)]; exact hL.2.2.2.1
  · rw [u2_row (by omega), u2_row (by omega)]; exact hL.2.2.2.2.1
  · rw [u2_ne (by omega), u2_row (by omega)]; exact h3
  · rw [u2_eq ⟨rfl, rfl⟩]
  · rw [u2_ne (by omega), u2_row (by omega)]; exact h6
  · rw [u2_row (by omega), u2_row (by omega)]; exact ht i hi
theorem flt2_b {X : Tp} {flt k p : Nat} (hX : okTp X) (hp : p ≤ X.1) (hk : 1 ≤ k ∧ k ≤ 5) (hf : flt < 20000) : 0 < flt2 X flt k p ∧ flt2 X flt k p < 20000 := by
  have h1 := hX.1
  have h2 := lB_b hp
  unfold flt2
  split <;> omega
theorem c_expect {X : Tp} {law p flt nc t : Nat} {x : Int32} {F C : Nat} {S : Mem} {V : Vw} {U : Uw} {D : Dw} (h : shC S C) (hF : 10000 < F) (hX : okTp X) (hD : D 9 0 = C + 7) (hx : x = nI t) (ht9 : t < 40) (hp : p ≤ X.1) (hf : flt < 20000) (hP : cP X law p flt nc V U) :
    ∃ V' U', fn_X6_expect F (C + 8) x (wC S C V U D) = some ((), wC S C V' U' D) ∧ fr8 V V' ∧ u9 U U' ∧ V' 13 = V 13 ∧ (if lT X p = t then cP X law (lE X p) flt nc V' U' else cP X law X.1 (flt2 X flt 1 p) nc V' U') := by
  have hT := lT_le (X := X) (p := p)
  subst hx
  unfold fn_X6_expect f_X6_expect_16
  simp (disch := first | assumption | exact inB_n (by omega) (by decide) | exact inB_l (by omega) (by decide) | exact inB_al (by omega) (by decide) | exact inB_la (by omega) (by decide) | exact inB_j (by assumption) (by omega) (by decide) | exact inB_e (by assumption) (by decide) | omega) only [↓eC h, ↓bd_r, ↓lt_r, ↓Option.bind_some, ↓reduceIte, ix_nI, ix_l, nI_al, nI_la, nI_lm, u2_ne, u2_eq, nI_leI, nI_ltI, nI_eq, le_ln, le_nl, lt_ln, lt_nl, eq_nl, eq_ln, hP.1.2.2.2.1]
  by_cases hc : lT X p = t
  · rw [if_pos hc]
    obtain ⟨V', U', a1, a2, a3, a4⟩ := c_stepP (F := F) h hF hX hD hp hP
    rw [a1]
    exact ⟨V', U', rfl, fr8.of9 a2, a3, a2.1 13 (by omega), by rw [if_pos hc]; exact a4⟩
  · rw [if_neg hc]
    obtain ⟨V1, e1, b1', b2, b3⟩ := c_fail (F := F) (k := 1) (x := 1) (D := D) h rfl hX hf hP
    obtain ⟨V', U', a1, a2, a3, a4⟩ := c_stepP (F := F) h hF hX hD (Nat.le_refl _) b3
    rw [lE_n] at a4
    simp (disch := first | assumption | exact inB_n (by omega) (by decide) | exact inB_l (by omega) (by decide) | exact inB_al (by omega) (by decide) | exact inB_la (by omega) (by decide) | exact inB_j (by assumption) (by omega) (by decide) | exact inB_e (by assumption) (by decide) | omega) only [↓eC h, ↓bd_r, ↓lt_r, ↓Option.bind_some, ↓reduceIte, ix_nI, ix_l, nI_al, nI_la, nI_lm, u2_ne, u2_eq, nI_leI, nI_ltI, nI_eq, le_ln, le_nl, lt_ln, lt_nl, eq_nl, eq_ln, e1, a1]
    exact ⟨V', U', rfl, b1'.tr (fr8.of9 a2), a3, (a2.1 13 (by omega)).trans b2, by rw [if_neg hc]; exact a4⟩
/-- what a reading leaves -/
def outC (X : Tp) (law p nc h : Nat) (r : Res) (V : Vw) (U : Uw) (V' : Vw) (U' : Uw) : Prop := fr8 V V' ∧ u9 U U' ∧ (∀ i, i < nc → V' 13 i = V 13 i) ∧ match r with
  | .inl k => ∃ nc', nc ≤ nc' ∧ nc' + p ≤ nc + X.1 ∧ 0 < k ∧ k < 20000 ∧ cP X law X.1 k nc' V' U'
  | .inr (q, f) => ∃ nc', nc ≤ nc' ∧ nc' + p ≤ nc + q ∧ cP X law q 0 nc' V' U' ∧ segC law (V' 13) nc nc' h f
def rpG (X : Tp) (law : Nat) (S : Mem) (C : Nat) (D : Dw) (h : Nat) (x1 : Int32) (rp : Nat → Int32 → Mem → Option (Unit × Mem)) (P : Nat → Res) : Prop :=
  (∀ p nc V U, p ≤ X.1 → nc + X.1 ≤ 999 + p → cP X law p 0 nc V U → ∃ V' U', rp (C + 8) x1 (wC S C V U D) = some ((), wC S C V' U' D) ∧ outC X law p nc h (P p) V U V' U') ∧
  ∀ flt nc V U, 0 < flt → flt < 20000 → cP X law X.1 flt nc V U → ∃ V' U', rp (C + 8) x1 (wC S C V U D) = some ((), wC S C V' U' D) ∧ fr8 V V' ∧ u9 U U' ∧ V' 13 = V 13 ∧ cP X law X.1 flt nc V' U'
theorem outC.up {X : Tp} {law p nc h h' : Nat} {r : Res} {V : Vw} {U : Uw} {V' : Vw} {U' : Uw} (o : outC X law p nc h r V U V' U') (e : h ≤ h') : outC X law p nc h' r V U V' U' := by
  obtain ⟨a, b, c, d⟩ := o
  refine ⟨a, b, c, ?_⟩
  cases r with
  | inl k => exact d
  | inr z =>
    obtain ⟨q, f⟩ := z
    obtain ⟨nc', d1, d2, d3, d4⟩ := d
    exact ⟨nc', d1, d2, d3, d4.up e⟩
theorem segOp {law : Nat} {cd : Nat → Int32} {i j k h op : Nat} {f g : Den} (a : segC law cd i j (h + 1) f) (b : segC law cd j k h g) (h1 : op < 40) (h2 : op ≠ 17) (hc : cd k = (10000 : Int32) + nI op) (hh : 1 ≤ h) : segC law cd i (k + 1) (h + 1) (fun v => joinedF (nI op) (f v) (g v)) := by
  have ha := a.1
  have hb := b.1
  refine ⟨by omega, fun facts t V ht => ?_⟩
  obtain ⟨V1, a1, a2, a3⟩ := a.2 facts t V (by omega)
  obtain ⟨V2, b1, b2, b3⟩ := b.2 facts (t + 1) V1 (by omega)
  have e2 : rkRun cd facts 1 k (t + 2) V2 = some (t + 1, u2 V2 17 t (joinedF (nI op) (V2 17 t) (V2 17 (t + 1)))) := by
    show (rkStep facts (cd k) (t + 2) V2).bind _ = _
    rw [hc, opC h1 h2 facts (t + 2) V2 (by omega) (by omega)]
    rfl
  refine ⟨u2 V2 17 t (joinedF (nI op) (V2 17 t) (V2 17 (t + 1))), ?_, (u2_eq ⟨rfl, rfl⟩).trans ?_, fun m hm => ?_⟩
  · rw [show k + 1 - i = (j - i) + ((k - j) + 1) by omega, rkRun_app, a1]
    show rkRun cd facts ((k - j) + 1) (i + (j - i)) (t + 1) V1 = _
    rw [show i + (j - i) = j by omega, rkRun_app, b1]
    show rkRun cd facts 1 (j + (k - j)) (t + 1 + 1) V2 = _
    rw [show j + (k - j) = k by omega]
    exact e2
  · rw [b3 t (by omega), a2, b2]
  · rw [u2_ne (Or.inr (by omega)), b3 m (by omega), a3 m hm]
theorem L_readProduct {X : Tp} {law hh p0 nc0 : Nat} {x1 : Int32} {rp : Nat → Int32 → Mem → Option (Unit × Mem)} {PP : Nat → Res} {F C : Nat} {S : Mem} {D : Dw} (h : shC S C) (hF : 10000 < F) (hX : okTp X) (hD : D 9 0 = C + 7) (h1h : 1 ≤ hh)
    (hQ : rpG X law S C D hh x1 rp PP) (hA : ∀ p, p ≤ X.1 → adv X p (PP p)) (hn0 : nc0 + X.1 ≤ 999 + p0) : ∀ (n i fu p nc : Nat) (f : Den) (V : Vw) (U : Uw), i + n = 1000 → n < fu → p0 ≤ p → p ≤ X.1 → nc0 ≤ nc → nc + p0 ≤ nc0 + p → cP X law p 0 nc V U → segC law (V 13) nc0 nc (hh + 1) f →
    ∃ V' U', fix3 (b_X6_readProduct_7 F rp) fu (C + 8) x1 (nI i) (wC S C V U D) = some ((), wC S C V' U' D) ∧ fr8 V V' ∧ u9 U U' ∧ (∀ i, i < nc0 → V' 13 i = V 13 i) ∧ match opL X o33 PP n p f with
    | .inl k => ∃ nc', nc0 ≤ nc' ∧ nc' + p0 ≤ nc0 + X.1 ∧ 0 < k ∧ k < 20000 ∧ cP X law X.1 k nc' V' U'
    | .inr (q, f) => ∃ nc', nc0 ≤ nc' ∧ nc' + p0 ≤ nc0 + q ∧ cP X law q 0 nc' V' U' ∧ segC law (V' 13) nc0 nc' (hh + 1) f := by
  have hX1 := hX.1
  intro n
  induction n with
  | zero =>
    intro i fu p nc f V U hi hfu hp0 hp hnc hncp hP hs
    obtain ⟨fu, rfl⟩ : ∃ f', fu = f' + 1 := ⟨fu - 1, by omega⟩
    obtain rfl : i = 1000 := by omega
    exact ⟨V, U, rfl, fr8.rf, u9.rf, fun _ _ => rfl, nc, hnc, hncp, hP, hs⟩
  | succ n ih =>
    intro i fu p nc f V U hi hfu hp0 hp hnc hncp hP hs
    obtain ⟨fu, rfl⟩ : ∃ f', fu = f' + 1 := ⟨fu - 1, by omega⟩
    have hT := lT_le (X := X) (p := p)
    have e1 : nI i + (1 : Int32) = nI (i + 1) := nI_1 i
    show ∃ V' U', b_X6_readProduct_7 F rp (fix3 (b_X6_readProduct_7 F rp) fu) (C + 8) x1 (nI i) (wC S C V U D) = _ ∧ _
    have hdead : ∀ k nc V U, cP X law X.1 k nc V U → fix3 (b_X6_readProduct_7 F rp) fu (C + 8) x1 (nI (i + 1)) (wC S C V U D) = some ((), wC S C V U D) := by
      intro k nc V U hP
      obtain ⟨fv, rfl⟩ : ∃ f', fu = f' + 1 := ⟨fu - 1, by omega⟩
      show b_X6_readProduct_7 F rp (fix3 (b_X6_readProduct_7 F rp) fv) (C + 8) x1 (nI (i + 1)) (wC S C V U D) = _
      have e5 : V 9 5 = nI 35 := by have := hP.1.2.2.2.1; rw [lT_n] at this; exact this
      unfold b_X6_readProduct_7 f_X6_readProduct_51
      simp (disch := first | assumption | exact inB_n (by omega) (by decide) | exact inB_l (by omega) (by decide) | exact inB_al (by omega) (by decide) | exact inB_la (by omega) (by decide) | exact inB_j (by assumption) (by omega) (by decide) | exact inB_e (by assumption) (by decide) | omega) only [↓eC h, ↓bd_r, ↓lt_r, ↓Option.bind_some, ↓reduceIte, ix_nI, ix_l, nI_al, nI_la, nI_lm, u2_ne, u2_eq, nI_leI, nI_ltI, nI_eq, le_ln, le_nl, lt_ln, lt_nl, eq_nl, eq_ln, e5]
      simp only [ite_self, show ¬ (35 = 33) from by decide, show ¬ (35 = 31) from by decide, show ¬ (35 = 32) from by decide, show ¬ (35 = 18) from by decide, show ¬ (35 = 19) from by decide, if_false, ↓reduceIte]
    have ih := fun p nc f V U => ih (i + 1) fu p nc f V U (by omega) (by omega)
    generalize fix3 (b_X6_readProduct_7 F rp) fu = k7 at ih hdead ⊢
    have et := hP.1.2.2.2.1
    have i1000 : ¬ (1000 : Int32) ≤ nI i := nI_ge (b := 1000) (by omega) (by decide)
    unfold opL
    cases hO : o33 (lT X p) with
    | false =>
      rw [if_neg (by decide)]
      refine ⟨V, U, ?_, fr8.rf, u9.rf, fun _ _ => rfl, nc, hnc, hncp, hP, hs⟩
      unfold o33 at hO
      unfold b_X6_readProduct_7 f_X6_readProduct_51
      rw [if_neg i1000]
      simp (disch := first | assumption | exact inB_n (by omega) (by decide) | exact inB_l (by omega) (by decide) | exact inB_al (by omega) (by decide) | exact inB_la (by omega) (by decide) | exact inB_j (by assumption) (by omega) (by decide) | exact inB_e (by assumption) (by decide) | omega) only [↓eC h, ↓bd_r, ↓lt_r, ↓Option.bind_some, ↓reduceIte, ix_nI, ix_l, nI_al, nI_la, nI_lm, u2_ne, u2_eq, nI_leI, nI_ltI, nI_eq, le_ln, le_nl, lt_ln, lt_nl, eq_nl, eq_ln, et]
      rw [if_neg (of_decide_eq_false hO)]
    | true =>
      rw [if_pos rfl]
      have ha := lE_adv hp rfl (o_ne (O := o33) rfl hO)
      have hop : lT X p < 40 ∧ lT X p ≠ 17 := by
        unfold o33 at hO
        have := of_decide_eq_true hO
        omega
      obtain ⟨V1, U1, a1, a2, a3, a4⟩ := c_stepP (F := F) h hF hX hD hp hP
      obtain ⟨V2, U2, c1, c2, c3, c4, c5⟩ := hQ.1 (lE X p) nc V1 U1 ha.2 (by omega) a4
      have key : ∀ x : Int32, x = (10000 : Int32) + nI (lT X p) → ∀ nc2 flt r, cP X law r flt nc2 V2 U2 → nc2 < 1000 → ∃ V3, fr8 V2 V3 ∧ V3 13 nc2 = (10000 : Int32) + nI (lT X p) ∧ (∀ i, i ≠ nc2 → V3 13 i = V2 13 i) ∧ cP X law r flt (nc2 + 1) V3 U2 ∧ b_X6_readProduct_7 F rp k7 (C + 8) x1 (nI i) (wC S C V U D) = k7 (C + 8) x1 (nI (i + 1)) (wC S C V3 U2 D) := by
        intro x hx nc2 flt r hP2 hn2
        obtain ⟨V3, d1, d2, d3, d4, d5⟩ := c_put (F := F) (x := x) (D := D) h hn2 hP2
        refine ⟨V3, d2, d3.trans hx, d4, d5, ?_⟩
        unfold o33 at hO
        unfold b_X6_readProduct_7
        rw [if_neg i1000]
        have h33 := of_decide_eq_true hO
        have ex : x = (10033 : Int32) := by rw [hx, h33]; rfl
        rw [ex] at d1
        simp (disch := first | assumption | exact inB_n (by omega) (by decide) | exact inB_l (by omega) (by decide) | exact inB_al (by omega) (by decide) | exact inB_la (by omega) (by decide) | exact inB_j (by assumption) (by omega) (by decide) | exact inB_e (by assumption) (by decide) | omega) only [↓eC h, ↓bd_r, ↓lt_r, ↓Option.bind_some, ↓reduceIte, ix_nI, ix_l, nI_al, nI_la, nI_lm, u2_ne, u2_eq, nI_leI, nI_ltI, nI_eq, le_ln, le_nl, lt_ln, lt_nl, eq_nl, eq_ln, et, if_pos h33, a1, c1, d1]
      cases hr : PP (lE X p) with
      | inl k =>
        rw [hr] at c5
        obtain ⟨nc2, n1, n2, k0, k2, hP2⟩ := c5
        obtain ⟨V3, d2, d3, d4, d5, e9⟩ := key _ rfl nc2 k X.1 hP2 (by omega)
        rw [e9, hdead k _ V3 U2 d5]
        refine ⟨V3, U2, rfl, ((fr8.of9 a2).tr c2).tr d2, a3.tr c3, fun i hi => ?_, nc2 + 1, by omega, by omega, k0, k2, d5⟩
        rw [d4 i (by omega), c4 i (by omega), a2.1 13 (by omega)]
      | inr z =>
        obtain ⟨q, g⟩ := z
        rw [hr] at c5
        obtain ⟨nc2, n1, n2, hP2, hs2⟩ := c5
        have hq := hA (lE X p) ha.2 q g hr
        obtain ⟨V3, d2, d3, d4, d5, e9⟩ := key _ rfl nc2 0 q hP2 (by omega)
        rw [e9]
        have s1 : segC law (V3 13) nc0 nc (hh + 1) f := hs.cg (fun k h1 h2 => by rw [d4 k (by omega), c4 k (by omega), a2.1 13 (by omega)])
        have s2 : segC law (V3 13) nc nc2 hh g := hs2.cg (fun k h1 h2 => by rw [d4 k (by omega)])
        have s3 := segOp s1 s2 hop.1 hop.2 d3 h1h
        obtain ⟨V4, U4, x1', x2, x3, x4, x5⟩ := ih q (nc2 + 1) _ V3 U2 (by omega) hq.2 (by omega) (by omega) d5 s3
        exact ⟨V4, U4, x1', (((fr8.of9 a2).tr c2).tr d2).tr x2, (a3.tr c3).tr x3, fun i hi => by rw [x4 i hi, d4 i (by omega), c4 i (by omega), a2.1 13 (by omega)], x5⟩
theorem g_readProduct {X : Tp} {law hh : Nat} {x1 : Int32} {rp : Nat → Int32 → Mem → Option (Unit × Mem)} {PP : Nat → Res} {F C : Nat} {S : Mem} {D : Dw} (h : shC S C) (hF : 10000 < F) (hX : okTp X) (hD : D 9 0 = C + 7) (h1h : 1 ≤ hh)
    (hQ : rpG X law S C D hh x1 rp PP) (hA : ∀ p, p ≤ X.1 → adv X p (PP p)) : rpG X law S C D (hh + 1) x1 (fn_X6_readProduct F rp) (pProd X PP) := by
  have hX1 := hX.1
  refine ⟨fun p nc V U hp hn hP => ?_, fun flt nc V U hf0 hf1 hP => ?_⟩
  · obtain ⟨V1, U1, a1, a2, a3, a4, a5⟩ := hQ.1 p nc V U hp hn hP
    unfold fn_X6_readProduct
    simp (disch := first | assumption | exact inB_n (by omega) (by decide) | exact inB_l (by omega) (by decide) | exact inB_al (by omega) (by decide) | exact inB_la (by omega) (by decide) | exact inB_j (by assumption) (by omega) (by decide) | exact inB_e (by assumption) (by decide) | omega) only [↓eC h, ↓bd_r, ↓lt_r, ↓Option.bind_some, ↓reduceIte, ix_nI, ix_l, nI_al, nI_la, nI_lm, u2_ne, u2_eq, nI_leI, nI_ltI, nI_eq, le_ln, le_nl, lt_ln, lt_nl, eq_nl, eq_ln, a1]
    unfold pProd chain
    cases hr : PP p with
    | inl k =>
      rw [hr] at a5
      obtain ⟨nc2, n1, n2, k0, k2, hP2⟩ := a5
      have e5 : V1 9 5 = nI 35 := by have := hP2.1.2.2.2.1; rw [lT_n] at this; exact this
      obtain ⟨fv, rfl⟩ : ∃ f', F = f' + 1 := ⟨F - 1, by omega⟩
      refine ⟨V1, U1, ?_, a2, a3, a4, nc2, n1, n2, k0, k2, hP2⟩
      show b_X6_readProduct_7 (fv + 1) rp (fix3 (b_X6_readProduct_7 (fv + 1) rp) fv) (C + 8) x1 0 (wC S C V1 U1 D) = _
      unfold b_X6_readProduct_7 f_X6_readProduct_51
      rw [if_neg (by decide)]
      simp (disch := first | assumption | exact inB_n (by omega) (by decide) | exact inB_l (by omega) (by decide) | exact inB_al (by omega) (by decide) | exact inB_la (by omega) (by decide) | exact inB_j (by assumption) (by omega) (by decide) | exact inB_e (by assumption) (by decide) | omega) only [↓eC h, ↓bd_r, ↓lt_r, ↓Option.bind_some, ↓reduceIte, ix_nI, ix_l, nI_al, nI_la, nI_lm, u2_ne, u2_eq, nI_leI, nI_ltI, nI_eq, le_ln, le_nl, lt_ln, lt_nl, eq_nl, eq_ln, e5]
      simp only [ite_self, show ¬ (35 = 33) from by decide, show ¬ (35 = 31) from by decide, show ¬ (35 = 32) from by decide, show ¬ (35 = 18) from by decide, show ¬ (35 = 19) from by decide, if_false, ↓reduceIte]
    | inr z =>
      obtain ⟨q, g⟩ := z
      rw [hr] at a5
      obtain ⟨nc2, n1, n2, hP2, hs2⟩ := a5
      have hq := hA p hp q g hr
      obtain ⟨V2, U2, c1, c2, c3, c4, c5⟩ := L_readProduct (p0 := p) (nc0 := nc) h hF hX hD h1h hQ hA hn 1000 0 F q nc2 g V1 U1 (by omega) (by omega) (by omega) hq.2 n1 n2 hP2 (hs2.up (by omega))
      exact ⟨V2, U2, c1, a2.tr c2, a3.tr c3, fun i hi => (c4 i hi).trans (a4 i hi), c5⟩
  · obtain ⟨V1, U1, a1, a2, a3, a4, a5⟩ := hQ.2 flt nc V U hf0 hf1 hP
    have e5 : V1 9 5 = nI 35 := by have := a5.1.2.2.2.1; rw [lT_n] at this; exact this
    refine ⟨V1, U1, ?_, a2, a3, a4, a5⟩
    obtain ⟨fv, rfl⟩ : ∃ f', F = f' + 1 := ⟨F - 1, by omega⟩
    unfold fn_X6_readProduct
    simp (disch := first | assumption | exact inB_n (by omega) (by decide) | exact inB_l (by omega) (by decide) | exact inB_al (by omega) (by decide) | exact inB_la (by omega) (by decide) | exact inB_j (by assumption) (by omega) (by decide) | exact inB_e (by assumption) (by decide) | omega) only [↓eC h, ↓bd_r, ↓lt_r, ↓Option.bind_some, ↓reduceIte, ix_nI, ix_l, nI_al, nI_la, nI_lm, u2_ne, u2_eq, nI_leI, nI_ltI, nI_eq, le_ln, le_nl, lt_ln, lt_nl, eq_nl, eq_ln, a1]
    show b_X6_readProduct_7 (fv + 1) rp (fix3 (b_X6_readProduct_7 (fv + 1) rp) fv) (C + 8) x1 0 (wC S C V1 U1 D) = _
    unfold b_X6_readProduct_7 f_X6_readProduct_51
    rw [if_neg (by decide)]
    simp (disch := first | assumption | exact inB_n (by omega) (by decide) | exact inB_l (by omega) (by decide) | exact inB_al (by omega) (by decide) | exact inB_la (by omega) (by decide) | exact inB_j (by assumption) (by omega) (by decide) | exact inB_e (by assumption) (by decide) | omega) only [↓eC h, ↓bd_r, ↓lt_r, ↓Option.bind_some, ↓reduceIte, ix_nI, ix_l, nI_al, nI_la, nI_lm, u2_ne, u2_eq, nI_leI, nI_ltI, nI_eq, le_ln, le_nl, lt_ln, lt_nl, eq_nl, eq_ln, e5]
    simp only [ite_self, show ¬ (35 = 33) from by decide, show ¬ (35 = 31) from by decide, show ¬ (35 = 32) from by decide, show ¬ (35 = 18) from by decide, show ¬ (35 = 19) from by decide, if_false, ↓reduceIte]
theorem L_readSum {X : Tp} {law hh p0 nc0 : Nat} {x1 : Int32} {rp : Nat → Int32 → Mem → Option (Unit × Mem)} {PP : Nat → Res} {F C : Nat} {S : Mem} {D : Dw} (h : shC S C) (hF : 10000 < F) (hX : okTp X) (hD : D 9 0 = C + 7) (h1h : 1 ≤ hh)
    (hQ : rpG X law S C D hh x1 (fn_X6_readProduct F rp) (pProd X PP)) (hA : ∀ p, p ≤ X.1 → adv X p ((pProd X PP) p)) (hn0 : nc0 + X.1 ≤ 999 + p0) : ∀ (n i fu p nc : Nat) (f : Den) (V : Vw) (U : Uw), i + n = 1000 → n < fu → p0 ≤ p → p ≤ X.1 → nc0 ≤ nc → nc + p0 ≤ nc0 + p → cP X law p 0 nc V U → segC law (V 13) nc0 nc (hh + 1) f →
    ∃ V' U', fix3 (b_X6_readSum_7 F rp) fu (C + 8) x1 (nI i) (wC S C V U D) = some ((), wC S C V' U' D) ∧ fr8 V V' ∧ u9 U U' ∧ (∀ i, i < nc0 → V' 13 i = V 13 i) ∧ match opL X o31 (pProd X PP) n p f with
    | .inl k => ∃ nc', nc0 ≤ nc' ∧ nc' + p0 ≤ nc0 + X.1 ∧ 0 < k ∧ k < 20000 ∧ cP X law X.1 k nc' V' U'
    | .inr (q, f) => ∃ nc', nc0 ≤ nc' ∧ nc' + p0 ≤ nc0 + q ∧ cP X law q 0 nc' V' U' ∧ segC law (V' 13) nc0 nc' (hh + 1) f := by
  have hX1 := hX.1
  intro n
  induction n with
  | zero =>
    intro i fu p nc f V U hi hfu hp0 hp hnc hncp hP hs
    obtain ⟨fu, rfl⟩ : ∃ f', fu = f' + 1 := ⟨fu - 1, by omega⟩
    obtain rfl : i = 1000 := by omega
    exact ⟨V, U, rfl, fr8.rf, u9.rf, fun _ _ => rfl, nc, hnc, hncp, hP, hs⟩
  | succ n ih =>
    intro i fu p nc f V U hi hfu hp0 hp hnc hncp hP hs
    obtain ⟨fu, rfl⟩ : ∃ f', fu = f' + 1 := ⟨fu - 1, by omega⟩
    have hT := lT_le (X := X) (p := p)
    have e1 : nI i + (1 : Int32) = nI (i + 1) := nI_1 i
    show ∃ V' U', b_X6_readSum_7 F rp (fix3 (b_X6_readSum_7 F rp) fu) (C + 8) x1 (nI i) (wC S C V U D) = _ ∧ _
    have hdead : ∀ k nc V U, cP X law X.1 k nc V U → fix3 (b_X6_readSum_7 F rp) fu (C + 8) x1 (nI (i + 1)) (wC S C V U D) = some ((), wC S C V U D) := by
      intro k nc V U hP
      obtain ⟨fv, rfl⟩ : ∃ f', fu = f' + 1 := ⟨fu - 1, by omega⟩
      show b_X6_readSum_7 F rp (fix3 (b_X6_readSum_7 F rp) fv) (C + 8) x1 (nI (i + 1)) (wC S C V U D) = _
      have e5 : V 9 5 = nI 35 := by have := hP.1.2.2.2.1; rw [lT_n] at this; exact this
      unfold b_X6_readSum_7 f_X6_readSum_73
      simp (disch := first | assumption | exact inB_n (by omega) (by decide) | exact inB_l (by omega) (by decide) | exact inB_al (by omega) (by decide) | exact inB_la (by omega) (by decide) | exact inB_j (by assumption) (by omega) (by decide) | exact inB_e (by assumption) (by decide) | omega) only [↓eC h, ↓bd_r, ↓lt_r, ↓Option.bind_some, ↓reduceIte, ix_nI, ix_l, nI_al, nI_la, nI_lm, u2_ne, u2_eq, nI_leI, nI_ltI, nI_eq, le_ln, le_nl, lt_ln, lt_nl, eq_nl, eq_ln, e5]
      simp only [ite_self, show ¬ (35 = 33) from by decide, show ¬ (35 = 31) from by decide, show ¬ (35 = 32) from by decide, show ¬ (35 = 18) from by decide, show ¬ (35 = 19) from by decide, if_false, ↓reduceIte]
    have ih := fun p nc f V U => ih (i + 1) fu p nc f V U (by omega) (by omega)
    generalize fix3 (b_X6_readSum_7 F rp) fu = k7 at ih hdead ⊢
    have et := hP.1.2.2.2.1
    have i1000 : ¬ (1000 : Int32) ≤ nI i := nI_ge (b := 1000) (by omega) (by decide)
    unfold opL
    cases hO : o31 (lT X p) with
    | false =>
      rw [if_neg (by decide)]
      refine ⟨V, U, ?_, fr8.rf, u9.rf, fun _ _ => rfl, nc, hnc, hncp, hP, hs⟩
      unfold o31 at hO
      unfold b_X6_readSum_7 f_X6_readSum_73
      rw [if_neg i1000]
      simp (disch := first | assumption | exact inB_n (by omega) (by decide) | exact inB_l (by omega) (by decide) | exact inB_al (by omega) (by decide) | exact inB_la (by omega) (by decide) | exact inB_j (by assumption) (by omega) (by decide) | exact inB_e (by assumption) (by decide) | omega) only [↓eC h, ↓bd_r, ↓lt_r, ↓Option.bind_some, ↓reduceIte, ix_nI, ix_l, nI_al, nI_la, nI_lm, u2_ne, u2_eq, nI_leI, nI_ltI, nI_eq, le_ln, le_nl, lt_ln, lt_nl, eq_nl, eq_ln, et]
      rw [Bool.or_eq_false_iff] at hO
      rw [if_neg (of_decide_eq_false hO.1), if_neg (of_decide_eq_false hO.2)]
    | true =>
      rw [if_pos rfl]
      have ha := lE_adv hp rfl (o_ne (O := o31) rfl hO)
      have hop : lT X p < 40 ∧ lT X p ≠ 17 := by
        unfold o31 at hO
        rw [Bool.or_eq_true, decide_eq_true_iff, decide_eq_true_iff] at hO
        omega
      obtain ⟨V1, U1, a1, a2, a3, a4⟩ := c_stepP (F := F) h hF hX hD hp hP
      obtain ⟨V2, U2, c1, c2, c3, c4, c5⟩ := hQ.1 (lE X p) nc V1 U1 ha.2 (by omega) a4
      have key : ∀ x : Int32, x = (10000 : Int32) + nI (lT X p) → ∀ nc2 flt r, cP X law r flt nc2 V2 U2 → nc2 < 1000 → ∃ V3, fr8 V2 V3 ∧ V3 13 nc2 = (10000 : Int32) + nI (lT X p) ∧ (∀ i, i ≠ nc2 → V3 13 i = V2 13 i) ∧ cP X law r flt (nc2 + 1) V3 U2 ∧ b_X6_readSum_7 F rp k7 (C + 8) x1 (nI i) (wC S C V U D) = k7 (C + 8) x1 (nI (i + 1)) (wC S C V3 U2 D) := by
        intro x hx nc2 flt r hP2 hn2
        obtain ⟨V3, d1, d2, d3, d4, d5⟩ := c_put (F := F) (x := x) (D := D) h hn2 hP2
        refine ⟨V3, d2, d3.trans hx, d4, d5, ?_⟩
        unfold o31 at hO
        unfold b_X6_readSum_7
        rw [if_neg i1000]
        rw [hx, nI_al] at d1
        rw [Bool.or_eq_true, decide_eq_true_iff, decide_eq_true_iff] at hO
        unfold f_X6_readSum_38
        by_cases h31 : lT X p = 31
        · simp (disch := first | assumption | exact inB_n (by omega) (by decide) | exact inB_l (by omega) (by decide) | exact inB_al (by omega) (by decide) | exact inB_la (by omega) (by decide) | exact inB_j (by assumption) (by omega) (by decide) | exact inB_e (by assumption) (by decide) | omega) only [↓eC h, ↓bd_r, ↓lt_r, ↓Option.bind_some, ↓reduceIte, ix_nI, ix_l, nI_al, nI_la, nI_lm, u2_ne, u2_eq, nI_leI, nI_ltI, nI_eq, le_ln, le_nl, lt_ln, lt_nl, eq_nl, eq_ln, et, if_pos h31, a1, c1, d1]
        · have h32 : lT X p = 32 := by omega
          simp (disch := first | assumption | exact inB_n (by omega) (by decide) | exact inB_l (by omega) (by decide) | exact inB_al (by omega) (by decide) | exact inB_la (by omega) (by decide) | exact inB_j (by assumption) (by omega) (by decide) | exact inB_e (by assumption) (by decide) | omega) only [↓eC h, ↓bd_r, ↓lt_r, ↓Option.bind_some, ↓reduceIte, ix_nI, ix_l, nI_al, nI_la, nI_lm, u2_ne, u2_eq, nI_leI, nI_ltI, nI_eq, le_ln, le_nl, lt_ln, lt_nl, eq_nl, eq_ln, et, if_neg h31, if_pos h32, a1, c1, d1]
      cases hr : (pProd X PP) (lE X p) with
      | inl k =>
        rw [hr] at c5
        obtain ⟨nc2, n1, n2, k0, k2, hP2⟩ := c5
        obtain ⟨V3, d2, d3, d4, d5, e9⟩ := key _ rfl nc2 k X.1 hP2 (by omega)
        rw [e9, hdead k _ V3 U2 d5]
        refine ⟨V3, U2, rfl, ((fr8.of9 a2).tr c2).tr d2, a3.tr c3, fun i hi => ?_, nc2 + 1, by omega, by omega, k0, k2, d5⟩
        rw [d4 i (by omega), c4 i (by omega), a2.1 13 (by omega)]
      | inr z =>
        obtain ⟨q, g⟩ := z
        rw [hr] at c5
        obtain ⟨nc2, n1, n2, hP2, hs2⟩ := c5
        have hq := hA (lE X p) ha.2 q g hr
        obtain ⟨V3, d2, d3, d4, d5, e9⟩ := key _ rfl nc2 0 q hP2 (by omega)
        rw [e9]
        have s1 : segC law (V3 13) nc0 nc (hh + 1) f := hs.cg (fun k h1 h2 => by rw [d4 k (by omega), c4 k (by omega), a2.1 13 (by omega)])
        have s2 : segC law (V3 13) nc nc2 hh g := hs2.cg (fun k h1 h2 => by rw [d4 k (by omega)])
        have s3 := segOp s1 s2 hop.1 hop.2 d3 h1h
        obtain ⟨V4, U4, x1', x2, x3, x4, x5⟩ := ih q (nc2 + 1) _ V3 U2 (by omega) hq.2 (by omega) (by omega) d5 s3
        exact ⟨V4, U4, x1', (((fr8.of9 a2).tr c2).tr d2).tr x2, (a3.tr c3).tr x3, fun i hi => by rw [x4 i hi, d4 i (by omega), c4 i (by omega), a2.1 13 (by omega)], x5⟩
theorem g_readSum {X : Tp} {law hh : Nat} {x1 : Int32} {rp : Nat → Int32 → Mem → Option (Unit × Mem)} {PP : Nat → Res} {F C : Nat} {S : Mem} {D : Dw} (h : shC S C) (hF : 10000 < F) (hX : okTp X) (hD : D 9 0 = C + 7) (h1h : 1 ≤ hh)
    (hQ : rpG X law S C D hh x1 (fn_X6_readProduct F rp) (pProd X PP)) (hA : ∀ p, p ≤ X.1 → adv X p ((pProd X PP) p)) : rpG X law S C D (hh + 1) x1 (fn_X6_readSum F rp) (pSum X PP) := by
  have hX1 := hX.1
  refine ⟨fun p nc V U hp hn hP => ?_, fun flt nc V U hf0 hf1 hP => ?_⟩
  · obtain ⟨V1, U1, a1, a2, a3, a4, a5⟩ := hQ.1 p nc V U hp hn hP
    unfold fn_X6_readSum
    simp (disch := first | assumption | exact inB_n (by omega) (by decide) | exact inB_l (by omega) (by decide) | exact inB_al (by omega) (by decide) | exact inB_la (by omega) (by decide) | exact inB_j (by assumption) (by omega) (by decide) | exact inB_e (by assumption) (by decide) | omega) only [↓eC h, ↓bd_r, ↓lt_r, ↓Option.bind_some, ↓reduceIte, ix_nI, ix_l, nI_al, nI_la, nI_lm, u2_ne, u2_eq, nI_leI, nI_ltI, nI_eq, le_ln, le_nl, lt_ln, lt_nl, eq_nl, eq_ln, a1]
    unfold pSum chain
    cases hr : (pProd X PP) p with
    | inl k =>
      rw [hr] at a5
      obtain ⟨nc2, n1, n2, k0, k2, hP2⟩ := a5
      have e5 : V1 9 5 = nI 35 := by have := hP2.1.2.2.2.1; rw [lT_n] at this; exact this
      obtain ⟨fv, rfl⟩ : ∃ f', F = f' + 1 := ⟨F - 1, by omega⟩
      refine ⟨V1, U1, ?_, a2, a3, a4, nc2, n1, n2, k0, k2, hP2⟩
      show b_X6_readSum_7 (fv + 1) rp (fix3 (b_X6_readSum_7 (fv + 1) rp) fv) (C + 8) x1 0 (wC S C V1 U1 D) = _
      unfold b_X6_readSum_7 f_X6_readSum_73
      rw [if_neg (by decide)]
      simp (disch := first | assumption | exact inB_n (by omega) (by decide) | exact inB_l (by omega) (by decide) | exact inB_al (by omega) (by decide) | exact inB_la (by omega) (by decide) | exact inB_j (by assumption) (by omega) (by decide) | exact inB_e (by assumption) (by decide) | omega) only [↓eC h, ↓bd_r, ↓lt_r, ↓Option.bind_some, ↓reduceIte, ix_nI, ix_l, nI_al, nI_la, nI_lm, u2_ne, u2_eq, nI_leI, nI_ltI, nI_eq, le_ln, le_nl, lt_ln, lt_nl, eq_nl, eq_ln, e5]
      simp only [ite_self, show ¬ (35 = 33) from by decide, show ¬ (35 = 31) from by decide, show ¬ (35 = 32) from by decide, show ¬ (35 = 18) from by decide, show ¬ (35 = 19) from by decide, if_false, ↓reduceIte]
    | inr z =>
      obtain ⟨q, g⟩ := z
      rw [hr] at a5
      obtain ⟨nc2, n1, n2, hP2, hs2⟩ := a5
      have hq := hA p hp q g hr
      obtain ⟨V2, U2, c1, c2, c3, c4, c5⟩ := L_readSum (p0 := p) (nc0 := nc) h hF hX hD h1h hQ hA hn 1000 0 F q nc2 g V1 U1 (by omega) (by omega) (by omega) hq.2 n1 n2 hP2 (hs2.up (by omega))
      exact ⟨V2, U2, c1, a2.tr c2, a3.tr c3, fun i hi => (c4 i hi).trans (a4 i hi), c5⟩
  · obtain ⟨V1, U1, a1, a2, a3, a4, a5⟩ := hQ.2 flt nc V U hf0 hf1 hP
    have e5 : V1 9 5 = nI 35 := by have := a5.1.2.2.2.1; rw [lT_n] at this; exact this
    refine ⟨V1, U1, ?_, a2, a3, a4, a5⟩
    obtain ⟨fv, rfl⟩ : ∃ f', F = f' + 1 := ⟨F - 1, by omega⟩
    unfold fn_X6_readSum
    simp (disch := first | assumption | exact inB_n (by omega) (by decide) | exact inB_l (by omega) (by decide) | exact inB_al (by omega) (by decide) | exact inB_la (by omega) (by decide) | exact inB_j (by assumption) (by omega) (by decide) | exact inB_e (by assumption) (by decide) | omega) only [↓eC h, ↓bd_r, ↓lt_r, ↓Option.bind_some, ↓reduceIte, ix_nI, ix_l, nI_al, nI_la, nI_lm, u2_ne, u2_eq, nI_leI, nI_ltI, nI_eq, le_ln, le_nl, lt_ln, lt_nl, eq_nl, eq_ln, a1]
    show b_X6_readSum_7 (fv + 1) rp (fix3 (b_X6_readSum_7 (fv + 1) rp) fv) (C + 8) x1 0 (wC S C V1 U1 D) = _
    unfold b_X6_readSum_7 f_X6_readSum_73
    rw [if_neg (by decide)]
    simp (disch := first | assumption | exact inB_n (by omega) (by decide) | exact inB_l (by omega) (by decide) | exact inB_al (by omega) (by decide) | exact inB_la (by omega) (by decide) | exact inB_j (by assumption) (by omega) (by decide) | exact inB_e (by assumption) (by decide) | omega) only [↓eC h, ↓bd_r, ↓lt_r, ↓Option.bind_some, ↓reduceIte, ix_nI, ix_l, nI_al, nI_la, nI_lm, u2_ne, u2_eq, nI_leI, nI_ltI, nI_eq, le_ln, le_nl, lt_ln, lt_nl, eq_nl, eq_ln, e5]
    simp only [ite_self, show ¬ (35 = 33) from by decide, show ¬ (35 = 31) from by decide, show ¬ (35 = 32) from by decide, show ¬ (35 = 18) from by decide, show ¬ (35 = 19) from by decide, if_false, ↓reduceIte]
theorem g_readTest {X : Tp} {law hh : Nat} {x1 : Int32} {rp : Nat → Int32 → Mem → Option (Unit × Mem)} {PP : Nat → Res} {F C : Nat} {S : Mem} {D : Dw} (h : shC S C) (hF : 10000 < F) (hX : okTp X) (hD : D 9 0 = C + 7) (h1h : 1 ≤ hh)
    (hQ : rpG X law S C D hh x1 (fn_X6_readSum F rp) (pSum X PP)) (hA : ∀ p, p ≤ X.1 → adv X p (pSum X PP p)) : rpG X law S C D (hh + 1) x1 (fn_X6_readTest F rp) (pTest X PP) := by
  have hX1 := hX.1
  have n1 : ¬ (35 = 29) := by decide
  have n2 : ¬ (35 = 30) := by decide
  refine ⟨fun p nc V U hp hn hP => ?_, fun flt nc V U hf0 hf1 hP => ?_⟩
  · obtain ⟨V1, U1, a1, a2, a3, a4, a5⟩ := hQ.1 p nc V U hp hn hP
    unfold fn_X6_readTest f_X6_readTest_58
    unfold pTest
    cases hr : pSum X PP p with
    | inl k =>
      rw [hr] at a5
      obtain ⟨nc2, n1, n2, k0, k2, hP2⟩ := a5
      have e5 : V1 9 5 = nI 35 := by have := hP2.1.2.2.2.1; rw [lT_n] at this; exact this
      refine ⟨V1, U1, ?_, a2, a3, a4, nc2, n1, n2, k0, k2, hP2⟩
      simp (disch := first | assumption | exact inB_n (by omega) (by decide) | exact inB_l (by omega) (by decide) | exact inB_al (by omega) (by decide) | exact inB_la (by omega) (by decide) | exact inB_j (by assumption) (by omega) (by decide) | exact inB_e (by assumption) (by decide) | omega) only [↓eC h, ↓bd_r, ↓lt_r, ↓Option.bind_some, ↓reduceIte, ix_nI, ix_l, nI_al, nI_la, nI_lm, u2_ne, u2_eq, nI_leI, nI_ltI, nI_eq, le_ln, le_nl, lt_ln, lt_nl, eq_nl, eq_ln, a1, e5]
      rfl
    | inr z =>
      obtain ⟨q, f⟩ := z
      rw [hr] at a5
      obtain ⟨nc2, n1, n2, hP2, hs2⟩ := a5
      have hq := hA p hp q f hr
      have hT := lT_le (X := X) (p := q)
      have et := hP2.1.2.2.2.1
      show ∃ V' U', _ ∧ outC X law p nc (hh + 1) (if o29 (lT X q) = true then _ else Sum.inr (q, f)) V U V' U'
      cases hO : o29 (lT X q) with
      | false =>
        rw [if_neg (by decide)]
        refine ⟨V1, U1, ?_, a2, a3, a4, nc2, n1, n2, hP2, hs2.up (by omega)⟩
        unfold o29 at hO
        rw [Bool.or_eq_false_iff] at hO
        simp (disch := first | assumption | exact inB_n (by omega) (by decide) | exact inB_l (by omega) (by decide) | exact inB_al (by omega) (by decide) | exact inB_la (by omega) (by decide) | exact inB_j (by assumption) (by omega) (by decide) | exact inB_e (by assumption) (by decide) | omega) only [↓eC h, ↓bd_r, ↓lt_r, ↓Option.bind_some, ↓reduceIte, ix_nI, ix_l, nI_al, nI_la, nI_lm, u2_ne, u2_eq, nI_leI, nI_ltI, nI_eq, le_ln, le_nl, lt_ln, lt_nl, eq_nl, eq_ln, a1, et, if_neg (of_decide_eq_false hO.1), if_neg (of_decide_eq_false hO.2)]
      | true =>
        rw [if_pos rfl]
        have ha := lE_adv hq.2 rfl (o_ne (O := o29) rfl hO)
        have hop : lT X q < 40 ∧ lT X q ≠ 17 := by
          unfold o29 at hO
          rw [Bool.or_eq_true, decide_eq_true_iff, decide_eq_true_iff] at hO
          omega
        obtain ⟨V2, U2, b1, b2, b3, b4⟩ := c_stepP (F := F) h hF hX hD hq.2 hP2
        obtain ⟨V3, U3, c1, c2, c3, c4, c5⟩ := hQ.1 (lE X q) nc2 V2 U2 ha.2 (by omega) b4
        have key : ∀ nc3 flt r, cP X law r flt nc3 V3 U3 → nc3 < 1000 → ∃ V4, fr8 V3 V4 ∧ V4 13 nc3 = (10000 : Int32) + nI (lT X q) ∧ (∀ i, i ≠ nc3 → V4 13 i = V3 13 i) ∧ cP X law r flt (nc3 + 1) V4 U3 ∧ fn_X6_readTest F rp (C + 8) x1 (wC S C V U D) = some ((), wC S C V4 U3 D) := by
          intro nc3 flt r hP3 hn3
          obtain ⟨V4, d1, d2, d3, d4, d5⟩ := c_put (F := F) (x := (10000 : Int32) + nI (lT X q)) (D := D) h hn3 hP3
          refine ⟨V4, d2, d3, d4, d5, ?_⟩
          rw [nI_al] at d1
          unfold fn_X6_readTest f_X6_readTest_29 f_X6_readTest_58
          unfold o29 at hO
          rw [Bool.or_eq_true, decide_eq_true_iff, decide_eq_true_iff] at hO
          by_cases h29 : lT X q = 29
          · simp (disch := first | assumption | exact inB_n (by omega) (by decide) | exact inB_l (by omega) (by decide) | exact inB_al (by omega) (by decide) | exact inB_la (by omega) (by decide) | exact inB_j (by assumption) (by omega) (by decide) | exact inB_e (by assumption) (by decide) | omega) only [↓eC h, ↓bd_r, ↓lt_r, ↓Option.bind_some, ↓reduceIte, ix_nI, ix_l, nI_al, nI_la, nI_lm, u2_ne, u2_eq, nI_leI, nI_ltI, nI_eq, le_ln, le_nl, lt_ln, lt_nl, eq_nl, eq_ln, a1, et, if_pos h29, b1, c1, d1]
          · have h30 : lT X q = 30 := by omega
            simp (disch := first | assumption | exact inB_n (by omega) (by decide) | exact inB_l (by omega) (by decide) | exact inB_al (by omega) (by decide) | exact inB_la (by omega) (by decide) | exact inB_j (by assumption) (by omega) (by decide) | exact inB_e (by assumption) (by decide) | omega) only [↓eC h, ↓bd_r, ↓lt_r, ↓Option.bind_some, ↓reduceIte, ix_nI, ix_l, nI_al, nI_la, nI_lm, u2_ne, u2_eq, nI_leI, nI_ltI, nI_eq, le_ln, le_nl, lt_ln, lt_nl, eq_nl, eq_ln, a1, et, if_neg h29, if_pos h30, b1, c1, d1]
        unfold fn_X6_readTest f_X6_readTest_58 at key
        cases hr2 : pSum X PP (lE X q) with
        | inl k =>
          rw [hr2] at c5
          obtain ⟨nc3, m1, m2, k0, k2, hP3⟩ := c5
          obtain ⟨V4, d2, d3, d4, d5, e9⟩ := key nc3 k X.1 hP3 (by omega)
          refine ⟨V4, U3, e9, ((a2.tr (fr8.of9 b2)).tr c2).tr d2, (a3.tr b3).tr c3, fun i hi => ?_, nc3 + 1, by omega, by omega, k0, k2, d5⟩
          rw [d4 i (by omega), c4 i (by omega), b2.1 13 (by omega), a4 i hi]
        | inr z =>
          obtain ⟨r, g⟩ := z
          rw [hr2] at c5
          obtain ⟨nc3, m1, m2, hP3, hs3⟩ := c5
          have hr9 := hA (lE X q) ha.2 r g hr2
          obtain ⟨V4, d2, d3, d4, d5, e9⟩ := key nc3 0 r hP3 (by omega)
          have s1 : segC law (V4 13) nc nc2 (hh + 1) f := (hs2.up (by omega)).cg (fun k h1 h2 => by rw [d4 k (by omega), c4 k (by omega), b2.1 13 (by omega)])
          have s2 : segC law (V4 13) nc2 nc3 hh g := hs3.cg (fun k h1 h2 => by rw [d4 k (by omega)])
          have s3 := segOp s1 s2 hop.1 hop.2 d3 h1h
          refine ⟨V4, U3, e9, ((a2.tr (fr8.of9 b2)).tr c2).tr d2, (a3.tr b3).tr c3, fun i hi => ?_, nc3 + 1, by omega, by omega, d5, s3⟩
          rw [d4 i (by omega), c4 i (by omega), b2.1 13 (by omega), a4 i hi]
  · obtain ⟨V1, U1, a1, a2, a3, a4, a5⟩ := hQ.2 flt nc V U hf0 hf1 hP
    have e5 : V1 9 5 = nI 35 := by have := a5.1.2.2.2.1; rw [lT_n] at this; exact this
    refine ⟨V1, U1, ?_, a2, a3, a4, a5⟩
    unfold fn_X6_readTest f_X6_readTest_58
    simp (disch := first | assumption | exact inB_n (by omega) (by decide) | exact inB_l (by omega) (by decide) | exact inB_al (by omega) (by decide) | exact inB_la (by omega) (by decide) | exact inB_j (by assumption) (by omega) (by decide) | exact inB_e (by assumption) (by decide) | omega) only [↓eC h, ↓bd_r, ↓lt_r, ↓Option.bind_some, ↓reduceIte, ix_nI, ix_l, nI_al, nI_la, nI_lm, u2_ne, u2_eq, nI_leI, nI_ltI, nI_eq, le_ln, le_nl, lt_ln, lt_nl, eq_nl, eq_ln, a1, e5]
    rfl
theorem L_readTests {X : Tp} {law hh p0 nc0 : Nat} {x1 : Int32} {rp : Nat → Int32 → Mem → Option (Unit × Mem)} {PP : Nat → Res} {F C : Nat} {S : Mem} {D : Dw} (h : shC S C) (hF : 10000 < F) (hX : okTp X) (hD : D 9 0 = C + 7) (h1h : 1 ≤ hh)
    (hQ : rpG X law S C D hh x1 (fn_X6_readTest F rp) (pTest X PP)) (hA : ∀ p, p ≤ X.1 → adv X p ((pTest X PP) p)) (hn0 : nc0 + X.1 ≤ 999 + p0) : ∀ (n i fu p nc : Nat) (f : Den) (V : Vw) (U : Uw), i + n = 1000 → n < fu → p0 ≤ p → p ≤ X.1 → nc0 ≤ nc → nc + p0 ≤ nc0 + p → cP X law p 0 nc V U → segC law (V 13) nc0 nc (hh + 1) f →
    ∃ V' U', fix3 (b_X6_readTests_7 F rp) fu (C + 8) x1 (nI i) (wC S C V U D) = some ((), wC S C V' U' D) ∧ fr8 V V' ∧ u9 U U' ∧ (∀ i, i < nc0 → V' 13 i = V 13 i) ∧ match opL X o18 (pTest X PP) n p f with
    | .inl k => ∃ nc', nc0 ≤ nc' ∧ nc' + p0 ≤ nc0 + X.1 ∧ 0 < k ∧ k < 20000 ∧ cP X law X.1 k nc' V' U'
    | .inr (q, f) => ∃ nc', nc0 ≤ nc' ∧ nc' + p0 ≤ nc0 + q ∧ cP X law q 0 nc' V' U' ∧ segC law (V' 13) nc0 nc' (hh + 1) f := by
  have hX1 := hX.1
  intro n
  induction n with
  | zero =>
    intro i fu p nc f V U hi hfu hp0 hp hnc hncp hP hs
    obtain ⟨fu, rfl⟩ : ∃ f', fu = f' + 1 := ⟨fu - 1, by omega⟩
    obtain rfl : i = 1000 := by omega
    exact ⟨V, U, rfl, fr8.rf, u9.rf, fun _ _ => rfl, nc, hnc, hncp, hP, hs⟩
  | succ n ih =>
    intro i fu p nc f V U hi hfu hp0 hp hnc hncp hP hs
    obtain ⟨fu, rfl⟩ : ∃ f', fu = f' + 1 := ⟨fu - 1, by omega⟩
    have hT := lT_le (X := X) (p := p)
    have e1 : nI i + (1 : Int32) = nI (i + 1) := nI_1 i
    show ∃ V' U', b_X6_readTests_7 F rp (fix3 (b_X6_readTests_7 F rp) fu) (C + 8) x1 (nI i) (wC S C V U D) = _ ∧ _
    have hdead : ∀ k nc V U, cP X law X.1 k nc V U → fix3 (b_X6_readTests_7 F rp) fu (C + 8) x1 (nI (i + 1)) (wC S C V U D) = some ((), wC S C V U D) := by
      intro k nc V U hP
      obtain ⟨fv, rfl⟩ : ∃ f', fu = f' + 1 := ⟨fu - 1, by omega⟩
      show b_X6_readTests_7 F rp (fix3 (b_X6_readTests_7 F rp) fv) (C + 8) x1 (nI (i + 1)) (wC S C V U D) = _
      have e5 : V 9 5 = nI 35 := by have := hP.1.2.2.2.1; rw [lT_n] at this; exact this
      unfold b_X6_readTests_7 f_X6_readTests_73
      simp (disch := first | assumption | exact inB_n (by omega) (by decide) | exact inB_l (by omega) (by decide) | exact inB_al (by omega) (by decide) | exact inB_la (by omega) (by decide) | exact inB_j (by assumption) (by omega) (by decide) | exact inB_e (by assumption) (by decide) | omega) only [↓eC h, ↓bd_r, ↓lt_r, ↓Option.bind_some, ↓reduceIte, ix_nI, ix_l, nI_al, nI_la, nI_lm, u2_ne, u2_eq, nI_leI, nI_ltI, nI_eq, le_ln, le_nl, lt_ln, lt_nl, eq_nl, eq_ln, e5]
      simp only [ite_self, show ¬ (35 = 33) from by decide, show ¬ (35 = 31) from by decide, show ¬ (35 = 32) from by decide, show ¬ (35 = 18) from by decide, show ¬ (35 = 19) from by decide, if_false, ↓reduceIte]
    have ih := fun p nc f V U => ih (i + 1) fu p nc f V U (by omega) (by omega)
    generalize fix3 (b_X6_readTests_7 F rp) fu = k7 at ih hdead ⊢
    have et := hP.1.2.2.2.1
    have i1000 : ¬ (1000 : Int32) ≤ nI i := nI_ge (b := 1000) (by omega) (by decide)
    unfold opL
    cases hO : o18 (lT X p) with
    | false =>
      rw [if_neg (by decide)]
      refine ⟨V, U, ?_, fr8.rf, u9.rf, fun _ _ => rfl, nc, hnc, hncp, hP, hs⟩
      unfold o18 at hO
      unfold b_X6_readTests_7 f_X6_readTests_73
      rw [if_neg i1000]
      simp (disch := first | assumption | exact inB_n (by omega) (by decide) | exact inB_l (by omega) (by decide) | exact inB_al (by omega) (by decide) | exact inB_la (by omega) (by decide) | exact inB_j (by assumption) (by omega) (by decide) | exact inB_e (by assumption) (by decide) | omega) only [↓eC h, ↓bd_r, ↓lt_r, ↓Option.bind_some, ↓reduceIte, ix_nI, ix_l, nI_al, nI_la, nI_lm, u2_ne, u2_eq, nI_leI, nI_ltI, nI_eq, le_ln, le_nl, lt_ln, lt_nl, eq_nl, eq_ln, et]
      rw [Bool.or_eq_false_iff] at hO
      rw [if_neg (of_decide_eq_false hO.1), if_neg (of_decide_eq_false hO.2)]
    | true =>
      rw [if_pos rfl]
      have ha := lE_adv hp rfl (o_ne (O := o18) rfl hO)
      have hop : lT X p < 40 ∧ lT X p ≠ 17 := by
        unfold o18 at hO
        rw [Bool.or_eq_true, decide_eq_true_iff, decide_eq_true_iff] at hO
        omega
      obtain ⟨V1, U1, a1, a2, a3, a4⟩ := c_stepP (F := F) h hF hX hD hp hP
      obtain ⟨V2, U2, c1, c2, c3, c4, c5⟩ := hQ.1 (lE X p) nc V1 U1 ha.2 (by omega) a4
      have key : ∀ x : Int32, x = (10000 : Int32) + nI (lT X p) → ∀ nc2 flt r, cP X law r flt nc2 V2 U2 → nc2 < 1000 → ∃ V3, fr8 V2 V3 ∧ V3 13 nc2 = (10000 : Int32) + nI (lT X p) ∧ (∀ i, i ≠ nc2 → V3 13 i = V2 13 i) ∧ cP X law r flt (nc2 + 1) V3 U2 ∧ b_X6_readTests_7 F rp k7 (C + 8) x1 (nI i) (wC S C V U D) = k7 (C + 8) x1 (nI (i + 1)) (wC S C V3 U2 D) := by
        intro x hx nc2 flt r hP2 hn2
        obtain ⟨V3, d1, d2, d3, d4, d5⟩ := c_put (F := F) (x := x) (D := D) h hn2 hP2
        refine ⟨V3, d2, d3.trans hx, d4, d5, ?_⟩
        unfold o18 at hO
        unfold b_X6_readTests_7
        rw [if_neg i1000]
        rw [hx, nI_al] at d1
        rw [Bool.or_eq_true, decide_eq_true_iff, decide_eq_true_iff] at hO
        unfold f_X6_readTests_38
        by_cases h31 : lT X p = 18
        · simp (disch := first | assumption | exact inB_n (by omega) (by decide) | exact inB_l (by omega) (by decide) | exact inB_al (by omega) (by decide) | exact inB_la (by omega) (by decide) | exact inB_j (by assumption) (by omega) (by decide) | exact inB_e (by assumption) (by decide) | omega) only [↓eC h, ↓bd_r, ↓lt_r, ↓Option.bind_some, ↓reduceIte, ix_nI, ix_l, nI_al, nI_la, nI_lm, u2_ne, u2_eq, nI_leI, nI_ltI, nI_eq, le_ln, le_nl, lt_ln, lt_nl, eq_nl, eq_ln, et, if_pos h31, a1, c1, d1]
        · have h32 : lT X p = 19 := by omega
          simp (disch := first | assumption | exact inB_n (by omega) (by decide) | exact inB_l (by omega) (by decide) | exact inB_al (by omega) (by decide) | exact inB_la (by omega) (by decide) | exact inB_j (by assumption) (by omega) (by decide) | exact inB_e (by assumption) (by decide) | omega) only [↓eC h, ↓bd_r, ↓lt_r, ↓Option.bind_some, ↓reduceIte, ix_nI, ix_l, nI_al, nI_la, nI_lm, u2_ne, u2_eq, nI_leI, nI_ltI, nI_eq, le_ln, le_nl, lt_ln, lt_nl, eq_nl, eq_ln, et, if_neg h31, if_pos h32, a1, c1, d1]
      cases hr : (pTest X PP) (lE X p) with
      | inl k =>
        rw [hr] at c5
        obtain ⟨nc2, n1, n2, k0, k2, hP2⟩ := c5
        obtain ⟨V3, d2, d3, d4, d5, e9⟩ := key _ rfl nc2 k X.1 hP2 (by omega)
        rw [e9, hdead k _ V3 U2 d5]
        refine ⟨V3, U2, rfl, ((fr8.of9 a2).tr c2).tr d2, a3.tr c3, fun i hi => ?_, nc2 + 1, by omega, by omega, k0, k2, d5⟩
        rw [d4 i (by omega), c4 i (by omega), a2.1 13 (by omega)]
      | inr z =>
        obtain ⟨q, g⟩ := z
        rw [hr] at c5
        obtain ⟨nc2, n1, n2, hP2, hs2⟩ := c5
        have hq := hA (lE X p) ha.2 q g hr
        obtain ⟨V3, d2, d3, d4, d5, e9⟩ := key _ rfl nc2 0 q hP2 (by omega)
        rw [e9]
        have s1 : segC law (V3 13) nc0 nc (hh + 1) f := hs.cg (fun k h1 h2 => by rw [d4 k (by omega), c4 k (by omega), a2.1 13 (by omega)])
        have s2 : segC law (V3 13) nc nc2 hh g := hs2.cg (fun k h1 h2 => by rw [d4 k (by omega)])
        have s3 := segOp s1 s2 hop.1 hop.2 d3 h1h
        obtain ⟨V4, U4, x1', x2, x3, x4, x5⟩ := ih q (nc2 + 1) _ V3 U2 (by omega) hq.2 (by omega) (by omega) d5 s3
        exact ⟨V4, U4, x1', (((fr8.of9 a2).tr c2).tr d2).tr x2, (a3.tr c3).tr x3, fun i hi => by rw [x4 i hi, d4 i (by omega), c4 i (by omega), a2.1 13 (by omega)], x5⟩
theorem g_readTests {X : Tp} {law hh : Nat} {x1 : Int32} {rp : Nat → Int32 → Mem → Option (Unit × Mem)} {PP : Nat → Res} {F C : Nat} {S : Mem} {D : Dw} (h : shC S C) (hF : 10000 < F) (hX : okTp X) (hD : D 9 0 = C + 7) (h1h : 1 ≤ hh)
    (hQ : rpG X law S C D hh x1 (fn_X6_readTest F rp) (pTest X PP)) (hA : ∀ p, p ≤ X.1 → adv X p ((pTest X PP) p)) : rpG X law S C D (hh + 1) x1 (fn_X6_readTests F rp) (pTests X PP) := by
  have hX1 := hX.1
  refine ⟨fun p nc V U hp hn hP => ?_, fun flt nc V U hf0 hf1 hP => ?_⟩
  · obtain ⟨V1, U1, a1, a2, a3, a4, a5⟩ := hQ.1 p nc V U hp hn hP
    unfold fn_X6_readTests
    simp (disch := first | assumption | exact inB_n (by omega) (by decide) | exact inB_l (by omega) (by decide) | exact inB_al (by omega) (by decide) | exact inB_la (by omega) (by decide) | exact inB_j (by assumption) (by omega) (by decide) | exact inB_e (by assumption) (by decide) | omega) only [↓eC h, ↓bd_r, ↓lt_r, ↓Option.bind_some, ↓reduceIte, ix_nI, ix_l, nI_al, nI_la, nI_lm, u2_ne, u2_eq, nI_leI, nI_ltI, nI_eq, le_ln, le_nl, lt_ln, lt_nl, eq_nl, eq_ln, a1]
    unfold pTests chain
    cases hr : (pTest X PP) p with
    | inl k =>
      rw [hr] at a5
      obtain ⟨nc2, n1, n2, k0, k2, hP2⟩ := a5
      have e5 : V1 9 5 = nI 35 := by have := hP2.1.2.2.2.1; rw [lT_n] at this; exact this
      obtain ⟨fv, rfl⟩ : ∃ f', F = f' + 1 := ⟨F - 1, by omega⟩
      refine ⟨V1, U1, ?_, a2, a3, a4, nc2, n1, n2, k0, k2, hP2⟩
      show b_X6_readTests_7 (fv + 1) rp (fix3 (b_X6_readTests_7 (fv + 1) rp) fv) (C + 8) x1 0 (wC S C V1 U1 D) = _
      unfold b_X6_readTests_7 f_X6_readTests_73
      rw [if_neg (by decide)]
      simp (disch := first | assumption | exact inB_n (by omega) (by decide) | exact inB_l (by omega) (by decide) | exact inB_al (by omega) (by decide) | exact inB_la (by omega) (by decide) | exact inB_j (by assumption) (by omega) (by decide) | exact inB_e (by assumption) (by decide) | omega) only [↓eC h, ↓bd_r, ↓lt_r, ↓Option.bind_some, ↓reduceIte, ix_nI, ix_l, nI_al, nI_la, nI_lm, u2_ne, u2_eq, nI_leI, nI_ltI, nI_eq, le_ln, le_nl, lt_ln, lt_nl, eq_nl, eq_ln, e5]
      simp only [ite_self, show ¬ (35 = 33) from by decide, show ¬ (35 = 31) from by decide, show ¬ (35 = 32) from by decide, show ¬ (35 = 18) from by decide, show ¬ (35 = 19) from by decide, if_false, ↓reduceIte]
    | inr z =>
      obtain ⟨q, g⟩ := z
      rw [hr] at a5
      obtain ⟨nc2, n1, n2, hP2, hs2⟩ := a5
      have hq := hA p hp q g hr
      obtain ⟨V2, U2, c1, c2, c3, c4, c5⟩ := L_readTests (p0 := p) (nc0 := nc) h hF hX hD h1h hQ hA hn 1000 0 F q nc2 g V1 U1 (by omega) (by omega) (by omega) hq.2 n1 n2 hP2 (hs2.up (by omega))
      exact ⟨V2, U2, c1, a2.tr c2, a3.tr c3, fun i hi => (c4 i hi).trans (a4 i hi), c5⟩
  · obtain ⟨V1, U1, a1, a2, a3, a4, a5⟩ := hQ.2 flt nc V U hf0 hf1 hP
    have e5 : V1 9 5 = nI 35 := by have := a5.1.2.2.2.1; rw [lT_n] at this; exact this
    refine ⟨V1, U1, ?_, a2, a3, a4, a5⟩
    obtain ⟨fv, rfl⟩ : ∃ f', F = f' + 1 := ⟨F - 1, by omega⟩
    unfold fn_X6_readTests
    simp (disch := first | assumption | exact inB_n (by omega) (by decide) | exact inB_l (by omega) (by decide) | exact inB_al (by omega) (by decide) | exact inB_la (by omega) (by decide) | exact inB_j (by assumption) (by omega) (by decide) | exact inB_e (by assumption) (by decide) | omega) only [↓eC h, ↓bd_r, ↓lt_r, ↓Option.bind_some, ↓reduceIte, ix_nI, ix_l, nI_al, nI_la, nI_lm, u2_ne, u2_eq, nI_leI, nI_ltI, nI_eq, le_ln, le_nl, lt_ln, lt_nl, eq_nl, eq_ln, a1]
    show b_X6_readTests_7 (fv + 1) rp (fix3 (b_X6_readTests_7 (fv + 1) rp) fv) (C + 8) x1 0 (wC S C V1 U1 D) = _
    unfold b_X6_readTests_7 f_X6_readTests_73
    rw [if_neg (by decide)]
    simp (disch := first | assumption | exact inB_n (by omega) (by decide) | exact inB_l (by omega) (by decide) | exact inB_al (by omega) (by decide) | exact inB_la (by omega) (by decide) | exact inB_j (by assumption) (by omega) (by decide) | exact inB_e (by assumption) (by decide) | omega) only [↓eC h, ↓bd_r, ↓lt_r, ↓Option.bind_some, ↓reduceIte, ix_nI, ix_l, nI_al, nI_la, nI_lm, u2_ne, u2_eq, nI_leI, nI_ltI, nI_eq, le_ln, le_nl, lt_ln, lt_nl, eq_nl, eq_ln, e5]
    simp only [ite_self, show ¬ (35 = 33) from by decide, show ¬ (35 = 31) from by decide, show ¬ (35 = 32) from by decide, show ¬ (35 = 18) from by decide, show ¬ (35 = 19) from by decide, if_false, ↓reduceIte]
