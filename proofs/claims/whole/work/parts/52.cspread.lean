/-! the class's search: the rows of a kite -/
theorem sub_mx {p a : Nat} (hp : p ≤ 999) (ha : a ≤ 99) : mxI 0 (nI p - nI a) = nI (p - a) := by
  have := gap_mx (c := 0) hp ha (by omega)
  rwa [show nI 0 = 0 from rfl, Int32.sub_zero, Nat.sub_zero] at this
theorem mn40 {p a : Nat} (hp : p ≤ 999) (ha : a ≤ 99) : mnI 40 (nI p + nI a) = nI (min 40 (p + a)) := by
  rw [nI_add]
  unfold mnI
  by_cases c : p + a < 40
  · rw [if_pos (show nI (p + a) < (40 : Int32) from nI_lt (b := 40) c (by omega)), Nat.min_eq_right (by omega)]
  · rw [if_neg (show ¬ nI (p + a) < (40 : Int32) from nI_nlt (a := p + a) (b := 40) (by omega) (by omega)), Nat.min_eq_left (by omega)]
    rfl
theorem pT_pull {K : SkyT} {l k x : Nat} {w : Nat → Nat} (hl : lo l k = false) : (if 0 < x ∧ needN K k ≤ w x then nI (pullN (kd K k) (li K k) (w x)) else -1) = pT K l w k x := by
  unfold pT pulN flyN
  rw [hl]
  simp only [if_neg (show ¬ (false = true) by decide)]
  by_cases c : 0 < x ∧ needN K k ≤ w x
  · simp [c.1, c.2]
  · by_cases c1 : 0 < x
    · have c2 : ¬ needN K k ≤ w x := fun q => c ⟨c1, q⟩
      simp [c1, c2]
    · simp [c1]
theorem pT_lost {K : SkyT} {l k x : Nat} {w : Nat → Nat} (hl : lo l k = true) : pT K l w k x = 0 := by unfold pT; rw [if_pos hl]
theorem cl40 {x : Nat} (hx : x ≤ 40) : clI (nI x) 0 40 = nI x := by
  unfold clI
  rw [if_pos (show (0 : Int32) ≤ nI x from nI_le (a := 0) (by omega) (by omega)), if_pos (show nI x ≤ (40 : Int32) from nI_le (b := 40) hx (by omega))]
theorem c_spreads {b k l t : Nat} {K : SkyT} {w : Nat → Nat} {F C : Nat} {S : Mem} {V0 : Vw} {U : Uw} {D : Dw} (h : shC S C) (hw9 : wfK K) (hK : cSky S C b K) (hw : ∀ i, w i ≤ 99) (hk : k < kN K) (ht : t ≤ 40) (w21 : ∀ i, i < 41 → V0 21 i = nI (w i)) (v24 : V0 24 k = nI t) (d28 : D 28 0 = b) :
    ∀ (m x f : Nat) (V : Vw), x + m = t + 1 → m < f → (∀ j, j ≠ 22 → V j = V0 j) →
      ∃ V', fix5 (b_X4_spread_78 F) f (C + 20) (C + 28) (nI k) (b1 (lo l k)) (nI x) (wC S C V U D) = some ((), wC S C V' U D) ∧ (∀ j, j ≠ 22 → V' j = V0 j) ∧ (∀ y, x ≤ y → y ≤ t → V' 22 (41 * k + y) = pT K l w k y) ∧ ∀ i, i < 41 * k + x → V' 22 i = V 22 i := by
  have n6 := hw9.1.1
  intro m
  induction m with
  | zero =>
    intro x f V hx hf hV
    obtain ⟨f, rfl⟩ : ∃ f', f = f' + 1 := ⟨f - 1, by omega⟩
    refine ⟨V, ?_, hV, fun y h1 h2 => by omega, fun _ _ => rfl⟩
    show b_X4_spread_78 F (fix5 (b_X4_spread_78 F) f) (C + 20) (C + 28) (nI k) (b1 (lo l k)) (nI x) (wC S C V U D) = _
    generalize fix5 (b_X4_spread_78 F) f = k78
    unfold b_X4_spread_78
    have v24' : V 24 k = nI t := by rw [hV 24 (by omega)]; exact v24
    simp (disch := first | assumption | exact inB_n (by omega) (by decide) | exact inB_l (by omega) (by decide) | exact inB_al (by omega) (by decide) | exact inB_la (by omega) (by decide) | exact inB_j (by assumption) (by omega) (by decide) | exact inB_e (by assumption) (by decide) | omega) only [↓eC h, v24', ix_nI, ix_l, nI_al, nI_la, nI_lm, u2_ne, u2_eq]
    rw [if_pos (show nI t < nI x from nI_lt (by omega) (by omega))]
  | succ m ih =>
    intro x f V hx hf hV
    obtain ⟨f, rfl⟩ : ∃ f', f = f' + 1 := ⟨f - 1, by omega⟩
    have w1 := hw x
    have v24' : V 24 k = nI t := by rw [hV 24 (by omega)]; exact v24
    have v21' : V 21 x = nI (w x) := by rw [hV 21 (by omega)]; exact w21 x (by omega)
    obtain ⟨V', p1, p2, p3, p4⟩ := ih (x + 1) f (u2 V 22 (41 * k + x) (pT K l w k x)) (by omega) (by omega) (fun j hj => by rw [u2_row hj, hV j hj])
    refine ⟨V', ?_, p2, fun y h1 h2 => ?_, fun i hi => ?_⟩
    · show b_X4_spread_78 F (fix5 (b_X4_spread_78 F) f) (C + 20) (C + 28) (nI k) (b1 (lo l k)) (nI x) (wC S C V U D) = _
      generalize fix5 (b_X4_spread_78 F) f = k78 at p1 ⊢
      unfold b_X4_spread_78 f_X4_spread_126
      have e41 : nI k * (41 : Int32) + nI x = nI (41 * k + x) := by rw [show nI k * (41 : Int32) = nI (k * 41) from pk_mul k 41, nI_add, Nat.mul_comm]
      have hp := c_pullOf (F := F) (V := V) (U := U) (D := D) hw9 hK hk (show x ≤ 40 by omega) (hw x)
      cases hl : lo l k with
      | true =>
        rw [hl] at p1
        rw [pT_lost hl] at p1
        simp (disch := first | assumption | exact inB_n (by omega) (by decide) | exact inB_l (by omega) (by decide) | exact inB_al (by omega) (by decide) | exact inB_la (by omega) (by decide) | exact inB_j (by assumption) (by omega) (by decide) | exact inB_e (by assumption) (by decide) | omega) only [↓eC h, v24', e41, ix_nI, ix_l, nI_al, nI_la, nI_lm, u2_ne, u2_eq]
        rw [if_neg (show ¬ nI t < nI x from nI_nlt (by omega) (by omega)), if_neg (by decide)]
        exact p1
      | false =>
        rw [hl] at p1
        rw [pT_pull hl] at hp
        simp (disch := first | assumption | exact inB_n (by omega) (by decide) | exact inB_l (by omega) (by decide) | exact inB_al (by omega) (by decide) | exact inB_la (by omega) (by decide) | exact inB_j (by assumption) (by omega) (by decide) | exact inB_e (by assumption) (by decide) | omega) only [↓eC h, ↓eN h isN28, ↓eK hK.1, ↓bd_r, v24', v21', d28, e41, hp, ix_nI, ix_l, nI_al, nI_la, nI_lm, u2_ne, u2_eq]
        rw [if_neg (show ¬ nI t < nI x from nI_nlt (by omega) (by omega)), if_pos (by decide)]
        exact p1
    · by_cases c : y = x
      · subst c
        rw [p4 _ (by omega), u2_eq ⟨rfl, rfl⟩]
      · exact p3 y (by omega) h2
    · rw [p4 i (by omega), u2_ne (by omega)]
theorem c_spread {b k l e B : Nat} {K : SkyT} {w s : Nat → Nat} {F C : Nat} {S : Mem} {V0 : Vw} {U : Uw} {D : Dw} (h : shC S C) (hF : 100 < F) (hw9 : wfK K) (hK : cSky S C b K) (hwf : wfS K B s) (hw : ∀ i, w i ≤ 99) (hk : k < kN K) (he : e ≤ 40) (w21 : ∀ i, i < 41 → V0 21 i = nI (w i)) (d28 : D 28 0 = b) (hl : V0 28 2 = nI l) (hl2 : l < 2 ^ 31) (h29 : V0 29 k = nI (s k)) :
    ∃ V', fn_X4_spread F (C + 20) (C + 28) (nI k) (nI e) (wC S C V0 U D) = some ((), wC S C V' U D) ∧ (∀ j, j ≠ 22 → j ≠ 23 → j ≠ 24 → V' j = V0 j) ∧ V' 23 k = nI (lowK l s e k) ∧ V' 24 k = nI (topK l s e k) ∧ (∀ x, lowK l s e k ≤ x → x ≤ topK l s e k → V' 22 (41 * k + x) = pT K l w k x) ∧ (∀ i, i ≠ k → V' 23 i = V0 23 i ∧ V' 24 i = V0 24 i) ∧ ∀ i, i < 41 * k → V' 22 i = V0 22 i := by
  have n6 := hw9.1.1
  have s4 := (hwf.1 k hk).1
  have lt := low_top (l := l) (e := e) s4
  obtain ⟨V', p1, p2, p3, p4⟩ := c_spreads (l := l) (t := topK l s e k) (F := F) (V0 := u2 (u2 V0 23 k (nI (lowK l s e k))) 24 k (nI (topK l s e k))) (U := U) (D := D) h hw9 hK hw hk lt.2.2 (fun i hi => by rw [u2_ne (by omega), u2_ne (by omega)]; exact w21 i hi) (u2_eq ⟨rfl, rfl⟩) d28 (topK l s e k + 1 - lowK l s e k) (lowK l s e k) F _ (by omega) (by omega) (fun _ _ => rfl)
  refine ⟨V', ?_, ?_, ?_, ?_, p3, ?_, ?_⟩
  · unfold fn_X4_spread f_X4_spread_44 f_X4_spread_69
    have hp := c_isLost (F := F) (V := V0) (U := U) (D := D) h isN28 (show k < 6 by omega) hl hl2
    cases hc : lo l k with
    | true =>
      have e1 : lowK l s e k = s k := by unfold lowK; rw [if_pos hc]
      have e2 : topK l s e k = s k := by unfold topK; rw [if_pos hc]
      rw [hc] at p1 hp
      rw [e1, e2] at p1
      simp (disch := first | assumption | exact inB_n (by omega) (by decide) | exact inB_l (by omega) (by decide) | exact inB_al (by omega) (by decide) | exact inB_la (by omega) (by decide) | exact inB_j (by assumption) (by omega) (by decide) | exact inB_e (by assumption) (by decide) | omega) only [↓eC h, ↓eN h isN28, ↓bd_r, hp, h29, p_clamped, cl40 s4, ix_nI, ix_l, nI_al, nI_la, nI_lm, u2_ne, u2_eq, if_neg (show ¬ b1 true = 0 by decide), u2_ne, u2_eq]
      exact p1
    | false =>
      have e1 : lowK l s e k = s k - e := by unfold lowK; rw [if_neg (by rw [hc]; decide)]
      have e2 : topK l s e k = min 40 (s k + e) := by unfold topK; rw [if_neg (by rw [hc]; decide)]
      rw [hc] at p1 hp
      rw [e1, e2] at p1
      simp (disch := first | assumption | exact inB_n (by omega) (by decide) | exact inB_l (by omega) (by decide) | exact inB_al (by omega) (by decide) | exact inB_la (by omega) (by decide) | exact inB_j (by assumption) (by omega) (by decide) | exact inB_e (by assumption) (by decide) | omega) only [↓eC h, ↓eN h isN28, ↓bd_r, hp, h29, p_clamped, cl40 s4, sub_mx (show s k ≤ 999 by omega) (show e ≤ 99 by omega), mn40 (show s k ≤ 999 by omega) (show e ≤ 99 by omega), ix_nI, ix_l, nI_al, nI_la, nI_lm, u2_ne, u2_eq, if_pos (show b1 false = 0 by decide), u2_ne, u2_eq]
      exact p1
  · intro j h1 h2 h3
    rw [p2 j h1, u2_row h3, u2_row h2]
  · rw [p2 23 (by omega), u2_ne (by omega), u2_eq ⟨rfl, rfl⟩]
  · rw [p2 24 (by omega), u2_eq ⟨rfl, rfl⟩]
  · intro i hi
    rw [p2 23 (by omega), p2 24 (by omega), u2_ne (by omega), u2_ne (Or.inr hi), u2_ne (Or.inr hi), u2_ne (by omega)]
    exact ⟨rfl, rfl⟩
  · intro i hi
    rw [p4 i (by omega), u2_ne (by omega), u2_ne (by omega)]
