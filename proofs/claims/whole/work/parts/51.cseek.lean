/-! the class's search: what is laid out before -/
theorem pT_mxa {K : SkyT} {l k x a : Nat} {w : Nat → Nat} (hw9 : wfK K) (hw : ∀ i, w i ≤ 99) (hk : k < kN K) (ha : a < 2 ^ 31) : mxI (nI a) (pT K l w k x) = nI (max a (pAt K l w k x)) := by
  obtain ⟨h1, h2⟩ := pT_mx (l := l) (x := x) hw9 hw hk
  apply Int32.toInt_inj.mp
  have e1 := congrArg Int32.toInt h1
  rw [ti_mx, nI_toInt (by omega), show (0 : Int32).toInt = 0 from by decide] at e1
  rw [ti_mx, nI_toInt (by omega), nI_toInt (by omega)]
  omega
theorem c_reach {l e p q R b B : Nat} {ba : Bool} {K : SkyT} {w s : Nat → Nat} {F C : Nat} {S : Mem} {V0 : Vw} {U : Uw} {D : Dw} (h : shC S C) (hF : 100 < F) (hw9 : wfK K) (hwf : wfS K B s) (hw : ∀ i, w i ≤ 99) (hs : srC K l w s e p q ba b C V0 D) (hr : V0 20 14 = nI R) (hR : R ≤ 40) :
    ∃ V', fn_X4_reckonReach F (C + 20) (wC S C V0 U D) = some ((), wC S C V' U D) ∧ (∀ j, j ≠ 25 → V' j = V0 j) ∧ ∀ k, k ≤ kN K → V' 25 k = nI (fromT (mostK K l w s e R) (kN K) k) := by
  have n6 := hw9.1.1
  obtain ⟨⟨v7, -⟩, -, vk, -⟩ := id hs
  have lt : ∀ i, i < kN K → lowK l s e i ≤ topK l s e i ∧ topK l s e i ≤ 40 := fun i hi => by
    have := low_top (l := l) (e := e) (hwf.1 i hi).1
    omega
  have inner : ∀ (k17 : Nat → Int32 → Mem → Option (Unit × Mem)) (k : Nat), k < kN K → ∀ (V : Vw), (∀ j, j ≠ 25 → V j = V0 j) → V 25 (k + 1) = nI (fromT (mostK K l w s e R) (kN K) (k + 1)) → ∀ (m x acc f : Nat), x + m = max R (lowK l s e k) + (topK l s e k + 1 - max R (lowK l s e k)) → m < f → max R (lowK l s e k) ≤ x → acc ≤ 396 →
      fix4 (b_X4_reckonReach_37 F k17) f (C + 20) (nI k) (nI acc) (nI x) (wC S C V U D) = k17 (C + 20) (nI k + (-1)) (wC S C (u2 V 25 k (nI (fromT (mostK K l w s e R) (kN K) (k + 1) + mxL (pAt K l w k) m x acc))) U D) := by
    intro k17 k hk V hV h25 m
    obtain ⟨g1, g2, g3, g4⟩ := vk k hk
    have lt1 := lt k hk
    have v24 : V 24 k = nI (topK l s e k) := by rw [hV 24 (by omega)]; exact g2
    induction m with
    | zero =>
      intro x acc f hx hf hlo ha
      obtain ⟨f, rfl⟩ : ∃ f', f = f' + 1 := ⟨f - 1, by omega⟩
      show b_X4_reckonReach_37 F k17 (fix4 (b_X4_reckonReach_37 F k17) f) (C + 20) (nI k) (nI acc) (nI x) (wC S C V U D) = _
      generalize fix4 (b_X4_reckonReach_37 F k17) f = k37
      unfold b_X4_reckonReach_37
      have hx9 : topK l s e k < x ∧ x ≤ 81 := by omega
      simp (disch := first | assumption | exact inB_n (by omega) (by decide) | exact inB_l (by omega) (by decide) | exact inB_al (by omega) (by decide) | exact inB_la (by omega) (by decide) | exact inB_j (by assumption) (by omega) (by decide) | exact inB_e (by assumption) (by decide) | omega) only [↓eC h, v24, h25, nI_add, ix_nI, ix_l, nI_al, nI_la, nI_lm, u2_ne, u2_eq, if_pos (show nI (topK l s e k) < nI x from nI_lt hx9.1 (by omega))]
      rfl
    | succ m ih =>
      intro x acc f hx hf hlo ha
      obtain ⟨f, rfl⟩ : ∃ f', f = f' + 1 := ⟨f - 1, by omega⟩
      have hx4 : x ≤ topK l s e k := by omega
      obtain ⟨p1, p2⟩ := pT_mx (l := l) (x := x) hw9 hw hk
      have ih := ih (x + 1) (max acc (pAt K l w k x)) f (by omega) (by omega) (by omega) (by omega)
      show b_X4_reckonReach_37 F k17 (fix4 (b_X4_reckonReach_37 F k17) f) (C + 20) (nI k) (nI acc) (nI x) (wC S C V U D) = _
      generalize fix4 (b_X4_reckonReach_37 F k17) f = k37 at ih ⊢
      unfold b_X4_reckonReach_37
      have e41 : nI k * (41 : Int32) + nI x = nI (41 * k + x) := by rw [show nI k * (41 : Int32) = nI (k * 41) from pk_mul k 41, nI_add, Nat.mul_comm]
      have v22 : V 22 (41 * k + x) = pT K l w k x := by rw [hV 22 (by omega)]; exact g4 x (by omega) hx4
      simp (disch := first | assumption | exact inB_n (by omega) (by decide) | exact inB_l (by omega) (by decide) | exact inB_al (by omega) (by decide) | exact inB_la (by omega) (by decide) | exact inB_j (by assumption) (by omega) (by decide) | exact inB_e (by assumption) (by decide) | omega) only [↓eC h, ↓lt_r, e41, v24, v22, ix_nI, ix_l, nI_al, nI_la, nI_lm, u2_ne, u2_eq, if_neg (show ¬ nI (topK l s e k) < nI x from nI_nlt hx4 (by omega)), pT_mxa hw9 hw hk (show acc < 2 ^ 31 by omega)]
      exact ih
  have outer : ∀ (j f : Nat) (V : Vw), j ≤ kN K → j < f → (∀ i, i ≠ 25 → V i = V0 i) → (∀ k, j ≤ k → k ≤ kN K → V 25 k = nI (fromT (mostK K l w s e R) (kN K) k)) →
      ∃ V', fix2 (b_X4_reckonReach_17 F) f (C + 20) (nI j - 1) (wC S C V U D) = some ((), wC S C V' U D) ∧ (∀ i, i ≠ 25 → V' i = V0 i) ∧ ∀ k, k ≤ kN K → V' 25 k = nI (fromT (mostK K l w s e R) (kN K) k) := by
    intro j
    induction j with
    | zero =>
      intro f V hj hf hV h25
      obtain ⟨f, rfl⟩ : ∃ f', f = f' + 1 := ⟨f - 1, by omega⟩
      exact ⟨V, rfl, hV, fun k hk => h25 k (by omega) hk⟩
    | succ j ih =>
      intro f V hj hf hV h25
      obtain ⟨f, rfl⟩ : ∃ f', f = f' + 1 := ⟨f - 1, by omega⟩
      show ∃ V', b_X4_reckonReach_17 F (fix2 (b_X4_reckonReach_17 F) f) (C + 20) (nI (j + 1) - 1) (wC S C V U D) = _ ∧ _
      obtain ⟨g1, g2, g3, g4⟩ := vk j (by omega)
      have lt1 := lt j (by omega)
      have v23 : V 23 j = nI (lowK l s e j) := by rw [hV 23 (by omega)]; exact g1
      have v14 : V 20 14 = nI R := by rw [hV 20 (by omega)]; exact hr
      have q := inner (fix2 (b_X4_reckonReach_17 F) f) j (by omega) V hV (h25 (j + 1) (by omega) (by omega)) (topK l s e j + 1 - max R (lowK l s e j)) (max R (lowK l s e j)) 0 F (by omega) (by omega) (by omega) (by omega)
      have ih := ih f (u2 V 25 j (nI (fromT (mostK K l w s e R) (kN K) j))) (by omega) (by omega)
      generalize fix2 (b_X4_reckonReach_17 F) f = k17 at ih q ⊢
      have em : nI j + (-1 : Int32) = nI j - 1 := (Int32.sub_eq_add_neg _ _).symm
      have ef : fromT (mostK K l w s e R) (kN K) (j + 1) + mxL (pAt K l w j) (topK l s e j + 1 - max R (lowK l s e j)) (max R (lowK l s e j)) 0 = fromT (mostK K l w s e R) (kN K) j := by
        rw [from_s (show j < kN K by omega), Nat.add_comm]; rfl
      rw [em, ef] at q
      rw [nI_pred]
      unfold b_X4_reckonReach_17
      simp (disch := first | assumption | exact inB_n (by omega) (by decide) | exact inB_l (by omega) (by decide) | exact inB_al (by omega) (by decide) | exact inB_la (by omega) (by decide) | exact inB_j (by assumption) (by omega) (by decide) | exact inB_e (by assumption) (by decide) | omega) only [↓eC h, ↓lt_r, v14, v23, mx_nI, ix_nI, ix_l, nI_al, nI_la, nI_lm, u2_ne, u2_eq, if_neg (nI_pos (show j < 2 ^ 31 by omega))]
      rw [show (0 : Int32) = nI 0 from rfl, q]
      refine ih (fun i hi => ?_) (fun k hk hk9 => ?_)
      · rw [u2_row hi, hV i hi]
      · by_cases c : k = j
        · rw [u2_eq ⟨rfl, c⟩, c]
        · rw [u2_ne (Or.inr c)]
          exact h25 k (by omega) hk9
  obtain ⟨V', p1, p2, p3⟩ := outer (kN K) F (u2 V0 25 (kN K) 0) (by omega) (by omega) (fun i hi => u2_row hi) (fun k hk hk9 => by
    rw [show k = kN K by omega, u2_eq ⟨rfl, rfl⟩, from_end]; rfl)
  refine ⟨V', ?_, p2, p3⟩
  unfold fn_X4_reckonReach
  simp (disch := first | assumption | exact inB_n (by omega) (by decide) | exact inB_l (by omega) (by decide) | exact inB_al (by omega) (by decide) | exact inB_la (by omega) (by decide) | exact inB_j (by assumption) (by omega) (by decide) | exact inB_e (by assumption) (by decide) | omega) only [↓eC h, ↓lt_r, v7, u2_row, ix_nI, ix_l, nI_al, nI_la, nI_lm, u2_ne, u2_eq]
  exact p1
theorem gap_mx {p a c : Nat} (hp : p ≤ 999) (ha : a ≤ 99) (hc : c ≤ 99) : mxI 0 ((nI p - nI a) - nI c) = nI (p - a - c) := by
  apply Int32.toInt_inj.mp
  have e0 : (0 : Int32).toInt = 0 := by decide
  have e1 : (nI p - nI a).toInt = (p : Int) - a := by rw [ti_sub (by rw [nI_toInt (by omega)]; omega) (by rw [nI_toInt (by omega)]; omega), nI_toInt (by omega), nI_toInt (by omega)]
  have e2 : ((nI p - nI a) - nI c).toInt = (p : Int) - a - c := by rw [ti_sub (by rw [e1]; omega) (by rw [nI_toInt (by omega)]; omega), e1, nI_toInt (by omega)]
  rw [ti_mx, e0, e2, nI_toInt (by omega)]
  omega
theorem c_gap {p b : Nat} {K : SkyT} {w : Nat → Nat} {F C : Nat} {S : Mem} {V : Vw} {U : Uw} {D : Dw} (h : shC S C) (hF : 100 < F) (hw9 : wfK K) (hK : cSky S C b K) (hw : ∀ i, w i ≤ 99) (hp : p ≤ 999) (v7 : V 20 7 = nI (kN K)) (v9 : V 20 9 = nI p) (w21 : ∀ i, i < 41 → V 21 i = nI (w i)) (d6 : D 20 6 = b + 2) :
    fn_X4_reckonGap F (C + 20) (wC S C V U D) = some ((), wC S C (u2 V 20 11 (nI (gapN K w p))) U D) := by
  have n6 := hw9.1.1
  have hwi : ∀ k, k < kN K → wi K k ≤ 99 := fun k hk => (hw9.2 k hk).2.1
  have inner : ∀ (a : Nat), a ≤ 99 → ∀ (m i acc f : Nat), i + m = 41 → m < f → acc ≤ 99 → fix4 (b_X4_reckonGap_33 F) f (C + 20) (nI a) (nI acc) (nI i) (wC S C V U D) = some ((), wC S C (u2 V 20 11 (nI (p - a - mxL w m i acc / 5))) U D) := by
    intro a ha m
    induction m with
    | zero =>
      intro i acc f hi hf hacc
      obtain ⟨f, rfl⟩ : ∃ f', f = f' + 1 := ⟨f - 1, by omega⟩
      show b_X4_reckonGap_33 F (fix4 (b_X4_reckonGap_33 F) f) (C + 20) (nI a) (nI acc) (nI i) (wC S C V U D) = _
      generalize fix4 (b_X4_reckonGap_33 F) f = k33
      have hi : i = 41 := by omega
      subst hi
      unfold b_X4_reckonGap_33
      have e5 : nI acc / 5 = nI (acc / 5) := pk_div (by omega) (d := 5) (by decide) (by decide)
      rw [if_pos (show (40 : Int32) < nI 41 by decide), e5]
      simp (disch := first | assumption | exact inB_n (by omega) (by decide) | exact inB_l (by omega) (by decide) | exact inB_al (by omega) (by decide) | exact inB_la (by omega) (by decide) | exact inB_j (by assumption) (by omega) (by decide) | exact inB_e (by assumption) (by decide) | omega) only [↓eC h, v9]
      rw [gap_mx hp ha (by omega)]
      rfl
    | succ m ih =>
      intro i acc f hi hf hacc
      obtain ⟨f, rfl⟩ : ∃ f', f = f' + 1 := ⟨f - 1, by omega⟩
      have w1 := hw i
      have ih := ih (i + 1) (max acc (w i)) f (by omega) (by omega) (by omega)
      show b_X4_reckonGap_33 F (fix4 (b_X4_reckonGap_33 F) f) (C + 20) (nI a) (nI acc) (nI i) (wC S C V U D) = _
      generalize fix4 (b_X4_reckonGap_33 F) f = k33 at ih ⊢
      unfold b_X4_reckonGap_33
      rw [if_neg (show ¬ (40 : Int32) < nI i from nI_nlt (a := 40) (b := i) (by omega) (by omega))]
      simp (disch := first | assumption | exact inB_n (by omega) (by decide) | exact inB_l (by omega) (by decide) | exact inB_al (by omega) (by decide) | exact inB_la (by omega) (by decide) | exact inB_j (by assumption) (by omega) (by decide) | exact inB_e (by assumption) (by decide) | omega) only [↓eC h, ↓lt_r, w21, mx_nI, ix_nI, ix_l, nI_al, nI_la, nI_lm, u2_ne, u2_eq]
      exact ih
  have outer : ∀ (m k acc f : Nat), k + m = kN K → m < f → acc ≤ 99 → fix3 (b_X4_reckonGap_4 F) f (C + 20) (nI acc) (nI k) (wC S C V U D) = some ((), wC S C (u2 V 20 11 (nI (p - mxL (wi K) m k acc - mxL w 41 0 0 / 5))) U D) := by
    intro m
    induction m with
    | zero =>
      intro k acc f hk hf hacc
      obtain ⟨f, rfl⟩ : ∃ f', f = f' + 1 := ⟨f - 1, by omega⟩
      show b_X4_reckonGap_4 F (fix3 (b_X4_reckonGap_4 F) f) (C + 20) (nI acc) (nI k) (wC S C V U D) = _
      generalize fix3 (b_X4_reckonGap_4 F) f = k4
      unfold b_X4_reckonGap_4
      simp (disch := first | assumption | exact inB_n (by omega) (by decide) | exact inB_l (by omega) (by decide) | exact inB_al (by omega) (by decide) | exact inB_la (by omega) (by decide) | exact inB_j (by assumption) (by omega) (by decide) | exact inB_e (by assumption) (by decide) | omega) only [↓eC h, v7, if_pos (show nI (kN K) ≤ nI k from nI_le (by omega) (by omega))]
      exact inner acc hacc 41 0 0 F (by omega) (by omega) (by omega)
    | succ m ih =>
      intro k acc f hk hf hacc
      obtain ⟨f, rfl⟩ : ∃ f', f = f' + 1 := ⟨f - 1, by omega⟩
      have w1 := hwi k (by omega)
      have wk := (hK.2.2.1 k (by omega)).2.1
      have ih := ih (k + 1) (max acc (wi K k)) f (by omega) (by omega) (by omega)
      show b_X4_reckonGap_4 F (fix3 (b_X4_reckonGap_4 F) f) (C + 20) (nI acc) (nI k) (wC S C V U D) = _
      generalize fix3 (b_X4_reckonGap_4 F) f = k4 at ih ⊢
      unfold b_X4_reckonGap_4
      simp (disch := first | assumption | exact inB_n (by omega) (by decide) | exact inB_l (by omega) (by decide) | exact inB_al (by omega) (by decide) | exact inB_la (by omega) (by decide) | exact inB_j (by assumption) (by omega) (by decide) | exact inB_e (by assumption) (by decide) | omega) only [↓eC h, ↓eK hK.1, ↓lt_r, v7, d6, wk, mx_nI, ix_nI, ix_l, nI_al, nI_la, nI_lm, u2_ne, u2_eq]
      rw [if_neg (show ¬ nI (kN K) ≤ nI k from fun q => by have := (nI_leI (by omega) (by omega)).mp q; omega)]
      exact ih
  exact outer (kN K) 0 0 F (by omega) (by omega) (by omega)
