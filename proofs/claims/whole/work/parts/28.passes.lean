/-! what a minute keeps of the model's part -/
def kp (V V' : Vw) : Prop := (∀ j, j ≠ 0 → j < 14 ∨ j = 25 ∨ j = 26 ∨ j = 30 ∨ j = 31 → V' j = V j) ∧ (∀ j, j ≠ 41 → j ≠ 42 → j ≠ 43 → V' 0 j = V 0 j)
theorem kp.rf {V : Vw} : kp V V := ⟨fun _ _ _ => rfl, fun _ _ _ _ => rfl⟩
theorem kp.tr {V V1 V2 : Vw} (h1 : kp V V1) (h2 : kp V1 V2) : kp V V2 := ⟨fun j a b => (h2.1 j a b).trans (h1.1 j a b), fun j a b c => (h2.2 j a b c).trans (h1.2 j a b c)⟩
theorem kp.sky {V V' : Vw} {r : Nat} {K : SkyT} (h : kp V V') (hK : mSky V r K) : mSky V' r K := hK.keep (fun j hj => h.1 j (by omega) (by omega))
def passN (K : SkyT) (g : Int32) (s : Nat → Nat) : Nat → Nat := chgN K s (nxtN K g s)
theorem nxtN_le {K : SkyT} {g : Int32} {B k : Nat} {s : Nat → Nat} (hs : wfS K B s) (hk : k < kN K) : nxtN K g s k ≤ 40 ∧ (lo (s 18) k = false → restsN K s k = false → clI (nI (s k) + outN K g s k) 0 40 = nI (nxtN K g s k)) := by
  have h4 := (hs.1 k hk).1
  obtain ⟨j, hj, e⟩ := clI_in (v := nI (s k) + outN K g s k) (lo := 0) (hi := 40) (a := 40) rfl rfl (by decide)
  have e2 : (clI (nI (s k) + outN K g s k) 0 40).toNatClampNeg = j := by rw [e, nI_clamp (by omega)]
  unfold nxtN
  rw [e2]
  refine ⟨?_, fun h1 h2 => ?_⟩
  · split
    · exact h4
    · split
      · exact h4
      · exact hj
  · rw [h1, h2, e]; rfl
theorem wf_chg {K : SkyT} {B : Nat} {s nx : Nat → Nat} (hs : wfS K B s) (hw : wfK K) (hx : ∀ k, k < kN K → lo (s 18) k = false → nx k ≤ 40 ∧ (nx k = s k ∨ s (12 + k) < 20)) : wfS K (B + 1) (chgN K s nx) := by
  have hn6 := hw.1.1
  obtain ⟨h1, h2, h3, h4, h5⟩ := hs
  have o : ∀ j, 18 ≤ j → j ≠ 19 → chgN K s nx j = s j := fun j h18 h19 => by
    unfold chgN chgI
    rw [if_neg h19, if_neg (by omega), if_neg (by omega), if_neg (by omega)]
  refine ⟨fun k hk => ?_, by rw [o 18 (by omega) (by omega)]; exact h2, ?_, by rw [o 20 (by omega) (by omega)]; exact h4, fun i hi => ?_⟩
  · obtain ⟨q1, q2, q3⟩ := h1 k hk
    have e6 : 6 + k - 6 = k := by omega
    have e12 : 12 + k - 12 = k := by omega
    unfold chgN chgI
    refine ⟨?_, ?_, ?_⟩
    · rw [if_neg (by omega), if_pos (by omega)]
      split
      · exact (hx k hk (by rename_i q; exact q.2)).1
      · exact q1
    · rw [if_neg (by omega), if_neg (by omega), if_pos (by omega)]
      split <;> omega
    · rw [if_neg (by omega), if_neg (by omega), if_neg (by omega), if_pos (by omega), e12]
      split
      · rename_i q
        have := (hx k hk q.2).2
        split <;> omega
      · exact q3
  · unfold chgN; rw [if_pos rfl]; omega
  · rw [o 20 (by omega) (by omega)] at hi
    have := h5 i hi
    rw [o _ (by omega) (by omega), o _ (by omega) (by omega), o _ (by omega) (by omega)]
    exact this
theorem wf_pass {K : SkyT} {g : Int32} {B : Nat} {s : Nat → Nat} (hs : wfS K B s) (hw : wfK K) : wfS K (B + 1) (passN K g s) := wf_chg hs hw (fun k hk hl => by
  refine ⟨(nxtN_le hs hk).1, ?_⟩
  by_cases hr : restsN K s k = true
  · left; unfold nxtN; rw [hl, hr]; rfl
  · right
    have hT := hw.1.2.2.2.2.2.1
    unfold restsN at hr
    by_cases h1 : kT K ≤ s (12 + k)
    · exact absurd (by simp [h1]) hr
    · omega)
theorem q_passes {B : Nat} {g : Int32} {K : SkyT} {s : Nat → Nat} {F M : Nat} {S : Mem} {V0 : Vw} {U : Uw} (h : shM S M) (hF : 6007 < F) (hw9 : wfK K) (hK : mSky V0 0 K) (hS : mS V0 s) (hs : wfS K B s) (hB : B < 2 ^ 30) :
    ∃ V', fn_X9_passes F M g (wM S M V0 U) = some ((), wM S M V' U) ∧ kp V0 V' ∧ mS V' (passN K g s) := by
  have hn6 := hw9.1.1
  have hl2 : s 18 < 2 ^ 31 := by have := hs.lost hw9; omega
  obtain ⟨V1, e1, f1, f0, w1, p1, r1, r2, r3⟩ := q_looks (F := F) (V := V0) (U := U) (m := s 19) (g := g) (l := s 18) (len := s) h hF hw9 hK (hS 18 (by omega)) hl2 (fun k hk => hS k (by omega)) (fun k hk => (hs.1 k hk).1)
  have hn : V1 2 4 = nI (kN K) := by rw [f1 2 (by omega) (by omega)]; exact hK.1.2.2.2.2
  have hS1 : mS V1 s := fun j hj => by rw [f1 24 (by omega) (by omega)]; exact hS j hj
  have hL1 : mLook K g s V1 := ⟨w1, p1, r1, r2, r3⟩
  have hK1 : mSky V1 0 K := hK.keep (fun j hj => f1 j (by omega) (by omega))
  have key : ∀ (d i f : Nat) (V : Vw), i + d = kN K → d < f → (∀ j, j < 14 ∨ (23 < j ∧ j ≠ 29) → V j = V1 j) → (∀ k, k < i → V 29 k = nI (nxtN K g s k)) →
      ∃ V', fix2 (b_X9_passes_14 F) f M (nI i) (wM S M V U) = some ((), wM S M V' U) ∧ kp V0 V' ∧ mS V' (passN K g s) := by
    intro d
    induction d with
    | zero =>
      intro i f V hi hf hV hP
      obtain ⟨f, rfl⟩ : ∃ f', f = f' + 1 := ⟨f - 1, by omega⟩
      obtain rfl : i = kN K := by omega
      obtain ⟨V2, e2, f2, s2⟩ := q_changes (F := F) (V0 := V) (U := U) (s := s) (nx := nxtN K g s) h (by omega) hw9 (hK1.keep (fun j hj => hV j (by omega))) (fun j hj => by rw [hV 24 (by omega)]; exact hS1 j hj) hs hB (fun k hk _ => ⟨hP k hk, (nxtN_le hs hk).1⟩)
      show ∃ V', b_X9_passes_14 F (fix2 (b_X9_passes_14 F) f) M (nI (kN K)) (wM S M V U) = _ ∧ _
      generalize fix2 (b_X9_passes_14 F) f = k4
      unfold b_X9_passes_14
      rw [cm_sky h, ca_sky h (inB_l (by omega) (by decide)), hV 2 (by omega)]
      show ∃ V', (if V1 2 4 ≤ nI (kN K) then _ else _) = _ ∧ _
      rw [hn, if_pos (Int32.le_refl _), cm_cal h, e2, bd_r]
      refine ⟨V2, rfl, ⟨fun j h0 hj => ?_, fun j a b c => ?_⟩, s2⟩
      · rw [f2 j (by omega), hV j (by omega), f1 j h0 (by omega)]
      · rw [f2 0 (by omega), hV 0 (by omega), f0 j a b c]
    | succ d ih =>
      intro i f V hi hf hV hP
      obtain ⟨f, rfl⟩ : ∃ f', f = f' + 1 := ⟨f - 1, by omega⟩
      have ih := fun V => ih (i + 1) f V (by omega) (by omega)
      show ∃ V', b_X9_passes_14 F (fix2 (b_X9_passes_14 F) f) M (nI i) (wM S M V U) = _ ∧ _
      generalize fix2 (b_X9_passes_14 F) f = k4 at ih ⊢
      have hKV : mSky V 0 K := hK1.keep (fun j hj => hV j (by omega))
      have hSV : mS V s := fun j hj => by rw [hV 24 (by omega)]; exact hS1 j hj
      have hLV : mLook K g s V := by
        unfold mLook
        rw [hV 27 (by omega), hV 28 (by omega), hV 0 (by omega)]
        exact hL1
      have p2 := q_isLost (F := F) (V := V) (U := U) (k := i) (l := s 18) h (by omega) (hSV 18 (by omega)) hl2
      have p3 := q_rests (F := F) (V := V) (U := U) h hw9 hKV hSV hs hB (show i < kN K by omega)
      have nx := nxtN_le (g := g) hs (show i < kN K by omega)
      have vi : V 24 i = nI (s i) := hSV i (by omega)
      have st : ∀ (W : Vw), (∀ j, j < 14 ∨ 23 < j → W j = V j) → ∃ V', k4 M (nI (i + 1)) (wM S M (u2 W 29 i (nI (nxtN K g s i))) U) = some ((), wM S M V' U) ∧ kp V0 V' ∧ mS V' (passN K g s) := by
        intro W hW
        refine ih _ (fun j hj => by rw [u2_row (by omega), hW j (by omega), hV j hj]) (fun k hk => ?_)
        by_cases hki : k = i
        · subst hki; rw [u2_eq ⟨rfl, rfl⟩]
        · rw [u2_ne (Or.inr hki), hW 29 (by omega)]; exact hP k (by omega)
      unfold b_X9_passes_14 f_X9_passes_45 f_X9_passes_72
      rw [cm_sky h, ca_sky h (inB_l (by omega) (by decide)), hV 2 (by omega)]
      show ∃ V', (if V1 2 4 ≤ nI i then _ else _) = _ ∧ _
      rw [hn, if_neg (nI_ge (by omega) (by omega)), cm_next h, cm_cal h, p2, bd_r]
      cases hl9 : lo (s 18) i with
      | true =>
        show ∃ V', (if (1 : Int32) = 0 then _ else _) = _ ∧ _
        rw [if_neg (by decide)]
        simp (disch := first | assumption | exact inB_n (by omega) (by decide) | exact inB_l (by omega) (by decide) | exact inB_al (by omega) (by decide) | exact inB_la (by omega) (by decide) | exact inB_j (by assumption) (by omega) (by decide) | exact inB_e (by assumption) (by decide) | omega) only [↓eM h, ↓bd_r, ↓lt_r, ↓Option.bind_some, ↓reduceIte, ix_nI, ix_l, nI_al, nI_la, nI_lm, u2_ne, u2_eq, nI_leI, nI_ltI, nI_eq, le_ln, le_nl, lt_ln, lt_nl, eq_nl, eq_ln, vi]
        have := st V (fun _ _ => rfl)
        unfold nxtN at this
        rw [hl9] at this
        exact this
      | false =>
        show ∃ V', (if (0 : Int32) = 0 then _ else _) = _ ∧ _
        rw [if_pos rfl, cm_cal h, p3, bd_r]
        cases hr9 : restsN K s i with
        | true =>
          show ∃ V', (if (1 : Int32) = 0 then _ else _) = _ ∧ _
          rw [if_neg (by decide)]
          simp (disch := first | assumption | exact inB_n (by omega) (by decide) | exact inB_l (by omega) (by decide) | exact inB_al (by omega) (by decide) | exact inB_la (by omega) (by decide) | exact inB_j (by assumption) (by omega) (by decide) | exact inB_e (by assumption) (by decide) | omega) only [↓eM h, ↓bd_r, ↓lt_r, ↓Option.bind_some, ↓reduceIte, ix_nI, ix_l, nI_al, nI_la, nI_lm, u2_ne, u2_eq, nI_leI, nI_ltI, nI_eq, le_ln, le_nl, lt_ln, lt_nl, eq_nl, eq_ln, vi]
          have := st V (fun _ _ => rfl)
          unfold nxtN at this
          rw [hl9, hr9] at this
          exact this
        | false =>
          show ∃ V', (if (0 : Int32) = 0 then _ else _) = _ ∧ _
          obtain ⟨V2, e2, f2⟩ := q_hauls (F := F) (V := V) (U := U) (g := g) h hF hw9 hKV hSV hs hLV (show i < kN K by omega)
          rw [if_pos rfl]
          simp (disch := first | assumption | exact inB_n (by omega) (by decide) | exact inB_l (by omega) (by decide) | exact inB_al (by omega) (by decide) | exact inB_la (by omega) (by decide) | exact inB_j (by assumption) (by omega) (by decide) | exact inB_e (by assumption) (by decide) | omega) only [↓eM h, ↓bd_r, ↓lt_r, ↓Option.bind_some, ↓reduceIte, ix_nI, ix_l, nI_al, nI_la, nI_lm, u2_ne, u2_eq, nI_leI, nI_ltI, nI_eq, le_ln, le_nl, lt_ln, lt_nl, eq_nl, eq_ln, vi, e2, p_between, nx.2 hl9 hr9]
          exact st V2 f2
  obtain ⟨V2, e2, k2, s2⟩ := key (kN K) 0 F V1 (by omega) (by omega) (fun _ _ => rfl) (fun k hk => by omega)
  refine ⟨V2, ?_, k2, s2⟩
  unfold fn_X9_passes
  simp (disch := first | assumption | exact inB_n (by omega) (by decide) | exact inB_l (by omega) (by decide) | exact inB_al (by omega) (by decide) | exact inB_la (by omega) (by decide) | exact inB_j (by assumption) (by omega) (by decide) | exact inB_e (by assumption) (by decide) | omega) only [↓eM h, ↓bd_r, ↓lt_r, ↓Option.bind_some, ↓reduceIte, ix_nI, ix_l, nI_al, nI_la, nI_lm, u2_ne, u2_eq, nI_leI, nI_ltI, nI_eq, le_ln, le_nl, lt_ln, lt_nl, eq_nl, eq_ln, hS 19 (by omega), e1]
  exact e2
theorem q_copies_a {oa ob : Nat} {F M : Nat} {S : Mem} {V0 : Vw} {U : Uw} (h : shM S M) (hF : 65 < F) (ha : oa + 64 ≤ 64) (hb : ob + 64 ≤ 64) :
    ∃ V', fn_X9_copies F (M + 24) (nI oa) (M + 25) (nI ob) (wM S M V0 U) = some ((), wM S M V' U) ∧ (∀ j, j ≠ 25 → V' j = V0 j) ∧ (∀ k, k < 64 → V' 25 (ob + k) = V0 24 (oa + k)) ∧ ∀ k, k < ob ∨ ob + 64 ≤ k → V' 25 k = V0 25 k := by
  have key : ∀ (d i f : Nat) (V : Vw), i + d = 64 → d < f → (∀ j, j ≠ 25 → V j = V0 j) → (∀ k, k < i → V 25 (ob + k) = V0 24 (oa + k)) → (∀ k, k < ob ∨ ob + 64 ≤ k → V 25 k = V0 25 k) →
      ∃ V', fix5 (b_X9_copies_3 F) f (M + 24) (nI oa) (M + 25) (nI ob) (nI i) (wM S M V U) = some ((), wM S M V' U) ∧ (∀ j, j ≠ 25 → V' j = V0 j) ∧ (∀ k, k < 64 → V' 25 (ob + k) = V0 24 (oa + k)) ∧ ∀ k, k < ob ∨ ob + 64 ≤ k → V' 25 k = V0 25 k := by
    intro d
    induction d with
    | zero =>
      intro i f V hi hf hV hP hQ
      obtain ⟨f, rfl⟩ : ∃ f', f = f' + 1 := ⟨f - 1, by omega⟩
      obtain rfl : i = 64 := by omega
      exact ⟨V, rfl, hV, hP, hQ⟩
    | succ d ih =>
      intro i f V hi hf hV hP hQ
      obtain ⟨f, rfl⟩ : ∃ f', f = f' + 1 := ⟨f - 1, by omega⟩
      have ih := fun V => ih (i + 1) f V (by omega) (by omega)
      show ∃ V', b_X9_copies_3 F (fix5 (b_X9_copies_3 F) f) (M + 24) (nI oa) (M + 25) (nI ob) (nI i) (wM S M V U) = _ ∧ _
      generalize fix5 (b_X9_copies_3 F) f = k5 at ih ⊢
      unfold b_X9_copies_3
      rw [nI_add, nI_add]
      simp (disch := first | assumption | exact inB_n (by omega) (by decide) | exact inB_l (by omega) (by decide) | exact inB_al (by omega) (by decide) | exact inB_la (by omega) (by decide) | exact inB_j (by assumption) (by omega) (by decide) | exact inB_e (by assumption) (by decide) | omega) only [↓eM h, ↓bd_r, ↓lt_r, ↓Option.bind_some, ↓reduceIte, ix_nI, ix_l, nI_al, nI_la, nI_lm, u2_ne, u2_eq, nI_leI, nI_ltI, nI_eq, le_ln, le_nl, lt_ln, lt_nl, eq_nl, eq_ln, if_neg (show ¬ 64 ≤ i by omega)]
      refine ih _ (fun j hj => by rw [u2_row hj, hV j hj]) (fun k hk => ?_) (fun k hk => ?_)
      · by_cases hki : k = i
        · subst hki; rw [u2_eq ⟨rfl, rfl⟩, hV 24 (by omega)]
        · rw [u2_ne (by omega), hP k (by omega)]
      · rw [u2_ne (by omega), hQ k hk]
  exact key 64 0 F V0 (by omega) (by omega) (fun _ _ => rfl) (fun k hk => by omega) (fun _ _ => rfl)
theorem q_copies_b {oa ob : Nat} {F M : Nat} {S : Mem} {V0 : Vw} {U : Uw} (h : shM S M) (hF : 65 < F) (ha : oa + 64 ≤ 64) (hb : ob + 64 ≤ 64) :
    ∃ V', fn_X9_copies F (M + 25) (nI oa) (M + 24) (nI ob) (wM S M V0 U) = some ((), wM S M V' U) ∧ (∀ j, j ≠ 24 → V' j = V0 j) ∧ (∀ k, k < 64 → V' 24 (ob + k) = V0 25 (oa + k)) ∧ ∀ k, k < ob ∨ ob + 64 ≤ k → V' 24 k = V0 24 k := by
  have key : ∀ (d i f : Nat) (V : Vw), i + d = 64 → d < f → (∀ j, j ≠ 24 → V j = V0 j) → (∀ k, k < i → V 24 (ob + k) = V0 25 (oa + k)) → (∀ k, k < ob ∨ ob + 64 ≤ k → V 24 k = V0 24 k) →
      ∃ V', fix5 (b_X9_copies_3 F) f (M + 25) (nI oa) (M + 24) (nI ob) (nI i) (wM S M V U) = some ((), wM S M V' U) ∧ (∀ j, j ≠ 24 → V' j = V0 j) ∧ (∀ k, k < 64 → V' 24 (ob + k) = V0 25 (oa + k)) ∧ ∀ k, k < ob ∨ ob + 64 ≤ k → V' 24 k = V0 24 k := by
    intro d
    induction d with
    | zero =>
      intro i f V hi hf hV hP hQ
      obtain ⟨f, rfl⟩ : ∃ f', f = f' + 1 := ⟨f - 1, by omega⟩
      obtain rfl : i = 64 := by omega
      exact ⟨V, rfl, hV, hP, hQ⟩
    | succ d ih =>
      intro i f V hi hf hV hP hQ
      obtain ⟨f, rfl⟩ : ∃ f', f = f' + 1 := ⟨f - 1, by omega⟩
      have ih := fun V => ih (i + 1) f V (by omega) (by omega)
      show ∃ V', b_X9_copies_3 F (fix5 (b_X9_copies_3 F) f) (M + 25) (nI oa) (M + 24) (nI ob) (nI i) (wM S M V U) = _ ∧ _
      generalize fix5 (b_X9_copies_3 F) f = k5 at ih ⊢
      unfold b_X9_copies_3
      rw [nI_add, nI_add]
      simp (disch := first | assumption | exact inB_n (by omega) (by decide) | exact inB_l (by omega) (by decide) | exact inB_al (by omega) (by decide) | exact inB_la (by omega) (by decide) | exact inB_j (by assumption) (by omega) (by decide) | exact inB_e (by assumption) (by decide) | omega) only [↓eM h, ↓bd_r, ↓lt_r, ↓Option.bind_some, ↓reduceIte, ix_nI, ix_l, nI_al, nI_la, nI_lm, u2_ne, u2_eq, nI_leI, nI_ltI, nI_eq, le_ln, le_nl, lt_ln, lt_nl, eq_nl, eq_ln, if_neg (show ¬ 64 ≤ i by omega)]
      refine ih _ (fun j hj => by rw [u2_row hj, hV j hj]) (fun k hk => ?_) (fun k hk => ?_)
      · by_cases hki : k = i
        · subst hki; rw [u2_eq ⟨rfl, rfl⟩, hV 25 (by omega)]
        · rw [u2_ne (by omega), hP k (by omega)]
      · rw [u2_ne (by omega), hQ k hk]
  exact key 64 0 F V0 (by omega) (by omega) (fun _ _ => rfl) (fun k hk => by omega) (fun _ _ => rfl)
theorem q_copies_c {oa ob : Nat} {F M : Nat} {S : Mem} {V0 : Vw} {U : Uw} (h : shM S M) (hF : 65 < F) (ha : oa + 64 ≤ 64) (hb : ob + 64 ≤ 256) :
    ∃ V', fn_X9_copies F (M + 24) (nI oa) (M + 26) (nI ob) (wM S M V0 U) = some ((), wM S M V' U) ∧ (∀ j, j ≠ 26 → V' j = V0 j) ∧ (∀ k, k < 64 → V' 26 (ob + k) = V0 24 (oa + k)) ∧ ∀ k, k < ob ∨ ob + 64 ≤ k → V' 26 k = V0 26 k := by
  have key : ∀ (d i f : Nat) (V : Vw), i + d = 64 → d < f → (∀ j, j ≠ 26 → V j = V0 j) → (∀ k, k < i → V 26 (ob + k) = V0 24 (oa + k)) → (∀ k, k < ob ∨ ob + 64 ≤ k → V 26 k = V0 26 k) →
      ∃ V', fix5 (b_X9_copies_3 F) f (M + 24) (nI oa) (M + 26) (nI ob) (nI i) (wM S M V U) = some ((), wM S M V' U) ∧ (∀ j, j ≠ 26 → V' j = V0 j) ∧ (∀ k, k < 64 → V' 26 (ob + k) = V0 24 (oa + k)) ∧ ∀ k, k < ob ∨ ob + 64 ≤ k → V' 26 k = V0 26 k := by
    intro d
    induction d with
    | zero =>
      intro i f V hi hf hV hP hQ
      obtain ⟨f, rfl⟩ : ∃ f', f = f' + 1 := ⟨f - 1, by omega⟩
      obtain rfl : i = 64 := by omega
      exact ⟨V, rfl, hV, hP, hQ⟩
    | succ d ih =>
      intro i f V hi hf hV hP hQ
      obtain ⟨f, rfl⟩ : ∃ f', f = f' + 1 := ⟨f - 1, by omega⟩
      have ih := fun V => ih (i + 1) f V (by omega) (by omega)
      show ∃ V', b_X9_copies_3 F (fix5 (b_X9_copies_3 F) f) (M + 24) (nI oa) (M + 26) (nI ob) (nI i) (wM S M V U) = _ ∧ _
      generalize fix5 (b_X9_copies_3 F) f = k5 at ih ⊢
      unfold b_X9_copies_3
      rw [nI_add, nI_add]
      simp (disch := first | assumption | exact inB_n (by omega) (by decide) | exact inB_l (by omega) (by decide) | exact inB_al (by omega) (by decide) | exact inB_la (by omega) (by decide) | exact inB_j (by assumption) (by omega) (by decide) | exact inB_e (by assumption) (by decide) | omega) only [↓eM h, ↓bd_r, ↓lt_r, ↓Option.bind_some, ↓reduceIte, ix_nI, ix_l, nI_al, nI_la, nI_lm, u2_ne, u2_eq, nI_leI, nI_ltI, nI_eq, le_ln, le_nl, lt_ln, lt_nl, eq_nl, eq_ln, if_neg (show ¬ 64 ≤ i by omega)]
      refine ih _ (fun j hj => by rw [u2_row hj, hV j hj]) (fun k hk => ?_) (fun k hk => ?_)
      · by_cases hki : k = i
        · subst hki; rw [u2_eq ⟨rfl, rfl⟩, hV 24 (by omega)]
        · rw [u2_ne (by omega), hP k (by omega)]
      · rw [u2_ne (by omega), hQ k hk]
  exact key 64 0 F V0 (by omega) (by omega) (fun _ _ => rfl) (fun k hk => by omega) (fun _ _ => rfl)
theorem q_copies_d {oa ob : Nat} {F M : Nat} {S : Mem} {V0 : Vw} {U : Uw} (h : shM S M) (hF : 65 < F) (ha : oa + 64 ≤ 256) (hb : ob + 64 ≤ 64) :
    ∃ V', fn_X9_copies F (M + 26) (nI oa) (M + 24) (nI ob) (wM S M V0 U) = some ((), wM S M V' U) ∧ (∀ j, j ≠ 24 → V' j = V0 j) ∧ (∀ k, k < 64 → V' 24 (ob + k) = V0 26 (oa + k)) ∧ ∀ k, k < ob ∨ ob + 64 ≤ k → V' 24 k = V0 24 k := by
  have key : ∀ (d i f : Nat) (V : Vw), i + d = 64 → d < f → (∀ j, j ≠ 24 → V j = V0 j) → (∀ k, k < i → V 24 (ob + k) = V0 26 (oa + k)) → (∀ k, k < ob ∨ ob + 64 ≤ k → V 24 k = V0 24 k) →
      ∃ V', fix5 (b_X9_copies_3 F) f (M + 26) (nI oa) (M + 24) (nI ob) (nI i) (wM S M V U) = some ((), wM S M V' U) ∧ (∀ j, j ≠ 24 → V' j = V0 j) ∧ (∀ k, k < 64 → V' 24 (ob + k) = V0 26 (oa + k)) ∧ ∀ k, k < ob ∨ ob + 64 ≤ k → V' 24 k = V0 24 k := by
    intro d
    induction d with
    | zero =>
      intro i f V hi hf hV hP hQ
      obtain ⟨f, rfl⟩ : ∃ f', f = f' + 1 := ⟨f - 1, by omega⟩
      obtain rfl : i = 64 := by omega
      exact ⟨V, rfl, hV, hP, hQ⟩
    | succ d ih =>
      intro i f V hi hf hV hP hQ
      obtain ⟨f, rfl⟩ : ∃ f', f = f' + 1 := ⟨f - 1, by omega⟩
      have ih := fun V => ih (i + 1) f V (by omega) (by omega)
      show ∃ V', b_X9_copies_3 F (fix5 (b_X9_copies_3 F) f) (M + 26) (nI oa) (M + 24) (nI ob) (nI i) (wM S M V U) = _ ∧ _
      generalize fix5 (b_X9_copies_3 F) f = k5 at ih ⊢
      unfold b_X9_copies_3
      rw [nI_add, nI_add]
      simp (disch := first | assumption | exact inB_n (by omega) (by decide) | exact inB_l (by omega) (by decide) | exact inB_al (by omega) (by decide) | exact inB_la (by omega) (by decide) | exact inB_j (by assumption) (by omega) (by decide) | exact inB_e (by assumption) (by decide) | omega) only [↓eM h, ↓bd_r, ↓lt_r, ↓Option.bind_some, ↓reduceIte, ix_nI, ix_l, nI_al, nI_la, nI_lm, u2_ne, u2_eq, nI_leI, nI_ltI, nI_eq, le_ln, le_nl, lt_ln, lt_nl, eq_nl, eq_ln, if_neg (show ¬ 64 ≤ i by omega)]
      refine ih _ (fun j hj => by rw [u2_row hj, hV j hj]) (fun k hk => ?_) (fun k hk => ?_)
      · by_cases hki : k = i
        · subst hki; rw [u2_eq ⟨rfl, rfl⟩, hV 26 (by omega)]
        · rw [u2_ne (by omega), hP k (by omega)]
      · rw [u2_ne (by omega), hQ k hk]
  exact key 64 0 F V0 (by omega) (by omega) (fun _ _ => rfl) (fun k hk => by omega) (fun _ _ => rfl)
theorem q_moves_2 {fr to : Nat} {F M : Nat} {S : Mem} {V0 : Vw} {U : Uw} (h : shM S M) (hF : 1001 < F) (ha : fr < 6) (hb : to < 6) (hne : fr ≠ to) :
    ∃ V', fn_X9_moves F (M + 2) (nI 5) (nI fr) (nI to) (wM S M V0 U) = some ((), wM S M V' U) ∧ (∀ j, j ≠ 2 → V' j = V0 j) ∧ (∀ k, k < 5 → V' 2 (5 * to + k) = V0 2 (5 * fr + k)) ∧ ∀ k, k < 5 * to ∨ 5 * to + 5 ≤ k → V' 2 k = V0 2 k := by
  have key : ∀ (d i f : Nat) (V : Vw), i + d = 5 → d < f → (∀ j, j ≠ 2 → V j = V0 j) → (∀ k, k < i → V 2 (5 * to + k) = V0 2 (5 * fr + k)) → (∀ k, k < 5 * to ∨ 5 * to + 5 ≤ k → V 2 k = V0 2 k) →
      ∃ V', fix5 (b_X9_moves_3 F) f (M + 2) (nI 5) (nI fr) (nI to) (nI i) (wM S M V U) = some ((), wM S M V' U) ∧ (∀ j, j ≠ 2 → V' j = V0 j) ∧ (∀ k, k < 5 → V' 2 (5 * to + k) = V0 2 (5 * fr + k)) ∧ ∀ k, k < 5 * to ∨ 5 * to + 5 ≤ k → V' 2 k = V0 2 k := by
    intro d
    induction d with
    | zero =>
      intro i f V hi hf hV hP hQ
      obtain ⟨f, rfl⟩ : ∃ f', f = f' + 1 := ⟨f - 1, by omega⟩
      obtain rfl : i = 5 := by omega
      exact ⟨V, rfl, hV, hP, hQ⟩
    | succ d ih =>
      intro i f V hi hf hV hP hQ
      obtain ⟨f, rfl⟩ : ∃ f', f = f' + 1 := ⟨f - 1, by omega⟩
      have ih := fun V => ih (i + 1) f V (by omega) (by omega)
      show ∃ V', b_X9_moves_3 F (fix5 (b_X9_moves_3 F) f) (M + 2) (nI 5) (nI fr) (nI to) (nI i) (wM S M V U) = _ ∧ _
      generalize fix5 (b_X9_moves_3 F) f = k5 at ih ⊢
      unfold b_X9_moves_3
      rw [pk_mul, pk_mul, nI_add, nI_add]
      simp (disch := first | assumption | exact inB_n (by omega) (by decide) | exact inB_l (by omega) (by decide) | exact inB_al (by omega) (by decide) | exact inB_la (by omega) (by decide) | exact inB_j (by assumption) (by omega) (by decide) | exact inB_e (by assumption) (by decide) | omega) only [↓eM h, ↓bd_r, ↓lt_r, ↓Option.bind_some, ↓reduceIte, ix_nI, ix_l, nI_al, nI_la, nI_lm, u2_ne, u2_eq, nI_leI, nI_ltI, nI_eq, le_ln, le_nl, lt_ln, lt_nl, eq_nl, eq_ln, if_neg (show ¬ 5 ≤ i by omega)]
      refine ih _ (fun j hj => by rw [u2_row hj, hV j hj]) (fun k hk => ?_) (fun k hk => ?_)
      · by_cases hki : k = i
        · subst hki
          rw [u2_eq ⟨rfl, rfl⟩, hQ _ (by omega)]
        · rw [u2_ne (by omega), hP k (by omega)]
      · rw [u2_ne (by omega), hQ k hk]
  exact key 5 0 F V0 (by omega) (by omega) (fun _ _ => rfl) (fun k hk => by omega) (fun _ _ => rfl)
theorem q_moves_3 {fr to : Nat} {F M : Nat} {S : Mem} {V0 : Vw} {U : Uw} (h : shM S M) (hF : 1001 < F) (ha : fr < 6) (hb : to < 6) (hne : fr ≠ to) :
    ∃ V', fn_X9_moves F (M + 3) (nI 6) (nI fr) (nI to) (wM S M V0 U) = some ((), wM S M V' U) ∧ (∀ j, j ≠ 3 → V' j = V0 j) ∧ (∀ k, k < 6 → V' 3 (6 * to + k) = V0 3 (6 * fr + k)) ∧ ∀ k, k < 6 * to ∨ 6 * to + 6 ≤ k → V' 3 k = V0 3 k := by
  have key : ∀ (d i f : Nat) (V : Vw), i + d = 6 → d < f → (∀ j, j ≠ 3 → V j = V0 j) → (∀ k, k < i → V 3 (6 * to + k) = V0 3 (6 * fr + k)) → (∀ k, k < 6 * to ∨ 6 * to + 6 ≤ k → V 3 k = V0 3 k) →
      ∃ V', fix5 (b_X9_moves_3 F) f (M + 3) (nI 6) (nI fr) (nI to) (nI i) (wM S M V U) = some ((), wM S M V' U) ∧ (∀ j, j ≠ 3 → V' j = V0 j) ∧ (∀ k, k < 6 → V' 3 (6 * to + k) = V0 3 (6 * fr + k)) ∧ ∀ k, k < 6 * to ∨ 6 * to + 6 ≤ k → V' 3 k = V0 3 k := by
    intro d
    induction d with
    | zero =>
      intro i f V hi hf hV hP hQ
      obtain ⟨f, rfl⟩ : ∃ f', f = f' + 1 := ⟨f - 1, by omega⟩
      obtain rfl : i = 6 := by omega
      exact ⟨V, rfl, hV, hP, hQ⟩
    | succ d ih =>
      intro i f V hi hf hV hP hQ
      obtain ⟨f, rfl⟩ : ∃ f', f = f' + 1 := ⟨f - 1, by omega⟩
      have ih := fun V => ih (i + 1) f V (by omega) (by omega)
      show ∃ V', b_X9_moves_3 F (fix5 (b_X9_moves_3 F) f) (M + 3) (nI 6) (nI fr) (nI to) (nI i) (wM S M V U) = _ ∧ _
      generalize fix5 (b_X9_moves_3 F) f = k5 at ih ⊢
      unfold b_X9_moves_3
      rw [pk_mul, pk_mul, nI_add, nI_add]
      simp (disch := first | assumption | exact inB_n (by omega) (by decide) | exact inB_l (by omega) (by decide) | exact inB_al (by omega) (by decide) | exact inB_la (by omega) (by decide) | exact inB_j (by assumption) (by omega) (by decide) | exact inB_e (by assumption) (by decide) | omega) only [↓eM h, ↓bd_r, ↓lt_r, ↓Option.bind_some, ↓reduceIte, ix_nI, ix_l, nI_al, nI_la, nI_lm, u2_ne, u2_eq, nI_leI, nI_ltI, nI_eq, le_ln, le_nl, lt_ln, lt_nl, eq_nl, eq_ln, if_neg (show ¬ 6 ≤ i by omega)]
      refine ih _ (fun j hj => by rw [u2_row hj, hV j hj]) (fun k hk => ?_) (fun k hk => ?_)
      · by_cases hki : k = i
        · subst hki
          rw [u2_eq ⟨rfl, rfl⟩, hQ _ (by omega)]
        · rw [u2_ne (by omega), hP k (by omega)]
      · rw [u2_ne (by omega), hQ k hk]
  exact key 6 0 F V0 (by omega) (by omega) (fun _ _ => rfl) (fun k hk => by omega) (fun _ _ => rfl)
theorem q_moves_4 {fr to : Nat} {F M : Nat} {S : Mem} {V0 : Vw} {U : Uw} (h : shM S M) (hF : 1001 < F) (ha : fr < 6) (hb : to < 6) (hne : fr ≠ to) :
    ∃ V', fn_X9_moves F (M + 4) (nI 6) (nI fr) (nI to) (wM S M V0 U) = some ((), wM S M V' U) ∧ (∀ j, j ≠ 4 → V' j = V0 j) ∧ (∀ k, k < 6 → V' 4 (6 * to + k) = V0 4 (6 * fr + k)) ∧ ∀ k, k < 6 * to ∨ 6 * to + 6 ≤ k → V' 4 k = V0 4 k := by
  have key : ∀ (d i f : Nat) (V : Vw), i + d = 6 → d < f → (∀ j, j ≠ 4 → V j = V0 j) → (∀ k, k < i → V 4 (6 * to + k) = V0 4 (6 * fr + k)) → (∀ k, k < 6 * to ∨ 6 * to + 6 ≤ k → V 4 k = V0 4 k) →
      ∃ V', fix5 (b_X9_moves_3 F) f (M + 4) (nI 6) (nI fr) (nI to) (nI i) (wM S M V U) = some ((), wM S M V' U) ∧ (∀ j, j ≠ 4 → V' j = V0 j) ∧ (∀ k, k < 6 → V' 4 (6 * to + k) = V0 4 (6 * fr + k)) ∧ ∀ k, k < 6 * to ∨ 6 * to + 6 ≤ k → V' 4 k = V0 4 k := by
    intro d
    induction d with
    | zero =>
      intro i f V hi hf hV hP hQ
      obtain ⟨f, rfl⟩ : ∃ f', f = f' + 1 := ⟨f - 1, by omega⟩
      obtain rfl : i = 6 := by omega
      exact ⟨V, rfl, hV, hP, hQ⟩
    | succ d ih =>
      intro i f V hi hf hV hP hQ
      obtain ⟨f, rfl⟩ : ∃ f', f = f' + 1 := ⟨f - 1, by omega⟩
      have ih := fun V => ih (i + 1) f V (by omega) (by omega)
      show ∃ V', b_X9_moves_3 F (fix5 (b_X9_moves_3 F) f) (M + 4) (nI 6) (nI fr) (nI to) (nI i) (wM S M V U) = _ ∧ _
      generalize fix5 (b_X9_moves_3 F) f = k5 at ih ⊢
      unfold b_X9_moves_3
      rw [pk_mul, pk_mul, nI_add, nI_add]
      simp (disch := first | assumption | exact inB_n (by omega) (by decide) | exact inB_l (by omega) (by decide) | exact inB_al (by omega) (by decide) | exact inB_la (by omega) (by decide) | exact inB_j (by assumption) (by omega) (by decide) | exact inB_e (by assumption) (by decide) | omega) only [↓eM h, ↓bd_r, ↓lt_r, ↓Option.bind_some, ↓reduceIte, ix_nI, ix_l, nI_al, nI_la, nI_lm, u2_ne, u2_eq, nI_leI, nI_ltI, nI_eq, le_ln, le_nl, lt_ln, lt_nl, eq_nl, eq_ln, if_neg (show ¬ 6 ≤ i by omega)]
      refine ih _ (fun j hj => by rw [u2_row hj, hV j hj]) (fun k hk => ?_) (fun k hk => ?_)
      · by_cases hki : k = i
        · subst hki
          rw [u2_eq ⟨rfl, rfl⟩, hQ _ (by omega)]
        · rw [u2_ne (by omega), hP k (by omega)]
      · rw [u2_ne (by omega), hQ k hk]
  exact key 6 0 F V0 (by omega) (by omega) (fun _ _ => rfl) (fun k hk => by omega) (fun _ _ => rfl)
theorem q_moves_5 {fr to : Nat} {F M : Nat} {S : Mem} {V0 : Vw} {U : Uw} (h : shM S M) (hF : 1001 < F) (ha : fr < 6) (hb : to < 6) (hne : fr ≠ to) :
    ∃ V', fn_X9_moves F (M + 5) (nI 6) (nI fr) (nI to) (wM S M V0 U) = some ((), wM S M V' U) ∧ (∀ j, j ≠ 5 → V' j = V0 j) ∧ (∀ k, k < 6 → V' 5 (6 * to + k) = V0 5 (6 * fr + k)) ∧ ∀ k, k < 6 * to ∨ 6 * to + 6 ≤ k → V' 5 k = V0 5 k := by
  have key : ∀ (d i f : Nat) (V : Vw), i + d = 6 → d < f → (∀ j, j ≠ 5 → V j = V0 j) → (∀ k, k < i → V 5 (6 * to + k) = V0 5 (6 * fr + k)) → (∀ k, k < 6 * to ∨ 6 * to + 6 ≤ k → V 5 k = V0 5 k) →
      ∃ V', fix5 (b_X9_moves_3 F) f (M + 5) (nI 6) (nI fr) (nI to) (nI i) (wM S M V U) = some ((), wM S M V' U) ∧ (∀ j, j ≠ 5 → V' j = V0 j) ∧ (∀ k, k < 6 → V' 5 (6 * to + k) = V0 5 (6 * fr + k)) ∧ ∀ k, k < 6 * to ∨ 6 * to + 6 ≤ k → V' 5 k = V0 5 k := by
    intro d
    induction d with
    | zero =>
      intro i f V hi hf hV hP hQ
      obtain ⟨f, rfl⟩ : ∃ f', f = f' + 1 := ⟨f - 1, by omega⟩
      obtain rfl : i = 6 := by omega
      exact ⟨V, rfl, hV, hP, hQ⟩
    | succ d ih =>
      intro i f V hi hf hV hP hQ
      obtain ⟨f, rfl⟩ : ∃ f', f = f' + 1 := ⟨f - 1, by omega⟩
      have ih := fun V => ih (i + 1) f V (by omega) (by omega)
      show ∃ V', b_X9_moves_3 F (fix5 (b_X9_moves_3 F) f) (M + 5) (nI 6) (nI fr) (nI to) (nI i) (wM S M V U) = _ ∧ _
      generalize fix5 (b_X9_moves_3 F) f = k5 at ih ⊢
      unfold b_X9_moves_3
      rw [pk_mul, pk_mul, nI_add, nI_add]
      simp (disch := first | assumption | exact inB_n (by omega) (by decide) | exact inB_l (by omega) (by decide) | exact inB_al (by omega) (by decide) | exact inB_la (by omega) (by decide) | exact inB_j (by assumption) (by omega) (by decide) | exact inB_e (by assumption) (by decide) | omega) only [↓eM h, ↓bd_r, ↓lt_r, ↓Option.bind_some, ↓reduceIte, ix_nI, ix_l, nI_al, nI_la, nI_lm, u2_ne, u2_eq, nI_leI, nI_ltI, nI_eq, le_ln, le_nl, lt_ln, lt_nl, eq_nl, eq_ln, if_neg (show ¬ 6 ≤ i by omega)]
      refine ih _ (fun j hj => by rw [u2_row hj, hV j hj]) (fun k hk => ?_) (fun k hk => ?_)
      · by_cases hki : k = i
        · subst hki
          rw [u2_eq ⟨rfl, rfl⟩, hQ _ (by omega)]
        · rw [u2_ne (by omega), hP k (by omega)]
      · rw [u2_ne (by omega), hQ k hk]
  exact key 6 0 F V0 (by omega) (by omega) (fun _ _ => rfl) (fun k hk => by omega) (fun _ _ => rfl)
theorem q_moves_6 {fr to : Nat} {F M : Nat} {S : Mem} {V0 : Vw} {U : Uw} (h : shM S M) (hF : 1001 < F) (ha : fr < 6) (hb : to < 6) (hne : fr ≠ to) :
    ∃ V', fn_X9_moves F (M + 6) (nI 6) (nI fr) (nI to) (wM S M V0 U) = some ((), wM S M V' U) ∧ (∀ j, j ≠ 6 → V' j = V0 j) ∧ (∀ k, k < 6 → V' 6 (6 * to + k) = V0 6 (6 * fr + k)) ∧ ∀ k, k < 6 * to ∨ 6 * to + 6 ≤ k → V' 6 k = V0 6 k := by
  have key : ∀ (d i f : Nat) (V : Vw), i + d = 6 → d < f → (∀ j, j ≠ 6 → V j = V0 j) → (∀ k, k < i → V 6 (6 * to + k) = V0 6 (6 * fr + k)) → (∀ k, k < 6 * to ∨ 6 * to + 6 ≤ k → V 6 k = V0 6 k) →
      ∃ V', fix5 (b_X9_moves_3 F) f (M + 6) (nI 6) (nI fr) (nI to) (nI i) (wM S M V U) = some ((), wM S M V' U) ∧ (∀ j, j ≠ 6 → V' j = V0 j) ∧ (∀ k, k < 6 → V' 6 (6 * to + k) = V0 6 (6 * fr + k)) ∧ ∀ k, k < 6 * to ∨ 6 * to + 6 ≤ k → V' 6 k = V0 6 k := by
    intro d
    induction d with
    | zero =>
      intro i f V hi hf hV hP hQ
      obtain ⟨f, rfl⟩ : ∃ f', f = f' + 1 := ⟨f - 1, by omega⟩
      obtain rfl : i = 6 := by omega
      exact ⟨V, rfl, hV, hP, hQ⟩
    | succ d ih =>
      intro i f V hi hf hV hP hQ
      obtain ⟨f, rfl⟩ : ∃ f', f = f' + 1 := ⟨f - 1, by omega⟩
      have ih := fun V => ih (i + 1) f V (by omega) (by omega)
      show ∃ V', b_X9_moves_3 F (fix5 (b_X9_moves_3 F) f) (M + 6) (nI 6) (nI fr) (nI to) (nI i) (wM S M V U) = _ ∧ _
      generalize fix5 (b_X9_moves_3 F) f = k5 at ih ⊢
      unfold b_X9_moves_3
      rw [pk_mul, pk_mul, nI_add, nI_add]
      simp (disch := first | assumption | exact inB_n (by omega) (by decide) | exact inB_l (by omega) (by decide) | exact inB_al (by omega) (by decide) | exact inB_la (by omega) (by decide) | exact inB_j (by assumption) (by omega) (by decide) | exact inB_e (by assumption) (by decide) | omega) only [↓eM h, ↓bd_r, ↓lt_r, ↓Option.bind_some, ↓reduceIte, ix_nI, ix_l, nI_al, nI_la, nI_lm, u2_ne, u2_eq, nI_leI, nI_ltI, nI_eq, le_ln, le_nl, lt_ln, lt_nl, eq_nl, eq_ln, if_neg (show ¬ 6 ≤ i by omega)]
      refine ih _ (fun j hj => by rw [u2_row hj, hV j hj]) (fun k hk => ?_) (fun k hk => ?_)
      · by_cases hki : k = i
        · subst hki
          rw [u2_eq ⟨rfl, rfl⟩, hQ _ (by omega)]
        · rw [u2_ne (by omega), hP k (by omega)]
      · rw [u2_ne (by omega), hQ k hk]
  exact key 6 0 F V0 (by omega) (by omega) (fun _ _ => rfl) (fun k hk => by omega) (fun _ _ => rfl)
theorem q_moves_7 {fr to : Nat} {F M : Nat} {S : Mem} {V0 : Vw} {U : Uw} (h : shM S M) (hF : 1001 < F) (ha : fr < 6) (hb : to < 6) (hne : fr ≠ to) :
    ∃ V', fn_X9_moves F (M + 7) (nI 6) (nI fr) (nI to) (wM S M V0 U) = some ((), wM S M V' U) ∧ (∀ j, j ≠ 7 → V' j = V0 j) ∧ (∀ k, k < 6 → V' 7 (6 * to + k) = V0 7 (6 * fr + k)) ∧ ∀ k, k < 6 * to ∨ 6 * to + 6 ≤ k → V' 7 k = V0 7 k := by
  have key : ∀ (d i f : Nat) (V : Vw), i + d = 6 → d < f → (∀ j, j ≠ 7 → V j = V0 j) → (∀ k, k < i → V 7 (6 * to + k) = V0 7 (6 * fr + k)) → (∀ k, k < 6 * to ∨ 6 * to + 6 ≤ k → V 7 k = V0 7 k) →
      ∃ V', fix5 (b_X9_moves_3 F) f (M + 7) (nI 6) (nI fr) (nI to) (nI i) (wM S M V U) = some ((), wM S M V' U) ∧ (∀ j, j ≠ 7 → V' j = V0 j) ∧ (∀ k, k < 6 → V' 7 (6 * to + k) = V0 7 (6 * fr + k)) ∧ ∀ k, k < 6 * to ∨ 6 * to + 6 ≤ k → V' 7 k = V0 7 k := by
    intro d
    induction d with
    | zero =>
      intro i f V hi hf hV hP hQ
      obtain ⟨f, rfl⟩ : ∃ f', f = f' + 1 := ⟨f - 1, by omega⟩
      obtain rfl : i = 6 := by omega
      exact ⟨V, rfl, hV, hP, hQ⟩
    | succ d ih =>
      intro i f V hi hf hV hP hQ
      obtain ⟨f, rfl⟩ : ∃ f', f = f' + 1 := ⟨f - 1, by omega⟩
      have ih := fun V => ih (i + 1) f V (by omega) (by omega)
      show ∃ V', b_X9_moves_3 F (fix5 (b_X9_moves_3 F) f) (M + 7) (nI 6) (nI fr) (nI to) (nI i) (wM S M V U) = _ ∧ _
      generalize fix5 (b_X9_moves_3 F) f = k5 at ih ⊢
      unfold b_X9_moves_3
      rw [pk_mul, pk_mul, nI_add, nI_add]
      simp (disch := first | assumption | exact inB_n (by omega) (by decide) | exact inB_l (by omega) (by decide) | exact inB_al (by omega) (by decide) | exact inB_la (by omega) (by decide) | exact inB_j (by assumption) (by omega) (by decide) | exact inB_e (by assumption) (by decide) | omega) only [↓eM h, ↓bd_r, ↓lt_r, ↓Option.bind_some, ↓reduceIte, ix_nI, ix_l, nI_al, nI_la, nI_lm, u2_ne, u2_eq, nI_leI, nI_ltI, nI_eq, le_ln, le_nl, lt_ln, lt_nl, eq_nl, eq_ln, if_neg (show ¬ 6 ≤ i by omega)]
      refine ih _ (fun j hj => by rw [u2_row hj, hV j hj]) (fun k hk => ?_) (fun k hk => ?_)
      · by_cases hki : k = i
        · subst hki
          rw [u2_eq ⟨rfl, rfl⟩, hQ _ (by omega)]
        · rw [u2_ne (by omega), hP k (by omega)]
      · rw [u2_ne (by omega), hQ k hk]
  exact key 6 0 F V0 (by omega) (by omega) (fun _ _ => rfl) (fun k hk => by omega) (fun _ _ => rfl)
theorem q_moves_11 {fr to : Nat} {F M : Nat} {S : Mem} {V0 : Vw} {U : Uw} (h : shM S M) (hF : 1001 < F) (ha : fr < 6) (hb : to < 6) (hne : fr ≠ to) :
    ∃ V', fn_X9_moves F (M + 11) (nI 1000) (nI fr) (nI to) (wM S M V0 U) = some ((), wM S M V' U) ∧ (∀ j, j ≠ 11 → V' j = V0 j) ∧ (∀ k, k < 1000 → V' 11 (1000 * to + k) = V0 11 (1000 * fr + k)) ∧ ∀ k, k < 1000 * to ∨ 1000 * to + 1000 ≤ k → V' 11 k = V0 11 k := by
  have key : ∀ (d i f : Nat) (V : Vw), i + d = 1000 → d < f → (∀ j, j ≠ 11 → V j = V0 j) → (∀ k, k < i → V 11 (1000 * to + k) = V0 11 (1000 * fr + k)) → (∀ k, k < 1000 * to ∨ 1000 * to + 1000 ≤ k → V 11 k = V0 11 k) →
      ∃ V', fix5 (b_X9_moves_3 F) f (M + 11) (nI 1000) (nI fr) (nI to) (nI i) (wM S M V U) = some ((), wM S M V' U) ∧ (∀ j, j ≠ 11 → V' j = V0 j) ∧ (∀ k, k < 1000 → V' 11 (1000 * to + k) = V0 11 (1000 * fr + k)) ∧ ∀ k, k < 1000 * to ∨ 1000 * to + 1000 ≤ k → V' 11 k = V0 11 k := by
    intro d
    induction d with
    | zero =>
      intro i f V hi hf hV hP hQ
      obtain ⟨f, rfl⟩ : ∃ f', f = f' + 1 := ⟨f - 1, by omega⟩
      obtain rfl : i = 1000 := by omega
      exact ⟨V, rfl, hV, hP, hQ⟩
    | succ d ih =>
      intro i f V hi hf hV hP hQ
      obtain ⟨f, rfl⟩ : ∃ f', f = f' + 1 := ⟨f - 1, by omega⟩
      have ih := fun V => ih (i + 1) f V (by omega) (by omega)
      show ∃ V', b_X9_moves_3 F (fix5 (b_X9_moves_3 F) f) (M + 11) (nI 1000) (nI fr) (nI to) (nI i) (wM S M V U) = _ ∧ _
      generalize fix5 (b_X9_moves_3 F) f = k5 at ih ⊢
      unfold b_X9_moves_3
      rw [pk_mul, pk_mul, nI_add, nI_add]
      simp (disch := first | assumption | exact inB_n (by omega) (by decide) | exact inB_l (by omega) (by decide) | exact inB_al (by omega) (by decide) | exact inB_la (by omega) (by decide) | exact inB_j (by assumption) (by omega) (by decide) | exact inB_e (by assumption) (by decide) | omega) only [↓eM h, ↓bd_r, ↓lt_r, ↓Option.bind_some, ↓reduceIte, ix_nI, ix_l, nI_al, nI_la, nI_lm, u2_ne, u2_eq, nI_leI, nI_ltI, nI_eq, le_ln, le_nl, lt_ln, lt_nl, eq_nl, eq_ln, if_neg (show ¬ 1000 ≤ i by omega)]
      refine ih _ (fun j hj => by rw [u2_row hj, hV j hj]) (fun k hk => ?_) (fun k hk => ?_)
      · by_cases hki : k = i
        · subst hki
          rw [u2_eq ⟨rfl, rfl⟩, hQ _ (by omega)]
        · rw [u2_ne (by omega), hP k (by omega)]
      · rw [u2_ne (by omega), hQ k hk]
  exact key 1000 0 F V0 (by omega) (by omega) (fun _ _ => rfl) (fun k hk => by omega) (fun _ _ => rfl)
