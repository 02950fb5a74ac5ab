/-! fewest: the model's call -/
theorem ma_fewest {x y z u : Int32} {B : Nat} {K : SkyT} {s : Nat → Nat} {F M : Nat} {S : Mem} {V : Vw} {U : Uw} (h : shM S M) (hF : 10000 < F) (hw9 : wfK K) (hK : mSky V 0 K) (hS : mS V s) (hs : wfS K B s) (hB : B < 2 ^ 29) : ∃ V' U', fn_X9_fewest F M x y z u (wM S M V U) = some (sp_fewest K s x y z u, wM S M V' U') ∧ mk V V' ∧ mS V' s := by
  have n6 := hw9.1.1
  have hlo := hs.lost hw9
  unfold fn_X9_fewest f_X9_fewest_34 sp_fewest okFe
  rw [cm_sI h, q_isWanted, bd_r]
  have S1 : mS (u2 V 0 0 0) s := hS.thrown
  have K1 : mSky (u2 V 0 0 0) 0 K := hK.thrown
  have m1 : mk V (u2 V 0 0 0) := mk.thrown
  generalize u2 V 0 0 0 = W at S1 K1 m1 ⊢
  cases hxy : (inr x 0 999 && inr y 0 40) with
  | false => exact ⟨W, U, rfl, m1, S1⟩
  | true =>
  rw [if_neg (show ¬ b1 true = 0 by decide), q_within, bd_r]
  cases hz : inr z 0 999 with
  | false => exact ⟨W, U, rfl, m1, S1⟩
  | true =>
  rw [if_neg (show ¬ b1 true = 0 by decide), q_within, bd_r]
  cases hu : inr u 1 3 with
  | false => exact ⟨W, U, rfl, m1, S1⟩
  | true =>
  rw [if_neg (show ¬ b1 true = 0 by decide), if_pos (show (true && true && true) = true from rfl)]
  rw [Bool.and_eq_true] at hxy
  obtain ⟨p, -, hp, rfl⟩ := inr_nI (a := 0) (b := 999) (by decide) (by decide) hxy.1
  obtain ⟨q, -, hq, rfl⟩ := inr_nI (a := 0) (b := 40) (by decide) (by decide) hxy.2
  obtain ⟨a, -, ha, rfl⟩ := inr_nI (a := 0) (b := 999) (by decide) (by decide) hz
  obtain ⟨e, -, he, rfl⟩ := inr_nI (a := 1) (b := 3) (by decide) (by decide) hu
  rw [nI_clamp (by omega), nI_clamp (by omega), nI_clamp (by omega), nI_clamp (by omega)]
  obtain ⟨V1, e1, f1, w1⟩ := q_blows (F := F) (V0 := u2 (u2 W 0 45 (nI p)) 0 46 (nI q)) (U := U) (m := s 19) (g := 0) h (by omega) (K1.thrown.thrown)
  have r0 := f1 0 (by omega)
  have r24 : V1 24 = W 24 := by rw [f1 24 (by omega), u2_row (by omega), u2_row (by omega)]
  have t1 : tM K (s 18) (wR K (s 19) 0) p q s V1 := ⟨K1.keep (fun j hj => by rw [f1 j (by omega), u2_row (by omega), u2_row (by omega)]), by rw [r24]; exact S1 18 (by omega), fun i hi => by rw [r24]; exact S1 i (by omega), w1, by rw [r0, u2_ne (by omega)]; exact u2_eq ⟨rfl, rfl⟩, by rw [r0]; exact u2_eq ⟨rfl, rfl⟩⟩
  have c00 : chgT s s 0 = 0 := rfl
  have loop : ∀ (j n f : Nat) (X : Vw), n + j = kN K + 1 → j < f → tK V1 X → (∀ c, vld K (s 18) s e c → awayK K (s 18) (wR K (s 19) 0) c p q ≤ a → n ≤ chgT s c (kN K)) →
      ∃ V', fix4 (b_X9_fewest_61 F) f M (nI a) (nI e) (nI n) (wM S M X U) = some (fewN K (s 18) (wR K (s 19) 0) s e p q a, wM S M V' U) ∧ tK V1 V' := by
    intro j
    induction j with
    | zero =>
      intro n f X hj hf hX hn
      obtain ⟨f, rfl⟩ : ∃ f', f = f' + 1 := ⟨f - 1, by omega⟩
      have tX := t1.keep hX
      have v4 : X 2 (Int32.toNatClampNeg 4) = nI (kN K) := tX.1.1.2.2.2.2
      refine ⟨X, ?_, hX⟩
      show b_X9_fewest_61 F (fix4 (b_X9_fewest_61 F) f) M (nI a) (nI e) (nI n) (wM S M X U) = _
      generalize fix4 (b_X9_fewest_61 F) f = k61
      unfold b_X9_fewest_61
      simp (disch := first | assumption | exact inB_n (by omega) (by decide) | exact inB_l (by omega) (by decide) | exact inB_al (by omega) (by decide) | exact inB_la (by omega) (by decide) | exact inB_j (by assumption) (by omega) (by decide) | exact inB_e (by assumption) (by decide) | omega) only [↓eM h, v4]
      rw [if_pos (nI_lt (by omega) (by omega)), fewN_none (fun c hc hx => ?_)]
      have g1 := hn c hc hx
      have g2 := chg_le (s := s) (c := c) (n := kN K)
      omega
    | succ j ih =>
      intro n f X hj hf hX hn
      obtain ⟨f, rfl⟩ : ∃ f', f = f' + 1 := ⟨f - 1, by omega⟩
      have tX := t1.keep hX
      have v4 : X 2 (Int32.toNatClampNeg 4) = nI (kN K) := tX.1.1.2.2.2.2
      obtain ⟨X1, r, a1, a2, a3⟩ := q_does (F := F) (U := U) (a := a) (e := e) h (by omega) hw9 hs (wR_le K (s 19) 0) (show s 18 < 2 ^ 31 by omega) hp hq ha he 8 0 n s X (by omega) (by omega) (by omega) (fun i hi => by omega) (fun i hi => rfl) tX
      have a1' : fn_X9_does F 8 M 0 (nI e) (nI n) (nI a) (wM S M X U) = some (b1 r, wM S M X1 U) := a1
      show ∃ V', b_X9_fewest_61 F (fix4 (b_X9_fewest_61 F) f) M (nI a) (nI e) (nI n) (wM S M X U) = _ ∧ _
      have ne : ¬ nI (kN K) < nI n := nI_nlt (by omega) (by omega)
      cases r with
      | true =>
        obtain ⟨c, c1, -, c3, c4⟩ := a3.mp rfl
        rw [c00, Nat.zero_add] at c3
        have c5 := hn c c1 c4
        refine ⟨X1, ?_, hX.tr a2⟩
        generalize fix4 (b_X9_fewest_61 F) f = k61
        unfold b_X9_fewest_61
        simp (disch := first | assumption | exact inB_n (by omega) (by decide) | exact inB_l (by omega) (by decide) | exact inB_al (by omega) (by decide) | exact inB_la (by omega) (by decide) | exact inB_j (by assumption) (by omega) (by decide) | exact inB_e (by assumption) (by decide) | omega) only [↓eM h, v4, a1', ↓bd_r]
        rw [if_neg ne, if_neg (show ¬ b1 true = 0 by decide), fewN_some ⟨⟨c, c1, c4, Nat.le_antisymm c3 c5⟩, hn⟩]
      | false =>
        obtain ⟨V', p1, p2⟩ := ih (n + 1) f X1 (by omega) (by omega) (hX.tr a2) (fun c hc hx => by
          have g1 := hn c hc hx
          by_cases g : chgT s c (kN K) = n
          · have := a3.mpr ⟨c, hc, fun i hi => absurd hi (Nat.not_lt_zero _), by rw [c00, Nat.zero_add, g]; exact Nat.le_refl _, hx⟩
            cases this
          · exact Nat.lt_of_le_of_ne g1 (fun z => g z.symm))
        refine ⟨V', ?_, p2⟩
        generalize fix4 (b_X9_fewest_61 F) f = k61 at p1 ⊢
        unfold b_X9_fewest_61
        simp (disch := first | assumption | exact inB_n (by omega) (by decide) | exact inB_l (by omega) (by decide) | exact inB_al (by omega) (by decide) | exact inB_la (by omega) (by decide) | exact inB_j (by assumption) (by omega) (by decide) | exact inB_e (by assumption) (by decide) | omega) only [↓eM h, v4, a1', ↓bd_r]
        rw [if_neg ne, if_pos (show b1 false = 0 by decide), show nI n + 1 = nI (n + 1) from nI_add n 1]
        exact p1
  obtain ⟨V2, e2, g1⟩ := loop (kN K + 1) 0 F V1 (by omega) (by omega) tK.rf (fun c _ _ => Nat.zero_le _)
  have m2 : mk V V2 := ⟨fun j a b => by rw [g1.1 j a (by omega) (by omega), f1 j (by omega), u2_row a, u2_row a]; exact m1.1 j a b, by rw [g1.2 1 (by omega) (by omega) (by omega) (by omega) (by omega), r0, u2_ne (by omega), u2_ne (by omega)]; exact m1.2⟩
  have S2 : mS V2 s := fun j hj => by rw [g1.1 24 (by omega) (by omega) (by omega), r24]; exact S1 j hj
  have w19 : W 24 (Int32.toNatClampNeg 19) = nI (s 19) := S1 19 (by omega)
  refine ⟨V2, U, ?_, m2, S2⟩
  simp (disch := first | assumption | exact inB_n (by omega) (by decide) | exact inB_l (by omega) (by decide) | exact inB_al (by omega) (by decide) | exact inB_la (by omega) (by decide) | exact inB_j (by assumption) (by omega) (by decide) | exact inB_e (by assumption) (by decide) | omega) only [↓eM h, u2_ne, w19, e1, ↓bd_r]
  exact e2
