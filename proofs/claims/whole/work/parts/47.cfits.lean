/-! fits, fit: the class -/
theorem c_isSeen {i set B b : Nat} {K : SkyT} {s : Nat → Nat} {F C : Nat} {S : Mem} {V : Vw} {U : Uw} {D : Dw} (h : shC S C) (hF : 10000 < F) (hw9 : wfK K) (hK : cSky S C b K) (hS : cNt V 28 K s) (hs : wfS K B s) (hset : set < 64) (hi : i < s 20) (hf : felt K (s (21 + 3 * i)) b 0 s V D) :
    ∃ V', fn_X8_isSeen F C (nI set) (nI i) (wC S C V U D) = some (b1 (noteOk K s set i), wC S C V' U D) ∧ (∀ j, j ≠ 14 → j ≠ 16 → j ≠ 17 → V' j = V j) ∧ felt K (s (21 + 3 * i)) b 0 s V' D := by
  have hn6 := hw9.1.1
  have h20 := hs.2.2.2.1
  obtain ⟨hn1, hn2, hn3⟩ := hs.2.2.2.2 i hi
  obtain ⟨q1, q2, q3⟩ := hS.2.2.2.2 i hi
  have hpl := place_le2 (l := set) (w := wR K (s (21 + 3 * i)) 0) (len := s) hw9 (wR_le _ _ _)
  have hhi := high_le (K := K) (l := set) (w := wR K (s (21 + 3 * i)) 0) (len := s)
  have e2 := c_hang (F := F) (U := U) (l := set) h isN28 (by omega) hw9 hK hf hset (fun k hk => (hS.2.2.2.1 k hk).1) (fun k hk => (hs.1 k hk).1)
  generalize hX : u2 (u2 V 14 4 (nI (rawN K set (wR K (s (21 + 3 * i)) 0) s))) 14 5 (nI (highN K set (wR K (s (21 + 3 * i)) 0) s)) = X at e2
  have xf : ∀ j, j ≠ 14 → X j = V j := fun j hj => by rw [← hX, u2_row hj, u2_row hj]
  have x4 : X 14 4 = nI (rawN K set (wR K (s (21 + 3 * i)) 0) s) := by rw [← hX, u2_ne (by omega), u2_eq ⟨rfl, rfl⟩]
  have x5 : X 14 5 = nI (highN K set (wR K (s (21 + 3 * i)) 0) s) := by rw [← hX, u2_eq ⟨rfl, rfl⟩]
  have xo : ∀ j, j ≠ 4 → j ≠ 5 → X 14 j = V 14 j := fun j a b => by rw [← hX, u2_ne (Or.inr b), u2_ne (Or.inr a)]
  have gX : felt K (s (21 + 3 * i)) b 0 s X D := by
    obtain ⟨a1, a2, a3, a4, a5⟩ := hf
    exact ⟨a1, (xo 8 (by omega) (by omega)).trans a2, (xo 9 (by omega) (by omega)).trans a3, (xo 3 (by omega) (by omega)).trans a4, by rw [xf 18 (by omega), xf 19 (by omega)]; exact a5⟩
  obtain ⟨V2, e3, f3, g3, p3⟩ := c_lean (F := F) (U := U) (l := set) h isN28 (by omega) hw9 hK gX hset (by rw [xf (28 + 1) (by omega)]; exact fun k hk => (hS.2.2.2.1 k hk).1) (fun k hk => (hs.1 k hk).1) x4 x5
  have g2 : felt K (s (21 + 3 * i)) b 0 s V2 D := by
    obtain ⟨a1, a2, a3, a4, a5⟩ := gX
    exact ⟨a1, (g3 8 (by omega)).trans a2, (g3 9 (by omega)).trans a3, (g3 3 (by omega)).trans a4, by rw [f3 18 (by omega) (by omega) (by omega), f3 19 (by omega) (by omega) (by omega)]; exact a5⟩
  have x34 : X 34 i = nI (s (21 + 3 * i + 2)) := by rw [xf 34 (by omega)]; exact q3
  have v33 : V2 33 i = nI (s (21 + 3 * i + 1)) := by rw [f3 33 (by omega) (by omega) (by omega), xf 33 (by omega)]; exact q2
  unfold fn_X8_isSeen f_X8_isSeen_69 noteOk
  simp (disch := first | assumption | exact inB_n (by omega) (by decide) | exact inB_l (by omega) (by decide) | exact inB_al (by omega) (by decide) | exact inB_la (by omega) (by decide) | exact inB_j (by assumption) (by omega) (by decide) | exact inB_e (by assumption) (by decide) | omega) only [↓eC h, ↓eN h isN28, ↓bd_r, e2, x5, x34, ix_nI, ix_l, nI_al, nI_la, nI_lm, u2_ne, u2_eq, nI_eq]
  by_cases hq : highN K set (wR K (s (21 + 3 * i)) 0) s = s (21 + 3 * i + 2)
  · rw [if_pos hq, decide_eq_true hq, Bool.and_true]
    refine ⟨V2, ?_, fun j a b c => (f3 j a b c).trans (xf j a), g2⟩
    simp (disch := first | assumption | exact inB_n (by omega) (by decide) | exact inB_l (by omega) (by decide) | exact inB_al (by omega) (by decide) | exact inB_la (by omega) (by decide) | exact inB_j (by assumption) (by omega) (by decide) | exact inB_e (by assumption) (by decide) | omega) only [e3, ↓bd_r, ↓eC h, ↓eN h isN28, p3, v33, ix_nI, ix_l, nI_al, nI_la, nI_lm, u2_ne, u2_eq, nI_eq]
    by_cases hp : placeN K set (wR K (s (21 + 3 * i)) 0) s = s (21 + 3 * i + 1)
    · rw [if_pos hp, decide_eq_true hp]; rfl
    · rw [if_neg hp, decide_eq_false hp]; rfl
  · rw [if_neg hq, decide_eq_false hq, Bool.and_false]
    exact ⟨X, rfl, fun j a b c => xf j a, gX⟩
theorem tb_F : ∀ n : Fin 6, ∀ j : Fin 64, tb (((1 : Int64) <<< ((nI (2 ^ n.val)).toInt64 &&& 63)) - (1 : Int64)) j.val = decide (j.val < 2 ^ n.val) := by decide +kernel
theorem tb_all : ∀ j : Fin 64, tb (-1 : Int64) j.val = true := by decide +kernel
theorem c_fitting {B b : Nat} {K : SkyT} {s : Nat → Nat} {F C : Nat} {S : Mem} {V : Vw} {U : Uw} {D : Dw} (h : shC S C) (hF : 10000 < F) (hw9 : wfK K) (hK : cSky S C b K) (hb : D 28 0 = b) (hS : cNt V 28 K s) (hs : wfS K B s) (hB : B < 2 ^ 29) : ∃ r V' D', fn_X8_fittingSets F C (wC S C V U D) = some (r, wC S C V' U D') ∧ (∀ j, j < 64 → tb r j = (decide (j < 2 ^ kN K) && soR K s j (s 20))) ∧ ck V V' ∧ dk D D' ∧ cNt V' 28 K s := by
  have hn6 := hw9.1.1
  have h20 := hs.2.2.2.1
  obtain ⟨pw1, pw2⟩ := pw6 hn6
  have inner : ∀ (k34 : Nat → Int32 → Int64 → Int32 → Mem → Option (Int64 × Mem)) (i : Nat) (E : Dw), i < s 20 → ∀ (d e f : Nat) (x : Int64) (W : Vw), e + d = 2 ^ kN K → d < f → cNt W 28 K s → felt K (s (21 + 3 * i)) b 0 s W E → (∀ j, j < 64 → tb x j = (decide (j < 2 ^ kN K) && soR K s j (if j < e then i + 1 else i))) →
      ∃ x' W', fix5 (b_X8_fittingSets_71 F k34) f C (nI (2 ^ kN K)) x (nI i) (nI e) (wC S C W U E) = k34 C (nI (2 ^ kN K)) x' (nI (i + 1)) (wC S C W' U E) ∧ (∀ j, j < 64 → tb x' j = (decide (j < 2 ^ kN K) && soR K s j (i + 1))) ∧ (∀ j, j ≠ 14 → j ≠ 16 → j ≠ 17 → W' j = W j) := by
    intro k34 i E hi d
    induction d with
    | zero =>
      intro e f x W he hf n1 g1 hx
      obtain ⟨f, rfl⟩ : ∃ f', f = f' + 1 := ⟨f - 1, by omega⟩
      obtain rfl : e = 2 ^ kN K := by omega
      refine ⟨x, W, ?_, fun j hj => ?_, fun _ _ _ _ => rfl⟩
      · show b_X8_fittingSets_71 F k34 (fix5 (b_X8_fittingSets_71 F k34) f) C (nI (2 ^ kN K)) x (nI i) (nI (2 ^ kN K)) (wC S C W U E) = _
        unfold b_X8_fittingSets_71
        rw [if_pos (Int32.le_refl _), nI_1]
      · rw [hx j hj]
        by_cases h1 : j < 2 ^ kN K
        · rw [if_pos h1]
        · rw [decide_eq_false h1, Bool.false_and, Bool.false_and]
    | succ d ih =>
      intro e f x W he hf n1 g1 hx
      obtain ⟨f, rfl⟩ : ∃ f', f = f' + 1 := ⟨f - 1, by omega⟩
      have ih := fun x W => ih (e + 1) f x W (by omega) (by omega)
      show ∃ x' W', b_X8_fittingSets_71 F k34 (fix5 (b_X8_fittingSets_71 F k34) f) C (nI (2 ^ kN K)) x (nI i) (nI e) (wC S C W U E) = _ ∧ _
      generalize fix5 (b_X8_fittingSets_71 F k34) f = k4 at ih ⊢
      have xe := hx e (by omega)
      rw [decide_eq_true (show e < 2 ^ kN K by omega), Bool.true_and, if_neg (by omega)] at xe
      have so1 : soR K s e (i + 1) = (soR K s e i && noteOk K s e i) := rfl
      unfold b_X8_fittingSets_71 f_X8_fittingSets_110
      rw [if_neg (show ¬ nI (2 ^ kN K) ≤ nI e from nI_ge (by omega) (by omega)), nI_1]
      by_cases hb0 : tb x e = false
      · rw [if_pos ((tb_test (by omega)).mpr hb0)]
        refine ih x W n1 g1 (fun j hj => ?_)
        rw [hx j hj]
        by_cases hje : j = e
        · subst hje
          rw [if_neg (by omega), if_pos (by omega), so1, ← xe, hb0, Bool.false_and]
        · congr 2
          by_cases h1 : j < e
          · rw [if_pos h1, if_pos (by omega)]
          · rw [if_neg h1, if_neg (by omega)]
      · rw [if_neg (fun z => hb0 ((tb_test (by omega)).mp z))]
        have xt : soR K s e i = true := by rw [← xe]; simpa using hb0
        obtain ⟨W1, e1, f1, g2⟩ := c_isSeen (F := F) (V := W) (U := U) (D := E) (set := e) h hF hw9 hK n1 hs (by omega) hi g1
        have e0 : ∀ {α : Type} (X : Option (Int32 × Mem)) (K' : Int32 → Mem → Option α), bd (cal (wC S C W U E) 7 C X) K' = bd X K' := fun X K' => by simp only [↓eC h]
        rw [e0, e1, bd_r, lt_r]
        have n2 : cNt W1 28 K s := n1.keep (fun q hq => f1 (28 + q) (by omega) (by omega) (by omega))
        cases hno : noteOk K s e i with
        | true =>
          show ∃ x' W', (if (1 : Int32) = 0 then _ else _) = _ ∧ _
          rw [if_neg (by decide)]
          obtain ⟨x', W', a1, a2, a3⟩ := ih x W1 n2 g2 (fun j hj => by
            rw [hx j hj]
            by_cases hje : j = e
            · subst hje
              rw [if_neg (by omega), if_pos (by omega), so1, hno, Bool.and_true]
            · congr 2
              by_cases h1 : j < e
              · rw [if_pos h1, if_pos (by omega)]
              · rw [if_neg h1, if_neg (by omega)])
          exact ⟨x', W', a1, a2, fun j a b c => (a3 j a b c).trans (f1 j a b c)⟩
        | false =>
          show ∃ x' W', (if (0 : Int32) = 0 then _ else _) = _ ∧ _
          rw [if_pos rfl]
          obtain ⟨x', W', a1, a2, a3⟩ := ih (x &&& (((1 : Int64) <<< ((nI e).toInt64 &&& 63)) ^^^ (-1 : Int64))) W1 n2 g2 (fun j hj => by
            rw [tb_clear (by omega) hj, hx j hj]
            by_cases hje : j = e
            · subst hje
              rw [decide_eq_false (show ¬ j ≠ j from fun z => z rfl), Bool.and_false, if_pos (Nat.lt_succ_self j), so1, hno, Bool.and_false, Bool.and_false]
            · rw [decide_eq_true hje, Bool.and_true]
              congr 2
              by_cases h1 : j < e
              · rw [if_pos h1, if_pos (by omega)]
              · rw [if_neg h1, if_neg (by omega)])
          exact ⟨x', W', a1, a2, fun j a b c => (a3 j a b c).trans (f1 j a b c)⟩
  have outer : ∀ (d i f : Nat) (x : Int64) (W : Vw) (E : Dw), i + d = s 20 → d < f → (∀ j, j < 14 ∨ j = 15 ∨ 19 < j → W j = V j) → dk D E → (∀ j, j < 64 → tb x j = (decide (j < 2 ^ kN K) && soR K s j i)) →
      ∃ r V' D', fix4 (b_X8_fittingSets_34 F) f C (nI (2 ^ kN K)) x (nI i) (wC S C W U E) = some (r, wC S C V' U D') ∧ (∀ j, j < 64 → tb r j = (decide (j < 2 ^ kN K) && soR K s j (s 20))) ∧ (∀ j, j < 14 ∨ j = 15 ∨ 19 < j → V' j = V j) ∧ dk D D' := by
    intro d
    induction d with
    | zero =>
      intro i f x W E hi hf c1 d1 hx
      obtain ⟨f, rfl⟩ : ∃ f', f = f' + 1 := ⟨f - 1, by omega⟩
      obtain rfl : i = s 20 := by omega
      refine ⟨x, W, E, ?_, hx, c1, d1⟩
      show b_X8_fittingSets_34 F (fix4 (b_X8_fittingSets_34 F) f) C (nI (2 ^ kN K)) x (nI (s 20)) (wC S C W U E) = _
      generalize fix4 (b_X8_fittingSets_34 F) f = k4
      have nW : cNt W 28 K s := hS.keep (fun q hq => c1 (28 + q) (by omega))
      unfold b_X8_fittingSets_34
      have e9 : ∀ {α : Type} (K' : Nat → Option α), (gR (wC S C W U E) 7 5 C).bind K' = K' (C + 28) := fun K' => by simp only [↓eC h]
      rw [e9, (eN h isN28).1, nW.2.2.1, if_pos (Int32.le_refl _)]
    | succ d ih =>
      intro i f x W E hi hf c1 d1 hx
      obtain ⟨f, rfl⟩ : ∃ f', f = f' + 1 := ⟨f - 1, by omega⟩
      have ih := fun x W E => ih (i + 1) f x W E (by omega) (by omega)
      show ∃ r V' D', b_X8_fittingSets_34 F (fix4 (b_X8_fittingSets_34 F) f) C (nI (2 ^ kN K)) x (nI i) (wC S C W U E) = _ ∧ _
      generalize fix4 (b_X8_fittingSets_34 F) f = k4 at ih ⊢
      have nW : cNt W 28 K s := hS.keep (fun q hq => c1 (28 + q) (by omega))
      have hbE : E 28 0 = b := (d1 28 isN28 (by decide)).trans hb
      obtain ⟨q1, q2, q3⟩ := nW.2.2.2.2 i (by omega)
      obtain ⟨W1, e1, f1, g1⟩ := c_feel (F := F) (U := U) (m := s (21 + 3 * i)) (g := 0) (len := s) h isN28 (by omega) hw9 hK hbE (fun k hk => (nW.2.2.2.1 k hk).1) (fun k hk => (hs.1 k hk).1)
      obtain ⟨x2, W2, e2, t2, f2⟩ := inner k4 i (u2 E 14 7 b) (by omega) (2 ^ kN K) 0 F x W1 (by omega) (by omega) (nW.keep (fun q hq => f1 (28 + q) (by omega))) g1 (fun j hj => by rw [hx j hj, if_neg (by omega)])
      unfold b_X8_fittingSets_34
      have e9 : ∀ {α : Type} (K' : Nat → Option α), (gR (wC S C W U E) 7 5 C).bind K' = K' (C + 28) := fun K' => by simp only [↓eC h]
      rw [e9, (eN h isN28).1, nW.2.2.1, if_neg (show ¬ nI (s 20) ≤ nI i from nI_ge (by omega) (by omega))]
      simp (disch := first | assumption | exact inB_n (by omega) (by decide) | exact inB_l (by omega) (by decide) | exact inB_al (by omega) (by decide) | exact inB_la (by omega) (by decide) | exact inB_j (by assumption) (by omega) (by decide) | exact inB_e (by assumption) (by decide) | omega) only [↓eC h, ↓eN h isN28, ↓bd_r, q1, e1, ix_nI, ix_l, nI_al, nI_la, nI_lm, u2_ne, u2_eq]
      obtain ⟨r, V', D', a1, a2, a3, a4⟩ := ih x2 W2 (u2 E 14 7 b) (fun j hj => (f2 j (by omega) (by omega) (by omega)).trans ((f1 j hj).trans (c1 j hj))) (d1.tr dk.air) t2
      exact ⟨r, V', D', e2.trans a1, a2, a3, a4⟩
  have top : ∀ x : Int64, (∀ j, j < 64 → tb x j = (decide (j < 2 ^ kN K) && soR K s j 0)) → ∃ r V' D', f_X8_fittingSets_30 F C (nI (2 ^ kN K)) x (wC S C V U D) = some (r, wC S C V' U D') ∧ (∀ j, j < 64 → tb r j = (decide (j < 2 ^ kN K) && soR K s j (s 20))) ∧ ck V V' ∧ dk D D' ∧ cNt V' 28 K s := by
    intro x hx
    obtain ⟨r, V', D', a1, a2, a3, a4⟩ := outer (s 20) 0 F x V D (by omega) (by omega) (fun _ _ => rfl) dk.rf hx
    exact ⟨r, V', D', a1, a2, fun j hj => a3 j (by omega), a4, hS.keep (fun q hq => a3 (28 + q) (by omega))⟩
  unfold fn_X8_fittingSets
  simp only [↓eC h, ↓eN h isN28, ↓eK hK.1, ↓lt_r, hb, hK.2.1.1, sh1 hn6]
  by_cases h6 : kN K = 6
  · rw [if_neg (show ¬ nI (2 ^ kN K) < 64 from by rw [h6]; decide)]
    refine top (-1) (fun j hj => ?_)
    rw [tb_all ⟨j, hj⟩, h6, decide_eq_true (show j < 2 ^ 6 by omega)]
    rfl
  · have h32 : 2 ^ kN K ≤ 2 ^ 5 := Nat.pow_le_pow_right (by decide) (by omega)
    rw [if_pos (show nI (2 ^ kN K) < 64 from nI_lt (b := 64) (by omega) (by decide))]
    refine top _ (fun j hj => ?_)
    rw [tb_F ⟨kN K, by omega⟩ ⟨j, hj⟩]
    show _ = (decide (j < 2 ^ kN K) && true)
    rw [Bool.and_true]
theorem ca_fits {B b : Nat} {K : SkyT} {s : Nat → Nat} {F C : Nat} {S : Mem} {V : Vw} {U : Uw} {D : Dw} (h : shC S C) (hF : 10000 < F) (hw9 : wfK K) (hK : cSky S C b K) (hb : D 28 0 = b) (hS : cNt V 28 K s) (hs : wfS K B s) (hB : B < 2 ^ 29) : ∃ V' D', fn_X8_fits F C (wC S C V U D) = some (sp_fits K s, wC S C V' U D') ∧ ck V V' ∧ dk D D' ∧ cNt V' 28 K s := by
  obtain ⟨pw1, pw2⟩ := pw6 hw9.1.1
  obtain ⟨r, V', D', e1, t1, c1, d1, n1⟩ := c_fitting (F := F) (U := U) h hF hw9 hK hb hS hs hB
  refine ⟨V', D', ?_, c1, d1, n1⟩
  unfold fn_X8_fits sp_fits cntS
  simp only [↓eC h, ↓bd_r, e1, p_bitCountL, bcL_tb]
  congr 3
  obtain ⟨m, hm⟩ : ∃ m, 64 = 2 ^ kN K + m := ⟨64 - 2 ^ kN K, by omega⟩
  rw [show sumTo (fun j => if tb r j = true then 1 else 0) 64 = sumTo (fun j => if tb r j = true then 1 else 0) (2 ^ kN K + m) by rw [← hm], sumTo_more m (fun k h1 h2 => by
    rw [t1 k (by omega), decide_eq_false (by omega), Bool.false_and]; rfl)]
  refine sumTo_congr (fun k hk => ?_)
  rw [t1 k (by omega), decide_eq_true hk, Bool.true_and]
theorem ca_fit {x : Int32} {B b : Nat} {K : SkyT} {s : Nat → Nat} {F C : Nat} {S : Mem} {V : Vw} {U : Uw} {D : Dw} (h : shC S C) (hF : 10000 < F) (hw9 : wfK K) (hK : cSky S C b K) (hb : D 28 0 = b) (hS : cNt V 28 K s) (hs : wfS K B s) (hB : B < 2 ^ 29) : ∃ V' D', fn_X8_fit F C x (wC S C V U D) = some (sp_fit K s x, wC S C V' U D') ∧ ck V V' ∧ dk D D' ∧ cNt V' 28 K s := by
  obtain ⟨pw1, pw2⟩ := pw6 hw9.1.1
  obtain ⟨r, V', D', e1, t1, c1, d1, n1⟩ := c_fitting (F := F) (U := U) h hF hw9 hK hb hS hs hB
  refine ⟨V', D', ?_, c1, d1, n1⟩
  have past : ∀ (d i c f : Nat) (T : Mem), i + d = 64 → d < f → 2 ^ kN K ≤ i → fix4 (b_X8_fit_11 F) f x r (nI c) (nI i) T = some (-1, T) := by
    intro d
    induction d with
    | zero =>
      intro i c f T hi hf h2
      obtain ⟨f, rfl⟩ : ∃ f', f = f' + 1 := ⟨f - 1, by omega⟩
      obtain rfl : i = 64 := by omega
      rfl
    | succ d ih =>
      intro i c f T hi hf h2
      obtain ⟨f, rfl⟩ : ∃ f', f = f' + 1 := ⟨f - 1, by omega⟩
      have ih := ih (i + 1) c f T (by omega) (by omega) (by omega)
      show b_X8_fit_11 F (fix4 (b_X8_fit_11 F) f) x r (nI c) (nI i) T = _
      generalize fix4 (b_X8_fit_11 F) f = k4 at ih ⊢
      unfold b_X8_fit_11 f_X8_fit_41
      rw [if_neg (show ¬ (64 : Int32) ≤ nI i from nI_ge (b := 64) (by omega) (by decide)), if_pos ((tb_test (by omega)).mpr (by rw [t1 i (by omega), decide_eq_false (by omega), Bool.false_and])), nI_1]
      exact ih
  have key : ∀ (d i c f : Nat) (T : Mem), i + d = 2 ^ kN K → d + 64 < f → fix4 (b_X8_fit_11 F) f x r (nI c) (nI i) T = some (fitR K s x d i c, T) := by
    intro d
    induction d with
    | zero =>
      intro i c f T hi hf
      exact past (64 - i) i c f T (by omega) (by omega) (by omega)
    | succ d ih =>
      intro i c f T hi hf
      obtain ⟨f, rfl⟩ : ∃ f', f = f' + 1 := ⟨f - 1, by omega⟩
      have ih := fun c => ih (i + 1) c f T (by omega) (by omega)
      show b_X8_fit_11 F (fix4 (b_X8_fit_11 F) f) x r (nI c) (nI i) T = _
      generalize fix4 (b_X8_fit_11 F) f = k4 at ih ⊢
      have ti := t1 i (by omega)
      rw [decide_eq_true (show i < 2 ^ kN K by omega), Bool.true_and] at ti
      have ef : fitR K s x (d + 1) i c = if soR K s i (s 20) = true then (if nI c = x then nI i else fitR K s x d (i + 1) (c + 1)) else fitR K s x d (i + 1) c := rfl
      rw [ef]
      unfold b_X8_fit_11 f_X8_fit_41
      rw [if_neg (show ¬ (64 : Int32) ≤ nI i from nI_ge (b := 64) (by omega) (by decide)), nI_1, nI_1]
      cases hso : soR K s i (s 20) with
      | true =>
        rw [if_neg (fun z => by rw [(tb_test (show i < 64 by omega)).mp z, hso] at ti; cases ti), if_pos rfl]
        by_cases hc : nI c = x
        · rw [if_pos hc, if_pos hc]
        · rw [if_neg hc, if_neg hc]
          exact ih (c + 1)
      | false =>
        rw [if_pos ((tb_test (show i < 64 by omega)).mpr (by rw [ti, hso])), if_neg (show ¬ false = true by decide)]
        exact ih c
  unfold fn_X8_fit sp_fit
  simp only [↓eC h, ↓bd_r, e1]
  exact key (2 ^ kN K) 0 0 F _ (by omega) (by omega)
