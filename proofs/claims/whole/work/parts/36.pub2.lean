/-! lamp -/
def sp_lamp (K : SkyT) (s : Nat → Nat) (m : Nat) (y : Int32) : Int32 := if y = 0 then nI (placeN K (s 18) (wR K m 0) s) else if y = 1 then nI (highN K (s 18) (wR K m 0) s) else nI (rawN K (s 18) (wR K m 0) s)
theorem ca_lamp {m : Nat} {y : Int32} {B b : Nat} {K : SkyT} {s : Nat → Nat} {F C : Nat} {S : Mem} {V : Vw} {U : Uw} {D : Dw} (h : shC S C) (hF : 10000 < F) (hw9 : wfK K) (hK : cSky S C b K) (hb : D 28 0 = b) (hS : cNt V 28 K s) (hs : wfS K B s) (hB : B < 2 ^ 29) (hm : inr (nI m) 0 9999 = true) (hy : inr y 0 2 = true) : ∃ V' D', fn_X8_lamp F C (nI m) y (wC S C V U D) = some (sp_lamp K s m y, wC S C V' U D') ∧ ck V V' ∧ dk D D' ∧ cNt V' 28 K s := by
  have hl2 := hs.lost hw9
  unfold fn_X8_lamp sp_lamp f_X8_lamp_79
  rw [c_within, bd_r, hm]
  show ∃ V' D', (if (1 : Int32) = 0 then _ else _) = _ ∧ _
  rw [if_neg (by decide), c_within, bd_r, hy]
  show ∃ V' D', (if (1 : Int32) = 0 then _ else _) = _ ∧ _
  rw [if_neg (by decide)]
  obtain ⟨V1, e1, f1, ⟨-, g4, g5, g6⟩⟩ := c_look (F := F) (U := U) (m := m) (g := 0) (l := s 18) (len := s) h isN28 (by omega) hw9 hK hb hl2 hS.2.1 (fun k hk => (hS.2.2.2.1 k hk).1) (fun k hk => (hs.1 k hk).1)
  refine ⟨V1, u2 D 14 7 b, ?_, fun j hj => f1 j (by omega), dk.air, hS.keep (fun i hi => f1 (28 + i) (by omega))⟩
  simp only [↓eC h, e1, ↓bd_r, g4, g5, g6]
  by_cases h0 : y = 0
  · rw [if_pos h0, if_pos h0]
  · by_cases h1 : y = 1
    · rw [if_neg h0, if_neg h0, if_pos h1, if_pos h1]
    · rw [if_neg h0, if_neg h0, if_neg h1, if_neg h1]
theorem ma_lamp {x y : Int32} {B : Nat} {K : SkyT} {s : Nat → Nat} {F M : Nat} {S : Mem} {V : Vw} {U : Uw} (h : shM S M) (hF : 10000 < F) (hw9 : wfK K) (hK : mSky V 0 K) (hS : mS V s) (hs : wfS K B s) (hB : B < 2 ^ 29) : ∃ V' U' r, fn_X9_lamp F M x y (wM S M V U) = some (r, wM S M V' U') ∧ mk V V' ∧ mS V' s ∧ V' 0 0 = b1 (!(inr x 0 9999 && inr y 0 2)) ∧ ((inr x 0 9999 && inr y 0 2) = true → r = sp_lamp K s x.toNatClampNeg y) := by
  have hn6 := hw9.1.1
  have hl2 : s 18 < 2 ^ 31 := by have := hs.lost hw9; omega
  unfold fn_X9_lamp f_X9_lamp_25
  rw [q_within, bd_r]
  have bad : f_X9_lamp_26 F M x y M 1 (wM S M V U) = some (0, wM S M (u2 V 0 0 1) U) := by
    unfold f_X9_lamp_26
    simp (disch := first | assumption | exact inB_n (by omega) (by decide) | exact inB_l (by omega) (by decide) | exact inB_al (by omega) (by decide) | exact inB_la (by omega) (by decide) | exact inB_j (by assumption) (by omega) (by decide) | exact inB_e (by assumption) (by decide) | omega) only [↓eM h, ↓bd_r, ↓lt_r, ↓Option.bind_some, ↓reduceIte, ix_nI, ix_l, nI_al, nI_la, nI_lm, u2_ne, u2_eq, nI_leI, nI_ltI, nI_eq, le_ln, le_nl, lt_ln, lt_nl, eq_nl, eq_ln]
  cases hx : inr x 0 9999 with
  | false =>
    show ∃ V' U' r, (if (0 : Int32) = 0 then _ else _) = _ ∧ _
    rw [if_pos rfl, bad]
    exact ⟨_, _, _, rfl, mk.thrown, hS.thrown, u2_eq ⟨rfl, rfl⟩, fun q => by cases q⟩
  | true =>
    show ∃ V' U' r, (if (1 : Int32) = 0 then _ else _) = _ ∧ _
    rw [if_neg (by decide), q_within, bd_r]
    cases hy : inr y 0 2 with
    | false =>
      show ∃ V' U' r, (if (0 : Int32) = 0 then _ else _) = _ ∧ _
      rw [if_pos rfl, bad]
      exact ⟨_, _, _, rfl, mk.thrown, hS.thrown, u2_eq ⟨rfl, rfl⟩, fun q => by cases q⟩
    | true =>
      obtain ⟨m, -, hm, rfl⟩ := inr_nI (a := 0) (b := 9999) (by decide) (by decide) hx
      show ∃ V' U' r, (if (1 : Int32) = 0 then _ else _) = _ ∧ _
      rw [if_neg (by decide)]
      have S1 : mS (u2 V 0 0 0) s := hS.thrown
      obtain ⟨V1, e1, f1, f0, w1, p1, r1, r2, r3⟩ := q_looks (F := F) (V := u2 V 0 0 0) (U := U) (m := m) (g := 0) (l := s 18) (len := s) h (by omega) hw9 hK.thrown (S1 18 (by omega)) hl2 (fun k hk => S1 k (by omega)) (fun k hk => (hs.1 k hk).1)
      refine ⟨V1, U, sp_lamp K s m y, ?_, mk.thrown.tr ⟨fun j a b => f1 j a (by omega), f0 1 (by omega) (by omega) (by omega)⟩, fun i hi => by rw [f1 24 (by omega) (by omega)]; exact S1 i hi, by rw [f0 0 (by omega) (by omega) (by omega), u2_eq ⟨rfl, rfl⟩]; rfl, fun _ => by rw [nI_clamp (by omega)]⟩
      unfold f_X9_lamp_26 f_X9_lamp_72 sp_lamp
      have d01 : ¬ (0 : Int32) = 1 := by decide
      simp (disch := first | assumption | exact inB_n (by omega) (by decide) | exact inB_l (by omega) (by decide) | exact inB_al (by omega) (by decide) | exact inB_la (by omega) (by decide) | exact inB_j (by assumption) (by omega) (by decide) | exact inB_e (by assumption) (by decide) | omega) only [↓eM h, ↓bd_r, ↓lt_r, ↓Option.bind_some, ↓reduceIte, ix_nI, ix_l, nI_al, nI_la, nI_lm, u2_ne, u2_eq, nI_leI, nI_ltI, nI_eq, le_ln, le_nl, lt_ln, lt_nl, eq_nl, eq_ln, if_neg d01, e1, r1, r2, r3]
      by_cases h0 : y = 0
      · rw [if_pos h0, if_pos h0]
      · by_cases h1 : y = 1
        · rw [if_neg h0, if_neg h0, if_pos h1, if_pos h1]
        · rw [if_neg h0, if_neg h0, if_neg h1, if_neg h1]
/-! whistle -/
def okWh (K : SkyT) (s : Nat → Nat) (x y : Int32) : Bool := isK (kN K) x && inr y 0 40 && (decide (kd K x.toNatClampNeg ≠ 4) && !lo (s 18) x.toNatClampNeg)
def whN (s : Nat → Nat) (k y : Nat) : Nat → Nat := u1 s (6 + k) (if y = s k then 0 else 1 + y)
theorem wf_wh {K : SkyT} {B k y : Nat} {s : Nat → Nat} (hs : wfS K B s) (hw : wfK K) (hk : k < kN K) (hy : y ≤ 40) : wfS K B (whN s k y) := by
  have hn6 := hw.1.1
  have e : ∀ j, j ≠ 6 + k → whN s k y j = s j := fun j hj => if_neg hj
  refine ⟨fun i hi => ?_, by rw [e 18 (by omega)]; exact hs.2.1, by rw [e 19 (by omega)]; exact hs.2.2.1, by rw [e 20 (by omega)]; exact hs.2.2.2.1, fun i hi => ?_⟩
  · have q := hs.1 i hi
    rw [e i (by omega), e (12 + i) (by omega)]
    refine ⟨q.1, ?_, q.2.2⟩
    by_cases hik : i = k
    · subst hik
      show (if 6 + i = 6 + i then (if y = s i then 0 else 1 + y) else s (6 + i)) ≤ 41
      rw [if_pos rfl]
      split <;> omega
    · rw [e (6 + i) (by omega)]; exact q.2.1
  · rw [e 20 (by omega)] at hi
    rw [e _ (by omega), e _ (by omega), e _ (by omega)]
    exact hs.2.2.2.2 i hi
theorem ca_whistle {x y : Int32} {B b : Nat} {K : SkyT} {s : Nat → Nat} {F C : Nat} {S : Mem} {V : Vw} {U : Uw} {D : Dw} (h : shC S C) (hF : 10000 < F) (hw9 : wfK K) (hK : cSky S C b K) (hb : D 28 0 = b) (hS : cNt V 28 K s) (hs : wfS K B s) (hB : B < 2 ^ 29) : ∃ V' D', fn_X8_whistle F C x y (wC S C V U D) = some (b1 (okWh K s x y), wC S C V' U D') ∧ ck V V' ∧ dk D D' ∧ cNt V' 28 K (if okWh K s x y = true then whN s x.toNatClampNeg y.toNatClampNeg else s) := by
  have hn6 := hw9.1.1
  have hl2 : s 18 < 2 ^ 31 := by have := hs.lost hw9; omega
  unfold fn_X8_whistle f_X8_whistle_42 f_X8_whistle_70 okWh
  have e0 : ∀ {α : Type} (X : Option (Int32 × Mem)) (K' : Int32 → Mem → Option α), bd (cal (wC S C V U D) 7 C X) K' = bd X K' := fun X K' => by simp only [↓eC h]
  rw [e0, c_isKite h hw9 hK hb, bd_r]
  cases hk : isK (kN K) x with
  | false => exact ⟨V, D, rfl, ck.rf, dk.rf, hS⟩
  | true =>
    obtain ⟨k, hkn, rfl⟩ := isK_nI hn6 hk
    show ∃ V' D', (if (1 : Int32) = 0 then _ else _) = _ ∧ _
    rw [if_neg (by decide), c_isHeight, bd_r, nI_clamp (by omega)]
    cases hy : inr y 0 40 with
    | false => exact ⟨V, D, rfl, ck.rf, dk.rf, hS⟩
    | true =>
      obtain ⟨j, -, hj, rfl⟩ := inr_nI (a := 0) (b := 40) (by decide) (by decide) hy
      show ∃ V' D', (if (1 : Int32) = 0 then _ else _) = _ ∧ _
      have vk := hS.2.2.2.1 k hkn
      have kk := hK.2.2.1 k hkn
      have kb := hw9.2 k hkn
      have sk := hs.1 k hkn
      have p1 := c_isLost (F := F) (V := V) (U := U) (D := D) (k := k) h isN28 (by omega) hS.2.1 hl2
      rw [if_neg (by decide), nI_clamp (by omega)]
      simp (disch := first | assumption | exact inB_n (by omega) (by decide) | exact inB_l (by omega) (by decide) | exact inB_al (by omega) (by decide) | exact inB_la (by omega) (by decide) | exact inB_j (by assumption) (by omega) (by decide) | exact inB_e (by assumption) (by decide) | omega) only [↓eC h, ↓eN h isN28, ↓eK hK.1, ↓bd_r, p1, hb, kk.1, vk.1, ix_nI, ix_l, nI_al, nI_la, nI_lm, u2_ne, u2_eq, nI_leI, nI_ltI, nI_eq, le_ln, le_nl, lt_ln, lt_nl, eq_nl, eq_ln]
      cases hl : lo (s 18) k with
      | true => refine ⟨V, D, ?_, ck.rf, dk.rf, ?_⟩ <;> simp [b1, rz, hS]
      | false =>
        show ∃ V' D', (if (0 : Int32) = 0 then _ else _) = _ ∧ _
        rw [if_pos rfl]
        by_cases h4 : kd K k = 4
        · rw [if_pos h4]
          refine ⟨V, D, ?_, ck.rf, dk.rf, ?_⟩ <;> simp [b1, rz, h4, hS]
        · rw [if_neg h4]
          have ok : (true && true && (decide (kd K k ≠ 4) && !false)) = true := by simp [h4]
          rw [ok, if_pos rfl]
          have fin : ∀ v : Int32, v = nI (if j = s k then 0 else 1 + j) - 1 → cNt (u2 V (28 + 2) k v) 28 K (whN s k j) := by
            intro v hv
            have e : ∀ i, i ≠ 6 + k → whN s k j i = s i := fun i hi => if_neg hi
            have ee : whN s k j (6 + k) = if j = s k then 0 else 1 + j := if_pos rfl
            refine ⟨?_, ?_, ?_, fun i hi => ⟨?_, ?_, ?_⟩, fun i hi => ?_⟩
            · rw [u2_row (by omega), e 19 (by omega)]; exact hS.1
            · rw [u2_row (by omega), e 18 (by omega)]; exact hS.2.1
            · rw [u2_row (by omega), e 20 (by omega)]; exact hS.2.2.1
            · rw [u2_row (by omega), e i (by omega)]; exact (hS.2.2.2.1 i hi).1
            · by_cases hik : i = k
              · subst hik; rw [u2_eq ⟨rfl, rfl⟩, ee, hv]
              · rw [u2_ne (by omega), e (6 + i) (by omega)]; exact (hS.2.2.2.1 i hi).2.1
            · rw [u2_row (by omega), e (12 + i) (by omega)]; exact (hS.2.2.2.1 i hi).2.2
            · rw [e 20 (by omega)] at hi
              rw [u2_row (by omega), u2_row (by omega), u2_row (by omega), e _ (by omega), e _ (by omega), e _ (by omega)]
              exact hS.2.2.2.2 i hi
          by_cases hjk : s k = j
          · rw [if_pos hjk]
            exact ⟨_, D, by rw [rz_1]; rfl, fun i hi => u2_row (by omega), dk.rf, fin (-1) (by rw [if_pos hjk.symm]; decide)⟩
          · rw [if_neg hjk]
            exact ⟨_, D, by rw [rz_1]; rfl, fun i hi => u2_row (by omega), dk.rf, fin (nI j) (by rw [if_neg (Ne.symm hjk), Nat.add_comm]; exact (nI_pred j).symm)⟩
theorem ma_whistle {x y : Int32} {B : Nat} {K : SkyT} {s : Nat → Nat} {F M : Nat} {S : Mem} {V : Vw} {U : Uw} (h : shM S M) (hF : 10000 < F) (hw9 : wfK K) (hK : mSky V 0 K) (hS : mS V s) (hs : wfS K B s) (hB : B < 2 ^ 29) : ∃ V' U', fn_X9_whistle F M x y (wM S M V U) = some (b1 (okWh K s x y), wM S M V' U') ∧ mk V V' ∧ mS V' (if okWh K s x y = true then whN s x.toNatClampNeg y.toNatClampNeg else s) := by
  have hn6 := hw9.1.1
  have hl2 : s 18 < 2 ^ 31 := by have := hs.lost hw9; omega
  have hn : V 2 4 = nI (kN K) := hK.1.2.2.2.2
  unfold fn_X9_whistle f_X9_whistle_38 f_X9_whistle_65 okWh
  rw [cm_sI h, cm_cal h, q_isKite h (show u2 V 0 0 0 2 4 = nI (kN K) by rw [u2_row (by omega)]; exact hn), bd_r]
  have S1 : mS (u2 V 0 0 0) s := hS.thrown
  have K1 : mSky (u2 V 0 0 0) 0 K := hK.thrown
  have m1 : mk V (u2 V 0 0 0) := mk.thrown
  generalize u2 V 0 0 0 = W at S1 K1 m1 ⊢
  cases hk : isK (kN K) x with
  | false => exact ⟨W, U, rfl, m1, S1⟩
  | true =>
    obtain ⟨k, hkn, rfl⟩ := isK_nI hn6 hk
    show ∃ V' U', (if (1 : Int32) = 0 then _ else _) = _ ∧ _
    rw [if_neg (by decide), q_isHigh, bd_r, nI_clamp (by omega)]
    cases hy : inr y 0 40 with
    | false => exact ⟨W, U, rfl, m1, S1⟩
    | true =>
      obtain ⟨j, -, hj, rfl⟩ := inr_nI (a := 0) (b := 40) (by decide) (by decide) hy
      show ∃ V' U', (if (1 : Int32) = 0 then _ else _) = _ ∧ _
      have kk := (K1.2.1 k hkn).1
      rw [Nat.mul_zero, Nat.zero_add] at kk
      have kb := hw9.2 k hkn
      have sk := hs.1 k hkn
      have p1 := q_isLost (F := F) (V := W) (U := U) (k := k) h (by omega) (S1 18 (by omega)) hl2
      rw [if_neg (by decide), nI_clamp (by omega)]
      simp (disch := first | assumption | exact inB_n (by omega) (by decide) | exact inB_l (by omega) (by decide) | exact inB_al (by omega) (by decide) | exact inB_la (by omega) (by decide) | exact inB_j (by assumption) (by omega) (by decide) | exact inB_e (by assumption) (by decide) | omega) only [↓eM h, ↓bd_r, ↓lt_r, ↓Option.bind_some, ↓reduceIte, ix_nI, ix_l, nI_al, nI_la, nI_lm, u2_ne, u2_eq, nI_leI, nI_ltI, nI_eq, le_ln, le_nl, lt_ln, lt_nl, eq_nl, eq_ln, p1, kk, S1 k (by omega)]
      by_cases h4 : kd K k = 4
      · rw [if_pos h4]
        refine ⟨W, U, ?_, m1, ?_⟩ <;> simp [b1, rz, h4, S1]
      · rw [if_neg h4]
        cases hl : lo (s 18) k with
        | true => refine ⟨W, U, ?_, m1, ?_⟩ <;> simp [b1, rz, S1]
        | false =>
          show ∃ V' U', (if (0 : Int32) = 0 then _ else _) = _ ∧ _
          rw [if_pos rfl]
          have ok : (true && true && (decide (kd K k ≠ 4) && !false)) = true := by simp [h4]
          rw [ok, if_pos rfl]
          have fin : ∀ v : Int32, v = nI (if j = s k then 0 else 1 + j) → mk V (u2 W 24 (6 + k) v) ∧ mS (u2 W 24 (6 + k) v) (whN s k j) := by
            intro v hv
            refine ⟨m1.tr ⟨fun i a b => u2_row (by omega), u2_ne (by omega)⟩, fun i hi => ?_⟩
            by_cases hik : i = 6 + k
            · subst hik
              rw [u2_eq ⟨rfl, rfl⟩, hv]
              show _ = nI (if 6 + k = 6 + k then (if j = s k then 0 else 1 + j) else s (6 + k))
              rw [if_pos rfl]
            · rw [u2_ne (Or.inr hik), S1 i hi]
              show _ = nI (if i = 6 + k then (if j = s k then 0 else 1 + j) else s i)
              rw [if_neg hik]
          by_cases hjk : j = s k
          · rw [if_pos hjk]
            exact ⟨_, U, by rw [rz_1]; rfl, (fin 0 (by rw [if_pos hjk]; rfl)).1, (fin 0 (by rw [if_pos hjk]; rfl)).2⟩
          · rw [if_neg hjk]
            exact ⟨_, U, by rw [rz_1]; rfl, (fin _ (by rw [if_neg hjk])).1, (fin _ (by rw [if_neg hjk])).2⟩
