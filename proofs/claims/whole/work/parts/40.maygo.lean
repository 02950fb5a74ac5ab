/-! mayGo, needed -/
def orN (l k : Nat) : Nat := if lo l k = true then l else l + 2 ^ k
theorem or2_F : ∀ l : Fin 64, ∀ k : Fin 6, nI l.val ||| ((1 : Int32) <<< (nI k.val &&& 31)) = nI (orN l.val k.val) ∧ orN l.val k.val < 64 := by decide +kernel
theorem or2_bit {l k : Nat} (hl : l < 64) (hk : k < 6) : nI l ||| ((1 : Int32) <<< (nI k &&& 31)) = nI (orN l k) ∧ orN l k < 64 := or2_F ⟨l, hl⟩ ⟨k, hk⟩
def goB (K : SkyT) (s : Nat → Nat) (x k : Nat) : Bool := !lo (s 18) k && decide (x ≤ highN K (orN (s 18) k) (wR K (s 19) 0) s)
def sp_mayGo (K : SkyT) (s : Nat → Nat) (x : Int32) : Int32 := if inr x 0 40 = true then nI (bitsum (goB K s x.toNatClampNeg) (kN K)) else -1
theorem ca_mayGo {x : Int32} {B b : Nat} {K : SkyT} {s : Nat → Nat} {F C : Nat} {S : Mem} {V : Vw} {U : Uw} {D : Dw} (h : shC S C) (hF : 10000 < F) (hw9 : wfK K) (hK : cSky S C b K) (hb : D 28 0 = b) (hS : cNt V 28 K s) (hs : wfS K B s) (hB : B < 2 ^ 29) : ∃ V' D', fn_X8_mayGo F C x (wC S C V U D) = some (sp_mayGo K s x, wC S C V' U D') ∧ ck V V' ∧ dk D D' ∧ cNt V' 28 K s := by
  have hn6 := hw9.1.1
  have hl6 := hs.lost hw9
  unfold fn_X8_mayGo sp_mayGo
  rw [c_isHeight, bd_r]
  cases hx : inr x 0 40 with
  | false => exact ⟨V, D, rfl, ck.rf, dk.rf, hS⟩
  | true =>
  obtain ⟨q, -, hq, rfl⟩ := inr_nI (a := 0) (b := 40) (by decide) (by decide) hx
  show ∃ V' D', (if (1 : Int32) = 0 then _ else _) = _ ∧ _
  rw [if_neg (by decide), if_pos rfl, nI_clamp (by omega)]
  obtain ⟨V1, e1, f1, g1⟩ := c_feel (F := F) (U := U) (m := s 19) (g := 0) (len := s) h isN28 (by omega) hw9 hK hb (fun k hk => (hS.2.2.2.1 k hk).1) (fun k hk => (hs.1 k hk).1)
  have hb1 : (u2 D 14 7 b) 28 0 = b := by rw [u2_ne (by omega)]; exact hb
  have dk1 : dk D (u2 D 14 7 b) := dk.air
  generalize u2 D 14 7 b = E at e1 g1 hb1 dk1
  have key : ∀ (d i f : Nat) (W : Vw), i + d = kN K → d < f → (∀ j, j ≠ 14 → W j = V1 j) → felt K (s 19) b 0 s W E →
      ∃ V', fix4 (b_X8_mayGo_32 F) f C (nI q) (nI (bitsum (goB K s q) i)) (nI i) (wC S C W U E) = some (nI (bitsum (goB K s q) (kN K)), wC S C V' U E) ∧ (∀ j, j ≠ 14 → V' j = V1 j) := by
    intro d
    induction d with
    | zero =>
      intro i f W hi hf c1 g2
      obtain ⟨f, rfl⟩ : ∃ f', f = f' + 1 := ⟨f - 1, by omega⟩
      obtain rfl : i = kN K := by omega
      refine ⟨W, ?_, c1⟩
      show b_X8_mayGo_32 F (fix4 (b_X8_mayGo_32 F) f) C (nI q) _ (nI (kN K)) (wC S C W U E) = _
      generalize fix4 (b_X8_mayGo_32 F) f = k4
      unfold b_X8_mayGo_32
      have e9 : ∀ {α : Type} (K' : Nat → Option α), (gR (wC S C W U E) 7 5 C).bind K' = K' (C + 28) := fun K' => by simp only [↓eC h]
      rw [e9, (eN h isN28).2.2.2.1, hb1, (eK hK.1).1, hK.2.1.1, if_pos (Int32.le_refl _)]
    | succ d ih =>
      intro i f W hi hf c1 g2
      obtain ⟨f, rfl⟩ : ∃ f', f = f' + 1 := ⟨f - 1, by omega⟩
      have ih := fun W => ih (i + 1) f W (by omega) (by omega)
      show ∃ V', b_X8_mayGo_32 F (fix4 (b_X8_mayGo_32 F) f) C (nI q) _ (nI i) (wC S C W U E) = _ ∧ _
      generalize fix4 (b_X8_mayGo_32 F) f = k4 at ih ⊢
      have nW : cNt W 28 K s := (hS.keep (fun i hi => f1 (28 + i) (by omega))).keep (fun i hi => c1 (28 + i) (by omega))
      have p1 := c_isLost (F := F) (V := W) (U := U) (D := E) (k := i) h isN28 (by omega) nW.2.1 (by omega)
      obtain ⟨o1, o2⟩ := or2_bit hl6 (show i < 6 by omega)
      have e2 := c_hang (F := F) (U := U) (l := orN (s 18) i) h isN28 (by omega) hw9 hK g2 o2 (fun k hk => (nW.2.2.2.1 k hk).1) (fun k hk => (hs.1 k hk).1)
      have hhi := high_le (K := K) (l := orN (s 18) i) (w := wR K (s 19) 0) (len := s)
      unfold b_X8_mayGo_32 f_X8_mayGo_98 f_X8_mayGo_100
      have e9 : ∀ {α : Type} (K' : Nat → Option α), (gR (wC S C W U E) 7 5 C).bind K' = K' (C + 28) := fun K' => by simp only [↓eC h]
      rw [e9, (eN h isN28).2.2.2.1, hb1, (eK hK.1).1, hK.2.1.1, if_neg (show ¬ nI (kN K) ≤ nI i from nI_ge (by omega) (by omega)), e9, (eN h isN28).2.2.1, p1, bd_r, nI_1]
      rw [bitsum_s] at ih
      unfold goB at ih ⊢
      cases hl : lo (s 18) i with
      | true =>
        rw [hl] at ih
        show ∃ V', (if (1 : Int32) = 0 then _ else _) = _ ∧ _
        rw [if_neg (by decide)]
        exact ih W c1 g2
      | false =>
        rw [hl] at ih
        show ∃ V', (if (0 : Int32) = 0 then _ else _) = _ ∧ _
        rw [if_pos rfl]
        simp (disch := first | assumption | exact inB_n (by omega) (by decide) | exact inB_l (by omega) (by decide) | exact inB_al (by omega) (by decide) | exact inB_la (by omega) (by decide) | exact inB_j (by assumption) (by omega) (by decide) | exact inB_e (by assumption) (by decide) | omega) only [↓eC h, ↓eN h isN28, ↓bd_r, ↓lt_r, nW.2.1, o1, e2, ix_nI, ix_l, nI_al, nI_la, nI_lm, u2_ne, u2_eq, nI_leI, nI_ltI, nI_eq, le_ln, le_nl, lt_ln, lt_nl, eq_nl, eq_ln]
        have gX : felt K (s 19) b 0 s (u2 (u2 W 14 4 (nI (rawN K (orN (s 18) i) (wR K (s 19) 0) s))) 14 5 (nI (highN K (orN (s 18) i) (wR K (s 19) 0) s))) E := by
          obtain ⟨a1, a2, a3, a4, a5⟩ := g2
          refine ⟨a1, ?_, ?_, ?_, fun k hk => ?_⟩
          · rw [u2_ne (by omega), u2_ne (by omega)]; exact a2
          · rw [u2_ne (by omega), u2_ne (by omega)]; exact a3
          · rw [u2_ne (by omega), u2_ne (by omega)]; exact a4
          · rw [u2_row (by omega), u2_row (by omega), u2_row (by omega), u2_row (by omega)]; exact a5 k hk
        have ih := ih _ (fun j hj => by rw [u2_row hj, u2_row hj, c1 j hj]) gX
        by_cases hc : highN K (orN (s 18) i) (wR K (s 19) 0) s < q
        · rw [if_pos hc, Int32.or_zero]
          rw [decide_eq_false (show ¬ q ≤ highN K (orN (s 18) i) (wR K (s 19) 0) s by omega)] at ih
          exact ih
        · rw [if_neg hc, or_bit (show i < 6 by omega) (bitsum_lt _ i)]
          rw [decide_eq_true (show q ≤ highN K (orN (s 18) i) (wR K (s 19) 0) s by omega)] at ih
          exact ih
  obtain ⟨V2, e2, c2⟩ := key (kN K) 0 F V1 (by omega) (by omega) (fun _ _ => rfl) g1
  refine ⟨V2, E, ?_, fun j hj => (c2 j (by omega)).trans (f1 j (by omega)), dk1, hS.keep (fun i hi => (c2 (28 + i) (by omega)).trans (f1 (28 + i) (by omega)))⟩
  simp only [↓eC h, ↓eN h isN28, ↓bd_r, hS.1, e1]
  exact e2
theorem q_highWith {l : Nat} {K : SkyT} {w : Nat → Nat} {B : Nat} {s : Nat → Nat} {F M : Nat} {S : Mem} {V : Vw} {U : Uw} (h : shM S M) (hF : 60 < F) (hw9 : wfK K) (hK : mSky V 0 K) (hS : mS V s) (hs : wfS K B s) (hl : l < 64) (hw : ∀ i, i < 41 → V 27 i = nI (w i)) (hw2 : ∀ i, w i ≤ 99) :
    ∃ V', fn_X9_highWith F M (nI l) (wM S M V U) = some (nI (highN K l w s), wM S M V' U) ∧ (∀ j, j ≠ 0 → j ≠ 24 → j ≠ 28 → V' j = V j) ∧ (∀ j, j ≠ 41 → j ≠ 42 → j ≠ 43 → V' 0 j = V 0 j) ∧ mS V' s := by
  have hn6 := hw9.1.1
  obtain ⟨V1, e1, f1, f0, p1, r1, r2, r3⟩ := q_hangs (F := F) (V0 := u2 V 24 18 (nI l)) (U := U) (l := l) (w := w) (len := s) h hF hw9 (hK.keep (fun j hj => u2_row (by omega))) (u2_eq ⟨rfl, rfl⟩) (by omega) (fun k hk => by rw [u2_ne (by omega)]; exact hS k (by omega)) (fun k hk => (hs.1 k hk).1) (by rw [u2_row (by omega)]; exact hw) hw2
  refine ⟨u2 V1 24 18 (nI (s 18)), ?_, fun j a b c => by rw [u2_row b, f1 j a c, u2_row b], fun j a b c => by rw [u2_row (by omega), f0 j a b c, u2_row (by omega)], fun j hj => ?_⟩
  · unfold fn_X9_highWith
    simp (disch := first | assumption | exact inB_n (by omega) (by decide) | exact inB_l (by omega) (by decide) | exact inB_al (by omega) (by decide) | exact inB_la (by omega) (by decide) | exact inB_j (by assumption) (by omega) (by decide) | exact inB_e (by assumption) (by decide) | omega) only [↓eM h, ↓bd_r, ↓lt_r, ↓Option.bind_some, ↓reduceIte, ix_nI, ix_l, nI_al, nI_la, nI_lm, u2_ne, u2_eq, nI_leI, nI_ltI, nI_eq, le_ln, le_nl, lt_ln, lt_nl, eq_nl, eq_ln, hS 18 (by omega), e1, r2]
  · by_cases h8 : j = 18
    · subst h8; rw [u2_eq ⟨rfl, rfl⟩]
    · rw [u2_ne (Or.inr h8), f1 24 (by omega) (by omega), u2_ne (Or.inr h8)]; exact hS j hj
theorem ma_mayGo {x : Int32} {B : Nat} {K : SkyT} {s : Nat → Nat} {F M : Nat} {S : Mem} {V : Vw} {U : Uw} (h : shM S M) (hF : 10000 < F) (hw9 : wfK K) (hK : mSky V 0 K) (hS : mS V s) (hs : wfS K B s) (hB : B < 2 ^ 29) : ∃ V' U', fn_X9_mayGo F M x (wM S M V U) = some (sp_mayGo K s x, wM S M V' U') ∧ mk V V' ∧ mS V' s := by
  have hn6 := hw9.1.1
  have hl6 := hs.lost hw9
  unfold fn_X9_mayGo sp_mayGo
  rw [cm_sI h, q_isHigh, bd_r]
  have S1 : mS (u2 V 0 0 0) s := hS.thrown
  have K1 : mSky (u2 V 0 0 0) 0 K := hK.thrown
  have m1 : mk V (u2 V 0 0 0) := mk.thrown
  generalize u2 V 0 0 0 = W at S1 K1 m1 ⊢
  cases hx : inr x 0 40 with
  | false => exact ⟨W, U, rfl, m1, S1⟩
  | true =>
  obtain ⟨q, -, hq, rfl⟩ := inr_nI (a := 0) (b := 40) (by decide) (by decide) hx
  show ∃ V' U', (if (1 : Int32) = 0 then _ else _) = _ ∧ _
  rw [if_neg (by decide), if_pos rfl, nI_clamp (by omega)]
  obtain ⟨X, e1, f1, g1⟩ := q_blows (F := F) (V0 := W) (U := U) (m := s 19) (g := 0) h (by omega) K1
  have S2 : mS X s := fun j hj => by rw [f1 24 (by omega)]; exact S1 j hj
  have K2 : mSky X 0 K := K1.keep (fun j hj => f1 j (by omega))
  have m2 : mk V X := m1.tr ⟨fun j a b => f1 j (by omega), by rw [f1 0 (by omega)]⟩
  have key : ∀ (d i f : Nat) (Y : Vw), i + d = kN K → d < f → mk V Y → mSky Y 0 K → mS Y s → (∀ i, i < 41 → Y 27 i = nI (wR K (s 19) 0 i)) →
      ∃ V' U', fix4 (b_X9_mayGo_30 F) f M (nI q) (nI (bitsum (goB K s q) i)) (nI i) (wM S M Y U) = some (nI (bitsum (goB K s q) (kN K)), wM S M V' U') ∧ mk V V' ∧ mS V' s := by
    intro d
    induction d with
    | zero =>
      intro i f Y hi hf c1 k1 n1 w1
      obtain ⟨f, rfl⟩ : ∃ f', f = f' + 1 := ⟨f - 1, by omega⟩
      obtain rfl : i = kN K := by omega
      refine ⟨Y, U, ?_, c1, n1⟩
      show b_X9_mayGo_30 F (fix4 (b_X9_mayGo_30 F) f) M (nI q) _ (nI (kN K)) (wM S M Y U) = _
      generalize fix4 (b_X9_mayGo_30 F) f = k4
      unfold b_X9_mayGo_30
      rw [cm_sky h, ca_sky h (inB_l (by omega) (by decide)), show Y 2 (4 : Int32).toNatClampNeg = nI (kN K) from k1.1.2.2.2.2, if_pos (Int32.le_refl _)]
    | succ d ih =>
      intro i f Y hi hf c1 k1 n1 w1
      obtain ⟨f, rfl⟩ : ∃ f', f = f' + 1 := ⟨f - 1, by omega⟩
      have ih := fun Y => ih (i + 1) f Y (by omega) (by omega)
      show ∃ V' U', b_X9_mayGo_30 F (fix4 (b_X9_mayGo_30 F) f) M (nI q) _ (nI i) (wM S M Y U) = _ ∧ _
      generalize fix4 (b_X9_mayGo_30 F) f = k4 at ih ⊢
      have p1 := q_isLost (F := F) (V := Y) (U := U) (k := i) h (by omega) (n1 18 (by omega)) (by omega)
      obtain ⟨o1, o2⟩ := or2_bit hl6 (show i < 6 by omega)
      obtain ⟨Z, e2, f2, f20, s2⟩ := q_highWith (F := F) (V := Y) (U := U) (l := orN (s 18) i) (w := wR K (s 19) 0) h (by omega) hw9 k1 n1 hs o2 w1 (wR_le K (s 19) 0)
      have hhi := high_le (K := K) (l := orN (s 18) i) (w := wR K (s 19) 0) (len := s)
      unfold b_X9_mayGo_30 f_X9_mayGo_74 f_X9_mayGo_75
      rw [cm_sky h, ca_sky h (inB_l (by omega) (by decide)), show Y 2 (4 : Int32).toNatClampNeg = nI (kN K) from k1.1.2.2.2.2, if_neg (show ¬ nI (kN K) ≤ nI i from nI_ge (by omega) (by omega)), cm_cal h, p1, bd_r, nI_1]
      rw [bitsum_s] at ih
      unfold goB at ih ⊢
      cases hl : lo (s 18) i with
      | true =>
        rw [hl] at ih
        show ∃ V' U', (if (1 : Int32) = 0 then _ else _) = _ ∧ _
        rw [if_neg (by decide), lt_r, Int32.or_zero]
        exact ih Y c1 k1 n1 w1
      | false =>
        rw [hl] at ih
        show ∃ V' U', (if (0 : Int32) = 0 then _ else _) = _ ∧ _
        rw [if_pos rfl]
        simp (disch := first | assumption | exact inB_n (by omega) (by decide) | exact inB_l (by omega) (by decide) | exact inB_al (by omega) (by decide) | exact inB_la (by omega) (by decide) | exact inB_j (by assumption) (by omega) (by decide) | exact inB_e (by assumption) (by decide) | omega) only [↓eM h, ↓bd_r, ↓lt_r, ↓Option.bind_some, ↓reduceIte, ix_nI, ix_l, nI_al, nI_la, nI_lm, u2_ne, u2_eq, nI_leI, nI_ltI, nI_eq, le_ln, le_nl, lt_ln, lt_nl, eq_nl, eq_ln, n1 18 (by omega), o1, e2]
        have ih := ih Z (c1.tr ⟨fun j a b => f2 j a (by omega) (by omega), f20 1 (by omega) (by omega) (by omega)⟩) (k1.keep (fun j hj => f2 j (by omega) (by omega) (by omega))) s2 (by rw [f2 27 (by omega) (by omega) (by omega)]; exact w1)
        by_cases hc : highN K (orN (s 18) i) (wR K (s 19) 0) s < q
        · rw [if_pos hc, Int32.or_zero]
          rw [decide_eq_false (show ¬ q ≤ highN K (orN (s 18) i) (wR K (s 19) 0) s by omega)] at ih
          exact ih
        · rw [if_neg hc, or_bit (show i < 6 by omega) (bitsum_lt _ i)]
          rw [decide_eq_true (show q ≤ highN K (orN (s 18) i) (wR K (s 19) 0) s by omega)] at ih
          exact ih
  rw [cm_s h, ca_s h (inB_l (by omega) (by decide)), show W 24 (19 : Int32).toNatClampNeg = nI (s 19) from S1 19 (by omega), cm_cal h, e1, bd_r]
  exact key (kN K) 0 F X (by omega) (by omega) m2 K2 S2 g1
