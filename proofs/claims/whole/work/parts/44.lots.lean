/-! lots -/
def nextG (g : Int64) : Int64 := ((g * 1103515245) + 12345) - ((g * 1103515245) + 12345) / 2147483648 * 2147483648
def gustV (K : SkyT) (g : Int64) : Int32 := (((g / 65536) - (g / 65536) / (nI (kG K + 1)).toInt64 * (nI (kG K + 1)).toInt64)).toInt32
def hiG (K : SkyT) (t : Nat → Nat) (u : Int32) : Nat := highN K (t 18) (wR K (t 19) u) t
def ltR (K : SkyT) (q : Nat) : Nat → (Nat → Nat) → Int64 × Nat × Nat → Int64 × Nat × Nat
  | 0, _, a => a
  | d + 1, t, a => ltR K q d (passN K (gustV K (nextG a.1)) t) (nextG a.1, a.2.1 + (if hiG K t (gustV K (nextG a.1)) < q then 0 else 1), min a.2.2 (hiG K t (gustV K (nextG a.1))))
theorem ltR_s {K : SkyT} {q d : Nat} {t : Nat → Nat} {a : Int64 × Nat × Nat} {g : Int64} {u : Int32} {hh : Nat} (hg : nextG a.1 = g) (hu : gustV K g = u) (hi : hiG K t u = hh) : ltR K q (d + 1) t a = ltR K q d (passN K u t) (g, a.2.1 + (if hh < q then 0 else 1), min a.2.2 hh) := by
  subst hg hu hi
  conv => lhs; unfold ltR
def lnR (K : SkyT) (q n : Nat) (s : Nat → Nat) : Nat → Int64 × Nat × Nat → Int64 × Nat × Nat
  | 0, a => a
  | d + 1, a => lnR K q n s d (ltR K q n s a)
def okLt (x y z u v : Int32) : Bool := inr x 0 9999 && inr y 1 20 && inr z 1 60 && inr u 0 40 && inr v 0 1
def sp_lots (K : SkyT) (s : Nat → Nat) (x y z u v : Int32) : Int32 := if okLt x y z u v = true then (if v = 0 then nI (lnR K u.toNatClampNeg z.toNatClampNeg s y.toNatClampNeg (x.toInt64, 0, 40)).2.1 else nI (lnR K u.toNatClampNeg z.toNatClampNeg s y.toNatClampNeg (x.toInt64, 0, 40)).2.2) else -1
def okB (a : Int64 × Nat × Nat) : Prop := a.2.2 ≤ 40
theorem hiG_le {K : SkyT} {t : Nat → Nat} {u : Int32} : hiG K t u ≤ 40 := high_le
theorem m_ne {K : SkyT} (hw9 : wfK K) : ¬ (nI (kG K + 1)).toInt64 = 0 := by
  have := hw9.1.2.2.2.2.2.2
  rw [nI_l (by omega)]
  exact lN_ne0 (by omega) (by omega)
theorem c_gustOf {b : Nat} {g : Int64} {K : SkyT} {F C : Nat} {S : Mem} {V : Vw} {U : Uw} {D : Dw} (h : shC S C) (hw9 : wfK K) (hK : cSky S C b K) (hb : D 28 0 = b) : fn_X8_gustOf F C g (wC S C V U D) = some (gustV K g, wC S C V U D) := by
  have hG := hw9.1.2.2.2.2.2.2
  unfold fn_X8_gustOf f_X8_gustOf_31 nzl
  simp only [↓eC h, ↓eN h isN28, ↓eK hK.1, ↓lt_r, hb, hK.2.1.2.2.2.2, nI_1]
  rw [if_pos (show (1 : Int32) ≤ nI (kG K + 1) from nI_le (a := 1) (by omega) (by omega)), if_neg (m_ne hw9)]
  rfl
theorem q_draws {K : SkyT} {F M : Nat} {S : Mem} {V : Vw} {U : Uw} (h : shM S M) (hw9 : wfK K) : fn_X9_draws F M (nI (kG K + 1)) (wM S M V U) = some (gustV K (nextG (U 0 50)), wM S M V (u2 U 0 50 (nextG (U 0 50)))) := by
  unfold fn_X9_draws nzl
  simp (disch := first | assumption | exact inB_n (by omega) (by decide) | exact inB_l (by omega) (by decide) | exact inB_al (by omega) (by decide) | exact inB_la (by omega) (by decide) | exact inB_j (by assumption) (by omega) (by decide) | exact inB_e (by assumption) (by decide) | omega) only [↓eM h, ↓bd_r, ↓lt_r, ↓Option.bind_some, ↓reduceIte, ix_nI, ix_l, nI_al, nI_la, nI_lm, u2_ne, u2_eq, nI_leI, nI_ltI, nI_eq, le_ln, le_nl, lt_ln, lt_nl, eq_nl, eq_ln]
  rw [if_neg (m_ne hw9)]
  rfl
theorem ca_lots {x y z u v : Int32} {B b : Nat} {K : SkyT} {s : Nat → Nat} {F C : Nat} {S : Mem} {V : Vw} {U : Uw} {D : Dw} (h : shC S C) (hF : 10000 < F) (hw9 : wfK K) (hK : cSky S C b K) (hb : D 28 0 = b) (hS : cNt V 28 K s) (hs : wfS K B s) (hB : B < 2 ^ 29) : ∃ V' D', fn_X8_lots F C x y z u v (wC S C V U D) = some (sp_lots K s x y z u v, wC S C V' U D') ∧ ck V V' ∧ dk D D' ∧ cNt V' 28 K s := by
  have hn6 := hw9.1.1
  unfold fn_X8_lots f_X8_lots_53 f_X8_lots_54 sp_lots okLt
  rw [c_within, bd_r]
  cases hx : inr x 0 9999 with
  | false => exact ⟨V, D, rfl, ck.rf, dk.rf, hS⟩
  | true =>
  show ∃ V' D', (if (1 : Int32) = 0 then _ else _) = _ ∧ _
  rw [if_neg (by decide), c_within, bd_r]
  cases hy : inr y 1 20 with
  | false => exact ⟨V, D, rfl, ck.rf, dk.rf, hS⟩
  | true =>
  show ∃ V' D', (if (1 : Int32) = 0 then _ else _) = _ ∧ _
  rw [if_neg (by decide), c_within, bd_r]
  cases hz : inr z 1 60 with
  | false => exact ⟨V, D, rfl, ck.rf, dk.rf, hS⟩
  | true =>
  show ∃ V' D', (if (1 : Int32) = 0 then _ else _) = _ ∧ _
  rw [if_neg (by decide), c_isHeight, bd_r]
  cases hu : inr u 0 40 with
  | false => exact ⟨V, D, rfl, ck.rf, dk.rf, hS⟩
  | true =>
  show ∃ V' D', (if (1 : Int32) = 0 then _ else _) = _ ∧ _
  rw [if_neg (by decide), c_within, bd_r]
  cases hv : inr v 0 1 with
  | false => exact ⟨V, D, rfl, ck.rf, dk.rf, hS⟩
  | true =>
  show ∃ V' D', (if (1 : Int32) = 0 then _ else (if (1 : Int32) = 0 then _ else _)) = some ((if true = true then _ else _), _) ∧ _
  obtain ⟨nn, hnn1, hnn, rfl⟩ := inr_nI (a := 1) (b := 20) (by decide) (by decide) hy
  obtain ⟨n, hn1, hn, rfl⟩ := inr_nI (a := 1) (b := 60) (by decide) (by decide) hz
  obtain ⟨q, -, hq, rfl⟩ := inr_nI (a := 0) (b := 40) (by decide) (by decide) hu
  rw [if_neg (by decide), if_neg (by decide), if_pos rfl, nI_clamp (by omega), nI_clamp (by omega), nI_clamp (by omega), lt_r]
  have inner : ∀ (k77 : Nat → Int32 → Int32 → Int32 → Int32 → Int64 → Int32 → Int32 → Int32 → Mem → Option (Int32 × Mem)) (x11 : Int32) (d i f : Nat) (W : Vw) (E : Dw) (t : Nat → Nat) (a : Int64 × Nat × Nat), i + d = n → d < f → (∀ j, j < 14 ∨ (27 < j ∧ j < 35) ∨ 41 < j → W j = V j) → dk D E → E 35 0 = b → cNt W 35 K t → wfS K (B + i) t → okB a →
      ∃ W' E', fix10 (b_X8_lots_97 F k77) f C (nI nn) (nI n) (nI q) v a.1 (nI a.2.1) (nI a.2.2) x11 (nI i) (wC S C W U E) = k77 C (nI nn) (nI n) (nI q) v (ltR K q d t a).1 (nI (ltR K q d t a).2.1) (nI (ltR K q d t a).2.2) (x11 + 1) (wC S C W' U E') ∧ (∀ j, j < 14 ∨ (27 < j ∧ j < 35) ∨ 41 < j → W' j = V j) ∧ dk D E' ∧ okB (ltR K q d t a) := by
    intro k77 x11 d
    induction d with
    | zero =>
      intro i f W E t a hi hf c1 d1 b1 n1 w1 ok
      obtain ⟨f, rfl⟩ : ∃ f', f = f' + 1 := ⟨f - 1, by omega⟩
      obtain rfl : i = n := by omega
      refine ⟨W, E, ?_, c1, d1, ok⟩
      show b_X8_lots_97 F k77 (fix10 (b_X8_lots_97 F k77) f) C (nI nn) (nI i) (nI q) v a.1 (nI a.2.1) (nI a.2.2) x11 (nI i) (wC S C W U E) = _
      unfold b_X8_lots_97
      rw [if_pos (Int32.le_refl _)]
      rfl
    | succ d ih =>
      intro i f W E t a hi hf c1 d1 b1 n1 w1 ok
      obtain ⟨f, rfl⟩ : ∃ f', f = f' + 1 := ⟨f - 1, by omega⟩
      obtain ⟨g, hg⟩ : ∃ g, nextG a.1 = g := ⟨_, rfl⟩
      obtain ⟨gu, hgu⟩ : ∃ u, gustV K g = u := ⟨_, rfl⟩
      obtain ⟨hh, hhh⟩ : ∃ x, hiG K t gu = x := ⟨_, rfl⟩
      have h40 : hh ≤ 40 := by rw [← hhh]; exact hiG_le
      rw [ltR_s hg hgu hhh]
      have ih := fun W E => ih (i + 1) f W E (passN K gu t) (g, a.2.1 + (if hh < q then 0 else 1), min a.2.2 hh) (by omega) (by omega)
      show ∃ W' E', b_X8_lots_97 F k77 (fix10 (b_X8_lots_97 F k77) f) C (nI nn) (nI n) (nI q) v a.1 (nI a.2.1) (nI a.2.2) x11 (nI i) (wC S C W U E) = _ ∧ _
      generalize fix10 (b_X8_lots_97 F k77) f = k4 at ih ⊢
      have lt6 := w1.lost hw9
      have hbE : E 28 0 = b := (d1 28 isN28 (by decide)).trans hb
      have eg : (a.1 * 1103515245 + 12345) - (a.1 * 1103515245 + 12345) / 2147483648 * 2147483648 = g := hg
      have e0 := c_gustOf (F := F) (V := W) (U := U) (D := E) (g := g) h hw9 hK hbE
      rw [hgu] at e0
      obtain ⟨W1, e1, f1, l1⟩ := c_look (F := F) (U := U) (m := t 19) (g := gu) (l := t 18) (len := t) h isN35 (by omega) hw9 hK b1 lt6 n1.2.1 (fun k hk => (n1.2.2.2.1 k hk).1) (fun k hk => (w1.1 k hk).1)
      have l5 : W1 14 5 = nI hh := by rw [← hhh]; exact l1.2.2.1
      have n2 : cNt W1 35 K t := n1.keep (fun i hi => f1 (35 + i) (by omega))
      have b2 : (u2 E 14 7 b) 35 0 = b := by rw [u2_ne (by omega)]; exact b1
      obtain ⟨W2, e2, f2, n3⟩ := c_pass (F := F) (U := U) (D := u2 E 14 7 b) (g := gu) h isN35 (by omega) hw9 hK b2 n2 w1 (by omega) (fun _ => l1)
      have ih := ih W2 _ (fun j hj => (f2 j (by omega) (by omega) (by omega)).trans ((f1 j (by omega)).trans (c1 j hj))) (d1.tr dk.air) b2 n3 (wf_pass w1 hw9) (by unfold okB at ok ⊢; show min a.2.2 _ ≤ 40; omega)
      unfold okB at ok
      generalize ltR K q d (passN K gu t) (g, a.2.1 + (if hh < q then 0 else 1), min a.2.2 hh) = R at ih ⊢
      dsimp only at ih
      unfold b_X8_lots_97 f_X8_lots_162
      rw [if_neg (show ¬ nI n ≤ nI i from nI_ge (by omega) (by omega)), lt_r, eg]
      have z0 : nI a.2.1 + (0 : Int32) = nI (a.2.1 + 0) := nI_add _ 0
      simp only [↓eC h, ↓eN h isN35, ↓bd_r, ↓lt_r, n1.1, e0, e1, l5, e2, nI_1, z0, mn_nI (show a.2.2 < 2 ^ 31 by omega) (show hh < 2 ^ 31 by omega)]
      by_cases hc : hh < q
      · rw [if_pos (nI_lt hc (by omega))]
        rw [if_pos hc] at ih
        exact ih
      · rw [if_neg (nI_nlt (by omega) (by omega))]
        rw [if_neg hc] at ih
        exact ih
  have outer : ∀ (d i f : Nat) (W : Vw) (E : Dw) (a : Int64 × Nat × Nat), i + d = nn → d < f → (∀ j, j < 14 ∨ (27 < j ∧ j < 35) ∨ 41 < j → W j = V j) → dk D E → okB a →
      ∃ V' D', fix9 (b_X8_lots_77 F) f C (nI nn) (nI n) (nI q) v a.1 (nI a.2.1) (nI a.2.2) (nI i) (wC S C W U E) = some ((if v = 0 then nI (lnR K q n s d a).2.1 else nI (lnR K q n s d a).2.2), wC S C V' U D') ∧ (∀ j, j < 14 ∨ (27 < j ∧ j < 35) ∨ 41 < j → V' j = V j) ∧ dk D D' := by
    intro d
    induction d with
    | zero =>
      intro i f W E a hi hf c1 d1 ok
      obtain ⟨f, rfl⟩ : ∃ f', f = f' + 1 := ⟨f - 1, by omega⟩
      obtain rfl : i = nn := by omega
      refine ⟨W, E, ?_, c1, d1⟩
      show b_X8_lots_77 F (fix9 (b_X8_lots_77 F) f) C (nI i) (nI n) (nI q) v a.1 (nI a.2.1) (nI a.2.2) (nI i) (wC S C W U E) = _
      unfold b_X8_lots_77 f_X8_lots_214
      rw [if_pos (Int32.le_refl _)]
      by_cases h0 : v = 0
      · rw [if_pos h0, if_pos h0]; rfl
      · rw [if_neg h0, if_neg h0]; rfl
    | succ d ih =>
      intro i f W E a hi hf c1 d1 ok
      obtain ⟨f, rfl⟩ : ∃ f', f = f' + 1 := ⟨f - 1, by omega⟩
      have ih := fun W E a => ih (i + 1) f W E a (by omega) (by omega)
      show ∃ V' D', b_X8_lots_77 F (fix9 (b_X8_lots_77 F) f) C (nI nn) (nI n) (nI q) v a.1 (nI a.2.1) (nI a.2.2) (nI i) (wC S C W U E) = some ((if v = 0 then nI (lnR K q n s d (ltR K q n s a)).2.1 else nI (lnR K q n s d (ltR K q n s a)).2.2), _) ∧ _
      generalize fix9 (b_X8_lots_77 F) f = k77 at ih ⊢
      have nW : cNt W 28 K s := hS.keep (fun i hi => c1 (28 + i) (by omega))
      have hbE : E 28 0 = b := (d1 28 isN28 (by decide)).trans hb
      obtain ⟨W1, e1, f1, n1⟩ := c_take (F := F) (U := U) (D := E) (s := s) h isN35 isN28 (by decide) hw9 nW hs.2.2.2.1
      rw [hbE] at e1
      obtain ⟨W2, E2, e2, c2, d2, ok2⟩ := inner k77 (nI i) n 0 F W1 (u2 E 35 0 b) s a (by omega) (by omega) (fun j hj => (f1 j (by omega)).trans (c1 j hj)) (d1.tr dk.ahead) (u2_eq ⟨rfl, rfl⟩) n1 hs ok
      obtain ⟨V', D', e3, c3, d3⟩ := ih W2 E2 (ltR K q n s a) c2 d2 ok2
      refine ⟨V', D', ?_, c3, d3⟩
      unfold b_X8_lots_77
      rw [if_neg (show ¬ nI nn ≤ nI i from nI_ge (by omega) (by omega))]
      simp only [↓eC h, ↓eN h isN35, ↓bd_r, e1]
      refine Eq.trans e2 ?_
      rw [nI_1]
      exact e3
  obtain ⟨V2, D2, e2, c2, d2⟩ := outer nn 0 F V D (x.toInt64, 0, 40) (by omega) (by omega) (fun _ _ => rfl) dk.rf (by show 40 ≤ 40; omega)
  exact ⟨V2, D2, e2, fun j hj => c2 j (by omega), d2, hS.keep (fun i hi => c2 (28 + i) (by omega))⟩
theorem ma_lots {x y z u v : Int32} {B : Nat} {K : SkyT} {s : Nat → Nat} {F M : Nat} {S : Mem} {V : Vw} {U : Uw} (h : shM S M) (hF : 10000 < F) (hw9 : wfK K) (hK : mSky V 0 K) (hS : mS V s) (hs : wfS K B s) (hB : B < 2 ^ 29) : ∃ V' U', fn_X9_lots F M x y z u v (wM S M V U) = some (sp_lots K s x y z u v, wM S M V' U') ∧ mk V V' ∧ mS V' s := by
  have hn6 := hw9.1.1
  unfold fn_X9_lots f_X9_lots_54 sp_lots okLt
  rw [cm_sI h, q_within, bd_r]
  have S1 : mS (u2 V 0 0 0) s := hS.thrown
  have K1 : mSky (u2 V 0 0 0) 0 K := hK.thrown
  have m1 : mk V (u2 V 0 0 0) := mk.thrown
  generalize u2 V 0 0 0 = X at S1 K1 m1 ⊢
  cases hx : inr x 0 9999 with
  | false => exact ⟨X, U, rfl, m1, S1⟩
  | true =>
  show ∃ V' U', (if (1 : Int32) = 0 then _ else _) = _ ∧ _
  rw [if_neg (by decide), q_within, bd_r]
  cases hy : inr y 1 20 with
  | false => exact ⟨X, U, rfl, m1, S1⟩
  | true =>
  show ∃ V' U', (if (1 : Int32) = 0 then _ else _) = _ ∧ _
  rw [if_neg (by decide), q_within, bd_r]
  cases hz : inr z 1 60 with
  | false => exact ⟨X, U, rfl, m1, S1⟩
  | true =>
  show ∃ V' U', (if (1 : Int32) = 0 then _ else _) = _ ∧ _
  rw [if_neg (by decide), q_isHigh, bd_r]
  cases hu : inr u 0 40 with
  | false => exact ⟨X, U, rfl, m1, S1⟩
  | true =>
  show ∃ V' U', (if (1 : Int32) = 0 then _ else _) = _ ∧ _
  rw [if_neg (by decide), q_within, bd_r]
  cases hv : inr v 0 1 with
  | false => exact ⟨X, U, rfl, m1, S1⟩
  | true =>
  show ∃ V' U', (if (1 : Int32) = 0 then _ else _) = some ((if true = true then _ else _), _) ∧ _
  obtain ⟨nn, hnn1, hnn, rfl⟩ := inr_nI (a := 1) (b := 20) (by decide) (by decide) hy
  obtain ⟨n, hn1, hn, rfl⟩ := inr_nI (a := 1) (b := 60) (by decide) (by decide) hz
  obtain ⟨q, -, hq, rfl⟩ := inr_nI (a := 0) (b := 40) (by decide) (by decide) hu
  rw [if_neg (by decide), if_pos rfl, nI_clamp (by omega), nI_clamp (by omega), nI_clamp (by omega)]
  have ej : ∀ {α : Type} (K' : Mem → Option α), (sJ (wM S M X U) 8 50 M x.toInt64).bind K' = K' (wM S M X (u2 U 0 50 x.toInt64)) := fun K' => by simp only [↓eM h]
  rw [ej, cm_s h, cm_aside h]
  have g0 : u2 U 0 50 x.toInt64 0 50 = x.toInt64 := u2_eq ⟨rfl, rfl⟩
  generalize u2 U 0 50 x.toInt64 = U0 at g0 ⊢
  obtain ⟨Y, eY, fY, cY, -⟩ := q_copies_a (F := F) (V0 := X) (U := U0) (oa := 0) (ob := 0) h (by omega) (by omega) (by omega)
  have eY : fn_X9_copies F (M + 24) 0 (M + 25) 0 (wM S M X U0) = some ((), wM S M Y U0) := eY
  rw [eY, bd_r]
  have aY : ∀ j, j < 64 → Y 25 j = nI (s j) := fun j hj => by
    have := cY j hj
    rw [Nat.zero_add] at this
    rw [this]; exact S1 j hj
  have SY : mS Y s := fun j hj => by rw [fY 24 (by omega)]; exact S1 j hj
  have KY : mSky Y 0 K := K1.keep (fun j hj => fY j (by omega))
  have mY : mk V Y := m1.tr ⟨fun j a b => fY j (by omega), by rw [fY 0 (by omega)]⟩
  have inner : ∀ (k85 : Nat → Int32 → Int32 → Int32 → Int32 → Int32 → Int32 → Int32 → Mem → Option (Int32 × Mem)) (x8 : Int32) (d i f : Nat) (W : Vw) (U1 : Uw) (t : Nat → Nat) (a : Int64 × Nat × Nat), i + d = n → d < f → mk V W → mSky W 0 K → mS W t → (∀ j, j < 64 → W 25 j = nI (s j)) → wfS K (B + i) t → U1 0 50 = a.1 → okB a →
      ∃ W' U', fix9 (b_X9_lots_94 F k85) f M (nI nn) (nI n) (nI q) v (nI a.2.1) (nI a.2.2) x8 (nI i) (wM S M W U1) = k85 M (nI nn) (nI n) (nI q) v (nI (ltR K q d t a).2.1) (nI (ltR K q d t a).2.2) (x8 + 1) (wM S M W' U') ∧ mk V W' ∧ mSky W' 0 K ∧ mS W' s ∧ (∀ j, j < 64 → W' 25 j = nI (s j)) ∧ U' 0 50 = (ltR K q d t a).1 ∧ okB (ltR K q d t a) := by
    intro k85 x8 d
    induction d with
    | zero =>
      intro i f W U1 t a hi hf c1 k1 n1 a1 w1 gg ok
      obtain ⟨f, rfl⟩ : ∃ f', f = f' + 1 := ⟨f - 1, by omega⟩
      obtain rfl : i = n := by omega
      obtain ⟨Z, eZ, fZ, cZ, -⟩ := q_copies_b (F := F) (V0 := W) (U := U1) (oa := 0) (ob := 0) h (by omega) (by omega) (by omega)
      have eZ : fn_X9_copies F (M + 25) 0 (M + 24) 0 (wM S M W U1) = some ((), wM S M Z U1) := eZ
      refine ⟨Z, U1, ?_, c1.tr ⟨fun j a b => fZ j (by omega), by rw [fZ 0 (by omega)]⟩, k1.keep (fun j hj => fZ j (by omega)), back_s cZ a1, fun j hj => by rw [fZ 25 (by omega)]; exact a1 j hj, gg, ok⟩
      show b_X9_lots_94 F k85 (fix9 (b_X9_lots_94 F k85) f) M (nI nn) (nI i) (nI q) v (nI a.2.1) (nI a.2.2) x8 (nI i) (wM S M W U1) = _
      unfold b_X9_lots_94
      rw [if_pos (Int32.le_refl _), cm_aside h, cm_s h, eZ, bd_r]
      rfl
    | succ d ih =>
      intro i f W U1 t a hi hf c1 k1 n1 a1 w1 gg ok
      obtain ⟨f, rfl⟩ : ∃ f', f = f' + 1 := ⟨f - 1, by omega⟩
      obtain ⟨g, hg⟩ : ∃ g, nextG a.1 = g := ⟨_, rfl⟩
      obtain ⟨gu, hgu⟩ : ∃ u, gustV K g = u := ⟨_, rfl⟩
      obtain ⟨hh, hhh⟩ : ∃ x, hiG K t gu = x := ⟨_, rfl⟩
      have h40 : hh ≤ 40 := by rw [← hhh]; exact hiG_le
      rw [ltR_s hg hgu hhh]
      have ih := fun W U1 => ih (i + 1) f W U1 (passN K gu t) (g, a.2.1 + (if hh < q then 0 else 1), min a.2.2 hh) (by omega) (by omega)
      show ∃ W' U', b_X9_lots_94 F k85 (fix9 (b_X9_lots_94 F k85) f) M (nI nn) (nI n) (nI q) v (nI a.2.1) (nI a.2.2) x8 (nI i) (wM S M W U1) = _ ∧ _
      generalize fix9 (b_X9_lots_94 F k85) f = k4 at ih ⊢
      have lt6 := w1.lost hw9
      have e0 := q_draws (F := F) (V := W) (U := U1) (K := K) h hw9
      rw [gg, hg, hgu] at e0
      have gg2 : u2 U1 0 50 g 0 50 = g := u2_eq ⟨rfl, rfl⟩
      generalize u2 U1 0 50 g = U2 at e0 gg2
      obtain ⟨W1, e1, f1, f0, g1, p1, r1, r2, r3⟩ := q_looks (F := F) (V := W) (U := U2) (m := t 19) (g := gu) (l := t 18) (len := t) h (by omega) hw9 k1 (n1 18 (by omega)) (by omega) (fun k hk => n1 k (by omega)) (fun k hk => (w1.1 k hk).1)
      have r2 : W1 0 42 = nI hh := by rw [← hhh]; exact r2
      have S4 : mS W1 t := fun j hj => by rw [f1 24 (by omega) (by omega)]; exact n1 j hj
      have K4 : mSky W1 0 K := k1.keep (fun j hj => f1 j (by omega) (by omega))
      obtain ⟨W3, e3, p3, s3⟩ := q_passes (F := F) (V0 := W1) (U := U2) (g := gu) h (by omega) hw9 K4 S4 w1 (by omega)
      have ih := ih W3 U2 ((c1.tr ⟨fun j a b => f1 j a (by omega), f0 1 (by omega) (by omega) (by omega)⟩).tr p3.mk) (p3.sky K4) s3 (fun j hj => by rw [p3.1 25 (by omega) (by omega), f1 25 (by omega) (by omega)]; exact a1 j hj) (wf_pass w1 hw9) gg2 (by unfold okB at ok ⊢; show min a.2.2 _ ≤ 40; omega)
      unfold okB at ok
      generalize ltR K q d (passN K gu t) (g, a.2.1 + (if hh < q then 0 else 1), min a.2.2 hh) = R at ih ⊢
      dsimp only at ih
      unfold b_X9_lots_94 f_X9_lots_143
      rw [if_neg (show ¬ nI n ≤ nI i from nI_ge (by omega) (by omega)), cm_sky h, ca_sky h (inB_l (by omega) (by decide)), show W 2 (3 : Int32).toNatClampNeg = nI (kG K) from k1.1.2.2.2.1, nI_1, cm_cal h, e0, bd_r, cm_s h, ca_s h (inB_l (by omega) (by decide)), show W 24 (19 : Int32).toNatClampNeg = nI (t 19) from n1 19 (by omega), cm_cal h, e1, bd_r, cm_I h, r2]
      have z0 : nI a.2.1 + (0 : Int32) = nI (a.2.1 + 0) := nI_add _ 0
      simp only [↓lt_r, ↓eM h, ↓bd_r, r2, e3, nI_1, z0, mn_nI (show a.2.2 < 2 ^ 31 by omega) (show hh < 2 ^ 31 by omega)]
      by_cases hc : hh < q
      · rw [if_pos (nI_lt hc (by omega))]
        rw [if_pos hc] at ih
        exact ih
      · rw [if_neg (nI_nlt (by omega) (by omega))]
        rw [if_neg hc] at ih
        exact ih
  have outer : ∀ (d i f : Nat) (W : Vw) (U1 : Uw) (a : Int64 × Nat × Nat), i + d = nn → d < f → mk V W → mSky W 0 K → mS W s → (∀ j, j < 64 → W 25 j = nI (s j)) → U1 0 50 = a.1 → okB a →
      ∃ V' U', fix8 (b_X9_lots_85 F) f M (nI nn) (nI n) (nI q) v (nI a.2.1) (nI a.2.2) (nI i) (wM S M W U1) = some ((if v = 0 then nI (lnR K q n s d a).2.1 else nI (lnR K q n s d a).2.2), wM S M V' U') ∧ mk V V' ∧ mS V' s := by
    intro d
    induction d with
    | zero =>
      intro i f W U1 a hi hf c1 k1 n1 a1 gg ok
      obtain ⟨f, rfl⟩ : ∃ f', f = f' + 1 := ⟨f - 1, by omega⟩
      obtain rfl : i = nn := by omega
      refine ⟨W, U1, ?_, c1, n1⟩
      show b_X9_lots_85 F (fix8 (b_X9_lots_85 F) f) M (nI i) (nI n) (nI q) v (nI a.2.1) (nI a.2.2) (nI i) (wM S M W U1) = _
      unfold b_X9_lots_85 f_X9_lots_200
      rw [if_pos (Int32.le_refl _)]
      by_cases h0 : v = 0
      · rw [if_pos h0, if_pos h0]; rfl
      · rw [if_neg h0, if_neg h0]; rfl
    | succ d ih =>
      intro i f W U1 a hi hf c1 k1 n1 a1 gg ok
      obtain ⟨f, rfl⟩ : ∃ f', f = f' + 1 := ⟨f - 1, by omega⟩
      have ih := fun W U1 a => ih (i + 1) f W U1 a (by omega) (by omega)
      show ∃ V' U', b_X9_lots_85 F (fix8 (b_X9_lots_85 F) f) M (nI nn) (nI n) (nI q) v (nI a.2.1) (nI a.2.2) (nI i) (wM S M W U1) = some ((if v = 0 then nI (lnR K q n s d (ltR K q n s a)).2.1 else nI (lnR K q n s d (ltR K q n s a)).2.2), _) ∧ _
      generalize fix8 (b_X9_lots_85 F) f = k85 at ih ⊢
      obtain ⟨W2, U2, e2, c2, k2, s2, a2, gg2, ok2⟩ := inner k85 (nI i) n 0 F W U1 s a (by omega) (by omega) c1 k1 n1 a1 hs gg ok
      obtain ⟨V', U', e3, c3, d3⟩ := ih W2 U2 (ltR K q n s a) c2 k2 s2 a2 gg2 ok2
      refine ⟨V', U', ?_, c3, d3⟩
      unfold b_X9_lots_85
      rw [if_neg (show ¬ nI nn ≤ nI i from nI_ge (by omega) (by omega))]
      refine Eq.trans e2 ?_
      rw [nI_1]
      exact e3
  exact outer nn 0 F Y U0 (x.toInt64, 0, 40) (by omega) (by omega) mY KY SY aY g0 (by show 40 ≤ 40; omega)
