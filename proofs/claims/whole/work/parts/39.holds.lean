/-! holds -/
def distN (a b : Nat) : Nat := (a - b) + (b - a)
def awayK (K : SkyT) (l : Nat) (w len : Nat → Nat) (p q : Nat) : Nat := distN (placeN K l w len) p + distN (highN K l w len) q
theorem high_le {K : SkyT} {l : Nat} {w len : Nat → Nat} : highN K l w len ≤ 40 := Nat.le_trans (Nat.sub_le _ _) (rawG_le 40)
theorem place_le {K : SkyT} {l : Nat} {w len : Nat → Nat} (hw9 : wfK K) (hw : ∀ i, w i ≤ 99) : placeN K l w len ≤ 235243 := by
  have hn6 := hw9.1.1
  have h1 : momP (kN K) (plN K l w len) len (wi K) (rawN K l w len) ≤ kN K * 39204 := sumTo_le (fun k hk => by
    split
    · have : plN K l w len k * wi K k ≤ 396 * 99 := Nat.mul_le_mul (plN_le hw9 hw hk) (hw9.2 k hk).2.1
      omega
    · omega)
  have h2 := Nat.div_le_self (momP (kN K) (plN K l w len) len (wi K) (rawN K l w len)) (pulledP (kN K) (plN K l w len) len (rawN K l w len))
  have h3 := hw (highN K l w len)
  unfold placeN
  omega
theorem q_away {a b : Nat} {F : Nat} {S : Mem} (ha : a < 2 ^ 31) (hb : b < 2 ^ 31) : fn_X9_away F (nI a) (nI b) S = some (nI (distN a b), S) := by
  unfold fn_X9_away f_X9_away_14 distN
  by_cases h1 : b ≤ a
  · rw [if_pos (nI_le h1 ha), pk_sub h1, show a - b + (b - a) = a - b by omega]
  · rw [if_neg (nI_ge (by omega) hb), pk_sub (by omega), show a - b + (b - a) = b - a by omega]
theorem ab_sub {a b : Nat} (ha : a < 2 ^ 30) (hb : b < 2 ^ 30) : abI (nI a - nI b) = nI (distN a b) := by
  unfold abI distN
  by_cases h1 : b ≤ a
  · rw [pk_sub h1, if_pos (nI_pos' (by omega)), show a - b + (b - a) = a - b by omega]
  · have hn : nI a - nI b < 0 := pk_sneg hb (by omega)
    rw [if_neg (Int32.not_le.mpr hn), show a - b + (b - a) = b - a by omega, ← pk_sub (show a ≤ b by omega)]
    rw [Int32.zero_sub, Int32.neg_sub]
theorem q_awayNow {l p q : Nat} {K : SkyT} {w len : Nat → Nat} {F M : Nat} {S : Mem} {V0 : Vw} {U : Uw} (h : shM S M) (hF : 60 < F) (hw9 : wfK K) (hK : mSky V0 0 K) (hl : V0 24 18 = nI l) (hl2 : l < 2 ^ 31) (hs : ∀ k, k < kN K → V0 24 k = nI (len k)) (hs4 : ∀ k, k < kN K → len k ≤ 40) (hw : ∀ i, i < 41 → V0 27 i = nI (w i)) (hw2 : ∀ i, w i ≤ 99) (h45 : V0 0 45 = nI p) (h46 : V0 0 46 = nI q) (hp : p < 2 ^ 31) (hq : q < 2 ^ 31) :
    ∃ V', fn_X9_awayNow F M (wM S M V0 U) = some (nI (awayK K l w len p q), wM S M V' U) ∧ (∀ j, j ≠ 0 → j ≠ 28 → V' j = V0 j) ∧ (∀ j, j ≠ 41 → j ≠ 42 → j ≠ 43 → V' 0 j = V0 0 j) := by
  obtain ⟨V1, e1, f1, f0, p1, r1, r2, r3⟩ := q_hangs (F := F) (U := U) h hF hw9 hK hl hl2 hs hs4 hw hw2
  refine ⟨V1, ?_, f1, f0⟩
  have hpl := place_le (l := l) (w := w) (len := len) hw9 hw2
  have hhi := high_le (K := K) (l := l) (w := w) (len := len)
  have g45 : V1 0 45 = nI p := (f0 45 (by omega) (by omega) (by omega)).trans h45
  have g46 : V1 0 46 = nI q := (f0 46 (by omega) (by omega) (by omega)).trans h46
  unfold fn_X9_awayNow awayK
  simp (disch := first | assumption | exact inB_n (by omega) (by decide) | exact inB_l (by omega) (by decide) | exact inB_al (by omega) (by decide) | exact inB_la (by omega) (by decide) | exact inB_j (by assumption) (by omega) (by decide) | exact inB_e (by assumption) (by decide) | omega) only [↓eM h, ↓bd_r, ↓lt_r, ↓Option.bind_some, ↓reduceIte, ix_nI, ix_l, nI_al, nI_la, nI_lm, u2_ne, u2_eq, nI_leI, nI_ltI, nI_eq, le_ln, le_nl, lt_ln, lt_nl, eq_nl, eq_ln, e1, r2, r3, g45, g46, q_away (show placeN K l w len < 2 ^ 31 by omega) hp, q_away (show highN K l w len < 2 ^ 31 by omega) hq, nI_add]
def holdN (K : SkyT) (p q a : Nat) : Nat → Nat → (Nat → Nat) → Int32
  | 0, _, _ => -1
  | d + 1, t, s => if a < awayK K (s 18) (wR K (s 19) 0) s p q then nI t else holdN K p q a d (t + 1) (passN K 0 s)
def okHo (x y z w : Int32) : Bool := (inr x 0 999 && inr y 0 40) && inr z 0 999 && inr w 1 240
def sp_holds (K : SkyT) (s : Nat → Nat) (x y z w : Int32) : Int32 := if okHo x y z w = true then holdN K x.toNatClampNeg y.toNatClampNeg z.toNatClampNeg w.toNatClampNeg 0 s else -2
theorem ca_holds {x y z w : Int32} {B b : Nat} {K : SkyT} {s : Nat → Nat} {F C : Nat} {S : Mem} {V : Vw} {U : Uw} {D : Dw} (h : shC S C) (hF : 10000 < F) (hw9 : wfK K) (hK : cSky S C b K) (hb : D 28 0 = b) (hS : cNt V 28 K s) (hs : wfS K B s) (hB : B < 2 ^ 29) : ∃ V' D', fn_X8_holds F C x y z w (wC S C V U D) = some (sp_holds K s x y z w, wC S C V' U D') ∧ ck V V' ∧ dk D D' ∧ cNt V' 28 K s := by
  have hn6 := hw9.1.1
  unfold fn_X8_holds f_X8_holds_31 sp_holds okHo
  rw [c_isSpot, bd_r]
  cases hxy : (inr x 0 999 && inr y 0 40) with
  | false => exact ⟨V, D, rfl, ck.rf, dk.rf, hS⟩
  | true =>
  show ∃ V' D', (if (1 : Int32) = 0 then _ else _) = _ ∧ _
  rw [if_neg (by decide), c_within, bd_r]
  cases hz : inr z 0 999 with
  | false => exact ⟨V, D, rfl, ck.rf, dk.rf, hS⟩
  | true =>
  show ∃ V' D', (if (1 : Int32) = 0 then _ else _) = _ ∧ _
  rw [if_neg (by decide), c_within, bd_r]
  cases hw : inr w 1 240 with
  | false => exact ⟨V, D, rfl, ck.rf, dk.rf, hS⟩
  | true =>
  show ∃ V' D', (if (1 : Int32) = 0 then _ else _) = some ((if true = true then _ else _), _) ∧ _
  rw [Bool.and_eq_true] at hxy
  obtain ⟨p, -, hp, rfl⟩ := inr_nI (a := 0) (b := 999) (by decide) (by decide) hxy.1
  obtain ⟨q, -, hq, rfl⟩ := inr_nI (a := 0) (b := 40) (by decide) (by decide) hxy.2
  obtain ⟨a, -, ha, rfl⟩ := inr_nI (a := 0) (b := 999) (by decide) (by decide) hz
  obtain ⟨n, hn1, hn, rfl⟩ := inr_nI (a := 1) (b := 240) (by decide) (by decide) hw
  rw [if_neg (by decide), if_pos rfl, nI_clamp (by omega), nI_clamp (by omega), nI_clamp (by omega), nI_clamp (by omega)]
  obtain ⟨V1, e1, f1, n1⟩ := c_take (F := F) (U := U) (D := D) (s := s) h isN35 isN28 (by decide) hw9 hS hs.2.2.2.1
  rw [hb] at e1
  have key : ∀ (d i f : Nat) (W : Vw) (E : Dw) (t : Nat → Nat), i + d = n → d < f → (∀ j, j < 14 ∨ (27 < j ∧ j < 35) ∨ 41 < j → W j = V j) → dk D E → E 35 0 = b → cNt W 35 K t → wfS K (B + i) t →
      ∃ V' D', fix6 (b_X8_holds_48 F) f C (nI p) (nI q) (nI a) (nI n) (nI i) (wC S C W U E) = some (holdN K p q a d i t, wC S C V' U D') ∧ (∀ j, j < 14 ∨ (27 < j ∧ j < 35) ∨ 41 < j → V' j = V j) ∧ dk D D' := by
    intro d
    induction d with
    | zero =>
      intro i f W E t hi hf c1 d1 b1 n1 w1
      obtain ⟨f, rfl⟩ : ∃ f', f = f' + 1 := ⟨f - 1, by omega⟩
      obtain rfl : i = n := by omega
      refine ⟨W, E, ?_, c1, d1⟩
      show b_X8_holds_48 F (fix6 (b_X8_holds_48 F) f) C (nI p) (nI q) (nI a) (nI i) (nI i) (wC S C W U E) = _
      unfold b_X8_holds_48
      rw [if_pos (Int32.le_refl _)]
      rfl
    | succ d ih =>
      intro i f W E t hi hf c1 d1 b1 n1 w1
      obtain ⟨f, rfl⟩ : ∃ f', f = f' + 1 := ⟨f - 1, by omega⟩
      have ih := fun W E => ih (i + 1) f W E (passN K 0 t) (by omega) (by omega)
      show ∃ V' D', b_X8_holds_48 F (fix6 (b_X8_holds_48 F) f) C (nI p) (nI q) (nI a) (nI n) (nI i) (wC S C W U E) = _ ∧ _
      generalize fix6 (b_X8_holds_48 F) f = k4 at ih ⊢
      have lt6 := w1.lost hw9
      obtain ⟨W1, e1, f1, l1⟩ := c_look (F := F) (U := U) (m := t 19) (g := 0) (l := t 18) (len := t) h isN35 (by omega) hw9 hK b1 lt6 n1.2.1 (fun k hk => (n1.2.2.2.1 k hk).1) (fun k hk => (w1.1 k hk).1)
      have hpl := place_le (l := t 18) (w := wR K (t 19) 0) (len := t) hw9 (wR_le K (t 19) 0)
      have hhi := high_le (K := K) (l := t 18) (w := wR K (t 19) 0) (len := t)
      have n2 : cNt W1 35 K t := n1.keep (fun i hi => f1 (35 + i) (by omega))
      have b2 : (u2 E 14 7 b) 35 0 = b := by rw [u2_ne (by omega)]; exact b1
      obtain ⟨W2, e2, f2, n3⟩ := c_pass (F := F) (U := U) (D := u2 E 14 7 b) (g := 0) h isN35 (by omega) hw9 hK b2 n2 w1 (by omega) (fun _ => l1)
      have ed : fn_X8_distance F (nI (placeN K (t 18) (wR K (t 19) 0) t)) (nI (highN K (t 18) (wR K (t 19) 0) t)) (nI p) (nI q) (wC S C W1 U (u2 E 14 7 b)) = some (nI (awayK K (t 18) (wR K (t 19) 0) t p q), wC S C W1 U (u2 E 14 7 b)) := by
        unfold fn_X8_distance awayK
        rw [ab_sub (by omega) (by omega), ab_sub (by omega) (by omega), nI_add]
      have hab : awayK K (t 18) (wR K (t 19) 0) t p q < 2 ^ 31 := by unfold awayK distN; omega
      unfold b_X8_holds_48
      rw [if_neg (show ¬ nI n ≤ nI i from nI_ge (by omega) (by omega))]
      simp only [↓eC h, ↓eN h isN35, ↓bd_r, n1.1, e1, l1.2.2.1, l1.2.2.2, ed, e2, nI_1]
      have eh : holdN K p q a (d + 1) i t = if a < awayK K (t 18) (wR K (t 19) 0) t p q then nI i else holdN K p q a d (i + 1) (passN K 0 t) := rfl
      rw [eh]
      by_cases hc : a < awayK K (t 18) (wR K (t 19) 0) t p q
      · rw [if_pos hc, if_neg (show ¬ nI _ ≤ nI a from nI_ge hc hab)]
        exact ⟨W1, _, rfl, fun j hj => (f1 j (by omega)).trans (c1 j hj), d1.tr dk.air⟩
      · rw [if_neg hc, if_pos (nI_le (by omega) (by omega))]
        exact ih W2 _ (fun j hj => (f2 j (by omega) (by omega) (by omega)).trans ((f1 j (by omega)).trans (c1 j hj))) (d1.tr dk.air) b2 n3 (wf_pass w1 hw9)
  obtain ⟨V2, D2, e2, c2, d2⟩ := key n 0 F V1 (u2 D 35 0 b) s (by omega) (by omega) (fun j hj => f1 j (by omega)) dk.ahead (u2_eq ⟨rfl, rfl⟩) n1 hs
  refine ⟨V2, D2, ?_, fun j hj => c2 j (by omega), d2, hS.keep (fun i hi => c2 (28 + i) (by omega))⟩
  simp only [↓eC h, ↓eN h isN35, ↓bd_r, e1]
  exact e2
/-- the night laid aside comes back -/
theorem back_s {V V' : Vw} {s : Nat → Nat} (e : ∀ k, k < 64 → V' 24 (0 + k) = V 25 (0 + k)) (h : ∀ j, j < 64 → V 25 j = nI (s j)) : mS V' s := fun j hj => by
  have := e j hj
  rw [Nat.zero_add] at this
  rw [this]; exact h j hj
theorem ma_holds {x y z w : Int32} {B : Nat} {K : SkyT} {s : Nat → Nat} {F M : Nat} {S : Mem} {V : Vw} {U : Uw} (h : shM S M) (hF : 10000 < F) (hw9 : wfK K) (hK : mSky V 0 K) (hS : mS V s) (hs : wfS K B s) (hB : B < 2 ^ 29) : ∃ V' U', fn_X9_holds F M x y z w (wM S M V U) = some (sp_holds K s x y z w, wM S M V' U') ∧ mk V V' ∧ mS V' s := by
  have hn6 := hw9.1.1
  unfold fn_X9_holds f_X9_holds_36 sp_holds okHo
  rw [cm_sI h, q_isWanted, bd_r]
  have S1 : mS (u2 V 0 0 0) s := hS.thrown
  have K1 : mSky (u2 V 0 0 0) 0 K := hK.thrown
  have m1 : mk V (u2 V 0 0 0) := mk.thrown
  generalize u2 V 0 0 0 = W at S1 K1 m1 ⊢
  cases hxy : (inr x 0 999 && inr y 0 40) with
  | false => exact ⟨W, U, rfl, m1, S1⟩
  | true =>
  show ∃ V' U', (if (1 : Int32) = 0 then _ else _) = _ ∧ _
  rw [if_neg (by decide), q_within, bd_r]
  cases hz : inr z 0 999 with
  | false => exact ⟨W, U, rfl, m1, S1⟩
  | true =>
  show ∃ V' U', (if (1 : Int32) = 0 then _ else _) = _ ∧ _
  rw [if_neg (by decide), q_within, bd_r]
  cases hw : inr w 1 240 with
  | false => exact ⟨W, U, rfl, m1, S1⟩
  | true =>
  show ∃ V' U', (if (1 : Int32) = 0 then _ else _) = some ((if true = true then _ else _), _) ∧ _
  rw [Bool.and_eq_true] at hxy
  obtain ⟨p, -, hp, rfl⟩ := inr_nI (a := 0) (b := 999) (by decide) (by decide) hxy.1
  obtain ⟨q, -, hq, rfl⟩ := inr_nI (a := 0) (b := 40) (by decide) (by decide) hxy.2
  obtain ⟨a, -, ha, rfl⟩ := inr_nI (a := 0) (b := 999) (by decide) (by decide) hz
  obtain ⟨n, hn1, hn, rfl⟩ := inr_nI (a := 1) (b := 240) (by decide) (by decide) hw
  rw [if_neg (by decide), if_pos rfl, nI_clamp (by omega), nI_clamp (by omega), nI_clamp (by omega), nI_clamp (by omega), cm_sI h, cm_sI h, cm_s h, cm_aside h]
  have S2 : mS (u2 (u2 W 0 45 (nI p)) 0 46 (nI q)) s := S1.thrown.thrown
  have K2 : mSky (u2 (u2 W 0 45 (nI p)) 0 46 (nI q)) 0 K := K1.thrown.thrown
  have m2 : mk V (u2 (u2 W 0 45 (nI p)) 0 46 (nI q)) := m1.tr ⟨fun j a b => by rw [u2_row a, u2_row a], by rw [u2_ne (by omega), u2_ne (by omega)]⟩
  have x45 : (u2 (u2 W 0 45 (nI p)) 0 46 (nI q)) 0 45 = nI p := by rw [u2_ne (by omega), u2_eq ⟨rfl, rfl⟩]
  have x46 : (u2 (u2 W 0 45 (nI p)) 0 46 (nI q)) 0 46 = nI q := u2_eq ⟨rfl, rfl⟩
  generalize u2 (u2 W 0 45 (nI p)) 0 46 (nI q) = X at S2 K2 m2 x45 x46 ⊢
  obtain ⟨Y, eY, fY, cY, -⟩ := q_copies_a (F := F) (V0 := X) (U := U) (oa := 0) (ob := 0) h (by omega) (by omega) (by omega)
  have eY : fn_X9_copies F (M + 24) 0 (M + 25) 0 (wM S M X U) = some ((), wM S M Y U) := eY
  rw [eY, bd_r]
  have aY : ∀ j, j < 64 → Y 25 j = nI (s j) := fun j hj => by
    have := cY j hj
    rw [Nat.zero_add] at this
    rw [this]; exact S2 j hj
  have SY : mS Y s := fun j hj => by rw [fY 24 (by omega)]; exact S2 j hj
  have KY : mSky Y 0 K := K2.keep (fun j hj => fY j (by omega))
  have mY : mk V Y := m2.tr ⟨fun j a b => fY j (by omega), by rw [fY 0 (by omega)]⟩
  have y45 : Y 0 45 = nI p := by rw [fY 0 (by omega)]; exact x45
  have y46 : Y 0 46 = nI q := by rw [fY 0 (by omega)]; exact x46
  have fin : ∀ (r : Int32) (W : Vw), mk V W → (∀ j, j < 64 → W 25 j = nI (s j)) → ∃ V' U', f_X9_holds_115 F M r (wM S M W U) = some (r, wM S M V' U') ∧ mk V V' ∧ mS V' s := by
    intro r W mW aW
    obtain ⟨Z, eZ, fZ, cZ, -⟩ := q_copies_b (F := F) (V0 := W) (U := U) (oa := 0) (ob := 0) h (by omega) (by omega) (by omega)
    have eZ : fn_X9_copies F (M + 25) 0 (M + 24) 0 (wM S M W U) = some ((), wM S M Z U) := eZ
    refine ⟨Z, U, ?_, mW.tr ⟨fun j a b => fZ j (by omega), by rw [fZ 0 (by omega)]⟩, back_s cZ aW⟩
    unfold f_X9_holds_115
    rw [cm_aside h, cm_s h, eZ, bd_r]
  have key : ∀ (d i f : Nat) (W : Vw) (t : Nat → Nat), i + d = n → d < f → mk V W → mSky W 0 K → mS W t → (∀ j, j < 64 → W 25 j = nI (s j)) → W 0 45 = nI p → W 0 46 = nI q → wfS K (B + i) t →
      ∃ V' U', fix5 (b_X9_holds_68 F) f M (nI a) (nI n) (-1) (nI i) (wM S M W U) = some (holdN K p q a d i t, wM S M V' U') ∧ mk V V' ∧ mS V' s := by
    intro d
    induction d with
    | zero =>
      intro i f W t hi hf c1 k1 n1 a1 z45 z46 w1
      obtain ⟨f, rfl⟩ : ∃ f', f = f' + 1 := ⟨f - 1, by omega⟩
      obtain rfl : i = n := by omega
      show ∃ V' U', b_X9_holds_68 F (fix5 (b_X9_holds_68 F) f) M (nI a) (nI i) (-1) (nI i) (wM S M W U) = _ ∧ _
      unfold b_X9_holds_68
      rw [if_pos (Int32.le_refl _)]
      exact fin (-1) W c1 a1
    | succ d ih =>
      intro i f W t hi hf c1 k1 n1 a1 z45 z46 w1
      obtain ⟨f, rfl⟩ : ∃ f', f = f' + 1 := ⟨f - 1, by omega⟩
      have ih := fun W => ih (i + 1) f W (passN K 0 t) (by omega) (by omega)
      show ∃ V' U', b_X9_holds_68 F (fix5 (b_X9_holds_68 F) f) M (nI a) (nI n) (-1) (nI i) (wM S M W U) = _ ∧ _
      have fd : d < f := by omega
      have lt6 := w1.lost hw9
      obtain ⟨W1, e1, f1, g1⟩ := q_blows (F := F) (V0 := W) (U := U) (m := t 19) (g := 0) h (by omega) k1
      have S3 : mS W1 t := fun j hj => by rw [f1 24 (by omega)]; exact n1 j hj
      have K3 : mSky W1 0 K := k1.keep (fun j hj => f1 j (by omega))
      obtain ⟨W2, e2, f2, f20⟩ := q_awayNow (F := F) (V0 := W1) (U := U) (l := t 18) (len := t) (w := wR K (t 19) 0) h (by omega) hw9 K3 (S3 18 (by omega)) (by omega) (fun k hk => S3 k (by omega)) (fun k hk => (w1.1 k hk).1) g1 (wR_le K (t 19) 0) (by rw [f1 0 (by omega)]; exact z45) (by rw [f1 0 (by omega)]; exact z46) (by omega) (by omega)
      have S4 : mS W2 t := fun j hj => by rw [f2 24 (by omega) (by omega)]; exact S3 j hj
      have K4 : mSky W2 0 K := K3.keep (fun j hj => f2 j (by omega) (by omega))
      obtain ⟨W3, e3, p3, s3⟩ := q_passes (F := F) (V0 := W2) (U := U) (g := 0) h (by omega) hw9 K4 S4 w1 (by omega)
      have m3 : mk V W3 := (c1.tr ⟨fun j a b => (f2 j a (by omega)).trans (f1 j (by omega)), (f20 1 (by omega) (by omega) (by omega)).trans (by rw [f1 0 (by omega)])⟩).tr p3.mk
      have a3 : ∀ j, j < 64 → W3 25 j = nI (s j) := fun j hj => by rw [p3.1 25 (by omega) (by omega), f2 25 (by omega) (by omega), f1 25 (by omega)]; exact a1 j hj
      have z45' : W3 0 45 = nI p := by rw [p3.2 45 (by omega) (by omega) (by omega), f20 45 (by omega) (by omega) (by omega), f1 0 (by omega)]; exact z45
      have z46' : W3 0 46 = nI q := by rw [p3.2 46 (by omega) (by omega) (by omega), f20 46 (by omega) (by omega) (by omega), f1 0 (by omega)]; exact z46
      have hpl := place_le (l := t 18) (w := wR K (t 19) 0) (len := t) hw9 (wR_le K (t 19) 0)
      have hhi := high_le (K := K) (l := t 18) (w := wR K (t 19) 0) (len := t)
      have hab : awayK K (t 18) (wR K (t 19) 0) t p q < 2 ^ 31 := by unfold awayK distN; omega
      have eh : holdN K p q a (d + 1) i t = if a < awayK K (t 18) (wR K (t 19) 0) t p q then nI i else holdN K p q a d (i + 1) (passN K 0 t) := rfl
      rw [eh]
      have hd : b_X9_holds_68 F (fix5 (b_X9_holds_68 F) f) M (nI a) (nI n) (-1) (nI i) (wM S M W U) = if nI (awayK K (t 18) (wR K (t 19) 0) t p q) ≤ nI a then fix5 (b_X9_holds_68 F) f M (nI a) (nI n) (-1) (nI (i + 1)) (wM S M W3 U) else fix5 (b_X9_holds_68 F) f M (nI a) (nI n) (nI i) (nI (i + 1)) (wM S M W3 U) := by
        generalize fix5 (b_X9_holds_68 F) f = k4
        unfold b_X9_holds_68 f_X9_holds_104
        rw [if_neg (show ¬ nI n ≤ nI i from nI_ge (by omega) (by omega)), if_neg (by decide), cm_s h, ca_s h (inB_l (by omega) (by decide)), show W 24 (19 : Int32).toNatClampNeg = nI (t 19) from n1 19 (by omega), cm_cal h, e1, bd_r, cm_cal h, e2, bd_r, cm_cal h, e3, bd_r, nI_1, cm_cal h, bd_r]
      rw [hd]
      by_cases hc : a < awayK K (t 18) (wR K (t 19) 0) t p q
      · rw [if_pos hc, if_neg (show ¬ nI _ ≤ nI a from nI_ge hc hab)]
        obtain ⟨f, rfl⟩ : ∃ f', f = f' + 1 := ⟨f - 1, by omega⟩
        show ∃ V' U', b_X9_holds_68 F (fix5 (b_X9_holds_68 F) f) M (nI a) (nI n) (nI i) (nI (i + 1)) (wM S M W3 U) = _ ∧ _
        unfold b_X9_holds_68
        rw [if_pos (nI_pos' (by omega)), ite_self]
        exact fin (nI i) W3 m3 a3
      · rw [if_neg hc, if_pos (nI_le (by omega) (by omega))]
        exact ih W3 m3 (p3.sky K4) s3 a3 z45' z46' (wf_pass w1 hw9)
  exact key n 0 F Y s (by omega) (by omega) mY KY SY aY y45 y46 hs
