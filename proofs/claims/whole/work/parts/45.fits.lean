/-! fits, fit: the model -/
def noteOk (K : SkyT) (s : Nat → Nat) (set i : Nat) : Bool := decide (placeN K set (wR K (s (21 + 3 * i)) 0) s = s (21 + 3 * i + 1)) && decide (highN K set (wR K (s (21 + 3 * i)) 0) s = s (21 + 3 * i + 2))
def soR (K : SkyT) (s : Nat → Nat) (set : Nat) : Nat → Bool
  | 0 => true
  | c + 1 => soR K s set c && noteOk K s set c
theorem soR_false {K : SkyT} {s : Nat → Nat} {set i : Nat} : ∀ {c : Nat}, i < c → noteOk K s set i = false → soR K s set c = false
  | c + 1, h, hn => by
    unfold soR
    by_cases hi : i = c
    · subst hi; rw [hn, Bool.and_false]
    · rw [soR_false (c := c) (by omega) hn, Bool.false_and]
theorem q_isSo {set B : Nat} {K : SkyT} {s : Nat → Nat} {F M : Nat} {S : Mem} {V : Vw} {U : Uw} (h : shM S M) (hF : 10000 < F) (hw9 : wfK K) (hK : mSky V 0 K) (hS : mS V s) (hs : wfS K B s) (hset : set < 64) :
    ∃ V', fn_X9_isSo F M (nI set) (wM S M V U) = some (b1 (soR K s set (s 20)), wM S M V' U) ∧ kp V V' ∧ mS V' s := by
  have hn6 := hw9.1.1
  have h20 := hs.2.2.2.1
  have hl6 := hs.lost hw9
  have row : ∀ W : Vw, (∀ j, j ≠ 18 → j < 64 → W 24 j = nI (s j)) → mS (u2 W 24 18 (nI (s 18))) s := fun W hW j hj => by
    by_cases h8 : j = 18
    · subst h8; rw [u2_eq ⟨rfl, rfl⟩]
    · rw [u2_ne (Or.inr h8)]; exact hW j h8 hj
  have fin : ∀ (c : Bool) (W : Vw), kp V W → (∀ j, j ≠ 18 → j < 64 → W 24 j = nI (s j)) → ∃ V', f_X9_isSo_108 F M (nI (s 18)) (b1 c) (wM S M W U) = some (b1 c, wM S M V' U) ∧ kp V V' ∧ mS V' s := by
    intro c W kW hW
    refine ⟨u2 W 24 18 (nI (s 18)), ?_, kW.tr ⟨fun j a b => u2_row (by omega), fun j a b c => u2_ne (by omega)⟩, row W hW⟩
    unfold f_X9_isSo_108
    simp (disch := first | assumption | exact inB_n (by omega) (by decide) | exact inB_l (by omega) (by decide) | exact inB_al (by omega) (by decide) | exact inB_la (by omega) (by decide) | exact inB_j (by assumption) (by omega) (by decide) | exact inB_e (by assumption) (by decide) | omega) only [↓eM h, ↓bd_r, ↓lt_r, ↓Option.bind_some, ↓reduceIte, ix_nI, ix_l, nI_al, nI_la, nI_lm, u2_ne, u2_eq, nI_leI, nI_ltI, nI_eq, le_ln, le_nl, lt_ln, lt_nl, eq_nl, eq_ln, rz_b1]
  have key : ∀ (d i f : Nat) (W : Vw), i + d = s 20 → d < f → kp V W → (∀ j, j ≠ 18 → j < 64 → W 24 j = nI (s j)) → W 24 18 = nI set → soR K s set i = true →
      ∃ V', fix4 (b_X9_isSo_21 F) f M (nI (s 18)) 1 (nI i) (wM S M W U) = some (b1 (soR K s set (s 20)), wM S M V' U) ∧ kp V V' ∧ mS V' s := by
    intro d
    induction d with
    | zero =>
      intro i f W hi hf kW hW w18 so
      obtain ⟨f, rfl⟩ : ∃ f', f = f' + 1 := ⟨f - 1, by omega⟩
      obtain rfl : i = s 20 := by omega
      show ∃ V', b_X9_isSo_21 F (fix4 (b_X9_isSo_21 F) f) M (nI (s 18)) 1 (nI (s 20)) (wM S M W U) = _ ∧ _
      unfold b_X9_isSo_21
      rw [cm_s h, ca_s h (inB_l (by omega) (by decide)), show W 24 (20 : Int32).toNatClampNeg = nI (s 20) from hW 20 (by omega) (by omega), if_pos (Int32.le_refl _), so]
      exact fin true W kW hW
    | succ d ih =>
      intro i f W hi hf kW hW w18 so
      obtain ⟨f, rfl⟩ : ∃ f', f = f' + 1 := ⟨f - 1, by omega⟩
      have ih := fun W => ih (i + 1) f W (by omega) (by omega)
      obtain ⟨hn1, hn2, hn3⟩ := hs.2.2.2.2 i (by omega)
      obtain ⟨W1, e1, f1, f0, g1, p1, r1, r2, r3⟩ := q_looks (F := F) (V := W) (U := U) (m := s (21 + 3 * i)) (g := 0) (l := set) (len := s) h (by omega) hw9 (kW.sky hK) w18 (by omega) (fun k hk => hW k (by omega) (by omega)) (fun k hk => (hs.1 k hk).1)
      have hpl := place_le2 (l := set) (w := wR K (s (21 + 3 * i)) 0) (len := s) hw9 (wR_le _ _ _)
      have hhi := high_le (K := K) (l := set) (w := wR K (s (21 + 3 * i)) 0) (len := s)
      have k1 : kp V W1 := kW.tr ⟨fun j a b => f1 j a (by omega), f0⟩
      have h1 : ∀ j, j ≠ 18 → j < 64 → W1 24 j = nI (s j) := fun j a b => by rw [f1 24 (by omega) (by omega)]; exact hW j a b
      have w1 : W1 24 18 = nI set := by rw [f1 24 (by omega) (by omega)]; exact w18
      have ea : (21 : Int32) + 3 * nI i = nI (21 + 3 * i) := by rw [nI_lm, nI_al]
      have eb : nI (21 + 3 * i) + 1 = nI (21 + 3 * i + 1) := nI_1 _
      have ec : nI (21 + 3 * i) + 2 = nI (21 + 3 * i + 2) := nI_add _ 2
      have hd : b_X9_isSo_21 F (fix4 (b_X9_isSo_21 F) f) M (nI (s 18)) 1 (nI i) (wM S M W U) = fix4 (b_X9_isSo_21 F) f M (nI (s 18)) (b1 (noteOk K s set i)) (nI (i + 1)) (wM S M W1 U) := by
        generalize fix4 (b_X9_isSo_21 F) f = k4
        unfold b_X9_isSo_21 f_X9_isSo_100 f_X9_isSo_101 noteOk
        rw [cm_s h, ca_s h (inB_l (by omega) (by decide)), show W 24 (20 : Int32).toNatClampNeg = nI (s 20) from hW 20 (by omega) (by omega), if_neg (show ¬ nI (s 20) ≤ nI i from nI_ge (by omega) (by omega)), if_neg (by decide), ea, eb, ec, cm_s h, cn_s h (by omega), hW (21 + 3 * i) (by omega) (by omega), cm_cal h, e1, bd_r, cm_I h, r3, cm_s h, cn_s h (by omega), h1 _ (by omega) (by omega), nI_1]
        by_cases hp : placeN K set (wR K (s (21 + 3 * i)) 0) s = s (21 + 3 * i + 1)
        · rw [if_pos (by rw [hp]), cm_I h, r2, cm_s h, cn_s h (by omega), h1 _ (by omega) (by omega), decide_eq_true hp]
          by_cases hq : highN K set (wR K (s (21 + 3 * i)) 0) s = s (21 + 3 * i + 2)
          · rw [if_pos (by rw [hq]), decide_eq_true hq]; rfl
          · rw [if_neg (fun z => hq ((nI_eq (by omega) (by omega)).mp z)), decide_eq_false hq]; rfl
        · rw [if_neg (fun z => hp ((nI_eq (by omega) (by omega)).mp z)), decide_eq_false hp, Bool.false_and]; rfl
      show ∃ V', b_X9_isSo_21 F (fix4 (b_X9_isSo_21 F) f) M (nI (s 18)) 1 (nI i) (wM S M W U) = _ ∧ _
      rw [hd]
      cases hno : noteOk K s set i with
      | true => exact ih W1 k1 h1 w1 (by show (soR K s set i && noteOk K s set i) = true; rw [so, hno]; rfl)
      | false =>
        rw [soR_false (show i < s 20 by omega) hno]
        obtain ⟨f, rfl⟩ : ∃ f', f = f' + 1 := ⟨f - 1, by omega⟩
        show ∃ V', b_X9_isSo_21 F (fix4 (b_X9_isSo_21 F) f) M (nI (s 18)) 0 (nI (i + 1)) (wM S M W1 U) = _ ∧ _
        unfold b_X9_isSo_21
        rw [cm_s h, ca_s h (inB_l (by omega) (by decide)), if_pos rfl, ite_self]
        exact fin false W1 k1 h1
  obtain ⟨V1, e1, k1, s1⟩ := key (s 20) 0 F (u2 V 24 18 (nI set)) (by omega) (by omega) ⟨fun j a b => u2_row (by omega), fun j a b c => u2_ne (by omega)⟩ (fun j a b => by rw [u2_ne (Or.inr a)]; exact hS j b) (u2_eq ⟨rfl, rfl⟩) rfl
  refine ⟨V1, ?_, k1, s1⟩
  unfold fn_X9_isSo
  rw [cm_s h, ca_s h (inB_l (by omega) (by decide)), show V 24 (18 : Int32).toNatClampNeg = nI (s 18) from hS 18 (by omega), cm_s h]
  have es : ∀ {α : Type} (K' : Mem → Option α), (sA (wM S M V U) (M + 24) 18 (nI set)).bind K' = K' (wM S M (u2 V 24 18 (nI set)) U) := fun K' => by
    simp (disch := first | assumption | exact inB_n (by omega) (by decide) | exact inB_l (by omega) (by decide) | exact inB_al (by omega) (by decide) | exact inB_la (by omega) (by decide) | exact inB_j (by assumption) (by omega) (by decide) | exact inB_e (by assumption) (by decide) | omega) only [↓eM h, ix_nI, ix_l, nI_al, nI_la, nI_lm, u2_ne, u2_eq]
  rw [es]
  exact e1
def cntS (K : SkyT) (s : Nat → Nat) (n : Nat) : Nat := sumTo (fun set => if soR K s set (s 20) = true then 1 else 0) n
def sp_fits (K : SkyT) (s : Nat → Nat) : Int32 := nI (cntS K s (2 ^ kN K))
theorem ma_fits {B : Nat} {K : SkyT} {s : Nat → Nat} {F M : Nat} {S : Mem} {V : Vw} {U : Uw} (h : shM S M) (hF : 10000 < F) (hw9 : wfK K) (hK : mSky V 0 K) (hS : mS V s) (hs : wfS K B s) (hB : B < 2 ^ 29) : ∃ V' U', fn_X9_fits F M (wM S M V U) = some (sp_fits K s, wM S M V' U') ∧ mk V V' ∧ mS V' s := by
  have hn6 := hw9.1.1
  obtain ⟨pw1, pw2⟩ := pw6 hn6
  unfold fn_X9_fits sp_fits
  rw [cm_sI h]
  have key : ∀ (d i f : Nat) (W : Vw), i + d = 2 ^ kN K → d < f → mk V W → mSky W 0 K → mS W s →
      ∃ V' U', fix3 (b_X9_fits_9 F) f M (nI (cntS K s i)) (nI i) (wM S M W U) = some (nI (cntS K s (2 ^ kN K)), wM S M V' U') ∧ mk V V' ∧ mS V' s := by
    intro d
    induction d with
    | zero =>
      intro i f W hi hf c1 k1 n1
      obtain ⟨f, rfl⟩ : ∃ f', f = f' + 1 := ⟨f - 1, by omega⟩
      obtain rfl : i = 2 ^ kN K := by omega
      refine ⟨W, U, ?_, c1, n1⟩
      show b_X9_fits_9 F (fix3 (b_X9_fits_9 F) f) M _ (nI (2 ^ kN K)) (wM S M W U) = _
      unfold b_X9_fits_9
      rw [cm_sky h, ca_sky h (inB_l (by omega) (by decide)), show W 2 (4 : Int32).toNatClampNeg = nI (kN K) from k1.1.2.2.2.2, sh1 hn6, if_pos (Int32.le_refl _)]
    | succ d ih =>
      intro i f W hi hf c1 k1 n1
      obtain ⟨f, rfl⟩ : ∃ f', f = f' + 1 := ⟨f - 1, by omega⟩
      have ih := fun W => ih (i + 1) f W (by omega) (by omega)
      show ∃ V' U', b_X9_fits_9 F (fix3 (b_X9_fits_9 F) f) M _ (nI i) (wM S M W U) = _ ∧ _
      generalize fix3 (b_X9_fits_9 F) f = k4 at ih ⊢
      obtain ⟨W1, e1, k2, s2⟩ := q_isSo (F := F) (V := W) (U := U) (set := i) h hF hw9 k1 n1 hs (by omega)
      have e : cntS K s (i + 1) = cntS K s i + if soR K s i (s 20) = true then 1 else 0 := rfl
      have ih := ih W1 (c1.tr k2.mk) (k2.sky k1) s2
      rw [e] at ih
      unfold b_X9_fits_9 f_X9_fits_35
      rw [cm_sky h, ca_sky h (inB_l (by omega) (by decide)), show W 2 (4 : Int32).toNatClampNeg = nI (kN K) from k1.1.2.2.2.2, sh1 hn6, if_neg (show ¬ nI (2 ^ kN K) ≤ nI i from nI_ge (by omega) (by omega)), cm_cal h, e1, bd_r, lt_r, lt_r, nI_1]
      cases hso : soR K s i (s 20) with
      | true =>
        rw [hso, if_pos rfl] at ih
        show ∃ V' U', (if (1 : Int32) = 0 then _ else _) = _ ∧ _
        rw [if_neg (by decide), nI_1]
        exact ih
      | false =>
        rw [hso, if_neg (show ¬ false = true by decide)] at ih
        show ∃ V' U', (if (0 : Int32) = 0 then _ else _) = _ ∧ _
        rw [if_pos rfl, show nI (cntS K s i) + (0 : Int32) = nI (cntS K s i + 0) from nI_add _ 0]
        exact ih
  exact key (2 ^ kN K) 0 F (u2 V 0 0 0) (by omega) (by omega) mk.thrown hK.thrown hS.thrown
def fitR (K : SkyT) (s : Nat → Nat) (x : Int32) : Nat → Nat → Nat → Int32
  | 0, _, _ => -1
  | d + 1, set, c => if soR K s set (s 20) = true then (if nI c = x then nI set else fitR K s x d (set + 1) (c + 1)) else fitR K s x d (set + 1) c
def sp_fit (K : SkyT) (s : Nat → Nat) (x : Int32) : Int32 := fitR K s x (2 ^ kN K) 0 0
theorem ma_fit {x : Int32} {B : Nat} {K : SkyT} {s : Nat → Nat} {F M : Nat} {S : Mem} {V : Vw} {U : Uw} (h : shM S M) (hF : 10000 < F) (hw9 : wfK K) (hK : mSky V 0 K) (hS : mS V s) (hs : wfS K B s) (hB : B < 2 ^ 29) : ∃ V' U', fn_X9_fit F M x (wM S M V U) = some (sp_fit K s x, wM S M V' U') ∧ mk V V' ∧ mS V' s := by
  have hn6 := hw9.1.1
  obtain ⟨pw1, pw2⟩ := pw6 hn6
  unfold fn_X9_fit sp_fit
  rw [cm_sI h]
  have key : ∀ (d i c f : Nat) (W : Vw), i + d = 2 ^ kN K → d < f → mk V W → mSky W 0 K → mS W s →
      ∃ V' U', fix4 (b_X9_fit_9 F) f M x (nI c) (nI i) (wM S M W U) = some (fitR K s x d i c, wM S M V' U') ∧ mk V V' ∧ mS V' s := by
    intro d
    induction d with
    | zero =>
      intro i c f W hi hf c1 k1 n1
      obtain ⟨f, rfl⟩ : ∃ f', f = f' + 1 := ⟨f - 1, by omega⟩
      obtain rfl : i = 2 ^ kN K := by omega
      refine ⟨W, U, ?_, c1, n1⟩
      show b_X9_fit_9 F (fix4 (b_X9_fit_9 F) f) M x (nI c) (nI (2 ^ kN K)) (wM S M W U) = _
      unfold b_X9_fit_9
      rw [cm_sky h, ca_sky h (inB_l (by omega) (by decide)), show W 2 (4 : Int32).toNatClampNeg = nI (kN K) from k1.1.2.2.2.2, sh1 hn6, if_pos (Int32.le_refl _)]
      rfl
    | succ d ih =>
      intro i c f W hi hf c1 k1 n1
      obtain ⟨f, rfl⟩ : ∃ f', f = f' + 1 := ⟨f - 1, by omega⟩
      have ih := fun W c => ih (i + 1) c f W (by omega) (by omega)
      show ∃ V' U', b_X9_fit_9 F (fix4 (b_X9_fit_9 F) f) M x (nI c) (nI i) (wM S M W U) = _ ∧ _
      generalize fix4 (b_X9_fit_9 F) f = k4 at ih ⊢
      obtain ⟨W1, e1, k2, s2⟩ := q_isSo (F := F) (V := W) (U := U) (set := i) h hF hw9 k1 n1 hs (by omega)
      have ih := fun c => ih W1 c (c1.tr k2.mk) (k2.sky k1) s2
      unfold b_X9_fit_9 f_X9_fit_42 fitR
      rw [cm_sky h, ca_sky h (inB_l (by omega) (by decide)), show W 2 (4 : Int32).toNatClampNeg = nI (kN K) from k1.1.2.2.2.2, sh1 hn6, if_neg (show ¬ nI (2 ^ kN K) ≤ nI i from nI_ge (by omega) (by omega)), cm_cal h, e1, bd_r, nI_1, nI_1]
      cases hso : soR K s i (s 20) with
      | true =>
        show ∃ V' U', (if (1 : Int32) = 0 then _ else _) = _ ∧ _
        rw [if_neg (by decide), if_pos rfl]
        by_cases hc : nI c = x
        · rw [if_pos hc, if_pos hc]
          exact ⟨W1, U, rfl, c1.tr k2.mk, s2⟩
        · rw [if_neg hc, if_neg hc]
          exact ih (c + 1)
      | false =>
        show ∃ V' U', (if (0 : Int32) = 0 then _ else _) = _ ∧ _
        rw [if_pos rfl, if_neg (show ¬ false = true by decide)]
        exact ih c
  exact key (2 ^ kN K) 0 0 F (u2 V 0 0 0) (by omega) (by omega) mk.thrown hK.thrown hS.thrown
