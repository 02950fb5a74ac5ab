/-! longs -/
theorem lN_div {a d : Nat} (ha : a < 2 ^ 31) (h0 : 0 < d) (hd : d < 2 ^ 31) : lN a / lN d = lN (a / d) := by
  apply Int64.toInt_inj.mp
  rw [lg_ldiv_nonneg (by rw [lN_toInt ha]; omega) (by rw [lN_toInt hd]; omega), lN_toInt ha, lN_toInt hd, lN_toInt (Nat.lt_of_le_of_lt (Nat.div_le_self a d) ha)]
  first | rfl | exact (Int.natCast_ediv _ _).symm
theorem lN_rem {a d : Nat} (ha : a < 2 ^ 31) (h0 : 0 < d) (hd : d < 2 ^ 31) : lN a - lN a / lN d * lN d = lN (a % d) := by
  rw [lN_div ha h0 hd, lN_mul, lN_sub (Nat.div_mul_le_self a d)]
  exact congrArg lN (by have := Nat.div_add_mod' a d; omega)
theorem lN_ne0 {d : Nat} (h0 : 0 < d) (hd : d < 2 ^ 31) : ¬ lN d = 0 := fun q => by
  have := (lN_eq (b := 0) hd (by decide)).mp q
  omega
/-! the greatest common divisor -/
theorem q_gcd {F : Nat} {S : Mem} : ∀ (y x f : Nat), x < 2 ^ 31 → y < 2 ^ 31 → y < f → fix2 (b_X9_gcd_6 F) f (lN x) (lN y) S = some (lN (Nat.gcd x y), S) := by
  intro y
  induction y using Nat.strongRecOn with
  | ind y ih =>
    intro x f hx hy hf
    obtain ⟨f, rfl⟩ : ∃ f', f = f' + 1 := ⟨f - 1, by omega⟩
    show b_X9_gcd_6 F (fix2 (b_X9_gcd_6 F) f) (lN x) (lN y) S = _
    by_cases h0 : y = 0
    · subst h0
      unfold b_X9_gcd_6
      rw [if_pos (show lg_cmp (lN 0) 0 = 0 from (lg_cmp_eq _ _).mpr rfl), Nat.gcd_zero_right]
    · have hm := Nat.mod_lt x (show 0 < y by omega)
      have ih := ih (x % y) hm y f hy (by omega) (by omega)
      generalize fix2 (b_X9_gcd_6 F) f = k at ih ⊢
      unfold b_X9_gcd_6 nzl
      rw [if_neg (fun q => lN_ne0 (by omega) hy ((lg_cmp_eq _ _).mp q)), if_neg (lN_ne0 (by omega) hy), lt_r, lN_rem hx (by omega) hy, ih, Nat.gcd_comm x y, Nat.gcd_rec y x, Nat.gcd_comm]
theorem c_gcd {F : Nat} {S : Mem} : ∀ (k y x i f : Nat), x < 2 ^ 31 → y < 2 ^ k → k ≤ 30 → i + (2 * k + 1) ≤ 64 → 65 ≤ f + i → fix3 (b_X8_commonDivisor_9 F) f (lN x) (lN y) (nI i) S = some (lN (Nat.gcd x y), S) := by
  have zero : ∀ (x i f : Nat), 1 ≤ f → fix3 (b_X8_commonDivisor_9 F) f (lN x) (lN 0) (nI i) S = some (lN (Nat.gcd x 0), S) := by
    intro x i f hf
    obtain ⟨f, rfl⟩ : ∃ f', f = f' + 1 := ⟨f - 1, by omega⟩
    show b_X8_commonDivisor_9 F (fix3 (b_X8_commonDivisor_9 F) f) (lN x) (lN 0) (nI i) S = _
    unfold b_X8_commonDivisor_9 f_X8_commonDivisor_44
    rw [if_pos (show lg_cmp (lN 0) 0 = 0 from (lg_cmp_eq _ _).mpr rfl), ite_self, Nat.gcd_zero_right]
  have step : ∀ (x y i f : Nat), x < 2 ^ 31 → y < 2 ^ 31 → 0 < y → i < 64 → fix3 (b_X8_commonDivisor_9 F) (f + 1) (lN x) (lN y) (nI i) S = fix3 (b_X8_commonDivisor_9 F) f (lN y) (lN (x % y)) (nI (i + 1)) S := by
    intro x y i f hx hy h0 hi
    show b_X8_commonDivisor_9 F (fix3 (b_X8_commonDivisor_9 F) f) (lN x) (lN y) (nI i) S = _
    generalize fix3 (b_X8_commonDivisor_9 F) f = k
    unfold b_X8_commonDivisor_9 nzl
    rw [if_neg (show ¬ (64 : Int32) ≤ nI i from nI_ge (b := 64) hi (by decide)), if_neg (fun q => lN_ne0 h0 hy ((lg_cmp_eq _ _).mp q)), if_neg (lN_ne0 h0 hy), lt_r, lN_rem hx h0 hy, nI_1]
  intro k
  induction k with
  | zero =>
    intro y x i f hx hy hk hi hf
    obtain rfl : y = 0 := by rw [Nat.pow_zero] at hy; omega
    exact zero x i f (by omega)
  | succ k ih =>
    intro y x i f hx hy hk hi hf
    have hp : 2 ^ (k + 1) ≤ 2 ^ 30 := Nat.pow_le_pow_right (by decide) hk
    by_cases h0 : y = 0
    · subst h0; exact zero x i f (by omega)
    · obtain ⟨f, rfl⟩ : ∃ f', f = f' + 1 := ⟨f - 1, by omega⟩
      have hm := Nat.mod_lt x (show 0 < y by omega)
      rw [step x y i f hx (by omega) (by omega) (by omega)]
      have e1 : Nat.gcd x y = Nat.gcd y (x % y) := by rw [Nat.gcd_comm x y, Nat.gcd_rec y x, Nat.gcd_comm]
      rw [e1]
      by_cases h1 : x % y = 0
      · rw [h1]; exact zero y (i + 1) f (by omega)
      · obtain ⟨f, rfl⟩ : ∃ f', f = f' + 1 := ⟨f - 1, by omega⟩
        have hm2 := Nat.mod_lt y (show 0 < x % y by omega)
        have hm3 : y % (x % y) + (x % y) ≤ y := by
          have h5 := Nat.div_add_mod y (x % y)
          have h6 : 1 ≤ y / (x % y) := Nat.div_pos (by omega) (by omega)
          have h7 : (x % y) * 1 ≤ (x % y) * (y / (x % y)) := Nat.mul_le_mul_left _ h6
          omega
        rw [step y (x % y) (i + 1) f (by omega) (by omega) (by omega) (by omega)]
        have e2 : Nat.gcd y (x % y) = Nat.gcd (x % y) (y % (x % y)) := by rw [Nat.gcd_comm y, Nat.gcd_rec (x % y) y, Nat.gcd_comm]
        rw [e2]
        have hpk : 2 ^ (k + 1) = 2 ^ k * 2 := Nat.pow_succ 2 k
        exact ih (y % (x % y)) (x % y) (i + 1 + 1) f (by omega) (by omega) (by omega) (by omega) (by omega)
/-! mean -/
theorem mom_le {n r : Nat} {p len w : Nat → Nat} : ∀ (hw : ∀ k, k < n → w k ≤ 99), momP n p len w r ≤ 99 * pulledP n p len r := by
  induction n with
  | zero => intro _; exact Nat.zero_le _
  | succ n ih =>
    intro hw
    have h1 := ih (fun k hk => hw k (by omega))
    have h2 : (if r ≤ len n then p n * w n else 0) ≤ 99 * (if r ≤ len n then p n else 0) := by
      split
      · rw [Nat.mul_comm]; exact Nat.mul_le_mul_right _ (hw n (by omega))
      · omega
    show momP n p len w r + _ ≤ 99 * (pulledP n p len r + _)
    rw [Nat.mul_add]
    exact Nat.add_le_add h1 h2
theorem place_le2 {K : SkyT} {l : Nat} {w len : Nat → Nat} (hw9 : wfK K) (hw : ∀ i, w i ≤ 99) : placeN K l w len ≤ 118 := by
  have h1 := mom_le (n := kN K) (r := rawN K l w len) (p := plN K l w len) (len := len) (w := wi K) (fun k hk => (hw9.2 k hk).2.1)
  have h2 : momP (kN K) (plN K l w len) len (wi K) (rawN K l w len) / pulledP (kN K) (plN K l w len) len (rawN K l w len) ≤ 99 := Nat.div_le_of_le_mul (by rw [Nat.mul_comm]; exact h1)
  have h3 := hw (highN K l w len)
  unfold placeN
  omega
def plcN (K : SkyT) (t : Nat → Nat) : Nat := placeN K (t 18) (wR K (t 19) 0) t
def meR (K : SkyT) : Nat → (Nat → Nat) → Nat × Nat × Nat → Nat × Nat × Nat
  | 0, _, a => a
  | d + 1, t, a => meR K d (passN K 0 t) (a.1 + plcN K t, min a.2.1 (plcN K t), max a.2.2 (plcN K t))
def meF (n : Nat) (a : Nat × Nat × Nat) (y : Int32) : Int64 := if y = 0 then lN (a.1 / Nat.gcd a.1 n) else if y = 1 then lN (n / Nat.gcd a.1 n) else if y = 2 then lN a.2.1 else lN a.2.2
def okMe (x y : Int32) : Bool := inr x 1 240 && inr y 0 3
def sp_mean (K : SkyT) (s : Nat → Nat) (x y : Int32) : Int64 := if okMe x y = true then meF x.toNatClampNeg (meR K (x.toNatClampNeg - 1) (passN K 0 s) (plcN K s, plcN K s, plcN K s)) y else -1
theorem meR_1 {K : SkyT} {n a : Nat} {s : Nat → Nat} (hn : 1 ≤ n) (ha : plcN K s ≤ a) : meR K n s (0, a, 0) = meR K (n - 1) (passN K 0 s) (plcN K s, plcN K s, plcN K s) := by
  obtain ⟨n, rfl⟩ : ∃ n', n = n' + 1 := ⟨n - 1, by omega⟩
  show meR K n (passN K 0 s) (0 + plcN K s, min a (plcN K s), max 0 (plcN K s)) = _
  rw [Nat.zero_add, Nat.min_eq_right ha, Nat.max_eq_right (Nat.zero_le _)]
  rfl
theorem mn_nI {a b : Nat} (ha : a < 2 ^ 31) (hb : b < 2 ^ 31) : mnI (nI a) (nI b) = nI (min a b) := by
  unfold mnI
  by_cases h : b < a
  · rw [if_pos (nI_lt h ha), Nat.min_eq_right (by omega)]
  · rw [if_neg (nI_nlt (by omega) hb), Nat.min_eq_left (by omega)]
theorem mx_nI {a b : Nat} (ha : a < 2 ^ 31) (hb : b < 2 ^ 31) : mxI (nI a) (nI b) = nI (max a b) := by
  unfold mxI
  by_cases h : a < b
  · rw [if_pos (nI_lt h hb), Nat.max_eq_right (by omega)]
  · rw [if_neg (nI_nlt (by omega) ha), Nat.max_eq_left (by omega)]
theorem plc_le {K : SkyT} {t : Nat → Nat} (hw9 : wfK K) : plcN K t ≤ 118 := place_le2 hw9 (wR_le K (t 19) 0)
def okA (i : Nat) (a : Nat × Nat × Nat) : Prop := a.1 ≤ 118 * i ∧ a.2.1 < 2 ^ 31 ∧ a.2.2 < 2 ^ 31
theorem okA_s {K : SkyT} {i : Nat} {a : Nat × Nat × Nat} {t : Nat → Nat} (hw9 : wfK K) (h : okA i a) : okA (i + 1) (a.1 + plcN K t, min a.2.1 (plcN K t), max a.2.2 (plcN K t)) := by
  have h1 := plc_le (t := t) hw9
  obtain ⟨h2, h3, h4⟩ := h
  refine ⟨?_, ?_, ?_⟩
  · show a.1 + plcN K t ≤ 118 * (i + 1); omega
  · show min a.2.1 (plcN K t) < _; omega
  · show max a.2.2 (plcN K t) < _; omega
theorem c_meF {F n : Nat} {a : Nat × Nat × Nat} {y : Int32} {S : Mem} (hF : 100 < F) (hn1 : 1 ≤ n) (hn : n ≤ 240) (ha : okA n a) (hy : inr y 0 3 = true) {k : Nat → Int32 → Int32 → Int64 → Int32 → Int32 → Int32 → Mem → Option (Int64 × Mem)} {x0 : Nat} : b_X8_mean_47 F k x0 (nI n) y (lN a.1) (nI a.2.1) (nI a.2.2) (nI n) S = some (meF n a y, S) := by
  obtain ⟨j, -, hj, rfl⟩ := inr_nI (a := 0) (b := 3) (by decide) (by decide) hy
  obtain ⟨h1, h2, h3⟩ := ha
  have h4 : a.1 < 2 ^ 31 := by omega
  have eg : fn_X8_commonDivisor F (lN a.1) (lN n) S = some (lN (Nat.gcd a.1 n), S) := c_gcd 8 n a.1 0 F h4 (by omega) (by omega) (by omega) (by omega)
  have g1 : 0 < Nat.gcd a.1 n := Nat.gcd_pos_of_pos_right _ (by omega)
  have g2 : Nat.gcd a.1 n ≤ n := Nat.gcd_le_right _ (by omega)
  have fin : ∀ z : Nat, z < 2 ^ 31 → f_X8_mean_166 F (lN (Nat.gcd a.1 n)) (lN z) S = some (lN (z / Nat.gcd a.1 n), S) := by
    intro z hz
    unfold f_X8_mean_166 f_X8_mean_179 nzl
    rw [if_neg (fun q => by
      have q2 := (lg_cmp_le _ _).mp q
      have := (lN_le (b := 0) (show Nat.gcd a.1 n < 2 ^ 31 by omega) (by decide)).mp q2
      omega), if_neg (lN_ne0 g1 (by omega)), lN_div hz g1 (by omega)]
  unfold b_X8_mean_47 f_X8_mean_147 meF
  rw [if_pos (Int32.le_refl _), nI_l (show n < 2 ^ 31 by omega), nI_l h2, nI_l h3, eg, bd_r, fin _ h4, fin _ (by omega)]
  rcases (by omega : j = 0 ∨ j = 1 ∨ j = 2 ∨ j = 3) with rfl | rfl | rfl | rfl <;> rfl
theorem q_meF {F M n : Nat} {a : Nat × Nat × Nat} {y : Int32} {S : Mem} {V Z : Vw} {U : Uw} (h : shM S M) (hF : 1000 < F) (hn1 : 1 ≤ n) (hn : n ≤ 240) (ha : okA n a) (hy : inr y 0 3 = true) (eZ : fn_X9_copies F (M + 25) 0 (M + 24) 0 (wM S M V U) = some ((), wM S M Z U)) {k : Nat → Int32 → Int32 → Int64 → Int32 → Int32 → Int32 → Mem → Option (Int64 × Mem)} : b_X9_mean_55 F k M (nI n) y (lN a.1) (nI a.2.1) (nI a.2.2) (nI n) (wM S M V U) = some (meF n a y, wM S M Z U) := by
  obtain ⟨j, -, hj, rfl⟩ := inr_nI (a := 0) (b := 3) (by decide) (by decide) hy
  obtain ⟨h1, h2, h3⟩ := ha
  have h4 : a.1 < 2 ^ 31 := by omega
  have g1 : 0 < Nat.gcd a.1 n := Nat.gcd_pos_of_pos_right _ (by omega)
  have g2 : Nat.gcd a.1 n ≤ n := Nat.gcd_le_right _ (by omega)
  have fin : ∀ z : Nat, z < 2 ^ 31 → f_X9_mean_149 F (nI n) (lN a.1) (lN z) (wM S M Z U) = some (lN (z / Nat.gcd a.1 n), wM S M Z U) := by
    intro z hz
    unfold f_X9_mean_149 nzl fn_X9_gcd
    rw [nI_l (show n < 2 ^ 31 by omega), q_gcd n a.1 F h4 (by omega) (by omega), bd_r, if_neg (lN_ne0 g1 (by omega)), lN_div hz g1 (by omega)]
  unfold b_X9_mean_55 f_X9_mean_138 meF
  rw [if_pos (Int32.le_refl _), cm_aside h, cm_s h, eZ, bd_r, fin _ h4, show (nI n).toInt64 = lN n from nI_l (by omega), fin _ (by omega), nI_l h2, nI_l h3]
  rcases (by omega : j = 0 ∨ j = 1 ∨ j = 2 ∨ j = 3) with rfl | rfl | rfl | rfl <;> rfl
theorem ca_mean {x y : Int32} {B b : Nat} {K : SkyT} {s : Nat → Nat} {F C : Nat} {S : Mem} {V : Vw} {U : Uw} {D : Dw} (h : shC S C) (hF : 10000 < F) (hw9 : wfK K) (hK : cSky S C b K) (hb : D 28 0 = b) (hS : cNt V 28 K s) (hs : wfS K B s) (hB : B < 2 ^ 29) : ∃ V' D', fn_X8_mean F C x y (wC S C V U D) = some (sp_mean K s x y, wC S C V' U D') ∧ ck V V' ∧ dk D D' ∧ cNt V' 28 K s := by
  have hn6 := hw9.1.1
  unfold fn_X8_mean f_X8_mean_20 sp_mean okMe
  rw [c_within, bd_r]
  cases hx : inr x 1 240 with
  | false => exact ⟨V, D, rfl, ck.rf, dk.rf, hS⟩
  | true =>
  show ∃ V' D', (if (1 : Int32) = 0 then _ else _) = _ ∧ _
  rw [if_neg (by decide), c_within, bd_r]
  cases hy : inr y 0 3 with
  | false => exact ⟨V, D, rfl, ck.rf, dk.rf, hS⟩
  | true =>
  show ∃ V' D', (if (1 : Int32) = 0 then _ else _) = some ((if true = true then _ else _), _) ∧ _
  obtain ⟨n, hn1, hn, rfl⟩ := inr_nI (a := 1) (b := 240) (by decide) (by decide) hx
  rw [if_neg (by decide), if_pos rfl, nI_clamp (by omega)]
  obtain ⟨V1, e1, f1, n1⟩ := c_take (F := F) (U := U) (D := D) (s := s) h isN35 isN28 (by decide) hw9 hS hs.2.2.2.1
  rw [hb] at e1
  have key : ∀ (d i f : Nat) (W : Vw) (E : Dw) (t : Nat → Nat) (a : Nat × Nat × Nat), i + d = n → d < f → (∀ j, j < 14 ∨ (27 < j ∧ j < 35) ∨ 41 < j → W j = V j) → dk D E → E 35 0 = b → cNt W 35 K t → wfS K (B + i) t → okA i a →
      ∃ V' D', fix7 (b_X8_mean_47 F) f C (nI n) y (lN a.1) (nI a.2.1) (nI a.2.2) (nI i) (wC S C W U E) = some (meF n (meR K d t a) y, wC S C V' U D') ∧ (∀ j, j < 14 ∨ (27 < j ∧ j < 35) ∨ 41 < j → V' j = V j) ∧ dk D D' := by
    intro d
    induction d with
    | zero =>
      intro i f W E t a hi hf c1 d1 b1 n1 w1 ok
      obtain ⟨f, rfl⟩ : ∃ f', f = f' + 1 := ⟨f - 1, by omega⟩
      obtain rfl : i = n := by omega
      refine ⟨W, E, ?_, c1, d1⟩
      show b_X8_mean_47 F (fix7 (b_X8_mean_47 F) f) C (nI i) y (lN a.1) (nI a.2.1) (nI a.2.2) (nI i) (wC S C W U E) = _
      exact c_meF (by omega) hn1 hn ok hy
    | succ d ih =>
      intro i f W E t a hi hf c1 d1 b1 n1 w1 ok
      obtain ⟨f, rfl⟩ : ∃ f', f = f' + 1 := ⟨f - 1, by omega⟩
      have ih := fun W E => ih (i + 1) f W E (passN K 0 t) (a.1 + plcN K t, min a.2.1 (plcN K t), max a.2.2 (plcN K t)) (by omega) (by omega)
      show ∃ V' D', b_X8_mean_47 F (fix7 (b_X8_mean_47 F) f) C (nI n) y (lN a.1) (nI a.2.1) (nI a.2.2) (nI i) (wC S C W U E) = some (meF n (meR K d (passN K 0 t) (a.1 + plcN K t, min a.2.1 (plcN K t), max a.2.2 (plcN K t))) y, _) ∧ _
      generalize fix7 (b_X8_mean_47 F) f = k4 at ih ⊢
      have lt6 := w1.lost hw9
      obtain ⟨W1, e1, f1, l1⟩ := c_look (F := F) (U := U) (m := t 19) (g := 0) (l := t 18) (len := t) h isN35 (by omega) hw9 hK b1 lt6 n1.2.1 (fun k hk => (n1.2.2.2.1 k hk).1) (fun k hk => (w1.1 k hk).1)
      have hpl := plc_le (t := t) hw9
      have l6 : W1 14 6 = nI (plcN K t) := l1.2.2.2
      have n2 : cNt W1 35 K t := n1.keep (fun i hi => f1 (35 + i) (by omega))
      have b2 : (u2 E 14 7 b) 35 0 = b := by rw [u2_ne (by omega)]; exact b1
      obtain ⟨W2, e2, f2, n3⟩ := c_pass (F := F) (U := U) (D := u2 E 14 7 b) (g := 0) h isN35 (by omega) hw9 hK b2 n2 w1 (by omega) (fun _ => l1)
      unfold b_X8_mean_47
      rw [if_neg (show ¬ nI n ≤ nI i from nI_ge (by omega) (by omega))]
      simp only [↓eC h, ↓eN h isN35, ↓bd_r, ↓lt_r, n1.1, e1, l6, e2, nI_1, nI_l (show plcN K t < 2 ^ 31 by omega), lN_add, mn_nI ok.2.1 (show plcN K t < 2 ^ 31 by omega), mx_nI ok.2.2 (show plcN K t < 2 ^ 31 by omega)]
      exact ih W2 _ (fun j hj => (f2 j (by omega) (by omega) (by omega)).trans ((f1 j (by omega)).trans (c1 j hj))) (d1.tr dk.air) b2 n3 (wf_pass w1 hw9) (okA_s hw9 ok)
  obtain ⟨V2, D2, e2, c2, d2⟩ := key n 0 F V1 (u2 D 35 0 b) s (0, 2147483647, 0) (by omega) (by omega) (fun j hj => f1 j (by omega)) dk.ahead (u2_eq ⟨rfl, rfl⟩) n1 hs ⟨by show 0 ≤ 118 * 0; omega, by decide, by decide⟩
  rw [meR_1 hn1 (by have := plc_le (t := s) hw9; omega)] at e2
  refine ⟨V2, D2, ?_, fun j hj => c2 j (by omega), d2, hS.keep (fun i hi => c2 (28 + i) (by omega))⟩
  simp only [↓eC h, ↓eN h isN35, ↓bd_r, e1]
  exact e2
theorem ma_mean {x y : Int32} {B : Nat} {K : SkyT} {s : Nat → Nat} {F M : Nat} {S : Mem} {V : Vw} {U : Uw} (h : shM S M) (hF : 10000 < F) (hw9 : wfK K) (hK : mSky V 0 K) (hS : mS V s) (hs : wfS K B s) (hB : B < 2 ^ 29) : ∃ V' U', fn_X9_mean F M x y (wM S M V U) = some (sp_mean K s x y, wM S M V' U') ∧ mk V V' ∧ mS V' s := by
  have hn6 := hw9.1.1
  unfold fn_X9_mean f_X9_mean_25 sp_mean okMe
  rw [cm_sI h, q_within, bd_r]
  have S1 : mS (u2 V 0 0 0) s := hS.thrown
  have K1 : mSky (u2 V 0 0 0) 0 K := hK.thrown
  have m1 : mk V (u2 V 0 0 0) := mk.thrown
  generalize u2 V 0 0 0 = X at S1 K1 m1 ⊢
  cases hx : inr x 1 240 with
  | false => exact ⟨X, U, rfl, m1, S1⟩
  | true =>
  show ∃ V' U', (if (1 : Int32) = 0 then _ else _) = _ ∧ _
  rw [if_neg (by decide), q_within, bd_r]
  cases hy : inr y 0 3 with
  | false => exact ⟨X, U, rfl, m1, S1⟩
  | true =>
  show ∃ V' U', (if (1 : Int32) = 0 then _ else _) = some ((if true = true then _ else _), _) ∧ _
  obtain ⟨n, hn1, hn, rfl⟩ := inr_nI (a := 1) (b := 240) (by decide) (by decide) hx
  rw [if_neg (by decide), if_pos rfl, nI_clamp (by omega), cm_s h, cm_aside h]
  obtain ⟨Y, eY, fY, cY, -⟩ := q_copies_a (F := F) (V0 := X) (U := U) (oa := 0) (ob := 0) h (by omega) (by omega) (by omega)
  have eY : fn_X9_copies F (M + 24) 0 (M + 25) 0 (wM S M X U) = some ((), wM S M Y U) := eY
  rw [eY, bd_r]
  have aY : ∀ j, j < 64 → Y 25 j = nI (s j) := fun j hj => by
    have := cY j hj
    rw [Nat.zero_add] at this
    rw [this]; exact S1 j hj
  have SY : mS Y s := fun j hj => by rw [fY 24 (by omega)]; exact S1 j hj
  have KY : mSky Y 0 K := K1.keep (fun j hj => fY j (by omega))
  have mY : mk V Y := m1.tr ⟨fun j a b => fY j (by omega), by rw [fY 0 (by omega)]⟩
  have key : ∀ (d i f : Nat) (W : Vw) (t : Nat → Nat) (a : Nat × Nat × Nat), i + d = n → d < f → mk V W → mSky W 0 K → mS W t → (∀ j, j < 64 → W 25 j = nI (s j)) → wfS K (B + i) t → okA i a →
      ∃ V' U', fix7 (b_X9_mean_55 F) f M (nI n) y (lN a.1) (nI a.2.1) (nI a.2.2) (nI i) (wM S M W U) = some (meF n (meR K d t a) y, wM S M V' U') ∧ mk V V' ∧ mS V' s := by
    intro d
    induction d with
    | zero =>
      intro i f W t a hi hf c1 k1 n1 a1 w1 ok
      obtain ⟨f, rfl⟩ : ∃ f', f = f' + 1 := ⟨f - 1, by omega⟩
      obtain rfl : i = n := by omega
      obtain ⟨Z, eZ, fZ, cZ, -⟩ := q_copies_b (F := F) (V0 := W) (U := U) (oa := 0) (ob := 0) h (by omega) (by omega) (by omega)
      have eZ : fn_X9_copies F (M + 25) 0 (M + 24) 0 (wM S M W U) = some ((), wM S M Z U) := eZ
      exact ⟨Z, U, q_meF h (by omega) hn1 hn ok hy eZ, c1.tr ⟨fun j a b => fZ j (by omega), by rw [fZ 0 (by omega)]⟩, back_s cZ a1⟩
    | succ d ih =>
      intro i f W t a hi hf c1 k1 n1 a1 w1 ok
      obtain ⟨f, rfl⟩ : ∃ f', f = f' + 1 := ⟨f - 1, by omega⟩
      have ih := fun W => ih (i + 1) f W (passN K 0 t) (a.1 + plcN K t, min a.2.1 (plcN K t), max a.2.2 (plcN K t)) (by omega) (by omega)
      show ∃ V' U', b_X9_mean_55 F (fix7 (b_X9_mean_55 F) f) M (nI n) y (lN a.1) (nI a.2.1) (nI a.2.2) (nI i) (wM S M W U) = some (meF n (meR K d (passN K 0 t) (a.1 + plcN K t, min a.2.1 (plcN K t), max a.2.2 (plcN K t))) y, _) ∧ _
      generalize fix7 (b_X9_mean_55 F) f = k4 at ih ⊢
      have lt6 := w1.lost hw9
      have hpl := plc_le (t := t) hw9
      obtain ⟨W1, e1, f1, f0, g1, p1, r1, r2, r3⟩ := q_looks (F := F) (V := W) (U := U) (m := t 19) (g := 0) (l := t 18) (len := t) h (by omega) hw9 k1 (n1 18 (by omega)) (by omega) (fun k hk => n1 k (by omega)) (fun k hk => (w1.1 k hk).1)
      have r3 : W1 0 43 = nI (plcN K t) := r3
      have S4 : mS W1 t := fun j hj => by rw [f1 24 (by omega) (by omega)]; exact n1 j hj
      have K4 : mSky W1 0 K := k1.keep (fun j hj => f1 j (by omega) (by omega))
      obtain ⟨W3, e3, p3, s3⟩ := q_passes (F := F) (V0 := W1) (U := U) (g := 0) h (by omega) hw9 K4 S4 w1 (by omega)
      have e2 : fn_X9_looksNow F M (wM S M W U) = some ((), wM S M W1 U) := by
        unfold fn_X9_looksNow
        have e9 : fn_X9_looks F M (nI (t 19)) 0 (wM S M W U) = _ := e1
        simp (disch := first | assumption | exact inB_n (by omega) (by decide) | exact inB_l (by omega) (by decide) | exact inB_al (by omega) (by decide) | exact inB_la (by omega) (by decide) | exact inB_j (by assumption) (by omega) (by decide) | exact inB_e (by assumption) (by decide) | omega) only [↓eM h, ↓bd_r, ↓lt_r, ↓Option.bind_some, ↓reduceIte, ix_nI, ix_l, nI_al, nI_la, nI_lm, u2_ne, u2_eq, nI_leI, nI_ltI, nI_eq, le_ln, le_nl, lt_ln, lt_nl, eq_nl, eq_ln, n1 19 (by omega), e9]
      unfold b_X9_mean_55
      rw [if_neg (show ¬ nI n ≤ nI i from nI_ge (by omega) (by omega)), cm_cal h, e2, bd_r, cm_I h, r3, lt_r, cm_I h, r3, lt_r, cm_I h, r3, lt_r, cm_cal h, e3, bd_r, nI_1, nI_l (show plcN K t < 2 ^ 31 by omega), lN_add, mn_nI ok.2.1 (show plcN K t < 2 ^ 31 by omega), mx_nI ok.2.2 (show plcN K t < 2 ^ 31 by omega)]
      exact ih W3 ((c1.tr ⟨fun j a b => f1 j a (by omega), f0 1 (by omega) (by omega) (by omega)⟩).tr p3.mk) (p3.sky K4) s3 (fun j hj => by rw [p3.1 25 (by omega) (by omega), f1 25 (by omega) (by omega)]; exact a1 j hj) (wf_pass w1 hw9) (okA_s hw9 ok)
  have q := key n 0 F Y s (0, 100000, 0) (by omega) (by omega) mY KY SY aY hs ⟨by show 0 ≤ 118 * 0; omega, by decide, by decide⟩
  rw [meR_1 hn1 (by have := plc_le (t := s) hw9; omega)] at q
  exact q
