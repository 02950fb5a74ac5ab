/-! the model: where the lamp hangs -/
theorem u2_u2 {α : Type} {f : Nat → Nat → α} {a k : Nat} {v v' : α} : u2 (u2 f a k v) a k v' = u2 f a k v' := by
  funext b j
  unfold u2
  by_cases h : b = a ∧ j = k
  · rw [if_pos h, if_pos h]
  · rw [if_neg h, if_neg h, if_neg h]
theorem u2_self {α : Type} {f : Nat → Nat → α} {a k : Nat} {v : α} (h : f a k = v) : u2 f a k v = f := by
  funext b j
  unfold u2
  by_cases h2 : b = a ∧ j = k
  · rw [if_pos h2, h2.1, h2.2, h]
  · rw [if_neg h2]
theorem q_isLost {k l : Nat} {F M : Nat} {S : Mem} {V : Vw} {U : Uw} (h : shM S M) (hk : k < 6) (hl : V 24 18 = nI l) (hl2 : l < 2 ^ 31) : fn_X9_isLost F M (nI k) (wM S M V U) = some (b1 (lo l k), wM S M V U) := by
  unfold fn_X9_isLost f_X9_isLost_20
  simp (disch := first | assumption | exact inB_n (by omega) (by decide) | exact inB_l (by omega) (by decide) | exact inB_al (by omega) (by decide) | exact inB_la (by omega) (by decide) | exact inB_j (by assumption) (by omega) (by decide) | exact inB_e (by assumption) (by decide) | omega) only [↓eM h, ↓bd_r, ↓lt_r, ↓Option.bind_some, ↓reduceIte, ix_nI, ix_l, nI_al, nI_la, nI_lm, u2_ne, u2_eq, nI_leI, nI_ltI, nI_eq, le_ln, le_nl, lt_ln, lt_nl, eq_nl, eq_ln, hl, lo_nI hl2 hk]
  unfold b1 lo
  by_cases h1 : l / 2 ^ k % 2 = 1
  · rw [h1]; rfl
  · have h2 : l / 2 ^ k % 2 = 0 := by omega
    rw [h2]; rfl
theorem q_flies {k l : Nat} {K : SkyT} {w len : Nat → Nat} {F M : Nat} {S : Mem} {V : Vw} {U : Uw} (h : shM S M) (hw9 : wfK K) (hK : mSky V 0 K) (hk : k < kN K) (hl : V 24 18 = nI l) (hl2 : l < 2 ^ 31) (hs : V 24 k = nI (len k)) (hs4 : len k ≤ 40) (hw : ∀ i, i < 41 → V 27 i = nI (w i)) (hw2 : ∀ i, w i ≤ 99) :
    fn_X9_flies F M (nI k) (wM S M V U) = some (b1 (!lo l k && flyN K w len k), wM S M V U) := by
  have hk6 := hw9.1.1
  have hb := hw9.2 k hk
  have hkk := hK.2.1 k hk
  rw [Nat.mul_zero, Nat.zero_add] at hkk
  have hww := hw (len k) (by omega)
  have hw3 := hw2 (len k)
  have key : ∀ y : Nat, y ≤ 99 → f_X9_flies_27 F M (nI k) (nI y) (wM S M V U) = some (b1 (!lo l k && (decide (0 < len k) && decide (y ≤ w (len k)))), wM S M V U) := by
    intro y hy
    unfold f_X9_flies_27 f_X9_flies_64 f_X9_flies_65
    rw [cm_cal h, q_isLost h (by omega) hl hl2, bd_r]
    cases lo l k with
    | true => rfl
    | false =>
      show (if (0 : Int32) = 0 then _ else _) = _
      rw [if_pos rfl]
      simp (disch := first | assumption | exact inB_n (by omega) (by decide) | exact inB_l (by omega) (by decide) | exact inB_al (by omega) (by decide) | exact inB_la (by omega) (by decide) | exact inB_j (by assumption) (by omega) (by decide) | exact inB_e (by assumption) (by decide) | omega) only [↓eM h, ↓bd_r, ↓lt_r, ↓Option.bind_some, ↓reduceIte, ix_nI, ix_l, nI_al, nI_la, nI_lm, u2_ne, u2_eq, nI_leI, nI_ltI, nI_eq, le_ln, le_nl, lt_ln, lt_nl, eq_nl, eq_ln, hs, hww]
      by_cases h1 : len k = 0
      · rw [h1]; rfl
      · rw [if_neg (by omega)]
        have h3 : decide (0 < len k) = true := decide_eq_true (by omega)
        by_cases h2 : w (len k) < y
        · rw [if_pos h2, h3, decide_eq_false (by omega : ¬ y ≤ w (len k))]; rfl
        · rw [if_neg h2, h3, decide_eq_true (by omega : y ≤ w (len k))]; rfl
  unfold fn_X9_flies flyN needN
  simp (disch := first | assumption | exact inB_n (by omega) (by decide) | exact inB_l (by omega) (by decide) | exact inB_al (by omega) (by decide) | exact inB_la (by omega) (by decide) | exact inB_j (by assumption) (by omega) (by decide) | exact inB_e (by assumption) (by decide) | omega) only [↓eM h, ↓bd_r, ↓lt_r, ↓Option.bind_some, ↓reduceIte, ix_nI, ix_l, nI_al, nI_la, nI_lm, u2_ne, u2_eq, nI_leI, nI_ltI, nI_eq, le_ln, le_nl, lt_ln, lt_nl, eq_nl, eq_ln, hkk.1, hkk.2.2.2]
  by_cases h2 : kd K k = 2
  · rw [if_pos h2, if_pos h2, show nI (le_ K k) / 2 = nI (le_ K k / 2) from pk_div (by omega) (d := 2) (by decide) (by decide), key _ (by omega)]
  · rw [if_neg h2, if_neg h2, key _ (by omega)]
theorem q_pullOf {k l : Nat} {K : SkyT} {w len : Nat → Nat} {F M : Nat} {S : Mem} {V : Vw} {U : Uw} (h : shM S M) (hw9 : wfK K) (hK : mSky V 0 K) (hk : k < kN K) (hl : V 24 18 = nI l) (hl2 : l < 2 ^ 31) (hs : V 24 k = nI (len k)) (hs4 : len k ≤ 40) (hw : ∀ i, i < 41 → V 27 i = nI (w i)) (hw2 : ∀ i, w i ≤ 99) :
    fn_X9_pullOf F M (nI k) (wM S M V U) = some (nI (plN K l w len k), wM S M V U) := by
  have hk6 := hw9.1.1
  have hb := hw9.2 k hk
  have hkk := hK.2.1 k hk
  rw [Nat.mul_zero, Nat.zero_add] at hkk
  have hww := hw (len k) (by omega)
  have hw3 := hw2 (len k)
  unfold fn_X9_pullOf f_X9_pullOf_56 f_X9_pullOf_77
  rw [cm_cal h, q_flies h hw9 hK hk hl hl2 hs hs4 hw hw2, bd_r]
  unfold plN pulN
  cases lo l k with
  | true => rfl
  | false =>
    cases flyN K w len k with
    | false => rfl
    | true =>
      show (if (1 : Int32) = 0 then _ else _) = _
      rw [if_neg (by decide)]
      have hm : li K k * w (len k) ≤ 20 * 99 := Nat.mul_le_mul hb.2.2.2.1 hw3
      have e1 : nI (li K k) * nI (w (len k)) / 10 = nI (li K k * w (len k) / 10) := by
        rw [pk_mul]; exact pk_div (by omega) (d := 10) (by decide) (by decide)
      simp (disch := first | assumption | exact inB_n (by omega) (by decide) | exact inB_l (by omega) (by decide) | exact inB_al (by omega) (by decide) | exact inB_la (by omega) (by decide) | exact inB_j (by assumption) (by omega) (by decide) | exact inB_e (by assumption) (by decide) | omega) only [↓eM h, ↓bd_r, ↓lt_r, ↓Option.bind_some, ↓reduceIte, ix_nI, ix_l, nI_al, nI_la, nI_lm, u2_ne, u2_eq, nI_leI, nI_ltI, nI_eq, le_ln, le_nl, lt_ln, lt_nl, eq_nl, eq_ln, hs, hww, hkk.1, hkk.2.2.1, e1]
      unfold pullN
      generalize hx : li K k * w (len k) / 10 = x
      have hx2 : x ≤ 198 := by omega
      have e3 : mxI 0 (nI x - 3) = nI (x - 3) := by
        unfold mxI
        by_cases h3 : 3 < x
        · have : nI x - 3 = nI (x - 3) := pk_sub (b := 3) (by omega)
          rw [this, if_pos (show (0 : Int32) < nI (x - 3) from nI_lt (a := 0) (by omega) (by omega))]
        · have : x - 3 = 0 := by omega
          rw [this]
          by_cases h4 : x = 3
          · subst h4; rfl
          · have hn : nI x - 3 < 0 := pk_sneg (b := 3) (by decide) (by omega)
            rw [if_neg (fun q => absurd (Int32.lt_trans q hn) Int32.lt_irrefl)]
            rfl
      by_cases h1 : kd K k = 1 <;> by_cases h2 : w (len k) < 40 <;> by_cases h3 : kd K k = 3 <;> simp [h1, h2, h3, e3, Nat.not_le.mpr, Nat.not_lt.mp] <;> omega
theorem q_pulledAt {n x : Nat} {p len : Nat → Nat} {F M : Nat} {S : Mem} {V : Vw} {U : Uw} (h : shM S M) (hF : 7 ≤ F) (hn : V 2 4 = nI n) (hn6 : n ≤ 6) (hs : ∀ k, k < n → V 24 k = nI (len k)) (hs4 : ∀ k, k < n → len k ≤ 40) (hp : ∀ k, k < n → V 28 k = nI (p k)) (hx : x ≤ 40) :
    fn_X9_pulledAt F M (nI x) (wM S M V U) = some (nI (pulledP n p len x), wM S M V U) := by
  have key : ∀ (d i f : Nat), i + d = n → d < f → fix4 (b_X9_pulledAt_4 F) f M (nI x) (nI (pulledP i p len x)) (nI i) (wM S M V U) = some (nI (pulledP n p len x), wM S M V U) := by
    intro d
    induction d with
    | zero =>
      intro i f hi hf
      obtain ⟨f, rfl⟩ : ∃ f', f = f' + 1 := ⟨f - 1, by omega⟩
      obtain rfl : i = n := by omega
      show b_X9_pulledAt_4 F (fix4 (b_X9_pulledAt_4 F) f) M (nI x) _ (nI i) (wM S M V U) = _
      unfold b_X9_pulledAt_4
      rw [cm_sky h, ca_sky h (inB_l (by omega) (by decide))]
      show (if V 2 4 ≤ nI i then _ else _) = _
      rw [hn, if_pos (Int32.le_refl (nI i))]
    | succ d ih =>
      intro i f hi hf
      obtain ⟨f, rfl⟩ : ∃ f', f = f' + 1 := ⟨f - 1, by omega⟩
      have ih := ih (i + 1) f (by omega) (by omega)
      show b_X9_pulledAt_4 F (fix4 (b_X9_pulledAt_4 F) f) M (nI x) _ (nI i) (wM S M V U) = _
      generalize fix4 (b_X9_pulledAt_4 F) f = k4 at ih ⊢
      unfold b_X9_pulledAt_4 f_X9_pulledAt_35
      have h4 := hs4 i (by omega)
      simp (disch := first | assumption | exact inB_n (by omega) (by decide) | exact inB_l (by omega) (by decide) | exact inB_al (by omega) (by decide) | exact inB_la (by omega) (by decide) | exact inB_j (by assumption) (by omega) (by decide) | exact inB_e (by assumption) (by decide) | omega) only [↓eM h, ↓bd_r, ↓lt_r, ↓Option.bind_some, ↓reduceIte, ix_nI, ix_l, nI_al, nI_la, nI_lm, u2_ne, u2_eq, nI_leI, nI_ltI, nI_eq, le_ln, le_nl, lt_ln, lt_nl, eq_nl, eq_ln, hn, if_neg (show ¬ n ≤ i by omega), hs i (by omega), hp i (by omega)]
      have e : pulledP (i + 1) p len x = pulledP i p len x + (if x ≤ len i then p i else 0) := rfl
      by_cases hc : len i < x
      · rw [if_pos hc]
        rw [e, if_neg (by omega)] at ih
        exact ih
      · rw [if_neg hc, nI_add]
        rw [e, if_pos (by omega)] at ih
        exact ih
  exact key n 0 F (by omega) (by omega)
theorem q_hangs3 {n l r hi all : Nat} {w len p wn : Nat → Nat} {F M : Nat} {S : Mem} {V : Vw} {U : Uw} (h : shM S M) (hn : V 2 4 = nI n) (hn6 : n ≤ 6) (hs : ∀ k, k < n → V 24 k = nI (len k)) (hs4 : ∀ k, k < n → len k ≤ 40) (hp : ∀ k, k < n → V 28 k = nI (p k)) (hp4 : ∀ k, k < n → p k ≤ 396) (hwn : ∀ k, k < n → V 4 k = nI (wn k)) (hwn9 : ∀ k, k < n → wn k ≤ 99) (hr : V 0 41 = nI r) (hr4 : r ≤ 40) (hh : V 0 42 = nI hi) (hh4 : hi ≤ 40) (hw : ∀ i, i < 41 → V 27 i = nI (w i)) (hw2 : ∀ i, w i ≤ 99) (ha : all ≤ 2376) :
    ∀ (d i f : Nat), i + d = n → d < f → fix4 (b_X9_hangs_126 F) f M (nI all) (nI (momP i p len wn r)) (nI i) (wM S M V U) = some ((), wM S M (u2 V 0 43 (nI (momP n p len wn r / all + w hi / 5))) U) := by
  have mb : ∀ i, i ≤ n → momP i p len wn r ≤ i * 39204 := fun i hi => sumTo_le (fun k hk => by
    split
    · have : p k * wn k ≤ 396 * 99 := Nat.mul_le_mul (hp4 k (by omega)) (hwn9 k (by omega))
      omega
    · omega)
  have fin : ∀ y : Nat, y ≤ 235224 → f_X9_hangs_191 F M M (nI y) (wM S M V U) = some ((), wM S M (u2 V 0 43 (nI (y + w hi / 5))) U) := by
    intro y hy
    unfold f_X9_hangs_191
    have h9 := hw2 hi
    have e5 : nI (w hi) / 5 = nI (w hi / 5) := pk_div (by omega) (d := 5) (by decide) (by decide)
    simp (disch := first | assumption | exact inB_n (by omega) (by decide) | exact inB_l (by omega) (by decide) | exact inB_al (by omega) (by decide) | exact inB_la (by omega) (by decide) | exact inB_j (by assumption) (by omega) (by decide) | exact inB_e (by assumption) (by decide) | omega) only [↓eM h, ↓bd_r, ↓lt_r, ↓Option.bind_some, ↓reduceIte, ix_nI, ix_l, nI_al, nI_la, nI_lm, u2_ne, u2_eq, nI_leI, nI_ltI, nI_eq, le_ln, le_nl, lt_ln, lt_nl, eq_nl, eq_ln, hh, hw hi (by omega), e5, nI_add]
  intro d
  induction d with
  | zero =>
    intro i f hi hf
    obtain ⟨f, rfl⟩ : ∃ f', f = f' + 1 := ⟨f - 1, by omega⟩
    obtain rfl : i = n := by omega
    show b_X9_hangs_126 F (fix4 (b_X9_hangs_126 F) f) M (nI all) _ (nI i) (wM S M V U) = _
    generalize fix4 (b_X9_hangs_126 F) f = k4
    unfold b_X9_hangs_126
    rw [cm_sky h, ca_sky h (inB_l (by omega) (by decide))]
    show (if V 2 4 ≤ nI i then _ else _) = _
    rw [hn, if_pos (Int32.le_refl (nI i))]
    have hm := mb i (Nat.le_refl i)
    by_cases h0 : all = 0
    · subst h0
      rw [if_pos (show nI 0 = 0 from rfl), Nat.div_zero]
      exact fin 0 (by omega)
    · have hne : ¬ nI all = 0 := nI_ne0 (by omega) (by omega)
      have h1 : momP i p len wn r / all ≤ momP i p len wn r := Nat.div_le_self _ _
      rw [if_neg hne]
      unfold nz
      rw [if_neg hne, pk_div (by omega) (by omega) (by omega)]
      exact fin _ (by omega)
  | succ d ih =>
    intro i f hi hf
    obtain ⟨f, rfl⟩ : ∃ f', f = f' + 1 := ⟨f - 1, by omega⟩
    have ih := ih (i + 1) f (by omega) (by omega)
    show b_X9_hangs_126 F (fix4 (b_X9_hangs_126 F) f) M (nI all) _ (nI i) (wM S M V U) = _
    generalize fix4 (b_X9_hangs_126 F) f = k4 at ih ⊢
    unfold b_X9_hangs_126 f_X9_hangs_171
    have h4 := hs4 i (by omega)
    simp (disch := first | assumption | exact inB_n (by omega) (by decide) | exact inB_l (by omega) (by decide) | exact inB_al (by omega) (by decide) | exact inB_la (by omega) (by decide) | exact inB_j (by assumption) (by omega) (by decide) | exact inB_e (by assumption) (by decide) | omega) only [↓eM h, ↓bd_r, ↓lt_r, ↓Option.bind_some, ↓reduceIte, ix_nI, ix_l, nI_al, nI_la, nI_lm, u2_ne, u2_eq, nI_leI, nI_ltI, nI_eq, le_ln, le_nl, lt_ln, lt_nl, eq_nl, eq_ln, hn, if_neg (show ¬ n ≤ i by omega), hs i (by omega), hp i (by omega), hr, hwn i (by omega), pk_mul]
    have e : momP (i + 1) p len wn r = momP i p len wn r + (if r ≤ len i then p i * wn i else 0) := rfl
    by_cases hc : len i < r
    · rw [if_pos hc]
      rw [e, if_neg (by omega)] at ih
      exact ih
    · rw [if_neg hc, nI_add]
      rw [e, if_pos (by omega)] at ih
      exact ih
theorem q_hangs2 {n sl wt : Nat} {w len p wn : Nat → Nat} {F M : Nat} {S : Mem} {V : Vw} {U : Uw} (h : shM S M) (hF : 60 < F) (hn : V 2 4 = nI n) (hn6 : n ≤ 6) (hwt : V 2 0 = nI wt) (hwt9 : wt ≤ 999) (hs : ∀ k, k < n → V 24 k = nI (len k)) (hs4 : ∀ k, k < n → len k ≤ 40) (hp : ∀ k, k < n → V 28 k = nI (p k)) (hp4 : ∀ k, k < n → p k ≤ 396) (hwn : ∀ k, k < n → V 4 k = nI (wn k)) (hwn9 : ∀ k, k < n → wn k ≤ 99) (hw : ∀ i, i < 41 → V 27 i = nI (w i)) (hw2 : ∀ i, w i ≤ 99) (hsl : sl ≤ 6) :
    ∀ (r f : Nat), r ≤ 40 → r < f → fix2 (b_X9_hangs_61 F) f M (nI sl) (wM S M (u2 V 0 41 (nI r)) U) = some ((), wM S M (u2 (u2 (u2 V 0 41 (nI (rawG (pulledP n p len) wt r))) 0 42 (nI (rawG (pulledP n p len) wt r - sl))) 0 43 (nI (momP n p len wn (rawG (pulledP n p len) wt r) / pulledP n p len (rawG (pulledP n p len) wt r) + w (rawG (pulledP n p len) wt r - sl) / 5))) U) := by
  have pb : ∀ x, pulledP n p len x ≤ 2376 := fun x => by
    have : pulledP n p len x ≤ n * 396 := sumTo_le (fun k hk => by
      split
      · exact hp4 k hk
      · omega)
    omega
  have fin : ∀ r : Nat, r ≤ 40 → f_X9_hangs_98 F M (nI sl) (wM S M (u2 V 0 41 (nI r)) U) = some ((), wM S M (u2 (u2 (u2 V 0 41 (nI r)) 0 42 (nI (r - sl))) 0 43 (nI (momP n p len wn r / pulledP n p len r + w (r - sl) / 5))) U) := by
    intro r hr
    unfold f_X9_hangs_98
    have e3 : mxI 0 (nI r - nI sl) = nI (r - sl) := by
      unfold mxI
      by_cases h3 : sl < r
      · rw [pk_sub (by omega), if_pos (show (0 : Int32) < nI (r - sl) from nI_lt (a := 0) (by omega) (by omega))]
      · have : r - sl = 0 := by omega
        rw [this]
        by_cases h4 : r = sl
        · subst h4; rw [pk_sub (Nat.le_refl r), Nat.sub_self]; rfl
        · have hn : nI r - nI sl < 0 := pk_sneg (by omega) (by omega)
          rw [if_neg (fun q => absurd (Int32.lt_trans q hn) Int32.lt_irrefl)]
          rfl
    have q1 := q_pulledAt (V := u2 (u2 V 0 41 (nI r)) 0 42 (nI (r - sl))) (U := U) (x := r) (p := p) (len := len) h (by omega : 7 ≤ F) (by rw [u2_row (by omega), u2_row (by omega)]; exact hn) hn6 (by rw [u2_row (by omega), u2_row (by omega)]; exact hs) hs4 (by rw [u2_row (by omega), u2_row (by omega)]; exact hp) hr
    simp (disch := first | assumption | exact inB_n (by omega) (by decide) | exact inB_l (by omega) (by decide) | exact inB_al (by omega) (by decide) | exact inB_la (by omega) (by decide) | exact inB_j (by assumption) (by omega) (by decide) | exact inB_e (by assumption) (by decide) | omega) only [↓eM h, ↓bd_r, ↓lt_r, ↓Option.bind_some, ↓reduceIte, ix_nI, ix_l, nI_al, nI_la, nI_lm, u2_ne, u2_eq, nI_leI, nI_ltI, nI_eq, le_ln, le_nl, lt_ln, lt_nl, eq_nl, eq_ln, e3, q1]
    exact q_hangs3 (V := u2 (u2 V 0 41 (nI r)) 0 42 (nI (r - sl))) (r := r) (hi := r - sl) (w := w) (wn := wn) (l := 0) h (by rw [u2_row (by omega), u2_row (by omega)]; exact hn) hn6 (by rw [u2_row (by omega), u2_row (by omega)]; exact hs) hs4 (by rw [u2_row (by omega), u2_row (by omega)]; exact hp) hp4 (by rw [u2_row (by omega), u2_row (by omega)]; exact hwn) hwn9 (by rw [u2_ne (by omega), u2_eq ⟨rfl, rfl⟩]) hr (by rw [u2_eq ⟨rfl, rfl⟩]) (by omega) (by rw [u2_row (by omega), u2_row (by omega)]; exact hw) hw2 (pb r) n 0 F (by omega) (by omega)
  intro r
  induction r with
  | zero =>
    intro f hr hf
    obtain ⟨f, rfl⟩ : ∃ f', f = f' + 1 := ⟨f - 1, by omega⟩
    show b_X9_hangs_61 F (fix2 (b_X9_hangs_61 F) f) M (nI sl) (wM S M (u2 V 0 41 (nI 0)) U) = _
    generalize fix2 (b_X9_hangs_61 F) f = k4
    unfold b_X9_hangs_61
    rw [cm_I h, u2_eq ⟨rfl, rfl⟩, if_pos (by decide), fin 0 (by omega)]
    rfl
  | succ r ih =>
    intro f hr hf
    obtain ⟨f, rfl⟩ : ∃ f', f = f' + 1 := ⟨f - 1, by omega⟩
    have ih := ih f (by omega) (by omega)
    show b_X9_hangs_61 F (fix2 (b_X9_hangs_61 F) f) M (nI sl) (wM S M (u2 V 0 41 (nI (r + 1))) U) = _
    generalize fix2 (b_X9_hangs_61 F) f = k4 at ih ⊢
    unfold b_X9_hangs_61
    have q1 := q_pulledAt (V := u2 V 0 41 (nI (r + 1))) (U := U) (x := r + 1) (p := p) (len := len) h (by omega : 7 ≤ F) (by rw [u2_row (by omega)]; exact hn) hn6 (by rw [u2_row (by omega)]; exact hs) hs4 (by rw [u2_row (by omega)]; exact hp) hr
    have hpb := pb (r + 1)
    have e1 : nI (r + 1) - 1 = nI r := nI_pred r
    rw [cm_I h, u2_eq ⟨rfl, rfl⟩, if_neg (nI_nle (by omega) (by omega)), cm_I h, u2_eq ⟨rfl, rfl⟩, cm_cal h, q1, bd_r, cm_sky h, ca_sky h (inB_l (by omega) (by decide)), u2_row (by omega)]
    show (if V 2 0 ≤ _ then _ else _) = _
    have e9 : rawG (pulledP n p len) wt (r + 1) = if pulledP n p len (r + 1) < wt then rawG (pulledP n p len) wt r else r + 1 := rfl
    rw [hwt]
    by_cases hc : wt ≤ pulledP n p len (r + 1)
    · rw [if_pos (nI_le hc (by omega)), fin (r + 1) hr, e9, if_neg (by omega)]
    · rw [if_neg (nI_ge (by omega) (by omega)), cm_I h, u2_eq ⟨rfl, rfl⟩, cm_sI h, u2_u2, e1, ih, e9, if_pos (by omega)]
theorem q_hangs {l : Nat} {K : SkyT} {w len : Nat → Nat} {F M : Nat} {S : Mem} {V0 : Vw} {U : Uw} (h : shM S M) (hF : 60 < F) (hw9 : wfK K) (hK : mSky V0 0 K) (hl : V0 24 18 = nI l) (hl2 : l < 2 ^ 31) (hs : ∀ k, k < kN K → V0 24 k = nI (len k)) (hs4 : ∀ k, k < kN K → len k ≤ 40) (hw : ∀ i, i < 41 → V0 27 i = nI (w i)) (hw2 : ∀ i, w i ≤ 99) :
    ∃ V', fn_X9_hangs F M (wM S M V0 U) = some ((), wM S M V' U) ∧ (∀ j, j ≠ 0 → j ≠ 28 → V' j = V0 j) ∧ (∀ j, j ≠ 41 → j ≠ 42 → j ≠ 43 → V' 0 j = V0 0 j) ∧ (∀ k, k < kN K → V' 28 k = nI (plN K l w len k)) ∧ V' 0 41 = nI (rawN K l w len) ∧ V' 0 42 = nI (highN K l w len) ∧ V' 0 43 = nI (placeN K l w len) := by
  have hn6 := hw9.1.1
  have hn : V0 2 4 = nI (kN K) := hK.1.2.2.2.2
  have key : ∀ (d i f : Nat) (V : Vw), i + d = kN K → d < f → (∀ j, j ≠ 28 → V j = V0 j) → (∀ k, k < i → V 28 k = nI (plN K l w len k)) →
      ∃ V', fix3 (b_X9_hangs_4 F) f M (nI (sumTo (slkN K l w len) i)) (nI i) (wM S M V U) = some ((), wM S M V' U) ∧ (∀ j, j ≠ 0 → j ≠ 28 → V' j = V0 j) ∧ (∀ j, j ≠ 41 → j ≠ 42 → j ≠ 43 → V' 0 j = V0 0 j) ∧ (∀ k, k < kN K → V' 28 k = nI (plN K l w len k)) ∧ V' 0 41 = nI (rawN K l w len) ∧ V' 0 42 = nI (highN K l w len) ∧ V' 0 43 = nI (placeN K l w len) := by
    intro d
    induction d with
    | zero =>
      intro i f V hi hf hV hP
      obtain ⟨f, rfl⟩ : ∃ f', f = f' + 1 := ⟨f - 1, by omega⟩
      obtain rfl : i = kN K := by omega
      have hsl : slackN K l w len ≤ 6 := by
        have : slackN K l w len ≤ kN K * 1 := sumTo_le (fun k hk => by
          unfold slkN
          split
          · omega
          · split <;> omega)
        omega
      have q := q_hangs2 (V := V) (U := U) (n := kN K) (sl := slackN K l w len) (wt := kW K) (w := w) (len := len) (p := plN K l w len) (wn := wi K) h hF (by rw [hV 2 (by omega)]; exact hn) hn6 (by rw [hV 2 (by omega)]; exact hK.1.1) hw9.1.2.1 (by rw [hV 24 (by omega)]; exact hs) hs4 hP (fun k hk => plN_le hw9 hw2 hk) (fun k hk => by
        have := (hK.2.1 k hk).2.1
        rw [Nat.mul_zero, Nat.zero_add] at this
        rw [hV 4 (by omega)]; exact this) (fun k hk => (hw9.2 k hk).2.1) (by rw [hV 27 (by omega)]; exact hw) hw2 hsl 40 F (Nat.le_refl 40) (by omega)
      show ∃ V', b_X9_hangs_4 F (fix3 (b_X9_hangs_4 F) f) M _ (nI (kN K)) (wM S M V U) = _ ∧ _
      generalize fix3 (b_X9_hangs_4 F) f = k4
      unfold b_X9_hangs_4
      rw [cm_sky h, ca_sky h (inB_l (by omega) (by decide)), hV 2 (by omega)]
      show ∃ V', (if V0 2 4 ≤ nI (kN K) then _ else _) = _ ∧ _
      rw [hn, if_pos (Int32.le_refl _), cm_sI h]
      refine ⟨_, q, fun j h0 h28 => ?_, fun j h1 h2 h3 => ?_, fun k hk => ?_, ?_, ?_, ?_⟩
      · rw [u2_row h0, u2_row h0, u2_row h0, hV j h28]
      · rw [u2_ne (by omega), u2_ne (by omega), u2_ne (by omega), hV 0 (by omega)]
      · rw [u2_row (by omega), u2_row (by omega), u2_row (by omega), hP k hk]
      · rw [u2_ne (by omega), u2_ne (by omega), u2_eq ⟨rfl, rfl⟩]; rfl
      · rw [u2_ne (by omega), u2_eq ⟨rfl, rfl⟩]; rfl
      · rw [u2_eq ⟨rfl, rfl⟩]; rfl
    | succ d ih =>
      intro i f V hi hf hV hP
      obtain ⟨f, rfl⟩ : ∃ f', f = f' + 1 := ⟨f - 1, by omega⟩
      have ih := fun V => ih (i + 1) f V (by omega) (by omega)
      show ∃ V', b_X9_hangs_4 F (fix3 (b_X9_hangs_4 F) f) M _ (nI i) (wM S M V U) = _ ∧ _
      generalize fix3 (b_X9_hangs_4 F) f = k4 at ih ⊢
      have hKV : mSky V 0 K := hK.keep (fun j hj => hV j (by omega))
      have p1 := q_pullOf (F := F) (V := V) (U := U) (w := w) (len := len) h hw9 hKV (show i < kN K by omega) (by rw [hV 24 (by omega)]; exact hl) hl2 (by rw [hV 24 (by omega)]; exact hs i (by omega)) (hs4 i (by omega)) (by rw [hV 27 (by omega)]; exact hw) hw2
      have hV2 : ∀ j, j ≠ 28 → u2 V 28 i (nI (plN K l w len i)) j = V0 j := fun j hj => by rw [u2_row hj, hV j hj]
      have hP2 : ∀ k, k < i + 1 → u2 V 28 i (nI (plN K l w len i)) 28 k = nI (plN K l w len k) := fun k hk => by
        by_cases hki : k = i
        · subst hki; rw [u2_eq ⟨rfl, rfl⟩]
        · rw [u2_ne (Or.inr hki)]; exact hP k (by omega)
      have ih := ih _ hV2 hP2
      have e : sumTo (slkN K l w len) (i + 1) = sumTo (slkN K l w len) i + slkN K l w len i := rfl
      rw [e] at ih
      generalize hW : u2 V 28 i (nI (plN K l w len i)) = V2 at hV2 hP2 ih
      have hKV2 : mSky V2 0 K := hK.keep (fun j hj => hV2 j (by omega))
      have p2 := q_isLost (F := F) (V := V2) (U := U) (k := i) (l := l) h (by omega) (by rw [hV2 24 (by omega)]; exact hl) hl2
      have p3 := q_flies (F := F) (V := V2) (U := U) (w := w) (len := len) h hw9 hKV2 (show i < kN K by omega) (by rw [hV2 24 (by omega)]; exact hl) hl2 (by rw [hV2 24 (by omega)]; exact hs i (by omega)) (hs4 i (by omega)) (by rw [hV2 27 (by omega)]; exact hw) hw2
      unfold b_X9_hangs_4 f_X9_hangs_46 f_X9_hangs_47
      rw [cm_sky h, ca_sky h (inB_l (by omega) (by decide)), hV 2 (by omega)]
      show ∃ V', (if V0 2 4 ≤ nI i then _ else _) = _ ∧ _
      rw [hn, if_neg (nI_ge (by omega) (by omega))]
      simp (disch := first | assumption | exact inB_n (by omega) (by decide) | exact inB_l (by omega) (by decide) | exact inB_al (by omega) (by decide) | exact inB_la (by omega) (by decide) | exact inB_j (by assumption) (by omega) (by decide) | exact inB_e (by assumption) (by decide) | omega) only [↓eM h, ↓bd_r, ↓lt_r, ↓Option.bind_some, ↓reduceIte, ix_nI, ix_l, nI_al, nI_la, nI_lm, u2_ne, u2_eq, nI_leI, nI_ltI, nI_eq, le_ln, le_nl, lt_ln, lt_nl, eq_nl, eq_ln, p1, hW, p2]
      unfold slkN at ih
      cases hl9 : lo l i with
      | true =>
        rw [hl9] at ih
        exact ih
      | false =>
        rw [hl9] at ih p3
        show ∃ V', (if (0 : Int32) = 0 then _ else _) = _ ∧ _
        rw [if_pos rfl, p3, bd_r]
        cases hf9 : flyN K w len i with
        | true =>
          rw [hf9] at ih
          exact ih
        | false =>
          rw [hf9] at ih
          exact ih
  exact key (kN K) 0 F V0 (by omega) (by omega) (fun _ _ => rfl) (fun t ht => by omega)
