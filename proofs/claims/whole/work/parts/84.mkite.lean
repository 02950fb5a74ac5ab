/-! the model reads a kite -/
def frS (V V' : Vw) : Prop := (∀ j, j = 1 ∨ 14 ≤ j → V' j = V j) ∧ (∀ i, i < 5 ∨ 10 ≤ i → V' 2 i = V 2 i) ∧ (∀ j, 3 ≤ j → j ≤ 7 → ∀ i, i < 6 ∨ 12 ≤ i → V' j i = V j i) ∧ (∀ j, j = 9 ∨ j = 10 → ∀ i, i < 2 ∨ 4 ≤ i → V' j i = V j i) ∧ (∀ i, i < 1000 ∨ 2000 ≤ i → V' 11 i = V 11 i) ∧ ∀ k, k ≤ 3 → V' 0 k = V 0 k
theorem frS.rf {V : Vw} : frS V V := ⟨fun _ _ => rfl, fun _ _ => rfl, fun _ _ _ _ _ => rfl, fun _ _ _ _ => rfl, fun _ _ => rfl, fun _ _ => rfl⟩
theorem frS.tr {V V' V'' : Vw} (a : frS V V') (b : frS V' V'') : frS V V'' := ⟨fun j h => (b.1 j h).trans (a.1 j h), fun i h => (b.2.1 i h).trans (a.2.1 i h), fun j h1 h2 i h => (b.2.2.1 j h1 h2 i h).trans (a.2.2.1 j h1 h2 i h), fun j h1 i h => (b.2.2.2.1 j h1 i h).trans (a.2.2.2.1 j h1 i h), fun i h => (b.2.2.2.2.1 i h).trans (a.2.2.2.2.1 i h), fun k h => (b.2.2.2.2.2 k h).trans (a.2.2.2.2.2 k h)⟩
theorem frS.ofN {V V' : Vw} (a : fN V V') : frS V V' := ⟨fun j h => a.1 j (by omega), fun i _ => by rw [a.1 2 (by omega)], fun j _ _ i _ => by rw [a.1 j (by omega)], fun j _ i _ => by rw [a.1 j (by omega)], fun i _ => by rw [a.1 11 (by omega)], fun k hk => a.2 k (by omega) (by omega) (by omega) (by omega) (by omega) (by omega)⟩
theorem frS.u {V : Vw} {j k : Nat} {v : Int32} (h : (3 ≤ j ∧ j ≤ 7 ∧ 6 ≤ k ∧ k < 12) ∨ (j = 2 ∧ 5 ≤ k ∧ k < 10) ∨ ((j = 9 ∨ j = 10) ∧ 2 ≤ k ∧ k < 4) ∨ (j = 0 ∧ 3 < k)) : frS V (u2 V j k v) := ⟨fun i hi => u2_row (by omega), fun i hi => u2_ne (by omega), fun a h1 h2 i hi => u2_ne (by omega), fun a h1 i hi => u2_ne (by omega), fun i _ => u2_ne (by omega), fun i hi => u2_ne (by omega)⟩
def uS (U U' : Uw) : Prop := ∀ j, j ≠ 0 → j ≠ 8 → U' j = U j
theorem uS.rf {U : Uw} : uS U U := fun _ _ _ => rfl
theorem uS.tr {U U' U'' : Uw} (a : uS U U') (b : uS U' U'') : uS U U'' := fun j h1 h2 => (b j h1 h2).trans (a j h1 h2)
theorem uS.of0 {U U' : Uw} (a : u0 U U') : uS U U' := fun j h1 _ => a j h1
def lnM (V : Vw) (i nc : Nat) (f : Option Den) : Prop := ∃ a b, V 9 i = nI a ∧ V 10 i = nI b ∧ 1000 ≤ a ∧ a ≤ b ∧ b ≤ nc ∧ match f with
  | none => a = b
  | some f => a < b ∧ lawM (V 11) a b f
theorem lnM.cg {V V' : Vw} {i nc nc' : Nat} {f : Option Den} (h : lnM V i nc f) (e9 : V' 9 i = V 9 i) (e10 : V' 10 i = V 10 i) (e11 : ∀ k, k < nc → V' 11 k = V 11 k) (hn : nc ≤ nc') : lnM V' i nc' f := by
  obtain ⟨a, b, h1, h2, h3, h4, h5, h6⟩ := h
  refine ⟨a, b, by rw [e9]; exact h1, by rw [e10]; exact h2, h3, h4, by omega, ?_⟩
  cases f with
  | none => exact h6
  | some f => exact ⟨h6.1, h6.2.shift rfl h4 (fun j hj => (e11 (a + j) (by omega)).symm)⟩
def mG (X : Tp) (s : SkR) (p : Nat) (V : Vw) (U : Uw) : Prop := mL X p V U ∧ mx V X ∧ (V 2 5 = nI (zV s 2) ∧ V 2 6 = nI (zV s 3) ∧ V 2 7 = nI (zV s 4) ∧ V 2 8 = nI (zV s 5) ∧ V 2 9 = nI (zN s)) ∧ (∀ k, k < zN s → (∀ j, 1 ≤ j → j ≤ 5 → V (2 + j) (6 + k) = nI (zF s j k)) ∧ U 8 k = lN (lY X (zF s 0 k))) ∧ V 0 21 = nI (zT s / 4) ∧ ∃ nc, V 0 20 = nI nc ∧ 1000 ≤ nc ∧ nc ≤ 1000 + p ∧ lnM V 2 nc (zW s) ∧ lnM V 3 nc (zR s)
def mOut (X : Tp) (r : Sum Nat (Nat × SkR)) (S : Mem) (M : Nat) (V : Vw) (U : Uw) (Y : Option (Int32 × Mem)) : Prop := ∃ V' U', Y = some (b1 (isR r), wM S M V' U') ∧ frS V V' ∧ uS U U' ∧ (∀ k, r = .inl k → V' 0 9 = nI k) ∧ ∀ q s', r = .inr (q, s') → mG X s' q V' U'
def kT5 (F x0 : Nat) (x1 : Int32) (S : Mem) : Option (Int32 × Mem) :=
  (gR S 8 15 x0).bind fun v43 =>
  (gI S 8 35 x0).bind fun v44 =>
  (sA S v43 x1 v44).bind fun S45 =>
  (gR S45 8 10 x0).bind fun v46 =>
  (gA S45 10 v46 (9 : Int32)).bind fun v47 =>
  (sA S45 v46 (9 : Int32) (v47 + (1 : Int32))).bind fun S48 =>
  bd (cal S48 8 x0 (fn_X9_ends F x0 S48)) fun v49 S50 =>
  rz v49 S50
def kT4 (F x0 : Nat) (x1 : Int32) (S : Mem) : Option (Int32 × Mem) :=
  (gR S 8 14 x0).bind fun v36 =>
  (gI S 8 35 x0).bind fun v37 =>
  (sA S v36 x1 v37).bind fun S38 =>
  bd (cal S38 8 x0 (fn_X9_needsWord F x0 (247516 : Int64) S38)) fun v39 S40 =>
  if v39 = 0 then rz (0 : Int32) S40 else
  bd (cal S40 8 x0 (fn_X9_needsNumber F x0 (0 : Int32) (40 : Int32) S40)) fun v41 S42 =>
  if v41 = 0 then rz (0 : Int32) S42 else kT5 F x0 x1 S42
def kT3 (F x0 : Nat) (x1 : Int32) (S : Mem) : Option (Int32 × Mem) :=
  (gR S 8 13 x0).bind fun v36 =>
  (gI S 8 35 x0).bind fun v37 =>
  (sA S v36 x1 v37).bind fun S38 =>
  bd (cal S38 8 x0 (fn_X9_needsWord F x0 (6476969 : Int64) S38)) fun v39 S40 =>
  if v39 = 0 then rz (0 : Int32) S40 else
  bd (cal S40 8 x0 (fn_X9_needsNumber F x0 (0 : Int32) (99 : Int32) S40)) fun v41 S42 =>
  if v41 = 0 then rz (0 : Int32) S42 else kT4 F x0 x1 S42
def kT2 (F x0 : Nat) (x1 : Int32) (S : Mem) : Option (Int32 × Mem) :=
  (gR S 8 12 x0).bind fun v36 =>
  (gI S 8 35 x0).bind fun v37 =>
  (sA S v36 x1 v37).bind fun S38 =>
  bd (cal S38 8 x0 (fn_X9_needsWord F x0 (242939 : Int64) S38)) fun v39 S40 =>
  if v39 = 0 then rz (0 : Int32) S40 else
  bd (cal S40 8 x0 (fn_X9_needsNumber F x0 (1 : Int32) (20 : Int32) S40)) fun v41 S42 =>
  if v41 = 0 then rz (0 : Int32) S42 else kT3 F x0 x1 S42
def kT1 (F x0 : Nat) (x1 : Int32) (S : Mem) : Option (Int32 × Mem) :=
  bd (cal S 8 x0 (fn_X9_needsWord F x0 (47 : Int64) S)) fun v39 S40 =>
  if v39 = 0 then rz (0 : Int32) S40 else
  bd (cal S40 8 x0 (fn_X9_needsNumber F x0 (0 : Int32) (99 : Int32) S40)) fun v41 S42 =>
  if v41 = 0 then rz (0 : Int32) S42 else kT2 F x0 x1 S42
def kT0 (F x0 : Nat) (x1 : Int32) (S : Mem) : Option (Int32 × Mem) :=
  (gR S 8 16 x0).bind fun v3 =>
  (gR S 8 10 x0).bind fun v4 =>
  (gA S 10 v4 (9 : Int32)).bind fun v5 =>
  (gJ S 8 7 x0).bind fun v6 =>
  (sAJ S v3 v5 v6).bind fun S7 =>
  bd (cal S7 8 x0 (fn_X9_nextToken F x0 S7)) fun _ S9 =>
  (gR S9 8 11 x0).bind fun v10 =>
  bd (cal S9 8 x0 (fn_X9_kindAt F x0 S9)) fun v11 S12 =>
  (sA S12 v10 x1 v11).bind fun S13 =>
  (gR S13 8 11 x0).bind fun v14 =>
  (gA S13 10 v14 x1).bind fun v15 =>
  if 0 ≤ v15 then
    bd (cal S13 8 x0 (fn_X9_nextToken F x0 S13)) fun _ S17 => kT1 F x0 x1 S17
  else
    bd (cal S13 8 x0 (fn_X9_fails F x0 (1 : Int32) S13)) fun v51 S52 =>
    rz v51 S52
theorem kT_eq {F x0 : Nat} {x1 x2 : Int32} {S : Mem} {k48 : Nat → Int32 → Int32 → Mem → Option (Int32 × Mem)} : b_X9_readsKite_48 F k48 x0 x1 x2 S = ((gR S 8 10 x0).bind fun v1 =>
  (gA S 10 v1 (9 : Int32)).bind fun v2 =>
  if v2 ≤ x2 then kT0 F x0 x1 S
  else
    (gR S 8 16 x0).bind fun v53 =>
    (gAJ S v53 x2).bind fun v54 =>
    (gJ S 8 7 x0).bind fun v55 =>
    if (lg_cmp v54 v55) = 0 then
      bd (cal S 8 x0 (fn_X9_fails F x0 (3 : Int32) S)) fun v56 S57 =>
      rz v56 S57
    else
      k48 x0 x1 (x2 + (1 : Int32)) S) := rfl
theorem q_nameL {X : Tp} {p n : Nat} {x1 : Int32} {F M : Nat} {S : Mem} {V : Vw} {U : Uw} (h : shM S M) (hn : n ≤ 6) (hL : mL X p V U) (h29 : V 2 9 = nI n) : ∀ (d i fu : Nat), i + d = n → d < fu → fix3 (b_X9_readsKite_48 F) fu M x1 (nI i) (wM S M V U) = if anyB (fun j => decide (U 8 j = U 0 7)) i d = true then some (0, wM S M (u2 V 0 9 (nI (3 + 16 * lB X p))) U) else kT0 F M x1 (wM S M V U) := by
  intro d
  induction d with
  | zero =>
    intro i fu hi hfu
    obtain ⟨fu, rfl⟩ : ∃ f', fu = f' + 1 := ⟨fu - 1, by omega⟩
    obtain rfl : i = n := by omega
    show b_X9_readsKite_48 F (fix3 (b_X9_readsKite_48 F) fu) M x1 (nI i) (wM S M V U) = kT0 F M x1 (wM S M V U)
    rw [kT_eq]
    simp (disch := first | assumption | exact inB_n (by omega) (by decide) | exact inB_l (by omega) (by decide) | exact inB_al (by omega) (by decide) | exact inB_la (by omega) (by decide) | exact inB_j (by assumption) (by omega) (by decide) | exact inB_e (by assumption) (by decide) | omega) only [↓eM h, ↓bd_r, ↓lt_r, ↓Option.bind_some, ↓reduceIte, ix_nI, ix_l, nI_al, nI_la, nI_lm, u2_ne, u2_eq, nI_leI, nI_ltI, nI_eq, le_ln, le_nl, lt_ln, lt_nl, eq_nl, eq_ln, h29, Nat.le_refl]
  | succ d ih =>
    intro i fu hi hfu
    obtain ⟨fu, rfl⟩ : ∃ f', fu = f' + 1 := ⟨fu - 1, by omega⟩
    have ih := ih (i + 1) fu (by omega) (by omega)
    have e1 : nI i + (1 : Int32) = nI (i + 1) := nI_1 i
    show b_X9_readsKite_48 F (fix3 (b_X9_readsKite_48 F) fu) M x1 (nI i) (wM S M V U) = _
    generalize fix3 (b_X9_readsKite_48 F) fu = k48 at ih ⊢
    have e9 : anyB (fun j => decide (U 8 j = U 0 7)) i (d + 1) = (decide (U 8 i = U 0 7) || anyB (fun j => decide (U 8 j = U 0 7)) (i + 1) d) := rfl
    rw [e9, kT_eq]
    by_cases hc : U 8 i = U 0 7
    · rw [decide_eq_true hc]
      simp (disch := first | assumption | exact inB_n (by omega) (by decide) | exact inB_l (by omega) (by decide) | exact inB_al (by omega) (by decide) | exact inB_la (by omega) (by decide) | exact inB_j (by assumption) (by omega) (by decide) | exact inB_e (by assumption) (by decide) | omega) only [↓eM h, ↓bd_r, ↓lt_r, ↓Option.bind_some, ↓reduceIte, ix_nI, ix_l, nI_al, nI_la, nI_lm, u2_ne, u2_eq, nI_leI, nI_ltI, nI_eq, le_ln, le_nl, lt_ln, lt_nl, eq_nl, eq_ln, h29, if_neg (show ¬ n ≤ i by omega), if_pos ((lg_cmp_eq _ _).mpr hc), q_fails (k := 3) (x := 3) h hL rfl, rz_0]
      rfl
    · rw [decide_eq_false hc, Bool.false_or, ← ih]
      simp (disch := first | assumption | exact inB_n (by omega) (by decide) | exact inB_l (by omega) (by decide) | exact inB_al (by omega) (by decide) | exact inB_la (by omega) (by decide) | exact inB_j (by assumption) (by omega) (by decide) | exact inB_e (by assumption) (by decide) | omega) only [↓eM h, ↓bd_r, ↓lt_r, ↓Option.bind_some, ↓reduceIte, ix_nI, ix_l, nI_al, nI_la, nI_lm, u2_ne, u2_eq, nI_leI, nI_ltI, nI_eq, le_ln, le_nl, lt_ln, lt_nl, eq_nl, eq_ln, h29, if_neg (show ¬ n ≤ i by omega), if_neg (fun q => hc ((lg_cmp_eq _ _).mp q)), e1]
/-- a run of rows at one place -/
def kRow (n : Nat) (V V' : Vw) : Prop := (∀ j, j ≠ 0 → ¬ (3 ≤ j ∧ j ≤ 7) → V' j = V j) ∧ (∀ j, 3 ≤ j → j ≤ 7 → ∀ i, i ≠ 6 + n → V' j i = V j i) ∧ ∀ k, k ≠ 4 → k ≠ 5 → k ≠ 6 → k ≠ 8 → k ≠ 9 → k ≠ 35 → V' 0 k = V 0 k
theorem kRow.ofN {n : Nat} {V V' : Vw} (a : fN V V') : kRow n V V' := ⟨fun j h0 _ => a.1 j h0, fun j h1 _ i _ => by rw [a.1 j (by omega)], a.2⟩
theorem kRow.u {n j : Nat} {V : Vw} {v : Int32} (hj : 3 ≤ j ∧ j ≤ 7) : kRow n V (u2 V j (6 + n) v) := ⟨fun i h0 h1 => u2_row (by omega), fun i h1 h2 k hk => u2_ne (by omega), fun k _ _ _ _ _ _ => u2_ne (by omega)⟩
theorem kRow.tr {n : Nat} {V V' V'' : Vw} (a : kRow n V V') (b : kRow n V' V'') : kRow n V V'' := ⟨fun j h0 h1 => (b.1 j h0 h1).trans (a.1 j h0 h1), fun j h1 h2 i hi => (b.2.1 j h1 h2 i hi).trans (a.2.1 j h1 h2 i hi), fun k h4 h5 h6 h8 h9 h35 => (b.2.2 k h4 h5 h6 h8 h9 h35).trans (a.2.2 k h4 h5 h6 h8 h9 h35)⟩
theorem kRow.s {n : Nat} {V V' : Vw} (a : kRow n V V') (hn : n < 6) : frS V V' := ⟨fun j h => a.1 j (by omega) (by omega), fun i _ => by rw [a.1 2 (by omega) (by omega)], fun j h1 h2 i hi => a.2.1 j h1 h2 i (by omega), fun j h i _ => by rw [a.1 j (by omega) (by omega)], fun i _ => by rw [a.1 11 (by omega) (by omega)], fun k hk => a.2.2 k (by omega) (by omega) (by omega) (by omega) (by omega) (by omega)⟩
theorem q_kT5 {X : Tp} {p n n7 : Nat} {F M : Nat} {S : Mem} {V : Vw} {U : Uw} (h : shM S M) (hF : 10000 < F) (hX : okTp X) (hp : p ≤ X.1) (hn : n < 6) (hL : mL X p V U) (ht : mx V X) (h35 : V 0 35 = nI n7) (h29 : V 2 9 = nI n) :
    ∃ V' U', kT5 F M (nI (6 + n)) (wM S M V U) = some (b1 (isR (exS X 34 p)), wM S M V' U') ∧ frS V V' ∧ u0 U U' ∧ (∀ k, exS X 34 p = .inl k → V' 0 9 = nI k) ∧ ∀ q, exS X 34 p = .inr q → mL X q V' U' ∧ fN (u2 (u2 V 7 (6 + n) (nI n7)) 2 9 (nI (n + 1))) V' := by
  have hL2 : mL X p (u2 (u2 V 7 (6 + n) (nI n7)) 2 9 (nI (n + 1))) U := mL_fr hL (fun k hk => by rw [u2_ne (by omega), u2_ne (by omega)])
  obtain ⟨V', U', a1, a2, a3, a4, a5⟩ := q_ends (F := F) h hF hX hp hL2 (ht.keep (by rw [u2_row (by omega), u2_row (by omega)]))
  refine ⟨V', U', ?_, ((frS.u (by omega)).tr (frS.u (by omega))).tr (frS.ofN a2), a3, a4, fun q e => ⟨a5 q e, a2⟩⟩
  have e9 : (u2 V 7 (6 + n) (nI n7)) 2 9 = nI n := by rw [u2_ne (by omega)]; exact h29
  have rzb : ∀ (b : Bool) (S : Mem), rz (b1 b) S = some (b1 b, S) := fun b S => (by
    cases b with
    | true => exact rz_1 S
    | false => exact rz_0 S)
  unfold kT5
  simp (disch := first | assumption | exact inB_n (by omega) (by decide) | exact inB_l (by omega) (by decide) | exact inB_al (by omega) (by decide) | exact inB_la (by omega) (by decide) | exact inB_j (by assumption) (by omega) (by decide) | exact inB_e (by assumption) (by decide) | omega) only [↓eM h, ↓bd_r, ↓lt_r, ↓Option.bind_some, ↓reduceIte, ix_nI, ix_l, nI_al, nI_la, nI_lm, u2_ne, u2_eq, nI_leI, nI_ltI, nI_eq, le_ln, le_nl, lt_ln, lt_nl, eq_nl, eq_ln, h35, h29, e9, a1, rzb]
theorem q_kT4 {X : Tp} {p n v : Nat} {F M : Nat} {S : Mem} {V : Vw} {U : Uw} (h : shM S M) (hF : 10000 < F) (hX : okTp X) (hp : p ≤ X.1) (hn : n < 6) (hL : mL X p V U) (ht : mx V X) (h35 : V 0 35 = nI v) :
    ∃ V' U', kT4 F M (nI (6 + n)) (wM S M V U) = (if isR (wnS X 10 0 40 p) = true then kT5 F M (nI (6 + n)) (wM S M V' U') else some (0, wM S M V' U')) ∧ kRow n V V' ∧ u0 U U' ∧ (∀ k, wnS X 10 0 40 p = .inl k → V' 0 9 = nI k) ∧ fN (u2 V 6 (6 + n) (nI v)) V' ∧ ∀ q m, wnS X 10 0 40 p = .inr (q, m) → V' 0 35 = nI m ∧ mL X q V' U' := by
  have hL2 : mL X p (u2 V 6 (6 + n) (nI v)) U := mL_fr hL (fun k hk => u2_ne (by omega))
  obtain ⟨V', U', a1, a2, a3, a4, a5⟩ := q_wn (F := F) (i := 10) (lw := 0) (hi := 40) (x1 := 0) (x2 := 40) (w := 247516) (G := kT5 F M (nI (6 + n))) h hF hX hp hL2 (ht.keep (u2_row (by omega))) (by omega) rfl rfl rfl (by omega)
  refine ⟨V', U', ?_, (kRow.u (by omega)).tr (kRow.ofN a2), a3, a4, a2, a5⟩
  rw [← a1]
  unfold kT4
  simp (disch := first | assumption | exact inB_n (by omega) (by decide) | exact inB_l (by omega) (by decide) | exact inB_al (by omega) (by decide) | exact inB_la (by omega) (by decide) | exact inB_j (by assumption) (by omega) (by decide) | exact inB_e (by assumption) (by decide) | omega) only [↓eM h, ↓bd_r, ↓lt_r, ↓Option.bind_some, ↓reduceIte, ix_nI, ix_l, nI_al, nI_la, nI_lm, u2_ne, u2_eq, nI_leI, nI_ltI, nI_eq, le_ln, le_nl, lt_ln, lt_nl, eq_nl, eq_ln, h35]
theorem q_kT3 {X : Tp} {p n v : Nat} {F M : Nat} {S : Mem} {V : Vw} {U : Uw} (h : shM S M) (hF : 10000 < F) (hX : okTp X) (hp : p ≤ X.1) (hn : n < 6) (hL : mL X p V U) (ht : mx V X) (h35 : V 0 35 = nI v) :
    ∃ V' U', kT3 F M (nI (6 + n)) (wM S M V U) = (if isR (wnS X 9 0 99 p) = true then kT4 F M (nI (6 + n)) (wM S M V' U') else some (0, wM S M V' U')) ∧ kRow n V V' ∧ u0 U U' ∧ (∀ k, wnS X 9 0 99 p = .inl k → V' 0 9 = nI k) ∧ fN (u2 V 5 (6 + n) (nI v)) V' ∧ ∀ q m, wnS X 9 0 99 p = .inr (q, m) → V' 0 35 = nI m ∧ mL X q V' U' := by
  have hL2 : mL X p (u2 V 5 (6 + n) (nI v)) U := mL_fr hL (fun k hk => u2_ne (by omega))
  obtain ⟨V', U', a1, a2, a3, a4, a5⟩ := q_wn (F := F) (i := 9) (lw := 0) (hi := 99) (x1 := 0) (x2 := 99) (w := 6476969) (G := kT4 F M (nI (6 + n))) h hF hX hp hL2 (ht.keep (u2_row (by omega))) (by omega) rfl rfl rfl (by omega)
  refine ⟨V', U', ?_, (kRow.u (by omega)).tr (kRow.ofN a2), a3, a4, a2, a5⟩
  rw [← a1]
  unfold kT3
  simp (disch := first | assumption | exact inB_n (by omega) (by decide) | exact inB_l (by omega) (by decide) | exact inB_al (by omega) (by decide) | exact inB_la (by omega) (by decide) | exact inB_j (by assumption) (by omega) (by decide) | exact inB_e (by assumption) (by decide) | omega) only [↓eM h, ↓bd_r, ↓lt_r, ↓Option.bind_some, ↓reduceIte, ix_nI, ix_l, nI_al, nI_la, nI_lm, u2_ne, u2_eq, nI_leI, nI_ltI, nI_eq, le_ln, le_nl, lt_ln, lt_nl, eq_nl, eq_ln, h35]
theorem q_kT2 {X : Tp} {p n v : Nat} {F M : Nat} {S : Mem} {V : Vw} {U : Uw} (h : shM S M) (hF : 10000 < F) (hX : okTp X) (hp : p ≤ X.1) (hn : n < 6) (hL : mL X p V U) (ht : mx V X) (h35 : V 0 35 = nI v) :
    ∃ V' U', kT2 F M (nI (6 + n)) (wM S M V U) = (if isR (wnS X 8 1 20 p) = true then kT3 F M (nI (6 + n)) (wM S M V' U') else some (0, wM S M V' U')) ∧ kRow n V V' ∧ u0 U U' ∧ (∀ k, wnS X 8 1 20 p = .inl k → V' 0 9 = nI k) ∧ fN (u2 V 4 (6 + n) (nI v)) V' ∧ ∀ q m, wnS X 8 1 20 p = .inr (q, m) → V' 0 35 = nI m ∧ mL X q V' U' := by
  have hL2 : mL X p (u2 V 4 (6 + n) (nI v)) U := mL_fr hL (fun k hk => u2_ne (by omega))
  obtain ⟨V', U', a1, a2, a3, a4, a5⟩ := q_wn (F := F) (i := 8) (lw := 1) (hi := 20) (x1 := 1) (x2 := 20) (w := 242939) (G := kT3 F M (nI (6 + n))) h hF hX hp hL2 (ht.keep (u2_row (by omega))) (by omega) rfl rfl rfl (by omega)
  refine ⟨V', U', ?_, (kRow.u (by omega)).tr (kRow.ofN a2), a3, a4, a2, a5⟩
  rw [← a1]
  unfold kT2
  simp (disch := first | assumption | exact inB_n (by omega) (by decide) | exact inB_l (by omega) (by decide) | exact inB_al (by omega) (by decide) | exact inB_la (by omega) (by decide) | exact inB_j (by assumption) (by omega) (by decide) | exact inB_e (by assumption) (by decide) | omega) only [↓eM h, ↓bd_r, ↓lt_r, ↓Option.bind_some, ↓reduceIte, ix_nI, ix_l, nI_al, nI_la, nI_lm, u2_ne, u2_eq, nI_leI, nI_ltI, nI_eq, le_ln, le_nl, lt_ln, lt_nl, eq_nl, eq_ln, h35]
