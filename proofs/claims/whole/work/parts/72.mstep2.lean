/-! one turn behind a part -/
theorem b1_0 {P : Prop} [Decidable P] : (b1 (decide P) = 0) ↔ ¬ P := by
  by_cases h : P
  · rw [decide_eq_true h]; exact ⟨fun q => absurd q (by decide), fun q => absurd h q⟩
  · rw [decide_eq_false h]; exact ⟨fun _ => h, fun _ => rfl⟩
theorem q_isSignD {X : Tp} {p c t : Nat} {x : Int32} {F M : Nat} {S : Mem} {V : Vw} {U : Uw} (h : shM S M) (hX : okTp X) (hL : mL X p V U) (ht : mx V X) (hx : x = nI c) (hc : c < 127) (hs : sgT c = t) (h36 : 27 ≤ t ∧ t ≤ 34) : fn_X9_isSign F M x (wM S M V U) = some (b1 (decide (lT X p = t)), wM S M V U) := by
  by_cases h17 : lT X p = t
  · rw [q_isSignY h hX hL ht hx hc hs h36 h17, decide_eq_true h17]; rfl
  · rw [q_isSignN h hX hL ht hx hc hs h36 h17, decide_eq_false h17]; rfl
theorem q_isWordD {X : Tp} {p i : Nat} {w : Int64} {F M : Nat} {S : Mem} {V : Vw} {U : Uw} (h : shM S M) (hp : p ≤ X.1) (hL : mL X p V U) (hi : i < 25) (hw : w = lN (W27.getD i 0)) : fn_X9_isWord F M w (wM S M V U) = some (b1 (decide (lT X p = i)), wM S M V U) := by
  by_cases h17 : lT X p = i
  · rw [q_isWordY h hp hL hi hw h17, decide_eq_true h17]; rfl
  · rw [q_isWordN h hp hL hi hw h17, decide_eq_false h17]; rfl
theorem q_go424 {X : Tp} {law p nc d' : Nat} {w' : Bool} {op' cm' : Nat → Bool} {c : Int32} {W : Vw} {k11 : Nat → Int32 → Int32 → Mem → Option (Int32 × Mem)} {F M : Nat} {S : Mem} {V : Vw} {U : Uw} (h : shM S M) (hF : 10000 < F) (hX : okTp X) (hp : p ≤ X.1) (hW : mP X law p (nc + 1) d' op' cm' W U) (hfr : frM V W) (hc : W 11 nc = c) (ho : ∀ i, i ≠ nc → W 11 i = V 11 i) :
    rOut X law S M p nc V U k11 (.inr (c, lE X p, w', d', op', cm')) (f_X9_reads_424 F k11 M (nI d') (b1 w') (wM S M W U)) := q_go172 h hF hX hp hW hfr hc ho
theorem q_s43 {X : Tp} {p : Nat} {F M : Nat} {S : Mem} {V : Vw} {U : Uw} (h : shM S M) (hX : okTp X) (hL : mL X p V U) (ht : mx V X) : fn_X9_isSign F M 43 (wM S M V U) = some (b1 (decide (lT X p = 31)), wM S M V U) := q_isSignD (c := 43) h hX hL ht rfl (by decide) rfl (by decide)
theorem q_s45 {X : Tp} {p : Nat} {F M : Nat} {S : Mem} {V : Vw} {U : Uw} (h : shM S M) (hX : okTp X) (hL : mL X p V U) (ht : mx V X) : fn_X9_isSign F M 45 (wM S M V U) = some (b1 (decide (lT X p = 32)), wM S M V U) := q_isSignD (c := 45) h hX hL ht rfl (by decide) rfl (by decide)
theorem q_s42 {X : Tp} {p : Nat} {F M : Nat} {S : Mem} {V : Vw} {U : Uw} (h : shM S M) (hX : okTp X) (hL : mL X p V U) (ht : mx V X) : fn_X9_isSign F M 42 (wM S M V U) = some (b1 (decide (lT X p = 33)), wM S M V U) := q_isSignD (c := 42) h hX hL ht rfl (by decide) rfl (by decide)
theorem q_s60 {X : Tp} {p : Nat} {F M : Nat} {S : Mem} {V : Vw} {U : Uw} (h : shM S M) (hX : okTp X) (hL : mL X p V U) (ht : mx V X) : fn_X9_isSign F M 60 (wM S M V U) = some (b1 (decide (lT X p = 29)), wM S M V U) := q_isSignD (c := 60) h hX hL ht rfl (by decide) rfl (by decide)
theorem q_s61 {X : Tp} {p : Nat} {F M : Nat} {S : Mem} {V : Vw} {U : Uw} (h : shM S M) (hX : okTp X) (hL : mL X p V U) (ht : mx V X) : fn_X9_isSign F M 61 (wM S M V U) = some (b1 (decide (lT X p = 30)), wM S M V U) := q_isSignD (c := 61) h hX hL ht rfl (by decide) rfl (by decide)
theorem q_s41 {X : Tp} {p : Nat} {F M : Nat} {S : Mem} {V : Vw} {U : Uw} (h : shM S M) (hX : okTp X) (hL : mL X p V U) (ht : mx V X) : fn_X9_isSign F M 41 (wM S M V U) = some (b1 (decide (lT X p = 28)), wM S M V U) := q_isSignD (c := 41) h hX hL ht rfl (by decide) rfl (by decide)
theorem q_s59 {X : Tp} {p : Nat} {F M : Nat} {S : Mem} {V : Vw} {U : Uw} (h : shM S M) (hX : okTp X) (hL : mL X p V U) (ht : mx V X) : fn_X9_isSign F M 59 (wM S M V U) = some (b1 (decide (lT X p = 34)), wM S M V U) := q_isSignD (c := 59) h hX hL ht rfl (by decide) rfl (by decide)
theorem q_rNext {X : Tp} {law p nc d : Nat} {op cm : Nat → Bool} {k11 : Nat → Int32 → Int32 → Mem → Option (Int32 × Mem)} {F M : Nat} {S : Mem} {V : Vw} {U : Uw} (h : shM S M) (hF : 10000 < F) (hX : okTp X) (hp : p ≤ X.1) (hd : d ≤ 5) (hn : nc < 6000) (hP : mP X law p nc d op cm V U) :
    rOut X law S M p nc V U k11 (rNext X p d op cm) (b_X9_reads_11 F k11 M (nI d) 0 (wM S M V U)) := by
  have hT := lT_le (X := X) (p := p)
  have hX1 := hX.1
  have hlb := lB_b hp
  have h20 := hP.2.2.2.1
  have hL := hP.1
  have ht := hP.2.1
  have q43 := q_s43 (F := F) h hX hL ht
  have q45 := q_s45 (F := F) h hX hL ht
  have q42 := q_s42 (F := F) h hX hL ht
  have q60 := q_s60 (F := F) h hX hL ht
  have q61 := q_s61 (F := F) h hX hL ht
  have q41 := q_s41 (F := F) h hX hL ht
  have q59 := q_s59 (F := F) h hX hL ht
  have w18 : fn_X9_isWord F M 1111 (wM S M V U) = some (b1 (decide (lT X p = 18)), wM S M V U) := q_isWordD (i := 18) h hp hL (by decide) rfl
  have w19 : fn_X9_isWord F M 423 (wM S M V U) = some (b1 (decide (lT X p = 19)), wM S M V U) := q_isWordD (i := 19) h hp hL (by decide) rfl
  have d0 : nI d = 0 ↔ d = 0 := nI_eq (a := d) (b := 0) (by omega) (by omega)
  have dle : nI d ≤ 0 ↔ d ≤ 0 := nI_leI (a := d) (b := 0) (by omega) (by omega)
  -- a sign of reckoning
  have k237 : ∀ c : Int32, rOut X law S M p nc V U k11 (.inr (c, lE X p, true, d, op, cm)) (f_X9_reads_237 F k11 M (nI d) M c (wM S M V U)) := by
    intro c
    have qp := q_puts (F := F) (x := c) (U := U) h h20 hn
    unfold f_X9_reads_237
    simp only [↓eM h, qp, ↓bd_r]
    exact q_go424 (w' := true) h hF hX hp (mP_put hP) ((frM.u (by omega)).tr (frM.u (by omega))) (by rw [u2_ne (by omega), u2_eq ⟨rfl, rfl⟩]) (fun i hi => by rw [u2_ne (by omega), u2_ne (by omega)])
  have k289 : ∀ c : Int32, rOut X law S M p nc V U k11 (.inr (c, lE X p, true, d, op, setO cm d true)) (f_X9_reads_289 F k11 M (nI d) M c (wM S M V U)) := by
    intro c
    have qp := q_puts (F := F) (x := c) (U := U) h h20 hn
    unfold f_X9_reads_289
    simp only [↓eM h, qp, ↓bd_r]
    rw [sAZ_131 h (by omega)]
    exact q_go424 (w' := true) h hF hX hp (mP_cmp (b := true) (mP_put hP)) (((frM.u (by omega)).tr (frM.u (by omega))).tr (frM.u (by omega))) (by rw [u2_ne (by omega), u2_ne (by omega), u2_eq ⟨rfl, rfl⟩]) (fun i hi => by rw [u2_ne (by omega), u2_ne (by omega), u2_ne (by omega)])
  have k342 : ∀ c : Int32, rOut X law S M p nc V U k11 (.inr (c, lE X p, true, d, op, setO cm d false)) (f_X9_reads_342 F k11 M (nI d) M c (wM S M V U)) := by
    intro c
    have qp := q_puts (F := F) (x := c) (U := U) h h20 hn
    unfold f_X9_reads_342
    simp only [↓eM h, qp, ↓bd_r]
    rw [sAZ_130 h (by omega)]
    exact q_go424 (w' := true) h hF hX hp (mP_cmp (b := false) (mP_put hP)) (((frM.u (by omega)).tr (frM.u (by omega))).tr (frM.u (by omega))) (by rw [u2_ne (by omega), u2_ne (by omega), u2_eq ⟨rfl, rfl⟩]) (fun i hi => by rw [u2_ne (by omega), u2_ne (by omega), u2_ne (by omega)])
  have k418 : rOut X law S M p nc V U k11 (.inl (1 + 16 * lB X p)) (f_X9_reads_418 F M (wM S M V U)) := by
    have qe := q_fails (F := F) (k := 1) (x := 1) h hL rfl
    refine ⟨_, U, ?_, frM.u (by omega), u0.rf, u2_row (by omega), by rw [u2_ne (by omega)]; exact h20, fun _ => u2_eq ⟨rfl, rfl⟩, fun q => by omega⟩
    rw [decide_eq_false (show ¬ 1 + 16 * lB X p = 0 by omega)]
    unfold f_X9_reads_418
    simp only [↓eM h, qe, ↓bd_r, rz_0]
    rfl
  have k399 : rOut X law S M p nc V U k11 (if lT X p = 34 ∧ d = 0 then .inl 0 else .inl (1 + 16 * lB X p)) (f_X9_reads_399 F M (nI d) (wM S M V U)) := by
    unfold f_X9_reads_399
    by_cases h0 : d = 0
    · rw [if_pos (d0.mpr h0)]
      simp only [↓eM h, q59, ↓bd_r, b1_0]
      by_cases h34 : lT X p = 34
      · rw [if_pos ⟨h34, h0⟩, if_neg (fun q => q h34)]
        obtain ⟨V', U', e1, f1, g1, hL2⟩ := q_nextL (F := F) h hF hX hp hL ht
        refine ⟨V', U', ?_, frM.of0 f1, g1, f1.1 11 (by omega), by rw [f1.2 20 (by omega) (by omega) (by omega) (by omega)]; exact h20, fun q => absurd rfl q, fun _ => hL2⟩
        simp only [e1, ↓bd_r, rz_1]
        rfl
      · rw [if_neg (fun q => h34 q.1), if_pos h34]
        exact k418
    · rw [if_neg (fun q => h0 (d0.mp q)), if_neg (fun q => h0 q.2)]
      exact k418
  have k304 : rOut X law S M p nc V U k11 (if lT X p = 18 ∨ lT X p = 19 then .inr (if lT X p = 18 then 26 else 27, lE X p, true, d, op, setO cm d false)
      else if lT X p = 28 ∧ 0 < d then .inr (29, lE X p, false, popO op (d - 1), op, cm)
      else if lT X p = 34 ∧ d = 0 then .inl 0 else .inl (1 + 16 * lB X p)) (f_X9_reads_304 F k11 M (nI d) 0 (wM S M V U)) := by
    unfold f_X9_reads_304
    simp only [↓eM h, w18, ↓bd_r, b1_0]
    by_cases h18 : lT X p = 18
    · rw [if_pos (Or.inl h18), if_pos h18, if_neg (fun q => q h18)]
      unfold f_X9_reads_324
      simp only [↓eM h, w18, ↓bd_r, b1_0]
      rw [if_neg (fun q => q h18)]
      exact k342 26
    · rw [if_pos h18]
      simp only [↓eM h, w19, ↓bd_r, b1_0]
      by_cases h19 : lT X p = 19
      · rw [if_pos (Or.inr h19), if_neg h18, if_neg (fun q => q h19)]
        unfold f_X9_reads_324
        simp only [↓eM h, w18, ↓bd_r, b1_0]
        rw [if_pos h18]
        exact k342 27
      · rw [if_neg (by omega), if_pos h19]
        simp only [↓eM h, q41, ↓bd_r, b1_0]
        by_cases h28 : lT X p = 28
        · by_cases h0 : 0 < d
          · rw [if_pos ⟨h28, h0⟩, if_neg (show ¬ ¬ lT X p = 28 from fun q => q h28), if_neg (show ¬ nI d ≤ 0 from fun q => by have := dle.mp q; omega)]
            have qp := q_puts (F := F) (x := 29) (U := U) h h20 hn
            have e3 : nI d + (-1 : Int32) = nI (d - 1) := by
              obtain ⟨d9, rfl⟩ : ∃ d9, d = d9 + 1 := ⟨d - 1, by omega⟩
              exact pk_m1 d9
            have hP2 := mP_dn (d' := d - 1) (mP_put (c := 29) hP) (by omega)
            simp only [qp, ↓bd_r, e3]
            rw [q_pop379 h (d - 1) F (by omega) (by omega) hP2.2.2.2.2.1]
            exact q_go424 (w' := false) h hF hX hp (mP_dn hP2 (popO_le _)) ((frM.u (by omega)).tr (frM.u (by omega))) (by rw [u2_ne (by omega), u2_eq ⟨rfl, rfl⟩]) (fun i hi => by rw [u2_ne (by omega), u2_ne (by omega)])
          · rw [if_neg (show ¬ (lT X p = 28 ∧ 0 < d) from fun q => h0 q.2), if_neg (show ¬ ¬ lT X p = 28 from fun q => q h28), if_pos (dle.mpr (by omega))]
            exact k399
        · rw [if_neg (show ¬ (lT X p = 28 ∧ 0 < d) from fun q => h28 q.1), if_pos h28]
          exact k399
  have k206 : (lT X p = 31 ∨ lT X p = 32 ∨ lT X p = 33) → rOut X law S M p nc V U k11 (rNext X p d op cm) (f_X9_reads_206 F k11 M (nI d) (wM S M V U)) := by
    intro hs
    unfold f_X9_reads_206 rNext
    simp only [↓eM h, q43, ↓bd_r, b1_0]
    by_cases h31 : lT X p = 31
    · rw [if_pos h31, if_neg (fun q => q h31)]
      exact k237 20
    · rw [if_neg h31, if_pos h31]
      simp only [↓eM h, q45, ↓bd_r, b1_0]
      by_cases h32 : lT X p = 32
      · rw [if_pos h32, if_neg (fun q => q h32)]
        exact k237 21
      · rw [if_neg h32, if_pos h32, if_pos (by omega)]
        exact k237 22
  unfold b_X9_reads_11
  rw [if_pos rfl]
  simp only [↓eM h, q43, ↓bd_r, b1_0]
  by_cases h31 : lT X p = 31
  · rw [if_neg (fun q => q h31)]
    exact k206 (by omega)
  rw [if_pos h31]
  simp only [↓eM h, q45, ↓bd_r, b1_0]
  by_cases h32 : lT X p = 32
  · rw [if_neg (fun q => q h32)]
    exact k206 (by omega)
  rw [if_pos h32]
  simp only [↓eM h, q42, ↓bd_r, b1_0]
  by_cases h33 : lT X p = 33
  · rw [if_neg (fun q => q h33)]
    exact k206 (by omega)
  rw [if_pos h33]
  have k263 : (lT X p = 29 ∨ lT X p = 30) → rOut X law S M p nc V U k11 (rNext X p d op cm) (f_X9_reads_263 F k11 M (nI d) 0 (wM S M V U)) := by
    intro hs
    have hcm := hP.2.2.2.2.2 d (Nat.le_refl d)
    unfold f_X9_reads_263 rNext
    simp (disch := first | assumption | exact inB_n (by omega) (by decide) | exact inB_l (by omega) (by decide) | exact inB_al (by omega) (by decide) | exact inB_la (by omega) (by decide) | exact inB_j (by assumption) (by omega) (by decide) | exact inB_e (by assumption) (by decide) | omega) only [↓eM h, ↓bd_r, ↓lt_r, ↓Option.bind_some, ↓reduceIte, ix_nI, ix_l, nI_al, nI_la, nI_lm, u2_ne, u2_eq, nI_leI, nI_ltI, nI_eq, le_ln, le_nl, lt_ln, lt_nl, eq_nl, eq_ln, hcm]
    rw [if_neg h31, if_neg h32, if_neg h33]
    cases hb : cm d with
    | true =>
      rw [if_neg (fun q => by cases q.2), if_neg (show ¬ b1 true = 0 by decide)]
      exact k304
    | false =>
      rw [if_pos ⟨hs, rfl⟩, if_pos (show b1 false = 0 from rfl)]
      simp only [↓eM h, q60, ↓bd_r, b1_0]
      by_cases h29 : lT X p = 29
      · rw [if_pos h29, if_neg (fun q => q h29)]
        exact k289 24
      · rw [if_neg h29, if_pos h29]
        exact k289 25
  simp only [↓eM h, q60, ↓bd_r, b1_0]
  by_cases h29 : lT X p = 29
  · rw [if_neg (fun q => q h29)]
    exact k263 (by omega)
  rw [if_pos h29]
  simp only [↓eM h, q61, ↓bd_r, b1_0]
  by_cases h30 : lT X p = 30
  · rw [if_neg (fun q => q h30)]
    exact k263 (by omega)
  rw [if_pos h30]
  unfold rNext
  rw [if_neg h31, if_neg h32, if_neg h33, if_neg (fun q => by rcases q.1 with q | q <;> omega)]
  exact k304
/-- a turn, whatever is awaited -/
def rStep (X : Tp) (law : Nat) (s : RS) : Sum Nat (Int32 × RS) := if s.2.1 = true then rWant X law s.1 s.2.2.1 s.2.2.2.1 s.2.2.2.2 else rNext X s.1 s.2.2.1 s.2.2.2.1 s.2.2.2.2
theorem rStep_f {X : Tp} {law p d : Nat} {op cm : Nat → Bool} : rStep X law (p, false, d, op, cm) = rNext X p d op cm := if_neg Bool.false_ne_true
theorem rStep_t {X : Tp} {law p d : Nat} {op cm : Nat → Bool} : rStep X law (p, true, d, op, cm) = rWant X law p d op cm := if_pos rfl
theorem q_rStep {X : Tp} {law nc : Nat} {s : RS} {k11 : Nat → Int32 → Int32 → Mem → Option (Int32 × Mem)} {F M : Nat} {S : Mem} {V : Vw} {U : Uw} (h : shM S M) (hF : 10000 < F) (hX : okTp X) (hl : law < 2) (hp : s.1 ≤ X.1) (hd : s.2.2.1 ≤ 5) (hn : nc < 6000) (hP : mP X law s.1 nc s.2.2.1 s.2.2.2.1 s.2.2.2.2 V U) :
    rOut X law S M s.1 nc V U k11 (rStep X law s) (b_X9_reads_11 F k11 M (nI s.2.2.1) (b1 s.2.1) (wM S M V U)) := by
  obtain ⟨p, w, d, op, cm⟩ := s
  cases w with
  | true =>
    rw [rStep_t]
    exact q_rWant h hF hX hl hp hd hn hP
  | false =>
    rw [rStep_f]
    exact q_rNext h hF hX hp hd hn hP
