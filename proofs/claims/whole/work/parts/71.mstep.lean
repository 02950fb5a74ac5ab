/-! one turn of the model's reading of E -/
abbrev RS : Type := Nat × Bool × Nat × (Nat → Bool) × (Nat → Bool)
def rWant (X : Tp) (law p d : Nat) (op cm : Nat → Bool) : Sum Nat (Int32 × RS) :=
  if canB law (lT X p) = true then
    (if d = 5 then .inl (5 + 16 * lB X p)
    else if lT X p = 17 then .inr (30, lE X p, true, d + 1, setO op (d + 1) true, setO cm (d + 1) false)
    else if lT X p = 27 then .inr (28, lE X p, true, d + 1, setO op (d + 1) false, setO cm (d + 1) false)
    else .inr (nI (if factOf law (lT X p) = 0 then 100 + lV X p else factOf law (lT X p)), lE X p, false, popO op d, op, cm))
  else .inl (1 + 16 * lB X p)
def rNext (X : Tp) (p d : Nat) (op cm : Nat → Bool) : Sum Nat (Int32 × RS) :=
  if lT X p = 31 then .inr (20, lE X p, true, d, op, cm)
  else if lT X p = 32 then .inr (21, lE X p, true, d, op, cm)
  else if lT X p = 33 then .inr (22, lE X p, true, d, op, cm)
  else if (lT X p = 29 ∨ lT X p = 30) ∧ cm d = false then .inr (if lT X p = 29 then 24 else 25, lE X p, true, d, op, setO cm d true)
  else if lT X p = 18 ∨ lT X p = 19 then .inr (if lT X p = 18 then 26 else 27, lE X p, true, d, op, setO cm d false)
  else if lT X p = 28 ∧ 0 < d then .inr (29, lE X p, false, popO op (d - 1), op, cm)
  else if lT X p = 34 ∧ d = 0 then .inl 0 else .inl (1 + 16 * lB X p)
def rOut (X : Tp) (law : Nat) (S : Mem) (M p nc : Nat) (V : Vw) (U : Uw) (k11 : Nat → Int32 → Int32 → Mem → Option (Int32 × Mem)) (r : Sum Nat (Int32 × RS)) (Y : Option (Int32 × Mem)) : Prop := match r with
  | .inl k => ∃ V' U', Y = some (b1 (decide (k = 0)), wM S M V' U') ∧ frM V V' ∧ u0 U U' ∧ V' 11 = V 11 ∧ V' 0 20 = nI nc ∧ (k ≠ 0 → V' 0 9 = nI k) ∧ (k = 0 → mL X (lE X p) V' U')
  | .inr (c, s) => ∃ V' U', Y = k11 M (nI s.2.2.1) (b1 s.2.1) (wM S M V' U') ∧ frM V V' ∧ u0 U U' ∧ V' 11 nc = c ∧ (∀ i, i ≠ nc → V' 11 i = V 11 i) ∧ mP X law s.1 (nc + 1) s.2.2.1 s.2.2.2.1 s.2.2.2.2 V' U'
theorem mL_fr {X : Tp} {p : Nat} {V V' : Vw} {U : Uw} (hL : mL X p V U) (e : ∀ k, k = 3 ∨ k = 4 ∨ k = 5 ∨ k = 6 ∨ k = 8 → V' 0 k = V 0 k) : mL X p V' U := by
  obtain ⟨a1, a2, a3, a4, a5, a6⟩ := hL
  exact ⟨by rw [e 3 (by omega)]; exact a1, by rw [e 4 (by omega)]; exact a2, by rw [e 5 (by omega)]; exact a3, by rw [e 6 (by omega)]; exact a4, fun q => by rw [e 8 (by omega)]; exact a5 q, a6⟩
theorem q_nextL {X : Tp} {p : Nat} {F M : Nat} {S : Mem} {V : Vw} {U : Uw} (h : shM S M) (hF : 10000 < F) (hX : okTp X) (hp : p ≤ X.1) (hL : mL X p V U) (ht : mx V X) : ∃ V' U', fn_X9_nextToken F M (wM S M V U) = some ((), wM S M V' U') ∧ f0 V V' ∧ u0 U U' ∧ mL X (lE X p) V' U' := q_next h (by omega) hX (lE_b hp).2 hL.1 hL.2.1 ht
theorem mP_put {X : Tp} {law p nc d : Nat} {op cm : Nat → Bool} {c : Int32} {V : Vw} {U : Uw} (hP : mP X law p nc d op cm V U) : mP X law p (nc + 1) d op cm (u2 (u2 V 11 nc c) 0 20 (nI (nc + 1))) U := by
  obtain ⟨a1, a2, a3, a4, a5, a6⟩ := hP
  refine ⟨mL_fr a1 (fun k hk => by rw [u2_ne (by omega), u2_ne (by omega)]), a2.keep (by rw [u2_row (by omega), u2_row (by omega)]), by rw [u2_ne (by omega), u2_ne (by omega)]; exact a3, u2_eq ⟨rfl, rfl⟩, fun k h1 h2 => ?_, fun k h1 => ?_⟩
  · rw [u2_ne (by omega), u2_ne (by omega)]; exact a5 k h1 h2
  · rw [u2_ne (by omega), u2_ne (by omega)]; exact a6 k h1
theorem mP_cmp {X : Tp} {law p nc d : Nat} {op cm : Nat → Bool} {b : Bool} {V : Vw} {U : Uw} (hP : mP X law p nc d op cm V U) : mP X law p nc d op (setO cm d b) (u2 V 13 d (b1 b)) U := by
  obtain ⟨a1, a2, a3, a4, a5, a6⟩ := hP
  refine ⟨mL_fr a1 (fun k hk => by rw [u2_ne (by omega)]), a2.keep (by rw [u2_row (by omega)]), by rw [u2_ne (by omega)]; exact a3, by rw [u2_ne (by omega)]; exact a4, fun k h1 h2 => ?_, fun k h1 => ?_⟩
  · rw [u2_ne (by omega)]; exact a5 k h1 h2
  · by_cases hk : k = d
    · rw [u2_eq ⟨rfl, hk⟩, setO_eq hk]
    · rw [u2_ne (by omega), setO_ne hk]; exact a6 k h1
theorem mP_opn {X : Tp} {law p nc d : Nat} {op cm : Nat → Bool} {b : Bool} {v : Int32} {V : Vw} {U : Uw} (hv : v = if b = true then 1 else 2) (hP : mP X law p nc d op cm V U) : mP X law p nc (d + 1) (setO op (d + 1) b) (setO cm (d + 1) false) (u2 (u2 V 12 (d + 1) v) 13 (d + 1) 0) U := by
  obtain ⟨a1, a2, a3, a4, a5, a6⟩ := hP
  refine ⟨mL_fr a1 (fun k hk => by rw [u2_ne (by omega), u2_ne (by omega)]), a2.keep (by rw [u2_row (by omega), u2_row (by omega)]), by rw [u2_ne (by omega), u2_ne (by omega)]; exact a3, by rw [u2_ne (by omega), u2_ne (by omega)]; exact a4, fun k h1 h2 => ?_, fun k h1 => ?_⟩
  · by_cases hk : k = d + 1
    · rw [u2_ne (by omega), u2_eq ⟨rfl, hk⟩, setO_eq hk]; exact hv
    · rw [u2_ne (by omega), u2_ne (by omega), setO_ne hk]; exact a5 k h1 (by omega)
  · by_cases hk : k = d + 1
    · rw [u2_eq ⟨rfl, hk⟩, setO_eq hk]; rfl
    · rw [u2_ne (by omega), u2_ne (by omega), setO_ne hk]; exact a6 k (by omega)
theorem mP_dn {X : Tp} {law p nc d d' : Nat} {op cm : Nat → Bool} {V : Vw} {U : Uw} (hP : mP X law p nc d op cm V U) (hd : d' ≤ d) : mP X law p nc d' op cm V U :=
  ⟨hP.1, hP.2.1, hP.2.2.1, hP.2.2.2.1, fun k h1 h2 => hP.2.2.2.2.1 k h1 (by omega), fun k h1 => hP.2.2.2.2.2 k (by omega)⟩
theorem q_go172 {X : Tp} {law p nc d' : Nat} {w' : Bool} {op' cm' : Nat → Bool} {c : Int32} {W : Vw} {k11 : Nat → Int32 → Int32 → Mem → Option (Int32 × Mem)} {F M : Nat} {S : Mem} {V : Vw} {U : Uw} (h : shM S M) (hF : 10000 < F) (hX : okTp X) (hp : p ≤ X.1) (hW : mP X law p (nc + 1) d' op' cm' W U) (hfr : frM V W) (hc : W 11 nc = c) (ho : ∀ i, i ≠ nc → W 11 i = V 11 i) :
    rOut X law S M p nc V U k11 (.inr (c, lE X p, w', d', op', cm')) (f_X9_reads_172 F k11 M (nI d') (b1 w') (wM S M W U)) := by
  obtain ⟨V', U', e1, f1, g1, hL⟩ := q_nextL (F := F) h hF hX hp hW.1 hW.2.1
  unfold f_X9_reads_172
  refine ⟨V', U', ?_, hfr.tr (frM.of0 f1), g1, by rw [f1.1 11 (by omega)]; exact hc, fun i hi => by rw [f1.1 11 (by omega)]; exact ho i hi, hL, hW.2.1.keep (f1.1 1 (by omega)), by rw [f1.2 22 (by omega) (by omega) (by omega) (by omega)]; exact hW.2.2.1, by rw [f1.2 20 (by omega) (by omega) (by omega) (by omega)]; exact hW.2.2.2.1, fun k h1 h2 => by rw [f1.1 12 (by omega)]; exact hW.2.2.2.2.1 k h1 h2, fun k h1 => by rw [f1.1 13 (by omega)]; exact hW.2.2.2.2.2 k h1⟩
  simp (disch := first | assumption | exact inB_n (by omega) (by decide) | exact inB_l (by omega) (by decide) | exact inB_al (by omega) (by decide) | exact inB_la (by omega) (by decide) | exact inB_j (by assumption) (by omega) (by decide) | exact inB_e (by assumption) (by decide) | omega) only [↓eM h, ↓bd_r, ↓lt_r, ↓Option.bind_some, ↓reduceIte, ix_nI, ix_l, nI_al, nI_la, nI_lm, u2_ne, u2_eq, nI_leI, nI_ltI, nI_eq, le_ln, le_nl, lt_ln, lt_nl, eq_nl, eq_ln, e1]
theorem q_head65 {X : Tp} {law p nc d : Nat} {op cm : Nat → Bool} {k11 : Nat → Int32 → Int32 → Mem → Option (Int32 × Mem)} {F M : Nat} {S : Mem} {V : Vw} {U : Uw} (h : shM S M) (hX : okTp X) (hl : law < 2) (hp : p ≤ X.1) (hP : mP X law p nc d op cm V U) (hc : canB law (lT X p) = true) :
    b_X9_reads_11 F k11 M (nI d) 1 (wM S M V U) = f_X9_reads_65 F k11 M (nI d) 1 (nI (factOf law (lT X p))) (b1 (decide (lT X p = 17))) (b1 (decide (lT X p = 27))) (wM S M V U) := by
  obtain ⟨hL, ht, h22, -⟩ := hP
  have hT := lT_le (X := X) (p := p)
  have qf := q_fact (F := F) h hp hL h22 hl
  have qw : fn_X9_isWord F M 10631 (wM S M V U) = some (b1 (decide (lT X p = 17)), wM S M V U) := by
    by_cases h17 : lT X p = 17
    · rw [q_isWordY (i := 17) (w := 10631) h hp hL (by decide) rfl h17, decide_eq_true h17]; rfl
    · rw [q_isWordN (i := 17) (w := 10631) h hp hL (by decide) rfl h17, decide_eq_false h17]; rfl
  have qs : fn_X9_isSign F M 40 (wM S M V U) = some (b1 (decide (lT X p = 27)), wM S M V U) := by
    by_cases h17 : lT X p = 27
    · rw [q_isSignY (c := 40) (x := 40) h hX hL ht rfl (by decide) (by decide) (by decide) h17, decide_eq_true h17]; rfl
    · rw [q_isSignN (c := 40) (x := 40) h hX hL ht rfl (by decide) (by decide) (by decide) h17, decide_eq_false h17]; rfl
  unfold b_X9_reads_11
  rw [if_neg (show ¬ (1 : Int32) = 0 by decide)]
  simp only [↓eM h, qf, qw, qs, ↓bd_r]
  by_cases hf : factOf law (lT X p) = 0
  · rw [hf, if_pos (show nI 0 = 0 from rfl)]
    by_cases h17 : lT X p = 17
    · rw [decide_eq_true h17, if_neg (show ¬ b1 true = 0 by decide)]
    · rw [decide_eq_false h17, if_pos (show b1 false = 0 from rfl)]
      by_cases h27 : lT X p = 27
      · rw [decide_eq_true h27, if_neg (show ¬ b1 true = 0 by decide)]
      · rw [decide_eq_false h27, if_pos (show b1 false = 0 from rfl)]
        have h26 : lT X p = 26 := by
          rcases canB_iff.mp hc with q | q | q | q
          · exact absurd hf q
          · exact q
          · exact absurd q h17
          · exact absurd q h27
        rw [if_pos ((mL_tok (x := 2) (n := 2) hL rfl (by omega)).mpr (tkK_2.mpr h26))]
  · have f9 := fact_F ⟨law, hl⟩ ⟨lT X p, by omega⟩ hf
    have f9 : factOf law (lT X p) < 7 := f9.2.2.2.2.2.1
    rw [if_neg (show ¬ nI (factOf law (lT X p)) = 0 from fun q => hf ((nI_eq (by omega) (by omega)).mp (q : nI (factOf law (lT X p)) = nI 0)))]
theorem q_rWant {X : Tp} {law p nc d : Nat} {op cm : Nat → Bool} {k11 : Nat → Int32 → Int32 → Mem → Option (Int32 × Mem)} {F M : Nat} {S : Mem} {V : Vw} {U : Uw} (h : shM S M) (hF : 10000 < F) (hX : okTp X) (hl : law < 2) (hp : p ≤ X.1) (hd : d ≤ 5) (hn : nc < 6000) (hP : mP X law p nc d op cm V U) :
    rOut X law S M p nc V U k11 (rWant X law p d op cm) (b_X9_reads_11 F k11 M (nI d) 1 (wM S M V U)) := by
  have hT := lT_le (X := X) (p := p)
  have hX1 := hX.1
  have hlb := lB_b hp
  unfold rWant
  cases hc : canB law (lT X p) with
  | false =>
    obtain ⟨hL, ht, h22, h20, -⟩ := hP
    have hn9 : ¬ (factOf law (lT X p) ≠ 0 ∨ lT X p = 26 ∨ lT X p = 17 ∨ lT X p = 27) := fun q => by rw [canB_iff.mpr q] at hc; cases hc
    have hf : factOf law (lT X p) = 0 := Classical.byContradiction fun q => hn9 (Or.inl q)
    have q1 : ¬ lT X p = 26 := fun q => hn9 (Or.inr (Or.inl q))
    have q2 : ¬ lT X p = 17 := fun q => hn9 (Or.inr (Or.inr (Or.inl q)))
    have q3 : ¬ lT X p = 27 := fun q => hn9 (Or.inr (Or.inr (Or.inr q)))
    have qf := q_fact (F := F) h hp hL h22 hl
    rw [hf] at qf
    have qw := q_isWordN (F := F) (i := 17) (w := 10631) h hp hL (by decide) rfl q2
    have qs := q_isSignN (F := F) (c := 40) (x := 40) h hX hL ht rfl (by decide) rfl (by decide) q3
    have qe := q_fails (F := F) (k := 1) (x := 1) h hL rfl
    rw [if_neg (by decide)]
    refine ⟨_, U, ?_, frM.u (by omega), u0.rf, u2_row (by omega), by rw [u2_ne (by omega)]; exact h20, fun _ => u2_eq ⟨rfl, rfl⟩, fun q => by omega⟩
    rw [decide_eq_false (show ¬ 1 + 16 * lB X p = 0 by omega)]
    unfold b_X9_reads_11
    rw [if_neg (show ¬ (1 : Int32) = 0 by decide)]
    simp only [↓eM h, qf, qw, qs, ↓bd_r, ↓reduceIte]
    rw [if_pos (show nI 0 = 0 from rfl), if_neg (fun q => q1 (tkK_2.mp ((mL_tok (x := 2) (n := 2) hL rfl (by omega)).mp q))), qe]
    simp only [↓bd_r, rz_0]
    rfl
  | true =>
    rw [if_pos rfl, q_head65 h hX hl hp hP hc]
    unfold f_X9_reads_65
    by_cases h5 : d = 5
    · subst h5
      rw [if_pos rfl, if_pos (show nI 5 = 5 from rfl)]
      obtain ⟨hL, ht, h22, h20, -⟩ := hP
      have qe := q_fails (F := F) (k := 5) (x := 5) h hL rfl
      refine ⟨_, U, ?_, frM.u (by omega), u0.rf, u2_row (by omega), by rw [u2_ne (by omega)]; exact h20, fun _ => u2_eq ⟨rfl, rfl⟩, fun q => by omega⟩
      rw [decide_eq_false (show ¬ 5 + 16 * lB X p = 0 by omega)]
      simp only [↓eM h, qe, ↓bd_r, rz_0]
      rfl
    · rw [if_neg h5, if_neg (show ¬ nI d = 5 from fun q => h5 ((nI_eq (by omega) (by omega)).mp (q : nI d = nI 5)))]
      have e1 : nI d + (1 : Int32) = nI (d + 1) := nI_1 d
      have h20 := hP.2.2.2.1
      by_cases h17 : lT X p = 17
      · rw [if_pos h17, decide_eq_true h17, if_neg (show ¬ b1 true = 0 by decide)]
        have qp := q_puts (F := F) (x := 30) (U := U) h h20 hn
        have e9 : f_X9_reads_86 F k11 M (nI d) 1 (b1 true) (wM S M V U) = f_X9_reads_172 F k11 M (nI (d + 1)) (b1 true) (wM S M (u2 (u2 (u2 (u2 V 11 nc 30) 0 20 (nI (nc + 1))) 12 (d + 1) 1) 13 (d + 1) 0) U) := by
          unfold f_X9_reads_86 f_X9_reads_99 f_X9_reads_120
          rw [if_neg (show ¬ b1 true = 0 by decide)]
          simp only [↓eM h, qp, ↓bd_r, if_neg (show ¬ b1 true = 0 by decide), e1]
          simp (disch := first | assumption | exact inB_n (by omega) (by decide) | exact inB_l (by omega) (by decide) | exact inB_al (by omega) (by decide) | exact inB_la (by omega) (by decide) | exact inB_j (by assumption) (by omega) (by decide) | exact inB_e (by assumption) (by decide) | omega) only [↓eM h, ↓bd_r, ↓lt_r, ↓Option.bind_some, ↓reduceIte, ix_nI, ix_l, nI_al, nI_la, nI_lm, u2_ne, u2_eq, nI_leI, nI_ltI, nI_eq, le_ln, le_nl, lt_ln, lt_nl, eq_nl, eq_ln, sAZ_130 h (show d + 1 < 7 by omega)]
          rfl
        rw [e9]
        exact q_go172 h hF hX hp (mP_opn (b := true) rfl (mP_put hP)) (((frM.u (by omega)).tr (frM.u (by omega))).tr ((frM.u (by omega)).tr (frM.u (by omega)))) (by rw [u2_ne (by omega), u2_ne (by omega), u2_ne (by omega), u2_eq ⟨rfl, rfl⟩]) (fun i hi => by rw [u2_ne (by omega), u2_ne (by omega), u2_ne (by omega), u2_ne (by omega)])
      · rw [if_neg h17, decide_eq_false h17, if_pos (show b1 false = 0 from rfl)]
        by_cases h27 : lT X p = 27
        · rw [if_pos h27, decide_eq_true h27, if_neg (show ¬ b1 true = 0 by decide)]
          have qp := q_puts (F := F) (x := 28) (U := U) h h20 hn
          have e9 : f_X9_reads_86 F k11 M (nI d) 1 (b1 false) (wM S M V U) = f_X9_reads_172 F k11 M (nI (d + 1)) (b1 true) (wM S M (u2 (u2 (u2 (u2 V 11 nc 28) 0 20 (nI (nc + 1))) 12 (d + 1) 2) 13 (d + 1) 0) U) := by
            unfold f_X9_reads_86 f_X9_reads_99 f_X9_reads_120
            rw [if_pos (show b1 false = 0 from rfl)]
            simp only [↓eM h, qp, ↓bd_r, if_pos (show b1 false = 0 from rfl), e1]
            simp (disch := first | assumption | exact inB_n (by omega) (by decide) | exact inB_l (by omega) (by decide) | exact inB_al (by omega) (by decide) | exact inB_la (by omega) (by decide) | exact inB_j (by assumption) (by omega) (by decide) | exact inB_e (by assumption) (by decide) | omega) only [↓eM h, ↓bd_r, ↓lt_r, ↓Option.bind_some, ↓reduceIte, ix_nI, ix_l, nI_al, nI_la, nI_lm, u2_ne, u2_eq, nI_leI, nI_ltI, nI_eq, le_ln, le_nl, lt_ln, lt_nl, eq_nl, eq_ln, sAZ_130 h (show d + 1 < 7 by omega)]
            rfl
          rw [e9]
          exact q_go172 h hF hX hp (mP_opn (b := false) rfl (mP_put hP)) (((frM.u (by omega)).tr (frM.u (by omega))).tr ((frM.u (by omega)).tr (frM.u (by omega)))) (by rw [u2_ne (by omega), u2_ne (by omega), u2_ne (by omega), u2_eq ⟨rfl, rfl⟩]) (fun i hi => by rw [u2_ne (by omega), u2_ne (by omega), u2_ne (by omega), u2_ne (by omega)])
        · rw [if_neg h27, decide_eq_false h27, if_pos (show b1 false = 0 from rfl)]
          have fin : ∀ c : Nat, rOut X law S M p nc V U k11 (.inr (nI c, lE X p, false, popO op d, op, cm)) (f_X9_reads_147 F k11 M (nI d) M (nI c) (wM S M V U)) := by
            intro c
            have qp := q_puts (F := F) (x := nI c) (U := U) h h20 hn
            have hP2 := mP_put (c := nI c) hP
            unfold f_X9_reads_147
            simp only [↓eM h, qp, ↓bd_r]
            rw [q_pop152 h d F (by omega) (by omega) hP2.2.2.2.2.1]
            exact q_go172 (w' := false) h hF hX hp (mP_dn hP2 (popO_le d)) ((frM.u (by omega)).tr (frM.u (by omega))) (by rw [u2_ne (by omega), u2_eq ⟨rfl, rfl⟩]) (fun i hi => by rw [u2_ne (by omega), u2_ne (by omega)])
          by_cases hf : factOf law (lT X p) = 0
          · have h26 : lT X p = 26 := by
              rcases canB_iff.mp hc with q | q | q | q
              · exact absurd hf q
              · exact q
              · exact absurd q h17
              · exact absurd q h27
            have h8 := hP.1.2.2.2.2.1 h26
            rw [hf, if_pos rfl, if_pos (show nI 0 ≤ 0 by decide)]
            simp only [↓eM h, h8]
            rw [nI_al]
            exact fin _
          · have f9 := fact_F ⟨law, hl⟩ ⟨lT X p, by omega⟩ hf
            have f9 : factOf law (lT X p) < 7 := f9.2.2.2.2.2.1
            rw [if_neg hf, if_neg (nI_nle (by omega) (by omega))]
            exact fin _
