/-! the model reads E -/
theorem rStep_adv {X : Tp} {law : Nat} {s s1 : RS} {c : Int32} (hl : law < 2) (hp : s.1 ≤ X.1) (hd : s.2.2.1 ≤ 5) (h : rStep X law s = .inr (c, s1)) : s.1 < s1.1 ∧ s1.1 ≤ X.1 ∧ s1.2.2.1 ≤ 5 := by
  obtain ⟨p, w, d, op, cm⟩ := s
  have hp : p ≤ X.1 := hp
  have hd : d ≤ 5 := hd
  have key : lT X p ≠ 35 → p < lE X p ∧ lE X p ≤ X.1 := fun q => lE_adv hp rfl q
  have pl := popO_le (op := op) d
  have pl2 := popO_le (op := op) (d - 1)
  cases w with
  | true =>
    rw [rStep_t] at h
    unfold rWant at h
    split at h
    · rename_i hc
      have hk := key (fun z => by rw [z, canB_35 ⟨law, hl⟩] at hc; cases hc)
      split at h
      · cases h
      · split at h
        · cases h
          exact ⟨hk.1, hk.2, (by omega : d + 1 ≤ 5)⟩
        · split at h
          · cases h
            exact ⟨hk.1, hk.2, (by omega : d + 1 ≤ 5)⟩
          · cases h
            exact ⟨hk.1, hk.2, (by omega : popO op d ≤ 5)⟩
    · cases h
  | false =>
    rw [rStep_f] at h
    unfold rNext at h
    split at h
    · have hk := key (by omega)
      cases h
      exact ⟨hk.1, hk.2, hd⟩
    · split at h
      · have hk := key (by omega)
        cases h
        exact ⟨hk.1, hk.2, hd⟩
      · split at h
        · have hk := key (by omega)
          cases h
          exact ⟨hk.1, hk.2, hd⟩
        · split at h
          · rename_i hq
            have hk := key (by rcases hq.1 with q | q <;> omega)
            cases h
            exact ⟨hk.1, hk.2, hd⟩
          · split at h
            · rename_i hq
              have hk := key (by omega)
              cases h
              exact ⟨hk.1, hk.2, hd⟩
            · split at h
              · rename_i hq
                have hk := key (by omega)
                cases h
                exact ⟨hk.1, hk.2, (by omega : popO op (d - 1) ≤ 5)⟩
              · split at h <;> cases h
theorem q_run {X : Tp} {law : Nat} {F M : Nat} {S : Mem} (h : shM S M) (hF : 10000 < F) (hX : okTp X) (hl : law < 2) : ∀ (cs : List Int32) (s s1 : RS) (nc fu : Nat) (V : Vw) (U : Uw), Rn X law cs s s1 → s.1 ≤ X.1 → s.2.2.1 ≤ 5 → nc + X.1 < 6000 + s.1 → mP X law s.1 nc s.2.2.1 s.2.2.2.1 s.2.2.2.2 V U → 1000 + s1.1 < fu + s.1 →
    ∃ V' U' fu', fix3 (b_X9_reads_11 F) fu M (nI s.2.2.1) (b1 s.2.1) (wM S M V U) = fix3 (b_X9_reads_11 F) fu' M (nI s1.2.2.1) (b1 s1.2.1) (wM S M V' U') ∧ 1000 < fu' ∧ frM V V' ∧ u0 U U' ∧ layL (V' 11) nc cs ∧ (∀ i, i < nc ∨ nc + X.1 ≤ i + s.1 → V' 11 i = V 11 i) ∧ mP X law s1.1 (nc + cs.length) s1.2.2.1 s1.2.2.2.1 s1.2.2.2.2 V' U' ∧ s.1 + cs.length ≤ s1.1 ∧ s1.1 ≤ X.1 ∧ s1.2.2.1 ≤ 5 := by
  intro cs
  induction cs with
  | nil =>
    intro s s1 nc fu V U hr hp hd hn hP hfu
    have hr : s = s1 := hr
    subst hr
    exact ⟨V, U, fu, rfl, by omega, frM.rf, u0.rf, trivial, fun _ _ => rfl, hP, Nat.le_refl _, hp, hd⟩
  | cons c cs ih =>
    intro s s1 nc fu V U hr hp hd hn hP hfu
    obtain ⟨s2, h1, h2⟩ := hr
    have ha := rStep_adv hl hp hd h1
    have hle : ∀ (cs : List Int32) (s s1 : RS), Rn X law cs s s1 → s.1 ≤ X.1 → s.2.2.1 ≤ 5 → s.1 ≤ s1.1 := by
      intro cs
      induction cs with
      | nil =>
        intro s s1 hr _ _
        have hr : s = s1 := hr
        rw [hr]
        exact Nat.le_refl _
      | cons c cs ih =>
        intro s s1 hr h3 h4
        obtain ⟨s2, h5, h6⟩ := hr
        have hb := rStep_adv hl h3 h4 h5
        have := ih s2 s1 h6 hb.2.1 hb.2.2
        omega
    have h9 := hle cs s2 s1 h2 ha.2.1 ha.2.2
    obtain ⟨fu, rfl⟩ : ∃ f', fu = f' + 1 := ⟨fu - 1, by omega⟩
    have h3 := q_rStep (F := F) (k11 := fix3 (b_X9_reads_11 F) fu) h hF hX hl hp hd (by omega) hP
    rw [h1] at h3
    obtain ⟨V1, U1, a1, a2, a3, a4, a5, a6⟩ := h3
    obtain ⟨V2, U2, fu', c1, c0, c2, c3, c4, c5, c6, c7, c8, c9⟩ := ih s2 s1 (nc + 1) fu V1 U1 h2 ha.2.1 ha.2.2 (by omega) a6 (by omega)
    rw [List.length_cons, show nc + (cs.length + 1) = nc + 1 + cs.length by omega]
    refine ⟨V2, U2, fu', ?_, c0, a2.tr c2, a3.tr c3, ⟨by rw [c5 nc (by omega)]; exact a4, c4⟩, fun i hi => by rw [c5 i (by omega), a5 i (by omega)], c6, by omega, c8, c9⟩
    rw [← c1]
    exact a1
/-! a fault is never 0 -/
def posR (r : Res) : Prop := ∀ k, r = .inl k → 0 < k
theorem opL_pos {X : Tp} {O : Nat → Bool} {Q : Nat → Res} (hQ : ∀ p, posR (Q p)) : ∀ (n p : Nat) (f : Den), posR (opL X O Q n p f)
  | 0, p, f => fun k e => by cases e
  | n + 1, p, f => by
    intro k e
    unfold opL at e
    by_cases hc : O (lT X p) = true
    · rw [if_pos hc] at e
      cases hq : Q (lE X p) with
      | inl k' => rw [hq] at e; cases e; exact hQ _ _ hq
      | inr z =>
        obtain ⟨r, g'⟩ := z
        rw [hq] at e
        exact opL_pos hQ n r _ k e
    · rw [if_neg hc] at e
      cases e
theorem chain_pos {X : Tp} {O : Nat → Bool} {Q : Nat → Res} (hQ : ∀ p, posR (Q p)) (p : Nat) : posR (chain X O Q p) := by
  intro k e
  unfold chain at e
  cases hq : Q p with
  | inl k' => rw [hq] at e; cases e; exact hQ _ _ hq
  | inr z =>
    obtain ⟨r, g'⟩ := z
    rw [hq] at e
    exact opL_pos hQ 1000 r g' k e
theorem pTest_pos {X : Tp} {P : Nat → Res} (hP : ∀ p, posR (P p)) (p : Nat) : posR (pTest X P p) := by
  have hS : ∀ p, posR (pSum X P p) := fun p => chain_pos (chain_pos hP) p
  intro k e
  unfold pTest at e
  cases hq : pSum X P p with
  | inl k' => rw [hq] at e; cases e; exact hS _ _ hq
  | inr z =>
    obtain ⟨r, g'⟩ := z
    rw [hq] at e
    have e : (if o29 (lT X r) = true then (match pSum X P (lE X r) with
      | .inl k => Sum.inl k
      | .inr (r', g) => Sum.inr (r', fun v => joinedF (nI (lT X r)) (g' v) (g v))) else Sum.inr (r, g')) = Sum.inl k := e
    by_cases hc : o29 (lT X r) = true
    · rw [if_pos hc] at e
      cases hq2 : pSum X P (lE X r) with
      | inl k' => rw [hq2] at e; cases e; exact hS _ _ hq2
      | inr z =>
        rw [hq2] at e
        cases e
    · rw [if_neg hc] at e
      cases e
theorem fl_pos {X : Tp} {k p : Nat} (h : 0 < k) : posR (fl X k p) := fun k' e => by
  unfold fl at e
  cases e
  omega
theorem pPart_pos {X : Tp} {law : Nat} : ∀ (m p : Nat), posR (pPart X law m p) := by
  intro m
  induction m with
  | zero =>
    intro p k e
    unfold pPart at e
    split at e
    · exact fl_pos (by omega) k e
    · exact fl_pos (by omega) k e
  | succ m ih =>
    intro p k e
    unfold pPart at e
    split at e
    · by_cases h17 : lT X p = 17
      · rw [if_pos h17] at e
        cases hq : pPart X law m (lE X p) with
        | inl k' => rw [hq] at e; cases e; exact ih _ _ hq
        | inr z => rw [hq] at e; cases e
      · rw [if_neg h17] at e
        by_cases h27 : lT X p = 27
        · rw [if_pos h27] at e
          cases hq : pTests X (pPart X law m) (lE X p) with
          | inl k' => rw [hq] at e; cases e; exact chain_pos (pTest_pos ih) _ _ hq
          | inr z =>
            obtain ⟨r, g'⟩ := z
            rw [hq] at e
            have e : (if lT X r = 28 then Sum.inr (lE X r, g') else fl X 1 r) = Sum.inl k := e
            by_cases h28 : lT X r = 28
            · rw [if_pos h28] at e; cases e
            · rw [if_neg h28] at e; exact fl_pos (by omega) k e
        · rw [if_neg h27] at e
          cases e
    · exact fl_pos (by omega) k e
theorem pE_pos {X : Tp} {law p : Nat} : posR (pTests X (pPart X law 5) p) := chain_pos (pTest_pos (pPart_pos 5)) p
theorem q_reads {X : Tp} {law p nc : Nat} {F M : Nat} {S : Mem} {V : Vw} {U : Uw} (h : shM S M) (hF : 10000 < F) (hX : okTp X) (hl : law < 2) (hp : p ≤ X.1) (hL : mL X p V U) (ht : mx V X) (h22 : V 0 22 = nI law) (h20 : V 0 20 = nI nc) (hn : nc + X.1 < 6000 + p) : match pTests X (pPart X law 5) p with
    | .inl k => ∃ V' U', fn_X9_reads F M (wM S M V U) = some (0, wM S M V' U') ∧ frM V V' ∧ u0 U U' ∧ V' 0 9 = nI k ∧ ∀ i, i < nc ∨ nc + X.1 ≤ i + p → V' 11 i = V 11 i
    | .inr (q, f) => ∃ V' U', fn_X9_reads F M (wM S M V U) = some (b1 (decide (lT X q = 34)), wM S M V' U') ∧ frM V V' ∧ u0 U U' ∧ (∀ i, i < nc ∨ nc + X.1 ≤ i + p → V' 11 i = V 11 i) ∧ (¬ lT X q = 34 → V' 0 9 = nI (1 + 16 * lB X q)) ∧ (lT X q = 34 → mL X (lE X q) V' U' ∧ ∃ nc', V' 0 20 = nI nc' ∧ nc < nc' ∧ nc' + p ≤ nc + q ∧ lawM (V' 11) nc nc' f) := by
  have hX1 := hX.1
  have h9 := rd_E (law := law) (op := fun _ => false) (cm := fun _ => false) hX hl hp rfl
  have hps := pE_pos (X := X) (law := law) (p := p)
  have hA := fun p hp => pPart_adv (X := X) (law := law) 5 p hp
  have hPP : mP X law p nc 0 (fun _ => false) (fun _ => false) (u2 V 13 0 0) U := ⟨mL_fr hL (fun k _ => u2_ne (by omega)), ht.keep (u2_row (by omega)), by rw [u2_ne (by omega)]; exact h22, by rw [u2_ne (by omega)]; exact h20, fun k h1 h2 => by omega, fun k hk => by
    obtain rfl : k = 0 := by omega
    exact u2_eq ⟨rfl, rfl⟩⟩
  have e0 : fn_X9_reads F M (wM S M V U) = fix3 (b_X9_reads_11 F) F M (nI 0) (b1 true) (wM S M (u2 V 13 0 0) U) := by
    unfold fn_X9_reads
    have := sAZ_130 (α := Int32 × Mem) (V := V) (U := U) (K := fun S2 => fix3 (b_X9_reads_11 F) F M (0 : Int32) (1 : Int32) S2) h (show 0 < 7 by omega)
    simp only [↓eM h]
    exact this
  have f0 : frM V (u2 V 13 0 0) := frM.u (by omega)
  have g11 : u2 V 13 0 0 11 = V 11 := u2_row (by omega)
  rw [e0]
  generalize u2 V 13 0 0 = W at hPP f0 g11 ⊢
  -- a run, and the turn that ends it
  have fin : ∀ (cs : List Int32) (s1 : RS) (k : Nat), Rn X law cs (p, true, 0, fun _ => false, fun _ => false) s1 → rStep X law s1 = .inl k → ∃ V' U', fix3 (b_X9_reads_11 F) F M (nI 0) (b1 true) (wM S M W U) = some (b1 (decide (k = 0)), wM S M V' U') ∧ frM V V' ∧ u0 U U' ∧ (∀ i, i < nc ∨ nc + X.1 ≤ i + p → V' 11 i = V 11 i) ∧ (k ≠ 0 → V' 0 9 = nI k) ∧ V' 0 20 = nI (nc + cs.length) ∧ layL (V' 11) nc cs ∧ p + cs.length ≤ s1.1 ∧ (k = 0 → mL X (lE X s1.1) V' U') := by
    intro cs s1 k hr hk
    have hle : s1.1 ≤ X.1 := by
      have q : ∀ (cs : List Int32) (s s1 : RS), Rn X law cs s s1 → s.1 ≤ X.1 → s.2.2.1 ≤ 5 → s1.1 ≤ X.1 := by
        intro cs
        induction cs with
        | nil =>
          intro s s1 hr h1 _
          have hr : s = s1 := hr
          rw [← hr]
          exact h1
        | cons c cs ih =>
          intro s s1 hr h3 h4
          obtain ⟨s2, h5, h6⟩ := hr
          have hb := rStep_adv hl h3 h4 h5
          exact ih s2 s1 h6 hb.2.1 hb.2.2
      exact q cs _ s1 hr hp (by show 0 ≤ 5; omega)
    obtain ⟨V1, U1, fu', c1, c0, c2, c3, c4, c5, c6, c7, c8, c9⟩ := q_run h hF hX hl cs (p, true, 0, fun _ => false, fun _ => false) s1 nc F W U hr hp (by show 0 ≤ 5; omega) hn hPP (by show 1000 + s1.1 < F + p; omega)
    have c7 : p + cs.length ≤ s1.1 := c7
    obtain ⟨fu', rfl⟩ : ∃ f', fu' = f' + 1 := ⟨fu' - 1, by omega⟩
    have h3 := q_rStep (F := F) (k11 := fix3 (b_X9_reads_11 F) fu') h hF hX hl c8 c9 (by omega) c6
    rw [hk] at h3
    obtain ⟨V2, U2, a1, a2, a3, a4, a5, a6, a7⟩ := h3
    exact ⟨V2, U2, c1.trans a1, (f0.tr c2).tr a2, c3.tr a3, fun i hi => by rw [a4, c5 i hi, g11], a6, a5, by rw [a4]; exact c4, c7, a7⟩
  cases hq : pTests X (pPart X law 5) p with
  | inl k =>
    rw [hq] at h9
    have k0 := hps k hq
    obtain ⟨cs, s1, r1, r2⟩ := h9
    obtain ⟨V', U', a1, a2, a3, a4, a5, -⟩ := fin cs s1 k r1 r2
    rw [decide_eq_false (show ¬ k = 0 by omega)] at a1
    exact ⟨V', U', a1, a2, a3, a5 (by omega), a4⟩
  | inr z =>
    obtain ⟨q, f⟩ := z
    rw [hq] at h9
    obtain ⟨cs, op', cm', r1, r2, r3, r4⟩ := h9
    by_cases h34 : lT X q = 34
    · rw [if_pos h34] at r2
      obtain ⟨V', U', a1, a2, a3, a4, a5, a6, a7, a8, a9⟩ := fin cs _ 0 r1 r2
      rw [decide_eq_true (show 0 = 0 from rfl)] at a1
      have a8 : p + cs.length ≤ q := a8
      refine ⟨V', U', by rw [decide_eq_true h34]; exact a1, a2, a3, a4, fun z => absurd h34 z, fun _ => ⟨a9 rfl, nc + cs.length, a6, by omega, by omega, ev_law r3 a7 rfl⟩⟩
    · rw [if_neg h34] at r2
      obtain ⟨V', U', a1, a2, a3, a4, a5, -⟩ := fin cs _ _ r1 r2
      rw [decide_eq_false (show ¬ 1 + 16 * lB X q = 0 by omega)] at a1
      exact ⟨V', U', by rw [decide_eq_false h34]; exact a1, a2, a3, a4, fun _ => a5 (by omega), fun z => absurd z h34⟩
