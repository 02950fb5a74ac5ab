/-! nearest: the model's search -/
def tM (K : SkyT) (l : Nat) (w : Nat → Nat) (p q : Nat) (c : Nat → Nat) (V : Vw) : Prop := mSky V 0 K ∧ V 24 18 = nI l ∧ (∀ i, i < kN K → V 24 i = nI (c i)) ∧ (∀ i, i < 41 → V 27 i = nI (w i)) ∧ V 0 45 = nI p ∧ V 0 46 = nI q
def tK (V V' : Vw) : Prop := (∀ j, j ≠ 0 → j ≠ 28 → j ≠ 30 → V' j = V j) ∧ ∀ j, j ≠ 41 → j ≠ 42 → j ≠ 43 → j ≠ 47 → j ≠ 48 → V' 0 j = V 0 j
theorem tK.tr {V V1 V2 : Vw} (h1 : tK V V1) (h2 : tK V1 V2) : tK V V2 := ⟨fun j a b c => (h2.1 j a b c).trans (h1.1 j a b c), fun j a b c d e => (h2.2 j a b c d e).trans (h1.2 j a b c d e)⟩
theorem tM.keep {K : SkyT} {l p q : Nat} {w c : Nat → Nat} {V V' : Vw} (h : tM K l w p q c V) (e : tK V V') : tM K l w p q c V' := by
  obtain ⟨h1, h2, h3, h4, h5, h6⟩ := h
  refine ⟨h1.keep (fun j hj => e.1 j (by omega) (by omega) (by omega)), ?_, ?_, ?_, ?_, ?_⟩
  · rw [e.1 24 (by omega) (by omega) (by omega)]; exact h2
  · rw [e.1 24 (by omega) (by omega) (by omega)]; exact h3
  · rw [e.1 27 (by omega) (by omega) (by omega)]; exact h4
  · rw [e.2 45 (by omega) (by omega) (by omega) (by omega) (by omega)]; exact h5
  · rw [e.2 46 (by omega) (by omega) (by omega) (by omega) (by omega)]; exact h6
def tJv (K : SkyT) (l : Nat) (w s : Nat → Nat) (p q k x : Nat) (V : Vw) : Prop :=
  (V 0 47 = -1 ∧ ∀ c, vld K l s 2 c → ¬ keyT c k < x) ∨ ∃ c, vld K l s 2 c ∧ keyT c k < x ∧ V 0 47 = nI (awayK K l w c p q) ∧ V 0 48 = nI (chgT s c (kN K)) ∧ (∀ i, i < kN K → V 30 i = nI (c i)) ∧ ∀ c', vld K l s 2 c' → keyT c' k < x → scC K l w s p q true c ≤ scC K l w s p q true c'
theorem tJv.iff {K : SkyT} {l p q k x k' x' : Nat} {w s : Nat → Nat} {V : Vw} (h : tJv K l w s p q k x V) (e : ∀ c, vld K l s 2 c → (keyT c k < x ↔ keyT c k' < x')) : tJv K l w s p q k' x' V := by
  rcases h with ⟨h1, h2⟩ | ⟨c, h1, h2, h3, h4, h5, h6⟩
  · exact Or.inl ⟨h1, fun c hc q => h2 c hc ((e c hc).mpr q)⟩
  · exact Or.inr ⟨c, h1, (e c h1).mp h2, h3, h4, h5, fun c' hc' q => h6 c' hc' ((e c' hc').mpr q)⟩
theorem tJv.view {K : SkyT} {l p q k x : Nat} {w s : Nat → Nat} {V V' : Vw} (h : tJv K l w s p q k x V) (e1 : V' 0 47 = V 0 47) (e2 : V' 0 48 = V 0 48) (e3 : V' 30 = V 30) : tJv K l w s p q k x V' := by
  unfold tJv at h ⊢
  rw [e1, e2, e3]
  exact h
theorem q_copy6 {rp : Nat → Int32 → Int32 → Int32 → Mem → Option (Unit × Mem)} {F M : Nat} {S : Mem} {V : Vw} {U : Uw} (h : shM S M) : ∀ (m i f : Nat) (V : Vw), i + m = 6 → m < f → ∃ V', fix2 (b_X9_tries_64 F rp) f M (nI i) (wM S M V U) = some ((), wM S M V' U) ∧ (∀ j, j ≠ 30 → V' j = V j) ∧ (∀ y, i ≤ y → y < 6 → V' 30 y = V 24 y) ∧ ∀ y, y < i → V' 30 y = V 30 y := by
  intro m
  induction m with
  | zero =>
    intro i f V hi hf
    obtain ⟨f, rfl⟩ : ∃ f', f = f' + 1 := ⟨f - 1, by omega⟩
    refine ⟨V, ?_, fun _ _ => rfl, fun y h1 h2 => by omega, fun _ _ => rfl⟩
    show b_X9_tries_64 F rp (fix2 (b_X9_tries_64 F rp) f) M (nI i) (wM S M V U) = _
    generalize fix2 (b_X9_tries_64 F rp) f = k64
    unfold b_X9_tries_64
    rw [if_pos (show (6 : Int32) ≤ nI i from nI_le (a := 6) (b := i) (by omega) (by omega))]
  | succ m ih =>
    intro i f V hi hf
    obtain ⟨f, rfl⟩ : ∃ f', f = f' + 1 := ⟨f - 1, by omega⟩
    obtain ⟨V', p1, p2, p3, p4⟩ := ih (i + 1) f (u2 V 30 i (V 24 i)) (by omega) (by omega)
    refine ⟨V', ?_, fun j hj => by rw [p2 j hj, u2_row hj], fun y h1 h2 => ?_, fun y hy => by rw [p4 y (by omega), u2_ne (by omega)]⟩
    · show b_X9_tries_64 F rp (fix2 (b_X9_tries_64 F rp) f) M (nI i) (wM S M V U) = _
      generalize fix2 (b_X9_tries_64 F rp) f = k64 at p1 ⊢
      unfold b_X9_tries_64
      rw [if_neg (show ¬ (6 : Int32) ≤ nI i from nI_ge (a := i) (b := 6) (by omega) (by omega))]
      simp (disch := first | assumption | exact inB_n (by omega) (by decide) | exact inB_l (by omega) (by decide) | exact inB_al (by omega) (by decide) | exact inB_la (by omega) (by decide) | exact inB_j (by assumption) (by omega) (by decide) | exact inB_e (by assumption) (by decide) | omega) only [↓eM h, ix_nI, ix_l, nI_al, nI_la, nI_lm, u2_ne, u2_eq]
      exact p1
    · by_cases c : y = i
      · subst c; rw [p4 y (by omega), u2_eq ⟨rfl, rfl⟩]
      · rw [p3 y (by omega) h2, u2_ne (by omega)]
theorem sc_congr {K : SkyT} {l p q : Nat} {w s c c' : Nat → Nat} {ba : Bool} (h : ∀ i, i < kN K → c i = c' i) : scC K l w s p q ba c = scC K l w s p q ba c' := by
  unfold scC
  rw [away_congr h, keyT_congr h, show chgT s c (kN K) = chgT s c' (kN K) from sumTo_congr (fun i hi => by rw [h i hi])]
theorem q_record {l p q B : Nat} {K : SkyT} {w s c0 : Nat → Nat} {rp : Nat → Int32 → Int32 → Int32 → Mem → Option (Unit × Mem)} {F M : Nat} {S : Mem} {V : Vw} {U : Uw} (h : shM S M) (hF : 60 < F) (hw9 : wfK K) (hwf : wfS K B s) (hv : vld K l s 2 c0) (ht : tM K l w p q c0 V) (hb : ∀ c', vld K l s 2 c' → keyT c' (kN K) < keyT c0 (kN K) → scC K l w s p q true c0 ≤ scC K l w s p q true c') :
    ∃ V', f_X9_tries_50 F rp M (nI (chgT s c0 (kN K))) (nI (awayK K l w c0 p q)) (wM S M V U) = some ((), wM S M V' U) ∧ tK V V' ∧ tJv K l w s p q (kN K) (keyT c0 (kN K) + 1) V' := by
  have n6 := hw9.1.1
  obtain ⟨V', p1, p2, p3, -⟩ := q_copy6 (F := F) (rp := rp) (V := V) (U := U) h 6 0 F (u2 (u2 V 0 47 (nI (awayK K l w c0 p q))) 0 48 (nI (chgT s c0 (kN K)))) (by omega) (by omega)
  refine ⟨V', ?_, ⟨fun j a b c => by rw [p2 j c, u2_row a, u2_row a], fun j a b c d e => by rw [p2 0 (by omega), u2_ne (by omega), u2_ne (by omega)]⟩, Or.inr ⟨c0, hv, Nat.lt_succ_self _, ?_, ?_, fun i hi => ?_, fun c' hc' hk => ?_⟩⟩
  · unfold f_X9_tries_50
    simp only [↓eM h]
    exact p1
  · rw [p2 0 (by omega), u2_ne (by omega), u2_eq ⟨rfl, rfl⟩]
  · rw [p2 0 (by omega), u2_eq ⟨rfl, rfl⟩]
  · rw [p3 i (by omega) (by omega), u2_ne (by omega), u2_ne (by omega)]
    exact ht.2.2.1 i hi
  · by_cases g : keyT c' (kN K) < keyT c0 (kN K)
    · exact hb c' hc' g
    · have e : keyT c0 (kN K) = keyT c' (kN K) := by omega
      exact Nat.le_of_eq (sc_congr (keyT_inj (fun i hi => by have := vld_le hwf hv hi; have := vld_le hwf hc' hi; omega) e))
theorem scJ_le {aw ch key aw' ch' key' : Nat} (h1 : ch ≤ 6) (h2 : key < 2 ^ 36) (h : aw < aw' ∨ (aw = aw' ∧ (ch < ch' ∨ (ch = ch' ∧ key ≤ key')))) : scJ true aw ch key ≤ scJ true aw' ch' key' := by
  unfold scJ
  rw [if_pos rfl, if_pos rfl]
  omega
theorem tJv.stay {K : SkyT} {l p q B : Nat} {w s c c0 : Nat → Nat} {V : Vw} (hwf : wfS K B s) (hv : vld K l s 2 c0) (h1 : vld K l s 2 c) (h2 : keyT c (kN K) < keyT c0 (kN K)) (h3 : V 0 47 = nI (awayK K l w c p q)) (h4 : V 0 48 = nI (chgT s c (kN K))) (h5 : ∀ i, i < kN K → V 30 i = nI (c i)) (h6 : ∀ c', vld K l s 2 c' → keyT c' (kN K) < keyT c0 (kN K) → scC K l w s p q true c ≤ scC K l w s p q true c') (h7 : scC K l w s p q true c ≤ scC K l w s p q true c0) : tJv K l w s p q (kN K) (keyT c0 (kN K) + 1) V := by
  refine Or.inr ⟨c, h1, by omega, h3, h4, h5, fun c' hc' hk => ?_⟩
  by_cases g : keyT c' (kN K) < keyT c0 (kN K)
  · exact h6 c' hc' g
  · have e : keyT c0 (kN K) = keyT c' (kN K) := by omega
    rw [← sc_congr (keyT_inj (fun i hi => by have := vld_le hwf hv hi; have := vld_le hwf hc' hi; omega) e)]
    exact h7
theorem q_leaf {l p q B : Nat} {K : SkyT} {w s c0 : Nat → Nat} {rp : Nat → Int32 → Int32 → Int32 → Mem → Option (Unit × Mem)} {F M : Nat} {S : Mem} {V : Vw} {U : Uw} (h : shM S M) (hF : 60 < F) (hw9 : wfK K) (hwf : wfS K B s) (hw : ∀ i, w i ≤ 99) (hl2 : l < 2 ^ 31) (hp : p ≤ 999) (hq : q ≤ 40) (hv : vld K l s 2 c0) (ht : tM K l w p q c0 V) (hi : tJv K l w s p q (kN K) (keyT c0 (kN K)) V) :
    ∃ V', fb_X9_tries F rp M (nI (kN K)) 2 (nI (chgT s c0 (kN K))) (wM S M V U) = some ((), wM S M V' U) ∧ tK V V' ∧ tJv K l w s p q (kN K) (keyT c0 (kN K) + 1) V' := by
  have n6 := hw9.1.1
  have c6 := chg_le (s := s) (c := c0) (n := kN K)
  have k36 := key_lt36 hw9 hwf hv
  have a20 := away_le (l := l) (c := c0) hw9 hw hp hq
  obtain ⟨V1, e1, f1, f2⟩ := q_awayNow (F := F) (U := U) h hF hw9 ht.1 ht.2.1 hl2 ht.2.2.1 (fun k hk => vld_le hwf hv hk) ht.2.2.2.1 hw ht.2.2.2.2.1 ht.2.2.2.2.2 (by omega) (by omega)
  have t1 : tK V V1 := ⟨fun j a b c => f1 j a b, fun j a b c d e => f2 j a b c⟩
  have m1 := ht.keep t1
  have v4 : V 2 (Int32.toNatClampNeg 4) = nI (kN K) := ht.1.1.2.2.2.2
  have i1 : tJv K l w s p q (kN K) (keyT c0 (kN K)) V1 := hi.view (f2 47 (by omega) (by omega) (by omega)) (f2 48 (by omega) (by omega) (by omega)) (f1 30 (by omega) (by omega))
  unfold fb_X9_tries f_X9_tries_49
  simp (disch := first | assumption | exact inB_n (by omega) (by decide) | exact inB_l (by omega) (by decide) | exact inB_al (by omega) (by decide) | exact inB_la (by omega) (by decide) | exact inB_j (by assumption) (by omega) (by decide) | exact inB_e (by assumption) (by decide) | omega) only [↓eM h, v4, ↓reduceIte, e1, ↓bd_r]
  rcases i1 with ⟨h1, h2⟩ | ⟨c, h1, h2, h3, h4, h5, h6⟩
  · rw [h1, if_pos (by decide)]
    obtain ⟨V', q1, q2, q3⟩ := q_record (F := F) (rp := rp) (U := U) h hF hw9 hwf hv m1 (fun c' hc' hk => absurd hk (h2 c' hc'))
    exact ⟨V', q1, t1.tr q2, q3⟩
  · have a2 := away_le (l := l) (c := c) hw9 hw hp hq
    have c2 := chg_le (s := s) (c := c) (n := kN K)
    have k2 := key_lt36 hw9 hwf h1
    have rcd : scC K l w s p q true c0 ≤ scC K l w s p q true c → ∃ V', f_X9_tries_50 F rp M (nI (chgT s c0 (kN K))) (nI (awayK K l w c0 p q)) (wM S M V1 U) = some ((), wM S M V' U) ∧ tK V V' ∧ tJv K l w s p q (kN K) (keyT c0 (kN K) + 1) V' := fun g => by
      obtain ⟨V', q1, q2, q3⟩ := q_record (F := F) (rp := rp) (U := U) h hF hw9 hwf hv m1 (fun c' hc' hk => Nat.le_trans g (h6 c' hc' hk))
      exact ⟨V', q1, t1.tr q2, q3⟩
    have stay : scC K l w s p q true c ≤ scC K l w s p q true c0 → ∃ V', (some ((), wM S M V1 U) : Option (Unit × Mem)) = some ((), wM S M V' U) ∧ tK V V' ∧ tJv K l w s p q (kN K) (keyT c0 (kN K) + 1) V' := fun g => ⟨V1, rfl, t1, tJv.stay hwf hv h1 h2 h3 h4 h5 h6 g⟩
    rw [h3, h4, if_neg (nI_pos (show awayK K l w c p q < 2 ^ 31 by omega))]
    by_cases g1 : awayK K l w c p q < awayK K l w c0 p q
    · rw [if_pos (nI_lt g1 (by omega))]
      exact stay (scJ_le (by omega) k2 (Or.inl g1))
    · rw [if_neg (nI_nlt (by omega) (by omega))]
      by_cases g2 : awayK K l w c0 p q = awayK K l w c p q
      · rw [if_pos (congrArg nI g2)]
        by_cases g3 : chgT s c0 (kN K) < chgT s c (kN K)
        · rw [if_pos (nI_lt g3 (by omega))]
          exact rcd (scJ_le (by omega) k36 (Or.inr ⟨g2, Or.inl g3⟩))
        · rw [if_neg (nI_nlt (by omega) (by omega))]
          exact stay (scJ_le (by omega) k2 (Or.inr ⟨g2.symm, by omega⟩))
      · rw [if_neg (fun z => g2 ((nI_eq (by omega) (by omega)).mp z))]
        exact rcd (scJ_le (by omega) k36 (Or.inl (by omega)))
