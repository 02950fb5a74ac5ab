/-! feed, both sides -/
abbrev Tp : Type := Nat × (Nat → Nat)
def okTp (T : Tp) : Prop := T.1 ≤ 1000 ∧ ∀ i, i < T.1 → okTape (T.2 i) = true
def cTp (V : Vw) (T : Tp) : Prop := V 0 1 = nI T.1 ∧ ∀ i, i < T.1 → V 7 i = nI (T.2 i)
def mTp (V : Vw) (T : Tp) : Prop := V 0 1 = nI T.1 ∧ ∀ i, i < T.1 → V 1 i = nI (T.2 i)
def fd8 : Nat → Int64 → Tp → Tp
  | 0, _, T => T
  | k + 1, x, T => fd8 k x (tapeS T (bytN x (8 * k)))
def fed3 (a b c : Int64) (T : Tp) : Tp := fd8 8 c (fd8 8 b (fd8 8 a T))
theorem okTp_s {T : Tp} {v : Nat} (h : okTp T) : okTp (tapeS T v) := by
  unfold tapeS
  by_cases hc : okTape v = true ∧ T.1 < 1000
  · rw [if_pos hc]
    refine ⟨by show T.1 + 1 ≤ 1000; omega, fun i hi => ?_⟩
    have hi : i < T.1 + 1 := hi
    show okTape (if i = T.1 then v else T.2 i) = true
    by_cases he : i = T.1
    · rw [if_pos he]; exact hc.1
    · rw [if_neg he]; exact h.2 i (by omega)
  · rw [if_neg hc]; exact h
theorem okTp_8 {x : Int64} : ∀ {k : Nat} {T : Tp}, okTp T → okTp (fd8 k x T)
  | 0, _, h => h
  | k + 1, _, h => okTp_8 (k := k) (okTp_s h)
theorem okTp_3 {a b c : Int64} {T : Tp} (h : okTp T) : okTp (fed3 a b c T) := okTp_8 (okTp_8 (okTp_8 h))
theorem inr_v : ∀ v : Fin 256, inr (nI v.val) 32 126 = (decide (32 ≤ v.val) && decide (v.val ≤ 126)) := by decide +kernel
theorem m8 (m : Nat) : nI (m + 8) + (-8 : Int32) = nI m := by
  show nI (m + 8) + -(8 : Int32) = _
  rw [← Int32.sub_eq_add_neg]
  exact pk_sub (b := 8) (a := m + 8) (by omega)
theorem okTape_le {v : Nat} (h : okTape v = true) : v ≤ 126 := by
  unfold okTape at h
  simp only [Bool.or_eq_true, Bool.and_eq_true, decide_eq_true_eq] at h
  omega
theorem c_feed8 {x : Int64} {F C : Nat} {S : Mem} {U : Uw} {D : Dw} (h : shC S C) : ∀ (k f : Nat) (V : Vw) (T : Tp), k ≤ 8 → k < f → okTp T → cTp V T →
    ∃ V', fix3 (b_X8_feedEight_3 F) f C x (nI (8 * k) + (-8 : Int32)) (wC S C V U D) = some ((), wC S C V' U D) ∧ cTp V' (fd8 k x T) ∧ (∀ j, j ≠ 0 → j ≠ 7 → V' j = V j) ∧ ∀ j, j ≠ 1 → V' 0 j = V 0 j := by
  intro k
  induction k with
  | zero =>
    intro f V T hk hf ho hT
    obtain ⟨f, rfl⟩ : ∃ f', f = f' + 1 := ⟨f - 1, by omega⟩
    exact ⟨V, rfl, hT, fun _ _ _ => rfl, fun _ _ => rfl⟩
  | succ k ih =>
    intro f V T hk hf ho hT
    obtain ⟨f, rfl⟩ : ∃ f', f = f' + 1 := ⟨f - 1, by omega⟩
    have ih := fun V hT => ih f V (tapeS T (bytN x (8 * k))) (by omega) (by omega) (okTp_s ho) hT
    have e8 : nI (8 * (k + 1)) + (-8 : Int32) = nI (8 * k) := m8 (8 * k)
    rw [e8]
    show ∃ V', b_X8_feedEight_3 F (fix3 (b_X8_feedEight_3 F) f) C x (nI (8 * k)) (wC S C V U D) = _ ∧ _
    generalize fix3 (b_X8_feedEight_3 F) f = k3 at ih ⊢
    unfold b_X8_feedEight_3
    rw [if_neg (show ¬ nI (8 * k) < 0 from nI_nlt (b := 0) (by omega) (by omega)), byt_s (show 8 * k ≤ 56 by omega), lt_r]
    have hv : bytN x (8 * k) < 256 := bytN_lt
    have h36 : f_X8_feedEight_36 F k3 C x (nI (8 * k)) (nI (bytN x (8 * k))) (wC S C V U D) = k3 C x (nI (8 * k) + (-8 : Int32)) (wC S C (if okTape (bytN x (8 * k)) = true ∧ T.1 < 1000 then u2 (u2 V 7 T.1 (nI (bytN x (8 * k)))) 0 1 (nI (T.1 + 1)) else V) U D) ∨ okTape (bytN x (8 * k)) = false := by
      cases hk2 : okTape (bytN x (8 * k)) with
      | false => exact Or.inr rfl
      | true =>
        left
        have h126 := okTape_le hk2
        have e9 := nar_F ⟨bytN x (8 * k), by omega⟩
        have e9 : vp_nar .byte ((nI (bytN x (8 * k))).toInt8.toInt32) = nI (bytN x (8 * k)) := e9
        have h1 := ho.1
        unfold f_X8_feedEight_36 f_X8_feedEight_68
        by_cases ht : T.1 < 1000
        · rw [if_pos ⟨rfl, ht⟩]
          simp (disch := first | assumption | exact inB_n (by omega) (by decide) | exact inB_l (by omega) (by decide) | exact inB_al (by omega) (by decide) | exact inB_la (by omega) (by decide) | exact inB_j (by assumption) (by omega) (by decide) | exact inB_e (by assumption) (by decide) | omega) only [↓eC h, ↓bd_r, ↓lt_r, ↓Option.bind_some, ↓reduceIte, ix_nI, ix_l, nI_al, nI_la, nI_lm, u2_ne, u2_eq, nI_leI, nI_ltI, nI_eq, le_ln, le_nl, lt_ln, lt_nl, eq_nl, eq_ln, hT.1, if_neg (show ¬ 1000 ≤ T.1 by omega), e9]
        · rw [if_neg (fun q => ht q.2)]
          simp (disch := first | assumption | exact inB_n (by omega) (by decide) | exact inB_l (by omega) (by decide) | exact inB_al (by omega) (by decide) | exact inB_la (by omega) (by decide) | exact inB_j (by assumption) (by omega) (by decide) | exact inB_e (by assumption) (by decide) | omega) only [↓eC h, ↓bd_r, ↓lt_r, ↓Option.bind_some, ↓reduceIte, ix_nI, ix_l, nI_al, nI_la, nI_lm, u2_ne, u2_eq, nI_leI, nI_ltI, nI_eq, le_ln, le_nl, lt_ln, lt_nl, eq_nl, eq_ln, hT.1, if_pos (show 1000 ≤ T.1 by omega)]
    have hn : okTape (bytN x (8 * k)) = false → tapeS T (bytN x (8 * k)) = T := fun q => by
      unfold tapeS
      rw [if_neg (fun r => by rw [q] at r; cases r.1)]
    have fin : okTape (bytN x (8 * k)) = true → ∃ V', f_X8_feedEight_36 F k3 C x (nI (8 * k)) (nI (bytN x (8 * k))) (wC S C V U D) = some ((), wC S C V' U D) ∧ cTp V' (fd8 (k + 1) x T) ∧ (∀ j, j ≠ 0 → j ≠ 7 → V' j = V j) ∧ ∀ j, j ≠ 1 → V' 0 j = V 0 j := by
      intro hok
      rcases h36 with h36 | h36
      · rw [h36]
        by_cases ht : T.1 < 1000
        · rw [if_pos ⟨hok, ht⟩]
          have e : tapeS T (bytN x (8 * k)) = (T.1 + 1, set1 T.2 T.1 (bytN x (8 * k))) := if_pos ⟨hok, ht⟩
          obtain ⟨V', a1, a2, a3, a4⟩ := ih (u2 (u2 V 7 T.1 (nI (bytN x (8 * k)))) 0 1 (nI (T.1 + 1))) (by
            rw [e]
            refine ⟨u2_eq ⟨rfl, rfl⟩, fun i hi => ?_⟩
            have hi : i < T.1 + 1 := hi
            rw [u2_row (by omega)]
            show u2 V 7 T.1 (nI (bytN x (8 * k))) 7 i = nI (if i = T.1 then bytN x (8 * k) else T.2 i)
            by_cases he : i = T.1
            · rw [if_pos he, u2_eq ⟨rfl, he⟩]
            · rw [if_neg he, u2_ne (Or.inr he)]; exact hT.2 i (by omega))
          exact ⟨V', a1, a2, fun j h0 h7 => by rw [a3 j h0 h7, u2_row h0, u2_row h7], fun j hj => by rw [a4 j hj, u2_ne (Or.inr hj), u2_row (by omega)]⟩
        · rw [if_neg (fun q => ht q.2)]
          have e : tapeS T (bytN x (8 * k)) = T := if_neg (fun q => ht q.2)
          exact ih V (by rw [e]; exact hT)
      · rw [h36] at hok; cases hok
    by_cases h10 : bytN x (8 * k) = 10
    · rw [if_pos (by rw [h10]; rfl)]
      exact fin (by rw [h10]; rfl)
    · rw [if_neg (show ¬ nI (bytN x (8 * k)) = (10 : Int32) from fun q => h10 ((nI_eq (b := 10) (by omega) (by decide)).mp q)), c_within, bd_r, inr_v ⟨bytN x (8 * k), hv⟩]
      have eo : okTape (bytN x (8 * k)) = (decide (32 ≤ bytN x (8 * k)) && decide (bytN x (8 * k) ≤ 126)) := by
        unfold okTape
        rw [decide_eq_false h10, Bool.false_or]
      show ∃ V', (if b1 (decide (32 ≤ bytN x (8 * k)) && decide (bytN x (8 * k) ≤ 126)) = 0 then _ else _) = _ ∧ _
      rw [← eo]
      cases hok : okTape (bytN x (8 * k)) with
      | false =>
        rw [if_pos (show b1 false = 0 from rfl)]
        exact ih V (by rw [hn hok]; exact hT)
      | true =>
        rw [if_neg (by decide)]
        exact fin hok
theorem c_feedEight {x : Int64} {T : Tp} {F C : Nat} {S : Mem} {V : Vw} {U : Uw} {D : Dw} (h : shC S C) (hF : 10 < F) (ho : okTp T) (hT : cTp V T) : ∃ V', fn_X8_feedEight F C x (wC S C V U D) = some ((), wC S C V' U D) ∧ cTp V' (fd8 8 x T) ∧ (∀ j, j ≠ 0 → j ≠ 7 → V' j = V j) ∧ ∀ j, j ≠ 1 → V' 0 j = V 0 j :=
  c_feed8 h 8 F V T (by omega) (by omega) ho hT
theorem ca_feed {a b c : Int64} {T : Tp} {F C : Nat} {S : Mem} {V : Vw} {U : Uw} {D : Dw} (h : shC S C) (hF : 10 < F) (ho : okTp T) (hT : cTp V T) : ∃ V', fn_X8_feed F C a b c (wC S C V U D) = some (nI (fed3 a b c T).1, wC S C V' U D) ∧ cTp V' (fed3 a b c T) ∧ (∀ j, j ≠ 0 → j ≠ 7 → V' j = V j) ∧ ∀ j, j ≠ 1 → V' 0 j = V 0 j := by
  obtain ⟨V1, e1, t1, f1, g1⟩ := c_feedEight (x := a) (U := U) (D := D) h hF ho hT
  obtain ⟨V2, e2, t2, f2, g2⟩ := c_feedEight (x := b) (U := U) (D := D) h hF (okTp_8 ho) t1
  obtain ⟨V3, e3, t3, f3, g3⟩ := c_feedEight (x := c) (U := U) (D := D) h hF (okTp_8 (okTp_8 ho)) t2
  refine ⟨V3, ?_, t3, fun j h0 h7 => by rw [f3 j h0 h7, f2 j h0 h7, f1 j h0 h7], fun j hj => by rw [g3 j hj, g2 j hj, g1 j hj]⟩
  unfold fn_X8_feed
  simp (disch := first | assumption | exact inB_n (by omega) (by decide) | exact inB_l (by omega) (by decide) | exact inB_al (by omega) (by decide) | exact inB_la (by omega) (by decide) | exact inB_j (by assumption) (by omega) (by decide) | exact inB_e (by assumption) (by decide) | omega) only [↓eC h, ↓bd_r, ↓lt_r, ↓Option.bind_some, ↓reduceIte, ix_nI, ix_l, nI_al, nI_la, nI_lm, u2_ne, u2_eq, nI_leI, nI_ltI, nI_eq, le_ln, le_nl, lt_ln, lt_nl, eq_nl, eq_ln, e1, e2, e3, t3.1]
  rfl
/-! the model's -/
def fdB (a b c : Int64) (i : Nat) : Nat := bytN (if i < 8 then a else if i < 16 then b else c) (56 - 8 * (i % 8))
def fdM (a b c : Int64) : Nat → Nat → Tp → Tp
  | 0, _, T => T
  | d + 1, i, T => fdM a b c d (i + 1) (tapeS T (fdB a b c i))
theorem fdM_3 (a b c : Int64) (T : Tp) : fdM a b c 24 0 T = fed3 a b c T := rfl
theorem sh_M : ∀ i : Fin 24, (56 : Int32) - 8 * (nI i.val &&& 7) = nI (56 - 8 * (i.val % 8)) := by decide +kernel
theorem m_feedL {a b c : Int64} {F M : Nat} {S : Mem} {U : Uw} (h : shM S M) : ∀ (d i f : Nat) (V : Vw) (T : Tp), i + d = 24 → d < f → okTp T → mTp V T →
    ∃ V', fix5 (b_X9_feed_8 F) f M a b c (nI i) (wM S M V U) = some (nI (fdM a b c d i T).1, wM S M V' U) ∧ mTp V' (fdM a b c d i T) ∧ (∀ j, j ≠ 0 → j ≠ 1 → V' j = V j) ∧ ∀ j, j ≠ 1 → V' 0 j = V 0 j := by
  intro d
  induction d with
  | zero =>
    intro i f V T hi hf ho hT
    obtain ⟨f, rfl⟩ : ∃ f', f = f' + 1 := ⟨f - 1, by omega⟩
    obtain rfl : i = 24 := by omega
    refine ⟨V, ?_, hT, fun _ _ _ => rfl, fun _ _ => rfl⟩
    show b_X9_feed_8 F (fix5 (b_X9_feed_8 F) f) M a b c (nI 24) (wM S M V U) = _
    unfold b_X9_feed_8
    rw [if_pos (by decide)]
    simp (disch := first | assumption | exact inB_n (by omega) (by decide) | exact inB_l (by omega) (by decide) | exact inB_al (by omega) (by decide) | exact inB_la (by omega) (by decide) | exact inB_j (by assumption) (by omega) (by decide) | exact inB_e (by assumption) (by decide) | omega) only [↓eM h, ↓bd_r, ↓lt_r, ↓Option.bind_some, ↓reduceIte, ix_nI, ix_l, nI_al, nI_la, nI_lm, u2_ne, u2_eq, nI_leI, nI_ltI, nI_eq, le_ln, le_nl, lt_ln, lt_nl, eq_nl, eq_ln, hT.1]
    rfl
  | succ d ih =>
    intro i f V T hi hf ho hT
    obtain ⟨f, rfl⟩ : ∃ f', f = f' + 1 := ⟨f - 1, by omega⟩
    have ih := fun V hT => ih (i + 1) f V (tapeS T (fdB a b c i)) (by omega) (by omega) (okTp_s ho) hT
    show ∃ V', b_X9_feed_8 F (fix5 (b_X9_feed_8 F) f) M a b c (nI i) (wM S M V U) = _ ∧ _
    generalize fix5 (b_X9_feed_8 F) f = k8 at ih ⊢
    have key : b_X9_feed_8 F k8 M a b c (nI i) (wM S M V U) = f_X9_feed_39 F k8 M a b c (nI i) (if i < 8 then a else if i < 16 then b else c) (wM S M V U) := by
      unfold b_X9_feed_8
      rw [if_neg (show ¬ (24 : Int32) ≤ nI i from nI_ge (b := 24) (by omega) (by decide))]
      by_cases h8 : i < 8
      · rw [if_neg (show ¬ (8 : Int32) ≤ nI i from nI_ge (b := 8) (by omega) (by decide)), if_pos h8]
      · rw [if_pos (show (8 : Int32) ≤ nI i from nI_le (a := 8) (by omega) (by omega)), if_neg h8]
        by_cases h16 : i < 16
        · rw [if_neg (show ¬ (16 : Int32) ≤ nI i from nI_ge (b := 16) (by omega) (by decide)), if_pos h16]
        · rw [if_pos (show (16 : Int32) ≤ nI i from nI_le (a := 16) (by omega) (by omega)), if_neg h16]
    rw [key]
    have hb : fdB a b c i = bytN (if i < 8 then a else if i < 16 then b else c) (56 - 8 * (i % 8)) := rfl
    generalize (if i < 8 then a else if i < 16 then b else c) = y at hb ⊢
    have hv : fdB a b c i < 256 := bytN_lt
    show ∃ V', f_X9_feed_39 F k8 M a b c (nI i) y (wM S M V U) = some (nI (fdM a b c d (i + 1) (tapeS T (fdB a b c i))).1, _) ∧ mTp V' (fdM a b c d (i + 1) (tapeS T (fdB a b c i))) ∧ _
    unfold f_X9_feed_39
    have es : (56 : Int32) - 8 * (nI i &&& 7) = nI (56 - 8 * (i % 8)) := sh_M ⟨i, by omega⟩
    rw [es, byt_u (show 56 - 8 * (i % 8) < 64 by omega), lt_r, ← hb]
    generalize fdB a b c i = v at hb hv ih ⊢
    have e1 : nI i + (1 : Int32) = nI (i + 1) := nI_1 i
    have skip : tapeS T v = T → ∃ V', f_X9_feed_114 F k8 M a b c (nI i) (wM S M V U) = some (nI (fdM a b c d (i + 1) (tapeS T v)).1, wM S M V' U) ∧ mTp V' (fdM a b c d (i + 1) (tapeS T v)) ∧ (∀ j, j ≠ 0 → j ≠ 1 → V' j = V j) ∧ ∀ j, j ≠ 1 → V' 0 j = V 0 j := by
      intro q
      unfold f_X9_feed_114
      rw [e1]
      exact ih V (by rw [q]; exact hT)
    have take : okTape v = true → T.1 < 1000 → ∃ V', f_X9_feed_93 F k8 M a b c (nI i) (nI v) (wM S M V U) = some (nI (fdM a b c d (i + 1) (tapeS T v)).1, wM S M V' U) ∧ mTp V' (fdM a b c d (i + 1) (tapeS T v)) ∧ (∀ j, j ≠ 0 → j ≠ 1 → V' j = V j) ∧ ∀ j, j ≠ 1 → V' 0 j = V 0 j := by
      intro hok ht
      unfold f_X9_feed_93 f_X9_feed_114
      simp (disch := first | assumption | exact inB_n (by omega) (by decide) | exact inB_l (by omega) (by decide) | exact inB_al (by omega) (by decide) | exact inB_la (by omega) (by decide) | exact inB_j (by assumption) (by omega) (by decide) | exact inB_e (by assumption) (by decide) | omega) only [↓eM h, ↓bd_r, ↓lt_r, ↓Option.bind_some, ↓reduceIte, ix_nI, ix_l, nI_al, nI_la, nI_lm, u2_ne, u2_eq, nI_leI, nI_ltI, nI_eq, le_ln, le_nl, lt_ln, lt_nl, eq_nl, eq_ln, hT.1, e1]
      have e : tapeS T v = (T.1 + 1, set1 T.2 T.1 v) := if_pos ⟨hok, ht⟩
      obtain ⟨V', a1, a2, a3, a4⟩ := ih (u2 (u2 V 1 T.1 (nI v)) 0 1 (nI (T.1 + 1))) (by
        rw [e]
        refine ⟨u2_eq ⟨rfl, rfl⟩, fun i hi => ?_⟩
        have hi : i < T.1 + 1 := hi
        rw [u2_row (by omega)]
        show u2 V 1 T.1 (nI v) 1 i = nI (if i = T.1 then v else T.2 i)
        by_cases he : i = T.1
        · rw [if_pos he, u2_eq ⟨rfl, he⟩]
        · rw [if_neg he, u2_ne (Or.inr he)]; exact hT.2 i (by omega))
      exact ⟨V', a1, a2, fun j h0 h7 => by rw [a3 j h0 h7, u2_row h0, u2_row h7], fun j hj => by rw [a4 j hj, u2_ne (Or.inr hj), u2_row (by omega)]⟩
    have h1 := ho.1
    rw [cm_I h, hT.1]
    by_cases ht : T.1 < 1000
    · rw [if_neg (show ¬ (1000 : Int32) ≤ nI T.1 from nI_ge (b := 1000) (by omega) (by decide))]
      by_cases h10 : v = 10
      · rw [if_pos (by rw [h10]; rfl)]
        exact take (by rw [h10]; rfl) ht
      · rw [if_neg (show ¬ nI v = (10 : Int32) from fun q => h10 ((nI_eq (b := 10) (by omega) (by decide)).mp q))]
        have eo : okTape v = (decide (32 ≤ v) && decide (v ≤ 126)) := by
          unfold okTape
          rw [decide_eq_false h10, Bool.false_or]
        have nt : okTape v = false → tapeS T v = T := fun q => if_neg (fun r => by rw [q] at r; cases r.1)
        by_cases h32 : v < 32
        · rw [if_pos ((lt_nl (m := 32) (by decide) (by omega)).mpr h32)]
          exact skip (nt (by rw [eo, decide_eq_false (by omega)]; rfl))
        · rw [if_neg (fun q => h32 ((lt_nl (m := 32) (by decide) (by omega)).mp q))]
          by_cases h126 : 126 < v
          · rw [if_pos ((lt_ln (m := 126) (by decide) (by omega)).mpr h126)]
            exact skip (nt (by rw [eo, decide_eq_false (show ¬ v ≤ 126 by omega), Bool.and_false]))
          · rw [if_neg (fun q => h126 ((lt_ln (m := 126) (by decide) (by omega)).mp q))]
            exact take (by rw [eo, decide_eq_true (show 32 ≤ v by omega), decide_eq_true (show v ≤ 126 by omega)]; rfl) ht
    · rw [if_pos (show (1000 : Int32) ≤ nI T.1 from nI_le (a := 1000) (by omega) (by omega))]
      exact skip (if_neg (fun q => ht q.2))
theorem ma_feed {a b c : Int64} {T : Tp} {F M : Nat} {S : Mem} {V : Vw} {U : Uw} (h : shM S M) (hF : 100 < F) (ho : okTp T) (hT : mTp V T) : ∃ V', fn_X9_feed F M a b c (wM S M V U) = some (nI (fed3 a b c T).1, wM S M V' U) ∧ mTp V' (fed3 a b c T) ∧ (∀ j, j ≠ 0 → j ≠ 1 → V' j = V j) := by
  unfold fn_X9_feed
  simp (disch := first | assumption | exact inB_n (by omega) (by decide) | exact inB_l (by omega) (by decide) | exact inB_al (by omega) (by decide) | exact inB_la (by omega) (by decide) | exact inB_j (by assumption) (by omega) (by decide) | exact inB_e (by assumption) (by decide) | omega) only [↓eM h, ↓bd_r, ↓lt_r, ↓Option.bind_some, ↓reduceIte, ix_nI, ix_l, nI_al, nI_la, nI_lm, u2_ne, u2_eq, nI_leI, nI_ltI, nI_eq, le_ln, le_nl, lt_ln, lt_nl, eq_nl, eq_ln]
  obtain ⟨V', a1, a2, a3, -⟩ := m_feedL (a := a) (b := b) (c := c) (U := U) h 24 0 F (u2 V 0 0 0) T (by omega) (by omega) ho ⟨by rw [u2_ne (by omega)]; exact hT.1, fun i hi => by rw [u2_row (by omega)]; exact hT.2 i hi⟩
  rw [fdM_3] at a1 a2
  exact ⟨V', a1, a2, fun j h0 h1 => by rw [a3 j h0 h1, u2_row h0]⟩
