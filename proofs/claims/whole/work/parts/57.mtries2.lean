/-! nearest: the model's tries -/
theorem tK.set {V V2 : Vw} {k : Nat} {a b : Int32} (h : tK (u2 V 24 k a) V2) : tK (u2 V 24 k b) (u2 V2 24 k b) := by
  refine ⟨fun j h1 h2 h3 => ?_, fun j h1 h2 h3 h4 h5 => ?_⟩
  · by_cases c : j = 24
    · subst c
      funext i
      by_cases g : i = k
      · rw [u2_eq ⟨rfl, g⟩, u2_eq ⟨rfl, g⟩]
      · rw [u2_ne (Or.inr g), u2_ne (Or.inr g), h.1 24 (by omega) (by omega) (by omega), u2_ne (Or.inr g)]
    · rw [u2_row c, u2_row c, h.1 j h1 h2 h3, u2_row c]
  · rw [u2_ne (by omega), u2_ne (by omega), h.2 j h1 h2 h3 h4 h5, u2_ne (by omega)]
theorem tK.rf {V : Vw} : tK V V := ⟨fun _ _ _ _ => rfl, fun _ _ _ _ _ _ => rfl⟩
theorem tM.set {K : SkyT} {l p q k y : Nat} {w c : Nat → Nat} {V : Vw} {a : Int32} (hk : k < 6) (h : tM K l w p q c (u2 V 24 k a)) : tM K l w p q (set1 c k y) (u2 V 24 k (nI y)) := by
  obtain ⟨h1, h2, h3, h4, h5, h6⟩ := h
  refine ⟨h1.keep (fun j hj => by rw [u2_row (by omega), u2_row (by omega)]), ?_, fun i hi => ?_, fun i hi => ?_, ?_, ?_⟩
  · rw [u2_ne (by omega)] at h2 ⊢; exact h2
  · by_cases g : i = k
    · rw [u2_eq ⟨rfl, g⟩, g, set1_eq]
    · have := h3 i hi
      rw [u2_ne (Or.inr g)] at this
      rw [u2_ne (Or.inr g), set1_ne g]; exact this
  · have := h4 i hi
    rw [u2_ne (by omega)] at this ⊢; exact this
  · rw [u2_ne (by omega)] at h5 ⊢; exact h5
  · rw [u2_ne (by omega)] at h6 ⊢; exact h6
theorem x5_ti {a : Nat} (ha : a ≤ 1000) : (nI a - 2).toInt = (a : Int) - 2 := by
  have := ti_sub (x := nI a) (y := 2) (by rw [nI_toInt (by omega)]; omega) (by decide)
  rw [this, nI_toInt (by omega)]
  rfl
theorem x5_next {a : Nat} : nI a - 2 + 1 = nI (a + 1) - 2 := by
  rw [← nI_add a 1, Int32.sub_eq_add_neg, Int32.sub_eq_add_neg, Int32.add_assoc, Int32.add_assoc, Int32.add_comm (-2 : Int32)]
  rfl
theorem x5_end {a t : Nat} (ha : a ≤ 40) (ht : t ≤ 5) : nI a + 2 < nI (a + t) - 2 ↔ t = 5 := by
  rw [Int32.lt_iff_toInt_lt, x5_ti (by omega), show nI a + 2 = nI (a + 2) from nI_add a 2, nI_toInt (by omega)]
  omega
theorem x5_high {a : Nat} (ha : a ≤ 100) : inr (nI a - 2) 0 40 = true ↔ 2 ≤ a ∧ a ≤ 42 := by
  unfold inr
  rw [Bool.and_eq_true, decide_eq_true_iff, decide_eq_true_iff, Int32.lt_iff_toInt_lt, Int32.lt_iff_toInt_lt, x5_ti (by omega), show (0 : Int32).toInt = 0 from by decide, show (40 : Int32).toInt = 40 from by decide]
  omega
theorem x5_here {a t : Nat} (ha : a ≤ 40) (ht : t ≤ 5) : nI (a + t) - 2 = nI a ↔ t = 2 := by
  rw [← Int32.toInt_inj, x5_ti (by omega), nI_toInt (by omega)]
  omega
def bT (lw tp a t : Nat) : Nat := min (tp + 1) (max lw (a + t - 2))
theorem q_tries {l p q B : Nat} {K : SkyT} {w s : Nat → Nat} {F M : Nat} {S : Mem} {U : Uw} (h : shM S M) (hF : 60 < F) (hw9 : wfK K) (hwf : wfS K B s) (hw : ∀ i, w i ≤ 99) (hl2 : l < 2 ^ 31) (hp : p ≤ 999) (hq : q ≤ 40) :
    ∀ (d k : Nat) (c0 : Nat → Nat) (V : Vw), k ≤ kN K → kN K - k < d → (∀ i, i < k → lowK l s 2 i ≤ c0 i ∧ c0 i ≤ topK l s 2 i) → (∀ i, k ≤ i → c0 i = s i) → tM K l w p q c0 V → tJv K l w s p q k (keyT c0 k) V →
      ∃ V', fn_X9_tries F d M (nI k) 2 (nI (chgT s c0 k)) (wM S M V U) = some ((), wM S M V' U) ∧ tK V V' ∧ tJv K l w s p q k (keyT c0 k + 1) V' := by
  have n6 := hw9.1.1
  intro d
  induction d with
  | zero => intro k c0 V hk hd; omega
  | succ d ihd =>
    intro k c0 V hk hd hlo hhi ht hi
    show ∃ V', fb_X9_tries F (fn_X9_tries F d) M (nI k) 2 (nI (chgT s c0 k)) (wM S M V U) = _ ∧ _
    by_cases hkn : k = kN K
    · subst hkn
      exact q_leaf h hF hw9 hwf hw hl2 hp hq hlo ht hi
    have s4 := (hwf.1 k (by omega)).1
    have lt := low_top (l := l) (e := 2) s4
    have loop : ∀ (m t f : Nat) (V : Vw), t + m = 5 → m < f → tM K l w p q c0 (u2 V 24 k (nI (s k))) → tJv K l w s p q (k + 1) (64 * keyT c0 k + bT (lowK l s 2 k) (topK l s 2 k) (s k) t) V →
        ∃ V', fix6 (b_X9_tries_106 F (fn_X9_tries F d)) f M (nI k) 2 (nI (chgT s c0 k)) (nI (s k)) (nI (s k + t) - 2) (wM S M V U) = some ((), wM S M V' U) ∧ tK (u2 V 24 k (nI (s k))) V' ∧ tJv K l w s p q (k + 1) (64 * keyT c0 k + (topK l s 2 k + 1)) V' := by
      intro m
      induction m with
      | zero =>
        intro t f V hm hf ht hi
        obtain ⟨f, rfl⟩ : ∃ f', f = f' + 1 := ⟨f - 1, by omega⟩
        refine ⟨u2 V 24 k (nI (s k)), ?_, tK.rf, ?_⟩
        · show b_X9_tries_106 F (fn_X9_tries F d) (fix6 (b_X9_tries_106 F (fn_X9_tries F d)) f) M (nI k) 2 (nI (chgT s c0 k)) (nI (s k)) (nI (s k + t) - 2) (wM S M V U) = _
          generalize fix6 (b_X9_tries_106 F (fn_X9_tries F d)) f = k106
          unfold b_X9_tries_106
          rw [if_pos ((x5_end s4 (by omega)).mpr (by omega))]
          simp (disch := first | assumption | exact inB_n (by omega) (by decide) | exact inB_l (by omega) (by decide) | exact inB_al (by omega) (by decide) | exact inB_la (by omega) (by decide) | exact inB_j (by assumption) (by omega) (by decide) | exact inB_e (by assumption) (by decide) | omega) only [↓eM h, ix_nI, ix_l, nI_al, nI_la, nI_lm, u2_ne, u2_eq]
        · have e : bT (lowK l s 2 k) (topK l s 2 k) (s k) t = topK l s 2 k + 1 := by
            have : topK l s 2 k ≤ s k + 2 := by unfold topK; split <;> omega
            unfold bT; omega
          rw [e] at hi
          exact hi.view (u2_ne (by omega)) (u2_ne (by omega)) (u2_row (by omega))
      | succ m ih =>
        intro t f V hm hf ht hi
        obtain ⟨f, rfl⟩ : ∃ f', f = f' + 1 := ⟨f - 1, by omega⟩
        have vl : V 24 18 = nI l := by have := ht.2.1; rwa [u2_ne (by omega)] at this
        have hx := q_isLost (F := F) (U := U) h (show k < 6 by omega) vl hl2
        show ∃ V', b_X9_tries_106 F (fn_X9_tries F d) (fix6 (b_X9_tries_106 F (fn_X9_tries F d)) f) M (nI k) 2 (nI (chgT s c0 k)) (nI (s k)) (nI (s k + t) - 2) (wM S M V U) = _ ∧ _
        have ends : ¬ nI (s k) + 2 < nI (s k + t) - 2 := fun z => by have := (x5_end s4 (by omega)).mp z; omega
        have skip : bT (lowK l s 2 k) (topK l s 2 k) (s k) (t + 1) = bT (lowK l s 2 k) (topK l s 2 k) (s k) t → ∃ V', f_X9_tries_171 F (fn_X9_tries F d) (fix6 (b_X9_tries_106 F (fn_X9_tries F d)) f) M (nI k) 2 (nI (chgT s c0 k)) (nI (s k)) (nI (s k + t) - 2) (wM S M V U) = some ((), wM S M V' U) ∧ tK (u2 V 24 k (nI (s k))) V' ∧ tJv K l w s p q (k + 1) (64 * keyT c0 k + (topK l s 2 k + 1)) V' := fun e => by
          unfold f_X9_tries_171
          rw [x5_next, Nat.add_assoc]
          exact ih (t + 1) f V (by omega) (by omega) ht (by rw [e]; exact hi)
        have visit : 2 ≤ s k + t → lowK l s 2 k ≤ s k + t - 2 → s k + t - 2 ≤ topK l s 2 k → ∃ V', f_X9_tries_141 F (fn_X9_tries F d) (fix6 (b_X9_tries_106 F (fn_X9_tries F d)) f) M (nI k) 2 (nI (chgT s c0 k)) (nI (s k)) (nI (s k + t) - 2) (wM S M V U) = some ((), wM S M V' U) ∧ tK (u2 V 24 k (nI (s k))) V' ∧ tJv K l w s p q (k + 1) (64 * keyT c0 k + (topK l s 2 k + 1)) V' := fun y0 y1 y2 => by
          have ey : nI (s k + t) - 2 = nI (s k + t - 2) := pk_sub (b := 2) y0
          have eb : bT (lowK l s 2 k) (topK l s 2 k) (s k) t = s k + t - 2 := by unfold bT; omega
          have eb1 : bT (lowK l s 2 k) (topK l s 2 k) (s k) (t + 1) = s k + t - 2 + 1 := by unfold bT; omega
          have ek : keyT (set1 c0 k (s k + t - 2)) (k + 1) = 64 * keyT c0 k + (s k + t - 2) := by
            show 64 * keyT (set1 c0 k (s k + t - 2)) k + set1 c0 k (s k + t - 2) k = _
            rw [set1_eq, keyT_congr (c' := c0) (fun i hi => set1_ne (by omega))]
          have ec : chgT s (set1 c0 k (s k + t - 2)) (k + 1) = chgT s c0 k + if s k + t - 2 = s k then 0 else 1 := by
            show chgT s (set1 c0 k (s k + t - 2)) k + (if set1 c0 k (s k + t - 2) k = s k then 0 else 1) = _
            rw [set1_eq, show chgT s (set1 c0 k (s k + t - 2)) k = chgT s c0 k from sumTo_congr (fun i hi => by rw [set1_ne (by omega)])]
          obtain ⟨V2, a1, a2, a3⟩ := ihd (k + 1) (set1 c0 k (s k + t - 2)) (u2 V 24 k (nI (s k + t - 2))) (by omega) (by omega) (fun i hi => by
            by_cases g : i = k
            · subst g; rw [set1_eq]; exact ⟨y1, y2⟩
            · rw [set1_ne g]; exact hlo i (by omega)) (fun i hi => by rw [set1_ne (by omega)]; exact hhi i (by omega)) (ht.set (by omega)) (by
            rw [ek, ← eb]
            exact hi.view (u2_ne (by omega)) (u2_ne (by omega)) (u2_row (by omega)))
          rw [ek] at a3
          obtain ⟨V3, b1_, b2, b3⟩ := ih (t + 1) f V2 (by omega) (by omega) (ht.keep a2.set) (by rw [eb1]; exact a3)
          refine ⟨V3, ?_, a2.set.tr b2, b3⟩
          have ew : nI (s k + t - 2) + 1 = nI (s k + (t + 1)) - 2 := by rw [← ey, x5_next, Nat.add_assoc]
          unfold f_X9_tries_141 f_X9_tries_167 f_X9_tries_171
          rw [ec] at a1
          rw [ey]
          generalize fix6 (b_X9_tries_106 F (fn_X9_tries F d)) f = k106 at b1_ ⊢
          generalize fn_X9_tries F d = rp at a1 ⊢
          by_cases g : s k + t - 2 = s k
          · rw [if_pos g] at a1
            simp (disch := first | assumption | exact inB_n (by omega) (by decide) | exact inB_l (by omega) (by decide) | exact inB_al (by omega) (by decide) | exact inB_la (by omega) (by decide) | exact inB_j (by assumption) (by omega) (by decide) | exact inB_e (by assumption) (by decide) | omega) only [↓eM h, ix_nI, ix_l, nI_al, nI_la, nI_lm, u2_ne, u2_eq]
            rw [if_pos (show nI (s k + t - 2) = nI (s k) from congrArg nI g), a1, bd_r]
            rw [← nI_add, show nI 1 = (1 : Int32) from rfl, ew]
            exact b1_
          · rw [if_neg g] at a1
            simp (disch := first | assumption | exact inB_n (by omega) (by decide) | exact inB_l (by omega) (by decide) | exact inB_al (by omega) (by decide) | exact inB_la (by omega) (by decide) | exact inB_j (by assumption) (by omega) (by decide) | exact inB_e (by assumption) (by decide) | omega) only [↓eM h, ix_nI, ix_l, nI_al, nI_la, nI_lm, u2_ne, u2_eq]
            rw [if_neg (fun z => g ((nI_eq (by omega) (by omega)).mp z)), a1, bd_r]
            rw [← nI_add, show nI 1 = (1 : Int32) from rfl, ew]
            exact b1_
        generalize fix6 (b_X9_tries_106 F (fn_X9_tries F d)) f = k106 at skip visit ⊢
        unfold b_X9_tries_106
        rw [if_neg ends, q_isHigh, bd_r]
        cases g1 : inr (nI (s k + t) - 2) 0 40 with
        | false =>
          rw [if_pos (show b1 false = 0 by decide)]
          refine skip ?_
          have g2 : ¬ (2 ≤ s k + t ∧ s k + t ≤ 42) := fun z => by rw [(x5_high (by omega)).mpr z] at g1; cases g1
          unfold bT; omega
        | true =>
          have g2 := (x5_high (by omega)).mp g1
          rw [if_neg (show ¬ b1 true = 0 by decide)]
          simp only [↓eM h, hx, ↓bd_r]
          cases g3 : lo l k with
          | false =>
            have e1 : lowK l s 2 k = s k - 2 := by unfold lowK; rw [if_neg (by rw [g3]; decide)]
            have e2 : topK l s 2 k = min 40 (s k + 2) := by unfold topK; rw [if_neg (by rw [g3]; decide)]
            rw [if_pos (show b1 false = 0 by decide)]
            exact visit g2.1 (by omega) (by omega)
          | true =>
            have e1 : lowK l s 2 k = s k := by unfold lowK; rw [if_pos g3]
            have e2 : topK l s 2 k = s k := by unfold topK; rw [if_pos g3]
            rw [if_neg (show ¬ b1 true = 0 by decide)]
            by_cases g4 : t = 2
            · rw [if_pos ((x5_here s4 (by omega)).mpr g4)]
              exact visit g2.1 (by omega) (by omega)
            · rw [if_neg (fun z => g4 ((x5_here s4 (by omega)).mp z))]
              refine skip ?_
              unfold bT; omega
    have hsk := hhi k (Nat.le_refl _)
    have vk : V 24 k = nI (s k) := by rw [ht.2.2.1 k (by omega), hsk]
    obtain ⟨V', p1, p2, p3⟩ := loop 5 0 F V (by omega) (by omega) (by rw [u2_self vk]; exact ht) (hi.iff (fun c hc => by
      have g1 := (hc k (by omega)).1
      have g2 := vld_le hwf hc (show k < kN K by omega)
      have e : bT (lowK l s 2 k) (topK l s 2 k) (s k) 0 = lowK l s 2 k := by
        have : s k - 2 ≤ lowK l s 2 k := by unfold lowK; split <;> omega
        unfold bT; omega
      rw [e, show keyT c (k + 1) = 64 * keyT c k + c k from rfl]
      omega))
    rw [u2_self vk] at p2
    refine ⟨V', ?_, p2, p3.iff (fun c hc => by
      have g1 := (hc k (by omega)).2
      have g2 := vld_le hwf hc (show k < kN K by omega)
      rw [show keyT c (k + 1) = 64 * keyT c k + c k from rfl]
      omega)⟩
    have v4 : V 2 4 = nI (kN K) := ht.1.1.2.2.2.2
    unfold fb_X9_tries
    simp (disch := first | assumption | exact inB_n (by omega) (by decide) | exact inB_l (by omega) (by decide) | exact inB_al (by omega) (by decide) | exact inB_la (by omega) (by decide) | exact inB_j (by assumption) (by omega) (by decide) | exact inB_e (by assumption) (by decide) | omega) only [↓eM h, ↓lt_r, v4, vk, ix_nI, ix_l, nI_al, nI_la, nI_lm, u2_ne, u2_eq]
    rw [if_neg (fun z => hkn ((nI_eq (by omega) (by omega)).mp z))]
    exact p1
