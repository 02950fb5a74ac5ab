/-! fewest: the model's search -/
def fE (K : SkyT) (l : Nat) (w s : Nat → Nat) (e p q a k n : Nat) (c0 : Nat → Nat) : Prop := ∃ c, vld K l s e c ∧ (∀ i, i < k → c i = c0 i) ∧ chgT s c (kN K) ≤ chgT s c0 k + n ∧ awayK K l w c p q ≤ a
theorem chg_pre {s c c0 : Nat → Nat} {k : Nat} (h : ∀ i, i < k → c i = c0 i) : chgT s c k = chgT s c0 k := sumTo_congr (fun i hi => by rw [h i hi])
theorem chg_mono {s c : Nat → Nat} {k n : Nat} (h : k ≤ n) : chgT s c k ≤ chgT s c n := by
  unfold chgT
  rw [from_all h]
  exact Nat.le_add_right _ _
theorem chg_set {s c : Nat → Nat} {k y : Nat} : chgT s (set1 c k y) (k + 1) = chgT s c k + if y = s k then 0 else 1 := by
  show chgT s (set1 c k y) k + (if set1 c k y k = s k then 0 else 1) = _
  rw [set1_eq, chg_pre (c0 := c) (fun i hi => set1_ne (by omega))]
theorem chg_same {s c : Nat → Nat} {k : Nat} (h : c k = s k) : chgT s c (k + 1) = chgT s c k := by
  show chgT s c k + (if c k = s k then 0 else 1) = _
  rw [if_pos h]; rfl
theorem fE.same {K : SkyT} {l e p q a k n : Nat} {w s c0 : Nat → Nat} (hs : c0 k = s k) (h : fE K l w s e p q a (k + 1) n c0) : fE K l w s e p q a k n c0 := by
  obtain ⟨c, h1, h2, h3, h4⟩ := h
  exact ⟨c, h1, fun i hi => h2 i (by omega), by rw [chg_same hs] at h3; exact h3, h4⟩
theorem fE.other {K : SkyT} {l e p q a k n y : Nat} {w s c0 : Nat → Nat} (hy : y ≠ s k) (h : fE K l w s e p q a (k + 1) n (set1 c0 k y)) : fE K l w s e p q a k (n + 1) c0 := by
  obtain ⟨c, h1, h2, h3, h4⟩ := h
  refine ⟨c, h1, fun i hi => by rw [h2 i (by omega), set1_ne (by omega)], ?_, h4⟩
  rw [chg_set, if_neg hy] at h3
  omega
theorem fE.split {K : SkyT} {l e p q a k n : Nat} {w s c0 : Nat → Nat} (hk : k < kN K) (hs : c0 k = s k) (h : fE K l w s e p q a k n c0) : fE K l w s e p q a (k + 1) n c0 ∨ ∃ m y, n = m + 1 ∧ y ≠ s k ∧ lowK l s e k ≤ y ∧ y ≤ topK l s e k ∧ fE K l w s e p q a (k + 1) m (set1 c0 k y) := by
  obtain ⟨c, h1, h2, h3, h4⟩ := h
  by_cases g : c k = s k
  · refine Or.inl ⟨c, h1, fun i hi => ?_, by rw [chg_same hs]; exact h3, h4⟩
    by_cases z : i = k
    · rw [z, g, hs]
    · exact h2 i (by omega)
  · have m1 := chg_mono (s := s) (c := c) (show k + 1 ≤ kN K by omega)
    have m2 : chgT s c (k + 1) = chgT s c k + 1 := by
      show chgT s c k + (if c k = s k then 0 else 1) = _
      rw [if_neg g]
    rw [chg_pre h2] at m2
    refine Or.inr ⟨n - 1, c k, by omega, g, (h1 k hk).1, (h1 k hk).2, c, h1, fun i hi => ?_, ?_, h4⟩
    · by_cases z : i = k
      · rw [z, set1_eq]
      · rw [set1_ne z]; exact h2 i (by omega)
    · rw [chg_set, if_neg g]; omega
theorem q_does {l e p q a B : Nat} {K : SkyT} {w s : Nat → Nat} {F M : Nat} {S : Mem} {U : Uw} (h : shM S M) (hF : 100 < F) (hw9 : wfK K) (hwf : wfS K B s) (hw : ∀ i, w i ≤ 99) (hl2 : l < 2 ^ 31) (hp : p ≤ 999) (hq : q ≤ 40) (ha : a ≤ 999) (he : e ≤ 3) :
    ∀ (d k n : Nat) (c0 : Nat → Nat) (V : Vw), k ≤ kN K → n ≤ 6 → kN K - k < d → (∀ i, i < k → lowK l s e i ≤ c0 i ∧ c0 i ≤ topK l s e i) → (∀ i, k ≤ i → c0 i = s i) → tM K l w p q c0 V →
      ∃ V' r, fn_X9_does F d M (nI k) (nI e) (nI n) (nI a) (wM S M V U) = some (b1 r, wM S M V' U) ∧ tK V V' ∧ (r = true ↔ fE K l w s e p q a k n c0) := by
  have n6 := hw9.1.1
  intro d
  induction d with
  | zero => intro k n c0 V hk hn hd; omega
  | succ d ihd =>
    intro k n c0 V hk hn hd hlo hhi ht
    show ∃ V' r, fb_X9_does F (fn_X9_does F d) M (nI k) (nI e) (nI n) (nI a) (wM S M V U) = _ ∧ _
    have v4 : V 2 4 = nI (kN K) := ht.1.1.2.2.2.2
    by_cases hkn : k = kN K
    · subst hkn
      have a20 := away_le (l := l) (c := c0) hw9 hw hp hq
      obtain ⟨V1, e1, f1, f2⟩ := q_awayNow (F := F) (U := U) h (by omega) hw9 ht.1 ht.2.1 hl2 ht.2.2.1 (fun k hk => vld_le hwf hlo hk) ht.2.2.2.1 hw ht.2.2.2.2.1 ht.2.2.2.2.2 (by omega) (by omega)
      refine ⟨V1, decide (awayK K l w c0 p q ≤ a), ?_, ⟨fun j a b c => f1 j a b, fun j a b c d e => f2 j a b c⟩, ?_⟩
      · unfold fb_X9_does f_X9_does_24
        simp (disch := first | assumption | exact inB_n (by omega) (by decide) | exact inB_l (by omega) (by decide) | exact inB_al (by omega) (by decide) | exact inB_la (by omega) (by decide) | exact inB_j (by assumption) (by omega) (by decide) | exact inB_e (by assumption) (by decide) | omega) only [↓eM h, ix_nI, ix_l, nI_al, nI_la, nI_lm, u2_ne, u2_eq, v4, ↓reduceIte, e1, ↓bd_r, rz_0, rz_1]
        by_cases g : awayK K l w c0 p q ≤ a
        · rw [if_neg (nI_nlt g (by omega)), decide_eq_true g]; rfl
        · rw [if_pos (nI_lt (by omega) (by omega)), decide_eq_false g]; rfl
      · rw [decide_eq_true_iff]
        constructor
        · exact fun g => ⟨c0, hlo, fun _ _ => rfl, by omega, g⟩
        · rintro ⟨c, -, h2, -, h4⟩
          rw [away_congr h2] at h4; exact h4
    have s4 := (hwf.1 k (by omega)).1
    have lt := low_top (l := l) (e := e) s4
    have hsk := hhi k (Nat.le_refl _)
    have vk : V 24 k = nI (s k) := by rw [ht.2.2.1 k (by omega), hsk]
    obtain ⟨V1, r1, e1, k1, i1⟩ := ihd (k + 1) n c0 V (by omega) hn (by omega) (fun i hi => by
      by_cases g : i = k
      · rw [g, hsk]; exact ⟨lt.1, lt.2.1⟩
      · exact hlo i (by omega)) (fun i hi => hhi i (by omega)) ht
    have t1 := ht.keep k1
    have vk1 : V1 24 k = nI (s k) := by rw [t1.2.2.1 k (by omega), hsk]
    have hx := q_isLost (F := F) (U := U) h (show k < 6 by omega) t1.2.1 hl2
    cases r1 with
    | true =>
      refine ⟨V1, true, ?_, k1, ⟨fun _ => (i1.mp rfl).same hsk, fun _ => rfl⟩⟩
      unfold fb_X9_does
      simp (disch := first | assumption | exact inB_n (by omega) (by decide) | exact inB_l (by omega) (by decide) | exact inB_al (by omega) (by decide) | exact inB_la (by omega) (by decide) | exact inB_j (by assumption) (by omega) (by decide) | exact inB_e (by assumption) (by decide) | omega) only [↓eM h, ix_nI, ix_l, nI_al, nI_la, nI_lm, u2_ne, u2_eq, v4, e1, ↓bd_r, rz_1]
      rw [if_neg (fun z => hkn ((nI_eq (by omega) (by omega)).mp z)), if_neg (show ¬ b1 true = 0 by decide)]
      rfl
    | false =>
    have no : ¬ fE K l w s e p q a (k + 1) n c0 := fun z => by have := i1.mpr z; cases this
    cases n with
    | zero =>
      refine ⟨V1, false, ?_, k1, ⟨fun z => (by cases z), fun z => ?_⟩⟩
      · unfold fb_X9_does f_X9_does_53
        simp (disch := first | assumption | exact inB_n (by omega) (by decide) | exact inB_l (by omega) (by decide) | exact inB_al (by omega) (by decide) | exact inB_la (by omega) (by decide) | exact inB_j (by assumption) (by omega) (by decide) | exact inB_e (by assumption) (by decide) | omega) only [↓eM h, ix_nI, ix_l, nI_al, nI_la, nI_lm, u2_ne, u2_eq, v4, e1, ↓bd_r, rz_0]
        rw [if_neg (fun z => hkn ((nI_eq (by omega) (by omega)).mp z)), if_pos (show b1 false = 0 by decide), if_pos (show nI 0 = 0 from rfl)]
        rfl
      · rcases z.split (by omega) hsk with z | ⟨m, y, z, -⟩
        · exact absurd z no
        · omega
    | succ m =>
    have m5 : m ≤ 5 := by omega
    have nz : ¬ nI (m + 1) = (0 : Int32) := fun z => absurd ((nI_eq (b := 0) (show m + 1 < 2 ^ 31 by omega) (by decide)).mp z) (Nat.succ_ne_zero m)
    cases hc : lo l k with
    | true =>
      have e3 : lowK l s e k = s k := by unfold lowK; rw [if_pos hc]
      have e4 : topK l s e k = s k := by unfold topK; rw [if_pos hc]
      refine ⟨V1, false, ?_, k1, ⟨fun z => (by cases z), fun z => ?_⟩⟩
      · rw [hc] at hx
        unfold fb_X9_does f_X9_does_53
        simp (disch := first | assumption | exact inB_n (by omega) (by decide) | exact inB_l (by omega) (by decide) | exact inB_al (by omega) (by decide) | exact inB_la (by omega) (by decide) | exact inB_j (by assumption) (by omega) (by decide) | exact inB_e (by assumption) (by decide) | omega) only [↓eM h, ix_nI, ix_l, nI_al, nI_la, nI_lm, u2_ne, u2_eq, v4, e1, ↓bd_r, rz_0, hx]
        rw [if_neg (fun z => hkn ((nI_eq (by omega) (by omega)).mp z)), if_pos (show b1 false = 0 by decide), if_neg nz, if_neg (show ¬ b1 true = 0 by decide)]
        rfl
      · rcases z.split (by omega) hsk with z | ⟨m, y, -, z1, z2, z3, -⟩
        · exact absurd z no
        · omega
    | false =>
    have e3 : lowK l s e k = s k - e := by unfold lowK; rw [if_neg (by rw [hc]; decide)]
    have e4 : topK l s e k = min 40 (s k + e) := by unfold topK; rw [if_neg (by rw [hc]; decide)]
    have et : mnI 40 (nI (s k) + nI e) = nI (topK l s e k) := by rw [e4]; exact mn40 (by omega) (by omega)
    have loop : ∀ (j y f : Nat) (V : Vw) (r : Bool), y + j = topK l s e k + 1 → j < f → lowK l s e k ≤ y → tM K l w p q c0 (u2 V 24 k (nI (s k))) → (r = true ↔ ∃ y', lowK l s e k ≤ y' ∧ y' < y ∧ y' ≠ s k ∧ fE K l w s e p q a (k + 1) m (set1 c0 k y')) →
        ∃ V' r', fix8 (b_X9_does_76 F (fn_X9_does F d)) f M (nI k) (nI e) (nI (m + 1)) (nI a) (nI (s k)) (b1 r) (nI y) (wM S M V U) = some (b1 r', wM S M V' U) ∧ tK (u2 V 24 k (nI (s k))) V' ∧ (r' = true ↔ ∃ y', lowK l s e k ≤ y' ∧ y' ≤ topK l s e k ∧ y' ≠ s k ∧ fE K l w s e p q a (k + 1) m (set1 c0 k y')) := by
      intro j
      induction j with
      | zero =>
        intro y f V r hj hf hy ht hr
        obtain ⟨f, rfl⟩ : ∃ f', f = f' + 1 := ⟨f - 1, by omega⟩
        refine ⟨u2 V 24 k (nI (s k)), r, ?_, tK.rf, hr.trans ⟨fun ⟨y', a1, a2, a3⟩ => ⟨y', a1, by omega, a3⟩, fun ⟨y', a1, a2, a3⟩ => ⟨y', a1, by omega, a3⟩⟩⟩
        show b_X9_does_76 F (fn_X9_does F d) (fix8 (b_X9_does_76 F (fn_X9_does F d)) f) M (nI k) (nI e) (nI (m + 1)) (nI a) (nI (s k)) (b1 r) (nI y) (wM S M V U) = _
        generalize fix8 (b_X9_does_76 F (fn_X9_does F d)) f = k76
        unfold b_X9_does_76 f_X9_does_134
        rw [et, if_pos (nI_lt (by omega) (by omega))]
        simp (disch := first | assumption | exact inB_n (by omega) (by decide) | exact inB_l (by omega) (by decide) | exact inB_al (by omega) (by decide) | exact inB_la (by omega) (by decide) | exact inB_j (by assumption) (by omega) (by decide) | exact inB_e (by assumption) (by decide) | omega) only [↓eM h, ix_nI, ix_l, nI_al, nI_la, nI_lm, u2_ne, u2_eq]
        cases r <;> rfl
      | succ j ih =>
        intro y f V r hj hf hy ht hr
        obtain ⟨f, rfl⟩ : ∃ f', f = f' + 1 := ⟨f - 1, by omega⟩
        show ∃ V' r', b_X9_does_76 F (fn_X9_does F d) (fix8 (b_X9_does_76 F (fn_X9_does F d)) f) M (nI k) (nI e) (nI (m + 1)) (nI a) (nI (s k)) (b1 r) (nI y) (wM S M V U) = _ ∧ _
        have ne : ¬ nI (topK l s e k) < nI y := nI_nlt (by omega) (by omega)
        cases r with
        | true =>
          obtain ⟨y', a1, a2, a3, a4⟩ := hr.mp rfl
          refine ⟨u2 V 24 k (nI (s k)), true, ?_, tK.rf, ⟨fun _ => ⟨y', a1, by omega, a3, a4⟩, fun _ => rfl⟩⟩
          generalize fix8 (b_X9_does_76 F (fn_X9_does F d)) f = k76
          unfold b_X9_does_76 f_X9_does_134
          rw [et, if_neg ne, if_neg (show ¬ b1 true = 0 by decide)]
          simp (disch := first | assumption | exact inB_n (by omega) (by decide) | exact inB_l (by omega) (by decide) | exact inB_al (by omega) (by decide) | exact inB_la (by omega) (by decide) | exact inB_j (by assumption) (by omega) (by decide) | exact inB_e (by assumption) (by decide) | omega) only [↓eM h, ix_nI, ix_l, nI_al, nI_la, nI_lm, u2_ne, u2_eq]
          rfl
        | false =>
          have nf : ∀ y', lowK l s e k ≤ y' → y' < y → y' ≠ s k → ¬ fE K l w s e p q a (k + 1) m (set1 c0 k y') := fun y' z1 z2 z3 z4 => by have := hr.mpr ⟨y', z1, z2, z3, z4⟩; cases this
          clear hr
          by_cases g : y = s k
          · obtain ⟨V3, r3, b1_, b2, b3⟩ := ih (y + 1) f V false (by omega) (by omega) (by omega) ht ⟨fun z => (by cases z), fun ⟨y', a1, a2, a3, a4⟩ => absurd a4 (nf y' a1 (by omega) a3)⟩
            refine ⟨V3, r3, ?_, b2, b3⟩
            generalize fix8 (b_X9_does_76 F (fn_X9_does F d)) f = k76 at b1_ ⊢
            unfold b_X9_does_76 f_X9_does_128
            rw [et, if_neg ne, if_pos (show b1 false = 0 by decide), if_pos (congrArg nI g), show nI y + 1 = nI (y + 1) from nI_add y 1]
            exact b1_
          · obtain ⟨V2, r2, a1, a2, a3⟩ := ihd (k + 1) m (set1 c0 k y) (u2 V 24 k (nI y)) (by omega) (by omega) (by omega) (fun i hi => by
              by_cases g : i = k
              · subst g; rw [set1_eq]; exact ⟨hy, by omega⟩
              · rw [set1_ne g]; exact hlo i (by omega)) (fun i hi => by rw [set1_ne (by omega)]; exact hhi i (by omega)) (ht.set (by omega))
            obtain ⟨V3, r3, b1_, b2, b3⟩ := ih (y + 1) f V2 r2 (by omega) (by omega) (by omega) (ht.keep a2.set) ⟨fun z => ⟨y, hy, by omega, g, a3.mp z⟩, fun ⟨y', c1, c2, c3, c4⟩ => by
              by_cases gy : y' = y
              · subst gy; exact a3.mpr c4
              · exact absurd c4 (nf y' c1 (by omega) c3)⟩
            refine ⟨V3, r3, ?_, a2.set.tr b2, b3⟩
            generalize fix8 (b_X9_does_76 F (fn_X9_does F d)) f = k76 at b1_ ⊢
            unfold b_X9_does_76 f_X9_does_128
            rw [et, if_neg ne, if_pos (show b1 false = 0 by decide), if_neg (fun z => g ((nI_eq (by omega) (by omega)).mp z)), nI_pred]
            simp (disch := first | assumption | exact inB_n (by omega) (by decide) | exact inB_l (by omega) (by decide) | exact inB_al (by omega) (by decide) | exact inB_la (by omega) (by decide) | exact inB_j (by assumption) (by omega) (by decide) | exact inB_e (by assumption) (by decide) | omega) only [↓eM h, ix_nI, ix_l, nI_al, nI_la, nI_lm, u2_ne, u2_eq]
            rw [a1, bd_r]
            exact b1_
    obtain ⟨V', r', p1, p2, p3⟩ := loop (topK l s e k + 1 - lowK l s e k) (lowK l s e k) F V1 false (by omega) (by omega) (by omega) (by rw [u2_self vk1]; exact t1) ⟨fun z => (by cases z), fun ⟨y', a1, a2, _⟩ => by omega⟩
    rw [u2_self vk1] at p2
    refine ⟨V', r', ?_, k1.tr p2, p3.trans ⟨fun ⟨y', a1, a2, a3, a4⟩ => a4.other a3, fun z => ?_⟩⟩
    · rw [hc] at hx
      unfold fb_X9_does
      simp (disch := first | assumption | exact inB_n (by omega) (by decide) | exact inB_l (by omega) (by decide) | exact inB_al (by omega) (by decide) | exact inB_la (by omega) (by decide) | exact inB_j (by assumption) (by omega) (by decide) | exact inB_e (by assumption) (by decide) | omega) only [↓eM h, ix_nI, ix_l, nI_al, nI_la, nI_lm, u2_ne, u2_eq, v4, e1, ↓bd_r, ↓lt_r, hx, vk1, sub_mx (show s k ≤ 999 by omega) (show e ≤ 99 by omega)]
      rw [if_neg (fun z => hkn ((nI_eq (by omega) (by omega)).mp z)), if_pos (show b1 false = 0 by decide), if_neg nz, if_pos (show b1 false = 0 by decide), ← e3]
      exact p1
    · rcases z.split (by omega) hsk with z | ⟨m', y, z0, z1, z2, z3, z4⟩
      · exact absurd z no
      · have : m' = m := by omega
        subst this
        exact ⟨y, z2, z3, z1, z4⟩
