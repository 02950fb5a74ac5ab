/-! the grammar of E: what is read from a place on, and what it stands for -/
abbrev Den : Type := (Nat → Int32) → Int32
abbrev Res : Type := Sum Nat (Nat × Den)
def factOf (law t : Nat) : Nat := if law = 0 then (if t = 20 then 1 else if t = 21 then 2 else if t = 22 then 3 else 0) else (if t = 10 then 1 else if t = 23 then 2 else if t = 20 then 3 else if t = 24 then 4 else if t = 0 then 5 else if t = 21 then 6 else 0)
def canB (law t : Nat) : Bool := decide (factOf law t ≠ 0) || (decide (t = 26) || (decide (t = 17) || decide (t = 27)))
theorem canB_iff {law t : Nat} : canB law t = true ↔ factOf law t ≠ 0 ∨ t = 26 ∨ t = 17 ∨ t = 27 := by unfold canB; rw [Bool.or_eq_true, Bool.or_eq_true, Bool.or_eq_true, decide_eq_true_iff, decide_eq_true_iff, decide_eq_true_iff, decide_eq_true_iff]
def fl (X : Tp) (k p : Nat) : Res := .inl (k + 16 * lB X p)
def opL (X : Tp) (O : Nat → Bool) (Q : Nat → Res) : Nat → Nat → Den → Res
  | 0, p, f => .inr (p, f)
  | n + 1, p, f => if O (lT X p) = true then (match Q (lE X p) with
    | .inl k => .inl k
    | .inr (q, g) => opL X O Q n q (fun v => joinedF (nI (lT X p)) (f v) (g v))) else .inr (p, f)
def chain (X : Tp) (O : Nat → Bool) (Q : Nat → Res) (p : Nat) : Res := match Q p with
  | .inl k => .inl k
  | .inr (q, f) => opL X O Q 1000 q f
def o33 (t : Nat) : Bool := decide (t = 33)
def o31 (t : Nat) : Bool := decide (t = 31) || decide (t = 32)
def o29 (t : Nat) : Bool := decide (t = 29) || decide (t = 30)
def o18 (t : Nat) : Bool := decide (t = 18) || decide (t = 19)
def pProd (X : Tp) (P : Nat → Res) : Nat → Res := chain X o33 P
def pSum (X : Tp) (P : Nat → Res) : Nat → Res := chain X o31 (pProd X P)
def pTest (X : Tp) (P : Nat → Res) (p : Nat) : Res := match pSum X P p with
  | .inl k => .inl k
  | .inr (q, f) => if o29 (lT X q) = true then (match pSum X P (lE X q) with
    | .inl k => .inl k
    | .inr (r, g) => .inr (r, fun v => joinedF (nI (lT X q)) (f v) (g v))) else .inr (q, f)
def pTests (X : Tp) (P : Nat → Res) : Nat → Res := chain X o18 (pTest X P)
def leafD (X : Tp) (law p : Nat) : Den := fun v => if factOf law (lT X p) = 0 then nI (lV X p) else v (factOf law (lT X p))
def pPart (X : Tp) (law : Nat) : Nat → Nat → Res
  | 0, p => if canB law (lT X p) = true then fl X 5 p else fl X 1 p
  | m + 1, p => if canB law (lT X p) = true then
      (if lT X p = 17 then (match pPart X law m (lE X p) with
        | .inl k => .inl k
        | .inr (q, f) => .inr (q, fun v => if f v = 0 then 1 else 0))
      else if lT X p = 27 then (match pTests X (pPart X law m) (lE X p) with
        | .inl k => .inl k
        | .inr (q, f) => if lT X q = 28 then .inr (lE X q, f) else fl X 1 q)
      else .inr (lE X p, leafD X law p)) else fl X 1 p
/-- where a reading goes on -/
def adv (X : Tp) (p : Nat) (r : Res) : Prop := ∀ q f, r = .inr (q, f) → p < q ∧ q ≤ X.1
theorem lE_adv {X : Tp} {p t : Nat} (hp : p ≤ X.1) (h : lT X p = t) (ht : t ≠ 35) : p < lE X p ∧ lE X p ≤ X.1 := by
  have h1 := lE_gt hp (by rw [h]; exact ht)
  have h2 := lB_b hp
  have h3 := lE_b hp
  omega
theorem o_ne {O : Nat → Bool} (hO : O 35 = false) {t : Nat} (h : O t = true) : t ≠ 35 := fun q => by rw [q, hO] at h; cases h
theorem opL_adv {X : Tp} {O : Nat → Bool} {Q : Nat → Res} (hO : O 35 = false) (hQ : ∀ p, p ≤ X.1 → adv X p (Q p)) : ∀ (n p : Nat) (f : Den) (p0 : Nat), p0 < p → p ≤ X.1 → adv X p0 (opL X O Q n p f)
  | 0, p, f, p0, h0, h1 => fun q g e => by cases e; exact ⟨h0, h1⟩
  | n + 1, p, f, p0, h0, h1 => by
    intro q g e
    unfold opL at e
    by_cases hc : O (lT X p) = true
    · rw [if_pos hc] at e
      have ha := lE_adv h1 rfl (o_ne hO hc)
      cases hq : Q (lE X p) with
      | inl k => rw [hq] at e; cases e
      | inr z =>
        obtain ⟨r, g'⟩ := z
        rw [hq] at e
        have h2 := hQ (lE X p) ha.2 r g' hq
        exact opL_adv hO hQ n r _ p0 (by omega) h2.2 q g e
    · rw [if_neg hc] at e
      cases e
      exact ⟨h0, h1⟩
theorem chain_adv {X : Tp} {O : Nat → Bool} {Q : Nat → Res} (hO : O 35 = false) (hQ : ∀ p, p ≤ X.1 → adv X p (Q p)) (p : Nat) (hp : p ≤ X.1) : adv X p (chain X O Q p) := by
  intro q g e
  unfold chain at e
  cases hq : Q p with
  | inl k => rw [hq] at e; cases e
  | inr z =>
    obtain ⟨r, g'⟩ := z
    rw [hq] at e
    have h2 := hQ p hp r g' hq
    exact opL_adv hO hQ 1000 r g' p h2.1 h2.2 q g e
theorem pTest_adv {X : Tp} {P : Nat → Res} (hP : ∀ p, p ≤ X.1 → adv X p (P p)) (p : Nat) (hp : p ≤ X.1) : adv X p (pTest X P p) := by
  have hS := chain_adv (O := o31) rfl (chain_adv (O := o33) rfl hP)
  intro q g e
  unfold pTest at e
  cases hq : pSum X P p with
  | inl k => rw [hq] at e; cases e
  | inr z =>
    obtain ⟨r, g'⟩ := z
    rw [hq] at e
    have h2 := hS p hp r g' hq
    have e : (if o29 (lT X r) = true then _ else Sum.inr (r, g')) = Sum.inr (q, g) := e
    by_cases hc : o29 (lT X r) = true
    · rw [if_pos hc] at e
      have ha := lE_adv h2.2 rfl (o_ne (O := o29) rfl hc)
      cases hq2 : pSum X P (lE X r) with
      | inl k => rw [hq2] at e; cases e
      | inr z =>
        obtain ⟨r', g''⟩ := z
        rw [hq2] at e
        cases e
        have h3 := hS (lE X r) ha.2 _ _ hq2
        omega
    · rw [if_neg hc] at e
      cases e
      exact h2
theorem pTests_adv {X : Tp} {P : Nat → Res} (hP : ∀ p, p ≤ X.1 → adv X p (P p)) (p : Nat) (hp : p ≤ X.1) : adv X p (pTests X P p) := chain_adv (O := o18) rfl (pTest_adv hP) p hp
theorem pPart_adv {X : Tp} {law : Nat} : ∀ (m p : Nat), p ≤ X.1 → adv X p (pPart X law m p) := by
  intro m
  induction m with
  | zero =>
    intro p hp q f e
    unfold pPart at e
    split at e <;> cases e
  | succ m ih =>
    intro p hp q f e
    unfold pPart at e
    split at e
    · rename_i hc
      have hne : lT X p ≠ 35 := fun z => by
        rw [z] at hc
        rcases canB_iff.mp hc with hc | hc
        · unfold factOf at hc
          split at hc <;> exact hc rfl
        · omega
      have ha := lE_adv hp rfl hne
      by_cases h17 : lT X p = 17
      · rw [if_pos h17] at e
        cases hq : pPart X law m (lE X p) with
        | inl k => rw [hq] at e; cases e
        | inr z =>
          obtain ⟨r, g'⟩ := z
          rw [hq] at e
          cases e
          have := ih (lE X p) ha.2 _ _ hq
          omega
      · rw [if_neg h17] at e
        by_cases h27 : lT X p = 27
        · rw [if_pos h27] at e
          cases hq : pTests X (pPart X law m) (lE X p) with
          | inl k => rw [hq] at e; cases e
          | inr z =>
            obtain ⟨r, g'⟩ := z
            rw [hq] at e
            have h2 := pTests_adv ih (lE X p) ha.2 _ _ hq
            have e : (if lT X r = 28 then Sum.inr (lE X r, g') else fl X 1 r) = Sum.inr (q, f) := e
            by_cases h28 : lT X r = 28
            · rw [if_pos h28] at e
              cases e
              have := lE_adv h2.2 h28 (by decide)
              omega
            · rw [if_neg h28] at e; cases e
        · rw [if_neg h27] at e
          cases e
          exact ha
    · cases e
/-! the class's codes: a stretch of them pushes one number -/
def sgC (law : Nat) (facts : Nat → Int32) : Nat → Int32 := fun i => if law = 0 then (if i = 1 then facts 20 else if i = 2 then facts 21 else facts 22) else (if i = 1 then facts 10 else if i = 2 then facts 23 else if i = 3 then facts 20 else if i = 4 then facts 24 else if i = 5 then facts 0 else facts 21)
def segC (law : Nat) (cd : Nat → Int32) (i j h : Nat) (f : Den) : Prop := i ≤ j ∧ ∀ (facts : Nat → Int32) (t : Nat) (V : Vw), t + h ≤ 32 → ∃ V', rkRun cd facts (j - i) i t V = some (t + 1, V') ∧ V' 17 t = f (sgC law facts) ∧ ∀ k, k < t → V' 17 k = V 17 k
theorem rkRun_app {cd facts : Nat → Int32} : ∀ (m n i t : Nat) (V : Vw), rkRun cd facts (m + n) i t V = (rkRun cd facts m i t V).bind fun q => rkRun cd facts n (i + m) q.1 q.2
  | 0, n, i, t, V => by rw [Nat.zero_add]; rfl
  | m + 1, n, i, t, V => by
    rw [show m + 1 + n = (m + n) + 1 by omega]
    show (rkStep facts (cd i) t V).bind _ = ((rkStep facts (cd i) t V).bind _).bind _
    cases hs : rkStep facts (cd i) t V with
    | none => rfl
    | some q =>
      show rkRun cd facts (m + n) (i + 1) q.1 q.2 = (rkRun cd facts m (i + 1) q.1 q.2).bind _
      rw [rkRun_app m n (i + 1) q.1 q.2, show i + 1 + m = i + (m + 1) by omega]
theorem rkRun_cg {cd cd' facts : Nat → Int32} : ∀ (n i t : Nat) (V : Vw), (∀ j, i ≤ j → j < i + n → cd j = cd' j) → rkRun cd facts n i t V = rkRun cd' facts n i t V := by
  intro n
  induction n with
  | zero => exact fun _ _ _ _ => rfl
  | succ n ih =>
    intro i t V h
    have e0 : cd i = cd' i := h i (Nat.le_refl i) (by omega)
    have e1 := fun t V => ih (i + 1) t V (fun j h1 h2 => h j (by omega) (by omega))
    unfold rkRun
    rw [e0]
    congr 1
    funext q
    exact e1 q.1 q.2
theorem segC.cg {law : Nat} {cd cd' : Nat → Int32} {i j h : Nat} {f : Den} (s : segC law cd i j h f) (e : ∀ k, i ≤ k → k < j → cd k = cd' k) : segC law cd' i j h f := by
  refine ⟨s.1, fun facts t V ht => ?_⟩
  obtain ⟨V', a, b⟩ := s.2 facts t V ht
  have h1 := s.1
  exact ⟨V', by rw [← rkRun_cg (j - i) i t V (fun k h1 h2 => e k h1 (by omega))]; exact a, b⟩
theorem segC.up {law : Nat} {cd : Nat → Int32} {i j h h' : Nat} {f : Den} (s : segC law cd i j h f) (e : h ≤ h') : segC law cd i j h' f := ⟨s.1, fun facts t V ht => s.2 facts t V (by omega)⟩
theorem opC {op : Nat} (h1 : op < 40) (h2 : op ≠ 17) : ∀ (facts : Nat → Int32) (t : Nat) (V : Vw), 2 ≤ t → t ≤ 32 → rkStep facts ((10000 : Int32) + nI op) t V = some (t - 1, u2 V 17 (t - 2) (joinedF (nI op) (V 17 (t - 2)) (V 17 (t - 1)))) := by
  intro facts t V h3 h4
  have e : (10000 : Int32) + nI op = nI (10000 + op) := nI_al 10000 op
  unfold rkStep
  have e9 : nI (10000 + op) - 10000 = nI op := by
    rw [show nI (10000 + op) - (10000 : Int32) = nI (10000 + op - 10000) from pk_sub (b := 10000) (by omega), Nat.add_sub_cancel_left]
  have ea : ¬ nI (10000 + op) = (10017 : Int32) := fun q => by
    have : 10000 + op = 10017 := (eq_nl (m := 10017) (by decide) (by omega)).mp q
    omega
  have eb : ¬ nI (10000 + op) < (10000 : Int32) := fun q => by
    have : 10000 + op < 10000 := (lt_nl (m := 10000) (by decide) (by omega)).mp q
    omega
  rw [e, if_neg ea, if_neg eb, if_pos ⟨h3, h4⟩, e9]
theorem segC.op {law : Nat} {cd : Nat → Int32} {i j k h op : Nat} {f g : Den} (a : segC law cd i j h f) (b : segC law cd j k h g) (h1 : op < 40) (h2 : op ≠ 17) (hc : cd k = (10000 : Int32) + nI op) (hh : 1 ≤ h) : segC law cd i (k + 1) (h + 1) (fun v => joinedF (nI op) (f v) (g v)) := by
  have ha := a.1
  have hb := b.1
  refine ⟨by omega, fun facts t V ht => ?_⟩
  obtain ⟨V1, a1, a2, a3⟩ := a.2 facts t V (by omega)
  obtain ⟨V2, b1, b2, b3⟩ := b.2 facts (t + 1) V1 (by omega)
  have e2 : rkRun cd facts 1 k (t + 2) V2 = some (t + 1, u2 V2 17 t (joinedF (nI op) (V2 17 t) (V2 17 (t + 1)))) := by
    show (rkStep facts (cd k) (t + 2) V2).bind _ = _
    rw [hc, opC h1 h2 facts (t + 2) V2 (by omega) (by omega)]
    rfl
  refine ⟨u2 V2 17 t (joinedF (nI op) (V2 17 t) (V2 17 (t + 1))), ?_, (u2_eq ⟨rfl, rfl⟩).trans ?_, fun m hm => ?_⟩
  · rw [show k + 1 - i = (j - i) + ((k - j) + 1) by omega, rkRun_app, a1]
    show rkRun cd facts ((k - j) + 1) (i + (j - i)) (t + 1) V1 = _
    rw [show i + (j - i) = j by omega, rkRun_app, b1]
    show rkRun cd facts 1 (j + (k - j)) (t + 1 + 1) V2 = _
    rw [show j + (k - j) = k by omega]
    exact e2
  · rw [b3 t (by omega), a2, b2]
  · rw [u2_ne (Or.inr (by omega)), b3 m (by omega), a3 m hm]
theorem segC.neg {law : Nat} {cd : Nat → Int32} {i j h : Nat} {f : Den} (a : segC law cd i j h f) (hc : cd j = 10017) : segC law cd i (j + 1) h (fun v => if f v = 0 then 1 else 0) := by
  have ha := a.1
  refine ⟨by omega, fun facts t V ht => ?_⟩
  obtain ⟨V1, a1, a2, a3⟩ := a.2 facts t V ht
  have e2 : rkRun cd facts 1 j (t + 1) V1 = some (t + 1, u2 V1 17 t (if V1 17 t = 0 then 1 else 0)) := by
    show (rkStep facts (cd j) (t + 1) V1).bind _ = _
    rw [hc]
    unfold rkStep
    rw [if_pos rfl, if_pos (by omega)]
    rfl
  refine ⟨u2 V1 17 t (if V1 17 t = 0 then 1 else 0), ?_, (u2_eq ⟨rfl, rfl⟩).trans ?_, fun m hm => ?_⟩
  · rw [show j + 1 - i = (j - i) + 1 by omega, rkRun_app, a1]
    show rkRun cd facts 1 (i + (j - i)) (t + 1) V1 = _
    rw [show i + (j - i) = j by omega]
    exact e2
  · rw [a2]
  · rw [u2_ne (Or.inr (by omega)), a3 m hm]
theorem rk_one {cd facts : Nat → Int32} {i t : Nat} {V : Vw} : rkRun cd facts (i + 1 - i) i t V = (rkStep facts (cd i) t V).bind fun q => some (q.1, q.2) := by
  rw [show i + 1 - i = 1 by omega]
  rfl
theorem segC.num {law : Nat} {cd : Nat → Int32} {i h n : Nat} (hn : n < 10000) (hc : cd i = nI n) (hh : 1 ≤ h) : segC law cd i (i + 1) h (fun _ => nI n) := by
  refine ⟨by omega, fun facts t V ht => ⟨u2 V 17 t (nI n), ?_, u2_eq ⟨rfl, rfl⟩, fun k hk => u2_ne (Or.inr (by omega))⟩⟩
  rw [rk_one, hc]
  unfold rkStep
  rw [if_neg (fun q => by have : n = 10017 := (eq_nl (m := 10017) (by decide) (by omega)).mp q; omega), if_pos ((lt_nl (m := 10000) (by decide) (by omega)).mpr hn), if_pos (by omega), if_neg (show ¬ nI n < 0 from nI_nlt (b := 0) (by omega) (by omega))]
  rfl
theorem fact_F : ∀ law : Fin 2, ∀ t : Fin 37, factOf law.val t.val ≠ 0 → ((-1 : Int32) - nI t.val < 10000 ∧ (-1 : Int32) - nI t.val ≠ 10017 ∧ (-1 : Int32) - nI t.val < 0 ∧ (-1 : Int32) - ((-1 : Int32) - nI t.val) = nI t.val ∧ t.val < 25 ∧ factOf law.val t.val < 7 ∧ (factOf law.val t.val ≤ 3 ∨ law.val = 1)) := by decide +kernel
theorem sgC_fact {facts : Nat → Int32} : ∀ law : Fin 2, ∀ t : Fin 37, factOf law.val t.val ≠ 0 → sgC law.val facts (factOf law.val t.val) = facts t.val := by
  intro law t
  have h : (law.val = 0 ∧ (factOf 0 t.val = 0 ∨ (t.val = 20 ∧ factOf 0 t.val = 1) ∨ (t.val = 21 ∧ factOf 0 t.val = 2) ∨ (t.val = 22 ∧ factOf 0 t.val = 3))) ∨ (law.val = 1 ∧ (factOf 1 t.val = 0 ∨ (t.val = 10 ∧ factOf 1 t.val = 1) ∨ (t.val = 23 ∧ factOf 1 t.val = 2) ∨ (t.val = 20 ∧ factOf 1 t.val = 3) ∨ (t.val = 24 ∧ factOf 1 t.val = 4) ∨ (t.val = 0 ∧ factOf 1 t.val = 5) ∨ (t.val = 21 ∧ factOf 1 t.val = 6))) := by
    revert law t; decide +kernel
  intro hne
  rcases h with ⟨e, h⟩ | ⟨e, h⟩
  · rw [e] at hne ⊢
    rcases h with h | h | h | h
    · exact absurd h hne
    all_goals (rw [h.2, h.1]; rfl)
  · rw [e] at hne ⊢
    rcases h with h | h | h | h | h | h | h
    · exact absurd h hne
    all_goals (rw [h.2, h.1]; rfl)
theorem segC.fact {law t : Nat} {cd : Nat → Int32} {i h : Nat} (hl : law < 2) (ht37 : t < 37) (hf : factOf law t ≠ 0) (hc : cd i = (-1 : Int32) - nI t) (hh : 1 ≤ h) : segC law cd i (i + 1) h (fun v => v (factOf law t)) := by
  obtain ⟨q1, q2, q3, q4, q5, -, -⟩ := fact_F ⟨law, hl⟩ ⟨t, ht37⟩ hf
  refine ⟨by omega, fun facts s V hs => ⟨u2 V 17 s (facts t), ?_, (u2_eq ⟨rfl, rfl⟩).trans (sgC_fact ⟨law, hl⟩ ⟨t, ht37⟩ hf).symm, fun k hk => u2_ne (Or.inr (by omega))⟩⟩
  have q4 : (-1 : Int32) - ((-1 : Int32) - nI t) = nI t := q4
  have q5 : t < 25 := q5
  rw [rk_one, hc]
  unfold rkStep
  rw [if_neg q2, if_pos q1, if_pos (by omega), if_pos q3, q4, if_pos (inB_n q5 (by decide)), nI_clamp (by omega)]
  rfl
theorem segC.law {cd : Nat → Int32} {law n h : Nat} {f : Den} (s : segC law cd 0 n h f) (hh : h ≤ 32) : lawC cd n (fun facts => f (sgC law facts)) := by
  intro facts V
  obtain ⟨V', a, b, -⟩ := s.2 facts 0 V (by omega)
  exact ⟨1, V', a, by omega, b⟩
