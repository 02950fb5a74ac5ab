/-! the grammar's levels in the model's turns -/
def Sp (X : Tp) (law d e : Nat) (St : (Nat → Bool) → Prop) (En : Nat → (Nat → Bool) → Prop) (Ev : List Int32 → Den → Prop) (Q : Nat → Res) : Prop := ∀ (p : Nat) (op cm : Nat → Bool), p ≤ X.1 → (d = 0 ∨ op d = false) → St cm → match Q p with
  | .inl k => Bad X law (p, true, d, op, cm) k
  | .inr (q, f) => ∃ cs op' cm', Rn X law cs (p, true, d, op, cm) (q, false, d, op', cm') ∧ (∀ k, k ≤ d → op' k = op k) ∧ (∀ k, k < e → cm' k = cm k) ∧ En q cm' ∧ Ev cs f
theorem plain_cg {d : Nat} {op op' : Nat → Bool} (h : d = 0 ∨ op d = false) (e : ∀ k, k ≤ d → op' k = op k) : d = 0 ∨ op' d = false := by
  rcases h with h | h
  · exact Or.inl h
  · exact Or.inr (by rw [e d (Nat.le_refl d)]; exact h)
theorem Sp_opL {X : Tp} {law d e : Nat} {St : (Nat → Bool) → Prop} {En : Nat → (Nat → Bool) → Prop} {Ev EvQ : List Int32 → Den → Prop} {O : Nat → Bool} {c : Nat → Int32} {g : (Nat → Bool) → Nat → Bool} {Q : Nat → Res}
    (hO : O 35 = false) (hA : ∀ p, p ≤ X.1 → adv X p (Q p)) (hs : ∀ p op cm, O (lT X p) = true → rNext X p d op cm = .inr (c (lT X p), lE X p, true, d, op, g cm)) (hg : ∀ cm k, k < e → g cm k = cm k) (hSt : ∀ cm, St cm → ∀ cm', St (g cm'))
    (hEv : ∀ t cs0 cs1 f f1, O t = true → Ev cs0 f → EvQ cs1 f1 → Ev (cs0 ++ c t :: cs1) (fun v => joinedF (nI t) (f v) (f1 v))) (hQ : Sp X law d e St En EvQ Q) (s0 : RS) (op0 cm0 : Nat → Bool) (h0 : d = 0 ∨ op0 d = false) (hS0 : St cm0) :
    ∀ (n p : Nat) (f : Den) (cs : List Int32) (op cm : Nat → Bool), p ≤ X.1 → Rn X law cs s0 (p, false, d, op, cm) → (∀ k, k ≤ d → op k = op0 k) → (∀ k, k < e → cm k = cm0 k) → En p cm → Ev cs f →
    match opL X O Q n p f with
    | .inl k => Bad X law s0 k
    | .inr (q, f) => ∃ cs op' cm', Rn X law cs s0 (q, false, d, op', cm') ∧ (∀ k, k ≤ d → op' k = op0 k) ∧ (∀ k, k < e → cm' k = cm0 k) ∧ En q cm' ∧ Ev cs f := by
  intro n
  induction n with
  | zero => exact fun p f cs op cm hp hr ho hc hE hv => ⟨cs, op, cm, hr, ho, hc, hE, hv⟩
  | succ n ih =>
    intro p f cs op cm hp hr ho hc hE hv
    unfold opL
    cases hO2 : O (lT X p) with
    | false =>
      rw [if_neg (by decide)]
      exact ⟨cs, op, cm, hr, ho, hc, hE, hv⟩
    | true =>
      rw [if_pos rfl]
      have ha := lE_adv hp rfl (o_ne hO hO2)
      have h1 : rStep X law (p, false, d, op, cm) = .inr (c (lT X p), lE X p, true, d, op, g cm) := by rw [rStep_f]; exact hs p op cm hO2
      have h2 := hQ (lE X p) op (g cm) ha.2 (plain_cg h0 ho) (hSt cm0 hS0 cm)
      cases hq : Q (lE X p) with
      | inl k =>
        rw [hq] at h2
        exact (h2.pre (cs := [c (lT X p)]) ⟨_, h1, rfl⟩).pre hr
      | inr z =>
        obtain ⟨q, f1⟩ := z
        rw [hq] at h2
        obtain ⟨cs1, op1, cm1, r1, r2, r3, r4, r5⟩ := h2
        have hq2 := hA (lE X p) ha.2 q f1 hq
        exact ih q _ (cs ++ c (lT X p) :: cs1) op1 cm1 hq2.2 (hr.app ⟨_, h1, r1⟩) (fun k hk => (r2 k hk).trans (ho k hk)) (fun k hk => (r3 k hk).trans ((hg cm k hk).trans (hc k hk))) r4 (hEv _ _ _ _ _ hO2 hv r5)
theorem Sp_chain {X : Tp} {law d e : Nat} {St : (Nat → Bool) → Prop} {En : Nat → (Nat → Bool) → Prop} {Ev EvQ : List Int32 → Den → Prop} {O : Nat → Bool} {c : Nat → Int32} {g : (Nat → Bool) → Nat → Bool} {Q : Nat → Res}
    (hO : O 35 = false) (hA : ∀ p, p ≤ X.1 → adv X p (Q p)) (hs : ∀ p op cm, O (lT X p) = true → rNext X p d op cm = .inr (c (lT X p), lE X p, true, d, op, g cm)) (hg : ∀ cm k, k < e → g cm k = cm k) (hSt : ∀ cm, St cm → ∀ cm', St (g cm'))
    (hE0 : ∀ cs f, EvQ cs f → Ev cs f) (hEv : ∀ t cs0 cs1 f f1, O t = true → Ev cs0 f → EvQ cs1 f1 → Ev (cs0 ++ c t :: cs1) (fun v => joinedF (nI t) (f v) (f1 v))) (hQ : Sp X law d e St En EvQ Q) : Sp X law d e St En Ev (chain X O Q) := by
  intro p op cm hp h0 hS
  have h2 := hQ p op cm hp h0 hS
  unfold chain
  cases hq : Q p with
  | inl k =>
    rw [hq] at h2
    exact h2
  | inr z =>
    obtain ⟨q, f1⟩ := z
    rw [hq] at h2
    obtain ⟨cs1, op1, cm1, r1, r2, r3, r4, r5⟩ := h2
    exact Sp_opL hO hA hs hg hSt hEv hQ (p, true, d, op, cm) op cm h0 hS 1000 q f1 cs1 op1 cm1 (hA p hp q f1 hq).2 r1 r2 r3 r4 (hE0 _ _ r5)
def tT (_ : Nat → Bool) : Prop := True
def tE (_ : Nat) (_ : Nat → Bool) : Prop := True
def tS (d : Nat) (cm : Nat → Bool) : Prop := cm d = false
def tN (X : Tp) (d q : Nat) (cm : Nat → Bool) : Prop := (lT X q = 29 ∨ lT X q = 30) → cm d = true
theorem Sp_prod {X : Tp} {law d : Nat} {P : Nat → Res} (hA : ∀ p, p ≤ X.1 → adv X p (P p)) (hP : Sp X law d (d + 1) tT tE (EvP d) P) : Sp X law d (d + 1) tT tE (EvPr d) (pProd X P) :=
  Sp_chain (c := fun _ => 22) (g := fun cm => cm) rfl hA (fun p op cm h => by
    have h : lT X p = 33 := of_decide_eq_true h
    unfold rNext
    rw [if_neg (by omega), if_neg (by omega), if_pos h]) (fun _ _ _ => rfl) (fun _ _ _ => trivial) (fun _ _ h => ev_pr0 h) (fun t _ _ _ _ h a b => by
    have h : t = 33 := of_decide_eq_true h
    subst h
    exact ev_pr a b) hP
theorem Sp_sum {X : Tp} {law d : Nat} {P : Nat → Res} (hA : ∀ p, p ≤ X.1 → adv X p (P p)) (hP : Sp X law d (d + 1) tT tE (EvP d) P) : Sp X law d (d + 1) tT tE (EvSu d) (pSum X P) :=
  Sp_chain (c := fun t => if t = 31 then 20 else 21) (g := fun cm => cm) rfl (chain_adv (O := o33) rfl hA) (fun p op cm h => by
    unfold o31 at h
    rw [Bool.or_eq_true, decide_eq_true_iff, decide_eq_true_iff] at h
    unfold rNext
    by_cases h31 : lT X p = 31
    · rw [if_pos h31, if_pos h31]
    · rw [if_neg h31, if_neg h31, if_pos (by omega)]) (fun _ _ _ => rfl) (fun _ _ _ => trivial) (fun _ _ h => ev_su0 h) (fun t _ _ _ _ h a b => by
    unfold o31 at h
    rw [Bool.or_eq_true, decide_eq_true_iff, decide_eq_true_iff] at h
    rcases h with rfl | rfl
    · exact ev_su (Or.inl ⟨rfl, rfl⟩) a b
    · exact ev_su (Or.inr ⟨rfl, rfl⟩) a b) (Sp_prod hA hP)
theorem Sp_test {X : Tp} {law d : Nat} {P : Nat → Res} (hA : ∀ p, p ≤ X.1 → adv X p (P p)) (hP : Sp X law d (d + 1) tT tE (EvP d) P) : Sp X law d d (tS d) (tN X d) (EvTe d) (pTest X P) := by
  have hS := Sp_sum hA hP
  have hA2 := chain_adv (O := o31) rfl (chain_adv (O := o33) rfl hA)
  intro p op cm hp h0 hc
  have h2 := hS p op cm hp h0 trivial
  unfold pTest
  cases hq : pSum X P p with
  | inl k =>
    rw [hq] at h2
    exact h2
  | inr z =>
    obtain ⟨q, f⟩ := z
    rw [hq] at h2
    obtain ⟨cs1, op1, cm1, r1, r2, r3, -, r5⟩ := h2
    have hqa := hA2 p hp q f hq
    show match (if o29 (lT X q) = true then (match pSum X P (lE X q) with
      | .inl k => Sum.inl k
      | .inr (r, g) => Sum.inr (r, fun v => joinedF (nI (lT X q)) (f v) (g v))) else Sum.inr (q, f)) with
      | .inl k => Bad X law (p, true, d, op, cm) k
      | .inr (q, f) => ∃ cs op' cm', Rn X law cs (p, true, d, op, cm) (q, false, d, op', cm') ∧ (∀ k, k ≤ d → op' k = op k) ∧ (∀ k, k < d → cm' k = cm k) ∧ tN X d q cm' ∧ EvTe d cs f
    cases hO : o29 (lT X q) with
    | false =>
      rw [if_neg (by decide)]
      refine ⟨cs1, op1, cm1, r1, r2, fun k hk => r3 k (by omega), fun h => ?_, ev_te0 r5⟩
      unfold o29 at hO
      rw [Bool.or_eq_false_iff] at hO
      rcases h with h | h
      · exact absurd h (of_decide_eq_false hO.1)
      · exact absurd h (of_decide_eq_false hO.2)
    | true =>
      rw [if_pos rfl]
      have ha := lE_adv hqa.2 rfl (o_ne (O := o29) rfl hO)
      unfold o29 at hO
      rw [Bool.or_eq_true, decide_eq_true_iff, decide_eq_true_iff] at hO
      have hcd : cm1 d = false := by rw [r3 d (by omega)]; exact hc
      have h1 : rStep X law (q, false, d, op1, cm1) = .inr (if lT X q = 29 then 24 else 25, lE X q, true, d, op1, setO cm1 d true) := by
        rw [rStep_f]
        unfold rNext
        rw [if_neg (by omega), if_neg (by omega), if_neg (by omega), if_pos ⟨hO, hcd⟩]
      have h3 := hS (lE X q) op1 (setO cm1 d true) ha.2 (plain_cg h0 r2) trivial
      cases hq2 : pSum X P (lE X q) with
      | inl k =>
        rw [hq2] at h3
        exact (h3.pre (cs := [_]) ⟨_, h1, rfl⟩).pre r1
      | inr z =>
        obtain ⟨r, g⟩ := z
        rw [hq2] at h3
        obtain ⟨cs2, op2, cm2, t1, t2, t3, -, t5⟩ := h3
        refine ⟨cs1 ++ _ :: cs2, op2, cm2, r1.app ⟨_, h1, t1⟩, fun k hk => (t2 k hk).trans (r2 k hk), fun k hk => ?_, fun _ => ?_, ?_⟩
        · rw [t3 k (by omega), setO_ne (by omega), r3 k (by omega)]
        · rw [t3 d (by omega), setO_eq rfl]
        · rcases hO with h | h
          · rw [h]; exact ev_te (Or.inl ⟨rfl, rfl⟩) r5 t5
          · rw [h]; exact ev_te (Or.inr ⟨rfl, rfl⟩) r5 t5
theorem Sp_tests {X : Tp} {law d : Nat} {P : Nat → Res} (hA : ∀ p, p ≤ X.1 → adv X p (P p)) (hP : Sp X law d (d + 1) tT tE (EvP d) P) : Sp X law d d (tS d) (tN X d) (EvTs d) (pTests X P) :=
  Sp_chain (c := fun t => if t = 18 then 26 else 27) (g := fun cm => setO cm d false) rfl (pTest_adv hA) (fun p op cm h => by
    unfold o18 at h
    rw [Bool.or_eq_true, decide_eq_true_iff, decide_eq_true_iff] at h
    unfold rNext
    rw [if_neg (by omega), if_neg (by omega), if_neg (by omega), if_neg (fun q => by rcases q.1 with q | q <;> omega), if_pos h]) (fun _ k hk => setO_ne (by omega)) (fun _ _ _ => setO_eq rfl) (fun _ _ h => ev_ts0 h) (fun t _ _ _ _ h a b => by
    unfold o18 at h
    rw [Bool.or_eq_true, decide_eq_true_iff, decide_eq_true_iff] at h
    rcases h with rfl | rfl
    · exact ev_ts (Or.inl ⟨rfl, rfl⟩) a b
    · exact ev_ts (Or.inr ⟨rfl, rfl⟩) a b) (Sp_test hA hP)
/-! where a reading stops -/
theorem opL_stop {X : Tp} {O : Nat → Bool} {Q : Nat → Res} {N : Nat → Prop} (hO : O 35 = false) (hA : ∀ p, p ≤ X.1 → adv X p (Q p)) (hN : ∀ p q f, p ≤ X.1 → Q p = .inr (q, f) → N (lT X q)) : ∀ (n p : Nat) (f : Den) (q : Nat) (g : Den), p ≤ X.1 → X.1 < n + p → N (lT X p) → opL X O Q n p f = .inr (q, g) → O (lT X q) = false ∧ N (lT X q) := by
  intro n
  induction n with
  | zero => intro p f q g h1 h2; omega
  | succ n ih =>
    intro p f q g h1 h2 h3 e
    unfold opL at e
    cases hc : O (lT X p) with
    | true =>
      rw [if_pos hc] at e
      have ha := lE_adv h1 rfl (o_ne hO hc)
      cases hq : Q (lE X p) with
      | inl k => rw [hq] at e; cases e
      | inr z =>
        obtain ⟨r, g'⟩ := z
        rw [hq] at e
        have h4 := hA (lE X p) ha.2 r g' hq
        exact ih r _ q g h4.2 (by omega) (hN _ _ _ ha.2 hq) e
    | false =>
      rw [hc, if_neg (by decide)] at e
      cases e
      exact ⟨hc, h3⟩
theorem chain_stop {X : Tp} {O : Nat → Bool} {Q : Nat → Res} {N : Nat → Prop} (hX : okTp X) (hO : O 35 = false) (hA : ∀ p, p ≤ X.1 → adv X p (Q p)) (hN : ∀ p q f, p ≤ X.1 → Q p = .inr (q, f) → N (lT X q)) : ∀ p q f, p ≤ X.1 → chain X O Q p = .inr (q, f) → O (lT X q) = false ∧ N (lT X q) := by
  intro p q f hp e
  have hX1 := hX.1
  unfold chain at e
  cases hq : Q p with
  | inl k => rw [hq] at e; cases e
  | inr z =>
    obtain ⟨r, g'⟩ := z
    rw [hq] at e
    have h4 := hA p hp r g' hq
    exact opL_stop hO hA hN 1000 r g' q f h4.2 (by omega) (hN _ _ _ hp hq) e
theorem pTests_stop {X : Tp} {P : Nat → Res} (hX : okTp X) (hA : ∀ p, p ≤ X.1 → adv X p (P p)) : ∀ p q f, p ≤ X.1 → pTests X P p = .inr (q, f) → o18 (lT X q) = false ∧ o31 (lT X q) = false ∧ o33 (lT X q) = false := by
  have h1 := chain_stop (N := fun _ => True) hX (O := o33) rfl hA (fun _ _ _ _ _ => trivial)
  have hA1 := chain_adv (O := o33) rfl hA
  have h2 := chain_stop (N := fun t => o33 t = false) hX (O := o31) rfl hA1 (fun p q f hp e => (h1 p q f hp e).1)
  have hA2 := chain_adv (O := o31) rfl hA1
  have h3 : ∀ p q f, p ≤ X.1 → pTest X P p = .inr (q, f) → o31 (lT X q) = false ∧ o33 (lT X q) = false := by
    intro p q f hp e
    unfold pTest at e
    cases hq : pSum X P p with
    | inl k => rw [hq] at e; cases e
    | inr z =>
      obtain ⟨r, g⟩ := z
      rw [hq] at e
      have h4 := hA2 p hp r g hq
      have e : (if o29 (lT X r) = true then _ else Sum.inr (r, g)) = Sum.inr (q, f) := e
      by_cases hc : o29 (lT X r) = true
      · rw [if_pos hc] at e
        have ha := lE_adv h4.2 rfl (o_ne (O := o29) rfl hc)
        cases hq2 : pSum X P (lE X r) with
        | inl k => rw [hq2] at e; cases e
        | inr z =>
          obtain ⟨r', g'⟩ := z
          rw [hq2] at e
          cases e
          exact h2 _ _ _ ha.2 hq2
      · rw [if_neg hc] at e
        cases e
        exact h2 _ _ _ hp hq
  exact chain_stop (N := fun t => o31 t = false ∧ o33 t = false) hX (O := o18) rfl (pTest_adv hA) h3
theorem rNext_end {X : Tp} {q d : Nat} {op cm : Nat → Bool} (h : o18 (lT X q) = false ∧ o31 (lT X q) = false ∧ o33 (lT X q) = false) (hn : tN X d q cm) : rNext X q d op cm = if lT X q = 28 ∧ 0 < d then .inr (29, lE X q, false, popO op (d - 1), op, cm) else if lT X q = 34 ∧ d = 0 then .inl 0 else .inl (1 + 16 * lB X q) := by
  obtain ⟨h1, h2, h3⟩ := h
  unfold o18 at h1
  unfold o31 at h2
  rw [Bool.or_eq_false_iff] at h1 h2
  have a1 := of_decide_eq_false h1.1
  have a2 := of_decide_eq_false h1.2
  have a3 := of_decide_eq_false h2.1
  have a4 := of_decide_eq_false h2.2
  have a5 : ¬ lT X q = 33 := of_decide_eq_false h3
  unfold rNext
  rw [if_neg a3, if_neg a4, if_neg a5, if_neg (fun z => by rw [hn z.1] at z; cases z.2), if_neg (fun z => z.elim a1 a2)]
/-! a part -/
def PtS (X : Tp) (law d : Nat) (P : Nat → Res) : Prop := ∀ (p : Nat) (op cm : Nat → Bool), p ≤ X.1 → match P p with
  | .inl k => Bad X law (p, true, d, op, cm) k
  | .inr (q, f) => ∃ cs op' cm', Rn X law cs (p, true, d, op, cm) (q, false, popO op d, op', cm') ∧ (∀ k, k ≤ d → op' k = op k) ∧ (∀ k, k ≤ d → cm' k = cm k) ∧ EvP d cs f
theorem popO_plain {op : Nat → Bool} {d : Nat} (h : d = 0 ∨ op d = false) : popO op d = d := by
  cases d with
  | zero => rfl
  | succ d =>
    unfold popO
    rw [if_neg (h.elim (fun q => absurd q (by omega)) (fun q => by rw [q]; decide))]
theorem PtS.sp {X : Tp} {law d : Nat} {P : Nat → Res} (h : PtS X law d P) : Sp X law d (d + 1) tT tE (EvP d) P := by
  intro p op cm hp h0 _
  have h1 := h p op cm hp
  cases hq : P p with
  | inl k => rw [hq] at h1; exact h1
  | inr z =>
    obtain ⟨q, f⟩ := z
    rw [hq] at h1
    obtain ⟨cs, op', cm', a1, a2, a3, a4⟩ := h1
    rw [popO_plain h0] at a1
    exact ⟨cs, op', cm', a1, a2, fun k hk => a3 k (by omega), trivial, a4⟩
theorem st_leaf {val : Nat → Int32} {d n : Nat} {V : Vw} (hv : n < 10000) : stepW val (nI (100 + n)) d V = some (dlv d V (nI n)) := by
  have ne : ∀ m, m < 100 → ¬ nI (100 + n) = nI m := fun m hm q => by have := (nI_eq (by omega) (by omega)).mp q; omega
  have e : nI (100 + n) - (100 : Int32) = nI n := by
    rw [show nI (100 + n) - (100 : Int32) = nI (100 + n - 100) from pk_sub (b := 100) (by omega), Nat.add_sub_cancel_left]
  unfold stepW
  rw [if_neg (fun q => q.elim (ne 28 (by omega)) (ne 30 (by omega))), if_neg (fun q => q.elim (ne 20 (by omega)) (ne 21 (by omega))), if_neg (show ¬ nI (100 + n) = 22 from ne 22 (by omega)), if_neg (fun q => q.elim (ne 24 (by omega)) (ne 25 (by omega))), if_neg (fun q => q.elim (ne 26 (by omega)) (ne 27 (by omega))), if_neg (show ¬ nI (100 + n) = 29 from ne 29 (by omega)), if_neg (fun q => by have : 100 + n < 100 := (lt_nl (m := 100) (by decide) (by omega)).mp q; omega), e]
theorem st_fact {val : Nat → Int32} {d n : Nat} {V : Vw} (hv : n < 7) : stepW val (nI n) d V = some (dlv d V (val n)) := by
  have ne : ∀ m, 7 ≤ m → m < 100 → ¬ nI n = nI m := fun m h1 hm q => by have := (nI_eq (by omega) (by omega)).mp q; omega
  unfold stepW
  rw [if_neg (fun q => q.elim (ne 28 (by omega) (by omega)) (ne 30 (by omega) (by omega))), if_neg (fun q => q.elim (ne 20 (by omega) (by omega)) (ne 21 (by omega) (by omega))), if_neg (show ¬ nI n = 22 from ne 22 (by omega) (by omega)), if_neg (fun q => q.elim (ne 24 (by omega) (by omega)) (ne 25 (by omega) (by omega))), if_neg (fun q => q.elim (ne 26 (by omega) (by omega)) (ne 27 (by omega) (by omega))), if_neg (show ¬ nI n = 29 from ne 29 (by omega) (by omega)), if_pos ((lt_nl (m := 100) (by decide) (by omega)).mpr (show n < 100 by omega)), if_neg (fun q => by have : 20 ≤ n := (le_ln (m := 20) (by decide) (by omega)).mp q; omega), if_pos (inB_n (by omega) (by decide)), nI_clamp (by omega)]
theorem PtS_part {X : Tp} {law : Nat} (hX : okTp X) (hl : law < 2) : ∀ (m d : Nat), d + m = 5 → PtS X law d (pPart X law m) := by
  intro m
  induction m with
  | zero =>
    intro d hd p op cm hp
    unfold pPart
    have e5 : d = 5 := by omega
    subst e5
    cases hc : canB law (lT X p) with
    | true =>
      rw [if_pos rfl]
      refine ⟨[], _, rfl, ?_⟩
      rw [rStep_t]
      unfold rWant
      rw [if_pos hc, if_pos rfl]
    | false =>
      rw [if_neg (by decide)]
      refine ⟨[], _, rfl, ?_⟩
      rw [rStep_t]
      unfold rWant
      rw [hc, if_neg (by decide)]
  | succ m ih =>
    intro d hd p op cm hp
    have ih := ih (d + 1) (by omega)
    have hA := fun p hp => pPart_adv (X := X) (law := law) m p hp
    have hT := lT_le (X := X) (p := p)
    unfold pPart
    cases hc : canB law (lT X p) with
    | false =>
      rw [if_neg (by decide)]
      refine ⟨[], _, rfl, ?_⟩
      rw [rStep_t]
      unfold rWant
      rw [hc, if_neg (by decide)]
    | true =>
      rw [if_pos rfl]
      have hne : lT X p ≠ 35 := fun z => by rw [z, canB_35 ⟨law, hl⟩] at hc; cases hc
      have ha := lE_adv hp rfl hne
      by_cases h17 : lT X p = 17
      · rw [if_pos h17]
        have h1 : rStep X law (p, true, d, op, cm) = .inr (30, lE X p, true, d + 1, setO op (d + 1) true, setO cm (d + 1) false) := by
          rw [rStep_t]
          unfold rWant
          rw [if_pos hc, if_neg (by omega), if_pos h17]
        have h2 := ih (lE X p) (setO op (d + 1) true) (setO cm (d + 1) false) ha.2
        cases hq : pPart X law m (lE X p) with
        | inl k =>
          rw [hq] at h2
          exact h2.pre (cs := [30]) ⟨_, h1, rfl⟩
        | inr z =>
          obtain ⟨q, f⟩ := z
          rw [hq] at h2
          obtain ⟨cs, op', cm', a1, a2, a3, a4⟩ := h2
          have ep : popO (setO op (d + 1) true) (d + 1) = popO op d := by
            show (if setO op (d + 1) true (d + 1) = true then popO (setO op (d + 1) true) d else d + 1) = popO op d
            rw [setO_eq rfl, if_pos rfl]
            exact popO_cg d (fun k h1 h2 => setO_ne (by omega))
          rw [ep] at a1
          refine ⟨30 :: cs, op', cm', ⟨_, h1, a1⟩, fun k hk => by rw [a2 k (by omega), setO_ne (by omega)], fun k hk => by rw [a3 k (by omega), setO_ne (by omega)], ?_⟩
          intro val V
          obtain ⟨V', b1, b2⟩ := a4 val (opensV (d + 1) (u2 V 22 (d + 1) 1))
          have e22 : V' 22 (d + 1) = 1 := by
            rw [b2 22 (d + 1) (by omega)]
            unfold opensV
            rw [u2_ne (by omega), u2_ne (by omega), u2_ne (by omega), u2_ne (by omega), u2_ne (by omega), u2_eq ⟨rfl, rfl⟩]
          refine ⟨V', ?_, fun j k hk => ?_⟩
          · rw [wkL_c]
            have s1 : stepW val 30 d V = some (d + 1, opensV (d + 1) (u2 V 22 (d + 1) 1)) := by
              unfold stepW
              rw [if_pos (by decide), if_pos (by omega), if_pos rfl]
            rw [s1, Option.bind_some, b1]
            conv => lhs; unfold dlv
            rw [if_pos e22]
          · rw [b2 j k (by omega)]
            unfold opensV
            rw [u2_ne (by omega), u2_ne (by omega), u2_ne (by omega), u2_ne (by omega), u2_ne (by omega), u2_ne (by omega)]
      · rw [if_neg h17]
        by_cases h27 : lT X p = 27
        · rw [if_pos h27]
          have h1 : rStep X law (p, true, d, op, cm) = .inr (28, lE X p, true, d + 1, setO op (d + 1) false, setO cm (d + 1) false) := by
            rw [rStep_t]
            unfold rWant
            rw [if_pos hc, if_neg (by omega), if_neg h17, if_pos h27]
          have h2 := Sp_tests hA ih.sp (lE X p) (setO op (d + 1) false) (setO cm (d + 1) false) ha.2 (Or.inr (setO_eq rfl)) (setO_eq rfl)
          cases hq : pTests X (pPart X law m) (lE X p) with
          | inl k =>
            rw [hq] at h2
            exact h2.pre (cs := [28]) ⟨_, h1, rfl⟩
          | inr z =>
            obtain ⟨q, f⟩ := z
            rw [hq] at h2
            obtain ⟨cs, op', cm', a1, a2, a3, a4, a5⟩ := h2
            have hst := rNext_end (op := op') (pTests_stop hX hA _ _ _ ha.2 hq) a4
            show match (if lT X q = 28 then Sum.inr (lE X q, f) else fl X 1 q) with
              | .inl k => Bad X law (p, true, d, op, cm) k
              | .inr (q, f) => ∃ cs op' cm', Rn X law cs (p, true, d, op, cm) (q, false, popO op d, op', cm') ∧ (∀ k, k ≤ d → op' k = op k) ∧ (∀ k, k ≤ d → cm' k = cm k) ∧ EvP d cs f
            by_cases h28 : lT X q = 28
            · rw [if_pos h28]
              rw [if_pos ⟨h28, by omega⟩, Nat.add_sub_cancel, popO_cg (op := op) d (fun k _ hk => by rw [a2 k (by omega), setO_ne (by omega)])] at hst
              refine ⟨28 :: (cs ++ [29]), op', cm', ⟨_, h1, a1.app ⟨_, by rw [rStep_f]; exact hst, rfl⟩⟩, fun k hk => by rw [a2 k (by omega), setO_ne (by omega)], fun k hk => by rw [a3 k (by omega), setO_ne (by omega)], ?_⟩
              intro val V
              have s1 : stepW val 28 d V = some (d + 1, opensV (d + 1) (u2 V 22 (d + 1) 0)) := by
                unfold stepW
                rw [if_pos (by decide), if_pos (by omega), if_neg (by decide)]
              have o22 : opensV (d + 1) (u2 V 22 (d + 1) 0) 22 (d + 1) = 0 := by unfold opensV; rw [u2_ne (by omega), u2_ne (by omega), u2_ne (by omega), u2_ne (by omega), u2_ne (by omega), u2_eq ⟨rfl, rfl⟩]
              have o15 : opensV (d + 1) (u2 V 22 (d + 1) 0) 15 (d + 1) = 0 := by unfold opensV; rw [u2_ne (by omega), u2_ne (by omega), u2_ne (by omega), u2_ne (by omega), u2_eq ⟨rfl, rfl⟩]
              have o17 : opensV (d + 1) (u2 V 22 (d + 1) 0) 17 (d + 1) = 0 := by unfold opensV; rw [u2_ne (by omega), u2_ne (by omega), u2_ne (by omega), u2_eq ⟨rfl, rfl⟩]
              have o18 : opensV (d + 1) (u2 V 22 (d + 1) 0) 18 (d + 1) = 0 := by unfold opensV; rw [u2_ne (by omega), u2_ne (by omega), u2_eq ⟨rfl, rfl⟩]
              have o19 : opensV (d + 1) (u2 V 22 (d + 1) 0) 19 (d + 1) = 20 := by unfold opensV; rw [u2_ne (by omega), u2_eq ⟨rfl, rfl⟩]
              have o21 : opensV (d + 1) (u2 V 22 (d + 1) 0) 21 (d + 1) = 0 := by unfold opensV; rw [u2_eq ⟨rfl, rfl⟩]
              have ol : lowE (d + 1) V (opensV (d + 1) (u2 V 22 (d + 1) 0)) := fun j k hk => by unfold opensV; rw [u2_ne (by omega), u2_ne (by omega), u2_ne (by omega), u2_ne (by omega), u2_ne (by omega), u2_ne (by omega)]
              generalize opensV (d + 1) (u2 V 22 (d + 1) 0) = W at s1 o22 o15 o17 o18 o19 o21 ol
              obtain ⟨V', b1, b2, b3, b4⟩ := a5 val W (Or.inr (by rw [o22]; decide)) o15 o17 o18 o19 o21
              have s2 : stepW val 29 (d + 1) V' = some (dlv d (testsV (d + 1) V') (testsV (d + 1) V' 14 (d + 1))) := by
                unfold stepW
                rw [if_neg (by decide), if_neg (by decide), if_neg (by decide), if_neg (by decide), if_neg (by decide), if_pos rfl, if_pos (by omega), Nat.add_sub_cancel]
              refine ⟨testsV (d + 1) V', ?_, fun j k hk => ?_⟩
              · rw [wkL_c, s1, Option.bind_some, wkL_app, b1, Option.bind_some, wkL_c, s2, tsts_tst, b2]
                rfl
              · rw [tsts_low (by omega), b3 j k hk, ol j k hk]
            · rw [if_neg h28]
              rw [if_neg (fun z => h28 z.1), if_neg (fun z => by omega)] at hst
              exact ⟨28 :: cs, _, ⟨_, h1, a1⟩, by rw [rStep_f]; exact hst⟩
        · rw [if_neg h27]
          have h1 : rStep X law (p, true, d, op, cm) = .inr (nI (if factOf law (lT X p) = 0 then 100 + lV X p else factOf law (lT X p)), lE X p, false, popO op d, op, cm) := by
            rw [rStep_t]
            unfold rWant
            rw [if_pos hc, if_neg (by omega), if_neg h17, if_neg h27]
          refine ⟨[_], op, cm, ⟨_, h1, rfl⟩, fun _ _ => rfl, fun _ _ => rfl, ?_⟩
          intro val V
          refine ⟨V, ?_, fun _ _ _ => rfl⟩
          rw [wkL_c]
          unfold leafD
          by_cases hf : factOf law (lT X p) = 0
          · have h26 : lT X p = 26 := by
              rcases canB_iff.mp hc with q | q | q | q
              · exact absurd hf q
              · exact q
              · exact absurd q h17
              · exact absurd q h27
            rw [if_pos hf, if_pos hf, st_leaf (lV_lt hp h26)]
            rfl
          · have f9 := fact_F ⟨law, hl⟩ ⟨lT X p, by omega⟩ hf
            have f9 : factOf law (lT X p) < 7 := f9.2.2.2.2.2.1
            rw [if_neg hf, if_neg hf, st_fact f9]
            rfl
/-- E whole -/
theorem rd_E {X : Tp} {law p : Nat} {op cm : Nat → Bool} (hX : okTp X) (hl : law < 2) (hp : p ≤ X.1) (hc : cm 0 = false) : match pTests X (pPart X law 5) p with
    | .inl k => Bad X law (p, true, 0, op, cm) k
    | .inr (q, f) => ∃ cs op' cm', Rn X law cs (p, true, 0, op, cm) (q, false, 0, op', cm') ∧ rStep X law (q, false, 0, op', cm') = (if lT X q = 34 then .inl 0 else .inl (1 + 16 * lB X q)) ∧ EvTs 0 cs f ∧ 0 < cs.length := by
  have hA := fun p hp => pPart_adv (X := X) (law := law) 5 p hp
  have h2 := Sp_tests hA (PtS_part hX hl 5 0 (by omega)).sp p op cm hp (Or.inl rfl) hc
  cases hq : pTests X (pPart X law 5) p with
  | inl k => rw [hq] at h2; exact h2
  | inr z =>
    obtain ⟨q, f⟩ := z
    rw [hq] at h2
    obtain ⟨cs, op', cm', a1, a2, a3, a4, a5⟩ := h2
    have hst := rNext_end (op := op') (pTests_stop hX hA _ _ _ hp hq) a4
    rw [if_neg (fun z => by omega)] at hst
    refine ⟨cs, op', cm', a1, ?_, a5, ?_⟩
    · rw [rStep_f, hst]
      by_cases h34 : lT X q = 34
      · rw [if_pos ⟨h34, rfl⟩, if_pos h34]
      · rw [if_neg (fun z => h34 z.1), if_neg h34]
    · cases cs with
      | nil => cases a1
      | cons c cs => rw [List.length_cons]; omega
