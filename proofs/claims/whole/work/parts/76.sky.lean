/-! what a tape tells of a sky -/
def bS {α β : Type} (r : Sum Nat α) (f : α → Sum Nat β) : Sum Nat β := match r with
  | .inl k => .inl k
  | .inr a => f a
def psR {α : Type} (r : Sum Nat (Nat × α)) : Sum Nat Nat := bS r fun z => .inr z.1
abbrev SkR : Type := Nat × Nat × (Nat → Nat) × (Nat → Nat → Nat) × Option Den × Option Den
def zT (s : SkR) : Nat := s.1
def zN (s : SkR) : Nat := s.2.1
def zV (s : SkR) : Nat → Nat := s.2.2.1
def zF (s : SkR) : Nat → Nat → Nat := s.2.2.2.1
def zW (s : SkR) : Option Den := s.2.2.2.2.1
def zR (s : SkR) : Option Den := s.2.2.2.2.2
def exS (X : Tp) (t p : Nat) : Sum Nat Nat := if lT X p = t then .inr (lE X p) else .inl (1 + 16 * lB X p)
def nuS (X : Tp) (lw hi p : Nat) : Sum Nat (Nat × Nat) := if lT X p = 26 then (if lw ≤ lV X p ∧ lV X p ≤ hi then .inr (lE X p, lV X p) else .inl (4 + 16 * lB X p)) else .inl (1 + 16 * lB X p)
def wnS (X : Tp) (t lw hi p : Nat) : Sum Nat (Nat × Nat) := bS (exS X t p) (nuS X lw hi)
def anyB (g : Nat → Bool) : Nat → Nat → Bool
  | _, 0 => false
  | i, d + 1 => g i || anyB g (i + 1) d
def naS (X : Tp) (s : SkR) (p : Nat) : Sum Nat Nat := if 19 < lT X p ∧ lT X p ≤ 25 then (if anyB (fun j => decide (lW X (zF s 0 j) = lW X p)) 0 (zN s) = true then .inl (3 + 16 * lB X p) else .inr (lE X p)) else .inl (1 + 16 * lB X p)
def kiS (X : Tp) (p : Nat) : Sum Nat (Nat × Nat) := if 11 ≤ lT X p ∧ lT X p ≤ 16 then .inr (lE X p, lT X p - 11) else .inl (1 + 16 * lB X p)
def setK (f : Nat → Nat → Nat) (n : Nat) (v : Nat → Nat) : Nat → Nat → Nat := fun j k => if k = n then v j else f j k
def six (a b c d e g : Nat) : Nat → Nat := fun j => if j = 0 then a else if j = 1 then b else if j = 2 then c else if j = 3 then d else if j = 4 then e else g
def pKite (X : Tp) (p : Nat) (s : SkR) : Sum Nat (Nat × SkR) := if 6 ≤ zN s then .inl (5 + 16 * lB X p) else
  bS (naS X s (lE X p)) fun p2 => bS (kiS X p2) fun z3 => bS (wnS X 7 0 99 z3.1) fun z4 => bS (wnS X 8 1 20 z4.1) fun z5 => bS (wnS X 9 0 99 z5.1) fun z6 => bS (wnS X 10 0 40 z6.1) fun z7 =>
  .inr (z7.1, zT s, zN s + 1, zV s, setK (zF s) (zN s) (six (lE X p) z3.2 z4.2 z5.2 z6.2 z7.2), zW s, zR s)
def loT (t : Nat) : Nat := if t = 2 then 0 else if t = 3 then 1 else if t = 4 then 1 else 0
def hiT (t : Nat) : Nat := if t = 2 then 999 else if t = 3 then 5 else if t = 4 then 20 else 50
def pOnce (X : Tp) (p t : Nat) (s : SkR) : Sum Nat (Nat × SkR) := if lo (zT s) t = true then .inl (3 + 16 * lB X p) else
  if t = 0 then bS (pTests X (pPart X 0 5) (lE X p)) fun z => .inr (z.1, zT s + 2 ^ t, zN s, zV s, zF s, some z.2, zR s)
  else if t = 1 then bS (pTests X (pPart X 1 5) (lE X p)) fun z => .inr (z.1, zT s + 2 ^ t, zN s, zV s, zF s, zW s, some z.2)
  else bS (nuS X (loT t) (hiT t) (lE X p)) fun z => .inr (z.1, zT s + 2 ^ t, zN s, (fun i => if i = t then z.2 else zV s i), zF s, zW s, zR s)
def pStat0 (X : Tp) (p : Nat) (s : SkR) : Sum Nat (Nat × SkR) := if lT X p = 6 then pKite X p s else if lT X p ≤ 5 then pOnce X p (lT X p) s else .inl (1 + 16 * lB X p)
def pStat (X : Tp) (p : Nat) (s : SkR) : Sum Nat (Nat × SkR) := bS (pStat0 X p s) fun z => bS (exS X 34 z.1) fun q => .inr (q, z.2)
def pSky (X : Tp) : Nat → Nat → SkR → Sum Nat SkR
  | 0, _, s => .inr s
  | n + 1, p, s => if lT X p = 35 then .inr s else bS (pStat X p s) fun z => pSky X n z.1 z.2
def sk0 : SkR := (0, 0, (fun t => if t = 2 then 20 else if t = 3 then 2 else if t = 4 then 5 else 0), (fun _ _ => 0), none, none)
/-! a law asks for nothing but its facts -/
def prj (law : Nat) (v : Nat → Int32) : Nat → Int32 := fun i => if law = 0 then (if i = 1 then v 1 else if i = 2 then v 2 else v 3) else (if i = 1 then v 1 else if i = 2 then v 2 else if i = 3 then v 3 else if i = 4 then v 4 else if i = 5 then v 5 else v 6)
def depD (law : Nat) (f : Den) : Prop := ∀ v, f (prj law v) = f v
def depR (law : Nat) (r : Res) : Prop := ∀ q f, r = .inr (q, f) → depD law f
theorem opL_dep {X : Tp} {law : Nat} {O : Nat → Bool} {Q : Nat → Res} (hQ : ∀ p, depR law (Q p)) : ∀ (n p : Nat) (f : Den), depD law f → depR law (opL X O Q n p f)
  | 0, p, f, hf => fun q g e => by cases e; exact hf
  | n + 1, p, f, hf => by
    intro q g e
    unfold opL at e
    by_cases hc : O (lT X p) = true
    · rw [if_pos hc] at e
      cases hq : Q (lE X p) with
      | inl k' => rw [hq] at e; cases e
      | inr z =>
        obtain ⟨r, g'⟩ := z
        rw [hq] at e
        exact opL_dep hQ n r _ (fun v => by
          show joinedF _ _ _ = joinedF _ _ _
          rw [hf v, hQ _ _ _ hq v]) q g e
    · rw [if_neg hc] at e
      cases e
      exact hf
theorem chain_dep {X : Tp} {law : Nat} {O : Nat → Bool} {Q : Nat → Res} (hQ : ∀ p, depR law (Q p)) (p : Nat) : depR law (chain X O Q p) := by
  intro q g e
  unfold chain at e
  cases hq : Q p with
  | inl k' => rw [hq] at e; cases e
  | inr z =>
    obtain ⟨r, g'⟩ := z
    rw [hq] at e
    exact opL_dep hQ 1000 r g' (hQ _ _ _ hq) q g e
theorem pTest_dep {X : Tp} {law : Nat} {P : Nat → Res} (hP : ∀ p, depR law (P p)) (p : Nat) : depR law (pTest X P p) := by
  have hS : ∀ p, depR law (pSum X P p) := fun p => chain_dep (chain_dep hP) p
  intro q g e
  unfold pTest at e
  cases hq : pSum X P p with
  | inl k' => rw [hq] at e; cases e
  | inr z =>
    obtain ⟨r, g'⟩ := z
    rw [hq] at e
    have e : (if o29 (lT X r) = true then (match pSum X P (lE X r) with
      | .inl k => Sum.inl k
      | .inr (r', g) => Sum.inr (r', fun v => joinedF (nI (lT X r)) (g' v) (g v))) else Sum.inr (r, g')) = Sum.inr (q, g) := e
    by_cases hc : o29 (lT X r) = true
    · rw [if_pos hc] at e
      cases hq2 : pSum X P (lE X r) with
      | inl k' => rw [hq2] at e; cases e
      | inr z =>
        obtain ⟨r2, g2⟩ := z
        rw [hq2] at e
        cases e
        intro v
        show joinedF _ _ _ = joinedF _ _ _
        rw [hS _ _ _ hq v, hS _ _ _ hq2 v]
    · rw [if_neg hc] at e
      cases e
      exact hS _ _ _ hq
theorem fact_3 : ∀ t : Fin 37, factOf 0 t.val = 0 ∨ factOf 0 t.val = 1 ∨ factOf 0 t.val = 2 ∨ factOf 0 t.val = 3 := by decide +kernel
theorem fact_6 : ∀ t : Fin 37, factOf 1 t.val = 0 ∨ factOf 1 t.val = 1 ∨ factOf 1 t.val = 2 ∨ factOf 1 t.val = 3 ∨ factOf 1 t.val = 4 ∨ factOf 1 t.val = 5 ∨ factOf 1 t.val = 6 := by decide +kernel
theorem leaf_dep {X : Tp} {law p : Nat} (hl : law < 2) : depD law (leafD X law p) := by
  intro v
  have hT := lT_le (X := X) (p := p)
  unfold leafD
  by_cases hf : factOf law (lT X p) = 0
  · rw [if_pos hf, if_pos hf]
  · rw [if_neg hf, if_neg hf]
    rcases (by omega : law = 0 ∨ law = 1) with rfl | rfl
    · rcases fact_3 ⟨lT X p, by omega⟩ with q | q | q | q
      · exact absurd q hf
      all_goals (rw [show factOf 0 (lT X p) = _ from q]; rfl)
    · rcases fact_6 ⟨lT X p, by omega⟩ with q | q | q | q | q | q | q
      · exact absurd q hf
      all_goals (rw [show factOf 1 (lT X p) = _ from q]; rfl)
theorem pPart_dep {X : Tp} {law : Nat} (hl : law < 2) : ∀ (m p : Nat), depR law (pPart X law m p) := by
  intro m
  induction m with
  | zero =>
    intro p q f e
    unfold pPart at e
    split at e <;> cases e
  | succ m ih =>
    intro p q f e
    unfold pPart at e
    split at e
    · by_cases h17 : lT X p = 17
      · rw [if_pos h17] at e
        cases hq : pPart X law m (lE X p) with
        | inl k' => rw [hq] at e; cases e
        | inr z =>
          obtain ⟨r, g⟩ := z
          rw [hq] at e
          cases e
          intro v
          show (if g (prj law v) = 0 then (1 : Int32) else 0) = if g v = 0 then 1 else 0
          rw [ih _ _ _ hq v]
      · rw [if_neg h17] at e
        by_cases h27 : lT X p = 27
        · rw [if_pos h27] at e
          cases hq : pTests X (pPart X law m) (lE X p) with
          | inl k' => rw [hq] at e; cases e
          | inr z =>
            obtain ⟨r, g'⟩ := z
            rw [hq] at e
            have e : (if lT X r = 28 then Sum.inr (lE X r, g') else fl X 1 r) = Sum.inr (q, f) := e
            by_cases h28 : lT X r = 28
            · rw [if_pos h28] at e
              cases e
              exact chain_dep (pTest_dep ih) _ _ _ hq
            · rw [if_neg h28] at e; cases e
        · rw [if_neg h27] at e
          cases e
          exact leaf_dep hl
    · cases e
theorem pE_dep {X : Tp} {law p : Nat} (hl : law < 2) : depR law (pTests X (pPart X law 5) p) := chain_dep (pTest_dep (pPart_dep hl 5)) p
/-! what is so of a sky that is being told -/
def wfZ (X : Tp) (s : SkR) : Prop := zN s ≤ 6 ∧ zT s < 64 ∧ lo (zT s) 0 = (zW s).isSome ∧ lo (zT s) 1 = (zR s).isSome ∧ (zV s 2 ≤ 999 ∧ 1 ≤ zV s 3 ∧ zV s 3 ≤ 5 ∧ 1 ≤ zV s 4 ∧ zV s 4 ≤ 20 ∧ zV s 5 ≤ 50) ∧ (∀ k, k < zN s → zF s 1 k ≤ 5 ∧ zF s 2 k ≤ 99 ∧ (1 ≤ zF s 3 k ∧ zF s 3 k ≤ 20) ∧ zF s 4 k ≤ 99 ∧ zF s 5 k ≤ 40 ∧ zF s 0 k ≤ X.1 ∧ lT X (zF s 0 k) ≤ 25) ∧ (∀ f, zW s = some f → depD 0 f) ∧ ∀ f, zR s = some f → depD 1 f
theorem wfZ_0 {X : Tp} : wfZ X sk0 := ⟨by decide, by decide, by decide, by decide, by decide, fun k hk => absurd hk (by show ¬ k < 0; omega), fun f hf => (by cases hf), fun f hf => (by cases hf)⟩
theorem bS_r {α β : Type} {r : Sum Nat α} {f : α → Sum Nat β} {b : β} (h : bS r f = .inr b) : ∃ a, r = .inr a ∧ f a = .inr b := by
  cases r with
  | inl k => cases h
  | inr a => exact ⟨a, rfl, h⟩
theorem exS_r {X : Tp} {t p q : Nat} (h : exS X t p = .inr q) : lT X p = t ∧ q = lE X p := by
  unfold exS at h
  split at h
  · cases h; exact ⟨by assumption, rfl⟩
  · cases h
theorem nuS_r {X : Tp} {a b p q n : Nat} (h : nuS X a b p = .inr (q, n)) : lT X p = 26 ∧ q = lE X p ∧ n = lV X p ∧ a ≤ n ∧ n ≤ b := by
  unfold nuS at h
  split at h
  · split at h
    · rename_i h1 h2
      cases h
      exact ⟨h1, rfl, rfl, h2.1, h2.2⟩
    · cases h
  · cases h
theorem wnS_r {X : Tp} {t a b p q n : Nat} (h : wnS X t a b p = .inr (q, n)) : lT X p = t ∧ lT X (lE X p) = 26 ∧ q = lE X (lE X p) ∧ a ≤ n ∧ n ≤ b := by
  obtain ⟨p1, h1, h2⟩ := bS_r h
  obtain ⟨e1, rfl⟩ := exS_r h1
  obtain ⟨e2, e3, e4, e5, e6⟩ := nuS_r h2
  exact ⟨e1, e2, e3, e5, e6⟩
theorem kiS_r {X : Tp} {p q n : Nat} (h : kiS X p = .inr (q, n)) : (11 ≤ lT X p ∧ lT X p ≤ 16) ∧ q = lE X p ∧ n = lT X p - 11 := by
  unfold kiS at h
  split at h
  · cases h; exact ⟨by assumption, rfl, rfl⟩
  · cases h
theorem naS_r {X : Tp} {s : SkR} {p q : Nat} (h : naS X s p = .inr q) : (19 < lT X p ∧ lT X p ≤ 25) ∧ q = lE X p := by
  unfold naS at h
  split at h
  · split at h
    · cases h
    · cases h; exact ⟨by assumption, rfl⟩
  · cases h
theorem lE_adv2 {X : Tp} {p t : Nat} (hp : p ≤ X.1) (h : lT X p = t) (ht : t ≠ 35) : p < lE X p ∧ lE X p ≤ X.1 := lE_adv hp h ht
theorem lo_set {T t : Nat} (h : lo T t = false) (hT : T < 64) (ht : t < 6) : T + 2 ^ t < 64 ∧ (∀ i, i < 6 → i ≠ t → lo (T + 2 ^ t) i = lo T i) ∧ lo (T + 2 ^ t) t = true := by
  have key : ∀ T : Fin 64, ∀ t : Fin 6, lo T.val t.val = false → T.val + 2 ^ t.val < 64 ∧ (∀ i : Fin 6, i.val ≠ t.val → lo (T.val + 2 ^ t.val) i.val = lo T.val i.val) ∧ lo (T.val + 2 ^ t.val) t.val = true := by decide +kernel
  obtain ⟨a, b, c⟩ := key ⟨T, hT⟩ ⟨t, ht⟩ h
  exact ⟨a, fun i hi hne => b ⟨i, hi⟩ hne, c⟩
theorem pKite_wf {X : Tp} {p q : Nat} {s s' : SkR} (hp : p ≤ X.1) (h6 : lT X p = 6) (hw : wfZ X s) (h : pKite X p s = .inr (q, s')) : p < q ∧ q ≤ X.1 ∧ wfZ X s' := by
  unfold pKite at h
  split at h
  · cases h
  · rename_i hn
    obtain ⟨p2, h2, h⟩ := bS_r h
    obtain ⟨⟨p3, n3⟩, h3, h⟩ := bS_r h
    obtain ⟨⟨p4, n4⟩, h4, h⟩ := bS_r h
    obtain ⟨⟨p5, n5⟩, h5, h⟩ := bS_r h
    obtain ⟨⟨p6, n6⟩, h6', h⟩ := bS_r h
    obtain ⟨⟨p7, n7⟩, h7, h⟩ := bS_r h
    cases h
    have h4 : wnS X 7 0 99 p3 = .inr (p4, n4) := h4
    have h5 : wnS X 8 1 20 p4 = .inr (p5, n5) := h5
    have h6' : wnS X 9 0 99 p5 = .inr (p6, n6) := h6'
    have h7 : wnS X 10 0 40 p6 = .inr (p7, n7) := h7
    have a0 := lE_adv2 hp h6 (by decide)
    obtain ⟨b1, b2⟩ := naS_r h2
    have a1 := lE_adv2 a0.2 rfl (by omega)
    subst b2
    obtain ⟨c1, c2, c3⟩ := kiS_r h3
    have a2 := lE_adv2 a1.2 rfl (by omega)
    obtain ⟨d1, d2, d3, d4, d5⟩ := wnS_r h4
    obtain ⟨e1, e2, e3, e4, e5⟩ := wnS_r h5
    obtain ⟨f1, f2, f3, f4, f5⟩ := wnS_r h6'
    obtain ⟨g1, g2, g3, g4, g5⟩ := wnS_r h7
    have c2 : p3 = lE X (lE X (lE X p)) := c2
    have k3 : p3 ≤ X.1 := by rw [c2]; exact a2.2
    have a3 := lE_adv2 k3 d1 (by decide)
    have a4 := lE_adv2 a3.2 d2 (by decide)
    have k4 : p4 ≤ X.1 := by rw [d3]; exact a4.2
    have a5 := lE_adv2 k4 e1 (by decide)
    have a6 := lE_adv2 a5.2 e2 (by decide)
    have k5 : p5 ≤ X.1 := by rw [e3]; exact a6.2
    have a7 := lE_adv2 k5 f1 (by decide)
    have a8 := lE_adv2 a7.2 f2 (by decide)
    have k6 : p6 ≤ X.1 := by rw [f3]; exact a8.2
    have a9 := lE_adv2 k6 g1 (by decide)
    have a10 := lE_adv2 a9.2 g2 (by decide)
    have a2' : lE X (lE X p) < lE X (lE X (lE X p)) := a2.1
    refine ⟨(by omega : p < p7), (by omega : p7 ≤ X.1), ?_⟩
    obtain ⟨w1, w2, w3, w4, w5, w6, w7, w8⟩ := hw
    refine ⟨(by omega : zN s + 1 ≤ 6), w2, w3, w4, w5, fun k hk => ?_, w7, w8⟩
    have hk : k < zN s + 1 := hk
    by_cases hkn : k = zN s
    · subst hkn
      have e : ∀ j, zF (zT s, zN s + 1, zV s, setK (zF s) (zN s) (six (lE X p) n3 n4 n5 n6 n7), zW s, zR s) j (zN s) = six (lE X p) n3 n4 n5 n6 n7 j := fun j => if_pos rfl
      rw [e, e, e, e, e, e]
      exact ⟨(by omega : n3 ≤ 5), d5, ⟨e4, e5⟩, f5, g5, a0.2, b1.2⟩
    · have e : ∀ j, zF (zT s, zN s + 1, zV s, setK (zF s) (zN s) (six (lE X p) n3 n4 n5 n6 n7), zW s, zR s) j k = zF s j k := fun j => if_neg hkn
      rw [e, e, e, e, e, e]
      exact w6 k (by omega)
theorem loT_h : ∀ t : Fin 6, 2 ≤ t.val → hiT t.val ≤ 999 := by decide +kernel
theorem pOnce_wf {X : Tp} {p q t : Nat} {s s' : SkR} (hp : p ≤ X.1) (ht : lT X p = t) (h5 : t ≤ 5) (hw : wfZ X s) (h : pOnce X p t s = .inr (q, s')) : p < q ∧ q ≤ X.1 ∧ wfZ X s' := by
  unfold pOnce at h
  obtain ⟨w1, w2, w3, w4, w5, w6, w7, w8⟩ := hw
  have a0 := lE_adv2 hp ht (by omega)
  split at h
  · cases h
  · rename_i hlo
    have hlo : lo (zT s) t = false := by simpa using hlo
    obtain ⟨l1, l2, l3⟩ := lo_set hlo w2 (show t < 6 by omega)
    split at h
    · rename_i h0
      subst h0
      obtain ⟨⟨p2, f⟩, h2, h⟩ := bS_r h
      cases h
      have ha := pTests_adv (fun p hp => pPart_adv (X := X) (law := 0) 5 p hp) (lE X p) a0.2 p2 f h2
      exact ⟨(by omega : p < p2), ha.2, w1, l1, l3, (l2 1 (by omega) (by omega)).trans w4, w5, w6, fun g hg => by cases hg; exact pE_dep (by omega) _ _ h2, w8⟩
    · split at h
      · rename_i h0
        subst h0
        obtain ⟨⟨p2, f⟩, h2, h⟩ := bS_r h
        cases h
        have ha := pTests_adv (fun p hp => pPart_adv (X := X) (law := 1) 5 p hp) (lE X p) a0.2 p2 f h2
        exact ⟨(by omega : p < p2), ha.2, w1, l1, (l2 0 (by omega) (by omega)).trans w3, l3, w5, w6, w7, fun g hg => by cases hg; exact pE_dep (by omega) _ _ h2⟩
      · obtain ⟨⟨p2, n⟩, h2, h⟩ := bS_r h
        cases h
        obtain ⟨b1, b2, b3, b4, b5⟩ := nuS_r h2
        have a1 := lE_adv2 a0.2 b1 (by decide)
        refine ⟨(by omega : p < p2), (by omega : p2 ≤ X.1), w1, l1, (l2 0 (by omega) (by omega)).trans w3, (l2 1 (by omega) (by omega)).trans w4, ?_, w6, w7, w8⟩
        show ((if 2 = t then n else zV s 2) ≤ 999 ∧ 1 ≤ (if 3 = t then n else zV s 3) ∧ (if 3 = t then n else zV s 3) ≤ 5 ∧ 1 ≤ (if 4 = t then n else zV s 4) ∧ (if 4 = t then n else zV s 4) ≤ 20 ∧ (if 5 = t then n else zV s 5) ≤ 50)
        rcases (by omega : t = 2 ∨ t = 3 ∨ t = 4 ∨ t = 5) with rfl | rfl | rfl | rfl
        · have b5 : n ≤ 999 := b5
          simp only [↓reduceIte, show ¬ (3 = 2) by decide, show ¬ (4 = 2) by decide, show ¬ (5 = 2) by decide]
          omega
        · have b5 : n ≤ 5 := b5
          have b4 : 1 ≤ n := b4
          simp only [↓reduceIte, show ¬ (2 = 3) by decide, show ¬ (4 = 3) by decide, show ¬ (5 = 3) by decide]
          omega
        · have b5 : n ≤ 20 := b5
          have b4 : 1 ≤ n := b4
          simp only [↓reduceIte, show ¬ (2 = 4) by decide, show ¬ (3 = 4) by decide, show ¬ (5 = 4) by decide]
          omega
        · have b5 : n ≤ 50 := b5
          simp only [↓reduceIte, show ¬ (2 = 5) by decide, show ¬ (3 = 5) by decide, show ¬ (4 = 5) by decide]
          omega
theorem pStat0_wf {X : Tp} {p q : Nat} {s s' : SkR} (hp : p ≤ X.1) (hw : wfZ X s) (h : pStat0 X p s = .inr (q, s')) : p < q ∧ q ≤ X.1 ∧ wfZ X s' := by
  unfold pStat0 at h
  split at h
  · exact pKite_wf hp (by assumption) hw h
  · split at h
    · exact pOnce_wf hp rfl (by assumption) hw h
    · cases h
theorem pStat_wf {X : Tp} {p q : Nat} {s s' : SkR} (hp : p ≤ X.1) (hw : wfZ X s) (h : pStat X p s = .inr (q, s')) : p < q ∧ q ≤ X.1 ∧ wfZ X s' := by
  unfold pStat at h
  obtain ⟨⟨p1, s1⟩, h1, h⟩ := bS_r h
  obtain ⟨p2, h2, h⟩ := bS_r h
  have h2 : exS X 34 p1 = .inr p2 := h2
  cases h
  obtain ⟨a1, a2, a3⟩ := pStat0_wf hp hw h1
  obtain ⟨b1, b2⟩ := exS_r h2
  have a4 := lE_adv2 a2 b1 (by decide)
  exact ⟨by omega, by omega, a3⟩
/-! the sky that is told, whole -/
def skK (s : SkR) : SkyT := ((zN s, zV s 2, zV s 3, zV s 4, zV s 5), zF s 1, zF s 2, zF s 3, zF s 4, (zW s).map (fun f a b c => f (fun i => if i = 1 then a else if i = 2 then b else c)), (zR s).map (fun f a b c d e g => f (fun i => if i = 1 then a else if i = 2 then b else if i = 3 then c else if i = 4 then d else if i = 5 then e else g)))
def skS (s : SkR) : Nat → Nat := fun j => if j < zN s then zF s 5 j else 0
theorem skK_wf {X : Tp} {s : SkR} (hw : wfZ X s) : wfK (skK s) := by
  obtain ⟨w1, w2, w3, w4, w5, w6, w7, w8⟩ := hw
  exact ⟨⟨w1, w5⟩, fun k hk => by
    have q := w6 k hk
    exact ⟨q.1, q.2.1, q.2.2.1.1, q.2.2.1.2, q.2.2.2.1⟩⟩
theorem skS_wf {X : Tp} {s : SkR} {B : Nat} (hw : wfZ X s) : wfS (skK s) B (skS s) := by
  obtain ⟨w1, w2, w3, w4, w5, w6, w7, w8⟩ := hw
  have z : ∀ j, 6 ≤ j → skS s j = 0 := fun j hj => if_neg (by omega)
  have z20 : skS s 20 = 0 := z 20 (by omega)
  refine ⟨fun k hk => ?_, by rw [z 18 (by omega)]; exact Nat.two_pow_pos _, by rw [z 19 (by omega)]; omega, by rw [z20]; omega, fun i hi => by rw [z20] at hi; omega⟩
  have hk : k < zN s := hk
  rw [z (6 + k) (by omega), z (12 + k) (by omega), show skS s k = zF s 5 k from if_pos hk]
  exact ⟨(w6 k hk).2.2.2.2.1, by omega, by omega⟩
theorem sk_wlC {s : SkR} : wlC (skK s) = (zW s).map fun f facts => f (sgC 0 facts) := by
  show ((zW s).map _).map _ = _
  rw [Option.map_map]
  rfl
theorem sk_rlC {s : SkR} : rlC (skK s) = (zR s).map fun f facts => f (sgC 1 facts) := by
  show ((zR s).map _).map _ = _
  rw [Option.map_map]
  rfl
theorem sk_wlF {X : Tp} {s : SkR} (hw : wfZ X s) : wlF (skK s) = zW s := by
  show ((zW s).map _).map _ = _
  rw [Option.map_map]
  cases hz : zW s with
  | none => rfl
  | some f =>
    show some _ = some f
    congr 1
    funext v
    exact hw.2.2.2.2.2.2.1 f hz v
theorem sk_rlF {X : Tp} {s : SkR} (hw : wfZ X s) : rlF (skK s) = zR s := by
  show ((zR s).map _).map _ = _
  rw [Option.map_map]
  cases hz : zR s with
  | none => rfl
  | some f =>
    show some _ = some f
    congr 1
    funext v
    exact hw.2.2.2.2.2.2.2 f hz v
