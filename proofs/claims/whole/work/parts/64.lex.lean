/-! the tokens of a tape, in natural numbers -/
def isLt (c : Nat) : Bool := decide (97 ≤ c) && decide (c ≤ 122)
def isDg (c : Nat) : Bool := decide (48 ≤ c) && decide (c ≤ 57)
def isBl (c : Nat) : Bool := decide (c = 32) || decide (c = 10)
theorem isLt_iff {c : Nat} : isLt c = true ↔ 97 ≤ c ∧ c ≤ 122 := by unfold isLt; rw [Bool.and_eq_true, decide_eq_true_iff, decide_eq_true_iff]
theorem isDg_iff {c : Nat} : isDg c = true ↔ 48 ≤ c ∧ c ≤ 57 := by unfold isDg; rw [Bool.and_eq_true, decide_eq_true_iff, decide_eq_true_iff]
theorem isBl_iff {c : Nat} : isBl c = true ↔ c = 32 ∨ c = 10 := by unfold isBl; rw [Bool.or_eq_true, decide_eq_true_iff, decide_eq_true_iff]
def rnE (P : Nat → Bool) (T : Nat → Nat) : Nat → Nat → Nat
  | 0, p => p
  | d + 1, p => if P (T p) = true then rnE P T d (p + 1) else p
theorem rnE_b {P : Nat → Bool} {T : Nat → Nat} : ∀ (d p : Nat), p ≤ rnE P T d p ∧ rnE P T d p ≤ p + d
  | 0, p => ⟨Nat.le_refl p, Nat.le_refl p⟩
  | d + 1, p => by
    unfold rnE
    split
    · have := rnE_b (P := P) (T := T) d (p + 1)
      omega
    · omega
theorem rnE_in {P : Nat → Bool} {T : Nat → Nat} : ∀ (d p q : Nat), p ≤ q → q < rnE P T d p → P (T q) = true
  | 0, p, q, h1, h2 => by
    have h2 : q < p := h2
    omega
  | d + 1, p, q, h1, h2 => by
    unfold rnE at h2
    by_cases hc : P (T p) = true
    · rw [if_pos hc] at h2
      by_cases e : p = q
      · subst e; exact hc
      · exact rnE_in d (p + 1) q (by omega) h2
    · rw [if_neg hc] at h2; omega
def lB (X : Tp) (p : Nat) : Nat := rnE isBl X.2 (X.1 - p) p
def eAt (X : Tp) (b : Nat) : Nat := if b < X.1 then (if isLt (X.2 b) = true then rnE isLt X.2 (X.1 - b) b else if isDg (X.2 b) = true then rnE isDg X.2 (X.1 - b) b else b + 1) else b
def lE (X : Tp) (p : Nat) : Nat := eAt X (lB X p)
def w5 (T : Nat → Nat) (b : Nat) : Nat → Nat
  | 0 => 0
  | i + 1 => w5 T b i * 32 + (T (b + i) - 96)
def w27 (T : Nat → Nat) (b : Nat) : Nat → Nat
  | 0 => 0
  | i + 1 => w27 T b i * 27 + (T (b + i) - 96)
def d10 (T : Nat → Nat) (b : Nat) : Nat → Nat
  | 0 => 0
  | i + 1 => d10 T b i * 10 + (T (b + i) - 48)
def W5 : List Nat := [763332, 611717, 394672, 263852, 21285028, 8048275, 370309, 52, 402644, 12748404, 409031, 17171758, 2552, 656684, 8554201, 136230, 395097, 14836, 1476, 498, 271592, 446125701, 251508, 546188, 398382]
def W27 : List Nat := [459652, 369932, 237292, 158772, 10819228, 4147840, 223619, 47, 242939, 6476969, 247516, 8740238, 1887, 394644, 4351291, 82410, 237652, 10631, 1111, 423, 164222, 191610176, 153623, 330573, 239882]
def fnd : List Nat → Nat → Nat → Nat
  | [], _, i => i
  | a :: L, w, i => if a = w then i else fnd L w (i + 1)
def wTok (w : Nat) : Nat := fnd W5 w 0
theorem fnd_le : ∀ (L : List Nat) (w i : Nat), i ≤ fnd L w i ∧ fnd L w i ≤ i + L.length
  | [], w, i => ⟨Nat.le_refl i, Nat.le_refl i⟩
  | a :: L, w, i => by
    unfold fnd
    have := fnd_le L w (i + 1)
    rw [List.length_cons]
    split <;> omega
theorem fnd_get : ∀ (L : List Nat) (w i : Nat), fnd L w i < i + L.length → L.getD (fnd L w i - i) 0 = w
  | [], w, i, h => by
    have h : i < i + 0 := h
    omega
  | a :: L, w, i, h => by
    unfold fnd at h ⊢
    by_cases hc : a = w
    · rw [if_pos hc, Nat.sub_self]; exact hc
    · rw [if_neg hc] at h ⊢
      rw [List.length_cons] at h
      have h1 := (fnd_le L w (i + 1)).1
      have h2 := fnd_get L w (i + 1) (by omega)
      rw [show fnd L w (i + 1) - i = (fnd L w (i + 1) - (i + 1)) + 1 by omega]
      exact h2
theorem wTok_le (w : Nat) : wTok w ≤ 25 := (fnd_le W5 w 0).2
theorem wTok_W : ∀ i : Fin 25, wTok (W5.getD i.val 0) = i.val := by decide +kernel
theorem wTok_iff {w i : Nat} (h : i < 25) : wTok w = i ↔ w = W5.getD i 0 := by
  constructor
  · intro e
    have := fnd_get W5 w 0 (by show fnd W5 w 0 < 0 + 25; have e : fnd W5 w 0 = i := e; omega)
    rw [Nat.sub_zero, show fnd W5 w 0 = i from e] at this
    exact this.symm
  · rintro rfl
    exact wTok_W ⟨i, h⟩
def sgT (c : Nat) : Nat := if c = 40 then 27 else if c = 41 then 28 else if c = 42 then 33 else if c = 43 then 31 else if c = 45 then 32 else if c = 59 then 34 else if c = 60 then 29 else if c = 61 then 30 else 36
def tAt (X : Tp) (b : Nat) : Nat := if b < X.1 then (if isLt (X.2 b) = true then (if eAt X b - b ≤ 8 then wTok (w5 X.2 b (eAt X b - b)) else 36) else if isDg (X.2 b) = true then (if eAt X b - b ≤ 4 then 26 else 36) else sgT (X.2 b)) else 35
def lT (X : Tp) (p : Nat) : Nat := tAt X (lB X p)
def lV (X : Tp) (p : Nat) : Nat := d10 X.2 (lB X p) (lE X p - lB X p)
def lW (X : Tp) (p : Nat) : Nat := w5 X.2 (lB X p) (lE X p - lB X p)
def lY (X : Tp) (p : Nat) : Nat := w27 X.2 (lB X p) (lE X p - lB X p)
theorem lB_b {X : Tp} {p : Nat} (h : p ≤ X.1) : p ≤ lB X p ∧ lB X p ≤ X.1 := by
  have := rnE_b (P := isBl) (T := X.2) (X.1 - p) p
  unfold lB
  omega
theorem eAt_b {X : Tp} {b : Nat} (h : b < X.1) : b < eAt X b ∧ eAt X b ≤ X.1 := by
  unfold eAt
  rw [if_pos h]
  obtain ⟨d, hd⟩ : ∃ d, X.1 - b = d + 1 := ⟨X.1 - b - 1, by omega⟩
  have r1 := rnE_b (P := isLt) (T := X.2) d (b + 1)
  have r2 := rnE_b (P := isDg) (T := X.2) d (b + 1)
  rw [hd]
  split
  · rename_i hc
    unfold rnE
    rw [if_pos hc]
    omega
  · split
    · rename_i hc
      unfold rnE
      rw [if_pos hc]
      omega
    · omega
theorem eAt_n {X : Tp} {b : Nat} (h : ¬ b < X.1) : eAt X b = b := if_neg h
theorem lE_b {X : Tp} {p : Nat} (h : p ≤ X.1) : lB X p ≤ lE X p ∧ lE X p ≤ X.1 := by
  have h1 := lB_b h
  unfold lE
  by_cases hc : lB X p < X.1
  · have := eAt_b hc; omega
  · rw [eAt_n hc]; omega
theorem sgT_v (c : Nat) : (27 ≤ sgT c ∧ sgT c ≤ 34) ∨ sgT c = 36 := by
  unfold sgT
  by_cases h0 : c = 40
  · rw [if_pos h0]; omega
  rw [if_neg h0]
  by_cases h1 : c = 41
  · rw [if_pos h1]; omega
  rw [if_neg h1]
  by_cases h2 : c = 42
  · rw [if_pos h2]; omega
  rw [if_neg h2]
  by_cases h3 : c = 43
  · rw [if_pos h3]; omega
  rw [if_neg h3]
  by_cases h4 : c = 45
  · rw [if_pos h4]; omega
  rw [if_neg h4]
  by_cases h5 : c = 59
  · rw [if_pos h5]; omega
  rw [if_neg h5]
  by_cases h6 : c = 60
  · rw [if_pos h6]; omega
  rw [if_neg h6]
  by_cases h7 : c = 61
  · rw [if_pos h7]; omega
  rw [if_neg h7]
  omega
theorem tAt_35 {X : Tp} {b : Nat} : tAt X b = 35 ↔ ¬ b < X.1 := by
  unfold tAt
  by_cases hb : b < X.1
  · rw [if_pos hb]
    refine ⟨fun q => ?_, fun q => absurd hb q⟩
    split at q
    · split at q
      · have := wTok_le (w5 X.2 b (eAt X b - b)); omega
      · omega
    · split at q
      · split at q <;> omega
      · rcases sgT_v (X.2 b) with h | h <;> omega
  · rw [if_neg hb]; exact ⟨fun _ => hb, fun _ => rfl⟩
theorem tAt_le {X : Tp} {b : Nat} : tAt X b ≤ 36 := by
  unfold tAt
  split
  · split
    · split
      · have := wTok_le (w5 X.2 b (eAt X b - b)); omega
      · omega
    · split
      · split <;> omega
      · rcases sgT_v (X.2 b) with h | h <;> omega
  · omega
theorem lT_le {X : Tp} {p : Nat} : lT X p ≤ 36 := tAt_le
theorem lT_35 {X : Tp} {p : Nat} (hp : p ≤ X.1) : lT X p = 35 ↔ lB X p = X.1 := by
  have := lB_b hp
  unfold lT
  rw [tAt_35]
  omega
theorem lE_gt {X : Tp} {p : Nat} (hp : p ≤ X.1) (h : lT X p ≠ 35) : lB X p < lE X p := by
  have h1 := lB_b hp
  have h2 : ¬ lB X p = X.1 := fun q => h ((lT_35 hp).mpr q)
  exact (eAt_b (by omega)).1
/-- at the end the end stays -/
theorem lB_n (X : Tp) : lB X X.1 = X.1 := by
  unfold lB; rw [Nat.sub_self]; rfl
theorem lT_n (X : Tp) : lT X X.1 = 35 := (lT_35 (Nat.le_refl _)).mpr (lB_n X)
theorem lE_n (X : Tp) : lE X X.1 = X.1 := by
  have := lE_b (X := X) (Nat.le_refl X.1)
  rw [lB_n] at this
  omega
/-! a word's two numbers say each other -/
def c27 : Nat → Nat → Nat
  | 0, _ => 0
  | k + 1, x => if x = 0 then 0 else c27 k (x / 32) * 27 + x % 32
def c32 : Nat → Nat → Nat
  | 0, _ => 0
  | k + 1, x => if x = 0 then 0 else c32 k (x / 27) * 32 + x % 27
theorem w5_c {T : Nat → Nat} {b : Nat} : ∀ (i k : Nat), i ≤ k → (∀ j, j < i → isLt (T (b + j)) = true) → c27 k (w5 T b i) = w27 T b i ∧ c32 k (w27 T b i) = w5 T b i
  | 0, 0, _, _ => ⟨rfl, rfl⟩
  | 0, k + 1, _, _ => ⟨rfl, rfl⟩
  | i + 1, 0, h, _ => absurd h (by omega)
  | i + 1, k + 1, h, hl => by
    have ih := w5_c i k (by omega) (fun j hj => hl j (by omega))
    have h9 := isLt_iff.mp (hl i (by omega))
    have e5 : w5 T b (i + 1) = w5 T b i * 32 + (T (b + i) - 96) := rfl
    have e27 : w27 T b (i + 1) = w27 T b i * 27 + (T (b + i) - 96) := rfl
    rw [e5, e27]
    generalize hd : T (b + i) - 96 = d
    have d1 : 1 ≤ d ∧ d ≤ 26 := by omega
    generalize w5 T b i = x at ih ⊢
    generalize w27 T b i = y at ih ⊢
    constructor
    · show (if x * 32 + d = 0 then 0 else c27 k ((x * 32 + d) / 32) * 27 + (x * 32 + d) % 32) = _
      rw [if_neg (by omega), show (x * 32 + d) / 32 = x by omega, show (x * 32 + d) % 32 = d by omega, ih.1]
    · show (if y * 27 + d = 0 then 0 else c32 k ((y * 27 + d) / 27) * 32 + (y * 27 + d) % 27) = _
      rw [if_neg (by omega), show (y * 27 + d) / 27 = y by omega, show (y * 27 + d) % 27 = d by omega, ih.2]
theorem w5_lt {T : Nat → Nat} {b : Nat} : ∀ (i : Nat), (∀ j, j < i → isLt (T (b + j)) = true) → w5 T b i < 32 ^ i ∧ w27 T b i < 27 ^ i
  | 0, _ => ⟨Nat.one_pos, Nat.one_pos⟩
  | i + 1, hl => by
    have ih := w5_lt i (fun j hj => hl j (by omega))
    have h9 := isLt_iff.mp (hl i (by omega))
    rw [Nat.pow_succ, Nat.pow_succ]
    show w5 T b i * 32 + (T (b + i) - 96) < _ ∧ w27 T b i * 27 + (T (b + i) - 96) < _
    omega
theorem d10_lt {T : Nat → Nat} {b : Nat} : ∀ (i : Nat), (∀ j, j < i → isDg (T (b + j)) = true) → d10 T b i < 10 ^ i
  | 0, _ => Nat.one_pos
  | i + 1, hl => by
    have ih := d10_lt i (fun j hj => hl j (by omega))
    have h9 := isDg_iff.mp (hl i (by omega))
    rw [Nat.pow_succ]
    show d10 T b i * 10 + (T (b + i) - 48) < _
    omega
theorem W_c : ∀ i : Fin 25, c27 8 (W5.getD i.val 0) = W27.getD i.val 0 ∧ c32 8 (W27.getD i.val 0) = W5.getD i.val 0 := by decide +kernel
/-- what is so of a word, a number, a sign -/
theorem lT_word {X : Tp} {p : Nat} (hp : p ≤ X.1) (h : lT X p ≤ 25) : lB X p < X.1 ∧ lE X p - lB X p ≤ 8 ∧ (∀ j, j < lE X p - lB X p → isLt (X.2 (lB X p + j)) = true) ∧ isLt (X.2 (lB X p)) = true ∧ lT X p = wTok (lW X p) := by
  have hb := lB_b hp
  unfold lT tAt at h
  by_cases hn : lB X p < X.1
  · rw [if_pos hn] at h
    by_cases hl : isLt (X.2 (lB X p)) = true
    · rw [if_pos hl] at h
      by_cases h8 : eAt X (lB X p) - lB X p ≤ 8
      · refine ⟨hn, h8, fun j hj => ?_, hl, ?_⟩
        · have e : lE X p = rnE isLt X.2 (X.1 - lB X p) (lB X p) := by unfold lE eAt; rw [if_pos hn, if_pos hl]
          exact rnE_in (X.1 - lB X p) (lB X p) _ (by omega) (by rw [← e]; omega)
        · unfold lT tAt
          rw [if_pos hn, if_pos hl, if_pos h8]
          rfl
      · rw [if_neg h8] at h; omega
    · rw [if_neg hl] at h
      split at h
      · split at h <;> omega
      · rcases sgT_v (X.2 (lB X p)) with q | q <;> omega
  · rw [if_neg hn] at h; omega
theorem lT_num {X : Tp} {p : Nat} (hp : p ≤ X.1) (h : lT X p = 26) : lB X p < X.1 ∧ lE X p - lB X p ≤ 4 ∧ (∀ j, j < lE X p - lB X p → isDg (X.2 (lB X p + j)) = true) ∧ isLt (X.2 (lB X p)) = false ∧ isDg (X.2 (lB X p)) = true := by
  have hb := lB_b hp
  unfold lT tAt at h
  by_cases hn : lB X p < X.1
  · rw [if_pos hn] at h
    by_cases hl : isLt (X.2 (lB X p)) = true
    · rw [if_pos hl] at h
      split at h
      · have := wTok_le (w5 X.2 (lB X p) (eAt X (lB X p) - lB X p)); omega
      · omega
    · rw [if_neg hl] at h
      by_cases hd : isDg (X.2 (lB X p)) = true
      · rw [if_pos hd] at h
        by_cases h4 : eAt X (lB X p) - lB X p ≤ 4
        · refine ⟨hn, h4, fun j hj => ?_, by simpa using hl, hd⟩
          have e : lE X p = rnE isDg X.2 (X.1 - lB X p) (lB X p) := by unfold lE eAt; rw [if_pos hn, if_neg hl, if_pos hd]
          exact rnE_in (X.1 - lB X p) (lB X p) _ (by omega) (by rw [← e]; omega)
        · rw [if_neg h4] at h; omega
      · rw [if_neg hd] at h
        rcases sgT_v (X.2 (lB X p)) with q | q <;> omega
  · rw [if_neg hn] at h; omega
theorem lV_lt {X : Tp} {p : Nat} (hp : p ≤ X.1) (h : lT X p = 26) : lV X p < 10000 := by
  obtain ⟨-, h4, hd, -, -⟩ := lT_num hp h
  have := d10_lt (T := X.2) (b := lB X p) _ hd
  exact Nat.lt_of_lt_of_le this (Nat.pow_le_pow_right (by decide) h4 : _ ≤ 10 ^ 4)
theorem lW_lt {X : Tp} {p : Nat} (hp : p ≤ X.1) (h : lT X p ≤ 25) : lW X p < 2 ^ 40 ∧ lY X p < 2 ^ 40 := by
  obtain ⟨-, h8, hl, -⟩ := lT_word hp h
  have q := w5_lt (T := X.2) (b := lB X p) _ hl
  exact ⟨Nat.lt_of_lt_of_le q.1 (Nat.le_trans (Nat.pow_le_pow_right (by decide) h8) (by decide : 32 ^ 8 ≤ 2 ^ 40)), Nat.lt_of_lt_of_le q.2 (Nat.le_trans (Nat.pow_le_pow_right (by decide) h8) (by decide : 27 ^ 8 ≤ 2 ^ 40))⟩
theorem lW_Y {X : Tp} {p : Nat} (hp : p ≤ X.1) (h : lT X p ≤ 25) : c27 8 (lW X p) = lY X p ∧ c32 8 (lY X p) = lW X p := by
  obtain ⟨-, h8, hl, -⟩ := lT_word hp h
  exact w5_c _ 8 h8 hl
theorem lW_inj {X X' : Tp} {p p' : Nat} (hp : p ≤ X.1) (h : lT X p ≤ 25) (hp' : p' ≤ X'.1) (h' : lT X' p' ≤ 25) : lW X p = lW X' p' ↔ lY X p = lY X' p' := by
  have a := lW_Y hp h
  have b := lW_Y hp' h'
  exact ⟨fun e => by rw [← a.1, ← b.1, e], fun e => by rw [← a.2, ← b.2, e]⟩
theorem lT_Y {X : Tp} {p i : Nat} (hp : p ≤ X.1) (h : lT X p ≤ 25) (hi : i < 25) : lT X p = i ↔ lY X p = W27.getD i 0 := by
  have a := lW_Y hp h
  have b := W_c ⟨i, hi⟩
  rw [(lT_word hp h).2.2.2.2, wTok_iff hi]
  exact ⟨fun e => by rw [← a.1, e]; exact b.1, fun e => by rw [← a.2, e]; exact b.2⟩
theorem lT_sign {X : Tp} {p : Nat} (h : 27 ≤ lT X p) (h' : lT X p ≤ 34) : lB X p < X.1 ∧ lT X p = sgT (X.2 (lB X p)) ∧ isLt (X.2 (lB X p)) = false ∧ isDg (X.2 (lB X p)) = false := by
  unfold lT tAt at h h' ⊢
  by_cases hn : lB X p < X.1
  · rw [if_pos hn] at h h' ⊢
    by_cases hl : isLt (X.2 (lB X p)) = true
    · rw [if_pos hl] at h h'
      split at h
      · have := wTok_le (w5 X.2 (lB X p) (eAt X (lB X p) - lB X p)); omega
      · rw [if_neg (by assumption)] at h'; omega
    · rw [if_neg hl] at h h' ⊢
      by_cases hd : isDg (X.2 (lB X p)) = true
      · rw [if_pos hd] at h h'
        split at h
        · omega
        · rw [if_neg (by assumption)] at h'; omega
      · rw [if_neg hd]
        exact ⟨hn, rfl, by simpa using hl, by simpa using hd⟩
  · rw [if_neg hn] at h h'; omega
