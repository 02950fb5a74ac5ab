/-! near lengths: the spec -/
def lowK (l : Nat) (s : Nat → Nat) (e k : Nat) : Nat := if lo l k = true then s k else s k - e
def topK (l : Nat) (s : Nat → Nat) (e k : Nat) : Nat := if lo l k = true then s k else min 40 (s k + e)
def vld (K : SkyT) (l : Nat) (s : Nat → Nat) (e : Nat) (c : Nat → Nat) : Prop := ∀ k, k < kN K → lowK l s e k ≤ c k ∧ c k ≤ topK l s e k
def keyT (c : Nat → Nat) : Nat → Nat
  | 0 => 0
  | k + 1 => 64 * keyT c k + c k
def chgT (s c : Nat → Nat) (k : Nat) : Nat := sumTo (fun i => if c i = s i then 0 else 1) k
theorem low_top {l e k : Nat} {s : Nat → Nat} (h : s k ≤ 40) : lowK l s e k ≤ s k ∧ s k ≤ topK l s e k ∧ topK l s e k ≤ 40 := by
  unfold lowK topK
  split
  · exact ⟨Nat.le_refl _, Nat.le_refl _, h⟩
  · omega
theorem vld_le {K : SkyT} {l e B : Nat} {s c : Nat → Nat} (hs : wfS K B s) (h : vld K l s e c) {k : Nat} (hk : k < kN K) : c k ≤ 40 := by
  have := (low_top (l := l) (e := e) (hs.1 k hk).1).2.2
  have := (h k hk).2
  omega
theorem keyT_inj {c c' : Nat → Nat} : ∀ {k : Nat}, (∀ i, i < k → c i < 64 ∧ c' i < 64) → keyT c k = keyT c' k → ∀ i, i < k → c i = c' i
  | 0, _, _, i, hi => by omega
  | k + 1, h, e, i, hi => by
    have h1 := h k (by omega)
    have e : 64 * keyT c k + c k = 64 * keyT c' k + c' k := e
    by_cases hik : i = k
    · subst hik; omega
    · exact keyT_inj (k := k) (fun j hj => h j (by omega)) (by omega) i (by omega)
theorem keyT_congr {c c' : Nat → Nat} : ∀ {k : Nat}, (∀ i, i < k → c i = c' i) → keyT c k = keyT c' k
  | 0, _ => rfl
  | k + 1, h => by
    show 64 * keyT c k + c k = 64 * keyT c' k + c' k
    rw [keyT_congr (k := k) (fun i hi => h i (by omega)), h k (by omega)]
theorem keyT_lt {c : Nat → Nat} : ∀ {k : Nat}, (∀ i, i < k → c i < 64) → keyT c k < 64 ^ k
  | 0, _ => (by decide : 0 < 1)
  | k + 1, h => by
    have h1 := keyT_lt (c := c) (k := k) (fun i hi => h i (by omega))
    have h2 := h k (by omega)
    show 64 * keyT c k + c k < 64 ^ (k + 1)
    rw [Nat.pow_succ]
    omega
theorem sumTo_mono {f g : Nat → Nat} : ∀ {n : Nat}, (∀ k, k < n → f k ≤ g k) → sumTo f n ≤ sumTo g n
  | 0, _ => Nat.le_refl 0
  | n + 1, h => Nat.add_le_add (sumTo_mono (n := n) (fun k hk => h k (by omega))) (h n (by omega))
theorem pulledP_anti {n h h' : Nat} {p len : Nat → Nat} (hh : h ≤ h') : pulledP n p len h' ≤ pulledP n p len h := sumTo_mono (fun k hk => by
  split
  · rw [if_pos (by omega)]; exact Nat.le_refl _
  · exact Nat.zero_le _)
theorem raw_is {n wt R : Nat} {p len : Nat → Nat} (hR : R ≤ 40) (h1 : R < 40 → pulledP n p len (R + 1) < wt) (h2 : 0 < R → wt ≤ pulledP n p len R) : rawG (pulledP n p len) wt 40 = R := by
  obtain ⟨q1, q2⟩ := rawG_spec (P := pulledP n p len) (wt := wt) 40
  have q3 := rawG_le (P := pulledP n p len) (wt := wt) 40
  generalize rawG (pulledP n p len) wt 40 = r at q1 q2 q3
  by_cases hlt : r < R
  · have := q2 R hlt hR
    have := h2 (by omega)
    omega
  · by_cases hgt : R < r
    · have a1 := h1 (by omega)
      have a2 := pulledP_anti (n := n) (p := p) (len := len) (show R + 1 ≤ r by omega)
      omega
    · omega
theorem raw_up {n wt R : Nat} {p len : Nat → Nat} (hr : rawG (pulledP n p len) wt 40 = R) : (R < 40 → pulledP n p len (R + 1) < wt) ∧ (0 < R → wt ≤ pulledP n p len R) := by
  obtain ⟨q1, q2⟩ := rawG_spec (P := pulledP n p len) (wt := wt) 40
  rw [hr] at q1 q2
  exact ⟨fun h => q2 (R + 1) (by omega) (by omega), fun h => by omega⟩
/-! what depends on a length alone -/
theorem fly_congr {K : SkyT} {w c c' : Nat → Nat} {k : Nat} (h : c k = c' k) : flyN K w c k = flyN K w c' k := by unfold flyN; rw [h]
theorem pl_congr {K : SkyT} {l : Nat} {w c c' : Nat → Nat} {k : Nat} (h : c k = c' k) : plN K l w c k = plN K l w c' k := by unfold plN pulN; rw [fly_congr h, h]
theorem slk_congr {K : SkyT} {l : Nat} {w c c' : Nat → Nat} {k : Nat} (h : c k = c' k) : slkN K l w c k = slkN K l w c' k := by unfold slkN; rw [fly_congr h]
theorem pulled_congr {K : SkyT} {l n h : Nat} {w c c' : Nat → Nat} (hc : ∀ i, i < n → c i = c' i) : pulledP n (plN K l w c) c h = pulledP n (plN K l w c') c' h := sumTo_congr (fun k hk => by rw [hc k hk, pl_congr (hc k hk)])
theorem mom_congr {K : SkyT} {l n h : Nat} {w c c' : Nat → Nat} (hc : ∀ i, i < n → c i = c' i) : momP n (plN K l w c) c (wi K) h = momP n (plN K l w c') c' (wi K) h := sumTo_congr (fun k hk => by rw [hc k hk, pl_congr (hc k hk)])
theorem slack_congr {K : SkyT} {l n : Nat} {w c c' : Nat → Nat} (hc : ∀ i, i < n → c i = c' i) : sumTo (slkN K l w c) n = sumTo (slkN K l w c') n := sumTo_congr (fun k hk => slk_congr (hc k hk))
theorem chg_congr {s c c' : Nat → Nat} {n : Nat} (hc : ∀ i, i < n → c i = c' i) : chgT s c n = chgT s c' n := sumTo_congr (fun k hk => by rw [hc k hk])
theorem away_congr {K : SkyT} {l p q : Nat} {w c c' : Nat → Nat} (hc : ∀ i, i < kN K → c i = c' i) : awayK K l w c p q = awayK K l w c' p q := by
  have e1 : rawN K l w c = rawN K l w c' := by
    unfold rawN
    rw [show pulledP (kN K) (plN K l w c) c = pulledP (kN K) (plN K l w c') c' by funext h; exact pulled_congr hc]
  have e2 : highN K l w c = highN K l w c' := by unfold highN slackN; rw [e1, slack_congr hc]
  have e3 : placeN K l w c = placeN K l w c' := by unfold placeN; rw [e1, e2, mom_congr hc, pulled_congr hc]
  unfold awayK
  rw [e2, e3]
theorem slk_le1 {K : SkyT} {l : Nat} {w c : Nat → Nat} {k : Nat} : slkN K l w c k ≤ 1 := by
  unfold slkN
  split
  · omega
  · split <;> omega
/-- the sum of what lies from k on -/
def fromT (f : Nat → Nat) (n k : Nat) : Nat := sumTo (fun j => f (k + j)) (n - k)
theorem from_s {f : Nat → Nat} {n k : Nat} (h : k < n) : fromT f n k = f k + fromT f n (k + 1) := by
  unfold fromT
  obtain ⟨m, rfl⟩ : ∃ m, n = k + 1 + m := ⟨n - (k + 1), by omega⟩
  rw [show k + 1 + m - k = 1 + m by omega, show k + 1 + m - (k + 1) = m by omega, sumTo_add]
  show 0 + f (k + 0) + _ = _
  rw [Nat.zero_add, Nat.add_zero]
  congr 1
  exact sumTo_congr (fun j hj => by rw [Nat.add_assoc])
theorem from_all {f : Nat → Nat} {n k : Nat} (h : k ≤ n) : sumTo f n = sumTo f k + fromT f n k := by
  obtain ⟨m, rfl⟩ : ∃ m, n = k + m := ⟨n - k, by omega⟩
  unfold fromT
  rw [sumTo_add, show k + m - k = m by omega]
theorem from_end {f : Nat → Nat} {n : Nat} : fromT f n n = 0 := by unfold fromT; rw [Nat.sub_self]; rfl
theorem from_mono {f g : Nat → Nat} {n k : Nat} (h : ∀ i, k ≤ i → i < n → f i ≤ g i) : fromT f n k ≤ fromT g n k := sumTo_mono (fun j hj => h _ (by omega) (by omega))
/-- the greatest of g from a on, d of them, and of acc -/
def mxL (g : Nat → Nat) : Nat → Nat → Nat → Nat
  | 0, _, acc => acc
  | d + 1, a, acc => mxL g d (a + 1) (max acc (g a))
theorem mxL_ge {g : Nat → Nat} : ∀ (d a acc : Nat), acc ≤ mxL g d a acc ∧ ∀ x, a ≤ x → x < a + d → g x ≤ mxL g d a acc
  | 0, a, acc => ⟨Nat.le_refl _, fun x h1 h2 => by omega⟩
  | d + 1, a, acc => by
    obtain ⟨h1, h2⟩ := mxL_ge (g := g) d (a + 1) (max acc (g a))
    refine ⟨Nat.le_trans (Nat.le_max_left _ _) h1, fun x q1 q2 => ?_⟩
    by_cases hx : x = a
    · subst hx; exact Nat.le_trans (Nat.le_max_right _ _) h1
    · exact h2 x (by omega) (by omega)
theorem mxL_le {g : Nat → Nat} {B : Nat} : ∀ (d a acc : Nat), acc ≤ B → (∀ x, a ≤ x → x < a + d → g x ≤ B) → mxL g d a acc ≤ B
  | 0, _, _, h, _ => h
  | d + 1, a, acc, h, hg => mxL_le d (a + 1) _ (Nat.max_le.mpr ⟨h, hg a (by omega) (by omega)⟩) (fun x h1 h2 => hg x (by omega) (by omega))
/-- the pull of kite k at a length -/
def pAt (K : SkyT) (l : Nat) (w : Nat → Nat) (k x : Nat) : Nat := plN K l w (fun _ => x) k
theorem pAt_eq {K : SkyT} {l k : Nat} {w c : Nat → Nat} : plN K l w c k = pAt K l w k (c k) := pl_congr rfl
/-- the most that kite k can pull at height R -/
def mostK (K : SkyT) (l : Nat) (w s : Nat → Nat) (e R k : Nat) : Nat := mxL (pAt K l w k) (topK l s e k + 1 - max R (lowK l s e k)) (max R (lowK l s e k)) 0
theorem most_ge {K : SkyT} {l e R k : Nat} {w s c : Nat → Nat} (hv : vld K l s e c) (hk : k < kN K) : (if R ≤ c k then plN K l w c k else 0) ≤ mostK K l w s e R k := by
  obtain ⟨h1, h2⟩ := hv k hk
  split
  · rw [pAt_eq]
    exact (mxL_ge _ _ _).2 (c k) (by omega) (by omega)
  · exact Nat.zero_le _
theorem reach_ge {K : SkyT} {l e R k : Nat} {w s c : Nat → Nat} (hv : vld K l s e c) (hk : k ≤ kN K) : pulledP (kN K) (plN K l w c) c R ≤ pulledP k (plN K l w c) c R + fromT (mostK K l w s e R) (kN K) k := by
  unfold pulledP
  rw [from_all hk]
  exact Nat.add_le_add_left (from_mono (fun i h1 h2 => most_ge hv h2)) _
/-! how near it can come -/
def gapN (K : SkyT) (w : Nat → Nat) (p : Nat) : Nat := p - mxL (wi K) (kN K) 0 0 - mxL w 41 0 0 / 5
theorem mom_le2 {n r W : Nat} {p len w : Nat → Nat} : ∀ (hw : ∀ k, k < n → w k ≤ W), momP n p len w r ≤ W * pulledP n p len r := by
  induction n with
  | zero => intro _; exact Nat.zero_le _
  | succ n ih =>
    intro hw
    have h1 := ih (fun k hk => hw k (by omega))
    have h2 : (if r ≤ len n then p n * w n else 0) ≤ W * (if r ≤ len n then p n else 0) := by
      split
      · rw [Nat.mul_comm]; exact Nat.mul_le_mul_right _ (hw n (by omega))
      · omega
    show momP n p len w r + _ ≤ W * (pulledP n p len r + _)
    rw [Nat.mul_add]
    exact Nat.add_le_add h1 h2
theorem gap_le {K : SkyT} {l p : Nat} {w c : Nat → Nat} : gapN K w p ≤ distN (placeN K l w c) p := by
  have h1 : momP (kN K) (plN K l w c) c (wi K) (rawN K l w c) ≤ mxL (wi K) (kN K) 0 0 * pulledP (kN K) (plN K l w c) c (rawN K l w c) := mom_le2 (fun k hk => (mxL_ge _ _ _).2 k (by omega) (by omega))
  have h2 : momP (kN K) (plN K l w c) c (wi K) (rawN K l w c) / pulledP (kN K) (plN K l w c) c (rawN K l w c) ≤ mxL (wi K) (kN K) 0 0 := Nat.div_le_of_le_mul (by rw [Nat.mul_comm]; exact h1)
  have h3 : w (highN K l w c) ≤ mxL w 41 0 0 := (mxL_ge _ _ _).2 _ (by omega) (by have := high_le (K := K) (l := l) (w := w) (len := c); omega)
  unfold gapN distN placeN
  omega
theorem far_ge {K : SkyT} {l p q k R : Nat} {w c : Nat → Nat} (hk : k ≤ kN K) (hr : rawN K l w c = R) : gapN K w p + max (q - (R - sumTo (slkN K l w c) k)) (R - kN K - q) ≤ awayK K l w c p q := by
  have h1 := gap_le (K := K) (l := l) (p := p) (w := w) (c := c)
  have h2 : sumTo (slkN K l w c) k ≤ slackN K l w c := by
    unfold slackN
    rw [from_all hk]
    exact Nat.le_add_right _ _
  have h3 : slackN K l w c ≤ kN K * 1 := sumTo_le (fun i hi => slk_le1)
  have h4 : highN K l w c = R - slackN K l w c := by unfold highN; rw [hr]
  unfold awayK
  have h5 : max (q - (R - sumTo (slkN K l w c) k)) (R - kN K - q) ≤ distN (highN K l w c) q := by
    rw [h4]; unfold distN; omega
  omega
