/-! nearest and fewest: what they answer -/
theorem sZ20 {α : Type} {k C : Nat} {S : Mem} {V : Vw} {U : Uw} {D : Dw} {v : Int32} {K : Mem → Option α} (h : shC S C) (hv : v = 0 ∨ v = 1) : (sZ (wC S C V U D) 4 k (C + 20) v).bind K = K (wC S C (u2 V 20 k v) U D) := by
  have e : (sI (wC S C V U D) 4 k (C + 20) v).bind some = some (wC S C (u2 V 20 k v) U D) := by simp only [↓eC h]
  unfold sI at e
  by_cases c : mK (wC S C V U D) (C + 20) = 4
  · rw [if_pos c] at e
    unfold sZ
    rw [if_pos ⟨c, hv⟩]
    exact congrArg K (Option.some.inj e)
  · rw [if_neg c] at e
    exact absurd e (by intro q; cases q)
theorem key_dig {c : Nat → Nat} : ∀ (n k : Nat), (∀ i, i < n → c i < 64) → k < n → keyT c n / 64 ^ (n - 1 - k) % 64 = c k
  | 0, _, _, hk => absurd hk (Nat.not_lt_zero _)
  | n + 1, k, hc, hk => by
    have hn := hc n (by omega)
    have e1 : keyT c (n + 1) = 64 * keyT c n + c n := rfl
    by_cases g : k = n
    · subst g
      rw [show k + 1 - 1 - k = 0 by omega, Nat.pow_zero, Nat.div_one, e1]
      omega
    · have ih := key_dig n k (fun i hi => hc i (by omega)) (by omega)
      rw [show n + 1 - 1 - k = (n - 1 - k) + 1 by omega, Nat.pow_succ, Nat.mul_comm, ← Nat.div_div_eq_div_mul, e1, show (64 * keyT c n + c n) / 64 = keyT c n by omega]
      exact ih
theorem hi_dig {A y j : Nat} (hj : j ≤ 5) : (A * 64 ^ 6 + y) / 64 ^ j % 64 = y / 64 ^ j % 64 := by
  have e : A * 64 ^ 6 = 64 ^ j * (64 * (A * 64 ^ (5 - j))) := by
    rw [show 6 = j + (1 + (5 - j)) by omega, Nat.pow_add, Nat.pow_add, Nat.pow_one]
    rw [Nat.mul_left_comm, Nat.mul_left_comm A 64]
  rw [e, Nat.mul_add_div (Nat.pow_pos (by decide)), Nat.mul_add_mod]
/-- the best set of lengths -/
def nearP (K : SkyT) (l : Nat) (w s : Nat → Nat) (p q : Nat) (c : Nat → Nat) : Prop := vld K l s 2 c ∧ ∀ c', vld K l s 2 c' → scC K l w s p q true c ≤ scC K l w s p q true c'
noncomputable def nearC (K : SkyT) (l : Nat) (w s : Nat → Nat) (p q : Nat) : Nat → Nat := Classical.epsilon (nearP K l w s p q)
theorem nearC_ok {K : SkyT} {l p q : Nat} {w s c : Nat → Nat} (h : nearP K l w s p q c) : nearP K l w s p q (nearC K l w s p q) := Classical.epsilon_spec ⟨c, h⟩
theorem sc_dig {K : SkyT} {l p q B : Nat} {w s c : Nat → Nat} {ba : Bool} {e : Nat} (hw9 : wfK K) (hwf : wfS K B s) (hv : vld K l s e c) : scC K l w s p q ba c / 2 ^ 36 % 8 = chgT s c (kN K) ∧ scC K l w s p q ba c / 2 ^ 39 = (if ba = true then awayK K l w c p q else 0) ∧ ∀ k, k < kN K → scC K l w s p q ba c / 64 ^ (kN K - 1 - k) % 64 = c k := by
  have n6 := hw9.1.1
  have h1 := key_lt36 hw9 hwf hv
  have h2 : chgT s c (kN K) ≤ kN K := chg_le
  have h3 := sc_split (ba := ba) (aw := awayK K l w c p q) (show chgT s c (kN K) ≤ 6 by omega) h1
  refine ⟨h3.1, h3.2, fun k hk => ?_⟩
  rw [← key_dig (c := c) (kN K) k (fun i hi => by have := vld_le hwf hv hi; omega) hk]
  unfold scC scJ
  generalize awayK K l w c p q = aw
  generalize (if ba = true then aw else 0) = A
  generalize chgT s c (kN K) = ch
  generalize keyT c (kN K) = y
  have e : A * 2 ^ 39 + ch * 2 ^ 36 = (A * 8 + ch) * 64 ^ 6 := by
    rw [Nat.add_mul, Nat.mul_assoc]
  rw [e, hi_dig (by omega)]
theorem near_uniq {K : SkyT} {l p q B : Nat} {w s c c' : Nat → Nat} (hw9 : wfK K) (hwf : wfS K B s) (h : nearP K l w s p q c) (h' : nearP K l w s p q c') : awayK K l w c p q = awayK K l w c' p q ∧ chgT s c (kN K) = chgT s c' (kN K) ∧ ∀ k, k < kN K → c k = c' k := by
  have e : scC K l w s p q true c = scC K l w s p q true c' := Nat.le_antisymm (h.2 c' h'.1) (h'.2 c h.1)
  obtain ⟨a1, a2, a3⟩ := sc_dig (w := w) (p := p) (q := q) (ba := true) hw9 hwf h.1
  obtain ⟨b1, b2, b3⟩ := sc_dig (w := w) (p := p) (q := q) (ba := true) hw9 hwf h'.1
  rw [if_pos rfl] at a2 b2
  rw [e] at a1 a2 a3
  exact ⟨a2.symm.trans b2, a1.symm.trans b1, fun k hk => (a3 k hk).symm.trans (b3 k hk)⟩
theorem sc_lt63 {K : SkyT} {l e p q B : Nat} {w s c : Nat → Nat} {ba : Bool} (hw9 : wfK K) (hwf : wfS K B s) (hw : ∀ i, w i ≤ 99) (hp : p ≤ 999) (hq : q ≤ 40) (hv : vld K l s e c) : scC K l w s p q ba c < 2 ^ 63 - 1 := by
  have n6 := hw9.1.1
  have k36 := key_lt36 hw9 hwf hv
  have c6 := chg_le (s := s) (c := c) (n := kN K)
  have a9 := away_le (l := l) (c := c) hw9 hw hp hq
  unfold scC scJ
  split <;> omega
theorem Inv.near {K : SkyT} {l p q B bd bst : Nat} {w s : Nat → Nat} (hw9 : wfK K) (hwf : wfS K B s) (hw : ∀ i, w i ≤ 99) (hp : p ≤ 999) (hq : q ≤ 40) (h : Inv K l w s 2 p q true 2147483647 0 0 1 bd bst) : ∃ c, nearP K l w s p q c ∧ bst = scC K l w s p q true c := by
  have all : ∀ c, vld K l s 2 c → bst ≤ scC K l w s p q true c := fun c hc => by
    have := h.2 c hc (Or.inl rfl) (by
      by_cases g : 0 < rawN K l w c
      · exact Or.inl g
      · exact Or.inr ⟨by omega, Nat.lt_succ_self 0⟩)
    exact this
  have vs : vld K l s 2 s := fun k hk => by
    have := low_top (l := l) (e := 2) (hwf.1 k hk).1
    exact ⟨this.1, this.2.1⟩
  rcases h.1 with ⟨h1, -⟩ | ⟨c, h1, -, h2, -⟩
  · have := all s vs
    have g := sc_lt63 (l := l) (w := w) (p := p) (q := q) (ba := true) hw9 hwf hw hp hq vs
    omega
  · exact ⟨c, ⟨h1, fun c' hc' => by rw [← h2]; exact all c' hc'⟩, h2⟩
def fewP (K : SkyT) (l : Nat) (w s : Nat → Nat) (e p q a n : Nat) : Prop := (∃ c, vld K l s e c ∧ awayK K l w c p q ≤ a ∧ chgT s c (kN K) = n) ∧ ∀ c, vld K l s e c → awayK K l w c p q ≤ a → n ≤ chgT s c (kN K)
noncomputable def fewN (K : SkyT) (l : Nat) (w s : Nat → Nat) (e p q a : Nat) : Int32 := haveI := Classical.propDecidable (∃ n, fewP K l w s e p q a n); if ∃ n, fewP K l w s e p q a n then nI (Classical.epsilon (fewP K l w s e p q a)) else -1
theorem fewN_some {K : SkyT} {l e p q a n : Nat} {w s : Nat → Nat} (h : fewP K l w s e p q a n) : fewN K l w s e p q a = nI n := by
  unfold fewN
  rw [if_pos ⟨n, h⟩]
  have g := Classical.epsilon_spec (p := fewP K l w s e p q a) ⟨n, h⟩
  obtain ⟨⟨c, c1, c2, c3⟩, g2⟩ := g
  obtain ⟨⟨d, d1, d2, d3⟩, h2⟩ := h
  have e1 := g2 d d1 d2
  have e2 := h2 c c1 c2
  rw [show Classical.epsilon (fewP K l w s e p q a) = n by omega]
theorem fewN_none {K : SkyT} {l e p q a : Nat} {w s : Nat → Nat} (h : ∀ c, vld K l s e c → ¬ awayK K l w c p q ≤ a) : fewN K l w s e p q a = -1 := by
  unfold fewN
  rw [if_neg]
  rintro ⟨n, ⟨c, c1, c2, -⟩, -⟩
  exact h c c1 c2
theorem Inv.few {K : SkyT} {l e p q a B bd bst : Nat} {w s : Nat → Nat} (hw9 : wfK K) (hwf : wfS K B s) (hw : ∀ i, w i ≤ 99) (hp : p ≤ 999) (hq : q ≤ 40) (h : Inv K l w s e p q false a 0 0 1 bd bst) : (bst = 2 ^ 63 - 1 ∧ fewN K l w s e p q a = -1) ∨ (bst < 2 ^ 63 - 1 ∧ fewN K l w s e p q a = nI (bst / 2 ^ 36 % 8)) := by
  have all : ∀ c, vld K l s e c → awayK K l w c p q ≤ a → bst / 2 ^ 36 % 8 ≤ chgT s c (kN K) := fun c hc ha => by
    have := h.2 c hc (Or.inr ha) (by
      by_cases g : 0 < rawN K l w c
      · exact Or.inl g
      · exact Or.inr ⟨by omega, Nat.lt_succ_self 0⟩)
    exact this
  rcases h.1 with ⟨h1, -⟩ | ⟨c, h1, h0, h2, -⟩
  · refine Or.inl ⟨h1, fewN_none (fun c hc ha => ?_)⟩
    have g := all c hc ha
    have g2 : chgT s c (kN K) ≤ kN K := chg_le
    have := hw9.1.1
    rw [h1, show (2 ^ 63 - 1) / 2 ^ 36 % 8 = 7 from by decide] at g
    omega
  · have g := sc_lt63 (l := l) (w := w) (p := p) (q := q) (ba := false) hw9 hwf hw hp hq h1
    have e1 := (sc_dig (w := w) (p := p) (q := q) (ba := false) hw9 hwf h1).1
    rw [h2]
    rw [h2, e1] at all
    have h0 : awayK K l w c p q ≤ a := by
      rcases h0 with h0 | h0
      · cases h0
      · exact h0
    exact Or.inr ⟨g, by rw [e1]; exact fewN_some ⟨⟨c, h1, h0, rfl⟩, all⟩⟩
