/-! the spec, in natural numbers -/
abbrev WLaw : Type := Option (Int32 → Int32 → Int32 → Int32)
abbrev RLaw : Type := Option (Int32 → Int32 → Int32 → Int32 → Int32 → Int32 → Int32)
/-- a sky: kites, weight, haul, tired, gusts; kinds, winches, lifts, leasts; the laws -/
abbrev SkyT : Type := (Nat × Nat × Nat × Nat × Nat) × (Nat → Nat) × (Nat → Nat) × (Nat → Nat) × (Nat → Nat) × WLaw × RLaw
def kN (K : SkyT) : Nat := K.1.1
def kW (K : SkyT) : Nat := K.1.2.1
def kH (K : SkyT) : Nat := K.1.2.2.1
def kT (K : SkyT) : Nat := K.1.2.2.2.1
def kG (K : SkyT) : Nat := K.1.2.2.2.2
def kd (K : SkyT) : Nat → Nat := K.2.1
def wi (K : SkyT) : Nat → Nat := K.2.2.1
def li (K : SkyT) : Nat → Nat := K.2.2.2.1
def le_ (K : SkyT) : Nat → Nat := K.2.2.2.2.1
def wl (K : SkyT) : WLaw := K.2.2.2.2.2.1
def rl (K : SkyT) : RLaw := K.2.2.2.2.2.2
def wfK (K : SkyT) : Prop := (kN K ≤ 6 ∧ kW K ≤ 999 ∧ 1 ≤ kH K ∧ kH K ≤ 5 ∧ 1 ≤ kT K ∧ kT K ≤ 20 ∧ kG K ≤ 50) ∧ ∀ k, k < kN K → kd K k ≤ 5 ∧ wi K k ≤ 99 ∧ 1 ≤ li K k ∧ li K k ≤ 20 ∧ le_ K k ≤ 99
def clI (v lo hi : Int32) : Int32 := if lo ≤ v then (if v ≤ hi then v else hi) else lo
def windN (K : SkyT) (h m : Nat) (g : Int32) : Nat := match wl K with
  | none => 20
  | some f => (clI (f (nI h) (nI m) g) 0 99).toNatClampNeg
def lo (l k : Nat) : Bool := decide (l / 2 ^ k % 2 = 1)
def needN (K : SkyT) (k : Nat) : Nat := if kd K k = 2 then le_ K k / 2 else le_ K k
def flyN (K : SkyT) (w len : Nat → Nat) (k : Nat) : Bool := decide (0 < len k) && decide (needN K k ≤ w (len k))
def pullN (kd li w : Nat) : Nat := if kd = 1 ∧ 40 ≤ w then 2 * (li * w / 10) else if kd = 3 then li * w / 10 - 3 else li * w / 10
def pulN (K : SkyT) (w len : Nat → Nat) (k : Nat) : Nat := if flyN K w len k = true then pullN (kd K k) (li K k) (w (len k)) else 0
def plN (K : SkyT) (l : Nat) (w len : Nat → Nat) (k : Nat) : Nat := if lo l k = true then 0 else pulN K w len k
def sumTo (f : Nat → Nat) : Nat → Nat
  | 0 => 0
  | n + 1 => sumTo f n + f n
def pulledP (n : Nat) (p len : Nat → Nat) (h : Nat) : Nat := sumTo (fun k => if h ≤ len k then p k else 0) n
def slkN (K : SkyT) (l : Nat) (w len : Nat → Nat) (k : Nat) : Nat := if lo l k = true then 0 else if flyN K w len k = true then 0 else 1
def slackN (K : SkyT) (l : Nat) (w len : Nat → Nat) : Nat := sumTo (slkN K l w len) (kN K)
def rawG (P : Nat → Nat) (wt : Nat) : Nat → Nat
  | 0 => 0
  | r + 1 => if P (r + 1) < wt then rawG P wt r else r + 1
def rawN (K : SkyT) (l : Nat) (w len : Nat → Nat) : Nat := rawG (pulledP (kN K) (plN K l w len) len) (kW K) 40
def highN (K : SkyT) (l : Nat) (w len : Nat → Nat) : Nat := rawN K l w len - slackN K l w len
def momP (n : Nat) (p len wi : Nat → Nat) (r : Nat) : Nat := sumTo (fun k => if r ≤ len k then p k * wi k else 0) n
def placeN (K : SkyT) (l : Nat) (w len : Nat → Nat) : Nat := momP (kN K) (plN K l w len) len (wi K) (rawN K l w len) / pulledP (kN K) (plN K l w len) len (rawN K l w len) + w (highN K l w len) / 5
theorem sumTo_le {f : Nat → Nat} {c : Nat} : ∀ {n : Nat}, (∀ k, k < n → f k ≤ c) → sumTo f n ≤ n * c
  | 0, _ => Nat.zero_le _
  | n + 1, h => by
    have h1 := sumTo_le (n := n) (fun k hk => h k (by omega))
    have h2 := h n (by omega)
    show sumTo f n + f n ≤ (n + 1) * c
    rw [Nat.succ_mul]
    omega
theorem sumTo_congr {f g : Nat → Nat} : ∀ {n : Nat}, (∀ k, k < n → f k = g k) → sumTo f n = sumTo g n
  | 0, _ => rfl
  | n + 1, h => by
    show sumTo f n + f n = sumTo g n + g n
    rw [sumTo_congr (n := n) (fun k hk => h k (by omega)), h n (by omega)]
theorem clI_in {v lo hi : Int32} {a : Nat} (h0 : lo = 0) (h1 : hi = nI a) (ha : a < 2 ^ 31) : ∃ j : Nat, j ≤ a ∧ clI v lo hi = nI j := by
  subst h0 h1
  unfold clI
  by_cases h : 0 ≤ v
  · rw [if_pos h]
    by_cases h2 : v ≤ nI a
    · rw [if_pos h2]
      obtain ⟨j, hj, rfl⟩ := nI_of (x := v) (Int32.not_lt.mpr h)
      exact ⟨j, (nI_leI hj ha).mp h2, rfl⟩
    · rw [if_neg h2]; exact ⟨a, Nat.le_refl a, rfl⟩
  · rw [if_neg h]; exact ⟨0, Nat.zero_le a, rfl⟩
theorem windN_ok (K : SkyT) (h m : Nat) (g : Int32) : windN K h m g ≤ 99 ∧ (∀ f, wl K = some f → clI (f (nI h) (nI m) g) 0 99 = nI (windN K h m g)) := by
  unfold windN
  cases hw : wl K with
  | none => exact ⟨(by omega : 20 ≤ 99), fun f hf => by cases hf⟩
  | some f =>
    obtain ⟨j, hj, e⟩ := clI_in (v := f (nI h) (nI m) g) (lo := 0) (hi := 99) (a := 99) rfl rfl (by decide)
    refine ⟨?_, fun f' hf => ?_⟩
    · show (clI (f (nI h) (nI m) g) 0 99).toNatClampNeg ≤ 99
      rw [e, nI_clamp (by omega)]; exact hj
    · cases hf
      show _ = nI (clI (f (nI h) (nI m) g) 0 99).toNatClampNeg
      rw [e, nI_clamp (by omega)]
theorem lo_nI {l k : Nat} (hl : l < 2 ^ 31) (hk : k < 6) : (nI l >>> (nI k &&& 31)) &&& 1 = nI (l / 2 ^ k % 2) := by
  have hs : ((nI k &&& 31).toBitVec.smod 32).toNat = k := by
    rcases (by omega : k = 0 ∨ k = 1 ∨ k = 2 ∨ k = 3 ∨ k = 4 ∨ k = 5) with rfl | rfl | rfl | rfl | rfl | rfl <;> decide
  have h2 : l / 2 ^ k ≤ l := Nat.div_le_self _ _
  rw [pk_shrN hl _ k hs]
  exact pk_andN (by omega) 1 (by decide)
theorem pullN_le {d l w : Nat} (hl : l ≤ 20) (hw : w ≤ 99) : pullN d l w ≤ 396 := by
  have h1 : l * w ≤ 20 * 99 := Nat.mul_le_mul hl hw
  have h2 : l * w / 10 ≤ 198 := by omega
  unfold pullN
  split
  · omega
  · split <;> omega
theorem plN_le {K : SkyT} (hK : wfK K) {l : Nat} {w len : Nat → Nat} (hw : ∀ h, w h ≤ 99) {k : Nat} (hk : k < kN K) : plN K l w len k ≤ 396 := by
  unfold plN pulN
  split
  · omega
  · split
    · exact pullN_le (hK.2 k hk).2.2.2.1 (hw _)
    · omega
theorem rawG_le {P : Nat → Nat} {wt : Nat} : ∀ r, rawG P wt r ≤ r
  | 0 => Nat.le_refl 0
  | r + 1 => by
    unfold rawG
    split
    · exact Nat.le_succ_of_le (rawG_le r)
    · exact Nat.le_refl _
/-- the model holds a sky in its row r -/
def mLaw (V : Vw) (i r : Nat) (t : Prop) (f : Option ((Nat → Int32) → Int32)) : Prop := ∃ a b, V 9 i = nI a ∧ V 10 i = nI b ∧ 1000 * r ≤ a ∧ a ≤ b ∧ b ≤ 1000 * r + 1000 ∧ match f with
  | none => a = b
  | some f => a < b ∧ lawM (V 11) a b f
def wlF (K : SkyT) : Option ((Nat → Int32) → Int32) := (wl K).map fun f v => f (v 1) (v 2) (v 3)
def rlF (K : SkyT) : Option ((Nat → Int32) → Int32) := (rl K).map fun f v => f (v 1) (v 2) (v 3) (v 4) (v 5) (v 6)
def mSky (V : Vw) (r : Nat) (K : SkyT) : Prop := (V 2 (5 * r) = nI (kW K) ∧ V 2 (5 * r + 1) = nI (kH K) ∧ V 2 (5 * r + 2) = nI (kT K) ∧ V 2 (5 * r + 3) = nI (kG K) ∧ V 2 (5 * r + 4) = nI (kN K)) ∧
  (∀ k, k < kN K → V 3 (6 * r + k) = nI (kd K k) ∧ V 4 (6 * r + k) = nI (wi K k) ∧ V 5 (6 * r + k) = nI (li K k) ∧ V 6 (6 * r + k) = nI (le_ K k)) ∧ mLaw V (2 * r) r True (wlF K) ∧ mLaw V (2 * r + 1) r True (rlF K)
theorem mSky.keep {V V' : Vw} {r : Nat} {K : SkyT} (h : mSky V r K) (e : ∀ j, (2 ≤ j ∧ j ≤ 6) ∨ (9 ≤ j ∧ j ≤ 11) → V' j = V j) : mSky V' r K := by
  unfold mSky mLaw at h ⊢
  rw [e 2 (by omega), e 3 (by omega), e 4 (by omega), e 5 (by omega), e 6 (by omega), e 9 (by omega), e 10 (by omega), e 11 (by omega)]
  exact h
/-! the model's wind -/
theorem p_between {F : Nat} {S : Mem} {x a b : Int32} : fn_X9_between F x a b S = some (clI x a b, S) := by
  unfold fn_X9_between f_X9_between_19 clI
  by_cases h1 : a ≤ x
  · by_cases h2 : x ≤ b
    · simp only [if_pos h1, if_pos h2]
    · simp only [if_pos h1, if_neg h2]
  · simp only [if_neg h1]
theorem q_blows {m : Nat} {g : Int32} {K : SkyT} {F M : Nat} {S : Mem} {V0 : Vw} {U : Uw} (h : shM S M) (hF : 6007 < F) (hK : mSky V0 0 K) :
    ∃ V', fn_X9_blows F M (nI m) g (wM S M V0 U) = some ((), wM S M V' U) ∧ (∀ j, j < 14 ∨ (23 < j ∧ j ≠ 27) → V' j = V0 j) ∧ ∀ i, i < 41 → V' 27 i = nI (windN K i m g) := by
  obtain ⟨a, b, ha, hb, h0, hab, hb6, hm⟩ := hK.2.2.1
  have key : ∀ (d i f : Nat) (V : Vw), i + d = 41 → d < f → (∀ j, j < 14 ∨ (23 < j ∧ j ≠ 27) → V j = V0 j) → (∀ t, t < i → V 27 t = nI (windN K t m g)) →
      ∃ V', fix4 (b_X9_blows_2 F) f M (nI m) g (nI i) (wM S M V U) = some ((), wM S M V' U) ∧ (∀ j, j < 14 ∨ (23 < j ∧ j ≠ 27) → V' j = V0 j) ∧ ∀ i, i < 41 → V' 27 i = nI (windN K i m g) := by
    intro d
    induction d with
    | zero =>
      intro i f V hi hf hV hw
      obtain ⟨f, rfl⟩ : ∃ f', f = f' + 1 := ⟨f - 1, by omega⟩
      obtain rfl : i = 41 := by omega
      exact ⟨V, rfl, hV, hw⟩
    | succ d ih =>
      intro i f V hi hf hV hw
      obtain ⟨f, rfl⟩ : ∃ f', f = f' + 1 := ⟨f - 1, by omega⟩
      have ih := fun V => ih (i + 1) f V (by omega) (by omega)
      show ∃ V', b_X9_blows_2 F (fix4 (b_X9_blows_2 F) f) M (nI m) g (nI i) (wM S M V U) = _ ∧ _
      generalize fix4 (b_X9_blows_2 F) f = k4 at ih ⊢
      have v9 : V 9 0 = nI a := by rw [hV 9 (by omega)]; exact ha
      have v10 : V 10 0 = nI b := by rw [hV 10 (by omega)]; exact hb
      have v11 : V 11 = V0 11 := hV 11 (by omega)
      unfold b_X9_blows_2 f_X9_blows_65
      rw [if_neg (show ¬ (41 : Int32) ≤ nI i from nI_ge (b := 41) (by omega) (by decide))]
      generalize hW : u2 (u2 (u2 V 23 1 (nI i)) 23 2 (nI m)) 23 3 g = W
      have w1 : W 23 1 = nI i := by rw [← hW]; simp (disch := omega) only [u2_ne, u2_eq]
      have w2 : W 23 2 = nI m := by rw [← hW]; simp (disch := omega) only [u2_ne, u2_eq]
      have w3 : W 23 3 = g := by rw [← hW]; simp (disch := omega) only [u2_ne, u2_eq]
      have wf : ∀ j, j ≠ 23 → W j = V j := fun j hj => by rw [← hW]; simp (disch := omega) only [u2_row]
      have v9' : W 9 0 = nI a := by rw [wf 9 (by omega)]; exact v9
      have v10' : W 10 0 = nI b := by rw [wf 10 (by omega)]; exact v10
      simp (disch := first | assumption | exact inB_n (by omega) (by decide) | exact inB_l (by omega) (by decide) | exact inB_al (by omega) (by decide) | exact inB_la (by omega) (by decide) | exact inB_j (by assumption) (by omega) (by decide) | exact inB_e (by assumption) (by decide) | omega) only [↓eM h, ↓bd_r, ↓lt_r, ↓Option.bind_some, ↓reduceIte, ix_nI, ix_l, nI_al, nI_la, nI_lm, u2_ne, u2_eq, nI_leI, nI_ltI, nI_eq, le_ln, le_nl, lt_ln, lt_nl, eq_nl, eq_ln, hW, v9, v10]
      by_cases hc : b = a
      · have hab' : a = b := hc.symm
        rw [if_pos hc]
        have e20 : windN K i m g = 20 := by
          unfold windN
          cases hw2 : wl K with
          | none => rfl
          | some f =>
            unfold wlF at hm
            rw [hw2] at hm
            have := hm.1
            omega
        refine ih _ (fun j hj => ?_) (fun t ht => ?_)
        · rw [u2_row (by omega), wf j (by omega), hV j hj]
        · by_cases ht2 : t = i
          · subst ht2; rw [u2_eq ⟨rfl, rfl⟩, e20]; rfl
          · rw [u2_ne (Or.inr ht2), wf 27 (by omega), hw t (by omega)]
      · rw [if_neg hc]
        have hne : a ≠ b := fun q => hc q.symm
        cases hw2 : wl K with
        | none =>
          unfold wlF at hm
          rw [hw2] at hm
          exact absurd hm hne
        | some f =>
          unfold wlF at hm
          rw [hw2] at hm
          have hm2 : lawM (W 11) a b (fun v => f (v 1) (v 2) (v 3)) := by rw [wf 11 (by omega), v11]; exact hm.2
          obtain ⟨V1, e1, f1⟩ := p_worked (line := 0) (U := U) h hF (by decide) v9' v10' (by omega) hm2
          have e1 : fn_X9_worked F M (0 : Int32) (wM S M W U) = _ := e1
          rw [e1, bd_r, p_between, bd_r]
          simp (disch := first | assumption | exact inB_n (by omega) (by decide) | exact inB_l (by omega) (by decide) | exact inB_al (by omega) (by decide) | exact inB_la (by omega) (by decide) | exact inB_j (by assumption) (by omega) (by decide) | exact inB_e (by assumption) (by decide) | omega) only [↓eM h, ↓bd_r, ↓lt_r, ↓Option.bind_some, ↓reduceIte, ix_nI, ix_l, nI_al, nI_la, nI_lm, u2_ne, u2_eq, nI_leI, nI_ltI, nI_eq, le_ln, le_nl, lt_ln, lt_nl, eq_nl, eq_ln]
          have e2 := (windN_ok K i m g).2 f hw2
          rw [w1, w2, w3, e2]
          refine ih _ (fun j hj => ?_) (fun t ht => ?_)
          · rw [u2_row (by omega), f1 j (by omega), wf j (by omega), hV j hj]
          · by_cases ht2 : t = i
            · subst ht2; rw [u2_eq ⟨rfl, rfl⟩]
            · rw [u2_ne (Or.inr ht2), f1 27 (by omega), wf 27 (by omega), hw t (by omega)]
  exact key 41 0 F V0 (by omega) (by omega) (fun _ _ => rfl) (fun t ht => by omega)
