/-! both beside each other -/
theorem wCM {S : Mem} {C : Nat} {V Vm : Vw} {U Um : Uw} {D : Dw} : wC (wM S (C + 71) Vm Um) C V U D = wM (wC S C V U D) (C + 71) Vm Um := by
  have e3 : (fun a k => if a = C ∨ (C + 7 ≤ a ∧ a < C + 71) then V (a - C) k else mI (wM S (C + 71) Vm Um) a k) = fun a k => if C + 71 ≤ a ∧ a < C + 71 + 32 then Vm (a - (C + 71)) k else mI (wC S C V U D) a k := by
    funext a k
    show (if a = C ∨ (C + 7 ≤ a ∧ a < C + 71) then V (a - C) k else if C + 71 ≤ a ∧ a < C + 71 + 32 then Vm (a - (C + 71)) k else mI S a k) = if C + 71 ≤ a ∧ a < C + 71 + 32 then Vm (a - (C + 71)) k else if a = C ∨ (C + 7 ≤ a ∧ a < C + 71) then V (a - C) k else mI S a k
    by_cases h : a = C ∨ (C + 7 ≤ a ∧ a < C + 71)
    · rw [if_pos h, if_neg (by omega), if_pos h]
    · rw [if_neg h, if_neg h]
  have e4 : (fun a k => if a = C ∨ (C + 7 ≤ a ∧ a < C + 71) then U (a - C) k else mJ (wM S (C + 71) Vm Um) a k) = fun a k => if C + 71 ≤ a ∧ a < C + 71 + 32 then Um (a - (C + 71)) k else mJ (wC S C V U D) a k := by
    funext a k
    show (if a = C ∨ (C + 7 ≤ a ∧ a < C + 71) then U (a - C) k else if C + 71 ≤ a ∧ a < C + 71 + 32 then Um (a - (C + 71)) k else mJ S a k) = if C + 71 ≤ a ∧ a < C + 71 + 32 then Um (a - (C + 71)) k else if a = C ∨ (C + 7 ≤ a ∧ a < C + 71) then U (a - C) k else mJ S a k
    by_cases h : a = C ∨ (C + 7 ≤ a ∧ a < C + 71)
    · rw [if_pos h, if_neg (by omega), if_pos h]
    · rw [if_neg h, if_neg h]
  show (S.1, S.2.1, (fun a k => if a = C ∨ (C + 7 ≤ a ∧ a < C + 71) then V (a - C) k else mI (wM S (C + 71) Vm Um) a k), (fun a k => if a = C ∨ (C + 7 ≤ a ∧ a < C + 71) then U (a - C) k else mJ (wM S (C + 71) Vm Um) a k), (wC S C V U D).2.2.2.2) = _
  rw [e3, e4]
  rfl
theorem shM_wC {S : Mem} {C : Nat} {V : Vw} {U : Uw} {D : Dw} (h : shM S (C + 71)) : shM (wC S C V U D) (C + 71) := by
  have e : ∀ k, mR (wC S C V U D) (C + 71) k = mR S (C + 71) k := fun k => wC_mRn (fun q => by have := q.1; unfold inR at this; omega)
  unfold shM at h ⊢
  simp only [e]
  exact h
def skO (S : Mem) (C b : Nat) : Prop := (b = C + 1 ∨ C + 104 ≤ b) ∧ b + 6 ≤ mZ S ∧ ∀ k w, k = 10 ∨ k = 11 → mR S b k = some w → w < mZ S ∧ (w < C ∨ C + 104 ≤ w)
theorem cLaw_wM {S : Mem} {C w : Nat} {V : Vw} {U : Uw} {f : Option ((Nat → Int32) → Int32)} (h : cLaw S C w f) (hw : w < C ∨ C + 104 ≤ w) : cLaw (wM S (C + 71) V U) C w f := by
  have e : mI (wM S (C + 71) V U) w = mI S w := wM_out (by omega)
  cases f with
  | none => exact h
  | some f =>
    obtain ⟨x1, x2, x3, x4, x5⟩ := h
    exact ⟨x1, x2, x3, x4, by rw [e]; exact x5⟩
theorem cSky_wM {S : Mem} {C b : Nat} {V : Vw} {U : Uw} {K : SkyT} (h : cSky S C b K) (ho : skO S C b) : cSky (wM S (C + 71) V U) C b K := by
  obtain ⟨h1, h2, h3, ⟨w, w1, w2⟩, ⟨v, v1, v2⟩⟩ := h
  have e : ∀ i, i ≤ 5 → mI (wM S (C + 71) V U) (b + i) = mI S (b + i) := fun i hi => wM_out (by have := ho.1; omega)
  have e0 : mI (wM S (C + 71) V U) b = mI S b := e 0 (by omega)
  refine ⟨h1, by rw [e0]; exact h2, fun k hk => by rw [e 1 (by omega), e 2 (by omega), e 3 (by omega), e 4 (by omega)]; exact h3 k hk, ⟨w, w1, cLaw_wM w2 (ho.2.2 10 w (by omega) w1).2⟩, ⟨v, v1, cLaw_wM v2 (ho.2.2 11 v (by omega) v1).2⟩⟩
theorem wfS.up {K : SkyT} {B B' : Nat} {s : Nat → Nat} (h : wfS K B s) (e : B ≤ B') : wfS K B' s := ⟨h.1, h.2.1, Nat.le_trans h.2.2.1 e, h.2.2.2⟩
def mkD (n : Nat) (S : Mem) (C : Nat) (Vc : Vw) (Dc : Dw) (Vm : Vw) (m : Nat) : Prop := ∃ K s, wfK K ∧ wfS K (1000 * n) s ∧ cSky S C (Dc (43 + 7 * m) 0) K ∧ skO S C (Dc (43 + 7 * m) 0) ∧ cNt Vc (43 + 7 * m) K s ∧ mSky Vm (2 + m) K ∧ ∀ j, j < 64 → Vm 26 (64 * m + j) = nI (s j)
def JD (z0 q0 n : Nat) (S : Mem) (C : Nat) (Vc : Vw) (Uc : Uw) (Dc : Dw) (Vm : Vw) (X : Tp) (K : SkyT) (s : Nat → Nat) (lm b L : Nat) (xs : Nat → Int32) : Prop :=
  (shC S C ∧ shM S (C + 71) ∧ mK S (C + 103) = 11 ∧ mN S (C + 103) = 1) ∧ (mK S b = 14 ∧ mN S b = L ∧ mI S b = xs ∧ b < C) ∧ (bgU S ∧ mU S < C) ∧ (C + 104 ≤ mZ S ∧ mZ S ≤ z0 + 8 * n ∧ mQ S ≤ q0 + 2042 * n) ∧ (okTp X ∧ cTp Vc X ∧ mTp Vm X ∧ wds Uc) ∧ (wfK K ∧ wfS K (1000 * n) s ∧ cSky S C (Dc 28 0) K ∧ skO S C (Dc 28 0) ∧ cNt Vc 28 K s ∧ mSky Vm 0 K ∧ mS Vm s) ∧
  (lm < 16 ∧ Vc 0 8 = nI lm ∧ (∀ m, m < 4 → Vm 31 m = b1 (lo lm m)) ∧ ∀ m, m < 4 → lo lm m = true → mkD n S C Vc Dc Vm m)
noncomputable abbrev JM (S : Mem) (C : Nat) (Vc : Vw) (Uc : Uw) (Dc : Dw) (Vm : Vw) (Um : Uw) : Mem := wC (wM S (C + 71) Vm Um) C Vc Uc Dc
def JN (z0 q0 n C b L : Nat) (xs : Nat → Int32) (k : Nat → Nat → Nat → Nat → Int32 → Mem → Option (Int32 × Mem)) (i : Nat) (Y : Option (Int32 × Mem)) : Prop := ∃ S Vc Uc Dc Vm Um X K s lm, Y = k b C (C + 71) (C + 103) (nI (i + 7)) (JM S C Vc Uc Dc Vm Um) ∧ JD z0 q0 n S C Vc Uc Dc Vm X K s lm b L xs
theorem isN_mk {m : Nat} (h : m < 4) : isN (43 + 7 * m) := by unfold isN; omega
theorem J_go {z0 q0 n C b L lm : Nat} {xs : Nat → Int32} {S : Mem} {Vc Vc' : Vw} {Uc Uc' : Uw} {Dc Dc' : Dw} {Vm Vm' : Vw} {X : Tp} {K : SkyT} {s s' : Nat → Nat} (h : JD z0 q0 n S C Vc Uc Dc Vm X K s lm b L xs) (hs : wfS K (1000 * (n + 1)) s') (c1 : ck Vc Vc') (c2 : Uc' 11 = Uc 11) (c3 : dk Dc Dc') (c4 : cNt Vc' 28 K s') (m1 : mk Vm Vm') (m2 : mS Vm' s') : JD z0 q0 (n + 1) S C Vc' Uc' Dc' Vm' X K s' lm b L xs := by
  obtain ⟨h1, h2, h3, h4, ⟨t1, t2, t3, t4⟩, ⟨k1, k2, k3, k4, k5, k6, k7⟩, l1, l2, l3, l4⟩ := h
  have d28 : Dc' 28 0 = Dc 28 0 := c3 28 isN28 (by omega)
  have msk : ∀ r K', mSky Vm r K' → mSky Vm' r K' := fun r K' q => q.keep (fun j hj => m1.1 j (by omega) (by omega))
  refine ⟨h1, h2, h3, ⟨h4.1, by omega, by omega⟩, ⟨t1, ⟨by rw [c1 0 (by omega)]; exact t2.1, fun i hi => by rw [c1 7 (by omega)]; exact t2.2 i hi⟩, ⟨by rw [m1.2]; exact t3.1, fun i hi => by rw [m1.1 1 (by omega) (by omega)]; exact t3.2 i hi⟩, fun i hi => by rw [c2]; exact t4 i hi⟩, ⟨k1, hs, by rw [d28]; exact k3, by rw [d28]; exact k4, c4, msk 0 K k6, m2⟩, l1, by rw [c1 0 (by omega)]; exact l2, fun m hm => by rw [m1.1 31 (by omega) (by omega)]; exact l3 m hm, fun m hm hl => ?_⟩
  obtain ⟨K', s9, a1, a2, a3, a4, a5, a6, a7⟩ := l4 m hm hl
  have dm : Dc' (43 + 7 * m) 0 = Dc (43 + 7 * m) 0 := c3 _ (isN_mk hm) (by omega)
  exact ⟨K', s9, a1, a2.up (by omega), by rw [dm]; exact a3, by rw [dm]; exact a4, a5.keep (fun i hi => c1 _ (by omega)), msk _ _ a6, fun j hj => by rw [m1.1 26 (by omega) (by omega)]; exact a7 j hj⟩
section
variable {z0 q0 n C b L lm : Nat} {xs : Nat → Int32} {S : Mem} {Vc : Vw} {Uc : Uw} {Dc : Dw} {Vm : Vw} {Um : Uw} {X : Tp} {K : SkyT} {s : Nat → Nat}
theorem J_gA {α : Type} {G : Int32 → Option α} (h : JD z0 q0 n S C Vc Uc Dc Vm X K s lm b L xs) (hL : L ≤ 3584) : ∀ (Vc : Vw) (Uc : Uw) (Dc : Dw) (Vm : Vw) (Um : Uw) (j : Nat), j < L → (gA (wC (wM S (C + 71) Vm Um) C Vc Uc Dc) 14 b (nI j)).bind G = G (xs j) := by
  intro Vc Uc Dc Vm Um j hj
  obtain ⟨e1, e2, e3, e4⟩ := h.2.1
  rw [gA_k (S := wC (wM S (C + 71) Vm Um) C Vc Uc Dc) e1 e2 (inB_n hj (by omega)), nI_clamp (by omega)]
  rw [wC_out (by unfold inR; omega), wM_out (by omega), e3]
theorem J_len {α : Type} {G : Int32 → Option α} (h : JD z0 q0 n S C Vc Uc Dc Vm X K s lm b L xs) : (gLen (wC (wM S (C + 71) Vm Um) C Vc Uc Dc) b).bind G = G (nI L) := by
  obtain ⟨e1, e2, e3, e4⟩ := h.2.1
  exact gLen_k (S := wC (wM S (C + 71) Vm Um) C Vc Uc Dc) e1 (by decide) (by decide) e2
theorem J_calC {α β : Type} {G : β → Mem → Option α} (h : JD z0 q0 n S C Vc Uc Dc Vm X K s lm b L xs) : ∀ (Vc : Vw) (Uc : Uw) (Dc : Dw) (Vm : Vw) (Um : Uw) (Y : Option (β × Mem)), bd (cal (wC (wM S (C + 71) Vm Um) C Vc Uc Dc) 7 C Y) G = bd Y G := fun Vc Uc Dc Vm Um Y => cal_r (S := wC (wM S (C + 71) Vm Um) C Vc Uc Dc) h.1.1.1
theorem J_calM {α β : Type} {G : β → Mem → Option α} (h : JD z0 q0 n S C Vc Uc Dc Vm X K s lm b L xs) : ∀ (Vc : Vw) (Uc : Uw) (Dc : Dw) (Vm : Vw) (Um : Uw) (Y : Option (β × Mem)), bd (cal (wC (wM S (C + 71) Vm Um) C Vc Uc Dc) 8 (C + 71) Y) G = bd Y G := fun Vc Uc Dc Vm Um Y => cal_r (S := wC (wM S (C + 71) Vm Um) C Vc Uc Dc) h.1.2.1.1
end
