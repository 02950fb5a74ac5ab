/-! new rows beside the class's own -/
theorem wC_pNew {S : Mem} {C kd n : Nat} {V : Vw} {U : Uw} {D : Dw} (h : ¬ inR C (mZ S)) : pNew (wC S C V U D) kd n = wC (pNew S kd n) C V U D := by
  have hI : u1 (mI (wC S C V U D)) (mZ S) (fun _ => 0) = fun a k => if a = C ∨ (C + 7 ≤ a ∧ a < C + 71) then V (a - C) k else mI (pNew S kd n) a k := by
    funext a k
    show (if a = mZ S then (fun _ => (0 : Int32)) else fun k => if a = C ∨ (C + 7 ≤ a ∧ a < C + 71) then V (a - C) k else mI S a k) k = (if a = C ∨ (C + 7 ≤ a ∧ a < C + 71) then V (a - C) k else (if a = mZ S then (fun _ => (0 : Int32)) else mI S a) k)
    by_cases h2 : a = C ∨ (C + 7 ≤ a ∧ a < C + 71)
    · rw [if_neg (fun q => h (by rw [← q]; exact h2)), if_pos h2]
      exact (if_pos h2).symm
    · rw [if_neg h2]
      by_cases h3 : a = mZ S
      · rw [if_pos h3, if_pos h3]
      · rw [if_neg h3, if_neg h3]
        exact if_neg h2
  have hJ : u1 (mJ (wC S C V U D)) (mZ S) (fun _ => 0) = fun a k => if a = C ∨ (C + 7 ≤ a ∧ a < C + 71) then U (a - C) k else mJ (pNew S kd n) a k := by
    funext a k
    show (if a = mZ S then (fun _ => (0 : Int64)) else fun k => if a = C ∨ (C + 7 ≤ a ∧ a < C + 71) then U (a - C) k else mJ S a k) k = (if a = C ∨ (C + 7 ≤ a ∧ a < C + 71) then U (a - C) k else (if a = mZ S then (fun _ => (0 : Int64)) else mJ S a) k)
    by_cases h2 : a = C ∨ (C + 7 ≤ a ∧ a < C + 71)
    · rw [if_neg (fun q => h (by rw [← q]; exact h2)), if_pos h2]
      exact (if_pos h2).symm
    · rw [if_neg h2]
      by_cases h3 : a = mZ S
      · rw [if_pos h3, if_pos h3]
      · rw [if_neg h3, if_neg h3]
        exact if_neg h2
  have hR : u1 (mR (wC S C V U D)) (mZ S) (fun _ => none) = fun a k => haveI := Classical.propDecidable (dyn (a - C) k); if (a = C ∨ (C + 7 ≤ a ∧ a < C + 71)) ∧ dyn (a - C) k then some (D (a - C) k) else mR (pNew S kd n) a k := by
    funext a k
    by_cases h2 : (a = C ∨ (C + 7 ≤ a ∧ a < C + 71)) ∧ dyn (a - C) k
    · rw [if_pos h2]
      show (if a = mZ S then (fun _ => (none : Option Nat)) else mR (wC S C V U D) a) k = _
      rw [if_neg (fun q => h (by rw [← q]; exact h2.1))]
      show (haveI := Classical.propDecidable (dyn (a - C) k); if (a = C ∨ (C + 7 ≤ a ∧ a < C + 71)) ∧ dyn (a - C) k then some (D (a - C) k) else mR S a k) = _
      rw [if_pos h2]
    · rw [if_neg h2]
      show (if a = mZ S then (fun _ => (none : Option Nat)) else mR (wC S C V U D) a) k = (if a = mZ S then (fun _ => (none : Option Nat)) else mR S a) k
      by_cases h3 : a = mZ S
      · rw [if_pos h3, if_pos h3]
      · rw [if_neg h3, if_neg h3]
        exact wC_mRn h2
  show (u1 S.1 (mZ S) kd, u1 S.2.1 (mZ S) n, u1 (mI (wC S C V U D)) (mZ S) (fun _ => 0), u1 (mJ (wC S C V U D)) (mZ S) (fun _ => 0), u1 (mR (wC S C V U D)) (mZ S) (fun _ => none), mZ S + 1, mU S, mQ S + (if kd < 9 then szOf kd else n), mT S, mB S) = _
  rw [hI, hJ, hR]
  rfl
theorem wC_pRo {S : Mem} {C a k : Nat} {V : Vw} {U : Uw} {D : Dw} {v : Option Nat} (h : ¬ inR C a) : pR (wC S C V U D) a k v = wC (pR S a k v) C V U D := by
  have h1 : u2 (mR (wC S C V U D)) a k v = fun c j => haveI := Classical.propDecidable (dyn (c - C) j); if (c = C ∨ (C + 7 ≤ c ∧ c < C + 71)) ∧ dyn (c - C) j then some (D (c - C) j) else mR (pR S a k v) c j := by
    funext c j
    by_cases h2 : (c = C ∨ (C + 7 ≤ c ∧ c < C + 71)) ∧ dyn (c - C) j
    · rw [if_pos h2]
      show (if c = a ∧ j = k then v else mR (wC S C V U D) c j) = _
      rw [if_neg (fun q => h (by rw [← q.1]; exact h2.1))]
      show (haveI := Classical.propDecidable (dyn (c - C) j); if (c = C ∨ (C + 7 ≤ c ∧ c < C + 71)) ∧ dyn (c - C) j then some (D (c - C) j) else mR S c j) = _
      rw [if_pos h2]
    · rw [if_neg h2]
      show (if c = a ∧ j = k then v else mR (wC S C V U D) c j) = (if c = a ∧ j = k then v else mR S c j)
      rw [wC_mRn h2]
  show ((wC S C V U D).1, (wC S C V U D).2.1, (wC S C V U D).2.2.1, (wC S C V U D).2.2.2.1, u2 (mR (wC S C V U D)) a k v, (wC S C V U D).2.2.2.2.2) = _
  rw [h1]
  rfl
theorem wC_pAo {S : Mem} {C a : Nat} {V : Vw} {U : Uw} {D : Dw} {f : Nat → Int32} (h : ¬ inR C a) : pA (wC S C V U D) a f = wC (pA S a f) C V U D := by
  have h1 : u1 (mI (wC S C V U D)) a f = fun c k => if c = C ∨ (C + 7 ≤ c ∧ c < C + 71) then V (c - C) k else mI (pA S a f) c k := by
    funext c k
    show (if c = a then f else fun k => if c = C ∨ (C + 7 ≤ c ∧ c < C + 71) then V (c - C) k else mI S c k) k = (if c = C ∨ (C + 7 ≤ c ∧ c < C + 71) then V (c - C) k else (if c = a then f else mI S c) k)
    by_cases h2 : c = C ∨ (C + 7 ≤ c ∧ c < C + 71)
    · rw [if_neg (fun q => h (by rw [← q]; exact h2)), if_pos h2]
      exact (if_pos h2).symm
    · rw [if_neg h2]
      by_cases h3 : c = a
      · rw [if_pos h3, if_pos h3]
      · rw [if_neg h3, if_neg h3]
        exact if_neg h2
  show ((wC S C V U D).1, (wC S C V U D).2.1, u1 (mI (wC S C V U D)) a f, (wC S C V U D).2.2.2) = _
  rw [h1]
  rfl
theorem wK_pNew {S : Mem} {b kd n : Nat} {W : Vw} (h : b + 6 ≤ mZ S) : pNew (wK S b W) kd n = wK (pNew S kd n) b W := by
  have hI : u1 (mI (wK S b W)) (mZ S) (fun _ => 0) = fun a k => if b ≤ a ∧ a < b + 6 then W (a - b) k else mI (pNew S kd n) a k := by
    funext a k
    show (if a = mZ S then (fun _ => (0 : Int32)) else fun k => if b ≤ a ∧ a < b + 6 then W (a - b) k else mI S a k) k = (if b ≤ a ∧ a < b + 6 then W (a - b) k else (if a = mZ S then (fun _ => (0 : Int32)) else mI S a) k)
    by_cases h2 : b ≤ a ∧ a < b + 6
    · rw [if_neg (by omega), if_pos h2]
      exact (if_pos h2).symm
    · rw [if_neg h2]
      by_cases h3 : a = mZ S
      · rw [if_pos h3, if_pos h3]
      · rw [if_neg h3, if_neg h3]
        exact if_neg h2
  show (u1 S.1 (mZ S) kd, u1 S.2.1 (mZ S) n, u1 (mI (wK S b W)) (mZ S) (fun _ => 0), u1 S.2.2.2.1 (mZ S) (fun _ => 0), u1 S.2.2.2.2.1 (mZ S) (fun _ => none), mZ S + 1, mU S, mQ S + (if kd < 9 then szOf kd else n), mT S, mB S) = _
  rw [hI]
  rfl
theorem wK_pR {S : Mem} {b a k : Nat} {W : Vw} {v : Option Nat} : pR (wK S b W) a k v = wK (pR S a k v) b W := rfl
theorem wK_pA {S : Mem} {b a : Nat} {W : Vw} {f : Nat → Int32} (h : ¬ (b ≤ a ∧ a < b + 6)) : pA (wK S b W) a f = wK (pA S a f) b W := by
  have hI : u1 (mI (wK S b W)) a f = fun c k => if b ≤ c ∧ c < b + 6 then W (c - b) k else mI (pA S a f) c k := by
    funext c k
    show (if c = a then f else fun k => if b ≤ c ∧ c < b + 6 then W (c - b) k else mI S c k) k = (if b ≤ c ∧ c < b + 6 then W (c - b) k else (if c = a then f else mI S c) k)
    by_cases h2 : b ≤ c ∧ c < b + 6
    · rw [if_neg (fun q => h (by rw [← q]; exact h2)), if_pos h2]
      exact (if_pos h2).symm
    · rw [if_neg h2]
      by_cases h3 : c = a
      · rw [if_pos h3, if_pos h3]
      · rw [if_neg h3, if_neg h3]
        exact if_neg h2
  show ((wK S b W).1, (wK S b W).2.1, u1 (mI (wK S b W)) a f, (wK S b W).2.2.2) = _
  rw [hI]
  rfl
/-! a memory that has grown -/
def xS (b : Nat) (S S' : Mem) : Prop := (∀ a, a < mZ S → mK S' a = mK S a ∧ mN S' a = mN S a ∧ mI S' a = mI S a ∧ mJ S' a = mJ S a ∧ ∀ k, (a ≠ b ∨ k < 10) → mR S' a k = mR S a k) ∧ (mU S' = mU S ∧ mT S' = mT S ∧ mB S' = mB S) ∧ mZ S ≤ mZ S' ∧ mQ S ≤ mQ S'
theorem xS.rf {b : Nat} {S : Mem} : xS b S S := ⟨fun _ _ => ⟨rfl, rfl, rfl, rfl, fun _ _ => rfl⟩, ⟨rfl, rfl, rfl⟩, Nat.le_refl _, Nat.le_refl _⟩
theorem xS.tr {b : Nat} {S S' S'' : Mem} (a : xS b S S') (c : xS b S' S'') : xS b S S'' := by
  obtain ⟨a1, a2, a3, a4⟩ := a
  obtain ⟨c1, c2, c3, c4⟩ := c
  refine ⟨fun x hx => ?_, ⟨c2.1.trans a2.1, c2.2.1.trans a2.2.1, c2.2.2.trans a2.2.2⟩, by omega, by omega⟩
  have p := a1 x hx
  have q := c1 x (by omega)
  exact ⟨q.1.trans p.1, q.2.1.trans p.2.1, q.2.2.1.trans p.2.2.1, q.2.2.2.1.trans p.2.2.2.1, fun k hk => (q.2.2.2.2 k hk).trans (p.2.2.2.2 k hk)⟩
theorem shC.cg {S S' : Mem} {C : Nat} (h : shC S C) (e : ∀ j, j < 71 → mK S' (C + j) = mK S (C + j) ∧ mN S' (C + j) = mN S (C + j) ∧ mR S' (C + j) = mR S (C + j)) : shC S' C := by
  have hk := fun j hj => (e j hj).1
  have hn := fun j hj => (e j hj).2.1
  have hr := fun j hj => (e j hj).2.2
  have k0 : mK S' C = mK S C := hk 0 (by omega)
  have r0 : mR S' C = mR S C := hr 0 (by omega)
  unfold shC isN at h ⊢
  simp +contextual (disch := omega) only [k0, r0, hk, hn, hr]
  exact h
theorem shC.xs {b : Nat} {S S' : Mem} {C : Nat} (h : shC S C) (x : xS b S S') (hC : C + 71 ≤ mZ S) (hb : C + 71 ≤ b) : shC S' C := h.cg (fun j hj => by
  have q := x.1 (C + j) (by omega)
  exact ⟨q.1, q.2.1, funext fun k => q.2.2.2.2 k (Or.inl (by omega))⟩)
theorem shK.xs {b c : Nat} {S S' : Mem} {C : Nat} (h : shK S C c) (x : xS b S S') (hc : c + 6 ≤ mZ S) : shK S' C c := by
  obtain ⟨h1, h2, h3⟩ := h
  refine ⟨by rw [(x.1 c (by omega)).1]; exact h1, fun i hi => ?_, h3⟩
  have q := x.1 (c + (1 + i)) (by omega)
  rw [(x.1 c (by omega)).2.2.2.2 (1 + i) (Or.inr (by omega)), q.1, q.2.1]
  exact h2 i hi
def lwK (S : Mem) (C b k : Nat) (f : Option ((Nat → Int32) → Int32)) : Prop := ∃ w, mR S b k = some w ∧ (w < mZ S ∧ (w = mU S ∨ b + 6 ≤ w)) ∧ cLaw S C w f
theorem cLaw.xs {b w : Nat} {S S' : Mem} {C : Nat} {f : Option ((Nat → Int32) → Int32)} (h : cLaw S C w f) (x : xS b S S') (hw : w < mZ S) : cLaw S' C w f := by
  have q := x.1 w hw
  cases f with
  | none =>
    obtain ⟨h1, h2⟩ := h
    exact ⟨by rw [q.1]; exact h1, by rw [q.2.1]; exact h2⟩
  | some f =>
    obtain ⟨h1, h2, h3, h4, h5⟩ := h
    refine ⟨by rw [q.1]; exact h1, by rw [q.2.1]; exact h2, by rw [q.2.1]; exact h3, h4, by rw [q.2.1, q.2.2.1]; exact h5⟩
def frG (V V' : Vw) : Prop := ∀ j, j ≠ 8 → j ≠ 9 → j ≠ 13 → V' j = V j
theorem frG.rf {V : Vw} : frG V V := fun _ _ _ _ => rfl
theorem frG.tr {V V' V'' : Vw} (a : frG V V') (b : frG V' V'') : frG V V'' := fun j h1 h2 h3 => (b j h1 h2 h3).trans (a j h1 h2 h3)
theorem fr8.g {V V' : Vw} (a : fr8 V V') : frG V V' := a.1
theorem segC_pos {law : Nat} {cd : Nat → Int32} {n h : Nat} {f : Den} (s : segC law cd 0 n h f) (hh : h ≤ 32) : 0 < n := by
  cases n with
  | zero =>
    obtain ⟨V', a, -⟩ := s.2 (fun _ => 0) 0 (fun _ _ => 0) (by omega)
    have a : some (0, fun _ _ => (0 : Int32)) = some (0 + 1, V') := a
    cases a
  | succ n => omega
/-- a law read: a new row -/
theorem c_law {X : Tp} {law law0 nc0 p b : Nat} {W : Vw} {F C : Nat} {S : Mem} {V : Vw} {U : Uw} {D : Dw} (h : shC S C) (hl : law < 2) (hF : 10000 < F) (hX : okTp X) (hD : D 9 0 = C + 7) (hp : p ≤ X.1) (h1 : 1 ≤ p) (hP : cP X law0 p 0 nc0 V U) (hZ : b + 6 ≤ mZ S) (hC : C + 71 ≤ b) :
    ∃ V' U' n cd, fn_X6_readLaw F (C + 8) (nI law) (wC (wK S b W) C V U D) = some (mZ S, wC (wK (pA (pNew S 10 n) (mZ S) cd) b W) C V' U' D) ∧ n < 1000 ∧ frG V V' ∧ V' 8 4 = V 8 4 ∧ u9 U U' ∧ cR X law (psR (pTests X (pPart X law 5) p)) n V' U' ∧ ∀ q f, pTests X (pPart X law 5) p = .inr (q, f) → 0 < n ∧ lawC cd n (fun facts => f (sgC law facts)) := by
  have hX1 := hX.1
  have hh : ∀ W, shC (wK S b W) C := fun _ => h
  have hz : ¬ inR C (mZ S) := by unfold inR; omega
  have hP2 : cP X law p 0 0 (u2 (u2 V 8 6 (nI law)) 8 5 0) U := by
    obtain ⟨⟨c1, c2, c3, c4, c5, c6⟩, h3, h5, h6, ht, hw⟩ := hP
    refine ⟨⟨?_, ?_, ?_, ?_, fun z => ?_, c6⟩, ?_, u2_eq ⟨rfl, rfl⟩, ?_, fun i hi => ?_, hw⟩
    · rw [u2_row (by omega), u2_row (by omega)]; exact c1
    · rw [u2_row (by omega), u2_row (by omega)]; exact c2
    · rw [u2_row (by omega), u2_row (by omega)]; exact c3
    · rw [u2_row (by omega), u2_row (by omega)]; exact c4
    · rw [u2_row (by omega), u2_row (by omega)]; exact c5 z
    · rw [u2_ne (by omega), u2_ne (by omega)]; exact h3
    · rw [u2_ne (by omega), u2_eq ⟨rfl, rfl⟩]
    · rw [u2_row (by omega), u2_row (by omega)]; exact ht i hi
  obtain ⟨V1, U1, a1, a2, a3, a4, a5⟩ := (g_readE (hh W) hF hX hD hl).1 p 0 _ U hp (by omega) hP2
  have fin : ∀ n, V1 8 5 = nI n → n < 1000 → fn_X6_readLaw F (C + 8) (nI law) (wC (wK S b W) C V U D) = some (mZ S, wC (wK (pA (pNew S 10 n) (mZ S) (va_cpy (V1 13) (fun _ => 0) 0 0 n)) b W) C V1 U1 D) := by
    intro n e5 hn
    have hh2 : shC (pNew (wK S b W) 10 n) C := by
      refine (hh W).cg (fun j hj => ?_)
      have ne : C + j ≠ mZ (wK S b W) := by show C + j ≠ mZ S; omega
      exact ⟨if_neg ne, if_neg ne, if_neg ne⟩
    have g1 : ∀ (T : Mem) (V : Vw) (U : Uw), shC T C → gLen (wC T C V U D) (C + 13) = some (nI 1000) := by
      intro T V U hT
      have := gLen_k (α := Int32) (S := wC T C V U D) (a := C + 13) (kd := 10) (N := 1000) (K := some) hT.2.2.2.2.2.2.2.2.2.2.1.1 (by decide) (by decide) hT.2.2.2.2.2.2.2.2.2.2.1.2
      cases hg : gLen (wC T C V U D) (C + 13) with
      | none => rw [hg] at this; cases this
      | some v => rw [hg] at this; exact this
    have e9 : ¬ nI n = nI 1000 := fun q => by have := (nI_eq (by omega) (by omega)).mp q; omega
    have en : nA (wC (wK S b W) C V1 U1 D) 10 (nI n) = some (mZ S, wC (pNew (wK S b W) 10 n) C V1 U1 D) := by
      unfold nA
      rw [nI_clamp (by omega), if_pos ⟨nI_pos (by omega), by omega⟩, wC_pNew (S := wK S b W) hz]
      rfl
    have em : mnI (nI 1000) (nI n) = nI n := by
      unfold mnI
      rw [if_pos ((nI_ltI (by omega) (by omega)).mpr hn)]
    have ea : acp (wC (pNew (wK S b W) 10 n) C V1 U1 D) (C + 13) 0 (mZ S) 0 (nI n) = some (wC (wK (pA (pNew S 10 n) (mZ S) (va_cpy (V1 13) (fun _ => 0) 0 0 n)) b W) C V1 U1 D) := by
      have e0 : (0 : Int32).toNatClampNeg = 0 := by decide
      have k2 : mK (wC (pNew (wK S b W) 10 n) C V1 U1 D) (mZ S) = 10 := if_pos rfl
      have n2 : mN (wC (pNew (wK S b W) 10 n) C V1 U1 D) (mZ S) = n := if_pos rfl
      have k1 : mK (wC (pNew (wK S b W) 10 n) C V1 U1 D) (C + 13) = 10 := hh2.2.2.2.2.2.2.2.2.2.2.1.1
      have n1 : mN (wC (pNew (wK S b W) 10 n) C V1 U1 D) (C + 13) = 1000 := hh2.2.2.2.2.2.2.2.2.2.2.1.2
      unfold acp
      rw [e0, nI_clamp (by omega), if_pos ⟨⟨k1, k2⟩, ⟨by decide, by decide, nI_pos (by omega)⟩, by rw [n1]; omega, by rw [n2]; omega⟩, wC_pAo hz, wK_pNew hZ, wK_pA (by omega)]
      have i1 : mI (wC (wK (pNew S 10 n) b W) C V1 U1 D) (C + 13) = V1 13 := by funext k; exact wC_mI (by decide)
      have i2 : mI (wC (wK (pNew S 10 n) b W) C V1 U1 D) (mZ S) = fun _ => 0 := by
        rw [wC_out hz]
        funext k
        rw [wK_mIo (by omega)]
        exact congrFun (if_pos rfl) k
      rw [i1, i2]
    unfold fn_X6_readLaw fn_J7_copyOf_59c91
    simp (disch := first | assumption | exact inB_n (by omega) (by decide) | exact inB_l (by omega) (by decide) | exact inB_al (by omega) (by decide) | exact inB_la (by omega) (by decide) | exact inB_j (by assumption) (by omega) (by decide) | exact inB_e (by assumption) (by decide) | omega) only [↓fun W => eC (hh W), ↓bd_r, ↓Option.bind_some, a1, e5, g1 _ _ _ (hh W), if_neg e9, en, g1 _ _ _ hh2, em, ea]
  cases hr : pTests X (pPart X law 5) p with
  | inl k =>
    rw [hr] at a5
    obtain ⟨n, n1, n2, k0, k2, hP3⟩ := a5
    refine ⟨V1, U1, n, _, fin n hP3.2.2.1 (by omega), by omega, fun j h8 h9 h13 => ?_, ?_, a3, ⟨k0, k2, hP3⟩, fun q f e => by cases e⟩
    · rw [a2.1 j h8 h9 h13, u2_row h8, u2_row h8]
    · rw [a2.2 4 (by omega) (by omega), u2_ne (by omega), u2_ne (by omega)]
  | inr z =>
    obtain ⟨q, f⟩ := z
    rw [hr] at a5
    obtain ⟨n, n1, n2, hP3, hs3⟩ := a5
    have hq := pTests_adv (fun p hp => pPart_adv (X := X) (law := law) 5 p hp) p hp q f hr
    refine ⟨V1, U1, n, _, fin n hP3.2.2.1 (by omega), by omega, fun j h8 h9 h13 => ?_, ?_, a3, ⟨hq.2, hP3⟩, fun q' f' e => ?_⟩
    · rw [a2.1 j h8 h9 h13, u2_row h8, u2_row h8]
    · rw [a2.2 4 (by omega) (by omega), u2_ne (by omega), u2_ne (by omega)]
    · cases e
      have s2 : segC law (va_cpy (V1 13) (fun _ => 0) 0 0 n) 0 n 25 f := hs3.cg (fun k _ hk => by
        rw [pk_cpy_in (by omega) (by omega)]
        congr 1
        omega)
      exact ⟨segC_pos hs3 (by omega), s2.law (by omega)⟩
