/-! new cells behind a memory: their kinds and lengths stand in a list, what is written to them in lists -/
def KLs : List (Nat × Nat) := [(7, 0), (5, 0), (10, 6), (10, 6), (10, 6), (10, 6), (10, 6), (9, 1000), (6, 0), (1, 0), (9, 0), (11, 25), (11, 6), (10, 1000), (0, 0), (3, 0), (10, 25), (10, 32), (10, 6), (10, 6), (4, 0), (10, 41), (10, 246), (10, 6), (10, 6), (10, 7), (10, 0), (10, 0), (2, 0), (10, 6), (10, 6), (10, 6), (10, 10), (10, 10), (10, 10), (2, 0), (10, 6), (10, 6), (10, 6), (10, 10), (10, 10), (10, 10), (13, 4), (2, 0), (10, 6), (10, 6), (10, 6), (10, 10), (10, 10), (10, 10), (2, 0), (10, 6), (10, 6), (10, 6), (10, 10), (10, 10), (10, 10), (2, 0), (10, 6), (10, 6), (10, 6), (10, 10), (10, 10), (10, 10), (2, 0), (10, 6), (10, 6), (10, 6), (10, 10), (10, 10), (10, 10), (8, 0), (10, 1000), (10, 30), (10, 36), (10, 36), (10, 36), (10, 36), (10, 36), (11, 6), (10, 12), (10, 12), (10, 6000), (10, 7), (12, 7), (10, 7), (10, 7), (10, 7), (10, 7), (10, 7), (10, 7), (10, 7), (10, 7), (10, 7), (10, 20), (10, 64), (10, 64), (10, 256), (10, 41), (10, 6), (10, 6), (10, 6), (12, 4), (11, 1)]
def aK (j : Nat) : Nat := (KLs.getD j (15, 0)).1
def aN (j : Nat) : Nat := (KLs.getD j (15, 0)).2
def aS (j : Nat) : Nat := if aK j < 9 then szOf (aK j) else aN j
def totA : Nat → Nat
  | 0 => 0
  | i + 1 => totA i + aS i
def lkR : List (Nat × Nat × Nat) → Nat → Nat → Option Nat
  | [], _, _ => none
  | (a, b, v) :: W, j, k => if a = j ∧ b = k then some v else lkR W j k
def lkI : List (Nat × Nat × Int32) → Nat → Nat → Int32
  | [], _, _ => 0
  | (a, b, v) :: W, j, k => if a = j ∧ b = k then v else lkI W j k
def noR : List (Nat × Nat × Nat) → Nat → Bool
  | [], _ => true
  | (a, _, _) :: W, j => if a = j then false else noR W j
def noI : List (Nat × Nat × Int32) → Nat → Bool
  | [], _ => true
  | (a, _, _) :: W, j => if a = j then false else noI W j
theorem noR_lk : ∀ {W : List (Nat × Nat × Nat)} {j k : Nat}, noR W j = true → lkR W j k = none
  | [], _, _, _ => rfl
  | (a, b, v) :: W, j, k, h => by
    unfold noR at h
    unfold lkR
    by_cases e : a = j
    · rw [if_pos e] at h; cases h
    · rw [if_neg e] at h
      rw [if_neg (fun q => e q.1)]
      exact noR_lk h
theorem noI_lk : ∀ {W : List (Nat × Nat × Int32)} {j k : Nat}, noI W j = true → lkI W j k = 0
  | [], _, _, _ => rfl
  | (a, b, v) :: W, j, k, h => by
    unfold noI at h
    unfold lkI
    by_cases e : a = j
    · rw [if_pos e] at h; cases h
    · rw [if_neg e] at h
      rw [if_neg (fun q => e q.1)]
      exact noI_lk h
def rfA (S : Mem) (v : Nat) : Nat := if v = 999 then mU S else mZ S + v
abbrev inA (S : Mem) (i a : Nat) : Prop := mZ S ≤ a ∧ a < mZ S + i
def alM (S : Mem) (i : Nat) (W : List (Nat × Nat × Nat)) (WI : List (Nat × Nat × Int32)) (g : Nat → Int64) : Mem :=
  ((fun a => if inA S i a then aK (a - mZ S) else mK S a), (fun a => if inA S i a then aN (a - mZ S) else mN S a), (fun a k => if inA S i a then lkI WI (a - mZ S) k else mI S a k), (fun a k => if inA S i a then (if a - mZ S = 11 then g k else 0) else mJ S a k), (fun a k => if inA S i a then (lkR W (a - mZ S) k).map (rfA S) else mR S a k), mZ S + i, mU S, mQ S + totA i, mT S, mB S)
theorem al_0 {S : Mem} {W : List (Nat × Nat × Nat)} {WI : List (Nat × Nat × Int32)} {g : Nat → Int64} : alM S 0 W WI g = S := by
  have n : ∀ a, ¬ inA S 0 a := fun a q => by unfold inA at q; omega
  have e1 : (fun a => if inA S 0 a then aK (a - mZ S) else mK S a) = mK S := by funext a; exact if_neg (n a)
  have e2 : (fun a => if inA S 0 a then aN (a - mZ S) else mN S a) = mN S := by funext a; exact if_neg (n a)
  have e3 : (fun a k => if inA S 0 a then lkI WI (a - mZ S) k else mI S a k) = mI S := by funext a k; exact if_neg (n a)
  have e4 : (fun a k => if inA S 0 a then (if a - mZ S = 11 then g k else 0) else mJ S a k) = mJ S := by funext a k; exact if_neg (n a)
  have e5 : (fun a k => if inA S 0 a then (lkR W (a - mZ S) k).map (rfA S) else mR S a k) = mR S := by funext a k; exact if_neg (n a)
  unfold alM
  rw [e1, e2, e3, e4, e5]
  rfl
section
variable {S : Mem} {i : Nat} {W : List (Nat × Nat × Nat)} {WI : List (Nat × Nat × Int32)} {g : Nat → Int64}
theorem al_mK {j : Nat} (h : j < i) : mK (alM S i W WI g) (mZ S + j) = aK j := by
  show (if inA S i (mZ S + j) then aK (mZ S + j - mZ S) else mK S (mZ S + j)) = _
  rw [if_pos (by unfold inA; omega), Nat.add_sub_cancel_left]
theorem al_mN {j : Nat} (h : j < i) : mN (alM S i W WI g) (mZ S + j) = aN j := by
  show (if inA S i (mZ S + j) then aN (mZ S + j - mZ S) else mN S (mZ S + j)) = _
  rw [if_pos (by unfold inA; omega), Nat.add_sub_cancel_left]
theorem al_mR {j k : Nat} (h : j < i) : mR (alM S i W WI g) (mZ S + j) k = (lkR W j k).map (rfA S) := by
  show (if inA S i (mZ S + j) then (lkR W (mZ S + j - mZ S) k).map (rfA S) else mR S (mZ S + j) k) = _
  rw [if_pos (by unfold inA; omega), Nat.add_sub_cancel_left]
theorem al_mI {j k : Nat} (h : j < i) : mI (alM S i W WI g) (mZ S + j) k = lkI WI j k := by
  show (if inA S i (mZ S + j) then lkI WI (mZ S + j - mZ S) k else mI S (mZ S + j) k) = _
  rw [if_pos (by unfold inA; omega), Nat.add_sub_cancel_left]
theorem al_mJ {j k : Nat} (h : j < i) : mJ (alM S i W WI g) (mZ S + j) k = if j = 11 then g k else 0 := by
  show (if inA S i (mZ S + j) then (if mZ S + j - mZ S = 11 then g k else 0) else mJ S (mZ S + j) k) = _
  rw [if_pos (by unfold inA; omega), Nat.add_sub_cancel_left]
theorem al_lo {a : Nat} (h : a < mZ S) : mK (alM S i W WI g) a = mK S a ∧ mN (alM S i W WI g) a = mN S a ∧ mI (alM S i W WI g) a = mI S a ∧ mJ (alM S i W WI g) a = mJ S a ∧ mR (alM S i W WI g) a = mR S a := by
  have n : ¬ inA S i a := fun q => by unfold inA at q; omega
  exact ⟨if_neg n, if_neg n, funext fun k => if_neg n, funext fun k => if_neg n, funext fun k => if_neg n⟩
theorem al_new (h1 : noR W i = true) (h2 : noI WI i = true) (h3 : i ≠ 11 ∨ g = fun _ => 0) : pNew (alM S i W WI g) (aK i) (aN i) = alM S (i + 1) W WI g := by
  have cs : ∀ a, (inA S (i + 1) a ↔ a = mZ S + i ∨ inA S i a) ∧ (a = mZ S + i → a - mZ S = i) := fun a => by unfold inA; omega
  have e1 : u1 (mK (alM S i W WI g)) (mZ S + i) (aK i) = mK (alM S (i + 1) W WI g) := by
    funext a
    show (if a = mZ S + i then aK i else if inA S i a then aK (a - mZ S) else mK S a) = if inA S (i + 1) a then aK (a - mZ S) else mK S a
    by_cases h : a = mZ S + i
    · rw [if_pos h, if_pos ((cs a).1.mpr (Or.inl h)), (cs a).2 h]
    · rw [if_neg h]
      by_cases q : inA S i a
      · rw [if_pos q, if_pos ((cs a).1.mpr (Or.inr q))]
      · rw [if_neg q, if_neg (fun z => ((cs a).1.mp z).elim h q)]
  have e2 : u1 (mN (alM S i W WI g)) (mZ S + i) (aN i) = mN (alM S (i + 1) W WI g) := by
    funext a
    show (if a = mZ S + i then aN i else if inA S i a then aN (a - mZ S) else mN S a) = if inA S (i + 1) a then aN (a - mZ S) else mN S a
    by_cases h : a = mZ S + i
    · rw [if_pos h, if_pos ((cs a).1.mpr (Or.inl h)), (cs a).2 h]
    · rw [if_neg h]
      by_cases q : inA S i a
      · rw [if_pos q, if_pos ((cs a).1.mpr (Or.inr q))]
      · rw [if_neg q, if_neg (fun z => ((cs a).1.mp z).elim h q)]
  have e3 : u1 (mI (alM S i W WI g)) (mZ S + i) (fun _ => 0) = mI (alM S (i + 1) W WI g) := by
    funext a k
    show (if a = mZ S + i then (fun _ => (0 : Int32)) else fun k => if inA S i a then lkI WI (a - mZ S) k else mI S a k) k = if inA S (i + 1) a then lkI WI (a - mZ S) k else mI S a k
    by_cases h : a = mZ S + i
    · rw [if_pos h, if_pos ((cs a).1.mpr (Or.inl h)), (cs a).2 h, noI_lk h2]
    · rw [if_neg h]
      by_cases q : inA S i a
      · rw [if_pos ((cs a).1.mpr (Or.inr q))]; exact if_pos q
      · rw [if_neg (fun z => ((cs a).1.mp z).elim h q)]; exact if_neg q
  have e4 : u1 (mJ (alM S i W WI g)) (mZ S + i) (fun _ => 0) = mJ (alM S (i + 1) W WI g) := by
    funext a k
    show (if a = mZ S + i then (fun _ => (0 : Int64)) else fun k => if inA S i a then (if a - mZ S = 11 then g k else 0) else mJ S a k) k = if inA S (i + 1) a then (if a - mZ S = 11 then g k else 0) else mJ S a k
    by_cases h : a = mZ S + i
    · rw [if_pos h, if_pos ((cs a).1.mpr (Or.inl h)), (cs a).2 h]
      by_cases q : i = 11
      · rw [if_pos q]
        rcases h3 with z | z
        · exact absurd q z
        · rw [z]
      · rw [if_neg q]
    · rw [if_neg h]
      by_cases q : inA S i a
      · rw [if_pos ((cs a).1.mpr (Or.inr q))]; exact if_pos q
      · rw [if_neg (fun z => ((cs a).1.mp z).elim h q)]; exact if_neg q
  have e5 : u1 (mR (alM S i W WI g)) (mZ S + i) (fun _ => none) = mR (alM S (i + 1) W WI g) := by
    funext a k
    show (if a = mZ S + i then (fun _ => (none : Option Nat)) else fun k => if inA S i a then (lkR W (a - mZ S) k).map (rfA S) else mR S a k) k = if inA S (i + 1) a then (lkR W (a - mZ S) k).map (rfA S) else mR S a k
    by_cases h : a = mZ S + i
    · rw [if_pos h, if_pos ((cs a).1.mpr (Or.inl h)), (cs a).2 h, noR_lk h1]
      rfl
    · rw [if_neg h]
      by_cases q : inA S i a
      · rw [if_pos ((cs a).1.mpr (Or.inr q))]; exact if_pos q
      · rw [if_neg (fun z => ((cs a).1.mp z).elim h q)]; exact if_neg q
  show (u1 (mK (alM S i W WI g)) (mZ S + i) (aK i), u1 (mN (alM S i W WI g)) (mZ S + i) (aN i), u1 (mI (alM S i W WI g)) (mZ S + i) (fun _ => 0), u1 (mJ (alM S i W WI g)) (mZ S + i) (fun _ => 0), u1 (mR (alM S i W WI g)) (mZ S + i) (fun _ => none), mZ S + i + 1, mU S, mQ S + totA i + (if aK i < 9 then szOf (aK i) else aN i), mT S, mB S) = _
  rw [e1, e2, e3, e4, e5, Nat.add_assoc (mQ S)]
  rfl
theorem al_nO {α : Type} {kd : Nat} {K : Nat → Mem → Option α} (hk : aK i = kd) (hn : aN i = 0) (h1 : noR W i = true) (h2 : noI WI i = true) (h3 : (i == 11) = false) : bd (nO (alM S i W WI g) kd) K = K (mZ S + i) (alM S (i + 1) W WI g) := by
  have e := al_new (S := S) (g := g) h1 h2 (Or.inl (by simpa using h3))
  rw [hk, hn] at e
  unfold nO
  rw [bd_r]
  exact congrArg (K (mZ S + i)) e
theorem al_nA {α : Type} {kd : Nat} {x : Int32} {K : Nat → Mem → Option α} (hk : aK i = kd) (hx : x = nI (aN i)) (hm : aN i ≤ 8192) (h1 : noR W i = true) (h2 : noI WI i = true) (h3 : (i == 11) = false) : bd (nA (alM S i W WI g) kd x) K = K (mZ S + i) (alM S (i + 1) W WI g) := by
  unfold nA
  rw [hx, nI_clamp (by omega), if_pos ⟨nI_pos (by omega), hm⟩, bd_r, ← hk, al_new h1 h2 (Or.inl (by simpa using h3))]
  rfl
theorem al_nA11 {α : Type} {K : Nat → Mem → Option α} (h1 : noR W 11 = true) (h2 : noI WI 11 = true) : bd (nA (alM S 11 W WI (fun _ => 0)) 11 25) K = K (mZ S + 11) (alM S (11 + 1) W WI (fun _ => 0)) := by
  unfold nA
  rw [show (25 : Int32).toNatClampNeg = aN 11 by decide, if_pos ⟨by decide, by decide⟩, bd_r]
  have := al_new (S := S) (g := fun _ => 0) h1 h2 (Or.inr rfl)
  rw [show (11 : Nat) = aK 11 by decide] at this ⊢
  exact congrArg _ this
theorem al_pR {j k v a : Nat} (hj : j < i) (ha : a = rfA S v) : pR (alM S i W WI g) (mZ S + j) k (some a) = alM S i ((j, k, v) :: W) WI g := by
  have e5 : u2 (mR (alM S i W WI g)) (mZ S + j) k (some a) = mR (alM S i ((j, k, v) :: W) WI g) := by
    funext b l
    show (if b = mZ S + j ∧ l = k then some a else if inA S i b then (lkR W (b - mZ S) l).map (rfA S) else mR S b l) = if inA S i b then (if j = b - mZ S ∧ k = l then some v else lkR W (b - mZ S) l).map (rfA S) else mR S b l
    by_cases h : b = mZ S + j ∧ l = k
    · rw [if_pos h, if_pos (by unfold inA; omega), if_pos (by omega), ha]
      rfl
    · rw [if_neg h]
      by_cases q : inA S i b
      · rw [if_pos q, if_pos q, if_neg (by unfold inA at q; omega)]
      · rw [if_neg q, if_neg q]
  show ((alM S i W WI g).1, (alM S i W WI g).2.1, (alM S i W WI g).2.2.1, (alM S i W WI g).2.2.2.1, u2 (mR (alM S i W WI g)) (mZ S + j) k (some a), (alM S i W WI g).2.2.2.2.2) = _
  rw [e5]
  rfl
theorem al_sR {α : Type} {ci k j v : Nat} {K : Mem → Option α} (hj : j < i) (hk : aK j = ci) (hv : (v == 999) = false) : (sR (alM S i W WI g) ci k (mZ S + j) (mZ S + v)).bind K = K (alM S i ((j, k, v) :: W) WI g) := by
  rw [sR_k ((al_mK hj).trans hk), al_pR hj (show mZ S + v = rfA S v from (if_neg (by simpa using hv)).symm)]
theorem al_sRu {α : Type} {ci k j : Nat} {K : Mem → Option α} (hj : j < i) (hk : aK j = ci) : (sR (alM S i W WI g) ci k (mZ S + j) (mU (alM S i W WI g))).bind K = K (alM S i ((j, k, 999) :: W) WI g) := by
  rw [sR_k ((al_mK hj).trans hk), al_pR hj (show mU (alM S i W WI g) = rfA S 999 from (if_pos rfl).symm)]
theorem al_sI {α : Type} {ci k j : Nat} {v : Int32} {K : Mem → Option α} (hj : j < i) (hk : aK j = ci) : (sI (alM S i W WI g) ci k (mZ S + j) v).bind K = K (alM S i W ((j, k, v) :: WI) g) := by
  rw [sI_k ((al_mK hj).trans hk)]
  have e5 : u2 (mI (alM S i W WI g)) (mZ S + j) k v = mI (alM S i W ((j, k, v) :: WI) g) := by
    funext b l
    show (if b = mZ S + j ∧ l = k then v else if inA S i b then lkI WI (b - mZ S) l else mI S b l) = if inA S i b then (if j = b - mZ S ∧ k = l then v else lkI WI (b - mZ S) l) else mI S b l
    by_cases h : b = mZ S + j ∧ l = k
    · rw [if_pos h, if_pos (by unfold inA; omega), if_pos (by omega)]
    · rw [if_neg h]
      by_cases q : inA S i b
      · rw [if_pos q, if_pos q, if_neg (by unfold inA at q; omega)]
      · rw [if_neg q, if_neg q]
  show K ((alM S i W WI g).1, (alM S i W WI g).2.1, u2 (mI (alM S i W WI g)) (mZ S + j) k v, (alM S i W WI g).2.2.2) = _
  rw [e5]
  rfl
theorem al_gR {α : Type} {ci k j v : Nat} {K : Nat → Option α} (hj : j < i) (hk : aK j = ci) (hl : lkR W j k = some v) (hv : (v == 999) = false) : (gR (alM S i W WI g) ci k (mZ S + j)).bind K = K (mZ S + v) := by
  rw [gR_k ((al_mK hj).trans hk) ((al_mR hj).trans (by rw [hl]; rfl))]
  rw [show rfA S v = mZ S + v from if_neg (by simpa using hv)]
theorem al_sAR {α : Type} {ci j v n : Nat} {x : Int32} {K : Mem → Option α} (hx : x = nI n) (hj : j < i) (hk : aK j = 13) (hn : n < aN j) (hm : n < 100) (hv : v < i) (hkv : aK v = ci) (h9 : (v == 999) = false) : (sAR (alM S i W WI g) ci (mZ S + j) x (mZ S + v)).bind K = K (alM S i ((j, n, v) :: W) WI g) := by
  unfold sAR
  rw [hx, if_pos ⟨(al_mK hj).trans hk, ⟨nI_pos (by omega), by rw [nI_clamp (by omega), al_mN hj]; exact hn⟩, (al_mK hv).trans hkv⟩, Option.bind_some, nI_clamp (by omega), al_pR hj (show mZ S + v = rfA S v from (if_neg (by simpa using h9)).symm)]
end
