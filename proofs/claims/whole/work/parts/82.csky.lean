/-! a new sky -/
def stK (T : Mem) (b i : Nat) : Mem := pR (pNew T 10 6) b i (some (mZ T))
def NPk (S T : Mem) (b m : Nat) : Prop := mK T b = 5 ∧ mZ T = b + 1 + m ∧ mQ T = mQ S + 12 + 6 * m ∧ (mU T = mU S ∧ mT T = mT S ∧ mB T = mB S) ∧ (∀ a, a < b → mK T a = mK S a ∧ mN T a = mN S a ∧ mI T a = mI S a ∧ mJ T a = mJ S a ∧ mR T a = mR S a) ∧ (∀ i, i < m → mR T b (1 + i) = some (b + (1 + i)) ∧ mK T (b + (1 + i)) = 10 ∧ mN T (b + (1 + i)) = 6) ∧ ∀ j, j ≤ m → mI T (b + j) = fun _ => 0
theorem NPk_0 {S : Mem} : NPk S (pNew S 5 0) (mZ S) 0 := by
  refine ⟨if_pos rfl, rfl, rfl, ⟨rfl, rfl, rfl⟩, fun a ha => ?_, fun i hi => by omega, fun j hj => ?_⟩
  · have ne : a ≠ mZ S := by omega
    exact ⟨if_neg ne, if_neg ne, if_neg ne, if_neg ne, if_neg ne⟩
  · obtain rfl : j = 0 := by omega
    exact if_pos rfl
theorem NPk_s {S T : Mem} {b m : Nat} (h : NPk S T b m) : NPk S (stK T b (1 + m)) b (m + 1) := by
  obtain ⟨h1, h2, h3, h4, h5, h6, h7⟩ := h
  have nb : b ≠ mZ T := by omega
  refine ⟨(if_neg nb).trans h1, ?_, ?_, h4, fun a ha => ?_, fun i hi => ?_, fun j hj => ?_⟩
  · show mZ T + 1 = _
    omega
  · show mQ T + 6 = _
    omega
  · have ne : a ≠ mZ T := by omega
    have q := h5 a ha
    refine ⟨(if_neg ne).trans q.1, (if_neg ne).trans q.2.1, (if_neg ne).trans q.2.2.1, (if_neg ne).trans q.2.2.2.1, ?_⟩
    funext k
    show (if a = b ∧ k = 1 + m then some (mZ T) else (if a = mZ T then (fun _ => none) else mR T a) k) = _
    rw [if_neg (by omega), if_neg ne, q.2.2.2.2]
  · by_cases hm : i = m
    · subst hm
      have e : b + (1 + i) = mZ T := by omega
      refine ⟨(u2_eq ⟨rfl, rfl⟩).trans (by rw [e]), if_pos e, if_pos e⟩
    · have q := h6 i (by omega)
      have ne : b + (1 + i) ≠ mZ T := by omega
      refine ⟨?_, (if_neg ne).trans q.2.1, (if_neg ne).trans q.2.2⟩
      show (if b = b ∧ 1 + i = 1 + m then some (mZ T) else (if b = mZ T then (fun _ => none) else mR T b) (1 + i)) = _
      rw [if_neg (by omega), if_neg nb]
      exact q.1
  · by_cases hm : j = m + 1
    · exact if_pos (by omega)
    · exact (if_neg (by omega)).trans (h7 j (by omega))
theorem a_st {α : Type} {T : Mem} {C b i : Nat} {V : Vw} {U : Uw} {D : Dw} {K : Mem → Option α} (hC : C + 71 ≤ b) (hk : mK T b = 5) (hz : b < mZ T) : (bd (nA (wC T C V U D) 10 6) fun v S2 => (sR S2 5 i b v).bind K) = K (wC (stK T b i) C V U D) := by
  have e1 : nA (wC T C V U D) 10 6 = some (mZ T, wC (pNew T 10 6) C V U D) := by
    unfold nA
    rw [if_pos (by decide), wC_pNew (by unfold inR; omega)]
    rfl
  rw [e1, bd_r, sR_k (S := wC (pNew T 10 6) C V U D) (a := b) (ci := 5) ((if_neg (by omega)).trans hk), wC_pRo (by unfold inR; omega)]
  rfl
theorem a_sI {α : Type} {T : Mem} {C b k : Nat} {V : Vw} {U : Uw} {D : Dw} {v : Int32} {K : Mem → Option α} (hC : C + 71 ≤ b) (hk : mK T b = 5) : (sI (wC T C V U D) 5 k b v).bind K = K (wC (pI T b k v) C V U D) := by
  rw [sI_k (S := wC T C V U D) (a := b) (ci := 5) hk, wC_pIo (by unfold inR; omega)]
theorem a_sR {α : Type} {T : Mem} {C b k v : Nat} {V : Vw} {U : Uw} {D : Dw} {K : Mem → Option α} (hC : C + 71 ≤ b) (hk : mK T b = 5) : (sR (wC T C V U D) 5 k b v).bind K = K (wC (pR T b k (some v)) C V U D) := by
  rw [sR_k (S := wC T C V U D) (a := b) (ci := 5) hk, wC_pRo (by unfold inR; omega)]
theorem a_flds {T : Mem} {C b : Nat} {V : Vw} {U : Uw} {D : Dw} (hC : C + 71 ≤ b) (hk : mK T b = 5) : ((sI (wC T C V U D) 5 6 b (20 : Int32)).bind fun S16 =>
  (sI S16 5 7 b (2 : Int32)).bind fun S17 =>
  (sI S17 5 8 b (5 : Int32)).bind fun S18 =>
  (sI S18 5 9 b (0 : Int32)).bind fun S19 =>
  (sR S19 5 10 b (mU S19)).bind fun S20 =>
  (sR S20 5 11 b (mU S20)).bind fun S21 =>
  some ((), S21)) = some ((), wC (pR (pR (pI (pI (pI (pI T b 6 20) b 7 2) b 8 5) b 9 0) b 10 (some (mU T))) b 11 (some (mU T))) C V U D) := by
  rw [a_sI hC hk, a_sI (T := pI T b 6 20) hC hk, a_sI (T := pI (pI T b 6 20) b 7 2) hC hk, a_sI (T := pI (pI (pI T b 6 20) b 7 2) b 8 5) hC hk, a_sR (T := pI (pI (pI (pI T b 6 20) b 7 2) b 8 5) b 9 0) hC hk, a_sR (T := pR (pI (pI (pI (pI T b 6 20) b 7 2) b 8 5) b 9 0) b 10 _) hC hk]
  rfl
theorem c_newSky {F C : Nat} {S : Mem} {V : Vw} {U : Uw} {D : Dw} (hC : C + 71 ≤ mZ S) : ∃ T, (∀ K : Nat → Mem → Option (Int32 × Mem), (bd (nO (wC S C V U D) 5) fun v1 S2 => bd (fn_X5_init F v1 S2) fun _ S4 => K v1 S4) = K (mZ S) (wC T C V U D)) ∧
    xS (mZ S) S T ∧ mZ T = mZ S + 6 ∧ mQ T = mQ S + 42 ∧ shK T C (mZ S) ∧ (mI T (mZ S) 0 = 0 ∧ mI T (mZ S) 6 = 20 ∧ mI T (mZ S) 7 = 2 ∧ mI T (mZ S) 8 = 5 ∧ mI T (mZ S) 9 = 0) ∧ mR T (mZ S) 10 = some (mU S) ∧ mR T (mZ S) 11 = some (mU S) := by
  have n0 := NPk_0 (S := S)
  have n1 := NPk_s n0
  have n2 := NPk_s n1
  have n3 := NPk_s n2
  have n4 := NPk_s n3
  have n5 := NPk_s n4
  have e0 : nO (wC S C V U D) 5 = some (mZ S, wC (pNew S 5 0) C V U D) := by
    unfold nO
    rw [wC_pNew (by unfold inR; omega)]
    rfl
  refine ⟨pR (pR (pI (pI (pI (pI (stK (stK (stK (stK (stK (pNew S 5 0) (mZ S) (1 + 0)) (mZ S) (1 + (0 + 1))) (mZ S) (1 + (0 + 1 + 1))) (mZ S) (1 + (0 + 1 + 1 + 1))) (mZ S) (1 + (0 + 1 + 1 + 1 + 1))) (mZ S) 6 20) (mZ S) 7 2) (mZ S) 8 5) (mZ S) 9 0) (mZ S) 10 (some (mU S))) (mZ S) 11 (some (mU S)), fun K => ?_, ?_⟩
  · rw [e0, bd_r]
    have e9 : fn_X5_init F (mZ S) (wC (pNew S 5 0) C V U D) = some ((), wC (pR (pR (pI (pI (pI (pI (stK (stK (stK (stK (stK (pNew S 5 0) (mZ S) (1 + 0)) (mZ S) (1 + (0 + 1))) (mZ S) (1 + (0 + 1 + 1))) (mZ S) (1 + (0 + 1 + 1 + 1))) (mZ S) (1 + (0 + 1 + 1 + 1 + 1))) (mZ S) 6 20) (mZ S) 7 2) (mZ S) 8 5) (mZ S) 9 0) (mZ S) 10 (some (mU S))) (mZ S) 11 (some (mU S))) C V U D) := by
      unfold fn_X5_init
      rw [a_st (i := 1) hC n0.1 (by have := n0.2.1; omega), a_st (i := 2) hC n1.1 (by have := n1.2.1; omega), a_st (i := 3) hC n2.1 (by have := n2.2.1; omega), a_st (i := 4) hC n3.1 (by have := n3.2.1; omega), a_st (i := 5) hC n4.1 (by have := n4.2.1; omega)]
      exact a_flds hC n5.1
    rw [e9]
    rfl
  · generalize hT5 : stK (stK (stK (stK (stK (pNew S 5 0) (mZ S) (1 + 0)) (mZ S) (1 + (0 + 1))) (mZ S) (1 + (0 + 1 + 1))) (mZ S) (1 + (0 + 1 + 1 + 1))) (mZ S) (1 + (0 + 1 + 1 + 1 + 1)) = T at n5
    obtain ⟨h1, h2, h3, h4, h5, h6, h7⟩ := n5
    have i0 : ∀ k, mI T (mZ S) k = 0 := fun k => congrFun (h7 0 (by omega)) k
    refine ⟨⟨fun a ha => ?_, h4, ?_, ?_⟩, ?_, ?_, ⟨h1, fun i hi => ?_, fun i hi => by unfold inR; omega⟩, ⟨?_, ?_, ?_, ?_, ?_⟩, ?_, ?_⟩
    · have q := h5 a ha
      have ne : ∀ (f : Nat → Nat → Int32) (k : Nat) (v : Int32), u2 f (mZ S) k v a = f a := fun f k v => u2_row (by omega)
      refine ⟨q.1, q.2.1, ?_, q.2.2.2.1, fun k _ => ?_⟩
      · show u2 (u2 (u2 (u2 (mI T) (mZ S) 6 20) (mZ S) 7 2) (mZ S) 8 5) (mZ S) 9 0 a = _
        rw [ne, ne, ne, ne]
        exact q.2.2.1
      · show u2 (u2 (mR T) (mZ S) 10 (some (mU S))) (mZ S) 11 (some (mU S)) a k = _
        rw [u2_ne (by omega), u2_ne (by omega), q.2.2.2.2]
    · show mZ S ≤ mZ T
      omega
    · show mQ S ≤ mQ T
      omega
    · show mZ T = _
      omega
    · show mQ T = _
      omega
    · have q := h6 i (by omega)
      refine ⟨?_, q.2⟩
      show u2 (u2 (mR T) (mZ S) 10 (some (mU S))) (mZ S) 11 (some (mU S)) (mZ S) (1 + i) = _
      rw [u2_ne (by omega), u2_ne (by omega)]
      exact q.1
    · show u2 (u2 (u2 (u2 (mI T) (mZ S) 6 20) (mZ S) 7 2) (mZ S) 8 5) (mZ S) 9 0 (mZ S) 0 = _
      rw [u2_ne (by omega), u2_ne (by omega), u2_ne (by omega), u2_ne (by omega)]
      exact i0 0
    · show u2 (u2 (u2 (u2 (mI T) (mZ S) 6 20) (mZ S) 7 2) (mZ S) 8 5) (mZ S) 9 0 (mZ S) 6 = _
      rw [u2_ne (by omega), u2_ne (by omega), u2_ne (by omega), u2_eq ⟨rfl, rfl⟩]
    · show u2 (u2 (u2 (u2 (mI T) (mZ S) 6 20) (mZ S) 7 2) (mZ S) 8 5) (mZ S) 9 0 (mZ S) 7 = _
      rw [u2_ne (by omega), u2_ne (by omega), u2_eq ⟨rfl, rfl⟩]
    · show u2 (u2 (u2 (u2 (mI T) (mZ S) 6 20) (mZ S) 7 2) (mZ S) 8 5) (mZ S) 9 0 (mZ S) 8 = _
      rw [u2_ne (by omega), u2_eq ⟨rfl, rfl⟩]
    · exact u2_eq ⟨rfl, rfl⟩
    · show u2 (u2 (mR T) (mZ S) 10 (some (mU S))) (mZ S) 11 (some (mU S)) (mZ S) 10 = _
      rw [u2_ne (by omega), u2_eq ⟨rfl, rfl⟩]
    · exact u2_eq ⟨rfl, rfl⟩
/-! a night begins -/
theorem uR_self {V : Vw} {j : Nat} : uR V j (V j) = V := by
  funext a
  unfold uR
  by_cases h : a = j
  · rw [if_pos h, h]
  · rw [if_neg h]
theorem uR_u2 {V : Vw} {j k : Nat} {v : Int32} {r : Nat → Int32} : uR (u2 V j k v) j r = uR V j r := by
  funext a
  unfold uR
  by_cases h : a = j
  · rw [if_pos h, if_pos h]
  · rw [if_neg h, if_neg h, u2_row h]
theorem nt_row {S : Mem} {C o i : Nat} (h : shC S C) (ho : isN o) (hi : i = 1 ∨ i = 2 ∨ i = 3) : mK S (C + (o + i)) = 10 ∧ mN S (C + (o + i)) = 6 := by
  have q := h.2.2.2.2.2.2.2.2.2.2.2.2.2.2.2.2.2.2.2.2.2.2.2.2.2.2.2.2.2.2.2.2.2.2.2.2.2.2.2.2.2.2.2.2.1 o ho
  rcases hi with rfl | rfl | rfl
  · exact q.2.1.2
  · exact q.2.2.1.2
  · exact q.2.2.2.1.2
theorem c_fill {v : Int32} {o i : Nat} {F C : Nat} {T : Mem} {U : Uw} {D : Dw} (h : shC T C) (ho : isN o) (hi : i = 2 ∨ i = 3) : ∀ (d k fu : Nat) (V : Vw), k + d = 6 → d < fu → ∃ r, fix4 (b_J7_fill_53178_5 F) fu (C + (o + i)) v (nI k) (nI 6) (wC T C V U D) = some ((), wC T C (uR V (o + i) r) U D) ∧ (∀ j, k ≤ j → j < 6 → r j = v) ∧ ∀ j, j < k → r j = V (o + i) j := by
  have q := nt_row (i := i) h ho (by omega)
  have hj : o + i = 0 ∨ (7 ≤ o + i ∧ o + i < 71) := by unfold isN at ho; omega
  intro d
  induction d with
  | zero =>
    intro k fu V hk hf
    obtain ⟨fu, rfl⟩ : ∃ f', fu = f' + 1 := ⟨fu - 1, by omega⟩
    obtain rfl : k = 6 := by omega
    refine ⟨V (o + i), ?_, fun j h1 h2 => by omega, fun _ _ => rfl⟩
    rw [uR_self]
    rfl
  | succ d ih =>
    intro k fu V hk hf
    obtain ⟨fu, rfl⟩ : ∃ f', fu = f' + 1 := ⟨fu - 1, by omega⟩
    obtain ⟨r, e1, e2, e3⟩ := ih (k + 1) fu (u2 V (o + i) k v) (by omega) (by omega)
    have e9 : nI k + (1 : Int32) = nI (k + 1) := nI_1 k
    refine ⟨r, ?_, fun j h1 h2 => ?_, fun j hj => ?_⟩
    · show b_J7_fill_53178_5 F (fix4 (b_J7_fill_53178_5 F) fu) (C + (o + i)) v (nI k) (nI 6) (wC T C V U D) = _
      generalize fix4 (b_J7_fill_53178_5 F) fu = k5 at e1 ⊢
      unfold b_J7_fill_53178_5
      rw [if_neg (nI_ge (by omega) (by omega) : ¬ nI 6 ≤ nI k), sA_k (S := wC T C V U D) q.1 q.2 (inB_n (by omega) (by decide)), nI_clamp (by omega), wC_pI hj, e9, e1, uR_u2]
    · by_cases hjk : j = k
      · rw [e3 j (by omega), hjk, u2_eq ⟨rfl, rfl⟩]
      · exact e2 j (by omega) h2
    · rw [e3 j (by omega), u2_ne (by omega)]
theorem c_fillW {v : Int32} {o i : Nat} {F C : Nat} {T : Mem} {V : Vw} {U : Uw} {D : Dw} (h : shC T C) (hF : 10000 < F) (ho : isN o) (hi : i = 2 ∨ i = 3) : ∃ r, fn_J7_fill_53178 F (C + (o + i)) v (wC T C V U D) = some ((), wC T C (uR V (o + i) r) U D) ∧ ∀ j, j < 6 → r j = v := by
  have q := nt_row (i := i) h ho (by omega)
  obtain ⟨r, e1, e2, -⟩ := c_fill (F := F) (v := v) (U := U) (D := D) h ho hi 6 0 F V (by omega) (by omega)
  refine ⟨r, ?_, fun j hj => e2 j (by omega) hj⟩
  unfold fn_J7_fill_53178
  rw [gLen_k (S := wC T C V U D) q.1 (by decide) (by decide) q.2]
  exact e1
theorem acp_K {α : Type} {S : Mem} {C b o : Nat} {W V : Vw} {U : Uw} {D : Dw} {K : Mem → Option α} (h : shC S C) (hK : shK S C b) (ho : isN o) : (acp (wC (wK S b W) C V U D) (b + 5) 0 (C + (o + 1)) 0 6).bind K = K (wC (wK S b W) C (uR V (o + 1) (va_cpy (W 5) (V (o + 1)) 0 0 6)) U D) := by
  have q := nt_row (i := 1) h ho (by omega)
  have q5 := hK.2.1 4 (by omega)
  have hj : o + 1 = 0 ∨ (7 ≤ o + 1 ∧ o + 1 < 71) := by unfold isN at ho; omega
  have e0 : (0 : Int32).toNatClampNeg = 0 := by decide
  have e6 : (6 : Int32).toNatClampNeg = 6 := by decide
  unfold acp
  rw [e0, e6, if_pos ⟨⟨q5.2.1, q.1⟩, ⟨by decide, by decide, by decide⟩, by show 0 + 6 ≤ mN S (b + 5); rw [show mN S (b + 5) = 6 from q5.2.2]; omega, by show 0 + 6 ≤ mN S _; rw [q.2]; omega⟩, Option.bind_some, wC_pA hj]
  congr 4
  · funext k
    exact (congrFun (wC_out (hK.2.2 5 (by omega))) k).trans (wK_mI (i := 5) (by omega))
  · funext k; exact wC_mI hj
theorem c_begin {X : Tp} {o b : Nat} {s : SkR} {W : Vw} {F C : Nat} {S : Mem} {V : Vw} {U : Uw} {D : Dw} (h : shC S C) (hF : 10000 < F) (hK : shK S C b) (ho : isN o) (hG : cG X s W U) (hw : wfZ X s) :
    ∃ V', fn_X2_begin F (C + o) b (wC (wK S b W) C V U D) = some ((), wC (wK S b W) C V' U (u2 D o 0 b)) ∧ (∀ j, j < o ∨ o + 6 < j → V' j = V j) ∧ cNt V' o (skK s) (skS s) := by
  have hh : shC (wK S b W) C := h
  have hn6 := hw.1
  obtain ⟨r1, f1, f2⟩ := c_fillW (F := F) (v := -1) (i := 2) (V := uR (u2 (u2 (u2 V o 1 0) o 2 0) o 3 0) (o + 1) (va_cpy (W 5) (u2 (u2 (u2 V o 1 0) o 2 0) o 3 0 (o + 1)) 0 0 6)) (U := U) (D := u2 D o 0 b) hh hF ho (by omega)
  obtain ⟨r2, g1, g2⟩ := c_fillW (F := F) (v := 0) (i := 3) (V := uR (uR (u2 (u2 (u2 V o 1 0) o 2 0) o 3 0) (o + 1) (va_cpy (W 5) (u2 (u2 (u2 V o 1 0) o 2 0) o 3 0 (o + 1)) 0 0 6)) (o + 2) r1) (U := U) (D := u2 D o 0 b) hh hF ho (by omega)
  refine ⟨uR (uR (uR (u2 (u2 (u2 V o 1 0) o 2 0) o 3 0) (o + 1) (va_cpy (W 5) (u2 (u2 (u2 V o 1 0) o 2 0) o 3 0 (o + 1)) 0 0 6)) (o + 2) r1) (o + 3) r2, ?_, fun j hj => ?_, ?_⟩
  · unfold fn_X2_begin
    simp (disch := omega) only [↓eN hh ho, k_gR hK, acp_K h hK ho, f1, g1, ↓bd_r]
  · rw [uR_ne (by omega), uR_ne (by omega), uR_ne (by omega), u2_row (by omega), u2_row (by omega), u2_row (by omega)]
  · have z : ∀ j, 6 ≤ j → skS s j = 0 := fun j hj => if_neg (by omega)
    refine ⟨?_, ?_, ?_, fun k hk => ⟨?_, ?_, ?_⟩, fun i hi => ?_⟩
    · rw [z 19 (by omega), uR_ne (by omega), uR_ne (by omega), uR_ne (by omega), u2_ne (by omega), u2_ne (by omega), u2_eq ⟨rfl, rfl⟩]; rfl
    · rw [z 18 (by omega), uR_ne (by omega), uR_ne (by omega), uR_ne (by omega), u2_ne (by omega), u2_eq ⟨rfl, rfl⟩]; rfl
    · rw [z 20 (by omega), uR_ne (by omega), uR_ne (by omega), uR_ne (by omega), u2_eq ⟨rfl, rfl⟩]; rfl
    · have hk : k < zN s := hk
      rw [uR_ne (by omega), uR_ne (by omega), uR_eq, pk_cpy_in (by omega) (by omega), show skS s k = zF s 5 k from if_pos hk, show 0 + (k - 0) = k by omega]
      exact (hG.2.2 k hk).1 5 (by omega) (by omega)
    · have hk : k < zN s := hk
      rw [uR_ne (by omega), uR_eq, f2 k (by omega), z (6 + k) (by omega)]
      rfl
    · have hk : k < zN s := hk
      rw [uR_eq, g2 k (by omega), z (12 + k) (by omega)]
      rfl
    · rw [z 20 (by omega)] at hi
      omega
/-! the call -/
theorem wK_self {S : Mem} {b : Nat} : wK S b (fun j k => mI S (b + j) k) = S := by
  have h1 : (fun a k => if b ≤ a ∧ a < b + 6 then mI S (b + (a - b)) k else mI S a k) = mI S := by
    funext a k
    by_cases h : b ≤ a ∧ a < b + 6
    · rw [if_pos h, show b + (a - b) = a by omega]
    · rw [if_neg h]
  show (S.1, S.2.1, (fun a k => if b ≤ a ∧ a < b + 6 then mI S (b + (a - b)) k else mI S a k), S.2.2.2) = S
  rw [h1]
  rfl
theorem cLaw.wk {S : Mem} {C b w : Nat} {W : Vw} {f : Option ((Nat → Int32) → Int32)} (h : cLaw S C w f) (hw : ¬ (b ≤ w ∧ w < b + 6)) : cLaw (wK S b W) C w f := by
  have e : mI (wK S b W) w = mI S w := by funext k; exact wK_mIo hw
  cases f with
  | none => exact h
  | some f =>
    obtain ⟨x1, x2, x3, x4, x5⟩ := h
    exact ⟨x1, x2, x3, x4, by rw [e]; exact x5⟩
def bgU (S : Mem) : Prop := (9 ≤ mK S (mU S) ∧ mK S (mU S) < 15) ∧ mN S (mU S) = 0 ∧ mU S < mZ S
theorem cb_sky {X : Tp} {F C : Nat} {S : Mem} {V : Vw} {U : Uw} {D : Dw} (h : shC S C) (hF : 10000 < F) (hX : okTp X) (hT : cTp V X) (hwd : wds U) (hC : C + 71 ≤ mZ S) (hU : bgU S) :
    ∃ S' V' U' D', fn_X8_sky F C (wC S C V U D) = some (nI (skF (pSky X 1001 0 sk0)), wC S' C V' U' D') ∧ xS (mZ S) S S' ∧ mZ S' ≤ mZ S + 8 ∧ mQ S' ≤ mQ S + 2042 ∧ shC S' C ∧ V' 0 1 = 0 ∧ (∀ k, k ≠ 1 → V' 0 k = V 0 k) ∧ (∀ j, j = 7 ∨ 34 < j → V' j = V j) ∧ uG U U' ∧ (∀ o, isN o → o ≠ 28 → D' o 0 = D o 0) ∧ match pSky X 1001 0 sk0 with
      | .inl k => (0 < k ∧ k < 20000) ∧ (∀ j, 28 ≤ j → V' j = V j) ∧ D' 28 0 = D 28 0
      | .inr s => wfZ X s ∧ D' 28 0 = mZ S ∧ cSky S' C (mZ S) (skK s) ∧ cNt V' 28 (skK s) (skS s) ∧ mZ S + 6 ≤ mZ S' ∧ ∀ k w, k = 10 ∨ k = 11 → mR S' (mZ S) k = some w → w < mZ S' ∧ (w = mU S ∨ mZ S + 6 ≤ w) := by
  obtain ⟨T, t1, t2, t3, t4, t5, t6, t7, t8⟩ := c_newSky (F := F) (V := V) (U := U) (D := D) hC
  have hT' : shC T C := h.xs t2 hC hC
  have eU : mU T = mU S := t2.2.1.1
  have clw : cLaw T C (mU S) none := by
    have q := t2.1 (mU S) hU.2.2
    exact ⟨by rw [q.1]; exact hU.1, by rw [q.2.1]; exact hU.2.1⟩
  have hI : skI X sk0 T C (mZ S) (fun j k => mI T (mZ S + j) k) (u2 V 8 4 0) U (mQ S + 42) := ⟨⟨t6.1, t6.2, fun k hk => absurd hk (by show ¬ k < 0; omega)⟩, u2_eq ⟨rfl, rfl⟩, t3, by rw [t4]; exact Nat.le_add_right _ _, ⟨mU S, t7, by have := hU.2.2; omega, clw⟩, ⟨mU S, t8, by have := hU.2.2; omega, clw⟩, hT', t5⟩
  obtain ⟨S', W', V', U', a1, a2, a3, a4, a5, a6, a7, a8, a9⟩ := c_read (F := F) (V := V) (U := U) (D := D) hT' hF hX hC hT.2 hwd hI
  rw [wK_self] at a1
  have e0 : mZ S + 6 ≤ mZ S' := by have := a2.2.2.1; omega
  have hxs : xS (mZ S) S (wK S' (mZ S) W') := by
    have q := t2.tr a2
    refine ⟨fun a ha => ?_, q.2.1, q.2.2.1, q.2.2.2⟩
    have z := q.1 a ha
    refine ⟨z.1, z.2.1, ?_, z.2.2.2.1, z.2.2.2.2⟩
    rw [← z.2.2.1]
    funext k
    exact wK_mIo (by omega)
  have eU' : mU S' = mU S := (a2.2.1.1).trans eU
  have ltU := hU.2.2
  have k7 : V' 7 = V 7 := a5 7 (by omega) (by omega) (by omega)
  have c9 : fn_X8_sky F C (wC S C V U D) = if nI (skF (pSky X 1001 0 sk0)) = 0 then bd (fn_X2_begin F (C + 28) (mZ S) (wC (wK S' (mZ S) W') C (u2 V' 0 1 0) U' (u2 (u2 D 8 7 (mZ S)) 9 0 (C + 7)))) (fun _ S13 => some (nI (skF (pSky X 1001 0 sk0)), S13)) else some (nI (skF (pSky X 1001 0 sk0)), wC (wK S' (mZ S) W') C (u2 V' 0 1 0) U' (u2 (u2 D 8 7 (mZ S)) 9 0 (C + 7))) := by
    have hh : shC (wK S' (mZ S) W') C := a7.1
    have hN := eN hh isN28
    unfold fn_X8_sky
    rw [t1]
    simp only [↓eC hT', hT.1, a1, ↓bd_r]
    simp only [↓eC hh, ↓hN, ↓bd_r]
    unfold f_X8_sky_42
    by_cases hc : nI (skF (pSky X 1001 0 sk0)) = 0
    · rw [if_pos hc]
    · rw [if_neg hc]
  have b0 : ∀ j, j ≠ 0 → u2 V' 0 1 0 j = V' j := fun j hj => u2_row hj
  have v0 : ∀ k, k ≠ 1 → u2 V' 0 1 0 0 k = V 0 k := fun k hk => by rw [u2_ne (by omega), a5 0 (by omega) (by omega) (by omega)]
  have d0 : ∀ o, isN o → u2 (u2 D 8 7 (mZ S)) 9 0 (C + 7) o 0 = D o 0 := fun o ho => by rw [u2_ne (by unfold isN at ho; omega), u2_ne (by unfold isN at ho; omega)]
  rw [c9]
  cases hs : pSky X 1001 0 sk0 with
  | inl k =>
    have hk := a8 k hs
    rw [if_neg (show ¬ nI (skF (.inl k)) = 0 from fun q => by have : k = 0 := (nI_eq (b := 0) (by omega) (by omega)).mp q; omega)]
    exact ⟨_, _, _, _, rfl, hxs, a3, a4, a7.1, u2_eq ⟨rfl, rfl⟩, v0, fun j hj => by rw [b0 j (by omega), a5 j (by omega) (by omega) (by omega)], a6, fun o ho _ => d0 o ho, hk, fun j hj => by rw [b0 j (by omega), a5 j (by omega) (by omega) (by omega)], d0 28 isN28⟩
  | inr s =>
    obtain ⟨hI', hw⟩ := a9 s hs
    obtain ⟨V2, g1, g2, g3⟩ := c_begin (F := F) (o := 28) (V := u2 V' 0 1 0) (D := u2 (u2 D 8 7 (mZ S)) 9 0 (C + 7)) a7.1 hF a7.2 isN28 hI'.1 hw
    rw [if_pos (show nI (skF (.inr s)) = 0 from rfl), g1]
    refine ⟨_, V2, U', _, rfl, hxs, a3, a4, a7.1, by rw [g2 0 (by omega)]; exact u2_eq ⟨rfl, rfl⟩, fun k hk => by rw [g2 0 (by omega)]; exact v0 k hk, fun j hj => by rw [g2 j (by omega), b0 j (by omega), a5 j (by omega) (by omega) (by omega)], a6, fun o ho hne => by rw [u2_ne (by omega)]; exact d0 o ho, hw, u2_eq ⟨rfl, rfl⟩, ⟨a7.2, ?_, fun k hk => ?_, ?_, ?_⟩, g3, e0, fun k w hk hkw => ?_⟩
    · have z : ∀ k, mI (wK S' (mZ S) W') (mZ S) k = W' 0 k := fun k => wK_mI (i := 0) (by omega)
      rw [z, z, z, z, z]
      exact ⟨hI'.1.1, hI'.1.2.1⟩
    · have z : ∀ i k, i < 6 → mI (wK S' (mZ S) W') (mZ S + i) k = W' i k := fun i k hi => wK_mI hi
      have q := (hI'.1.2.2 k hk).1
      rw [z 1 k (by omega), z 2 k (by omega), z 3 k (by omega), z 4 k (by omega)]
      exact ⟨q 1 (by omega) (by omega), q 2 (by omega) (by omega), q 3 (by omega) (by omega), q 4 (by omega) (by omega)⟩
    · obtain ⟨w, w1, w2, w3⟩ := hI'.2.2.2.2.1
      rw [sk_wlC]
      exact ⟨w, w1, w3.wk (by omega)⟩
    · obtain ⟨w, w1, w2, w3⟩ := hI'.2.2.2.2.2.1
      rw [sk_rlC]
      exact ⟨w, w1, w3.wk (by omega)⟩
    · obtain ⟨w1, x1, x2, -⟩ := hI'.2.2.2.2.1
      obtain ⟨w2, y1, y2, -⟩ := hI'.2.2.2.2.2.1
      have hkw : mR S' (mZ S) k = some w := hkw
      rcases hk with rfl | rfl
      · rw [x1] at hkw
        cases hkw
        rw [eU'] at x2
        exact x2
      · rw [y1] at hkw
        cases hkw
        rw [eU'] at y2
        exact y2
