/-! longs that are not below 0 -/
theorem lN_ti {n : Nat} (h : n < 2 ^ 63) : (lN n).toInt = (n : Int) := lg_ofNat_toInt h
theorem lN_lt2 {a b : Nat} (ha : a < 2 ^ 63) (hb : b < 2 ^ 63) : lN a < lN b ↔ a < b := by rw [Int64.lt_iff_toInt_lt, lN_ti ha, lN_ti hb]; omega
theorem lN_le2 {a b : Nat} (ha : a < 2 ^ 63) (hb : b < 2 ^ 63) : lN a ≤ lN b ↔ a ≤ b := by rw [Int64.le_iff_toInt_le, lN_ti ha, lN_ti hb]; omega
theorem lN_eq2 {a b : Nat} (ha : a < 2 ^ 63) (hb : b < 2 ^ 63) : lN a = lN b ↔ a = b := by rw [← Int64.toInt_inj, lN_ti ha, lN_ti hb]; omega
theorem nL_lN {n : Nat} (h : n < 2 ^ 64) : nL (lN n) = n := by
  show (BitVec.ofNat 64 n).toNat = n
  rw [BitVec.toNat_ofNat, Nat.mod_eq_of_lt h]
theorem lN_of {x : Int64} {n : Nat} (h : nL x = n) : x = lN n := by
  apply Int64.toBitVec_inj.mp
  apply BitVec.eq_of_toNat_eq
  show nL x = (BitVec.ofNat 64 n).toNat
  rw [BitVec.toNat_ofNat, Nat.mod_eq_of_lt (by rw [← h]; exact nL_lt x), h]
theorem lN_shl {a k : Nat} (s : Int64) (hs : (s.toBitVec.smod 64).toNat = k) (h : a * 2 ^ k < 2 ^ 64) : lN a <<< s = lN (a * 2 ^ k) := by
  have ha : a < 2 ^ 64 := Nat.lt_of_le_of_lt (Nat.le_mul_of_pos_right a (Nat.two_pow_pos k)) h
  apply lN_of
  show ((lN a).toBitVec <<< (s.toBitVec.smod 64).toNat).toNat = _
  rw [hs, BitVec.toNat_shiftLeft, Nat.shiftLeft_eq]
  show nL (lN a) * 2 ^ k % 2 ^ 64 = _
  rw [nL_lN ha, Nat.mod_eq_of_lt h]
theorem lN_shr {a k : Nat} (ha : a < 2 ^ 63) (s : Int64) (hs : (s.toBitVec.smod 64).toNat = k) : lN a >>> s = lN (a / 2 ^ k) := by
  have h2 : a / 2 ^ k ≤ a := Nat.div_le_self _ _
  apply Int64.toInt_inj.mp
  rw [lN_ti (show a / 2 ^ k < 2 ^ 63 by omega)]
  show ((lN a).toBitVec.sshiftRight (s.toBitVec.smod 64).toNat).toInt = _
  rw [hs, BitVec.toInt_sshiftRight]
  show (lN a).toInt >>> k = _
  rw [lN_ti ha, Int.shiftRight_eq_div_pow]
  rfl
theorem lN_and {a k : Nat} (ha : a < 2 ^ 64) {m : Int64} (hm : nL m = 2 ^ k - 1) : lN a &&& m = lN (a % 2 ^ k) := by
  apply lN_of
  rw [nL_and, nL_lN ha, hm, Nat.and_two_pow_sub_one_eq_mod]
theorem lN_or {a y : Nat} (ha : a * 64 + y < 2 ^ 64) (hy : y < 64) : lN (a * 64) ||| lN y = lN (a * 64 + y) := by
  apply lN_of
  show ((lN (a * 64)).toBitVec ||| (lN y).toBitVec).toNat = _
  rw [BitVec.toNat_or]
  show nL (lN (a * 64)) ||| nL (lN y) = _
  rw [nL_lN (by omega), nL_lN (by omega)]
  have := Nat.shiftLeft_add_eq_or_of_lt (i := 6) (show y < 2 ^ 6 by omega) a
  rw [Nat.shiftLeft_eq] at this
  exact this.symm
theorem sh6 : ((((6 : Int32)).toInt64 &&& 63).toBitVec.smod 64).toNat = 6 := by decide
theorem sh36 : ((((36 : Int32)).toInt64 &&& 63).toBitVec.smod 64).toNat = 36 := by decide
theorem sh39 : ((((39 : Int32)).toInt64 &&& 63).toBitVec.smod 64).toNat = 39 := by decide
/-! ints by their numbers -/
theorem ti_sub {x y : Int32} (h1 : -1000000 ≤ x.toInt ∧ x.toInt ≤ 1000000) (h2 : -1000000 ≤ y.toInt ∧ y.toInt ≤ 1000000) : (x - y).toInt = x.toInt - y.toInt := by
  rw [Int32.toInt_sub]
  exact Int.bmod_eq_of_le (by omega) (by omega)
theorem ti_mx {x y : Int32} : (mxI x y).toInt = max x.toInt y.toInt := by
  unfold mxI
  by_cases h : x < y
  · rw [if_pos h]
    have := Int32.lt_iff_toInt_lt.mp h
    omega
  · rw [if_neg h]
    have := mt Int32.lt_iff_toInt_lt.mpr h
    omega
theorem hop_mx {q a R n : Nat} (hq : q ≤ 1000) (ha : a ≤ 1000) (hR : R ≤ 1000) (hn : n ≤ 1000) : mxI 0 (mxI (nI q - nI a) ((nI R - nI n) - nI q)) = nI (max (q - a) (R - n - q)) := by
  apply Int32.toInt_inj.mp
  have e0 : (0 : Int32).toInt = 0 := by decide
  have e1 : (nI q - nI a).toInt = (q : Int) - a := by rw [ti_sub (by rw [nI_toInt (by omega)]; omega) (by rw [nI_toInt (by omega)]; omega), nI_toInt (by omega), nI_toInt (by omega)]
  have e2 : (nI R - nI n).toInt = (R : Int) - n := by rw [ti_sub (by rw [nI_toInt (by omega)]; omega) (by rw [nI_toInt (by omega)]; omega), nI_toInt (by omega), nI_toInt (by omega)]
  have e3 : ((nI R - nI n) - nI q).toInt = (R : Int) - n - q := by rw [ti_sub (by rw [e2]; omega) (by rw [nI_toInt (by omega)]; omega), e2, nI_toInt (by omega)]
  rw [ti_mx, ti_mx, e0, e1, e3, nI_toInt (by omega)]
  omega
/-! the class's search -/
def pT (K : SkyT) (l : Nat) (w : Nat → Nat) (k x : Nat) : Int32 := if lo l k = true then 0 else if flyN K w (fun _ => x) k = true then nI (pulN K w (fun _ => x) k) else -1
theorem pT_mx {K : SkyT} {l k x : Nat} {w : Nat → Nat} (hw9 : wfK K) (hw : ∀ i, w i ≤ 99) (hk : k < kN K) : mxI 0 (pT K l w k x) = nI (pAt K l w k x) ∧ pAt K l w k x ≤ 396 := by
  have h1 := plN_le (l := l) (len := fun _ => x) hw9 hw hk
  refine ⟨?_, h1⟩
  unfold pT pAt plN
  unfold plN at h1
  cases hl : lo l k with
  | true => rfl
  | false =>
    rw [hl] at h1
    have h1 : pulN K w (fun _ => x) k ≤ 396 := h1
    show mxI 0 (if flyN K w (fun _ => x) k = true then nI (pulN K w (fun _ => x) k) else -1) = nI (pulN K w (fun _ => x) k)
    cases hf : flyN K w (fun _ => x) k with
    | true =>
      rw [if_pos rfl]
      exact mx_nI (a := 0) (by decide) (by omega) |>.trans (by rw [Nat.max_eq_right (Nat.zero_le _)])
    | false =>
      unfold pulN
      rw [hf]
      rfl
theorem pT_slk {K : SkyT} {l k x : Nat} {w : Nat → Nat} (hw9 : wfK K) (hw : ∀ i, w i ≤ 99) (hk : k < kN K) : (pT K l w k x = -1 ↔ slkN K l w (fun _ => x) k = 1) ∧ (¬ pT K l w k x = -1 → slkN K l w (fun _ => x) k = 0) := by
  have h1 := plN_le (l := l) (len := fun _ => x) hw9 hw hk
  unfold pT slkN
  unfold plN at h1
  cases hl : lo l k with
  | true => exact ⟨⟨fun q => absurd q (show ¬ (0 : Int32) = -1 by decide), fun q => absurd q (show ¬ 0 = 1 by decide)⟩, fun _ => rfl⟩
  | false =>
    rw [hl] at h1
    have h1 : pulN K w (fun _ => x) k ≤ 396 := h1
    cases hf : flyN K w (fun _ => x) k with
    | true =>
      have hne : ¬ nI (pulN K w (fun _ => x) k) = -1 := fun z => by
        have := nI_pos (n := pulN K w (fun _ => x) k) (by omega)
        rw [z] at this
        exact this (by decide)
      exact ⟨⟨fun q => absurd q hne, fun q => absurd q (show ¬ 0 = 1 by decide)⟩, fun _ => rfl⟩
    | false => exact ⟨⟨fun _ => rfl, fun _ => rfl⟩, fun q => absurd rfl q⟩
def srC (K : SkyT) (l : Nat) (w s : Nat → Nat) (e p q : Nat) (ba : Bool) (b C : Nat) (V : Vw) (D : Dw) : Prop :=
  (V 20 7 = nI (kN K) ∧ V 20 8 = nI (kW K) ∧ V 20 9 = nI p ∧ V 20 10 = nI q ∧ V 20 11 = nI (gapN K w p) ∧ V 20 12 = b1 ba) ∧ (∀ i, i < 41 → V 21 i = nI (w i)) ∧ (∀ k, k < kN K → V 23 k = nI (lowK l s e k) ∧ V 24 k = nI (topK l s e k) ∧ V 29 k = nI (s k) ∧ ∀ x, lowK l s e k ≤ x → x ≤ topK l s e k → V 22 (41 * k + x) = pT K l w k x) ∧ D 20 5 = C + 29 ∧ D 20 6 = b + 2
def rcC (K : SkyT) (l : Nat) (w s : Nat → Nat) (e R : Nat) (V : Vw) : Prop := V 20 14 = nI R ∧ ∀ k, k ≤ kN K → V 25 k = nI (fromT (mostK K l w s e R) (kN K) k)
def hopeB (K : SkyT) (w : Nat → Nat) (p q R : Nat) (ba : Bool) (bd bst ma ab sl ch : Nat) : Bool := (decide (R < 40) && decide (kW K ≤ ab)) || (decide (0 < R) && decide (ma < kW K)) || (!ba && decide (bst / 2 ^ 36 % 8 ≤ ch)) || decide (bd < gapN K w p + max (q - (R - sl)) (R - kN K - q))
theorem gapN_le {K : SkyT} {w : Nat → Nat} {p : Nat} : gapN K w p ≤ p := by unfold gapN; omega
theorem c_hopeless {l e p q R b bd bst ma ab sl ch : Nat} {ba : Bool} {K : SkyT} {w s : Nat → Nat} {F C : Nat} {S : Mem} {V : Vw} {U : Uw} {D : Dw} (h : shC S C) (hw9 : wfK K) (hs : srC K l w s e p q ba b C V D) (hr : V 20 14 = nI R) (hR : R ≤ 40) (hp : p ≤ 999) (hq : q ≤ 40) (hbd : bd < 2 ^ 31) (hbst : bst < 2 ^ 63) (hma : ma < 2 ^ 31) (hab : ab < 2 ^ 31) (hsl : sl ≤ 6) (hch : ch < 2 ^ 31) :
    fn_X4_isHopeless F (C + 20) (nI ma) (nI ab) (nI sl) (nI ch) (wC S C (u2 V 20 13 (nI bd)) (u2 U 20 15 (lN bst)) D) = some (b1 (hopeB K w p q R ba bd bst ma ab sl ch), wC S C (u2 V 20 13 (nI bd)) (u2 U 20 15 (lN bst)) D) := by
  have hn6 := hw9.1.1
  have hW := hw9.1.2.1
  have hg := gapN_le (K := K) (w := w) (p := p)
  obtain ⟨⟨v7, v8, v9, v10, v11, v12⟩, -⟩ := hs
  have ebc : fn_X4_bestChanged F (C + 20) (wC S C (u2 V 20 13 (nI bd)) (u2 U 20 15 (lN bst)) D) = some (nI (bst / 2 ^ 36 % 8), wC S C (u2 V 20 13 (nI bd)) (u2 U 20 15 (lN bst)) D) := by
    unfold fn_X4_bestChanged
    have h2 : bst / 2 ^ 36 ≤ bst := Nat.div_le_self _ _
    simp (disch := first | assumption | exact inB_n (by omega) (by decide) | exact inB_l (by omega) (by decide) | exact inB_al (by omega) (by decide) | exact inB_la (by omega) (by decide) | exact inB_j (by assumption) (by omega) (by decide) | exact inB_e (by assumption) (by decide) | omega) only [↓eC h, u2_eq]
    rw [lN_shr hbst _ sh36, lN_and (k := 3) (by omega) (by decide), lN_i]
  have e50 : ∀ sl', sl' = sl → f_X4_isHopeless_50 F (C + 20) (nI sl) (wC S C (u2 V 20 13 (nI bd)) (u2 U 20 15 (lN bst)) D) = some (b1 (decide (bd < gapN K w p + max (q - (R - sl)) (R - kN K - q))), wC S C (u2 V 20 13 (nI bd)) (u2 U 20 15 (lN bst)) D) := by
    intro _ _
    unfold f_X4_isHopeless_50 f_X4_isHopeless_111
    simp (disch := first | assumption | exact inB_n (by omega) (by decide) | exact inB_l (by omega) (by decide) | exact inB_al (by omega) (by decide) | exact inB_la (by omega) (by decide) | exact inB_j (by assumption) (by omega) (by decide) | exact inB_e (by assumption) (by decide) | omega) only [↓eC h, ↓lt_r, u2_eq, u2_ne, v7, v10, v11, hr, mx_sub (show R < 2 ^ 30 by omega) (show sl < 2 ^ 30 by omega), hop_mx (show q ≤ 1000 by omega) (show R - sl ≤ 1000 by omega) (show R ≤ 1000 by omega) (show kN K ≤ 1000 by omega), nI_add]
    by_cases hc : bd < gapN K w p + max (q - (R - sl)) (R - kN K - q)
    · rw [if_neg (show ¬ nI _ ≤ nI bd from nI_ge hc (by omega)), decide_eq_true hc, rz_1]; rfl
    · rw [if_pos (nI_le (by omega) hbd), decide_eq_false hc, rz_0]; rfl
  have e32 : f_X4_isHopeless_32 F (C + 20) (nI sl) (nI ch) (wC S C (u2 V 20 13 (nI bd)) (u2 U 20 15 (lN bst)) D) = some (b1 ((!ba && decide (bst / 2 ^ 36 % 8 ≤ ch)) || decide (bd < gapN K w p + max (q - (R - sl)) (R - kN K - q))), wC S C (u2 V 20 13 (nI bd)) (u2 U 20 15 (lN bst)) D) := by
    unfold f_X4_isHopeless_32 f_X4_isHopeless_48
    simp (disch := first | assumption | exact inB_n (by omega) (by decide) | exact inB_l (by omega) (by decide) | exact inB_al (by omega) (by decide) | exact inB_la (by omega) (by decide) | exact inB_j (by assumption) (by omega) (by decide) | exact inB_e (by assumption) (by decide) | omega) only [↓eC h, ↓bd_r, u2_eq, u2_ne, v12, ebc, e50 sl rfl, rz_1]
    cases ba with
    | true => rfl
    | false =>
      show (if (0 : Int32) = 0 then _ else _) = _
      rw [if_pos rfl]
      by_cases hc : bst / 2 ^ 36 % 8 ≤ ch
      · rw [if_neg (nI_nlt hc hch), decide_eq_true hc]; rfl
      · rw [if_pos (nI_lt (by omega) (by omega)), decide_eq_false hc]; rfl
  unfold fn_X4_isHopeless f_X4_isHopeless_17 f_X4_isHopeless_48 hopeB
  simp (disch := first | assumption | exact inB_n (by omega) (by decide) | exact inB_l (by omega) (by decide) | exact inB_al (by omega) (by decide) | exact inB_la (by omega) (by decide) | exact inB_j (by assumption) (by omega) (by decide) | exact inB_e (by assumption) (by decide) | omega) only [↓eC h, u2_ne, hr, v8, e32, rz_1, nI_leI, nI_ltI, nI_eq, le_ln, le_nl, lt_ln, lt_nl, eq_nl, eq_ln]
  by_cases a1 : 40 ≤ R <;> by_cases a2 : kW K ≤ ab <;> by_cases a3 : R ≤ 0 <;> by_cases a4 : ma < kW K <;> simp only [a1, a2, a3, a4, if_true, if_false, ↓reduceIte, decide_true, decide_false, Bool.true_and, Bool.false_and, Bool.and_true, Bool.and_false, Bool.true_or, Bool.false_or, Nat.not_lt.mpr, Nat.not_le.mp, show ¬ R < 40 ↔ 40 ≤ R from Nat.not_lt, decide_eq_true (show True from trivial)] <;> simp_all [b1] <;> omega

/-! judged: one set of lengths -/
def awJ (w : Nat → Nat) (p q at_ mom hi : Nat) : Nat := distN (mom / at_ + w hi / 5) p + distN hi q
def scJ (ba : Bool) (aw ch key : Nat) : Nat := (if ba = true then aw else 0) * 2 ^ 39 + ch * 2 ^ 36 + key
def jgB (ba : Bool) (bd bst aw sc : Nat) : Nat × Nat := if aw ≤ bd ∧ sc < bst then ((if ba = true then aw else bd), sc) else (bd, bst)
theorem c_judge {l e p q R b bd bst at_ mom sl ch key : Nat} {ba : Bool} {K : SkyT} {w s : Nat → Nat} {F C : Nat} {S : Mem} {V : Vw} {U : Uw} {D : Dw} (h : shC S C) (hw9 : wfK K) (hw : ∀ i, w i ≤ 99) (hs : srC K l w s e p q ba b C V D) (hr : V 20 14 = nI R) (hR : R ≤ 40) (hp : p ≤ 999) (hq : q ≤ 40) (hbd : bd < 2 ^ 31) (hbst : bst < 2 ^ 63) (hat : at_ ≤ 2376) (hm : mom ≤ 235224) (hsl : sl ≤ 6) (hch : ch ≤ 6) (hk : key < 2 ^ 36) :
    fn_X4_judge F (C + 20) (nI at_) (nI mom) (nI sl) (nI ch) (lN key) (wC S C (u2 V 20 13 (nI bd)) (u2 U 20 15 (lN bst)) D) = some ((), wC S C (u2 V 20 13 (nI (jgB ba bd bst (awJ w p q at_ mom (R - sl)) (scJ ba (awJ w p q at_ mom (R - sl)) ch key)).1)) (u2 U 20 15 (lN (jgB ba bd bst (awJ w p q at_ mom (R - sl)) (scJ ba (awJ w p q at_ mom (R - sl)) ch key)).2)) D) := by
  have hn6 := hw9.1.1
  obtain ⟨⟨v7, v8, v9, v10, v11, v12⟩, w21, -⟩ := hs
  have w1 := hw (R - sl)
  have d1 : mom / at_ ≤ mom := Nat.div_le_self _ _
  have aw9 : awJ w p q at_ mom (R - sl) ≤ 300000 := by
    unfold awJ distN
    generalize mom / at_ = z at d1 ⊢
    omega
  have e5 : nI (w (R - sl)) / 5 = nI (w (R - sl) / 5) := pk_div (by omega) (d := 5) (by decide) (by decide)
  have key2 : ∀ y : Nat, y = mom / at_ → f_X4_judge_23 F (C + 20) (nI ch) (lN key) (nI (R - sl)) (nI y) (wC S C (u2 V 20 13 (nI bd)) (u2 U 20 15 (lN bst)) D) = some ((), wC S C (u2 V 20 13 (nI (jgB ba bd bst (awJ w p q at_ mom (R - sl)) (scJ ba (awJ w p q at_ mom (R - sl)) ch key)).1)) (u2 U 20 15 (lN (jgB ba bd bst (awJ w p q at_ mom (R - sl)) (scJ ba (awJ w p q at_ mom (R - sl)) ch key)).2)) D) := by
    intro y hy
    have ed : fn_X8_distance F (nI (y + w (R - sl) / 5)) (nI (R - sl)) (nI p) (nI q) (wC S C (u2 V 20 13 (nI bd)) (u2 U 20 15 (lN bst)) D) = some (nI (awJ w p q at_ mom (R - sl)), wC S C (u2 V 20 13 (nI bd)) (u2 U 20 15 (lN bst)) D) := by
      unfold fn_X8_distance awJ
      rw [hy, ab_sub (by omega) (by omega), ab_sub (by omega) (by omega), nI_add]
    generalize hA : awJ w p q at_ mom (R - sl) = aw at ed aw9 ⊢
    have e75 : ∀ z : Nat, z = (if ba = true then aw else 0) → aw ≤ bd → f_X4_judge_75 F (C + 20) (nI ch) (lN key) (nI aw) (nI z) (wC S C (u2 V 20 13 (nI bd)) (u2 U 20 15 (lN bst)) D) = some ((), wC S C (u2 V 20 13 (nI (jgB ba bd bst aw (scJ ba aw ch key)).1)) (u2 U 20 15 (lN (jgB ba bd bst aw (scJ ba aw ch key)).2)) D) := by
      intro z hz hle
      have hz9 : z ≤ 300000 := by rw [hz]; split <;> omega
      have es : ((nI z).toInt64 <<< (((39 : Int32)).toInt64 &&& 63)) + ((nI ch).toInt64 <<< (((36 : Int32)).toInt64 &&& 63)) + lN key = lN (scJ ba aw ch key) := by
        rw [nI_l (show z < 2 ^ 31 by omega), nI_l (show ch < 2 ^ 31 by omega), lN_shl _ sh39 (by omega), lN_shl _ sh36 (by omega), lN_add, lN_add]
        unfold scJ
        rw [hz]
      have hsc : scJ ba aw ch key < 2 ^ 63 := by unfold scJ; split <;> omega
      generalize scJ ba aw ch key = sc at es hsc ⊢
      unfold f_X4_judge_75 f_X4_judge_124 f_X4_judge_127 jgB
      rw [lt_r, es]
      simp (disch := first | assumption | exact inB_n (by omega) (by decide) | exact inB_l (by omega) (by decide) | exact inB_al (by omega) (by decide) | exact inB_la (by omega) (by decide) | exact inB_j (by assumption) (by omega) (by decide) | exact inB_e (by assumption) (by decide) | omega) only [↓eC h, u2_eq, u2_ne, v12]
      by_cases hc : sc < bst
      · rw [if_neg (fun z => by
          have := (lg_cmp_ge _ _).mp z
          have := (lN_le2 hbst hsc).mp this
          omega), if_pos (show aw ≤ bd ∧ sc < bst from ⟨hle, hc⟩)]
        cases ba with
        | true =>
          show (if (1 : Int32) = 0 then _ else _) = _
          rw [if_neg (by decide), u2_u2, u2_u2]
          rfl
        | false =>
          show (if (0 : Int32) = 0 then _ else _) = _
          rw [if_pos rfl, u2_u2, u2_u2]
          rfl
      · rw [if_pos ((lg_cmp_ge _ _).mpr ((lN_le2 hbst hsc).mpr (by omega))), if_neg (fun z => hc z.2)]
    unfold f_X4_judge_23
    simp (disch := first | assumption | exact inB_n (by omega) (by decide) | exact inB_l (by omega) (by decide) | exact inB_al (by omega) (by decide) | exact inB_la (by omega) (by decide) | exact inB_j (by assumption) (by omega) (by decide) | exact inB_e (by assumption) (by decide) | omega) only [↓eC h, ↓bd_r, ↓lt_r, u2_eq, u2_ne, w21 (R - sl) (by omega), e5, nI_add, v9, v10, v12, ed, ix_nI, ix_l, nI_al, nI_la, nI_lm, u2_ne, u2_eq]
    by_cases hc : aw ≤ bd
    · rw [if_pos (nI_le hc hbd)]
      cases hba : ba with
      | true =>
        show (if (1 : Int32) = 0 then _ else _) = _
        rw [if_neg (by decide)]
        have := e75 aw (by rw [hba]; rfl) hc
        rw [hba] at this
        exact this
      | false =>
        show (if (0 : Int32) = 0 then _ else _) = _
        rw [if_pos rfl]
        have := e75 0 (by rw [hba]; rfl) hc
        rw [hba] at this
        exact this
    · rw [if_neg (show ¬ nI aw ≤ nI bd from nI_ge (by omega) (by omega))]
      unfold jgB
      rw [if_neg (fun z => hc z.1)]
  unfold fn_X4_judge
  simp (disch := first | assumption | exact inB_n (by omega) (by decide) | exact inB_l (by omega) (by decide) | exact inB_al (by omega) (by decide) | exact inB_la (by omega) (by decide) | exact inB_j (by assumption) (by omega) (by decide) | exact inB_e (by assumption) (by decide) | omega) only [↓eC h, ↓lt_r, u2_ne, hr, mx_sub (show R < 2 ^ 30 by omega) (show sl < 2 ^ 30 by omega)]
  by_cases h0 : at_ = 0
  · subst h0
    rw [if_pos (show nI 0 ≤ 0 by decide)]
    exact key2 0 (by rw [Nat.div_zero])
  · rw [if_neg (nI_nle (by omega) (by omega))]
    unfold nz
    rw [if_neg (nI_ne0 (by omega) (by omega)), pk_div (by omega) (by omega) (by omega)]
    exact key2 _ rfl
