/-! nearest and fewest: the class -/
theorem sh6j {j : Nat} (hj : j ≤ 5) : ((((6 : Int32) * nI j).toInt64 &&& 63).toBitVec.smod 64).toNat = 6 * j := by
  obtain rfl | rfl | rfl | rfl | rfl | rfl : j = 0 ∨ j = 1 ∨ j = 2 ∨ j = 3 ∨ j = 4 ∨ j = 5 := by omega
  all_goals decide
theorem pow64 {j : Nat} : 2 ^ (6 * j) = 64 ^ j := by rw [Nat.pow_mul]
theorem c_bestLen {K : SkyT} {l e p q B k : Nat} {w s c : Nat → Nat} {ba : Bool} {F C : Nat} {S : Mem} {V : Vw} {U : Uw} {D : Dw} (h : shC S C) (hw9 : wfK K) (hwf : wfS K B s) (hw : ∀ i, w i ≤ 99) (hp : p ≤ 999) (hq : q ≤ 40) (hv : vld K l s e c) (v7 : V 20 7 = nI (kN K)) (u15 : U 20 15 = lN (scC K l w s p q ba c)) (hk : k < kN K) : fn_X4_bestLength F (C + 20) (nI k) (wC S C V U D) = some (nI (c k), wC S C V U D) := by
  have n6 := hw9.1.1
  have b63 := sc_lt63 (w := w) (p := p) (q := q) (ba := ba) hw9 hwf hw hp hq hv
  have h3 := (sc_dig (w := w) (p := p) (q := q) (ba := ba) hw9 hwf hv).2.2 k hk
  unfold fn_X4_bestLength
  have e1 : nI (kN K) - 1 - nI k = nI (kN K - 1 - k) := by
    obtain ⟨n, hn⟩ : ∃ n, kN K = n + 1 := ⟨kN K - 1, by omega⟩
    rw [hn, nI_pred, pk_sub (by omega), Nat.add_sub_cancel]
  simp (disch := first | assumption | exact inB_n (by omega) (by decide) | exact inB_l (by omega) (by decide) | exact inB_al (by omega) (by decide) | exact inB_la (by omega) (by decide) | exact inB_j (by assumption) (by omega) (by decide) | exact inB_e (by assumption) (by decide) | omega) only [↓eC h, u15, v7]
  generalize scC K l w s p q ba c = X at b63 h3 ⊢
  rw [e1, lN_shr (by omega) _ (sh6j (show kN K - 1 - k ≤ 5 by omega)), lN_and (k := 6) (Nat.lt_of_le_of_lt (Nat.div_le_self _ _) (by omega)) (by decide), lN_i, pow64]
  rw [show (2 : Nat) ^ 6 = 64 from rfl, h3]
theorem c_bestChg {bst : Nat} {F C : Nat} {S : Mem} {V : Vw} {U : Uw} {D : Dw} (h : shC S C) (u15 : U 20 15 = lN bst) (hb : bst < 2 ^ 63) : fn_X4_bestChanged F (C + 20) (wC S C V U D) = some (nI (bst / 2 ^ 36 % 8), wC S C V U D) := by
  unfold fn_X4_bestChanged
  have h2 : bst / 2 ^ 36 ≤ bst := Nat.div_le_self _ _
  simp (disch := first | assumption | exact inB_n (by omega) (by decide) | exact inB_l (by omega) (by decide) | exact inB_al (by omega) (by decide) | exact inB_la (by omega) (by decide) | exact inB_j (by assumption) (by omega) (by decide) | exact inB_e (by assumption) (by decide) | omega) only [↓eC h, u15]
  rw [lN_shr hb _ sh36, lN_and (k := 3) (by omega) (by decide), lN_i]
theorem c_bestAway {bst : Nat} {F C : Nat} {S : Mem} {V : Vw} {U : Uw} {D : Dw} (h : shC S C) (u15 : U 20 15 = lN bst) (hb : bst < 2 ^ 63) : fn_X4_bestAway F (C + 20) (wC S C V U D) = some (nI (bst / 2 ^ 39), wC S C V U D) := by
  unfold fn_X4_bestAway
  simp (disch := first | assumption | exact inB_n (by omega) (by decide) | exact inB_l (by omega) (by decide) | exact inB_al (by omega) (by decide) | exact inB_la (by omega) (by decide) | exact inB_j (by assumption) (by omega) (by decide) | exact inB_e (by assumption) (by decide) | omega) only [↓eC h, u15]
  rw [lN_shr hb _ sh39, lN_i]
/-- what the two calls answer -/
def okNe (K : SkyT) (x y z : Int32) : Bool := (inr x 0 999 && inr y 0 40) && inr z 0 (nI (kN K) + 1)
noncomputable def sp_nearest (K : SkyT) (s : Nat → Nat) (x y z : Int32) : Int32 := if okNe K x y z = true then (if z.toNatClampNeg = 0 then nI (awayK K (s 18) (wR K (s 19) 0) (nearC K (s 18) (wR K (s 19) 0) s x.toNatClampNeg y.toNatClampNeg) x.toNatClampNeg y.toNatClampNeg) else if z.toNatClampNeg = 1 then nI (chgT s (nearC K (s 18) (wR K (s 19) 0) s x.toNatClampNeg y.toNatClampNeg) (kN K)) else nI (nearC K (s 18) (wR K (s 19) 0) s x.toNatClampNeg y.toNatClampNeg (z.toNatClampNeg - 2))) else -1
def okFe (x y z u : Int32) : Bool := (inr x 0 999 && inr y 0 40) && inr z 0 999 && inr u 1 3
noncomputable def sp_fewest (K : SkyT) (s : Nat → Nat) (x y z u : Int32) : Int32 := if okFe x y z u = true then fewN K (s 18) (wR K (s 19) 0) s u.toNatClampNeg x.toNatClampNeg y.toNatClampNeg z.toNatClampNeg else -1
theorem keepS.ck {V V' : Vw} (h : ∀ j, keepS j → V' j = V j) : ck V V' := fun j hj => h j (by unfold keepS; omega)
theorem keepS.nt {V V' : Vw} {K : SkyT} {s : Nat → Nat} (h : ∀ j, keepS j → V' j = V j) (hS : cNt V 28 K s) : cNt V' 28 K s := by
  unfold cNt at hS ⊢
  rw [h 28 (by unfold keepS; omega), h (28 + 1) (by unfold keepS; omega), h (28 + 2) (by unfold keepS; omega), h (28 + 3) (by unfold keepS; omega), h (28 + 4) (by unfold keepS; omega), h (28 + 5) (by unfold keepS; omega), h (28 + 6) (by unfold keepS; omega)]
  exact hS
theorem keepS.trans {V V1 V' : Vw} {i : Nat} {v : Int32} {k : Nat} {v' : Int32} (h : ∀ j, keepS j → V' j = u2 (u2 V 20 i v) 20 k v' j) : ∀ j, keepS j → V' j = V j := fun j hj => by
  rw [h j hj, u2_row (by unfold keepS at hj; omega), u2_row (by unfold keepS at hj; omega)]
theorem dk.two {D : Dw} {a b c d : Nat} : dk D (u2 (u2 D 20 a b) 20 c d) := fun o ho _ => by
  unfold isN at ho
  rw [u2_ne (by omega), u2_ne (by omega)]
theorem c_seekN {p q : Nat} {B b : Nat} {K : SkyT} {s : Nat → Nat} {F C : Nat} {S : Mem} {V : Vw} {U : Uw} {D : Dw} (h : shC S C) (hF : 10000 < F) (hw9 : wfK K) (hK : cSky S C b K) (hb : D 28 0 = b) (hS : cNt V 28 K s) (hs : wfS K B s) (hB : B < 2 ^ 29) (hp : p ≤ 999) (hq : q ≤ 40) : ∃ V' c D', fn_X4_seekNearest F (C + 20) (C + 28) (C + 14) (nI p) (nI q) (wC S C V U D) = some ((), wC S C V' (u2 U 20 15 (lN (scC K (s 18) (wR K (s 19) 0) s p q true c))) D') ∧ (∀ j, keepS j → V' j = V j) ∧ dk D D' ∧ V' 20 7 = nI (kN K) ∧ nearP K (s 18) (wR K (s 19) 0) s p q c := by
  have hlo := hs.lost hw9
  obtain ⟨V', bd, bst, e1, e2, e3, e4⟩ := c_seek (F := F) (V := u2 (u2 V 20 12 1) 20 13 2147483647) (U := U) (D := D) (ba := true) (b0 := 2147483647) (e := 2) (m := s 19) (l := s 18) h (by omega) hw9 hK hs hp hq (by omega) (fun _ => rfl) (by omega) (by omega) hb (by rw [u2_ne (by omega), u2_ne (by omega)]; exact hS.1) (by rw [u2_ne (by omega), u2_ne (by omega)]; exact hS.2.1) (fun i hi => by rw [u2_ne (by omega), u2_ne (by omega)]; exact (hS.2.2.2.1 i hi).1) (by rw [u2_ne (by omega)]; exact u2_eq ⟨rfl, rfl⟩) (u2_eq ⟨rfl, rfl⟩)
  obtain ⟨c, c1, rfl⟩ := e4.near hw9 hs (wR_le K (s 19) 0) hp hq
  refine ⟨V', c, u2 (u2 D 20 5 (C + 29)) 20 6 (b + 2), ?_, keepS.trans (V1 := V) e2, dk.two, e3, c1⟩
  unfold fn_X4_seekNearest
  rw [sZ20 h (Or.inr rfl)]
  simp only [↓eC h]
  rw [show (2 : Int32) = nI 2 from rfl, e1]
  rfl
theorem ca_nearest {x y z : Int32} {B b : Nat} {K : SkyT} {s : Nat → Nat} {F C : Nat} {S : Mem} {V : Vw} {U : Uw} {D : Dw} (h : shC S C) (hF : 10000 < F) (hw9 : wfK K) (hK : cSky S C b K) (hb : D 28 0 = b) (hS : cNt V 28 K s) (hs : wfS K B s) (hB : B < 2 ^ 29) : ∃ V' U' D', fn_X8_nearest F C x y z (wC S C V U D) = some (sp_nearest K s x y z, wC S C V' U' D') ∧ ck V V' ∧ U' 11 = U 11 ∧ dk D D' ∧ cNt V' 28 K s := by
  have n6 := hw9.1.1
  unfold fn_X8_nearest f_X8_nearest_28 f_X8_nearest_86 sp_nearest okNe
  rw [c_isSpot, bd_r]
  cases hxy : (inr x 0 999 && inr y 0 40) with
  | false => exact ⟨V, U, D, rfl, ck.rf, rfl, dk.rf, hS⟩
  | true =>
  rw [if_neg (show ¬ b1 true = 0 by decide)]
  simp only [↓eC h, ↓eN h isN28, ↓eK hK.1, hb, hK.2.1.1, c_within, ↓bd_r]
  cases hz : inr z 0 (nI (kN K) + 1) with
  | false => exact ⟨V, U, D, rfl, ck.rf, rfl, dk.rf, hS⟩
  | true =>
  rw [if_neg (show ¬ b1 true = 0 by decide), if_pos (show (true && true) = true from rfl)]
  rw [Bool.and_eq_true] at hxy
  rw [show nI (kN K) + 1 = nI (kN K + 1) from nI_add _ 1] at hz
  obtain ⟨p, -, hp, rfl⟩ := inr_nI (a := 0) (b := 999) (by decide) (by decide) hxy.1
  obtain ⟨q, -, hq, rfl⟩ := inr_nI (a := 0) (b := 40) (by decide) (by decide) hxy.2
  obtain ⟨k, -, hk, rfl⟩ := inr_nI (a := 0) (b := kN K + 1) (by decide) (by omega) hz
  rw [nI_clamp (by omega), nI_clamp (by omega), nI_clamp (by omega)]
  obtain ⟨V', c, D', e1, e2, e3, e4, e5⟩ := c_seekN (F := F) (U := U) h hF hw9 hK hb hS hs hB hp hq
  have b63 := sc_lt63 (w := wR K (s 19) 0) (p := p) (q := q) (ba := true) hw9 hs (wR_le K (s 19) 0) hp hq e5.1
  obtain ⟨g1, g2, -⟩ := sc_dig (w := wR K (s 19) 0) (p := p) (q := q) (ba := true) hw9 hs e5.1
  rw [if_pos rfl] at g2
  obtain ⟨u1, u2_, u3⟩ := near_uniq hw9 hs (nearC_ok e5) e5
  refine ⟨V', u2 U 20 15 (lN (scC K (s 18) (wR K (s 19) 0) s p q true c)), D', ?_, keepS.ck e2, u2_row (show 11 ≠ 20 by decide), e3, keepS.nt e2 hS⟩
  rw [e1, bd_r]
  by_cases k0 : k = 0
  · subst k0
    rw [if_pos (show nI 0 = 0 from rfl), if_pos rfl]
    simp only [↓eC h]
    rw [c_bestAway (F := F) h (u2_eq ⟨rfl, rfl⟩) (by omega), bd_r, g2, u1]
  · rw [if_neg (show ¬ nI k = 0 from fun q => k0 ((nI_eq (b := 0) (by omega) (by decide)).mp q)), if_neg k0]
    by_cases k1 : k = 1
    · subst k1
      rw [if_pos (show nI 1 = 1 from rfl), if_pos rfl]
      simp only [↓eC h]
      rw [c_bestChg (F := F) h (u2_eq ⟨rfl, rfl⟩) (by omega), bd_r, g1, u2_]
    · rw [if_neg (show ¬ nI k = 1 from fun q => k1 ((nI_eq (b := 1) (by omega) (by decide)).mp q)), if_neg k1]
      simp only [↓eC h]
      rw [show nI k - 2 = nI (k - 2) from pk_sub (b := 2) (by omega), c_bestLen (F := F) h hw9 hs (wR_le K (s 19) 0) hp hq e5.1 e4 (u2_eq ⟨rfl, rfl⟩) (by omega), bd_r, u3 _ (by omega)]
theorem ca_fewest {x y z u : Int32} {B b : Nat} {K : SkyT} {s : Nat → Nat} {F C : Nat} {S : Mem} {V : Vw} {U : Uw} {D : Dw} (h : shC S C) (hF : 10000 < F) (hw9 : wfK K) (hK : cSky S C b K) (hb : D 28 0 = b) (hS : cNt V 28 K s) (hs : wfS K B s) (hB : B < 2 ^ 29) : ∃ V' U' D', fn_X8_fewest F C x y z u (wC S C V U D) = some (sp_fewest K s x y z u, wC S C V' U' D') ∧ ck V V' ∧ U' 11 = U 11 ∧ dk D D' ∧ cNt V' 28 K s := by
  have hlo := hs.lost hw9
  unfold fn_X8_fewest f_X8_fewest_29 f_X8_fewest_65 sp_fewest okFe
  rw [c_isSpot, bd_r]
  cases hxy : (inr x 0 999 && inr y 0 40) with
  | false => exact ⟨V, U, D, rfl, ck.rf, rfl, dk.rf, hS⟩
  | true =>
  rw [if_neg (show ¬ b1 true = 0 by decide), c_within, bd_r]
  cases hz : inr z 0 999 with
  | false => exact ⟨V, U, D, rfl, ck.rf, rfl, dk.rf, hS⟩
  | true =>
  rw [if_neg (show ¬ b1 true = 0 by decide), c_within, bd_r]
  cases hu : inr u 1 3 with
  | false => exact ⟨V, U, D, rfl, ck.rf, rfl, dk.rf, hS⟩
  | true =>
  rw [if_neg (show ¬ b1 true = 0 by decide), if_pos (show (true && true && true) = true from rfl)]
  rw [Bool.and_eq_true] at hxy
  obtain ⟨p, -, hp, rfl⟩ := inr_nI (a := 0) (b := 999) (by decide) (by decide) hxy.1
  obtain ⟨q, -, hq, rfl⟩ := inr_nI (a := 0) (b := 40) (by decide) (by decide) hxy.2
  obtain ⟨a, -, ha, rfl⟩ := inr_nI (a := 0) (b := 999) (by decide) (by decide) hz
  obtain ⟨e, -, he, rfl⟩ := inr_nI (a := 1) (b := 3) (by decide) (by decide) hu
  rw [nI_clamp (by omega), nI_clamp (by omega), nI_clamp (by omega), nI_clamp (by omega)]
  obtain ⟨V', bd, bst, e1, e2, e3, e4⟩ := c_seek (F := F) (V := u2 (u2 V 20 12 0) 20 13 (nI a)) (U := U) (D := D) (ba := false) (b0 := a) (e := e) (m := s 19) (l := s 18) h (by omega) hw9 hK hs hp hq (by omega) (fun q => by cases q) (by omega) (by omega) hb (by rw [u2_ne (by omega), u2_ne (by omega)]; exact hS.1) (by rw [u2_ne (by omega), u2_ne (by omega)]; exact hS.2.1) (fun i hi => by rw [u2_ne (by omega), u2_ne (by omega)]; exact (hS.2.2.2.1 i hi).1) (by rw [u2_ne (by omega)]; exact u2_eq ⟨rfl, rfl⟩) (u2_eq ⟨rfl, rfl⟩)
  have e2 := keepS.trans (V1 := V) e2
  refine ⟨V', u2 U 20 15 (lN bst), u2 (u2 D 20 5 (C + 29)) 20 6 (b + 2), ?_, keepS.ck e2, u2_row (show 11 ≠ 20 by decide), dk.two, keepS.nt e2 hS⟩
  unfold fn_X4_seekFewest f_X4_seekFewest_38
  simp only [↓eC h]
  rw [sZ20 h (Or.inl rfl)]
  simp (disch := first | assumption | exact inB_n (by omega) (by decide) | exact inB_l (by omega) (by decide) | exact inB_al (by omega) (by decide) | exact inB_la (by omega) (by decide) | exact inB_j (by assumption) (by omega) (by decide) | exact inB_e (by assumption) (by decide) | omega) only [↓eC h, e1, ↓bd_r, u2_eq, rz_0, rz_1, lN_top]
  rcases e4.few hw9 hs (wR_le K (s 19) 0) hp hq with ⟨f1, f2⟩ | ⟨f1, f2⟩
  · rw [f2, f1, if_pos ((lg_cmp_eq _ _).mpr rfl), bd_r, if_pos rfl]
  · rw [f2, if_neg (fun q => absurd ((lN_eq2 (by omega) (by omega)).mp ((lg_cmp_eq _ _).mp q)) (by omega)), bd_r, if_neg (show ¬ (1 : Int32) = 0 by decide)]
    simp only [↓eC h]
    rw [c_bestChg (F := F) (bst := bst) h (u2_eq ⟨rfl, rfl⟩) (by omega), bd_r]
