/-! what is told once -/
def zc (T : Nat) : Nat := T % 2 + T / 2 % 2
theorem zc_le {T : Nat} : zc T ≤ 2 := by unfold zc; omega
theorem zc_set {T t : Nat} (h : lo T t = false) (hT : T < 64) (ht : t < 6) : zc (T + 2 ^ t) = zc T + (if t < 2 then 1 else 0) := by
  have key : ∀ T : Fin 64, ∀ t : Fin 6, lo T.val t.val = false → zc (T.val + 2 ^ t.val) = zc T.val + (if t.val < 2 then 1 else 0) := by decide +kernel
  exact key ⟨T, hT⟩ ⟨t, ht⟩ h
theorem told_or {T t : Nat} (h : lo T t = false) (hT : T < 64) (ht : t < 6) : nI T ||| ((1 : Int32) <<< (nI t &&& 31)) = nI (T + 2 ^ t) := by
  have key : ∀ T : Fin 64, ∀ t : Fin 6, lo T.val t.val = false → nI T.val ||| ((1 : Int32) <<< (nI t.val &&& 31)) = nI (T.val + 2 ^ t.val) := by decide +kernel
  exact key ⟨T, hT⟩ ⟨t, ht⟩ h
theorem told_is {T t : Nat} (hT : T < 64) (ht : t < 6) : ((nI T >>> (nI t &&& 31)) &&& 1 = 0) ↔ lo T t = false := by
  rw [lo_nI (by omega) ht]
  unfold lo
  have h2 : T / 2 ^ t % 2 = 0 ∨ T / 2 ^ t % 2 = 1 := by omega
  rcases h2 with e | e
  · rw [e]; exact ⟨fun _ => by decide, fun _ => rfl⟩
  · rw [e]; exact ⟨fun q => absurd q (by decide), fun q => by simp at q⟩
theorem new_law {S : Mem} {b n kk : Nat} {cd : Nat → Int32} (hb : b < mZ S) (hk : 10 ≤ kk) : xS b S (pR (pA (pNew S 10 n) (mZ S) cd) b kk (some (mZ S))) ∧ mZ (pR (pA (pNew S 10 n) (mZ S) cd) b kk (some (mZ S))) = mZ S + 1 ∧ mQ (pR (pA (pNew S 10 n) (mZ S) cd) b kk (some (mZ S))) = mQ S + n ∧
    mR (pR (pA (pNew S 10 n) (mZ S) cd) b kk (some (mZ S))) b kk = some (mZ S) ∧ (∀ k, k ≠ kk → mR (pR (pA (pNew S 10 n) (mZ S) cd) b kk (some (mZ S))) b k = mR S b k) ∧ mK (pR (pA (pNew S 10 n) (mZ S) cd) b kk (some (mZ S))) (mZ S) = 10 ∧ mN (pR (pA (pNew S 10 n) (mZ S) cd) b kk (some (mZ S))) (mZ S) = n ∧ mI (pR (pA (pNew S 10 n) (mZ S) cd) b kk (some (mZ S))) (mZ S) = cd := by
  refine ⟨⟨fun a ha => ?_, ⟨rfl, rfl, rfl⟩, Nat.le_succ _, ?_⟩, rfl, rfl, u2_eq ⟨rfl, rfl⟩, fun k hk => ?_, if_pos rfl, if_pos rfl, if_pos rfl⟩
  · have ne : a ≠ mZ S := by omega
    refine ⟨if_neg ne, if_neg ne, ?_, if_neg ne, fun k hk2 => ?_⟩
    · show (if a = mZ S then cd else if a = mZ S then (fun _ => 0) else mI S a) = _
      rw [if_neg ne, if_neg ne]
    · show (if a = b ∧ k = kk then some (mZ S) else (if a = mZ S then (fun _ => none) else mR S a) k) = _
      rw [if_neg (by omega), if_neg ne]
  · show mQ S ≤ mQ S + n
    omega
  · show (if b = b ∧ k = kk then some (mZ S) else (if b = mZ S then (fun _ => none) else mR S b) k) = _
    rw [if_neg (fun q => hk q.2), if_neg (by omega)]
/-- the class's side of a sky that is being told -/
def skI (X : Tp) (s : SkR) (S : Mem) (C b : Nat) (W V : Vw) (U : Uw) (q0 : Nat) : Prop := cG X s W U ∧ V 8 4 = nI (zT s) ∧ mZ S = b + 6 + zc (zT s) ∧ mQ S ≤ q0 + 1000 * zc (zT s) ∧ lwK S C b 10 ((zW s).map fun f facts => f (sgC 0 facts)) ∧ lwK S C b 11 ((zR s).map fun f facts => f (sgC 1 facts)) ∧ shC S C ∧ shK S C b
theorem cP.u84 {X : Tp} {law p flt nc : Nat} {V : Vw} {U : Uw} {v : Int32} (h : cP X law p flt nc V U) : cP X law p flt nc (u2 V 8 4 v) U := by
  obtain ⟨⟨c1, c2, c3, c4, c5, c6⟩, h3, h5, h6, ht, hw⟩ := h
  refine ⟨⟨?_, ?_, ?_, ?_, fun z => ?_, c6⟩, ?_, ?_, ?_, fun i hi => ?_, hw⟩
  · rw [u2_row (by omega)]; exact c1
  · rw [u2_row (by omega)]; exact c2
  · rw [u2_row (by omega)]; exact c3
  · rw [u2_row (by omega)]; exact c4
  · rw [u2_row (by omega)]; exact c5 z
  · rw [u2_ne (by omega)]; exact h3
  · rw [u2_ne (by omega)]; exact h5
  · rw [u2_ne (by omega)]; exact h6
  · rw [u2_row (by omega)]; exact ht i hi
def onceR (X : Tp) (s : SkR) (S : Mem) (C b : Nat) (W V : Vw) (U : Uw) (D : Dw) (q0 : Nat) (r : Sum Nat (Nat × SkR)) (Y : Option (Unit × Mem)) : Prop := ∃ S' W' V' U' law' nc', Y = some ((), wC (wK S' b W') C V' U' D) ∧ xS b S S' ∧ mZ S' ≤ b + 8 ∧ mQ S' ≤ q0 + 2000 ∧ frG V V' ∧ uG U U' ∧ (shC S' C ∧ shK S' C b) ∧ cR X law' (psR r) nc' V' U' ∧ ∀ q s', r = .inr (q, s') → skI X s' S' C b W' V' U' q0
theorem gR5 {S : Mem} {C : Nat} {W V : Vw} {U : Uw} {D : Dw} {b : Nat} (h : shC S C) (hb : D 8 7 = b) : gR (wC (wK S b W) C V U D) 6 7 (C + 8) = some b := by
  unfold gR
  rw [if_pos (show mK (wC (wK S b W) C V U D) (C + 8) = 6 from h.2.1), wC_mRd (by decide) (by unfold dyn; omega), hb]
theorem c_onceL {X : Tp} {law nc p b t q0 : Nat} {s : SkR} {W : Vw} {F C : Nat} {S : Mem} {V : Vw} {U : Uw} {D : Dw} (h : shC S C) (hF : 10000 < F) (hX : okTp X) (hD : D 9 0 = C + 7) (hb : D 8 7 = b) (hC : C + 71 ≤ b) (hw : wfZ X s) (hp : p ≤ X.1) (ht : lT X p = t) (ht2 : t < 2) (hP : cP X law p 0 nc V U) (hI : skI X s S C b W V U q0) :
    onceR X s S C b W V U D q0 (pOnce X p t s) (fn_X6_readOnce F (C + 8) (nI t) (wC (wK S b W) C V U D)) := by
  have hh : ∀ W, shC (wK S b W) C := fun _ => h
  obtain ⟨hG, h84, hZ, hQ, hlw, hlr, -, hK⟩ := hI
  have hT64 := hw.2.1
  have hz2 := zc_le (T := zT s)
  have et := told_is (t := t) hT64 (by omega)
  unfold pOnce
  by_cases hlo : lo (zT s) t = true
  · rw [if_pos hlo]
    obtain ⟨V1, e1, b1, b2, b3⟩ := c_failR (F := F) (k := 3) (x := 3) (r := .inr p) (D := D) (hh W) hX rfl (by omega) ⟨hp, hP⟩
    refine ⟨S, W, V1, U, law, nc, ?_, xS.rf, by omega, by omega, b1.g, uG.rf, ⟨h, hK⟩, b3, fun q s' e => by cases e⟩
    unfold fn_X6_readOnce
    simp (disch := first | assumption | exact inB_n (by omega) (by decide) | exact inB_l (by omega) (by decide) | exact inB_al (by omega) (by decide) | exact inB_la (by omega) (by decide) | exact inB_j (by assumption) (by omega) (by decide) | exact inB_e (by assumption) (by decide) | omega) only [↓fun W => eC (hh W), ↓bd_r, ↓Option.bind_some, h84]
    rw [if_neg (fun q => by rw [et.mp q] at hlo; cases hlo), e1]
    rfl
  · have hlo : lo (zT s) t = false := by simpa using hlo
    rw [if_neg (by rw [hlo]; decide)]
    have eo := told_or (t := t) hlo hT64 (by omega)
    have ez := zc_set (t := t) hlo hT64 (by omega)
    rw [if_pos ht2] at ez
    have ez2 := zc_le (T := zT s + 2 ^ t)
    obtain ⟨V1, U1, a1, a2, a3, a4⟩ := c_stepP (F := F) (D := D) (hh W) hF hX hD hp (hP.u84 (v := nI (zT s + 2 ^ t)))
    have ha := lE_adv hp ht (by omega)
    have hh1 : U1 12 = U 12 := a3 12 (by omega)
    rcases (by omega : t = 0 ∨ t = 1) with rfl | rfl
    · rw [if_pos rfl]
      obtain ⟨V2, U2, n, cd, c1, c2, c3, c4, c5, c6, c7⟩ := c_law (F := F) (law := 0) (b := b) (W := W) (D := D) h (by omega) hF hX hD ha.2 (by omega) a4 (by omega) hC
      obtain ⟨x1, x2, x3, x4, x5, x6, x7, x8⟩ := new_law (S := S) (b := b) (n := n) (kk := 10) (cd := cd) (by omega) (by omega)
      have y1 : fn_X6_readOnce F (C + 8) (nI 0) (wC (wK S b W) C V U D) = some ((), wC (wK (pR (pA (pNew S 10 n) (mZ S) cd) b 10 (some (mZ S))) b W) C V2 U2 D) := by
        unfold fn_X6_readOnce f_X6_readOnce_167
        simp (disch := first | assumption | exact inB_n (by omega) (by decide) | exact inB_l (by omega) (by decide) | exact inB_al (by omega) (by decide) | exact inB_la (by omega) (by decide) | exact inB_j (by assumption) (by omega) (by decide) | exact inB_e (by assumption) (by decide) | omega) only [↓fun W => eC (hh W), ↓bd_r, ↓Option.bind_some, h84]
        rw [if_pos (et.mpr hlo), eo]
        simp (disch := first | assumption | exact inB_n (by omega) (by decide) | exact inB_l (by omega) (by decide) | exact inB_al (by omega) (by decide) | exact inB_la (by omega) (by decide) | exact inB_j (by assumption) (by omega) (by decide) | exact inB_e (by assumption) (by decide) | omega) only [↓fun W => eC (hh W), ↓bd_r, ↓Option.bind_some, a1]
        rw [if_pos (show nI 0 = 0 from rfl), hb, c1, bd_r, sR_k (S := wC (wK (pA (pNew S 10 n) (mZ S) cd) b W) C V2 U2 D) (a := b) (ci := 5) (show mK (pNew S 10 n) b = 5 from (if_neg (by omega)).trans hK.1), wC_pRo (a := b) (hK.2.2 0 (by omega)), wK_pR]
      rw [y1]
      have eU := x1.2.1.1
      have hC' := h.xs x1 (by omega) hC
      have hK' := hK.xs x1 (by omega)
      refine ⟨_, W, V2, U2, 0, n, rfl, x1, by omega, by omega, fun j h8 h9 h13 => by rw [c3 j h8 h9 h13, a2.1 j h9, u2_row h8], (uG.of9 a3).tr (uG.of9 c5), ⟨hC', hK'⟩, ?_, fun q s' e => ?_⟩
      · cases hr : pTests X (pPart X 0 5) (lE X p) with
        | inl k => rw [hr] at c6; exact c6
        | inr z => rw [hr] at c6; exact c6
      · obtain ⟨⟨q2, f⟩, r1, r2⟩ := bS_r e
        cases r2
        obtain ⟨w1, w2⟩ := c7 q2 f r1
        refine ⟨⟨hG.1, hG.2.1, fun k hk => ⟨(hG.2.2 k hk).1, by rw [c5 12 (by omega), hh1]; exact (hG.2.2 k hk).2⟩⟩, by rw [c4, a2.1 8 (by omega)]; exact u2_eq ⟨rfl, rfl⟩, ?_, ?_, ⟨mZ S, x4, by omega, x6, by rw [x7]; exact w1, by rw [x7]; omega, by unfold inR; omega, by rw [x7, x8]; exact w2⟩, ?_, hC', hK'⟩
        · show _ = b + 6 + zc (zT s + 2 ^ 0)
          omega
        · show _ ≤ q0 + 1000 * zc (zT s + 2 ^ 0)
          omega
        · obtain ⟨w, v1, v2, v3⟩ := hlr
          exact ⟨w, by rw [x5 11 (by omega)]; exact v1, by omega, v3.xs x1 v2.1⟩
    · rw [if_neg (by decide), if_pos rfl]
      obtain ⟨V2, U2, n, cd, c1, c2, c3, c4, c5, c6, c7⟩ := c_law (F := F) (law := 1) (b := b) (W := W) (D := D) h (by omega) hF hX hD ha.2 (by omega) a4 (by omega) hC
      obtain ⟨x1, x2, x3, x4, x5, x6, x7, x8⟩ := new_law (S := S) (b := b) (n := n) (kk := 11) (cd := cd) (by omega) (by omega)
      have y1 : fn_X6_readOnce F (C + 8) (nI 1) (wC (wK S b W) C V U D) = some ((), wC (wK (pR (pA (pNew S 10 n) (mZ S) cd) b 11 (some (mZ S))) b W) C V2 U2 D) := by
        unfold fn_X6_readOnce f_X6_readOnce_167
        simp (disch := first | assumption | exact inB_n (by omega) (by decide) | exact inB_l (by omega) (by decide) | exact inB_al (by omega) (by decide) | exact inB_la (by omega) (by decide) | exact inB_j (by assumption) (by omega) (by decide) | exact inB_e (by assumption) (by decide) | omega) only [↓fun W => eC (hh W), ↓bd_r, ↓Option.bind_some, h84]
        rw [if_pos (et.mpr hlo), eo]
        simp (disch := first | assumption | exact inB_n (by omega) (by decide) | exact inB_l (by omega) (by decide) | exact inB_al (by omega) (by decide) | exact inB_la (by omega) (by decide) | exact inB_j (by assumption) (by omega) (by decide) | exact inB_e (by assumption) (by decide) | omega) only [↓fun W => eC (hh W), ↓bd_r, ↓Option.bind_some, a1]
        rw [if_neg (show ¬ nI 1 = 0 by decide), if_pos (show nI 1 = 1 from rfl), hb, c1, bd_r, sR_k (S := wC (wK (pA (pNew S 10 n) (mZ S) cd) b W) C V2 U2 D) (a := b) (ci := 5) (show mK (pNew S 10 n) b = 5 from (if_neg (by omega)).trans hK.1), wC_pRo (a := b) (hK.2.2 0 (by omega)), wK_pR]
      rw [y1]
      have eU := x1.2.1.1
      have hC' := h.xs x1 (by omega) hC
      have hK' := hK.xs x1 (by omega)
      refine ⟨_, W, V2, U2, 1, n, rfl, x1, by omega, by omega, fun j h8 h9 h13 => by rw [c3 j h8 h9 h13, a2.1 j h9, u2_row h8], (uG.of9 a3).tr (uG.of9 c5), ⟨hC', hK'⟩, ?_, fun q s' e => ?_⟩
      · cases hr : pTests X (pPart X 1 5) (lE X p) with
        | inl k => rw [hr] at c6; exact c6
        | inr z => rw [hr] at c6; exact c6
      · obtain ⟨⟨q2, f⟩, r1, r2⟩ := bS_r e
        cases r2
        obtain ⟨w1, w2⟩ := c7 q2 f r1
        refine ⟨⟨hG.1, hG.2.1, fun k hk => ⟨(hG.2.2 k hk).1, by rw [c5 12 (by omega), hh1]; exact (hG.2.2 k hk).2⟩⟩, by rw [c4, a2.1 8 (by omega)]; exact u2_eq ⟨rfl, rfl⟩, ?_, ?_, ?_, ⟨mZ S, x4, by omega, x6, by rw [x7]; exact w1, by rw [x7]; omega, by unfold inR; omega, by rw [x7, x8]; exact w2⟩, hC', hK'⟩
        · show _ = b + 6 + zc (zT s + 2 ^ 1)
          omega
        · show _ ≤ q0 + 1000 * zc (zT s + 2 ^ 1)
          omega
        · obtain ⟨w, v1, v2, v3⟩ := hlw
          exact ⟨w, by rw [x5 10 (by omega)]; exact v1, by omega, v3.xs x1 v2.1⟩
theorem c_onceN {X : Tp} {law nc p b t q0 : Nat} {s : SkR} {W : Vw} {F C : Nat} {S : Mem} {V : Vw} {U : Uw} {D : Dw} (h : shC S C) (hF : 10000 < F) (hX : okTp X) (hD : D 9 0 = C + 7) (hb : D 8 7 = b) (hw : wfZ X s) (hp : p ≤ X.1) (ht : lT X p = t) (ht2 : 2 ≤ t ∧ t ≤ 5) (hP : cP X law p 0 nc V U) (hI : skI X s S C b W V U q0) :
    onceR X s S C b W V U D q0 (pOnce X p t s) (fn_X6_readOnce F (C + 8) (nI t) (wC (wK S b W) C V U D)) := by
  have hh : ∀ W, shC (wK S b W) C := fun _ => h
  obtain ⟨hG, h84, hZ, hQ, hlw, hlr, -, hK⟩ := hI
  have hT64 := hw.2.1
  have hz2 := zc_le (T := zT s)
  have et := told_is (t := t) hT64 (by omega)
  unfold pOnce
  by_cases hlo : lo (zT s) t = true
  · rw [if_pos hlo]
    obtain ⟨V1, e1, b1, b2, b3⟩ := c_failR (F := F) (k := 3) (x := 3) (r := .inr p) (D := D) (hh W) hX rfl (by omega) ⟨hp, hP⟩
    refine ⟨S, W, V1, U, law, nc, ?_, xS.rf, by omega, by omega, b1.g, uG.rf, ⟨h, hK⟩, b3, fun q s' e => by cases e⟩
    unfold fn_X6_readOnce
    simp (disch := first | assumption | exact inB_n (by omega) (by decide) | exact inB_l (by omega) (by decide) | exact inB_al (by omega) (by decide) | exact inB_la (by omega) (by decide) | exact inB_j (by assumption) (by omega) (by decide) | exact inB_e (by assumption) (by decide) | omega) only [↓fun W => eC (hh W), ↓bd_r, ↓Option.bind_some, h84]
    rw [if_neg (fun q => by rw [et.mp q] at hlo; cases hlo), e1]
    rfl
  · have hlo : lo (zT s) t = false := by simpa using hlo
    rw [if_neg (by rw [hlo]; decide), if_neg (by omega), if_neg (by omega)]
    have eo := told_or (t := t) hlo hT64 (by omega)
    have ez := zc_set (t := t) hlo hT64 (by omega)
    rw [if_neg (by omega)] at ez
    obtain ⟨V1, U1, a1, a2, a3, a4⟩ := c_stepP (F := F) (D := D) (hh W) hF hX hD hp (hP.u84 (v := nI (zT s + 2 ^ t)))
    have hh1 : U1 12 = U 12 := a3 12 (by omega)
    have hb2 : loT t < 10000 ∧ hiT t < 10000 := by
      rcases (by omega : t = 2 ∨ t = 3 ∨ t = 4 ∨ t = 5) with rfl | rfl | rfl | rfl <;> decide
    obtain ⟨V2, U2, v, c1, c2, c3, c4, c5, c6⟩ := c_numR (F := F) (x1 := nI (loT t)) (x2 := nI (hiT t)) (r := .inr (lE X p)) (D := D) (hh W) hF hX hD rfl rfl hb2 ⟨(lE_b hp).2, a4⟩
    have y1 : fn_X6_readOnce F (C + 8) (nI t) (wC (wK S b W) C V U D) = some ((), wC (wK S b (u2 W 0 (t + 4) v)) C V2 U2 D) := by
      unfold fn_X6_readOnce f_X6_readOnce_167
      simp (disch := first | assumption | exact inB_n (by omega) (by decide) | exact inB_l (by omega) (by decide) | exact inB_al (by omega) (by decide) | exact inB_la (by omega) (by decide) | exact inB_j (by assumption) (by omega) (by decide) | exact inB_e (by assumption) (by decide) | omega) only [↓fun W => eC (hh W), ↓bd_r, ↓Option.bind_some, h84]
      rw [if_pos (et.mpr hlo), eo]
      simp (disch := first | assumption | exact inB_n (by omega) (by decide) | exact inB_l (by omega) (by decide) | exact inB_al (by omega) (by decide) | exact inB_la (by omega) (by decide) | exact inB_j (by assumption) (by omega) (by decide) | exact inB_e (by assumption) (by decide) | omega) only [↓fun W => eC (hh W), ↓bd_r, ↓Option.bind_some, a1]
      rcases (by omega : t = 2 ∨ t = 3 ∨ t = 4 ∨ t = 5) with rfl | rfl | rfl | rfl
      · have c1 : fn_X6_readNumber F (C + 8) 0 999 (wC (wK S b W) C V1 U1 D) = some (v, wC (wK S b W) C V2 U2 D) := c1
        rw [if_neg (show ¬ nI 2 = 0 by decide), if_neg (show ¬ nI 2 = 1 by decide), if_pos (show nI 2 = 2 from rfl), hb, c1, bd_r, k_sI hK]
      · have c1 : fn_X6_readNumber F (C + 8) 1 5 (wC (wK S b W) C V1 U1 D) = some (v, wC (wK S b W) C V2 U2 D) := c1
        rw [if_neg (show ¬ nI 3 = 0 by decide), if_neg (show ¬ nI 3 = 1 by decide), if_neg (show ¬ nI 3 = 2 by decide), if_pos (show nI 3 = 3 from rfl), hb, c1, bd_r, k_sI hK]
      · have c1 : fn_X6_readNumber F (C + 8) 1 20 (wC (wK S b W) C V1 U1 D) = some (v, wC (wK S b W) C V2 U2 D) := c1
        rw [if_neg (show ¬ nI 4 = 0 by decide), if_neg (show ¬ nI 4 = 1 by decide), if_neg (show ¬ nI 4 = 2 by decide), if_neg (show ¬ nI 4 = 3 by decide), if_pos (show nI 4 = 4 from rfl), hb, c1, bd_r, k_sI hK]
      · have c1 : fn_X6_readNumber F (C + 8) 0 50 (wC (wK S b W) C V1 U1 D) = some (v, wC (wK S b W) C V2 U2 D) := c1
        rw [if_neg (show ¬ nI 5 = 0 by decide), if_neg (show ¬ nI 5 = 1 by decide), if_neg (show ¬ nI 5 = 2 by decide), if_neg (show ¬ nI 5 = 3 by decide), if_neg (show ¬ nI 5 = 4 by decide), hb, c1, bd_r, k_sI hK]
    rw [y1]
    refine ⟨S, _, V2, U2, law, nc, rfl, xS.rf, by omega, by omega, fun j h8 h9 h13 => by rw [c2.1 j h8 h9 h13, a2.1 j h9, u2_row h8], (uG.of9 a3).tr (uG.of9 c3), ⟨h, hK⟩, ?_, fun q s' e => ?_⟩
    · cases hr : nuS X (loT t) (hiT t) (lE X p) with
      | inl k => rw [bS_i, hr] at c5; exact c5
      | inr z => rw [bS_i, hr] at c5; exact c5
    · obtain ⟨⟨q2, n⟩, r1, r2⟩ := bS_r e
      cases r2
      have hv := c6 q2 n r1
      refine ⟨⟨by rw [u2_ne (by omega)]; exact hG.1, ?_, fun k hk => ⟨fun j h1 h5 => by rw [u2_ne (by omega)]; exact (hG.2.2 k hk).1 j h1 h5, by rw [c3 12 (by omega), hh1]; exact (hG.2.2 k hk).2⟩⟩, by rw [c2.2 4 (by omega) (by omega), a2.1 8 (by omega)]; exact u2_eq ⟨rfl, rfl⟩, ?_, ?_, hlw, hlr, h, hK⟩
      · have gv : ∀ i, 2 ≤ i → i ≤ 5 → W 0 (i + 4) = nI (zV s i) := fun i h1 h2 => by
          rcases (by omega : i = 2 ∨ i = 3 ∨ i = 4 ∨ i = 5) with rfl | rfl | rfl | rfl
          · exact hG.2.1.1
          · exact hG.2.1.2.1
          · exact hG.2.1.2.2.1
          · exact hG.2.1.2.2.2
        have gv2 : ∀ i, 2 ≤ i → i ≤ 5 → u2 W 0 (t + 4) v 0 (i + 4) = nI (if i = t then n else zV s i) := fun i h1 h2 => by
          by_cases hi : i = t
          · rw [u2_eq ⟨rfl, by omega⟩, if_pos hi]; exact hv
          · rw [u2_ne (by omega), if_neg hi]; exact gv i h1 h2
        exact ⟨gv2 2 (by omega) (by omega), gv2 3 (by omega) (by omega), gv2 4 (by omega) (by omega), gv2 5 (by omega) (by omega)⟩
      · show _ = b + 6 + zc (zT s + 2 ^ t)
        omega
      · show _ ≤ q0 + 1000 * zc (zT s + 2 ^ t)
        omega
