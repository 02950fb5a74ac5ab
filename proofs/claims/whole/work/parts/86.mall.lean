/-! the model reads what is told once, and a tape whole -/
theorem sZ_sI {S : Mem} {ci k a : Nat} {v : Int32} (hv : v = 0 ∨ v = 1) : sZ S ci k a v = sI S ci k a v := by
  unfold sZ sI
  by_cases h : mK S a = ci
  · rw [if_pos ⟨h, hv⟩, if_pos h]
  · rw [if_neg (fun q => h q.1), if_neg h]
theorem tl_is {T w : Nat} (hT : T < 64) (hw : w < 4) : ((nI (T / 4) >>> (nI w &&& 31)) &&& 1 = 1) ↔ lo T (w + 2) = true := by
  have key : ∀ T : Fin 64, ∀ w : Fin 4, ((nI (T.val / 4) >>> (nI w.val &&& 31)) &&& 1 = 1) ↔ lo T.val (w.val + 2) = true := by decide +kernel
  exact key ⟨T, hT⟩ ⟨w, hw⟩
theorem tl_or {T w : Nat} (h : lo T (w + 2) = false) (hT : T < 64) (hw : w < 4) : nI (T / 4) ||| ((1 : Int32) <<< (nI w &&& 31)) = nI ((T + 2 ^ (w + 2)) / 4) := by
  have key : ∀ T : Fin 64, ∀ w : Fin 4, lo T.val (w.val + 2) = false → nI (T.val / 4) ||| ((1 : Int32) <<< (nI w.val &&& 31)) = nI ((T.val + 2 ^ (w.val + 2)) / 4) := by decide +kernel
  exact key ⟨T, hT⟩ ⟨w, hw⟩ h
theorem tl_lw {T l : Nat} (h : lo T l = false) (hT : T < 64) (hl : l < 2) : (T + 2 ^ l) / 4 = T / 4 := by
  have key : ∀ T : Fin 64, ∀ l : Fin 2, lo T.val l.val = false → (T.val + 2 ^ l.val) / 4 = T.val / 4 := by decide +kernel
  exact key ⟨T, hT⟩ ⟨l, hl⟩ h
theorem rz_b {b : Bool} {S : Mem} : rz (b1 b) S = some (b1 b, S) := by
  cases b with
  | true => exact rz_1 S
  | false => exact rz_0 S
theorem q_one {X : Tp} {s : SkR} {p w : Nat} {x1 x2 x3 : Int32} {F M : Nat} {S : Mem} {V : Vw} {U : Uw} (h : shM S M) (hF : 10000 < F) (hX : okTp X) (hw9 : wfZ X s) (hp : p ≤ X.1) (hw : w < 4) (hx1 : x1 = nI w) (hx2 : x2 = nI (loT (w + 2))) (hx3 : x3 = nI (hiT (w + 2))) (ht9 : lT X p = w + 2) (hG : mG X s p V U) : mOut X (stR (pOnce X p (w + 2) s) X) S M V U (fn_X9_readsOne F M x1 x2 x3 (wM S M V U)) := by
  obtain ⟨hL, ht, hV, hk, h21, nc, h20, hnc1, hnc2, hl2, hl3⟩ := hG
  have hT64 := hw9.2.1
  have et := tl_is (w := w) hT64 hw
  subst hx1
  unfold fn_X9_readsOne
  by_cases hlo : lo (zT s) (w + 2) = true
  · have ep : pOnce X p (w + 2) s = .inl (3 + 16 * lB X p) := by unfold pOnce; rw [if_pos hlo]
    refine mOut_bad (V' := u2 V 0 9 (nI (3 + 16 * lB X p))) (U' := U) (by rw [ep]; rfl) ?_ (frS.u (by omega)) uS.rf (u2_eq ⟨rfl, rfl⟩)
    simp only [↓eM h, h21]
    rw [if_pos (et.mpr hlo), q_fails (k := 3) (x := 3) h hL rfl, bd_r, rz_0]
  · have hlo2 : lo (zT s) (w + 2) = false := by simpa using hlo
    have eo := tl_or (w := w) hlo2 hT64 hw
    have ep : pOnce X p (w + 2) s = bS (nuS X (loT (w + 2)) (hiT (w + 2)) (lE X p)) fun z => .inr (z.1, zT s + 2 ^ (w + 2), zN s, (fun i => if i = w + 2 then z.2 else zV s i), zF s, zW s, zR s) := by
      unfold pOnce
      rw [if_neg hlo, if_neg (by omega), if_neg (by omega)]
    have a0 := lE_adv2 hp ht9 (by omega)
    have hL1 : mL X p (u2 V 0 21 (nI ((zT s + 2 ^ (w + 2)) / 4))) U := mL_fr hL (fun k hk => u2_ne (by omega))
    obtain ⟨V2, U2, b1', b2, b3, b4⟩ := q_nextL (F := F) h hF hX hp hL1 (ht.keep (u2_row (by omega)))
    have t2 : mx V2 X := ht.keep (by rw [b2.1 1 (by omega), u2_row (by omega)])
    have hb2 : loT (w + 2) < 10000 ∧ hiT (w + 2) < 10000 := by
      rcases (by omega : w = 0 ∨ w = 1 ∨ w = 2 ∨ w = 3) with rfl | rfl | rfl | rfl <;> decide
    obtain ⟨V3, U3, c1, c2, c3, c4, c5⟩ := q_num (F := F) h hF hX a0.2 b4 t2 hx2 hx3 hb2
    have f3 : frS V V3 := ((frS.u (k := 21) (by omega)).tr (frS.ofN (fN.of0 b2))).tr (frS.ofN c2)
    have u3 : uS U U3 := (uS.of0 b3).tr (uS.of0 c3)
    simp only [↓eM h, h21]
    rw [if_neg (fun q => hlo (et.mp q)), eo]
    simp only [↓eM h, b1', ↓bd_r, c1]
    cases h1 : nuS X (loT (w + 2)) (hiT (w + 2)) (lE X p) with
    | inl k =>
      rw [if_pos (show b1 (isR (Sum.inl k : Sum Nat (Nat × Nat))) = 0 from rfl), rz_0]
      exact mOut_bad (by rw [ep, h1]; rfl) rfl f3 u3 (c4 k h1)
    | inr z =>
      obtain ⟨q, n⟩ := z
      rw [if_neg (show ¬ b1 (isR (Sum.inr (q, n) : Sum Nat (Nat × Nat))) = 0 from (by decide : ¬ (1 : Int32) = 0))]
      obtain ⟨d1, d2⟩ := c5 q n h1
      obtain ⟨g1, g2, g3, g4, g5⟩ := nuS_r h1
      have a1 := lE_adv2 a0.2 g1 (by decide)
      have hq : q ≤ X.1 := by rw [g2]; exact a1.2
      have t3 : mx V3 X := t2.keep (c2.1 1 (by omega))
      have hL4 : mL X q (u2 V3 2 (5 + w) (nI n)) U3 := mL_fr d2 (fun k hk => u2_ne (by omega))
      obtain ⟨V5, U5, e1, e2, e3, e4, e5⟩ := q_ends (F := F) h hF hX hq hL4 (t3.keep (u2_row (by omega)))
      have i30 : inB (nI (5 + w)) 30 := inB_n (by omega) (by decide)
      have er : stR (pOnce X p (w + 2) s) X = bS (exS X 34 q) fun q' => .inr (q', zT s + 2 ^ (w + 2), zN s, (fun i => if i = w + 2 then n else zV s i), zF s, zW s, zR s) := by rw [ep, h1]; rfl
      have f5 : frS V V5 := (f3.tr (frS.u (by omega))).tr (frS.ofN e2)
      have u5 := u3.tr (uS.of0 e3)
      have eY : ((gR (wM S M V3 U3) 8 10 M).bind fun v8 => (gI (wM S M V3 U3) 8 35 M).bind fun v9 => (sA (wM S M V3 U3) v8 ((5 : Int32) + nI w) v9).bind fun S10 => bd (cal S10 8 M (fn_X9_ends F M S10)) fun v11 S12 => rz v11 S12) = some (b1 (isR (exS X 34 q)), wM S M V5 U5) := by
        simp (disch := first | assumption | exact inB_n (by omega) (by decide) | exact inB_l (by omega) (by decide) | exact inB_al (by omega) (by decide) | exact inB_la (by omega) (by decide) | exact inB_j (by assumption) (by omega) (by decide) | exact inB_e (by assumption) (by decide) | omega) only [↓eM h, ↓bd_r, ↓lt_r, ↓Option.bind_some, ↓reduceIte, ix_nI, ix_l, nI_al, nI_la, nI_lm, u2_ne, u2_eq, nI_leI, nI_ltI, nI_eq, le_ln, le_nl, lt_ln, lt_nl, eq_nl, eq_ln, d1, e1, rz_b]
      simp only [↓eM h] at eY
      rw [eY]
      cases hx : exS X 34 q with
      | inl k => exact mOut_bad (by rw [er, hx]; rfl) rfl f5 u5 (e4 k hx)
      | inr q' =>
        have hxr := exS_r hx
        have a2 := lE_adv2 hq hxr.1 (by decide)
        rw [hx, bS_i] at er
        rw [er]
        refine ⟨V5, U5, rfl, f5, u5, fun k e => (by cases e), fun q'' s' e => ?_⟩
        cases e
        have rw9 : ∀ j i, j ≠ 0 → (j ≠ 2 ∨ i ≠ 5 + w) → V5 j i = V j i := fun j i h0 h2 => by
          rw [e2.1 j h0, u2_ne (by omega), c2.1 j h0, b2.1 j h0, u2_row h0]
        have v0 : ∀ k, k = 20 ∨ k = 21 → V5 0 k = u2 V 0 21 (nI ((zT s + 2 ^ (w + 2)) / 4)) 0 k := fun k hk => by
          rw [e2.2 k (by omega) (by omega) (by omega) (by omega) (by omega) (by omega), u2_ne (by omega), c2.2 k (by omega) (by omega) (by omega) (by omega) (by omega) (by omega), b2.2 k (by omega) (by omega) (by omega) (by omega)]
        have gv : ∀ i, 2 ≤ i → i ≤ 5 → V 2 (3 + i) = nI (zV s i) := fun i h1 h2 => by
          rcases (by omega : i = 2 ∨ i = 3 ∨ i = 4 ∨ i = 5) with rfl | rfl | rfl | rfl
          · exact hV.1
          · exact hV.2.1
          · exact hV.2.2.1
          · exact hV.2.2.2.1
        have gv2 : ∀ i, 2 ≤ i → i ≤ 5 → V5 2 (3 + i) = nI (if i = w + 2 then n else zV s i) := fun i h1 h2 => by
          by_cases hi : i = w + 2
          · rw [e2.1 2 (by omega), u2_eq ⟨rfl, by omega⟩, if_pos hi]
          · rw [rw9 2 (3 + i) (by omega) (by omega), if_neg hi]; exact gv i h1 h2
        refine ⟨e5 q' hx, ht.keep (f5.1 1 (by omega)), ⟨gv2 2 (by omega) (by omega), gv2 3 (by omega) (by omega), gv2 4 (by omega) (by omega), gv2 5 (by omega) (by omega), ?_⟩, fun k hk' => ?_, ?_, nc, ?_, hnc1, by omega, ?_, ?_⟩
        · rw [rw9 2 9 (by omega) (by omega)]; exact hV.2.2.2.2
        · have qk := hk k hk'
          refine ⟨fun j h1 h5 => by rw [rw9 (2 + j) (6 + k) (by omega) (by omega)]; exact qk.1 j h1 h5, ?_⟩
          rw [e3 8 (by omega), c3 8 (by omega), b3 8 (by omega)]
          exact qk.2
        · rw [v0 21 (by omega)]; exact u2_eq ⟨rfl, rfl⟩
        · rw [v0 20 (by omega), u2_ne (by omega)]; exact h20
        · exact hl2.cg (rw9 9 2 (by omega) (by omega)) (rw9 10 2 (by omega) (by omega)) (fun i _ => rw9 11 i (by omega) (by omega)) (Nat.le_refl _)
        · exact hl3.cg (rw9 9 3 (by omega) (by omega)) (rw9 10 3 (by omega) (by omega)) (fun i _ => rw9 11 i (by omega) (by omega)) (Nat.le_refl _)
def lwZ (s : SkR) (l : Nat) : Option Den := if l = 0 then zW s else zR s
theorem q_lawS {X : Tp} {s : SkR} {p l : Nat} {x1 : Int32} {F M : Nat} {S : Mem} {V : Vw} {U : Uw} (h : shM S M) (hF : 10000 < F) (hX : okTp X) (hw9 : wfZ X s) (hp : p ≤ X.1) (hl : l < 2) (hx1 : x1 = nI l) (ht9 : lT X p = l) (hG : mG X s p V U) : mOut X (stR (pOnce X p l s) X) S M V U (fn_X9_readsLaw F M x1 (wM S M V U)) := by
  obtain ⟨hL, ht, hV, hk, h21, nc, h20, hnc1, hnc2, hl2, hl3⟩ := hG
  have hT64 := hw9.2.1
  have hX1 := hX.1
  subst hx1
  have hln : lnM V (2 + l) nc (lwZ s l) := by
    rcases (by omega : l = 0 ∨ l = 1) with rfl | rfl
    · exact hl2
    · exact hl3
  have hlo9 : lo (zT s) l = (lwZ s l).isSome := by
    rcases (by omega : l = 0 ∨ l = 1) with rfl | rfl
    · exact hw9.2.2.1
    · exact hw9.2.2.2.1
  obtain ⟨a, b, g1, g2, g3, g4, g5, g6⟩ := hln
  have i12 : inB (nI (2 + l)) 12 := inB_n (by omega) (by decide)
  unfold fn_X9_readsLaw
  by_cases hlo : lo (zT s) l = true
  · have ep : pOnce X p l s = .inl (3 + 16 * lB X p) := by unfold pOnce; rw [if_pos hlo]
    rw [hlo] at hlo9
    cases hz : lwZ s l with
    | none => rw [hz] at hlo9; cases hlo9
    | some f =>
      rw [hz] at g6
      have hab : a < b := g6.1
      refine mOut_bad (V' := u2 V 0 9 (nI (3 + 16 * lB X p))) (U' := U) (by rw [ep]; rfl) ?_ (frS.u (by omega)) uS.rf (u2_eq ⟨rfl, rfl⟩)
      simp (disch := first | assumption | exact inB_n (by omega) (by decide) | exact inB_l (by omega) (by decide) | exact inB_al (by omega) (by decide) | exact inB_la (by omega) (by decide) | exact inB_j (by assumption) (by omega) (by decide) | exact inB_e (by assumption) (by decide) | omega) only [↓eM h, ↓bd_r, ↓lt_r, ↓Option.bind_some, ↓reduceIte, ix_nI, ix_l, nI_al, nI_la, nI_lm, u2_ne, u2_eq, nI_leI, nI_ltI, nI_eq, le_ln, le_nl, lt_ln, lt_nl, eq_nl, eq_ln, g1, g2, if_neg (show ¬ b ≤ a by omega), q_fails (k := 3) (x := 3) h hL rfl, rz_0]
  · have hlo2 : lo (zT s) l = false := by simpa using hlo
    rw [hlo2] at hlo9
    cases hz : lwZ s l with
    | some f => rw [hz] at hlo9; cases hlo9
    | none =>
      rw [hz] at g6
      have hab : a = b := g6
      subst hab
      have ep : stR (pOnce X p l s) X = bS (pTests X (pPart X l 5) (lE X p)) fun z => bS (exS X 34 z.1) fun q => .inr (q, zT s + 2 ^ l, zN s, zV s, zF s, (if l = 0 then some z.2 else zW s), (if l = 0 then zR s else some z.2)) := by
        unfold pOnce stR
        rw [if_neg hlo]
        rcases (by omega : l = 0 ∨ l = 1) with rfl | rfl
        · rw [if_pos rfl]
          cases pTests X (pPart X 0 5) (lE X p) <;> rfl
        · rw [if_neg (by decide), if_pos rfl]
          cases pTests X (pPart X 1 5) (lE X p) <;> rfl
      have a0 := lE_adv2 hp ht9 (by omega)
      have hL1 : mL X p (u2 V 0 22 (nI l)) U := mL_fr hL (fun k hk => u2_ne (by omega))
      obtain ⟨V2, U2, b1', b2, b3, b4⟩ := q_nextL (F := F) h hF hX hp hL1 (ht.keep (u2_row (by omega)))
      have t2 : mx V2 X := ht.keep (by rw [b2.1 1 (by omega), u2_row (by omega)])
      have w20 : V2 0 20 = nI nc := by rw [b2.2 20 (by omega) (by omega) (by omega) (by omega), u2_ne (by omega)]; exact h20
      have w22 : V2 0 22 = nI l := by rw [b2.2 22 (by omega) (by omega) (by omega) (by omega), u2_eq ⟨rfl, rfl⟩]
      have hL3 : mL X (lE X p) (u2 V2 9 (2 + l) (nI nc)) U2 := mL_fr b4 (fun k hk => u2_ne (by omega))
      have q9 := q_reads (F := F) h hF hX hl a0.2 hL3 (t2.keep (u2_row (by omega))) (by rw [u2_ne (by omega)]; exact w22) (by rw [u2_ne (by omega)]; exact w20) (show nc + X.1 < 6000 + lE X p by omega)
      have f3 : frS V (u2 V2 9 (2 + l) (nI nc)) := ((frS.u (k := 22) (by omega)).tr (frS.ofN (fN.of0 b2))).tr (frS.u (by omega))
      have u3 : uS U U2 := uS.of0 b3
      have frMS : ∀ V4, frM (u2 V2 9 (2 + l) (nI nc)) V4 → (∀ i, i < nc ∨ nc + X.1 ≤ i + lE X p → V4 11 i = u2 V2 9 (2 + l) (nI nc) 11 i) → frS (u2 V2 9 (2 + l) (nI nc)) V4 := fun V4 m m11 => ⟨fun j hj => m.1 j (by omega) (by omega) (by omega) (by omega), fun i _ => by rw [m.1 2 (by omega) (by omega) (by omega) (by omega)], fun j h1 h2 i _ => by rw [m.1 j (by omega) (by omega) (by omega) (by omega)], fun j hj i _ => by rw [m.1 j (by omega) (by omega) (by omega) (by omega)], fun i hi => m11 i (by omega), fun k hk => m.2 k (by omega) (by omega) (by omega) (by omega) (by omega) (by omega)⟩
      -- what the call comes to
      have eY : ∀ (v : Int32) (V4 : Vw) (U4 : Uw), fn_X9_reads F M (wM S M (u2 V2 9 (2 + l) (nI nc)) U2) = some (v, wM S M V4 U4) → fn_X9_readsLaw F M (nI l) (wM S M V U) = if v = 0 then some (0, wM S M V4 U4) else some (1, wM S M (u2 V4 10 (2 + l) (V4 0 20)) U4) := by
        intro v V4 U4 er
        have e36 : f_X9_readsLaw_36 F M (nI l) M (nI l) (wM S M V U) = if v = 0 then some (0, wM S M V4 U4) else some (1, wM S M (u2 V4 10 (2 + l) (V4 0 20)) U4) := by
          unfold f_X9_readsLaw_36
          rw [sZ_sI (show nI l = 0 ∨ nI l = 1 from (show l = 0 ∨ l = 1 by omega).imp (fun q => by rw [q]; rfl) (fun q => by rw [q]; rfl))]
          simp (disch := first | assumption | exact inB_n (by omega) (by decide) | exact inB_l (by omega) (by decide) | exact inB_al (by omega) (by decide) | exact inB_la (by omega) (by decide) | exact inB_j (by assumption) (by omega) (by decide) | exact inB_e (by assumption) (by decide) | omega) only [↓eM h, ↓bd_r, ↓lt_r, ↓Option.bind_some, ↓reduceIte, ix_nI, ix_l, nI_al, nI_la, nI_lm, u2_ne, u2_eq, nI_leI, nI_ltI, nI_eq, le_ln, le_nl, lt_ln, lt_nl, eq_nl, eq_ln, b1', w20, er, rz_0, rz_1]
        unfold fn_X9_readsLaw
        simp (disch := first | assumption | exact inB_n (by omega) (by decide) | exact inB_l (by omega) (by decide) | exact inB_al (by omega) (by decide) | exact inB_la (by omega) (by decide) | exact inB_j (by assumption) (by omega) (by decide) | exact inB_e (by assumption) (by decide) | omega) only [↓eM h, ↓bd_r, ↓lt_r, ↓Option.bind_some, ↓reduceIte, ix_nI, ix_l, nI_al, nI_la, nI_lm, u2_ne, u2_eq, nI_leI, nI_ltI, nI_eq, le_ln, le_nl, lt_ln, lt_nl, eq_nl, eq_ln, g1, g2, Nat.le_refl]
        rcases (by omega : l = 0 ∨ l = 1) with rfl | rfl
        · rw [if_neg (by decide)]; exact e36
        · rw [if_pos (by decide)]; exact e36
      unfold fn_X9_readsLaw at eY
      cases hr : pTests X (pPart X l 5) (lE X p) with
      | inl k =>
        rw [hr] at q9
        obtain ⟨V4, U4, c1, c2, c3, c4, c5⟩ := q9
        rw [eY 0 V4 U4 c1, if_pos rfl]
        exact mOut_bad (by rw [ep, hr]; rfl) rfl (f3.tr (frMS V4 c2 c5)) (u3.tr (uS.of0 c3)) c4
      | inr z =>
        obtain ⟨q, f⟩ := z
        rw [hr] at q9
        obtain ⟨V4, U4, c1, c2, c3, c4, c5, c6⟩ := q9
        rw [eY _ V4 U4 c1]
        have hqa := pTests_adv (fun p hp => pPart_adv (X := X) (law := l) 5 p hp) (lE X p) a0.2 q f hr
        have f4 := f3.tr (frMS V4 c2 c4)
        have u4 := u3.tr (uS.of0 c3)
        by_cases h34 : lT X q = 34
        · rw [decide_eq_true h34, if_neg (show ¬ b1 true = 0 by decide)]
          obtain ⟨d1, nc', d2, d3, d4, d5⟩ := c6 h34
          have a2 := lE_adv2 hqa.2 h34 (by decide)
          have er : stR (pOnce X p l s) X = .inr (lE X q, zT s + 2 ^ l, zN s, zV s, zF s, (if l = 0 then some f else zW s), (if l = 0 then zR s else some f)) := by
            rw [ep, hr, bS_i]
            show bS (exS X 34 q) _ = _
            unfold exS
            rw [if_pos h34]
            rfl
          rw [er]
          refine ⟨u2 V4 10 (2 + l) (V4 0 20), U4, rfl, f4.tr (frS.u (by omega)), u4, fun k e => (by cases e), fun q' s' e => ?_⟩
          cases e
          have rw9 : ∀ j i, j ≠ 0 → j ≠ 11 → j ≠ 12 → j ≠ 13 → (j ≠ 9 ∨ i ≠ 2 + l) → (j ≠ 10 ∨ i ≠ 2 + l) → u2 V4 10 (2 + l) (V4 0 20) j i = V j i := fun j i h0 h11 h12 h13 h9 h10 => by
            rw [u2_ne (by omega), c2.1 j h0 h11 h12 h13, u2_ne (by omega), b2.1 j h0, u2_row h0]
          have r11 : ∀ i, i < nc → u2 V4 10 (2 + l) (V4 0 20) 11 i = V 11 i := fun i hi => by
            rw [u2_ne (by omega), c4 i (by omega), u2_ne (by omega), b2.1 11 (by omega), u2_row (by omega)]
          have l9 : u2 V4 10 (2 + l) (V4 0 20) 9 (2 + l) = nI nc := by rw [u2_ne (by omega), c2.1 9 (by omega) (by omega) (by omega) (by omega), u2_eq ⟨rfl, rfl⟩]
          have l10 : u2 V4 10 (2 + l) (V4 0 20) 10 (2 + l) = nI nc' := by rw [u2_eq ⟨rfl, rfl⟩]; exact d2
          have lnew : lnM (u2 V4 10 (2 + l) (V4 0 20)) (2 + l) nc' (some f) := ⟨nc, nc', l9, l10, hnc1, by omega, Nat.le_refl _, d3, by rw [u2_row (by omega)]; exact d5⟩
          refine ⟨mL_fr d1 (fun k hk => u2_ne (by omega)), t2.keep (by rw [u2_row (by omega), c2.1 1 (by omega) (by omega) (by omega) (by omega), u2_row (by omega)]), ⟨?_, ?_, ?_, ?_, ?_⟩, fun k hk' => ?_, ?_, nc', ?_, by omega, by omega, ?_, ?_⟩
          · rw [rw9 2 5 (by omega) (by omega) (by omega) (by omega) (by omega) (by omega)]; exact hV.1
          · rw [rw9 2 6 (by omega) (by omega) (by omega) (by omega) (by omega) (by omega)]; exact hV.2.1
          · rw [rw9 2 7 (by omega) (by omega) (by omega) (by omega) (by omega) (by omega)]; exact hV.2.2.1
          · rw [rw9 2 8 (by omega) (by omega) (by omega) (by omega) (by omega) (by omega)]; exact hV.2.2.2.1
          · rw [rw9 2 9 (by omega) (by omega) (by omega) (by omega) (by omega) (by omega)]; exact hV.2.2.2.2
          · have qk := hk k hk'
            refine ⟨fun j h1 h5 => by rw [rw9 (2 + j) (6 + k) (by omega) (by omega) (by omega) (by omega) (by omega) (by omega)]; exact qk.1 j h1 h5, ?_⟩
            rw [c3 8 (by omega), b3 8 (by omega)]
            exact qk.2
          · rw [u2_ne (by omega), c2.2 21 (by omega) (by omega) (by omega) (by omega) (by omega) (by omega), u2_ne (by omega), b2.2 21 (by omega) (by omega) (by omega) (by omega), u2_ne (by omega), h21]
            show _ = nI ((zT s + 2 ^ l) / 4)
            rw [tl_lw hlo2 hT64 hl]
          · rw [u2_ne (by omega)]; exact d2
          · rcases (by omega : l = 0 ∨ l = 1) with rfl | rfl
            · exact lnew
            · exact hl2.cg (rw9 9 2 (by omega) (by omega) (by omega) (by omega) (by omega) (by omega)) (rw9 10 2 (by omega) (by omega) (by omega) (by omega) (by omega) (by omega)) r11 (by omega)
          · rcases (by omega : l = 0 ∨ l = 1) with rfl | rfl
            · exact hl3.cg (rw9 9 3 (by omega) (by omega) (by omega) (by omega) (by omega) (by omega)) (rw9 10 3 (by omega) (by omega) (by omega) (by omega) (by omega) (by omega)) r11 (by omega)
            · exact lnew
        · rw [decide_eq_false h34, if_pos (show b1 false = 0 from rfl)]
          refine mOut_bad (k := 1 + 16 * lB X q) ?_ rfl f4 u4 (c5 h34)
          rw [ep, hr, bS_i]
          show bS (exS X 34 q) _ = _
          unfold exS
          rw [if_neg h34]
          rfl
