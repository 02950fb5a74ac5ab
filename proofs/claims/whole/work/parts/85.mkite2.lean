/-! a kite, whole: the model's -/
def stR (r : Sum Nat (Nat × SkR)) (X : Tp) : Sum Nat (Nat × SkR) := bS r fun z => bS (exS X 34 z.1) fun q => .inr (q, z.2)
theorem mOut_bad {X : Tp} {r : Sum Nat (Nat × SkR)} {S : Mem} {M k : Nat} {V V' : Vw} {U U' : Uw} {Y : Option (Int32 × Mem)} (hr : r = .inl k) (hY : Y = some (0, wM S M V' U')) (hf : frS V V') (hu : uS U U') (h9 : V' 0 9 = nI k) : mOut X r S M V U Y := by
  subst hr
  exact ⟨V', U', hY, hf, hu, fun k' e => (by cases e; exact h9), fun q s' e => (by cases e)⟩
theorem mG_k {X : Tp} {s : SkR} {p : Nat} {V : Vw} {U : Uw} (h : mG X s p V U) : V 2 9 = nI (zN s) := h.2.2.1.2.2.2.2
set_option maxHeartbeats 1000000 in
theorem q_kite {X : Tp} {s : SkR} {p : Nat} {F M : Nat} {S : Mem} {V : Vw} {U : Uw} (h : shM S M) (hF : 10000 < F) (hX : okTp X) (hw : wfZ X s) (hp : p ≤ X.1) (h6 : lT X p = 6) (hG : mG X s p V U) : mOut X (stR (pKite X p s) X) S M V U (fn_X9_readsKite F M (wM S M V U)) := by
  have hn6 := hw.1
  obtain ⟨hL, ht, hV, hk, h21, nc, h20, hnc1, hnc2, hl2, hl3⟩ := hG
  have h29 : V 2 9 = nI (zN s) := hV.2.2.2.2
  have hX1 := hX.1
  unfold fn_X9_readsKite
  by_cases hn : 6 ≤ zN s
  · have e6 : zN s = 6 := by omega
    have ep : pKite X p s = .inl (5 + 16 * lB X p) := by unfold pKite; rw [if_pos hn]
    refine mOut_bad (V' := u2 V 0 9 (nI (5 + 16 * lB X p))) (U' := U) (by rw [ep]; rfl) ?_ (frS.u (by omega)) uS.rf (u2_eq ⟨rfl, rfl⟩)
    simp (disch := first | assumption | exact inB_n (by omega) (by decide) | exact inB_l (by omega) (by decide) | exact inB_al (by omega) (by decide) | exact inB_la (by omega) (by decide) | exact inB_j (by assumption) (by omega) (by decide) | exact inB_e (by assumption) (by decide) | omega) only [↓eM h, ↓bd_r, ↓lt_r, ↓Option.bind_some, ↓reduceIte, ix_nI, ix_l, nI_al, nI_la, nI_lm, u2_ne, u2_eq, nI_leI, nI_ltI, nI_eq, le_ln, le_nl, lt_ln, lt_nl, eq_nl, eq_ln, h29, e6, q_fails (k := 5) (x := 5) h hL rfl, rz_0]
  · have hn' : zN s < 6 := by omega
    have a0 := lE_adv2 hp h6 (by decide)
    obtain ⟨V1, U1, b1', b2, b3, b4⟩ := q_nextL (F := F) h hF hX hp hL ht
    have t1 : mx V1 X := ht.keep (b2.1 1 (by omega))
    have k1 := q_isKept (F := F) h a0.2 b4
    have e0 : ∀ (G : Mem → Option (Int32 × Mem)), ((gR (wM S M V U) 8 10 M).bind fun v1 => (gA (wM S M V U) 10 v1 (9 : Int32)).bind fun v2 => if v2 = (6 : Int32) then bd (cal (wM S M V U) 8 M (fn_X9_fails F M (5 : Int32) (wM S M V U))) fun v12 S13 => rz v12 S13 else (gR (wM S M V U) 8 10 M).bind fun v3 => (gA (wM S M V U) 10 v3 (9 : Int32)).bind fun v4 => lt (((6 : Int32) + v4)) fun v5 => bd (cal (wM S M V U) 8 M (fn_X9_nextToken F M (wM S M V U))) fun _ S7 => bd (cal S7 8 M (fn_X9_isKept F M S7)) fun v8 S9 => if v8 = 0 then fix3 (b_X9_readsKite_48 F) F M v5 (0 : Int32) S9 else bd (cal S9 8 M (fn_X9_fails F M (1 : Int32) S9)) fun v10 S11 => rz v10 S11) = if ¬ (19 < lT X (lE X p) ∧ lT X (lE X p) ≤ 25) then some (0, wM S M (u2 V1 0 9 (nI (1 + 16 * lB X (lE X p)))) U1) else fix3 (b_X9_readsKite_48 F) F M (nI (6 + zN s)) (nI 0) (wM S M V1 U1) := by
      intro _
      by_cases hc : 19 < lT X (lE X p) ∧ lT X (lE X p) ≤ 25
      · rw [decide_eq_false (fun q => q hc)] at k1
        rw [if_neg (fun q => q hc)]
        simp (disch := first | assumption | exact inB_n (by omega) (by decide) | exact inB_l (by omega) (by decide) | exact inB_al (by omega) (by decide) | exact inB_la (by omega) (by decide) | exact inB_j (by assumption) (by omega) (by decide) | exact inB_e (by assumption) (by decide) | omega) only [↓eM h, ↓bd_r, ↓lt_r, ↓Option.bind_some, ↓reduceIte, ix_nI, ix_l, nI_al, nI_la, nI_lm, u2_ne, u2_eq, nI_leI, nI_ltI, nI_eq, le_ln, le_nl, lt_ln, lt_nl, eq_nl, eq_ln, h29, if_neg (show ¬ zN s = 6 by omega), b1', k1, if_pos (show b1 false = 0 from rfl)]
        rfl
      · rw [decide_eq_true (show ¬ (19 < lT X (lE X p) ∧ lT X (lE X p) ≤ 25) from hc)] at k1
        rw [if_pos hc]
        simp (disch := first | assumption | exact inB_n (by omega) (by decide) | exact inB_l (by omega) (by decide) | exact inB_al (by omega) (by decide) | exact inB_la (by omega) (by decide) | exact inB_j (by assumption) (by omega) (by decide) | exact inB_e (by assumption) (by decide) | omega) only [↓eM h, ↓bd_r, ↓lt_r, ↓Option.bind_some, ↓reduceIte, ix_nI, ix_l, nI_al, nI_la, nI_lm, u2_ne, u2_eq, nI_leI, nI_ltI, nI_eq, le_ln, le_nl, lt_ln, lt_nl, eq_nl, eq_ln, h29, if_neg (show ¬ zN s = 6 by omega), b1', k1, if_neg (show ¬ b1 true = 0 by decide), q_fails (k := 1) (x := 1) h b4 rfl, rz_0]
    rw [e0 (fun _ => none)]
    have ep : pKite X p s = bS (naS X s (lE X p)) fun p2 => bS (kiS X p2) fun z3 => bS (wnS X 7 0 99 z3.1) fun z4 => bS (wnS X 8 1 20 z4.1) fun z5 => bS (wnS X 9 0 99 z5.1) fun z6 => bS (wnS X 10 0 40 z6.1) fun z7 => .inr (z7.1, zT s, zN s + 1, zV s, setK (zF s) (zN s) (six (lE X p) z3.2 z4.2 z5.2 z6.2 z7.2), zW s, zR s) := by unfold pKite; rw [if_neg hn]
    by_cases hc : 19 < lT X (lE X p) ∧ lT X (lE X p) ≤ 25
    · rw [if_neg (fun q => q hc)]
      have ew := b4.2.2.2.2.2 hc.2
      have h129 : V1 2 9 = nI (zN s) := by rw [b2.1 2 (by omega)]; exact h29
      rw [q_nameL h hn6 b4 h129 (zN s) 0 F (by omega) (by omega)]
      rw [anyB_cg (g' := fun j => decide (lW X (zF s 0 j) = lW X (lE X p))) (zN s) 0 (fun j _ hj => by
        have hj : j < zN s := by omega
        have q1 := (lW_lt a0.2 hc.2).2
        have q2 := hw.2.2.2.2.2.1 j hj
        have q3 := (lW_lt q2.2.2.2.2.2.1 q2.2.2.2.2.2.2).2
        show decide (U1 8 j = U1 0 7) = decide (lW X (zF s 0 j) = lW X (lE X p))
        rw [b3 8 (by omega), (hk j hj).2, ew]
        exact decide_eq_decide.mpr ((lN_eq2 (by omega) (by omega)).trans (lW_inj q2.2.2.2.2.2.1 q2.2.2.2.2.2.2 a0.2 hc.2).symm))]
      by_cases hd : anyB (fun j => decide (lW X (zF s 0 j) = lW X (lE X p))) 0 (zN s) = true
      · have en : naS X s (lE X p) = .inl (3 + 16 * lB X (lE X p)) := by unfold naS; rw [if_pos hc, if_pos hd]
        rw [if_pos hd]
        exact mOut_bad (by rw [ep, en]; rfl) rfl ((frS.ofN (fN.of0 b2)).tr (frS.ofN (fN.u (k := 9) (by omega)))) (uS.of0 b3) (u2_eq ⟨rfl, rfl⟩)
      · have en : naS X s (lE X p) = .inr (lE X (lE X p)) := by unfold naS; rw [if_pos hc, if_neg hd]
        rw [if_neg hd]
        have a1 := lE_adv2 a0.2 rfl (show lT X (lE X p) ≠ 35 by omega)
        -- the name is kept, the kind is read
        have hL2 : mL X (lE X p) V1 (u2 U1 8 (zN s) (U1 0 7)) := ⟨b4.1, b4.2.1, b4.2.2.1, b4.2.2.2.1, b4.2.2.2.2.1, fun q => by rw [u2_ne (by omega)]; exact b4.2.2.2.2.2 q⟩
        obtain ⟨V3, U3, c1, c2, c3, c4⟩ := q_nextL (F := F) h hF hX a0.2 hL2 t1
        have t3 : mx V3 X := t1.keep (c2.1 1 (by omega))
        have kk := q_kindAt (F := F) h a1.2 c4
        have i6 : inB (nI (zN s)) 6 := inB_n (by omega) (by decide)
        have i36 : inB (nI (6 + zN s)) 36 := inB_n (by omega) (by decide)
        by_cases hkd : 11 ≤ lT X (lE X (lE X p)) ∧ lT X (lE X (lE X p)) ≤ 16
        · have ek : kiS X (lE X (lE X p)) = .inr (lE X (lE X (lE X p)), lT X (lE X (lE X p)) - 11) := by unfold kiS; rw [if_pos hkd]
          rw [if_pos hkd] at kk
          generalize hkv : lT X (lE X (lE X p)) - 11 = n3 at ek kk
          have hn3 : n3 ≤ 5 := by omega
          have hL4 : mL X (lE X (lE X p)) (u2 V3 3 (6 + zN s) (nI n3)) U3 := mL_fr c4 (fun k hk => u2_ne (by omega))
          obtain ⟨V5, U5, d1, d2, d3, d4⟩ := q_nextL (F := F) h hF hX a1.2 hL4 (t3.keep (u2_row (by omega)))
          have t5 : mx V5 X := t3.keep (by rw [d2.1 1 (by omega), u2_row (by omega)])
          have a2 := lE_adv2 a1.2 rfl (show lT X (lE X (lE X p)) ≠ 35 by omega)
          have eT0 : kT0 F M (nI (6 + zN s)) (wM S M V1 U1) = kT1 F M (nI (6 + zN s)) (wM S M V5 U5) := by
            unfold kT0
            simp (disch := first | assumption | exact inB_n (by omega) (by decide) | exact inB_l (by omega) (by decide) | exact inB_al (by omega) (by decide) | exact inB_la (by omega) (by decide) | exact inB_j (by assumption) (by omega) (by decide) | exact inB_e (by assumption) (by decide) | omega) only [↓eM h, ↓bd_r, ↓lt_r, ↓Option.bind_some, ↓reduceIte, ix_nI, ix_l, nI_al, nI_la, nI_lm, u2_ne, u2_eq, nI_leI, nI_ltI, nI_eq, le_ln, le_nl, lt_ln, lt_nl, eq_nl, eq_ln, h129, c1, kk, d1, if_pos (show 0 ≤ n3 by omega)]
          rw [eT0]
          generalize hp3 : lE X (lE X (lE X p)) = p3 at ek d4 a2
          obtain ⟨V6, U6, e1, e2, e3, e4, e5⟩ := q_wn (F := F) (i := 7) (lw := 0) (hi := 99) (x1 := 0) (x2 := 99) (w := 47) (G := kT2 F M (nI (6 + zN s))) h hF hX a2.2 d4 t5 (by omega) rfl rfl rfl (by omega)
          have eT1 : kT1 F M (nI (6 + zN s)) (wM S M V5 U5) = if isR (wnS X 7 0 99 p3) = true then kT2 F M (nI (6 + zN s)) (wM S M V6 U6) else some (0, wM S M V6 U6) := by
            rw [← e1]
            rfl
          rw [eT1]
          -- the rows so far
          have r5 : kRow (zN s) V V5 := (((kRow.ofN (fN.of0 b2)).tr (kRow.ofN (fN.of0 c2))).tr (kRow.u (j := 3) (v := nI n3) (by omega))).tr (kRow.ofN (fN.of0 d2))
          have r6 : kRow (zN s) V V6 := r5.tr (kRow.ofN e2)
          have u8 : ∀ k, k < zN s → U6 8 k = U 8 k := fun k hk => by rw [e3 8 (by omega), d3 8 (by omega), c3 8 (by omega), u2_ne (by omega), b3 8 (by omega)]
          have u8n : U6 8 (zN s) = U1 0 7 := by rw [e3 8 (by omega), d3 8 (by omega), c3 8 (by omega), u2_eq ⟨rfl, rfl⟩]
          have uu : uS U U6 := fun j h0 h8 => by rw [e3 j h0, d3 j h0, c3 j h0, u2_row h8, b3 j h0]
          have v63 : V6 3 (6 + zN s) = nI n3 := by rw [e2.1 3 (by omega), d2.1 3 (by omega), u2_eq ⟨rfl, rfl⟩]
          have ep3 : pKite X p s = bS (wnS X 7 0 99 p3) fun z4 => bS (wnS X 8 1 20 z4.1) fun z5 => bS (wnS X 9 0 99 z5.1) fun z6 => bS (wnS X 10 0 40 z6.1) fun z7 => .inr (z7.1, zT s, zN s + 1, zV s, setK (zF s) (zN s) (six (lE X p) n3 z4.2 z5.2 z6.2 z7.2), zW s, zR s) := by
            rw [ep, en, bS_i, ek, bS_i]
          have pgt : p < p3 := by omega
          clear ep en ek eT0 eT1 e1 kk
          cases h7 : wnS X 7 0 99 p3 with
          | inl k =>
            rw [if_neg (show ¬ isR (Sum.inl k : Sum Nat (Nat × Nat)) = true from Bool.false_ne_true)]
            exact mOut_bad (by rw [ep3, h7]; rfl) rfl (r6.s hn') uu (e4 k h7)
          | inr z =>
            obtain ⟨q4, n4⟩ := z
            rw [if_pos (show isR (Sum.inr (q4, n4) : Sum Nat (Nat × Nat)) = true from rfl)]
            obtain ⟨g1, g2⟩ := e5 q4 n4 h7
            obtain ⟨w1, w2, w3, w4, w5⟩ := wnS_r h7
            have b5 := lE_adv2 a2.2 w1 (by decide)
            have b6 := lE_adv2 b5.2 w2 (by decide)
            have hq4 : q4 ≤ X.1 := by rw [w3]; exact b6.2
            have t6 : mx V6 X := t5.keep (e2.1 1 (by omega))
            obtain ⟨V8, U8, f1, f2, f3, f4, f5, f6⟩ := q_kT2 (F := F) h hF hX hq4 hn' g2 t6 g1
            rw [f1]
            rw [h7, bS_i] at ep3
            have ep3 : pKite X p s = bS (wnS X 8 1 20 q4) fun z5 => bS (wnS X 9 0 99 z5.1) fun z6 => bS (wnS X 10 0 40 z6.1) fun z7 => .inr (z7.1, zT s, zN s + 1, zV s, setK (zF s) (zN s) (six (lE X p) n3 n4 z5.2 z6.2 z7.2), zW s, zR s) := ep3
            have r8 := r6.tr f2
            cases h8 : wnS X 8 1 20 q4 with
            | inl k =>
              rw [if_neg (show ¬ isR (Sum.inl k : Sum Nat (Nat × Nat)) = true from Bool.false_ne_true)]
              exact mOut_bad (by rw [ep3, h8]; rfl) rfl (r8.s hn') (uu.tr (uS.of0 f3)) (f4 k h8)
            | inr z =>
              obtain ⟨q5, n5⟩ := z
              rw [if_pos (show isR (Sum.inr (q5, n5) : Sum Nat (Nat × Nat)) = true from rfl)]
              obtain ⟨g3, g4⟩ := f6 q5 n5 h8
              obtain ⟨x1, x2, x3, x4, x5⟩ := wnS_r h8
              have b7 := lE_adv2 hq4 x1 (by decide)
              have b8 := lE_adv2 b7.2 x2 (by decide)
              have hq5 : q5 ≤ X.1 := by rw [x3]; exact b8.2
              have t8 : mx V8 X := t6.keep (f2.1 1 (by omega) (by omega))
              obtain ⟨V10, U10, i1, i2, i3, i4, i5, i6'⟩ := q_kT3 (F := F) h hF hX hq5 hn' g4 t8 g3
              rw [i1]
              rw [h8, bS_i] at ep3
              have ep3 : pKite X p s = bS (wnS X 9 0 99 q5) fun z6 => bS (wnS X 10 0 40 z6.1) fun z7 => .inr (z7.1, zT s, zN s + 1, zV s, setK (zF s) (zN s) (six (lE X p) n3 n4 n5 z6.2 z7.2), zW s, zR s) := ep3
              have r10 := r8.tr i2
              cases h9 : wnS X 9 0 99 q5 with
              | inl k =>
                rw [if_neg (show ¬ isR (Sum.inl k : Sum Nat (Nat × Nat)) = true from Bool.false_ne_true)]
                exact mOut_bad (by rw [ep3, h9]; rfl) rfl (r10.s hn') ((uu.tr (uS.of0 f3)).tr (uS.of0 i3)) (i4 k h9)
              | inr z =>
                obtain ⟨q6, n6⟩ := z
                rw [if_pos (show isR (Sum.inr (q6, n6) : Sum Nat (Nat × Nat)) = true from rfl)]
                obtain ⟨g5, g6⟩ := i6' q6 n6 h9
                obtain ⟨y1, y2, y3, y4, y5⟩ := wnS_r h9
                have b9 := lE_adv2 hq5 y1 (by decide)
                have b10 := lE_adv2 b9.2 y2 (by decide)
                have hq6 : q6 ≤ X.1 := by rw [y3]; exact b10.2
                have t10 : mx V10 X := t8.keep (i2.1 1 (by omega) (by omega))
                obtain ⟨V12, U12, j1, j2, j3, j4, j5, j6⟩ := q_kT4 (F := F) h hF hX hq6 hn' g6 t10 g5
                rw [j1]
                rw [h9, bS_i] at ep3
                have ep3 : pKite X p s = bS (wnS X 10 0 40 q6) fun z7 => .inr (z7.1, zT s, zN s + 1, zV s, setK (zF s) (zN s) (six (lE X p) n3 n4 n5 n6 z7.2), zW s, zR s) := ep3
                have r12 := r10.tr j2
                have uu12 := ((uu.tr (uS.of0 f3)).tr (uS.of0 i3)).tr (uS.of0 j3)
                cases h10 : wnS X 10 0 40 q6 with
                | inl k =>
                  rw [if_neg (show ¬ isR (Sum.inl k : Sum Nat (Nat × Nat)) = true from Bool.false_ne_true)]
                  exact mOut_bad (by rw [ep3, h10]; rfl) rfl (r12.s hn') uu12 (j4 k h10)
                | inr z =>
                  obtain ⟨q7, n7⟩ := z
                  rw [if_pos (show isR (Sum.inr (q7, n7) : Sum Nat (Nat × Nat)) = true from rfl)]
                  obtain ⟨g7, g8⟩ := j6 q7 n7 h10
                  obtain ⟨v1, v2, v3, v4, v5⟩ := wnS_r h10
                  have b11 := lE_adv2 hq6 v1 (by decide)
                  have b12 := lE_adv2 b11.2 v2 (by decide)
                  have hq7 : q7 ≤ X.1 := by rw [v3]; exact b12.2
                  have t12 : mx V12 X := t10.keep (j2.1 1 (by omega) (by omega))
                  have h12 : V12 2 9 = nI (zN s) := by rw [r12.1 2 (by omega) (by omega)]; exact h29
                  obtain ⟨V', U', m1, m2, m3, m4, m5⟩ := q_kT5 (F := F) h hF hX hq7 hn' g8 t12 g7 h12
                  rw [m1]
                  rw [h10, bS_i] at ep3
                  have er : stR (pKite X p s) X = bS (exS X 34 q7) fun q => .inr (q, zT s, zN s + 1, zV s, setK (zF s) (zN s) (six (lE X p) n3 n4 n5 n6 n7), zW s, zR s) := by rw [ep3]; rfl
                  have fr9 := (r12.s hn').tr m2
                  have uu9 := uu12.tr (uS.of0 m3)
                  cases hx : exS X 34 q7 with
                  | inl k => exact mOut_bad (by rw [er, hx]; rfl) rfl fr9 uu9 (m4 k hx)
                  | inr q =>
                    obtain ⟨m6, m7⟩ := m5 q hx
                    have eq2 := exS_r hx
                    have b13 := lE_adv2 hq7 eq2.1 (by decide)
                    rw [hx, bS_i] at er
                    rw [er]
                    refine ⟨V', U', rfl, fr9, uu9, fun k e => (by cases e), fun q' s' e => ?_⟩
                    cases e
                    have row : ∀ j i, j ≠ 0 → (j ≠ 2 ∨ i ≠ 9) → (j ≠ 7 ∨ i ≠ 6 + zN s) → V' j i = V12 j i := fun j i h0 h2 h7 => by
                      rw [m7.1 j h0, u2_ne (by omega), u2_ne (by omega)]
                    have v0 : ∀ k, k = 20 ∨ k = 21 → V' 0 k = V 0 k := fun k hk => by
                      rw [m7.2 k (by omega) (by omega) (by omega) (by omega) (by omega) (by omega), u2_ne (by omega), u2_ne (by omega), r12.2.2 k (by omega) (by omega) (by omega) (by omega) (by omega) (by omega)]
                    have r2 : ∀ j i, j ≠ 0 → ¬ (3 ≤ j ∧ j ≤ 7) → (j ≠ 2 ∨ i ≠ 9) → V' j i = V j i := fun j i h0 h1 h2 => by
                      rw [row j i h0 h2 (by omega), r12.1 j h0 h1]
                    refine ⟨m6, ht.keep (fr9.1 1 (by omega)), ⟨?_, ?_, ?_, ?_, ?_⟩, fun k hk' => ?_, ?_, nc, ?_, hnc1, by omega, ?_, ?_⟩
                    · rw [r2 2 5 (by omega) (by omega) (by omega)]; exact hV.1
                    · rw [r2 2 6 (by omega) (by omega) (by omega)]; exact hV.2.1
                    · rw [r2 2 7 (by omega) (by omega) (by omega)]; exact hV.2.2.1
                    · rw [r2 2 8 (by omega) (by omega) (by omega)]; exact hV.2.2.2.1
                    · rw [m7.1 2 (by omega), u2_eq ⟨rfl, rfl⟩]; rfl
                    · have hk' : k < zN s + 1 := hk'
                      have eU : U' 8 k = U6 8 k := by rw [m3 8 (by omega), j3 8 (by omega), i3 8 (by omega), f3 8 (by omega)]
                      by_cases hkn : k = zN s
                      · subst hkn
                        have e9 : ∀ j, zF (zT s, zN s + 1, zV s, setK (zF s) (zN s) (six (lE X p) n3 n4 n5 n6 n7), zW s, zR s) j (zN s) = six (lE X p) n3 n4 n5 n6 n7 j := fun j => if_pos rfl
                        refine ⟨fun j h1 h5 => ?_, ?_⟩
                        · rw [e9]
                          rcases (by omega : j = 1 ∨ j = 2 ∨ j = 3 ∨ j = 4 ∨ j = 5) with rfl | rfl | rfl | rfl | rfl
                          · rw [row 3 _ (by omega) (by omega) (by omega), j5.1 3 (by omega), u2_ne (by omega), i5.1 3 (by omega), u2_ne (by omega), f5.1 3 (by omega), u2_ne (by omega)]; exact v63
                          · rw [row 4 _ (by omega) (by omega) (by omega), j5.1 4 (by omega), u2_ne (by omega), i5.1 4 (by omega), u2_ne (by omega), f5.1 4 (by omega), u2_eq ⟨rfl, rfl⟩]; rfl
                          · rw [row 5 _ (by omega) (by omega) (by omega), j5.1 5 (by omega), u2_ne (by omega), i5.1 5 (by omega), u2_eq ⟨rfl, rfl⟩]; rfl
                          · rw [row 6 _ (by omega) (by omega) (by omega), j5.1 6 (by omega), u2_eq ⟨rfl, rfl⟩]; rfl
                          · rw [m7.1 7 (by omega), u2_ne (by omega), u2_eq ⟨rfl, rfl⟩]; rfl
                        · rw [eU, u8n, e9]
                          exact ew
                      · have e9 : ∀ j, zF (zT s, zN s + 1, zV s, setK (zF s) (zN s) (six (lE X p) n3 n4 n5 n6 n7), zW s, zR s) j k = zF s j k := fun j => if_neg hkn
                        have qk := hk k (by omega)
                        refine ⟨fun j h1 h5 => ?_, ?_⟩
                        · rw [e9, row (2 + j) (6 + k) (by omega) (by omega) (by omega), r12.2.1 (2 + j) (by omega) (by omega) (6 + k) (by omega)]
                          exact qk.1 j h1 h5
                        · rw [eU, e9, u8 k (by omega)]
                          exact qk.2
                    · rw [v0 21 (by omega)]; exact h21
                    · rw [v0 20 (by omega)]; exact h20
                    · exact hl2.cg (r2 9 2 (by omega) (by omega) (by omega)) (r2 10 2 (by omega) (by omega) (by omega)) (fun i _ => r2 11 i (by omega) (by omega) (by omega)) (Nat.le_refl _)
                    · exact hl3.cg (r2 9 3 (by omega) (by omega) (by omega)) (r2 10 3 (by omega) (by omega) (by omega)) (fun i _ => r2 11 i (by omega) (by omega) (by omega)) (Nat.le_refl _)
        · have ek : kiS X (lE X (lE X p)) = .inl (1 + 16 * lB X (lE X (lE X p))) := by unfold kiS; rw [if_neg hkd]
          rw [if_neg hkd] at kk
          have hL4 : mL X (lE X (lE X p)) (u2 V3 3 (6 + zN s) (-1)) U3 := mL_fr c4 (fun k hk => u2_ne (by omega))
          have eT0 : kT0 F M (nI (6 + zN s)) (wM S M V1 U1) = some (0, wM S M (u2 (u2 V3 3 (6 + zN s) (-1)) 0 9 (nI (1 + 16 * lB X (lE X (lE X p))))) U3) := by
            unfold kT0
            simp (disch := first | assumption | exact inB_n (by omega) (by decide) | exact inB_l (by omega) (by decide) | exact inB_al (by omega) (by decide) | exact inB_la (by omega) (by decide) | exact inB_j (by assumption) (by omega) (by decide) | exact inB_e (by assumption) (by decide) | omega) only [↓eM h, ↓bd_r, ↓lt_r, ↓Option.bind_some, ↓reduceIte, ix_nI, ix_l, nI_al, nI_la, nI_lm, u2_ne, u2_eq, nI_leI, nI_ltI, nI_eq, le_ln, le_nl, lt_ln, lt_nl, eq_nl, eq_ln, h129, c1, kk, if_neg (show ¬ (0 : Int32) ≤ -1 by decide), q_fails (k := 1) (x := 1) h hL4 rfl, rz_0]
          rw [eT0]
          have r5 : kRow (zN s) V (u2 (u2 V3 3 (6 + zN s) (-1)) 0 9 (nI (1 + 16 * lB X (lE X (lE X p))))) := (((kRow.ofN (fN.of0 b2)).tr (kRow.ofN (fN.of0 c2))).tr (kRow.u (j := 3) (v := -1) (by omega))).tr (kRow.ofN (fN.u (k := 9) (by omega)))
          have uu : uS U U3 := fun j h0 h8 => by rw [c3 j h0, u2_row h8, b3 j h0]
          exact mOut_bad (by rw [ep, en, bS_i, ek]; rfl) rfl (r5.s hn') uu (u2_eq ⟨rfl, rfl⟩)
    · have en : naS X s (lE X p) = .inl (1 + 16 * lB X (lE X p)) := by unfold naS; rw [if_neg hc]
      rw [if_pos hc]
      exact mOut_bad (by rw [ep, en]; rfl) rfl ((frS.ofN (fN.of0 b2)).tr (frS.ofN (fN.u (k := 9) (by omega)))) (uS.of0 b3) (u2_eq ⟨rfl, rfl⟩)
