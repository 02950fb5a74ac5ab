/-! count, lose, feed, mark -/
theorem J_up {z0 q0 n C b L lm : Nat} {xs : Nat → Int32} {S : Mem} {Vc : Vw} {Uc : Uw} {Dc : Dw} {Vm : Vw} {X : Tp} {K : SkyT} {s : Nat → Nat} (h : JD z0 q0 n S C Vc Uc Dc Vm X K s lm b L xs) : JD z0 q0 (n + 1) S C Vc Uc Dc Vm X K s lm b L xs := by
  have k := h.2.2.2.2.2.1
  exact J_go h (k.2.1.up (by omega)) ck.rf rfl dk.rf k.2.2.2.2.1 mk.rf k.2.2.2.2.2.2
theorem bj_count {F z0 q0 n C b L lm i : Nat} {xs : Nat → Int32} {k : Nat → Nat → Nat → Nat → Int32 → Mem → Option (Int32 × Mem)} {S : Mem} {Vc : Vw} {Uc : Uw} {Dc : Dw} {Vm : Vw} {Um : Uw} {X : Tp} {K : SkyT} {s : Nat → Nat} (hF : 10000 < F) (h : JD z0 q0 n S C Vc Uc Dc Vm X K s lm b L xs) (hL : L ≤ 3584) (hi : i + 7 ≤ L) (hn : 1000 * n + 1000 < 2 ^ 29) : JN z0 q0 (n + 1) C b L xs k i (br_21 F k b C (C + 71) (C + 103) (nI i) (JM S C Vc Uc Dc Vm Um)) := by
  obtain ⟨k1, k2, k3, k4, k5, k6, k7⟩ := h.2.2.2.2.2.1
  obtain ⟨t1, t2, t3, t4⟩ := h.2.2.2.2.1
  have a1 := ca_count (x := xs (i + 1)) (F := F) (S := wM S (C + 71) Vm Um) (V := Vc) (U := Uc) (D := Dc) h.1.1 hF k1 (cSky_wM k3 k4) rfl k5 k2 (by omega) t2.1
  obtain ⟨V2, U2, b1', b2, b3⟩ := ma_count (x := xs (i + 1)) (F := F) (S := wC S C Vc Uc Dc) (V := Vm) (U := Um) (shM_wC h.1.2.1) hF k1 k6 k7 k2 (by omega) t3.1
  rw [← wCM, ← wCM] at b1'
  refine ⟨S, Vc, Uc, Dc, V2, U2, X, K, s, lm, ?_, J_go h (k2.up (by omega)) ck.rf rfl dk.rf k5 b2 b3⟩
  unfold br_21 f_L_law_1084
  simp (disch := omega) only [nI_la, J_gA h hL, J_calC h, J_calM h, a1, b1', ↓bd_r, ↓reduceIte]
theorem bj_lose {F z0 q0 n C b L lm i : Nat} {xs : Nat → Int32} {k : Nat → Nat → Nat → Nat → Int32 → Mem → Option (Int32 × Mem)} {S : Mem} {Vc : Vw} {Uc : Uw} {Dc : Dw} {Vm : Vw} {Um : Uw} {X : Tp} {K : SkyT} {s : Nat → Nat} (hF : 10000 < F) (h : JD z0 q0 n S C Vc Uc Dc Vm X K s lm b L xs) (hL : L ≤ 3584) (hi : i + 7 ≤ L) (hn : 1000 * n + 1000 < 2 ^ 29) : JN z0 q0 (n + 1) C b L xs k i (br_6 F k b C (C + 71) (C + 103) (nI i) (JM S C Vc Uc Dc Vm Um)) := by
  obtain ⟨k1, k2, k3, k4, k5, k6, k7⟩ := h.2.2.2.2.2.1
  have key : ∀ y : Int32, (y = if xs (i + 2) = 0 then 0 else 1) → JN z0 q0 (n + 1) C b L xs k i (br_6 F k b C (C + 71) (C + 103) (nI i) (JM S C Vc Uc Dc Vm Um)) := by
    intro y hy
    obtain ⟨V1, D1, a1, a2, a3, a4⟩ := ca_lose (x := xs (i + 1)) (y := y) (F := F) (S := wM S (C + 71) Vm Um) (V := Vc) (U := Uc) (D := Dc) h.1.1 hF k1 (cSky_wM k3 k4) rfl k5 k2 (by omega)
    obtain ⟨V2, U2, b1', b2, b3⟩ := ma_lose (x := xs (i + 1)) (y := y) (F := F) (S := wC S C V1 Uc D1) (V := Vm) (U := Um) (shM_wC h.1.2.1) hF k1 k6 k7 k2 (by omega)
    rw [← wCM, ← wCM] at b1'
    refine ⟨S, V1, Uc, D1, V2, U2, X, K, _, lm, ?_, J_go h (s' := _) (by
      by_cases hc : okLo K s (xs (i + 1)) y = true
      · rw [if_pos hc]
        unfold okLo at hc
        rw [Bool.and_eq_true] at hc
        obtain ⟨j, j1, j2⟩ := isK_nI (by have := k1.1.1; omega) hc.1
        rw [j2, nI_clamp (by have := k1.1.1; omega)]
        exact (wf_lo k2 k1 j1).up (by omega)
      · rw [if_neg hc]; exact k2.up (by omega)) a2 rfl a3 a4 b2 b3⟩
    unfold br_6 f_L_law_492 f_L_law_516 f_L_law_1084
    by_cases h0 : xs (i + 2) = 0
    · rw [if_pos h0] at hy
      subst hy
      simp (disch := omega) only [nI_la, J_gA h hL, if_pos h0, J_calC h, J_calM h, a1, b1', ↓bd_r, ↓reduceIte]
    · rw [if_neg h0] at hy
      subst hy
      simp (disch := omega) only [nI_la, J_gA h hL, if_neg h0, J_calC h, J_calM h, a1, b1', ↓bd_r, ↓reduceIte]
  exact key _ rfl
theorem bj_feed {F z0 q0 n C b L lm i : Nat} {xs : Nat → Int32} {k : Nat → Nat → Nat → Nat → Int32 → Mem → Option (Int32 × Mem)} {S : Mem} {Vc : Vw} {Uc : Uw} {Dc : Dw} {Vm : Vw} {Um : Uw} {X : Tp} {K : SkyT} {s : Nat → Nat} (hF : 10000 < F) (h : JD z0 q0 n S C Vc Uc Dc Vm X K s lm b L xs) (hL : L ≤ 3584) (hi : i + 7 ≤ L) (hn : 1000 * n + 1000 < 2 ^ 29) : JN z0 q0 (n + 1) C b L xs k i (br_0 F k b C (C + 71) (C + 103) (nI i) (JM S C Vc Uc Dc Vm Um)) := by
  have hu := J_up h
  obtain ⟨t1, t2, t3, t4⟩ := h.2.2.2.2.1
  have key : ∀ a1 a2 a3 : Int64, ∃ V1 V2, fn_X8_feed F C a1 a2 a3 (wC (wM S (C + 71) Vm Um) C Vc Uc Dc) = some (nI (fed3 a1 a2 a3 X).1, wC (wM S (C + 71) Vm Um) C V1 Uc Dc) ∧ fn_X9_feed F (C + 71) a1 a2 a3 (wC (wM S (C + 71) Vm Um) C V1 Uc Dc) = some (nI (fed3 a1 a2 a3 X).1, wC (wM S (C + 71) V2 Um) C V1 Uc Dc) ∧ JD z0 q0 (n + 1) S C V1 Uc Dc V2 (fed3 a1 a2 a3 X) K s lm b L xs := by
    intro a1 a2 a3
    obtain ⟨V1, e1, e2, e3, e4⟩ := ca_feed (a := a1) (b := a2) (c := a3) (F := F) (S := wM S (C + 71) Vm Um) (V := Vc) (U := Uc) (D := Dc) h.1.1 (by omega) t1 t2
    obtain ⟨V2, f1, f2, f3⟩ := ma_feed (a := a1) (b := a2) (c := a3) (F := F) (S := wC S C V1 Uc Dc) (V := Vm) (U := Um) (shM_wC h.1.2.1) (by omega) t1 t3
    rw [← wCM, ← wCM] at f1
    refine ⟨V1, V2, e1, f1, ?_⟩
    obtain ⟨h1, h2, h3, h4, h5, ⟨k1, k2, k3, k4, k5, k6, k7⟩, l1, l2, l3, l4⟩ := hu
    have msk : ∀ r K', mSky Vm r K' → mSky V2 r K' := fun r K' q => q.keep (fun j hj => f3 j (by omega) (by omega))
    refine ⟨h1, h2, h3, h4, ⟨okTp_3 t1, e2, f2, t4⟩, ⟨k1, k2, k3, k4, k5.keep (fun j hj => e3 _ (by omega) (by omega)), msk 0 K k6, fun j hj => by rw [f3 24 (by omega) (by omega)]; exact k7 j hj⟩, l1, by rw [e4 8 (by omega)]; exact l2, fun m hm => by rw [f3 31 (by omega) (by omega)]; exact l3 m hm, fun m hm hl => ?_⟩
    obtain ⟨K', s9, c1, c2, c3, c4, c5, c6, c7⟩ := l4 m hm hl
    exact ⟨K', s9, c1, c2, c3, c4, c5.keep (fun j hj => e3 _ (by omega) (by omega)), msk _ _ c6, fun j hj => by rw [f3 26 (by omega) (by omega)]; exact c7 j hj⟩
  unfold br_0 f_L_law_1084
  simp (disch := omega) only [nI_la, J_gA h hL, J_calC h]
  obtain ⟨V1, V2, g1, g2, g3⟩ := key ((xs (i + 1)).toInt64 <<< ((32 : Int32).toInt64 &&& 63) ||| (xs (i + 2)).toInt64 &&& 4294967295) ((xs (i + 3)).toInt64 <<< ((32 : Int32).toInt64 &&& 63) ||| (xs (i + 4)).toInt64 &&& 4294967295) ((xs (i + 5)).toInt64 <<< ((32 : Int32).toInt64 &&& 63) ||| (xs (i + 6)).toInt64 &&& 4294967295)
  refine ⟨S, V1, Uc, Dc, V2, Um, _, K, s, lm, ?_, g3⟩
  rw [g1, bd_r]
  simp (disch := omega) only [J_gA h hL, J_calM h]
  rw [g2, bd_r, if_pos rfl]
theorem br20_eq {y v : Int32} {V1 : Vw} {U1 : Uw} {D1 : Dw} {V2 : Vw} {U2 : Uw} {F z0 q0 n C b L lm i : Nat} {xs : Nat → Int32} {k : Nat → Nat → Nat → Nat → Int32 → Mem → Option (Int32 × Mem)} {S : Mem} {Vc : Vw} {Uc : Uw} {Dc : Dw} {Vm : Vw} {Um : Uw} {X : Tp} {K : SkyT} {s : Nat → Nat} (hF : 10000 < F) (h : JD z0 q0 n S C Vc Uc Dc Vm X K s lm b L xs) (hL : L ≤ 3584) (hi : i + 7 ≤ L) (hn : 1000 * n + 1000 < 2 ^ 29) (hy : y = if xs (i + 2) = 0 then 0 else 1) (a1 : fn_X8_mark F C (xs (i + 1)) y (wC (wM S (C + 71) Vm Um) C Vc Uc Dc) = some (v, wC (wM S (C + 71) Vm Um) C V1 U1 D1)) (b1' : fn_X9_mark F (C + 71) (xs (i + 1)) y (wC (wM S (C + 71) Vm Um) C V1 U1 D1) = some (v, wC (wM S (C + 71) V2 U2) C V1 U1 D1)) :
    br_20 F k b C (C + 71) (C + 103) (nI i) (JM S C Vc Uc Dc Vm Um) = k b C (C + 71) (C + 103) (nI (i + 7)) (JM S C V1 U1 D1 V2 U2) := by
  unfold br_20 f_L_law_1027 f_L_law_1051 f_L_law_1084
  by_cases h0 : xs (i + 2) = 0
  · rw [if_pos h0] at hy
    subst hy
    simp (disch := omega) only [nI_la, J_gA h hL, if_pos h0, J_calC h, J_calM h, a1, b1', ↓bd_r, ↓reduceIte]
  · rw [if_neg h0] at hy
    subst hy
    simp (disch := omega) only [nI_la, J_gA h hL, if_neg h0, J_calC h, J_calM h, a1, b1', ↓bd_r, ↓reduceIte]
theorem bj_mark {F z0 q0 n C b L lm i : Nat} {xs : Nat → Int32} {k : Nat → Nat → Nat → Nat → Int32 → Mem → Option (Int32 × Mem)} {S : Mem} {Vc : Vw} {Uc : Uw} {Dc : Dw} {Vm : Vw} {Um : Uw} {X : Tp} {K : SkyT} {s : Nat → Nat} (hF : 10000 < F) (h : JD z0 q0 n S C Vc Uc Dc Vm X K s lm b L xs) (hL : L ≤ 3584) (hi : i + 7 ≤ L) (hn : 1000 * n + 1000 < 2 ^ 29) : JN z0 q0 (n + 1) C b L xs k i (br_20 F k b C (C + 71) (C + 103) (nI i) (JM S C Vc Uc Dc Vm Um)) := by
  have hu := J_up h
  have h9 := h
  obtain ⟨h1, h2, h3, h4, ⟨t1, t2, t3, t4⟩, ⟨k1, k2, k3, k4, k5, k6, k7⟩, l1, l2, l3, l4⟩ := h
  have mk0 : mk Vm (u2 Vm 0 0 0) := ⟨fun j hj _ => u2_row hj, u2_ne (by omega)⟩
  have m24 : mS (u2 Vm 0 0 0) s := fun j hj => by rw [u2_ne (by omega)]; exact k7 j hj
  have none : ∀ y : Int32, (y = if xs (i + 2) = 0 then 0 else 1) → fn_X8_mark F C (xs (i + 1)) y (wC (wM S (C + 71) Vm Um) C Vc Uc Dc) = some (0, wC (wM S (C + 71) Vm Um) C Vc Uc Dc) → fn_X9_mark F (C + 71) (xs (i + 1)) y (wM (wC S C Vc Uc Dc) (C + 71) Vm Um) = some (0, wM (wC S C Vc Uc Dc) (C + 71) (u2 Vm 0 0 0) Um) → JN z0 q0 (n + 1) C b L xs k i (br_20 F k b C (C + 71) (C + 103) (nI i) (JM S C Vc Uc Dc Vm Um)) := by
    intro y hy a1 b1'
    rw [← wCM, ← wCM] at b1'
    exact ⟨S, Vc, Uc, Dc, u2 Vm 0 0 0, Um, X, K, s, lm, br20_eq hF h9 hL hi hn hy a1 b1', J_go h9 (k2.up (by omega)) ck.rf rfl dk.rf k5 mk0 m24⟩
  by_cases hx : inr (xs (i + 1)) 0 3 = true
  · obtain ⟨m, -, m3, hm⟩ := inr_nI (a := 0) (b := 3) (by decide) (by decide) hx
    have hm4 : m < 4 := by omega
    by_cases h0 : xs (i + 2) = 0
    · have hy : (0 : Int32) = if xs (i + 2) = 0 then 0 else 1 := by rw [if_pos h0]
      obtain ⟨V1, a1, a2, a3, a4, a5⟩ := ca_markL (m := m) (lm := lm) (K := K) (s := s) (F := F) (S := wM S (C + 71) Vm Um) (V := Vc) (U := Uc) (D := Dc) h1.1 hm4 l1 l2 k1 k5 k2.2.2.2.1
      obtain ⟨V2, b1', b2, b3, b4, b5, b6, b7, b8, b9, b10⟩ := ma_markL (m := m) (K := K) (s := s) (F := F) (S := wC S C V1 Uc (u2 Dc (43 + 7 * m) 0 (Dc 28 0))) (V := Vm) (U := Um) (shM_wC h1.2.1) hF hm4 k1 k6 k7
      rw [← wCM, ← wCM] at b1'
      rw [← hm] at a1 b1'
      refine ⟨S, V1, Uc, _, V2, Um, X, K, s, setB lm m, br20_eq hF h9 hL hi hn hy a1 b1', ?_⟩
      obtain ⟨-, s2, s3, -⟩ := setB_F ⟨lm, l1⟩ ⟨m, hm4⟩
      have s3 : ∀ j, j < 4 → lo (setB lm m) j = (lo lm j || decide (j = m)) := fun j hj => s3 ⟨j, hj⟩
      have d28 : u2 Dc (43 + 7 * m) 0 (Dc 28 0) 28 0 = Dc 28 0 := u2_ne (by omega)
      refine ⟨h1, h2, h3, ⟨h4.1, by omega, by omega⟩, ⟨t1, ⟨by rw [a3 1 (by omega)]; exact t2.1, fun j hj => by rw [a2 7 (by omega) (by omega)]; exact t2.2 j hj⟩, ⟨by rw [b2]; exact t3.1, fun j hj => by rw [b3]; exact t3.2 j hj⟩, t4⟩, ⟨k1, k2.up (by omega), by rw [d28]; exact k3, by rw [d28]; exact k4, k5.keep (fun j hj => a2 _ (by omega) (by omega)), b7 0 K (by omega) k6 k1.1.1, b8⟩, s2, a4, fun j hj => ?_, fun j hj hl => ?_⟩
      · rw [s3 j hj]
        by_cases hjm : j = m
        · rw [hjm, b5, decide_eq_true rfl, Bool.or_true]; rfl
        · rw [b4 j hj hjm, decide_eq_false hjm, Bool.or_false]; exact l3 j hj
      · by_cases hjm : j = m
        · subst hjm
          have dj : u2 Dc (43 + 7 * j) 0 (Dc 28 0) (43 + 7 * j) 0 = Dc 28 0 := u2_eq ⟨rfl, rfl⟩
          exact ⟨K, s, k1, k2.up (by omega), by rw [dj]; exact k3, by rw [dj]; exact k4, a5, b6, b9⟩
        · rw [s3 j hj, decide_eq_false hjm, Bool.or_false] at hl
          obtain ⟨K', s9, c1, c2, c3, c4, c5, c6, c7⟩ := l4 j hj hl
          have dj : u2 Dc (43 + 7 * m) 0 (Dc 28 0) (43 + 7 * j) 0 = Dc (43 + 7 * j) 0 := u2_ne (by omega)
          exact ⟨K', s9, c1, c2.up (by omega), by rw [dj]; exact c3, by rw [dj]; exact c4, c5.keep (fun q hq => a2 _ (by omega) (by omega)), b7 _ _ (by omega) c6 c1.1.1, fun q hq => by rw [b10 _ (by omega)]; exact c7 q hq⟩
    · have hy : (1 : Int32) = if xs (i + 2) = 0 then 0 else 1 := by rw [if_neg h0]
      cases hlo : lo lm m with
      | true =>
        obtain ⟨K', s9, c1, c2, c3, c4, c5, c6, c7⟩ := l4 m hm4 hlo
        obtain ⟨V1, a1, a2, a3⟩ := ca_markB (m := m) (lm := lm) (K := K') (s := s9) (y := 1) (F := F) (S := wM S (C + 71) Vm Um) (V := Vc) (U := Uc) (D := Dc) h1.1 hm4 (by decide) l1 l2 hlo c1 c5 c2.2.2.2.1
        have lm1 : Vm 31 m = 1 := by rw [l3 m hm4, hlo]; rfl
        obtain ⟨V2, b1', b2, b3, b4, b5, b6, b7, b8⟩ := ma_markB (m := m) (K := K') (s := s9) (y := 1) (F := F) (S := wC S C V1 Uc (u2 Dc 28 0 (Dc (43 + 7 * m) 0))) (V := Vm) (U := Um) (shM_wC h1.2.1) hF hm4 (by decide) lm1 c1 c6 c7
        rw [← wCM, ← wCM] at b1'
        rw [← hm] at a1 b1'
        refine ⟨S, V1, Uc, _, V2, Um, X, K', s9, lm, br20_eq hF h9 hL hi hn hy a1 b1', ?_⟩
        have d28 : u2 Dc 28 0 (Dc (43 + 7 * m) 0) 28 0 = Dc (43 + 7 * m) 0 := u2_eq ⟨rfl, rfl⟩
        refine ⟨h1, h2, h3, ⟨h4.1, by omega, by omega⟩, ⟨t1, ⟨by rw [a2 0 (by omega)]; exact t2.1, fun j hj => by rw [a2 7 (by omega)]; exact t2.2 j hj⟩, ⟨by rw [b2]; exact t3.1, fun j hj => by rw [b3]; exact t3.2 j hj⟩, t4⟩, ⟨c1, c2.up (by omega), by rw [d28]; exact c3, by rw [d28]; exact c4, a3, b5, b7⟩, l1, by rw [a2 0 (by omega)]; exact l2, fun j hj => by rw [b4 j hj]; exact l3 j hj, fun j hj hl => ?_⟩
        obtain ⟨K2, s2, e1, e2, e3, e4, e5, e6, e7⟩ := l4 j hj hl
        have dj : u2 Dc 28 0 (Dc (43 + 7 * m) 0) (43 + 7 * j) 0 = Dc (43 + 7 * j) 0 := u2_ne (by omega)
        exact ⟨K2, s2, e1, e2.up (by omega), by rw [dj]; exact e3, by rw [dj]; exact e4, e5.keep (fun q hq => a2 _ (by omega)), b6 _ _ (by omega) e6 e1.1.1, fun q hq => by rw [b8]; exact e7 q hq⟩
      | false =>
        have a1 := ca_markN (m := m) (lm := lm) (y := 1) (F := F) (S := wM S (C + 71) Vm Um) (V := Vc) (U := Uc) (D := Dc) h1.1 hm4 (by decide) l1 l2 hlo
        have lm0 : Vm 31 m = 0 := by rw [l3 m hm4, hlo]; rfl
        have b1' := ma_markN (m := m) (y := 1) (F := F) (S := wC S C Vc Uc Dc) (V := Vm) (U := Um) (shM_wC h1.2.1) hm4 (by decide) lm0
        rw [← hm] at a1 b1'
        exact none 1 hy a1 b1'
  · have hx : inr (xs (i + 1)) 0 3 = false := by simpa using hx
    exact none _ rfl (ca_markO hx) (ma_markO (shM_wC h1.2.1) hx)
