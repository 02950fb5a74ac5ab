/-! the calls that change no more than the night -/
theorem bj_kite {F z0 q0 n C b L lm i : Nat} {xs : Nat → Int32} {k : Nat → Nat → Nat → Nat → Int32 → Mem → Option (Int32 × Mem)} {S : Mem} {Vc : Vw} {Uc : Uw} {Dc : Dw} {Vm : Vw} {Um : Uw} {X : Tp} {K : SkyT} {s : Nat → Nat} (hF : 10000 < F) (h : JD z0 q0 n S C Vc Uc Dc Vm X K s lm b L xs) (hL : L ≤ 3584) (hi : i + 7 ≤ L) (hn : 1000 * n + 1000 < 2 ^ 29) : JN z0 q0 (n + 1) C b L xs k i (br_2 F k b C (C + 71) (C + 103) (nI i) (JM S C Vc Uc Dc Vm Um)) := by
  obtain ⟨k1, k2, k3, k4, k5, k6, k7⟩ := h.2.2.2.2.2.1
  obtain ⟨V1, D1, a1, a2, a3, a4⟩ := ca_kite (x := xs (i + 1)) (y := xs (i + 2)) (F := F) (S := wM S (C + 71) Vm Um) (V := Vc) (U := Uc) (D := Dc) h.1.1 hF k1 (cSky_wM k3 k4) rfl k5 k2 (by omega)
  obtain ⟨V2, U2, b1', b2, b3⟩ := ma_kite (x := xs (i + 1)) (y := xs (i + 2)) (F := F) (S := wC S C V1 Uc D1) (V := Vm) (U := Um) (shM_wC h.1.2.1) hF k1 k6 k7 k2 (by omega)
  rw [← wCM, ← wCM] at b1'
  refine ⟨S, V1, Uc, D1, V2, U2, X, K, _, lm, ?_, J_go h (s' := s) (k2.up (by omega)) a2 rfl a3 a4 b2 b3⟩
  unfold br_2 f_L_law_1084
  simp (disch := omega) only [nI_la, J_gA h hL, J_calC h, J_calM h, a1, b1', ↓bd_r, ↓reduceIte]
theorem bj_wind {F z0 q0 n C b L lm i : Nat} {xs : Nat → Int32} {k : Nat → Nat → Nat → Nat → Int32 → Mem → Option (Int32 × Mem)} {S : Mem} {Vc : Vw} {Uc : Uw} {Dc : Dw} {Vm : Vw} {Um : Uw} {X : Tp} {K : SkyT} {s : Nat → Nat} (hF : 10000 < F) (h : JD z0 q0 n S C Vc Uc Dc Vm X K s lm b L xs) (hL : L ≤ 3584) (hi : i + 7 ≤ L) (hn : 1000 * n + 1000 < 2 ^ 29) : JN z0 q0 (n + 1) C b L xs k i (br_3 F k b C (C + 71) (C + 103) (nI i) (JM S C Vc Uc Dc Vm Um)) := by
  obtain ⟨k1, k2, k3, k4, k5, k6, k7⟩ := h.2.2.2.2.2.1
  obtain ⟨V1, D1, a1, a2, a3, a4⟩ := ca_wind (x := xs (i + 1)) (F := F) (S := wM S (C + 71) Vm Um) (V := Vc) (U := Uc) (D := Dc) h.1.1 hF k1 (cSky_wM k3 k4) rfl k5 k2 (by omega)
  obtain ⟨V2, U2, b1', b2, b3⟩ := ma_wind (x := xs (i + 1)) (F := F) (S := wC S C V1 Uc D1) (V := Vm) (U := Um) (shM_wC h.1.2.1) hF k1 k6 k7 k2 (by omega)
  rw [← wCM, ← wCM] at b1'
  refine ⟨S, V1, Uc, D1, V2, U2, X, K, _, lm, ?_, J_go h (s' := s) (k2.up (by omega)) a2 rfl a3 a4 b2 b3⟩
  unfold br_3 f_L_law_1084
  simp (disch := omega) only [nI_la, J_gA h hL, J_calC h, J_calM h, a1, b1', ↓bd_r, ↓reduceIte]
theorem bj_whistle {F z0 q0 n C b L lm i : Nat} {xs : Nat → Int32} {k : Nat → Nat → Nat → Nat → Int32 → Mem → Option (Int32 × Mem)} {S : Mem} {Vc : Vw} {Uc : Uw} {Dc : Dw} {Vm : Vw} {Um : Uw} {X : Tp} {K : SkyT} {s : Nat → Nat} (hF : 10000 < F) (h : JD z0 q0 n S C Vc Uc Dc Vm X K s lm b L xs) (hL : L ≤ 3584) (hi : i + 7 ≤ L) (hn : 1000 * n + 1000 < 2 ^ 29) : JN z0 q0 (n + 1) C b L xs k i (br_5 F k b C (C + 71) (C + 103) (nI i) (JM S C Vc Uc Dc Vm Um)) := by
  obtain ⟨k1, k2, k3, k4, k5, k6, k7⟩ := h.2.2.2.2.2.1
  obtain ⟨V1, D1, a1, a2, a3, a4⟩ := ca_whistle (x := xs (i + 1)) (y := xs (i + 2)) (F := F) (S := wM S (C + 71) Vm Um) (V := Vc) (U := Uc) (D := Dc) h.1.1 hF k1 (cSky_wM k3 k4) rfl k5 k2 (by omega)
  obtain ⟨V2, U2, b1', b2, b3⟩ := ma_whistle (x := xs (i + 1)) (y := xs (i + 2)) (F := F) (S := wC S C V1 Uc D1) (V := Vm) (U := Um) (shM_wC h.1.2.1) hF k1 k6 k7 k2 (by omega)
  rw [← wCM, ← wCM] at b1'
  refine ⟨S, V1, Uc, D1, V2, U2, X, K, _, lm, ?_, J_go h (s' := _) (by
    by_cases hc : okWh K s (xs (i + 1)) (xs (i + 2)) = true
    · rw [if_pos hc]
      unfold okWh at hc
      rw [Bool.and_eq_true, Bool.and_eq_true] at hc
      obtain ⟨j, j1, j2⟩ := isK_nI (by have := k1.1.1; omega) hc.1.1
      obtain ⟨y, y0, y1, y2⟩ := inr_nI (a := 0) (b := 40) (by decide) (by decide) hc.1.2
      rw [j2, y2, nI_clamp (by have := k1.1.1; omega), nI_clamp (by omega)]
      exact (wf_wh k2 k1 j1 y1).up (by omega)
    · rw [if_neg hc]; exact k2.up (by omega)) a2 rfl a3 a4 b2 b3⟩
  unfold br_5 f_L_law_1084
  simp (disch := omega) only [nI_la, J_gA h hL, J_calC h, J_calM h, a1, b1', ↓bd_r, ↓reduceIte]
theorem bj_run {F z0 q0 n C b L lm i : Nat} {xs : Nat → Int32} {k : Nat → Nat → Nat → Nat → Int32 → Mem → Option (Int32 × Mem)} {S : Mem} {Vc : Vw} {Uc : Uw} {Dc : Dw} {Vm : Vw} {Um : Uw} {X : Tp} {K : SkyT} {s : Nat → Nat} (hF : 10000 < F) (h : JD z0 q0 n S C Vc Uc Dc Vm X K s lm b L xs) (hL : L ≤ 3584) (hi : i + 7 ≤ L) (hn : 1000 * n + 1000 < 2 ^ 29) : JN z0 q0 (n + 1) C b L xs k i (br_7 F k b C (C + 71) (C + 103) (nI i) (JM S C Vc Uc Dc Vm Um)) := by
  obtain ⟨k1, k2, k3, k4, k5, k6, k7⟩ := h.2.2.2.2.2.1
  obtain ⟨V1, D1, a1, a2, a3, a4⟩ := ca_run (x := xs (i + 1)) (F := F) (S := wM S (C + 71) Vm Um) (V := Vc) (U := Uc) (D := Dc) h.1.1 hF k1 (cSky_wM k3 k4) rfl k5 k2 (by omega)
  obtain ⟨V2, U2, b1', b2, b3⟩ := ma_run (x := xs (i + 1)) (F := F) (S := wC S C V1 Uc D1) (V := Vm) (U := Um) (shM_wC h.1.2.1) hF k1 k6 k7 k2 (by omega)
  rw [← wCM, ← wCM] at b1'
  refine ⟨S, V1, Uc, D1, V2, U2, X, K, _, lm, ?_, J_go h (s' := _) (by
    by_cases hc : spR (xs (i + 1)) = true
    · rw [if_pos hc]
      obtain ⟨y, y0, y1, y2⟩ := inr_nI (a := 1) (b := 1000) (by decide) (by decide) hc
      rw [y2, nI_clamp (by omega)]
      exact (wf_it k1 k2).up (by omega)
    · rw [if_neg hc]; exact k2.up (by omega)) a2 rfl a3 a4 b2 b3⟩
  unfold br_7 f_L_law_1084
  simp (disch := omega) only [nI_la, J_gA h hL, J_calC h, J_calM h, a1, b1', ↓bd_r, ↓reduceIte]
theorem bj_nearest {F z0 q0 n C b L lm i : Nat} {xs : Nat → Int32} {k : Nat → Nat → Nat → Nat → Int32 → Mem → Option (Int32 × Mem)} {S : Mem} {Vc : Vw} {Uc : Uw} {Dc : Dw} {Vm : Vw} {Um : Uw} {X : Tp} {K : SkyT} {s : Nat → Nat} (hF : 10000 < F) (h : JD z0 q0 n S C Vc Uc Dc Vm X K s lm b L xs) (hL : L ≤ 3584) (hi : i + 7 ≤ L) (hn : 1000 * n + 1000 < 2 ^ 29) : JN z0 q0 (n + 1) C b L xs k i (br_8 F k b C (C + 71) (C + 103) (nI i) (JM S C Vc Uc Dc Vm Um)) := by
  obtain ⟨k1, k2, k3, k4, k5, k6, k7⟩ := h.2.2.2.2.2.1
  obtain ⟨V1, U1, D1, a1, a2, a5, a3, a4⟩ := ca_nearest (x := xs (i + 1)) (y := xs (i + 2)) (z := xs (i + 3)) (F := F) (S := wM S (C + 71) Vm Um) (V := Vc) (U := Uc) (D := Dc) h.1.1 hF k1 (cSky_wM k3 k4) rfl k5 k2 (by omega)
  obtain ⟨V2, U2, b1', b2, b3⟩ := ma_nearest (x := xs (i + 1)) (y := xs (i + 2)) (z := xs (i + 3)) (F := F) (S := wC S C V1 U1 D1) (V := Vm) (U := Um) (shM_wC h.1.2.1) hF k1 k6 k7 k2 (by omega)
  rw [← wCM, ← wCM] at b1'
  refine ⟨S, V1, U1, D1, V2, U2, X, K, _, lm, ?_, J_go h (s' := s) (k2.up (by omega)) a2 a5 a3 a4 b2 b3⟩
  unfold br_8 f_L_law_1084
  simp (disch := omega) only [nI_la, J_gA h hL, J_calC h, J_calM h, a1, b1', ↓bd_r, ↓reduceIte]
theorem bj_fewest {F z0 q0 n C b L lm i : Nat} {xs : Nat → Int32} {k : Nat → Nat → Nat → Nat → Int32 → Mem → Option (Int32 × Mem)} {S : Mem} {Vc : Vw} {Uc : Uw} {Dc : Dw} {Vm : Vw} {Um : Uw} {X : Tp} {K : SkyT} {s : Nat → Nat} (hF : 10000 < F) (h : JD z0 q0 n S C Vc Uc Dc Vm X K s lm b L xs) (hL : L ≤ 3584) (hi : i + 7 ≤ L) (hn : 1000 * n + 1000 < 2 ^ 29) : JN z0 q0 (n + 1) C b L xs k i (br_9 F k b C (C + 71) (C + 103) (nI i) (JM S C Vc Uc Dc Vm Um)) := by
  obtain ⟨k1, k2, k3, k4, k5, k6, k7⟩ := h.2.2.2.2.2.1
  obtain ⟨V1, U1, D1, a1, a2, a5, a3, a4⟩ := ca_fewest (x := xs (i + 1)) (y := xs (i + 2)) (z := xs (i + 3)) (u := xs (i + 4)) (F := F) (S := wM S (C + 71) Vm Um) (V := Vc) (U := Uc) (D := Dc) h.1.1 hF k1 (cSky_wM k3 k4) rfl k5 k2 (by omega)
  obtain ⟨V2, U2, b1', b2, b3⟩ := ma_fewest (x := xs (i + 1)) (y := xs (i + 2)) (z := xs (i + 3)) (u := xs (i + 4)) (F := F) (S := wC S C V1 U1 D1) (V := Vm) (U := Um) (shM_wC h.1.2.1) hF k1 k6 k7 k2 (by omega)
  rw [← wCM, ← wCM] at b1'
  refine ⟨S, V1, U1, D1, V2, U2, X, K, _, lm, ?_, J_go h (s' := s) (k2.up (by omega)) a2 a5 a3 a4 b2 b3⟩
  unfold br_9 f_L_law_1084
  simp (disch := omega) only [nI_la, J_gA h hL, J_calC h, J_calM h, a1, b1', ↓bd_r, ↓reduceIte]
theorem bj_holds {F z0 q0 n C b L lm i : Nat} {xs : Nat → Int32} {k : Nat → Nat → Nat → Nat → Int32 → Mem → Option (Int32 × Mem)} {S : Mem} {Vc : Vw} {Uc : Uw} {Dc : Dw} {Vm : Vw} {Um : Uw} {X : Tp} {K : SkyT} {s : Nat → Nat} (hF : 10000 < F) (h : JD z0 q0 n S C Vc Uc Dc Vm X K s lm b L xs) (hL : L ≤ 3584) (hi : i + 7 ≤ L) (hn : 1000 * n + 1000 < 2 ^ 29) : JN z0 q0 (n + 1) C b L xs k i (br_10 F k b C (C + 71) (C + 103) (nI i) (JM S C Vc Uc Dc Vm Um)) := by
  obtain ⟨k1, k2, k3, k4, k5, k6, k7⟩ := h.2.2.2.2.2.1
  obtain ⟨V1, D1, a1, a2, a3, a4⟩ := ca_holds (x := xs (i + 1)) (y := xs (i + 2)) (z := xs (i + 3)) (w := xs (i + 4)) (F := F) (S := wM S (C + 71) Vm Um) (V := Vc) (U := Uc) (D := Dc) h.1.1 hF k1 (cSky_wM k3 k4) rfl k5 k2 (by omega)
  obtain ⟨V2, U2, b1', b2, b3⟩ := ma_holds (x := xs (i + 1)) (y := xs (i + 2)) (z := xs (i + 3)) (w := xs (i + 4)) (F := F) (S := wC S C V1 Uc D1) (V := Vm) (U := Um) (shM_wC h.1.2.1) hF k1 k6 k7 k2 (by omega)
  rw [← wCM, ← wCM] at b1'
  refine ⟨S, V1, Uc, D1, V2, U2, X, K, _, lm, ?_, J_go h (s' := s) (k2.up (by omega)) a2 rfl a3 a4 b2 b3⟩
  unfold br_10 f_L_law_1084
  simp (disch := omega) only [nI_la, J_gA h hL, J_calC h, J_calM h, a1, b1', ↓bd_r, ↓reduceIte]
theorem bj_mayGo {F z0 q0 n C b L lm i : Nat} {xs : Nat → Int32} {k : Nat → Nat → Nat → Nat → Int32 → Mem → Option (Int32 × Mem)} {S : Mem} {Vc : Vw} {Uc : Uw} {Dc : Dw} {Vm : Vw} {Um : Uw} {X : Tp} {K : SkyT} {s : Nat → Nat} (hF : 10000 < F) (h : JD z0 q0 n S C Vc Uc Dc Vm X K s lm b L xs) (hL : L ≤ 3584) (hi : i + 7 ≤ L) (hn : 1000 * n + 1000 < 2 ^ 29) : JN z0 q0 (n + 1) C b L xs k i (br_11 F k b C (C + 71) (C + 103) (nI i) (JM S C Vc Uc Dc Vm Um)) := by
  obtain ⟨k1, k2, k3, k4, k5, k6, k7⟩ := h.2.2.2.2.2.1
  obtain ⟨V1, D1, a1, a2, a3, a4⟩ := ca_mayGo (x := xs (i + 1)) (F := F) (S := wM S (C + 71) Vm Um) (V := Vc) (U := Uc) (D := Dc) h.1.1 hF k1 (cSky_wM k3 k4) rfl k5 k2 (by omega)
  obtain ⟨V2, U2, b1', b2, b3⟩ := ma_mayGo (x := xs (i + 1)) (F := F) (S := wC S C V1 Uc D1) (V := Vm) (U := Um) (shM_wC h.1.2.1) hF k1 k6 k7 k2 (by omega)
  rw [← wCM, ← wCM] at b1'
  refine ⟨S, V1, Uc, D1, V2, U2, X, K, _, lm, ?_, J_go h (s' := s) (k2.up (by omega)) a2 rfl a3 a4 b2 b3⟩
  unfold br_11 f_L_law_1084
  simp (disch := omega) only [nI_la, J_gA h hL, J_calC h, J_calM h, a1, b1', ↓bd_r, ↓reduceIte]
theorem bj_needed {F z0 q0 n C b L lm i : Nat} {xs : Nat → Int32} {k : Nat → Nat → Nat → Nat → Int32 → Mem → Option (Int32 × Mem)} {S : Mem} {Vc : Vw} {Uc : Uw} {Dc : Dw} {Vm : Vw} {Um : Uw} {X : Tp} {K : SkyT} {s : Nat → Nat} (hF : 10000 < F) (h : JD z0 q0 n S C Vc Uc Dc Vm X K s lm b L xs) (hL : L ≤ 3584) (hi : i + 7 ≤ L) (hn : 1000 * n + 1000 < 2 ^ 29) : JN z0 q0 (n + 1) C b L xs k i (br_12 F k b C (C + 71) (C + 103) (nI i) (JM S C Vc Uc Dc Vm Um)) := by
  obtain ⟨k1, k2, k3, k4, k5, k6, k7⟩ := h.2.2.2.2.2.1
  obtain ⟨V1, D1, a1, a2, a3, a4⟩ := ca_needed (x := xs (i + 1)) (y := xs (i + 2)) (F := F) (S := wM S (C + 71) Vm Um) (V := Vc) (U := Uc) (D := Dc) h.1.1 hF k1 (cSky_wM k3 k4) rfl k5 k2 (by omega)
  obtain ⟨V2, U2, b1', b2, b3⟩ := ma_needed (x := xs (i + 1)) (y := xs (i + 2)) (F := F) (S := wC S C V1 Uc D1) (V := Vm) (U := Um) (shM_wC h.1.2.1) hF k1 k6 k7 k2 (by omega)
  rw [← wCM, ← wCM] at b1'
  refine ⟨S, V1, Uc, D1, V2, U2, X, K, _, lm, ?_, J_go h (s' := s) (k2.up (by omega)) a2 rfl a3 a4 b2 b3⟩
  unfold br_12 f_L_law_1084
  simp (disch := omega) only [nI_la, J_gA h hL, J_calC h, J_calM h, a1, b1', ↓bd_r, ↓reduceIte]
theorem bj_mean {F z0 q0 n C b L lm i : Nat} {xs : Nat → Int32} {k : Nat → Nat → Nat → Nat → Int32 → Mem → Option (Int32 × Mem)} {S : Mem} {Vc : Vw} {Uc : Uw} {Dc : Dw} {Vm : Vw} {Um : Uw} {X : Tp} {K : SkyT} {s : Nat → Nat} (hF : 10000 < F) (h : JD z0 q0 n S C Vc Uc Dc Vm X K s lm b L xs) (hL : L ≤ 3584) (hi : i + 7 ≤ L) (hn : 1000 * n + 1000 < 2 ^ 29) : JN z0 q0 (n + 1) C b L xs k i (br_13 F k b C (C + 71) (C + 103) (nI i) (JM S C Vc Uc Dc Vm Um)) := by
  obtain ⟨k1, k2, k3, k4, k5, k6, k7⟩ := h.2.2.2.2.2.1
  obtain ⟨V1, D1, a1, a2, a3, a4⟩ := ca_mean (x := xs (i + 1)) (y := xs (i + 2)) (F := F) (S := wM S (C + 71) Vm Um) (V := Vc) (U := Uc) (D := Dc) h.1.1 hF k1 (cSky_wM k3 k4) rfl k5 k2 (by omega)
  obtain ⟨V2, U2, b1', b2, b3⟩ := ma_mean (x := xs (i + 1)) (y := xs (i + 2)) (F := F) (S := wC S C V1 Uc D1) (V := Vm) (U := Um) (shM_wC h.1.2.1) hF k1 k6 k7 k2 (by omega)
  rw [← wCM, ← wCM] at b1'
  refine ⟨S, V1, Uc, D1, V2, U2, X, K, _, lm, ?_, J_go h (s' := s) (k2.up (by omega)) a2 rfl a3 a4 b2 b3⟩
  unfold br_13 f_L_law_1084
  simp (disch := omega) only [nI_la, J_gA h hL, J_calC h, J_calM h, a1, b1', ↓bd_r, if_pos ((lg_cmp_eq _ _).mpr rfl)]
theorem bj_down {F z0 q0 n C b L lm i : Nat} {xs : Nat → Int32} {k : Nat → Nat → Nat → Nat → Int32 → Mem → Option (Int32 × Mem)} {S : Mem} {Vc : Vw} {Uc : Uw} {Dc : Dw} {Vm : Vw} {Um : Uw} {X : Tp} {K : SkyT} {s : Nat → Nat} (hF : 10000 < F) (h : JD z0 q0 n S C Vc Uc Dc Vm X K s lm b L xs) (hL : L ≤ 3584) (hi : i + 7 ≤ L) (hn : 1000 * n + 1000 < 2 ^ 29) : JN z0 q0 (n + 1) C b L xs k i (br_14 F k b C (C + 71) (C + 103) (nI i) (JM S C Vc Uc Dc Vm Um)) := by
  obtain ⟨k1, k2, k3, k4, k5, k6, k7⟩ := h.2.2.2.2.2.1
  obtain ⟨V1, D1, a1, a2, a3, a4⟩ := ca_down  (F := F) (S := wM S (C + 71) Vm Um) (V := Vc) (U := Uc) (D := Dc) h.1.1 hF k1 (cSky_wM k3 k4) rfl k5 k2 (by omega)
  obtain ⟨V2, U2, b1', b2, b3⟩ := ma_down  (F := F) (S := wC S C V1 Uc D1) (V := Vm) (U := Um) (shM_wC h.1.2.1) hF k1 k6 k7 k2 (by omega)
  rw [← wCM, ← wCM] at b1'
  refine ⟨S, V1, Uc, D1, V2, U2, X, K, _, lm, ?_, J_go h (s' := s) (k2.up (by omega)) a2 rfl a3 a4 b2 b3⟩
  unfold br_14 f_L_law_1084
  simp (disch := omega) only [nI_la, J_gA h hL, J_calC h, J_calM h, a1, b1', ↓bd_r, ↓reduceIte]
theorem bj_note {F z0 q0 n C b L lm i : Nat} {xs : Nat → Int32} {k : Nat → Nat → Nat → Nat → Int32 → Mem → Option (Int32 × Mem)} {S : Mem} {Vc : Vw} {Uc : Uw} {Dc : Dw} {Vm : Vw} {Um : Uw} {X : Tp} {K : SkyT} {s : Nat → Nat} (hF : 10000 < F) (h : JD z0 q0 n S C Vc Uc Dc Vm X K s lm b L xs) (hL : L ≤ 3584) (hi : i + 7 ≤ L) (hn : 1000 * n + 1000 < 2 ^ 29) : JN z0 q0 (n + 1) C b L xs k i (br_15 F k b C (C + 71) (C + 103) (nI i) (JM S C Vc Uc Dc Vm Um)) := by
  obtain ⟨k1, k2, k3, k4, k5, k6, k7⟩ := h.2.2.2.2.2.1
  obtain ⟨V1, D1, a1, a2, a3, a4⟩ := ca_note (x := xs (i + 1)) (y := xs (i + 2)) (z := xs (i + 3)) (F := F) (S := wM S (C + 71) Vm Um) (V := Vc) (U := Uc) (D := Dc) h.1.1 hF k1 (cSky_wM k3 k4) rfl k5 k2 (by omega)
  obtain ⟨V2, U2, b1', b2, b3⟩ := ma_note (x := xs (i + 1)) (y := xs (i + 2)) (z := xs (i + 3)) (F := F) (S := wC S C V1 Uc D1) (V := Vm) (U := Um) (shM_wC h.1.2.1) hF k1 k6 k7 k2 (by omega)
  rw [← wCM, ← wCM] at b1'
  refine ⟨S, V1, Uc, D1, V2, U2, X, K, _, lm, ?_, J_go h (s' := _) (by
    by_cases hc : okNo s (xs (i + 1)) (xs (i + 2)) (xs (i + 3)) = true
    · rw [if_pos hc]
      unfold okNo at hc
      rw [Bool.and_eq_true, Bool.and_eq_true, Bool.and_eq_true] at hc
      obtain ⟨y, y0, y1, y2⟩ := inr_nI (a := 0) (b := 9999) (by decide) (by decide) hc.1.1
      obtain ⟨u, u0, u1, u2⟩ := inr_nI (a := 0) (b := 999) (by decide) (by decide) hc.1.2.1
      obtain ⟨v, v0, v1, v2⟩ := inr_nI (a := 0) (b := 40) (by decide) (by decide) hc.1.2.2
      rw [y2, u2, v2, nI_clamp (by omega), nI_clamp (by omega), nI_clamp (by omega)]
      exact (wf_no k2 k1 (of_decide_eq_true hc.2) y1 u1 v1).up (by omega)
    · rw [if_neg hc]; exact k2.up (by omega)) a2 rfl a3 a4 b2 b3⟩
  unfold br_15 f_L_law_1084
  simp (disch := omega) only [nI_la, J_gA h hL, J_calC h, J_calM h, a1, b1', ↓bd_r, ↓reduceIte]
theorem bj_clear {F z0 q0 n C b L lm i : Nat} {xs : Nat → Int32} {k : Nat → Nat → Nat → Nat → Int32 → Mem → Option (Int32 × Mem)} {S : Mem} {Vc : Vw} {Uc : Uw} {Dc : Dw} {Vm : Vw} {Um : Uw} {X : Tp} {K : SkyT} {s : Nat → Nat} (hF : 10000 < F) (h : JD z0 q0 n S C Vc Uc Dc Vm X K s lm b L xs) (hL : L ≤ 3584) (hi : i + 7 ≤ L) (hn : 1000 * n + 1000 < 2 ^ 29) : JN z0 q0 (n + 1) C b L xs k i (br_16 F k b C (C + 71) (C + 103) (nI i) (JM S C Vc Uc Dc Vm Um)) := by
  obtain ⟨k1, k2, k3, k4, k5, k6, k7⟩ := h.2.2.2.2.2.1
  obtain ⟨V1, D1, a1, a2, a3, a4⟩ := ca_clear  (F := F) (S := wM S (C + 71) Vm Um) (V := Vc) (U := Uc) (D := Dc) h.1.1 hF k1 (cSky_wM k3 k4) rfl k5 k2 (by omega)
  obtain ⟨V2, U2, b1', b2, b3⟩ := ma_clear  (F := F) (S := wC S C V1 Uc D1) (V := Vm) (U := Um) (shM_wC h.1.2.1) hF k1 k6 k7 k2 (by omega)
  rw [← wCM, ← wCM] at b1'
  refine ⟨S, V1, Uc, D1, V2, U2, X, K, _, lm, ?_, J_go h (s' := _) ((wf_cl k2 k1).up (by omega)) a2 rfl a3 a4 b2 b3⟩
  unfold br_16 f_L_law_1084
  simp (disch := omega) only [nI_la, J_gA h hL, J_calC h, J_calM h, a1, b1', ↓bd_r, ↓reduceIte]
theorem bj_fits {F z0 q0 n C b L lm i : Nat} {xs : Nat → Int32} {k : Nat → Nat → Nat → Nat → Int32 → Mem → Option (Int32 × Mem)} {S : Mem} {Vc : Vw} {Uc : Uw} {Dc : Dw} {Vm : Vw} {Um : Uw} {X : Tp} {K : SkyT} {s : Nat → Nat} (hF : 10000 < F) (h : JD z0 q0 n S C Vc Uc Dc Vm X K s lm b L xs) (hL : L ≤ 3584) (hi : i + 7 ≤ L) (hn : 1000 * n + 1000 < 2 ^ 29) : JN z0 q0 (n + 1) C b L xs k i (br_17 F k b C (C + 71) (C + 103) (nI i) (JM S C Vc Uc Dc Vm Um)) := by
  obtain ⟨k1, k2, k3, k4, k5, k6, k7⟩ := h.2.2.2.2.2.1
  obtain ⟨V1, D1, a1, a2, a3, a4⟩ := ca_fits  (F := F) (S := wM S (C + 71) Vm Um) (V := Vc) (U := Uc) (D := Dc) h.1.1 hF k1 (cSky_wM k3 k4) rfl k5 k2 (by omega)
  obtain ⟨V2, U2, b1', b2, b3⟩ := ma_fits  (F := F) (S := wC S C V1 Uc D1) (V := Vm) (U := Um) (shM_wC h.1.2.1) hF k1 k6 k7 k2 (by omega)
  rw [← wCM, ← wCM] at b1'
  refine ⟨S, V1, Uc, D1, V2, U2, X, K, _, lm, ?_, J_go h (s' := s) (k2.up (by omega)) a2 rfl a3 a4 b2 b3⟩
  unfold br_17 f_L_law_1084
  simp (disch := omega) only [nI_la, J_gA h hL, J_calC h, J_calM h, a1, b1', ↓bd_r, ↓reduceIte]
theorem bj_fit {F z0 q0 n C b L lm i : Nat} {xs : Nat → Int32} {k : Nat → Nat → Nat → Nat → Int32 → Mem → Option (Int32 × Mem)} {S : Mem} {Vc : Vw} {Uc : Uw} {Dc : Dw} {Vm : Vw} {Um : Uw} {X : Tp} {K : SkyT} {s : Nat → Nat} (hF : 10000 < F) (h : JD z0 q0 n S C Vc Uc Dc Vm X K s lm b L xs) (hL : L ≤ 3584) (hi : i + 7 ≤ L) (hn : 1000 * n + 1000 < 2 ^ 29) : JN z0 q0 (n + 1) C b L xs k i (br_18 F k b C (C + 71) (C + 103) (nI i) (JM S C Vc Uc Dc Vm Um)) := by
  obtain ⟨k1, k2, k3, k4, k5, k6, k7⟩ := h.2.2.2.2.2.1
  obtain ⟨V1, D1, a1, a2, a3, a4⟩ := ca_fit (x := xs (i + 1)) (F := F) (S := wM S (C + 71) Vm Um) (V := Vc) (U := Uc) (D := Dc) h.1.1 hF k1 (cSky_wM k3 k4) rfl k5 k2 (by omega)
  obtain ⟨V2, U2, b1', b2, b3⟩ := ma_fit (x := xs (i + 1)) (F := F) (S := wC S C V1 Uc D1) (V := Vm) (U := Um) (shM_wC h.1.2.1) hF k1 k6 k7 k2 (by omega)
  rw [← wCM, ← wCM] at b1'
  refine ⟨S, V1, Uc, D1, V2, U2, X, K, _, lm, ?_, J_go h (s' := s) (k2.up (by omega)) a2 rfl a3 a4 b2 b3⟩
  unfold br_18 f_L_law_1084
  simp (disch := omega) only [nI_la, J_gA h hL, J_calC h, J_calM h, a1, b1', ↓bd_r, ↓reduceIte]
theorem bj_lots {F z0 q0 n C b L lm i : Nat} {xs : Nat → Int32} {k : Nat → Nat → Nat → Nat → Int32 → Mem → Option (Int32 × Mem)} {S : Mem} {Vc : Vw} {Uc : Uw} {Dc : Dw} {Vm : Vw} {Um : Uw} {X : Tp} {K : SkyT} {s : Nat → Nat} (hF : 10000 < F) (h : JD z0 q0 n S C Vc Uc Dc Vm X K s lm b L xs) (hL : L ≤ 3584) (hi : i + 7 ≤ L) (hn : 1000 * n + 1000 < 2 ^ 29) : JN z0 q0 (n + 1) C b L xs k i (br_19 F k b C (C + 71) (C + 103) (nI i) (JM S C Vc Uc Dc Vm Um)) := by
  obtain ⟨k1, k2, k3, k4, k5, k6, k7⟩ := h.2.2.2.2.2.1
  obtain ⟨V1, D1, a1, a2, a3, a4⟩ := ca_lots (x := xs (i + 1)) (y := xs (i + 2)) (z := xs (i + 3)) (u := xs (i + 4)) (v := xs (i + 5)) (F := F) (S := wM S (C + 71) Vm Um) (V := Vc) (U := Uc) (D := Dc) h.1.1 hF k1 (cSky_wM k3 k4) rfl k5 k2 (by omega)
  obtain ⟨V2, U2, b1', b2, b3⟩ := ma_lots (x := xs (i + 1)) (y := xs (i + 2)) (z := xs (i + 3)) (u := xs (i + 4)) (v := xs (i + 5)) (F := F) (S := wC S C V1 Uc D1) (V := Vm) (U := Um) (shM_wC h.1.2.1) hF k1 k6 k7 k2 (by omega)
  rw [← wCM, ← wCM] at b1'
  refine ⟨S, V1, Uc, D1, V2, U2, X, K, _, lm, ?_, J_go h (s' := s) (k2.up (by omega)) a2 rfl a3 a4 b2 b3⟩
  unfold br_19 f_L_law_1084
  simp (disch := omega) only [nI_la, J_gA h hL, J_calC h, J_calM h, a1, b1', ↓bd_r, ↓reduceIte]
