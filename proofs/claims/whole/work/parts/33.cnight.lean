/-! the class: a night -/
def cNt (V : Vw) (o : Nat) (K : SkyT) (s : Nat → Nat) : Prop := V o 1 = nI (s 19) ∧ V o 2 = nI (s 18) ∧ V o 3 = nI (s 20) ∧ (∀ k, k < kN K → V (o + 1) k = nI (s k) ∧ V (o + 2) k = nI (s (6 + k)) - 1 ∧ V (o + 3) k = nI (s (12 + k))) ∧ ∀ i, i < s 20 → V (o + 4) i = nI (s (21 + 3 * i)) ∧ V (o + 5) i = nI (s (21 + 3 * i + 1)) ∧ V (o + 6) i = nI (s (21 + 3 * i + 2))
theorem cNt.keep {V V' : Vw} {o : Nat} {K : SkyT} {s : Nat → Nat} (h : cNt V o K s) (e : ∀ i, i ≤ 6 → V' (o + i) = V (o + i)) : cNt V' o K s := by
  unfold cNt at h ⊢
  have e0 : V' o = V o := e 0 (by omega)
  rw [e0, e 1 (by omega), e 2 (by omega), e 3 (by omega), e 4 (by omega), e 5 (by omega), e 6 (by omega)]
  exact h
theorem c_isLost {o k l : Nat} {F C : Nat} {S : Mem} {V : Vw} {U : Uw} {D : Dw} (h : shC S C) (ho : isN o) (hk : k < 6) (hl : V o 2 = nI l) (hl2 : l < 2 ^ 31) : fn_X2_isLost F (C + o) (nI k) (wC S C V U D) = some (b1 (lo l k), wC S C V U D) := by
  unfold fn_X2_isLost f_X2_isLost_16
  rw [(eN h ho).1, hl]
  cases hc : lo l k with
  | true => rw [if_neg (fun q => by rw [(c_lo hl2 hk).mp q] at hc; cases hc)]; rfl
  | false => rw [if_pos ((c_lo hl2 hk).mpr hc)]; rfl
theorem c_rests {o b k B : Nat} {K : SkyT} {s : Nat → Nat} {F C : Nat} {S : Mem} {V : Vw} {U : Uw} {D : Dw} (h : shC S C) (ho : isN o) (hw9 : wfK K) (hK : cSky S C b K) (hb : D o 0 = b) (h19 : V o 1 = nI (s 19)) (hv : V (o + 1) k = nI (s k) ∧ V (o + 2) k = nI (s (6 + k)) - 1 ∧ V (o + 3) k = nI (s (12 + k))) (hs : wfS K B s) (hB : B < 2 ^ 30) (hk : k < kN K) : fn_X2_rests F (C + o) (nI k) (wC S C V U D) = some (b1 (restsN K s k), wC S C V U D) := by
  have hk6 := hw9.1.1
  have hkb := hw9.2 k hk
  have hkk := (hK.2.2.1 k hk).1
  have hT : mI S b 8 = nI (kT K) := hK.2.1.2.2.2.1
  have hq := hs.1 k hk
  have hm := hs.2.2.1
  have hT2 := hw9.1.2.2.2.2.2.1
  have e1 : nI (s 19) &&& 1 = nI (s 19 % 2) := pk_andN (by omega) 1 (by decide)
  unfold fn_X2_rests f_X2_rests_39 f_X2_rests_43 f_X2_rests_44 restsN
  simp (disch := first | assumption | exact inB_n (by omega) (by decide) | exact inB_l (by omega) (by decide) | exact inB_al (by omega) (by decide) | exact inB_la (by omega) (by decide) | exact inB_j (by assumption) (by omega) (by decide) | exact inB_e (by assumption) (by decide) | omega) only [↓eN h ho, ↓eK hK.1, hb, hv.2.2, hT, hkk, h19, e1, rz_1, rz_0, ix_nI, ix_l, nI_al, nI_la, nI_lm, u2_ne, u2_eq, nI_leI, nI_ltI, nI_eq, le_ln, le_nl, lt_ln, lt_nl, eq_nl, eq_ln]
  by_cases h1 : kT K ≤ s (12 + k) <;> by_cases h2 : kd K k = 5 <;> by_cases h3 : s 19 % 2 = 1 <;> simp [h1, h2, h3, b1]
theorem c_ruled {o b k B : Nat} {g : Int32} {f : Int32 → Int32 → Int32 → Int32 → Int32 → Int32 → Int32} {K : SkyT} {s : Nat → Nat} {F C : Nat} {S : Mem} {V : Vw} {U : Uw} {D : Dw} (h : shC S C) (ho : isN o) (hF : 1001 < F) (hw9 : wfK K) (hK : cSky S C b K) (h19 : V o 1 = nI (s 19)) (hv : V (o + 1) k = nI (s k) ∧ V (o + 2) k = nI (s (6 + k)) - 1 ∧ V (o + 3) k = nI (s (12 + k))) (hs : wfS K B s) (hf : rl K = some f) (hL : looked K (s 19) b (s 18) g s V D) (hk : k < kN K) (hl : lo (s 18) k = false) :
    ∃ V', fn_X0_ruled F (C + 14) (C + o) (nI k) (wC S C V U D) = some (f (nI (s k)) (nI (plN K (s 18) (wR K (s 19) g) s k)) (nI (highN K (s 18) (wR K (s 19) g) s)) (nI (placeN K (s 18) (wR K (s 19) g) s) - nI (wi K k)) (nI (wR K (s 19) g (s k))) (nI (s 19)), wC S C V' U D) ∧ ∀ j, j ≠ 16 → j ≠ 17 → V' j = V j := by
  have ho7 : 28 ≤ o := by unfold isN at ho; omega
  have hk6 := hw9.1.1
  have hkk := (hK.2.2.1 k hk).2.1
  obtain ⟨⟨d7, m8, g9, -, p9⟩, -, r5, r6⟩ := hL
  obtain ⟨w, hw, hl2⟩ := hK.2.2.2.2
  unfold rlC at hl2
  rw [hf] at hl2
  have epl : pulN K (wR K (s 19) g) s k = plN K (s 18) (wR K (s 19) g) s k := by unfold plN; rw [hl]; rfl
  have p18 := (p9 k hk).1
  have p19 := (p9 k hk).2
  rw [epl] at p19
  have vl := hv.1
  generalize hW : u2 (u2 (u2 (u2 (u2 (u2 V 16 10 (nI (s k))) 16 23 (nI (plN K (s 18) (wR K (s 19) g) s k))) 16 20 (nI (highN K (s 18) (wR K (s 19) g) s))) 16 24 (nI (placeN K (s 18) (wR K (s 19) g) s) - nI (wi K k))) 16 0 (nI (wR K (s 19) g (s k)))) 16 21 (nI (s 19)) = W
  have w1 : W 16 10 = nI (s k) := by rw [← hW]; simp (disch := omega) only [u2_ne, u2_eq]
  have w2 : W 16 23 = nI (plN K (s 18) (wR K (s 19) g) s k) := by rw [← hW]; simp (disch := omega) only [u2_ne, u2_eq]
  have w3 : W 16 20 = nI (highN K (s 18) (wR K (s 19) g) s) := by rw [← hW]; simp (disch := omega) only [u2_ne, u2_eq]
  have w4 : W 16 24 = nI (placeN K (s 18) (wR K (s 19) g) s) - nI (wi K k) := by rw [← hW]; simp (disch := omega) only [u2_ne, u2_eq]
  have w5 : W 16 0 = nI (wR K (s 19) g (s k)) := by rw [← hW]; simp (disch := omega) only [u2_ne, u2_eq]
  have w6 : W 16 21 = nI (s 19) := by rw [← hW]; simp (disch := omega) only [u2_ne, u2_eq]
  have wf : ∀ j, j ≠ 16 → W j = V j := fun j hj => by rw [← hW]; simp (disch := omega) only [u2_row]
  obtain ⟨V1, e1, f1⟩ := p_reckon (F := F) (V := W) (U := U) (D := D) h hF hl2.1 rfl hl2.2.2.2.1 hl2.2.2.1 hl2.2.2.2.2
  refine ⟨V1, ?_, fun j h16 h17 => (f1 j h17).trans (wf j h16)⟩
  unfold fn_X0_ruled
  simp (disch := first | assumption | exact inB_n (by omega) (by decide) | exact inB_l (by omega) (by decide) | exact inB_al (by omega) (by decide) | exact inB_la (by omega) (by decide) | exact inB_j (by assumption) (by omega) (by decide) | exact inB_e (by assumption) (by decide) | omega) only [↓eC h, ↓eN h ho, ↓eK hK.1, ↓gRl hK.1 hw, ↓bd_r, d7, vl, p18, p19, r5, r6, hkk, m8, hW, e1, w1, w2, w3, w4, w5, w6, ix_nI, ix_l, nI_al, nI_la, nI_lm, u2_ne, u2_eq]
theorem cl_0 {n : Nat} (h1 : 1 ≤ n) (h2 : n ≤ 5) : clI 0 (-(nI n)) (nI n) = 0 := by
  rcases (by omega : n = 1 ∨ n = 2 ∨ n = 3 ∨ n = 4 ∨ n = 5) with rfl | rfl | rfl | rfl | rfl <;> decide
theorem c_aim {o b k B : Nat} {g : Int32} {K : SkyT} {s : Nat → Nat} {F C : Nat} {S : Mem} {V : Vw} {U : Uw} {D : Dw} (h : shC S C) (ho : isN o) (hF : 1001 < F) (hw9 : wfK K) (hK : cSky S C b K) (hb : D o 0 = b) (h19 : V o 1 = nI (s 19)) (hv : V (o + 1) k = nI (s k) ∧ V (o + 2) k = nI (s (6 + k)) - 1 ∧ V (o + 3) k = nI (s (12 + k))) (hs : wfS K B s) (hL : (rl K).isSome = true → looked K (s 19) b (s 18) g s V D) (hk : k < kN K) (hl : lo (s 18) k = false) :
    ∃ V', fn_X2_aim F (C + o) (nI k) (C + 14) (wC S C V U D) = some (clI (nI (s k) + outN K g s k) 0 40, wC S C V' U D) ∧ ∀ j, j ≠ 16 → j ≠ 17 → V' j = V j := by
  have ho7 : 28 ≤ o := by unfold isN at ho; omega
  have hk6 := hw9.1.1
  have hq := hs.1 k hk
  have hH : mI S b 7 = nI (kH K) := hK.2.1.2.2.1
  have fin : ∀ (y : Int32) (W : Vw), (∀ j, j ≠ 16 → j ≠ 17 → W j = V j) → f_X2_aim_46 F (C + o) (nI k) y (wC S C W U D) = some (clI (nI (s k) + clI y (-(nI (kH K))) (nI (kH K))) 0 40, wC S C W U D) := by
    intro y W hW
    have wl : W (o + 1) k = nI (s k) := by rw [hW (o + 1) (by omega) (by omega)]; exact hv.1
    unfold f_X2_aim_46
    simp (disch := first | assumption | exact inB_n (by omega) (by decide) | exact inB_l (by omega) (by decide) | exact inB_al (by omega) (by decide) | exact inB_la (by omega) (by decide) | exact inB_j (by assumption) (by omega) (by decide) | exact inB_e (by assumption) (by decide) | omega) only [↓eN h ho, ↓eK hK.1, ↓bd_r, hb, wl, hH, p_clamped, ix_nI, ix_l, nI_al, nI_la, nI_lm, u2_ne, u2_eq]
  have vw := hv.2.1
  have vl := hv.1
  unfold fn_X2_aim
  rw [(eN h ho).2.2.2.2.2.2.2.2.1, (eN h ho).2.2.2.2.2.2.2.2.2.1 _ _ _ _ _ (inB_n (by omega) (by decide)), nI_clamp (by omega), vw]
  unfold outN
  by_cases hc : s (6 + k) = 0
  · rw [hc, if_pos (by decide), if_pos rfl]
    rw [(eN h ho).2.2.2.1, hb, (eK hK.1).2.1, c_hasRule hK, bd_r]
    cases hr : rl K with
    | none =>
      refine ⟨V, ?_, fun _ _ _ => rfl⟩
      show f_X2_aim_46 F (C + o) (nI k) 0 (wC S C V U D) = _
      rw [fin 0 V (fun _ _ _ => rfl), cl_0 hw9.1.2.2.1 hw9.1.2.2.2.1]
    | some f =>
      show ∃ V', (if (1 : Int32) = 0 then _ else _) = _ ∧ _
      rw [if_neg (by decide)]
      obtain ⟨V1, e1, f1⟩ := c_ruled (F := F) (U := U) h ho hF hw9 hK h19 hv hs hr (hL (by rw [hr]; rfl)) hk hl
      refine ⟨V1, ?_, f1⟩
      simp only [↓eC h, ↓bd_r, e1]
      rw [fin _ V1 f1]
  · have e9 : ¬ nI (s (6 + k)) - 1 = -1 := by
      intro q
      have q2 : nI (s (6 + k)) - 1 = nI (s (6 + k) - 1) := pk_sub (b := 1) (by omega)
      rw [q2] at q
      have := nI_pos (n := s (6 + k) - 1) (by omega)
      rw [q] at this
      exact this (by decide)
    rw [if_neg e9, if_neg hc]
    refine ⟨V, ?_, fun _ _ _ => rfl⟩
    simp (disch := first | assumption | exact inB_n (by omega) (by decide) | exact inB_l (by omega) (by decide) | exact inB_al (by omega) (by decide) | exact inB_la (by omega) (by decide) | exact inB_j (by assumption) (by omega) (by decide) | exact inB_e (by assumption) (by decide) | omega) only [↓eN h ho, ↓lt_r, vw, vl, ix_nI, ix_l, nI_al, nI_la, nI_lm, u2_ne, u2_eq]
    rw [fin _ V (fun _ _ _ => rfl)]
theorem c_haulTo {o k B : Nat} {K : SkyT} {s nx : Nat → Nat} {F C : Nat} {S : Mem} {V : Vw} {U : Uw} {D : Dw} (h : shC S C) (ho : isN o) (hw9 : wfK K) (hS : cNt V o K (chgI k (s 18) s nx)) (hs : wfS K B s) (hk : k < kN K) (hl : lo (s 18) k = false) (hx : nx k ≤ 40) :
    ∃ V', fn_X2_haulTo F (C + o) (nI k) (nI (nx k)) (wC S C V U D) = some ((), wC S C V' U D) ∧ (∀ j, j < o + 1 ∨ o + 3 < j → V' j = V j) ∧ cNt V' o K (chgI (k + 1) (s 18) s nx) := by
  have hk6 := hw9.1.1
  have hq := hs.1 k hk
  obtain ⟨ca, cb, cc⟩ := chgI_a (i := k) (l := s 18) (s := s) (nx := nx) (by omega)
  obtain ⟨da, db, dc⟩ := chgI_b (i := k) (l := s 18) (s := s) (nx := nx) (by omega) hl
  obtain ⟨h19, h18, h20, hr, hn⟩ := hS
  obtain ⟨va, vb, vc⟩ := hr k hk
  rw [ca] at va
  rw [cb] at vb
  rw [cc] at vc
  have hi : ∀ j, 18 ≤ j → chgI (k + 1) (s 18) s nx j = chgI k (s 18) s nx j := fun j hj => chgI_ne (Or.inr ⟨by omega, by omega, by omega⟩)
  have e9 : (nI (s (6 + k)) - 1 = nI (nx k)) ↔ s (6 + k) = nx k + 1 := by
    constructor
    · intro q
      have q2 : nI (s (6 + k)) = nI (nx k + 1) := by rw [← nI_1, ← q]; exact (Int32.sub_add_cancel _ _).symm
      exact (nI_eq (by omega) (by omega)).mp q2
    · intro q
      rw [q]; exact nI_pred _
  have fin : ∀ (c : Int32) (W : Vw), c = nI (if nx k = s k then 0 else s (12 + k) + 1) → (∀ j, j < o + 1 ∨ o + 3 < j → W j = V j) → (∀ j, W (o + 1) j = if j = k then nI (nx k) else V (o + 1) j) → (∀ j, W (o + 3) j = if j = k then c else V (o + 3) j) → (∀ j, W (o + 2) j = if j = k then nI (if s (6 + k) = nx k + 1 then 0 else s (6 + k)) - 1 else V (o + 2) j) → cNt W o K (chgI (k + 1) (s 18) s nx) := by
    intro c W hc hW w1 w3 w2
    refine ⟨?_, ?_, ?_, fun j hj => ?_, fun i hi2 => ?_⟩
    · rw [hW o (by omega), hi 19 (by omega)]; exact h19
    · rw [hW o (by omega), hi 18 (by omega)]; exact h18
    · rw [hW o (by omega), hi 20 (by omega)]; exact h20
    · by_cases hjk : j = k
      · subst hjk
        rw [w1, w2, w3, if_pos rfl, if_pos rfl, if_pos rfl, da, db, dc]
        exact ⟨rfl, rfl, hc⟩
      · rw [w1, w2, w3, if_neg hjk, if_neg hjk, if_neg hjk, chgI_ne (Or.inr ⟨hjk, by omega, by omega⟩), chgI_ne (Or.inr ⟨by omega, by omega, by omega⟩), chgI_ne (Or.inr ⟨by omega, by omega, by omega⟩)]
        exact hr j hj
    · rw [hi 20 (by omega)] at hi2
      rw [hW (o + 4) (by omega), hW (o + 5) (by omega), hW (o + 6) (by omega), hi _ (by omega), hi _ (by omega), hi _ (by omega)]
      exact hn i hi2
  have g1 : ∀ (c : Int32) (j : Nat), u2 (u2 V (o + 3) k c) (o + 1) k (nI (nx k)) (o + 1) j = if j = k then nI (nx k) else V (o + 1) j := fun c j => by
    by_cases hj : j = k
    · rw [if_pos hj, u2_eq ⟨rfl, hj⟩]
    · rw [if_neg hj, u2_ne (Or.inr hj), u2_ne (by omega)]
  have g3 : ∀ (c : Int32) (j : Nat), u2 (u2 V (o + 3) k c) (o + 1) k (nI (nx k)) (o + 3) j = if j = k then c else V (o + 3) j := fun c j => by
    by_cases hj : j = k
    · rw [if_pos hj, u2_ne (by omega), u2_eq ⟨rfl, hj⟩]
    · rw [if_neg hj, u2_ne (by omega), u2_ne (Or.inr hj)]
  have g2 : ∀ (c : Int32) (j : Nat), u2 (u2 V (o + 3) k c) (o + 1) k (nI (nx k)) (o + 2) j = V (o + 2) j := fun c j => by
    rw [u2_ne (by omega), u2_ne (by omega)]
  have go : ∀ (c : Int32) (j : Nat), j < o + 1 ∨ o + 3 < j → u2 (u2 V (o + 3) k c) (o + 1) k (nI (nx k)) j = V j := fun c j hj => by
    rw [u2_row (by omega), u2_row (by omega)]
  have step : ∀ c : Int32, c = nI (if nx k = s k then 0 else s (12 + k) + 1) → ∃ V', f_X2_haulTo_27 F (C + o) (nI k) (nI (nx k)) (C + (o + 3)) (nI k) c (wC S C V U D) = some ((), wC S C V' U D) ∧ (∀ j, j < o + 1 ∨ o + 3 < j → V' j = V j) ∧ cNt V' o K (chgI (k + 1) (s 18) s nx) := by
    intro c hc
    unfold f_X2_haulTo_27 f_X2_haulTo_52
    simp (disch := first | assumption | exact inB_n (by omega) (by decide) | exact inB_l (by omega) (by decide) | exact inB_al (by omega) (by decide) | exact inB_la (by omega) (by decide) | exact inB_j (by assumption) (by omega) (by decide) | exact inB_e (by assumption) (by decide) | omega) only [↓eN h ho, vb, ix_nI, ix_l, nI_al, nI_la, nI_lm, u2_ne, u2_eq]
    by_cases h9 : s (6 + k) = nx k + 1
    · rw [if_pos (e9.mpr h9)]
      refine ⟨_, rfl, fun j hj => by rw [u2_row (by omega), go c j hj], fin c _ hc (fun j hj => by rw [u2_row (by omega), go c j hj]) (fun j => by rw [u2_row (by omega), g1]) (fun j => by rw [u2_row (by omega), g3]) (fun j => ?_)⟩
      by_cases hj : j = k
      · rw [if_pos hj, u2_eq ⟨rfl, hj⟩, if_pos h9]; rfl
      · rw [if_neg hj, u2_ne (Or.inr hj), g2]
    · rw [if_neg (fun q => h9 (e9.mp q))]
      refine ⟨_, rfl, go c, fin c _ hc (go c) (g1 c) (g3 c) (fun j => ?_)⟩
      rw [g2, if_neg h9]
      by_cases hj : j = k
      · rw [if_pos hj, hj, vb]
      · rw [if_neg hj]
  unfold fn_X2_haulTo
  simp (disch := first | assumption | exact inB_n (by omega) (by decide) | exact inB_l (by omega) (by decide) | exact inB_al (by omega) (by decide) | exact inB_la (by omega) (by decide) | exact inB_j (by assumption) (by omega) (by decide) | exact inB_e (by assumption) (by decide) | omega) only [↓eN h ho, va, vc, ix_nI, ix_l, nI_al, nI_la, nI_lm, u2_ne, u2_eq, nI_eq]
  by_cases h8 : nx k = s k
  · rw [if_pos h8]
    exact step 0 (by rw [if_pos h8]; rfl)
  · rw [if_neg h8]
    exact step _ (by rw [if_neg h8])
theorem chgI_i {i l : Nat} {s nx : Nat → Nat} {j : Nat} (h : 18 ≤ j) : chgI i l s nx j = s j := by
  unfold chgI
  rw [if_neg (by omega), if_neg (by omega), if_neg (by omega)]
theorem cNt_end {V : Vw} {o : Nat} {K : SkyT} {s nx : Nat → Nat} (ho : 28 ≤ o) (hP : cNt V o K (chgI (kN K) (s 18) s nx)) (hn : kN K ≤ 6) : cNt (u2 V o 1 (nI (s 19) + 1)) o K (chgN K s nx) := by
  have e : ∀ j, j ≠ 19 → chgN K s nx j = chgI (kN K) (s 18) s nx j := fun j hj => by unfold chgN; rw [if_neg hj]
  refine ⟨?_, ?_, ?_, fun k hk => ?_, fun i hi => ?_⟩
  · rw [u2_eq ⟨rfl, rfl⟩, nI_1]; unfold chgN; rw [if_pos rfl]
  · rw [u2_ne (by omega), e 18 (by omega)]; exact hP.2.1
  · rw [u2_ne (by omega), e 20 (by omega)]; exact hP.2.2.1
  · rw [u2_row (by omega), u2_row (by omega), u2_row (by omega), e _ (by omega), e _ (by omega), e _ (by omega)]
    exact hP.2.2.2.1 k hk
  · rw [e 20 (by omega)] at hi
    rw [u2_row (by omega), u2_row (by omega), u2_row (by omega), e _ (by omega), e _ (by omega), e _ (by omega)]
    exact hP.2.2.2.2 i hi
theorem c_pass {o b B : Nat} {g : Int32} {K : SkyT} {s : Nat → Nat} {F C : Nat} {S : Mem} {V0 : Vw} {U : Uw} {D : Dw} (h : shC S C) (ho : isN o) (hF : 1001 < F) (hw9 : wfK K) (hK : cSky S C b K) (hb : D o 0 = b) (hS : cNt V0 o K s) (hs : wfS K B s) (hB : B < 2 ^ 30) (hL : (rl K).isSome = true → looked K (s 19) b (s 18) g s V0 D) :
    ∃ V', fn_X2_passMinute F (C + o) (C + 14) (wC S C V0 U D) = some ((), wC S C V' U D) ∧ (∀ j, j ≠ 16 → j ≠ 17 → j < o ∨ o + 3 < j → V' j = V0 j) ∧ cNt V' o K (passN K g s) := by
  have ho7 : 28 ≤ o := by unfold isN at ho; omega
  have hn6 := hw9.1.1
  have hn : mI S b 0 = nI (kN K) := hK.2.1.1
  have hl2 : s 18 < 2 ^ 31 := by have := hs.lost hw9; omega
  have key : ∀ (d i f : Nat) (V : Vw), i + d = kN K → d < f → (∀ j, j ≠ 16 → j ≠ 17 → j < o + 1 ∨ o + 3 < j → V j = V0 j) → cNt V o K (chgI i (s 18) s (nxtN K g s)) →
      ∃ V', fix3 (b_X2_passMinute_2 F) f (C + o) (C + 14) (nI i) (wC S C V U D) = some ((), wC S C V' U D) ∧ (∀ j, j ≠ 16 → j ≠ 17 → j < o ∨ o + 3 < j → V' j = V0 j) ∧ cNt V' o K (passN K g s) := by
    intro d
    induction d with
    | zero =>
      intro i f V hi hf hV hP
      obtain ⟨f, rfl⟩ : ∃ f', f = f' + 1 := ⟨f - 1, by omega⟩
      obtain rfl : i = kN K := by omega
      show ∃ V', b_X2_passMinute_2 F (fix3 (b_X2_passMinute_2 F) f) (C + o) (C + 14) (nI (kN K)) (wC S C V U D) = _ ∧ _
      generalize fix3 (b_X2_passMinute_2 F) f = k4
      unfold b_X2_passMinute_2
      have h19 : V o 1 = nI (s 19) := hP.1.trans (by rw [chgI_i (by omega)])
      rw [(eN h ho).2.2.2.1, hb, (eK hK.1).1, hn, if_pos (Int32.le_refl _)]
      simp only [↓eN h ho, h19]
      exact ⟨_, rfl, fun j a b c => by rw [u2_row (by omega), hV j a b (by omega)], cNt_end ho7 hP hn6⟩
    | succ d ih =>
      intro i f V hi hf hV hP
      obtain ⟨f, rfl⟩ : ∃ f', f = f' + 1 := ⟨f - 1, by omega⟩
      have ih := fun V => ih (i + 1) f V (by omega) (by omega)
      show ∃ V', b_X2_passMinute_2 F (fix3 (b_X2_passMinute_2 F) f) (C + o) (C + 14) (nI i) (wC S C V U D) = _ ∧ _
      generalize fix3 (b_X2_passMinute_2 F) f = k4 at ih ⊢
      have h18 : V o 2 = nI (s 18) := hP.2.1.trans (by rw [chgI_i (by omega)])
      have p1 := c_isLost (F := F) (U := U) (D := D) (k := i) h ho (by omega) h18 hl2
      unfold b_X2_passMinute_2 f_X2_passMinute_46 f_X2_passMinute_49
      rw [(eN h ho).2.2.2.1, hb, (eK hK.1).1, hn, if_neg (show ¬ nI (kN K) ≤ nI i from nI_ge (by omega) (by omega)), (eN h ho).2.2.1, p1, bd_r, nI_1]
      cases hl9 : lo (s 18) i with
      | true =>
        show ∃ V', (if (1 : Int32) = 0 then _ else _) = _ ∧ _
        rw [if_neg (by decide)]
        refine ih V hV ?_
        have : chgI (i + 1) (s 18) s (nxtN K g s) = chgI i (s 18) s (nxtN K g s) := by funext j; exact chgI_ne (Or.inl hl9)
        rw [this]; exact hP
      | false =>
        show ∃ V', (if (0 : Int32) = 0 then _ else _) = _ ∧ _
        rw [if_pos rfl]
        obtain ⟨ca, cb, cc⟩ := chgI_a (i := i) (l := s 18) (s := s) (nx := nxtN K g s) (by omega)
        have nx := nxtN_le (g := g) hs (show i < kN K by omega)
        have fin : ∀ W : Vw, (∀ j, j ≠ 16 → j ≠ 17 → W j = V j) → ∃ V', (bd (fn_X2_haulTo F (C + o) (nI i) (nI (nxtN K g s i)) (wC S C W U D)) fun _ S2 => k4 (C + o) (C + 14) (nI (i + 1)) S2) = some ((), wC S C V' U D) ∧ (∀ j, j ≠ 16 → j ≠ 17 → j < o ∨ o + 3 < j → V' j = V0 j) ∧ cNt V' o K (passN K g s) := by
          intro W hW
          have hPW : cNt W o K (chgI i (s 18) s (nxtN K g s)) := hP.keep (fun q hq => hW (o + q) (by omega) (by omega))
          obtain ⟨V1, e1, f1, n1⟩ := c_haulTo (F := F) (U := U) (D := D) h ho hw9 hPW hs (show i < kN K by omega) hl9 nx.1
          rw [e1, bd_r]
          exact ih V1 (fun j a b c => by rw [f1 j c, hW j a b, hV j a b c]) n1
        have hq := hs.1 i (by omega)
        -- the night at kite i is as it was at the beginning
        have vi := (hP.2.2.2.1 i (by omega))
        rw [ca, cb, cc] at vi
        have hkk := (hK.2.2.1 i (by omega)).1
        have hT : mI S b 8 = nI (kT K) := hK.2.1.2.2.2.1
        have hT2 := hw9.1.2.2.2.2.2.1
        have hm := hs.2.2.1
        have hkb := hw9.2 i (by omega)
        have h19 : V o 1 = nI (s 19) := hP.1.trans (by rw [chgI_i (by omega)])
        have p3 := c_rests (F := F) (U := U) (D := D) h ho hw9 hK hb h19 vi hs hB (show i < kN K by omega)
        rw [(eN h ho).2.2.1, p3, bd_r]
        cases hr9 : restsN K s i with
        | true =>
          show ∃ V', (if (1 : Int32) = 0 then _ else _) = _ ∧ _
          rw [if_neg (by decide)]
          simp (disch := first | assumption | exact inB_n (by omega) (by decide) | exact inB_l (by omega) (by decide) | exact inB_al (by omega) (by decide) | exact inB_la (by omega) (by decide) | exact inB_j (by assumption) (by omega) (by decide) | exact inB_e (by assumption) (by decide) | omega) only [↓eN h ho, vi.1, ix_nI, ix_l, nI_al, nI_la, nI_lm, u2_ne, u2_eq]
          have := fin V (fun _ _ _ => rfl)
          rw [show nxtN K g s i = s i by unfold nxtN; rw [hl9, hr9]; rfl] at this
          exact this
        | false =>
          show ∃ V', (if (0 : Int32) = 0 then _ else _) = _ ∧ _
          have hLV : (rl K).isSome = true → looked K (s 19) b (s 18) g s V D := fun q => by
            obtain ⟨⟨a1, a2, a3, a4, a5⟩, a6, a7, a8⟩ := hL q
            have v14 : V 14 = V0 14 := hV 14 (by omega) (by omega) (by omega)
            exact ⟨⟨a1, by rw [v14]; exact a2, by rw [v14]; exact a3, by rw [v14]; exact a4, by rw [hV 18 (by omega) (by omega) (by omega), hV 19 (by omega) (by omega) (by omega)]; exact a5⟩, by rw [v14]; exact a6, by rw [v14]; exact a7, by rw [v14]; exact a8⟩
          obtain ⟨V1, e1, f1⟩ := c_aim (F := F) (U := U) h ho hF hw9 hK hb h19 vi hs hLV (show i < kN K by omega) hl9
          rw [if_pos rfl, (eN h ho).2.2.1, e1, bd_r, nx.2 hl9 hr9, (eN h ho).2.2.1]
          exact fin V1 f1
  exact key (kN K) 0 F V0 (by omega) (by omega) (fun _ _ _ _ => rfl) (by
    have : chgI 0 (s 18) s (nxtN K g s) = s := by funext j; exact chgI_0 j
    rw [this]; exact hS)

/-! all the lines in -/
def dwnX (K : SkyT) (s : Nat → Nat) (k : Nat) : Nat := if restsN K s k = true then s k else s k - kH K
def downN (K : SkyT) (s : Nat → Nat) : Nat → Nat := chgN K s (dwnX K s)
theorem wf_down {K : SkyT} {B : Nat} {s : Nat → Nat} (hs : wfS K B s) (hw : wfK K) : wfS K (B + 1) (downN K s) := wf_chg hs hw (fun k hk hl => by
  have h4 := (hs.1 k hk).1
  unfold dwnX
  by_cases hr : restsN K s k = true
  · rw [if_pos hr]; exact ⟨h4, Or.inl rfl⟩
  · rw [if_neg hr]
    refine ⟨by omega, Or.inr ?_⟩
    have hT := hw.1.2.2.2.2.2.1
    unfold restsN at hr
    by_cases h1 : kT K ≤ s (12 + k)
    · exact absurd (by simp [h1]) hr
    · omega)
theorem c_haulDown {o b B : Nat} {K : SkyT} {s : Nat → Nat} {F C : Nat} {S : Mem} {V0 : Vw} {U : Uw} {D : Dw} (h : shC S C) (ho : isN o) (hF : 1001 < F) (hw9 : wfK K) (hK : cSky S C b K) (hb : D o 0 = b) (hS : cNt V0 o K s) (hs : wfS K B s) (hB : B < 2 ^ 30) :
    ∃ V', fn_X2_haulDown F (C + o) (wC S C V0 U D) = some ((), wC S C V' U D) ∧ (∀ j, j < o ∨ o + 3 < j → V' j = V0 j) ∧ cNt V' o K (downN K s) := by
  have ho7 : 28 ≤ o := by unfold isN at ho; omega
  have hn6 := hw9.1.1
  have hn : mI S b 0 = nI (kN K) := hK.2.1.1
  have hH : mI S b 7 = nI (kH K) := hK.2.1.2.2.1
  have hH5 := hw9.1.2.2.2.1
  have hl2 : s 18 < 2 ^ 31 := by have := hs.lost hw9; omega
  have key : ∀ (d i f : Nat) (V : Vw), i + d = kN K → d < f → (∀ j, j < o + 1 ∨ o + 3 < j → V j = V0 j) → cNt V o K (chgI i (s 18) s (dwnX K s)) →
      ∃ V', fix2 (b_X2_haulDown_2 F) f (C + o) (nI i) (wC S C V U D) = some ((), wC S C V' U D) ∧ (∀ j, j < o ∨ o + 3 < j → V' j = V0 j) ∧ cNt V' o K (downN K s) := by
    intro d
    induction d with
    | zero =>
      intro i f V hi hf hV hP
      obtain ⟨f, rfl⟩ : ∃ f', f = f' + 1 := ⟨f - 1, by omega⟩
      obtain rfl : i = kN K := by omega
      show ∃ V', b_X2_haulDown_2 F (fix2 (b_X2_haulDown_2 F) f) (C + o) (nI (kN K)) (wC S C V U D) = _ ∧ _
      generalize fix2 (b_X2_haulDown_2 F) f = k4
      unfold b_X2_haulDown_2
      have h19 : V o 1 = nI (s 19) := hP.1.trans (by rw [chgI_i (by omega)])
      rw [(eN h ho).2.2.2.1, hb, (eK hK.1).1, hn, if_pos (Int32.le_refl _)]
      simp only [↓eN h ho, h19]
      exact ⟨_, rfl, fun j c => by rw [u2_row (by omega), hV j (by omega)], cNt_end ho7 hP hn6⟩
    | succ d ih =>
      intro i f V hi hf hV hP
      obtain ⟨f, rfl⟩ : ∃ f', f = f' + 1 := ⟨f - 1, by omega⟩
      have ih := fun V => ih (i + 1) f V (by omega) (by omega)
      show ∃ V', b_X2_haulDown_2 F (fix2 (b_X2_haulDown_2 F) f) (C + o) (nI i) (wC S C V U D) = _ ∧ _
      generalize fix2 (b_X2_haulDown_2 F) f = k4 at ih ⊢
      have h18 : V o 2 = nI (s 18) := hP.2.1.trans (by rw [chgI_i (by omega)])
      have p1 := c_isLost (F := F) (U := U) (D := D) (k := i) h ho (by omega) h18 hl2
      unfold b_X2_haulDown_2 f_X2_haulDown_58 f_X2_haulDown_61
      rw [(eN h ho).2.2.2.1, hb, (eK hK.1).1, hn, if_neg (show ¬ nI (kN K) ≤ nI i from nI_ge (by omega) (by omega)), (eN h ho).2.2.1, p1, bd_r, nI_1]
      cases hl9 : lo (s 18) i with
      | true =>
        show ∃ V', (if (1 : Int32) = 0 then _ else _) = _ ∧ _
        rw [if_neg (by decide)]
        refine ih V hV ?_
        have : chgI (i + 1) (s 18) s (dwnX K s) = chgI i (s 18) s (dwnX K s) := by funext j; exact chgI_ne (Or.inl hl9)
        rw [this]; exact hP
      | false =>
        show ∃ V', (if (0 : Int32) = 0 then _ else _) = _ ∧ _
        rw [if_pos rfl]
        obtain ⟨ca, cb, cc⟩ := chgI_a (i := i) (l := s 18) (s := s) (nx := dwnX K s) (by omega)
        have hq := hs.1 i (by omega)
        have dx : dwnX K s i ≤ 40 := by unfold dwnX; split <;> omega
        obtain ⟨V1, e1, f1, n1⟩ := c_haulTo (F := F) (U := U) (D := D) h ho hw9 hP hs (show i < kN K by omega) hl9 dx
        have ih := ih V1 (fun j c => by rw [f1 j c, hV j c]) n1
        have vi := (hP.2.2.2.1 i (by omega))
        rw [ca, cb, cc] at vi
        have h19 : V o 1 = nI (s 19) := hP.1.trans (by rw [chgI_i (by omega)])
        have p3 := c_rests (F := F) (U := U) (D := D) h ho hw9 hK hb h19 vi hs hB (show i < kN K by omega)
        rw [(eN h ho).2.2.1, p3, bd_r]
        unfold dwnX at e1
        cases hr9 : restsN K s i with
        | true =>
          rw [hr9, if_pos rfl] at e1
          show ∃ V', (if (1 : Int32) = 0 then _ else _) = _ ∧ _
          rw [if_neg (by decide)]
          simp (disch := first | assumption | exact inB_n (by omega) (by decide) | exact inB_l (by omega) (by decide) | exact inB_al (by omega) (by decide) | exact inB_la (by omega) (by decide) | exact inB_j (by assumption) (by omega) (by decide) | exact inB_e (by assumption) (by decide) | omega) only [↓eN h ho, ↓bd_r, vi.1, e1, ix_nI, ix_l, nI_al, nI_la, nI_lm, u2_ne, u2_eq]
          exact ih
        | false =>
          rw [hr9, if_neg (show ¬ false = true by decide)] at e1
          show ∃ V', (if (0 : Int32) = 0 then _ else _) = _ ∧ _
          rw [if_pos rfl]
          simp (disch := first | assumption | exact inB_n (by omega) (by decide) | exact inB_l (by omega) (by decide) | exact inB_al (by omega) (by decide) | exact inB_la (by omega) (by decide) | exact inB_j (by assumption) (by omega) (by decide) | exact inB_e (by assumption) (by decide) | omega) only [↓eN h ho, ↓eK hK.1, ↓bd_r, hb, vi.1, hH, mx_sub (show s i < 2 ^ 30 by omega) (show kH K < 2 ^ 30 by omega), e1, ix_nI, ix_l, nI_al, nI_la, nI_lm, u2_ne, u2_eq]
          exact ih
  exact key (kN K) 0 F V0 (by omega) (by omega) (fun _ _ => rfl) (by
    have : chgI 0 (s 18) s (dwnX K s) = s := by funext j; exact chgI_0 j
    rw [this]; exact hS)
/-- how long the lines that are there are, all together -/
def upN (K : SkyT) (s : Nat → Nat) (n : Nat) : Nat := sumTo (fun k => if lo (s 18) k = true then 0 else s k) n
theorem upN_0 {K : SkyT} {s : Nat → Nat} : ∀ {n}, upN K s n = 0 ↔ ∀ k, k < n → lo (s 18) k = false → s k = 0
  | 0 => ⟨fun _ k hk => by omega, fun _ => rfl⟩
  | n + 1 => by
    have ih := upN_0 (K := K) (s := s) (n := n)
    have e : upN K s (n + 1) = upN K s n + if lo (s 18) n = true then 0 else s n := rfl
    rw [e]
    constructor
    · intro q k hk hl
      by_cases hkn : k = n
      · subst hkn; rw [hl, if_neg (by decide)] at q; omega
      · exact ih.mp (by omega) k (by omega) hl
    · intro q
      have h1 := ih.mpr (fun k hk hl => q k (by omega) hl)
      rw [h1]
      split
      · rfl
      · rename_i hl
        rw [q n (by omega) (by simpa using hl)]
theorem c_isAllDown {o b B : Nat} {K : SkyT} {s : Nat → Nat} {F C : Nat} {S : Mem} {V : Vw} {U : Uw} {D : Dw} (h : shC S C) (ho : isN o) (hF : 1001 < F) (hw9 : wfK K) (hK : cSky S C b K) (hb : D o 0 = b) (hS : cNt V o K s) (hs : wfS K B s) :
    fn_X2_isAllDown F (C + o) (wC S C V U D) = some (b1 (decide (upN K s (kN K) = 0)), wC S C V U D) := by
  have hn6 := hw9.1.1
  have hn : mI S b 0 = nI (kN K) := hK.2.1.1
  have hl2 : s 18 < 2 ^ 31 := by have := hs.lost hw9; omega
  have key : ∀ (d i f : Nat), i + d = kN K → d < f → upN K s i = 0 → fix2 (b_X2_isAllDown_2 F) f (C + o) (nI i) (wC S C V U D) = some (b1 (decide (upN K s (kN K) = 0)), wC S C V U D) := by
    intro d
    induction d with
    | zero =>
      intro i f hi hf h0
      obtain ⟨f, rfl⟩ : ∃ f', f = f' + 1 := ⟨f - 1, by omega⟩
      obtain rfl : i = kN K := by omega
      show b_X2_isAllDown_2 F (fix2 (b_X2_isAllDown_2 F) f) (C + o) (nI (kN K)) (wC S C V U D) = _
      unfold b_X2_isAllDown_2
      rw [(eN h ho).2.2.2.1, hb, (eK hK.1).1, hn, if_pos (Int32.le_refl _), decide_eq_true h0]
      rfl
    | succ d ih =>
      intro i f hi hf h0
      obtain ⟨f, rfl⟩ : ∃ f', f = f' + 1 := ⟨f - 1, by omega⟩
      have ih := ih (i + 1) f (by omega) (by omega)
      show b_X2_isAllDown_2 F (fix2 (b_X2_isAllDown_2 F) f) (C + o) (nI i) (wC S C V U D) = _
      generalize fix2 (b_X2_isAllDown_2 F) f = k4 at ih ⊢
      have p1 := c_isLost (F := F) (U := U) (D := D) (k := i) h ho (by omega) hS.2.1 hl2
      have vi := (hS.2.2.2.1 i (by omega)).1
      have hq := hs.1 i (by omega)
      have e : upN K s (i + 1) = upN K s i + if lo (s 18) i = true then 0 else s i := rfl
      unfold b_X2_isAllDown_2 f_X2_isAllDown_32
      rw [(eN h ho).2.2.2.1, hb, (eK hK.1).1, hn, if_neg (show ¬ nI (kN K) ≤ nI i from nI_ge (by omega) (by omega)), (eN h ho).2.2.1, p1, bd_r, nI_1]
      cases hl9 : lo (s 18) i with
      | true =>
        exact ih (by rw [e, hl9, h0]; rfl)
      | false =>
        show (if (0 : Int32) = 0 then _ else _) = _
        rw [if_pos rfl]
        simp (disch := first | assumption | exact inB_n (by omega) (by decide) | exact inB_l (by omega) (by decide) | exact inB_al (by omega) (by decide) | exact inB_la (by omega) (by decide) | exact inB_j (by assumption) (by omega) (by decide) | exact inB_e (by assumption) (by decide) | omega) only [↓eN h ho, vi, ix_nI, ix_l, nI_al, nI_la, nI_lm, u2_ne, u2_eq, nI_leI, nI_ltI, nI_eq, le_ln, le_nl, lt_ln, lt_nl, eq_nl, eq_ln]
        by_cases hz : s i ≤ 0
        · rw [if_pos hz]
          exact ih (by rw [e, hl9, h0]; show 0 + s i = 0; omega)
        · rw [if_neg hz, decide_eq_false (fun q => by
            have := upN_0.mp q i (by omega) hl9
            omega)]
          rfl
  exact key (kN K) 0 F (by omega) (by omega) rfl
/-! a row copied -/
def uR (V : Vw) (j : Nat) (r : Nat → Int32) : Vw := fun a => if a = j then r else V a
theorem uR_eq {V : Vw} {j : Nat} {r : Nat → Int32} : uR V j r j = r := if_pos rfl
theorem uR_ne {V : Vw} {j a : Nat} {r : Nat → Int32} (h : a ≠ j) : uR V j r a = V a := if_neg h
theorem wC_pA {S : Mem} {C j : Nat} {V : Vw} {U : Uw} {D : Dw} {r : Nat → Int32} (h : j = 0 ∨ (7 ≤ j ∧ j < 71)) : pA (wC S C V U D) (C + j) r = wC S C (uR V j r) U D := by
  have h1 : u1 (mI (wC S C V U D)) (C + j) r = fun a i => if a = C ∨ (C + 7 ≤ a ∧ a < C + 71) then uR V j r (a - C) i else mI S a i := by
    funext a i
    unfold u1 uR
    by_cases h2 : a = C + j
    · subst h2
      rw [if_pos rfl, if_pos (by omega), if_pos (by omega)]
    · rw [if_neg h2]
      show (if a = C ∨ (C + 7 ≤ a ∧ a < C + 71) then V (a - C) i else mI S a i) = _
      by_cases h3 : a = C ∨ (C + 7 ≤ a ∧ a < C + 71)
      · rw [if_pos h3, if_pos h3, if_neg (by omega)]
      · rw [if_neg h3, if_neg h3]
  show ((wC S C V U D).1, (wC S C V U D).2.1, u1 (mI (wC S C V U D)) (C + j) r, (wC S C V U D).2.2.2) = _
  rw [h1]
  rfl
theorem acp_N {α : Type} {S : Mem} {C i o o' N : Nat} {n : Int32} {V : Vw} {U : Uw} {D : Dw} {K : Mem → Option α} (h : shC S C) (ho : isN o) (ho' : isN o') (hi : 1 ≤ i ∧ i ≤ 6) (hn : n = nI N) (hN : N = if i ≤ 3 then 6 else 10) : (acp (wC S C V U D) (C + (o' + i)) 0 (C + (o + i)) 0 n).bind K = K (wC S C (uR V (o + i) (va_cpy (V (o' + i)) (V (o + i)) 0 0 N)) U D) := by
  subst hn
  have hN10 : N ≤ 10 := by rw [hN]; split <;> omega
  have hj : o + i = 0 ∨ (7 ≤ o + i ∧ o + i < 71) := by unfold isN at ho; omega
  have hj' : o' + i = 0 ∨ (7 ≤ o' + i ∧ o' + i < 71) := by unfold isN at ho'; omega
  have kk : ∀ x, isN x → mK S (C + (x + i)) = 10 ∧ mN S (C + (x + i)) = N := fun x hx => by
    have q := h.2.2.2.2.2.2.2.2.2.2.2.2.2.2.2.2.2.2.2.2.2.2.2.2.2.2.2.2.2.2.2.2.2.2.2.2.2.2.2.2.2.2.2.2.1 x hx
    rcases (by omega : i = 1 ∨ i = 2 ∨ i = 3 ∨ i = 4 ∨ i = 5 ∨ i = 6) with rfl | rfl | rfl | rfl | rfl | rfl
    · rw [hN]; exact ⟨q.2.1.2.1, q.2.1.2.2⟩
    · rw [hN]; exact ⟨q.2.2.1.2.1, q.2.2.1.2.2⟩
    · rw [hN]; exact ⟨q.2.2.2.1.2.1, q.2.2.2.1.2.2⟩
    · rw [hN]; exact ⟨q.2.2.2.2.1.2.1, q.2.2.2.2.1.2.2⟩
    · rw [hN]; exact ⟨q.2.2.2.2.2.1.2.1, q.2.2.2.2.2.1.2.2⟩
    · rw [hN]; exact ⟨q.2.2.2.2.2.2.2.1, q.2.2.2.2.2.2.2.2⟩
  have e0 : (0 : Int32).toNatClampNeg = 0 := by decide
  have eN' : (nI N).toNatClampNeg = N := nI_clamp (by omega)
  unfold acp
  rw [e0, eN', if_pos ⟨⟨(kk o' ho').1, (kk o ho).1⟩, ⟨by decide, by decide, nI_pos (by omega)⟩, by show 0 + N ≤ mN S _; rw [(kk o' ho').2]; omega, by show 0 + N ≤ mN S _; rw [(kk o ho).2]; omega⟩, Option.bind_some, wC_pA hj]
  congr 4
  · funext k; exact wC_mI hj'
  · funext k; exact wC_mI hj
theorem c_take {o o' : Nat} {K : SkyT} {s : Nat → Nat} {F C : Nat} {S : Mem} {V : Vw} {U : Uw} {D : Dw} (h : shC S C) (ho : isN o) (ho' : isN o') (hne : o ≠ o') (hw9 : wfK K) (hS : cNt V o' K s) (h20 : s 20 ≤ 10) :
    ∃ V', fn_X2_take F (C + o) (C + o') (wC S C V U D) = some ((), wC S C V' U (u2 D o 0 (D o' 0))) ∧ (∀ j, j < o ∨ o + 6 < j → V' j = V j) ∧ cNt V' o K s := by
  have ho7 : 28 ≤ o ∧ 28 ≤ o' ∧ (o + 6 < o' ∨ o' + 6 < o) := by unfold isN at ho ho'; omega
  have hn6 := hw9.1.1
  unfold fn_X2_take
  simp (disch := first | omega | rfl) only [↓eN h ho, ↓eN h ho', ↓acp_N (n := 6) (i := 1) (N := 6) h ho ho' (by omega) rfl rfl, ↓acp_N (n := 6) (i := 2) (N := 6) h ho ho' (by omega) rfl rfl, ↓acp_N (n := 6) (i := 3) (N := 6) h ho ho' (by omega) rfl rfl, ↓acp_N (n := 10) (i := 4) (N := 10) h ho ho' (by omega) rfl rfl, ↓acp_N (n := 10) (i := 5) (N := 10) h ho ho' (by omega) rfl rfl, ↓acp_N (n := 10) (i := 6) (N := 10) h ho ho' (by omega) rfl rfl]
  refine ⟨_, rfl, fun j hj => ?_, ?_⟩
  · rw [uR_ne (by omega), uR_ne (by omega), uR_ne (by omega), uR_ne (by omega), uR_ne (by omega), uR_ne (by omega), u2_row (by omega), u2_row (by omega), u2_row (by omega)]
  · obtain ⟨a1, a2, a3, a4, a5⟩ := hS
    have cp : ∀ (f g : Nat → Int32) (N k : Nat), k < N → va_cpy f g 0 0 N k = f k := fun f g N k hk => by
      rw [pk_cpy_in (by omega) (by omega)]; congr 1; omega
    refine ⟨?_, ?_, ?_, fun k hk => ⟨?_, ?_, ?_⟩, fun i hi => ⟨?_, ?_, ?_⟩⟩
    · simp (disch := omega) only [uR_ne, u2_ne, u2_eq]; exact a1
    · simp (disch := omega) only [uR_ne, u2_ne, u2_eq]; exact a2
    · simp (disch := omega) only [uR_ne, u2_ne, u2_eq]; exact a3
    · simp (disch := omega) only [uR_ne, uR_eq, cp, u2_row]; exact (a4 k hk).1
    · simp (disch := omega) only [uR_ne, uR_eq, cp, u2_row]; exact (a4 k hk).2.1
    · simp (disch := omega) only [uR_ne, uR_eq, cp, u2_row]; exact (a4 k hk).2.2
    · simp (disch := omega) only [uR_ne, uR_eq, cp, u2_row]; exact (a5 i hi).1
    · simp (disch := omega) only [uR_ne, uR_eq, cp, u2_row]; exact (a5 i hi).2.1
    · simp (disch := omega) only [uR_ne, uR_eq, cp, u2_row]; exact (a5 i hi).2.2
