/-! the model: a sky laid elsewhere -/
theorem wkRun_congr {cd cd' val : Nat → Int32} : ∀ (n i i' d : Nat) (V : Vw), (∀ j, j < n → cd (i + j) = cd' (i' + j)) → wkRun cd val n i d V = wkRun cd' val n i' d V := by
  intro n
  induction n with
  | zero => exact fun _ _ _ _ _ => rfl
  | succ n ih =>
    intro i i' d V h
    have e0 : cd i = cd' i' := h 0 (Nat.succ_pos n)
    have e1 : ∀ j, j < n → cd (i + 1 + j) = cd' (i' + 1 + j) := fun j hj => by
      have := h (j + 1) (by omega)
      rw [show i + 1 + j = i + (j + 1) by omega, show i' + 1 + j = i' + (j + 1) by omega]
      exact this
    unfold wkRun
    rw [e0]
    congr 1
    funext q
    exact ih (i + 1) (i' + 1) q.1 q.2 e1
theorem lawM.shift {cd cd' : Nat → Int32} {a b a' b' : Nat} {f : (Nat → Int32) → Int32} (h : lawM cd a b f) (e : b' - a' = b - a) (h' : a' ≤ b') (hc : ∀ j, j < b - a → cd (a + j) = cd' (a' + j)) : lawM cd' a' b' f := by
  refine ⟨h', fun val V => ?_⟩
  obtain ⟨d, V', e1, e2⟩ := h.2 val V
  refine ⟨d, V', ?_, e2⟩
  rw [e, ← wkRun_congr (b - a) a a' 0 (opensV 0 V) hc]
  exact e1
theorem sh_nI {a fr to : Nat} (h : 1000 * fr ≤ a) : nI a + 1000 * (nI to - nI fr) = nI (a - 1000 * fr + 1000 * to) := by
  by_cases hc : fr ≤ to
  · rw [pk_sub hc, show (1000 : Int32) * nI (to - fr) = nI (1000 * (to - fr)) from pk_mul 1000 _, nI_add]
    congr 1
    omega
  · have e1 : nI to - nI fr = -(nI fr - nI to) := (Int32.neg_sub).symm
    rw [e1, pk_sub (show to ≤ fr by omega), Int32.mul_neg, show (1000 : Int32) * nI (fr - to) = nI (1000 * (fr - to)) from pk_mul 1000 _, ← Int32.sub_eq_add_neg, pk_sub (by omega)]
    congr 1
    omega
def lawO (cd : Nat → Int32) (a b : Nat) (f : Option ((Nat → Int32) → Int32)) : Prop := match f with
  | none => a = b
  | some f => a < b ∧ lawM cd a b f
theorem lawO.move {cd cd' : Nat → Int32} {a b r r' : Nat} {f : Option ((Nat → Int32) → Int32)} (h : lawO cd a b f) (h0 : 1000 * r ≤ a) (hab : a ≤ b) (hb6 : b ≤ 1000 * r + 1000) (h11 : ∀ k, k < 1000 → cd' (1000 * r' + k) = cd (1000 * r + k)) : lawO cd' (a - 1000 * r + 1000 * r') (b - 1000 * r + 1000 * r') f := by
  cases f with
  | none =>
    have h : a = b := h
    subst h; rfl
  | some f =>
    refine ⟨by have := h.1; omega, h.2.shift (by omega) (by omega) (fun j hj => ?_)⟩
    have := h11 (a - 1000 * r + j) (by omega)
    rw [show 1000 * r' + (a - 1000 * r + j) = a - 1000 * r + 1000 * r' + j by omega, show 1000 * r + (a - 1000 * r + j) = a + j by omega] at this
    exact this.symm
theorem mLaw.stay {V V' : Vw} {i r : Nat} {f : Option ((Nat → Int32) → Int32)} (h : mLaw V i r True f) (h9 : V' 9 i = V 9 i) (h10 : V' 10 i = V 10 i) (h11 : ∀ k, k < 1000 → V' 11 (1000 * r + k) = V 11 (1000 * r + k)) : mLaw V' i r True f := by
  obtain ⟨a, b, ha, hb, h0, hab, hb6, hm⟩ := h
  have hm : lawO (V 11) a b f := hm
  have q := hm.move (r := r) (r' := r) (cd' := V' 11) h0 hab hb6 h11
  rw [Nat.sub_add_cancel h0, Nat.sub_add_cancel (by omega)] at q
  exact ⟨a, b, h9.trans ha, h10.trans hb, h0, hab, hb6, q⟩
theorem q_lays {fr to : Nat} {K0 : SkyT} {F M : Nat} {S : Mem} {V0 : Vw} {U : Uw} (h : shM S M) (hF : 1001 < F) (ha : fr < 6) (hb : to < 6) (hne : fr ≠ to) (hK : mSky V0 fr K0) (hn : kN K0 ≤ 6) :
    ∃ V', fn_X9_lays F M (nI fr) (nI to) (wM S M V0 U) = some ((), wM S M V' U) ∧ (∀ j, j < 2 ∨ j = 8 ∨ 11 < j → V' j = V0 j) ∧ (∀ k, k < 6 → V' 7 (6 * to + k) = V0 7 (6 * fr + k)) ∧ mSky V' to K0 ∧ (∀ r K, r ≠ to → mSky V0 r K → kN K ≤ 6 → mSky V' r K) := by
  obtain ⟨a0, c0, l0, l2, g0, k0, j0, m0⟩ := hK.2.2.1
  obtain ⟨a1, c1, l1, l3, g1, k1, j1, m00⟩ := hK.2.2.2
  have m0 : lawO (V0 11) a0 c0 (wlF K0) := m0
  have m00 : lawO (V0 11) a1 c1 (rlF K0) := m00
  have g2 : 1000 * fr ≤ c0 := by omega
  have g3 : 1000 * fr ≤ c1 := by omega
  obtain ⟨V1, e1, f1, m1, o1⟩ := q_moves_2 (F := F) (V0 := V0) (U := U) h hF ha hb hne
  have e1 : fn_X9_moves F (M + 2) (5 : Int32) (nI fr) (nI to) (wM S M V0 U) = some ((), wM S M V1 U) := e1
  obtain ⟨V2, e2, f2, m2, o2⟩ := q_moves_3 (F := F) (V0 := V1) (U := U) h hF ha hb hne
  have e2 : fn_X9_moves F (M + 3) (6 : Int32) (nI fr) (nI to) (wM S M V1 U) = some ((), wM S M V2 U) := e2
  obtain ⟨V3, e3, f3, m3, o3⟩ := q_moves_4 (F := F) (V0 := V2) (U := U) h hF ha hb hne
  have e3 : fn_X9_moves F (M + 4) (6 : Int32) (nI fr) (nI to) (wM S M V2 U) = some ((), wM S M V3 U) := e3
  obtain ⟨V4, e4, f4, m4, o4⟩ := q_moves_5 (F := F) (V0 := V3) (U := U) h hF ha hb hne
  have e4 : fn_X9_moves F (M + 5) (6 : Int32) (nI fr) (nI to) (wM S M V3 U) = some ((), wM S M V4 U) := e4
  obtain ⟨V5, e5, f5, m5, o5⟩ := q_moves_6 (F := F) (V0 := V4) (U := U) h hF ha hb hne
  have e5 : fn_X9_moves F (M + 6) (6 : Int32) (nI fr) (nI to) (wM S M V4 U) = some ((), wM S M V5 U) := e5
  obtain ⟨V6, e6, f6, m6, o6⟩ := q_moves_7 (F := F) (V0 := V5) (U := U) h hF ha hb hne
  have e6 : fn_X9_moves F (M + 7) (6 : Int32) (nI fr) (nI to) (wM S M V5 U) = some ((), wM S M V6 U) := e6
  obtain ⟨V7, e7, f7, m7, o7⟩ := q_moves_11 (F := F) (V0 := V6) (U := U) h hF ha hb hne
  have e7 : fn_X9_moves F (M + 11) (1000 : Int32) (nI fr) (nI to) (wM S M V6 U) = some ((), wM S M V7 U) := e7
  have r9 : V7 9 = V0 9 := by rw [f7 9 (by omega), f6 9 (by omega), f5 9 (by omega), f4 9 (by omega), f3 9 (by omega), f2 9 (by omega), f1 9 (by omega)]
  have r10 : V7 10 = V0 10 := by rw [f7 10 (by omega), f6 10 (by omega), f5 10 (by omega), f4 10 (by omega), f3 10 (by omega), f2 10 (by omega), f1 10 (by omega)]
  have r2 : V7 2 = V1 2 := by rw [f7 2 (by omega), f6 2 (by omega), f5 2 (by omega), f4 2 (by omega), f3 2 (by omega), f2 2 (by omega)]
  have r3 : V7 3 = V2 3 := by rw [f7 3 (by omega), f6 3 (by omega), f5 3 (by omega), f4 3 (by omega), f3 3 (by omega)]
  have r4 : V7 4 = V3 4 := by rw [f7 4 (by omega), f6 4 (by omega), f5 4 (by omega), f4 4 (by omega)]
  have r5 : V7 5 = V4 5 := by rw [f7 5 (by omega), f6 5 (by omega), f5 5 (by omega)]
  have r6 : V7 6 = V5 6 := by rw [f7 6 (by omega), f6 6 (by omega)]
  have r7 : V7 7 = V6 7 := by rw [f7 7 (by omega)]
  have q3 : V1 3 = V0 3 := f1 3 (by omega)
  have q4 : V2 4 = V0 4 := by rw [f2 4 (by omega), f1 4 (by omega)]
  have q5 : V3 5 = V0 5 := by rw [f3 5 (by omega), f2 5 (by omega), f1 5 (by omega)]
  have q6 : V4 6 = V0 6 := by rw [f4 6 (by omega), f3 6 (by omega), f2 6 (by omega), f1 6 (by omega)]
  have q7 : V5 7 = V0 7 := by rw [f5 7 (by omega), f4 7 (by omega), f3 7 (by omega), f2 7 (by omega), f1 7 (by omega)]
  have q11 : V6 11 = V0 11 := by rw [f6 11 (by omega), f5 11 (by omega), f4 11 (by omega), f3 11 (by omega), f2 11 (by omega), f1 11 (by omega)]
  rw [q3] at m2 o2
  rw [q4] at m3 o3
  rw [q5] at m4 o4
  rw [q6] at m5 o5
  rw [q7] at m6 o6
  rw [q11] at m7 o7
  have s0 := sh_nI (to := to) g0
  have s1 := sh_nI (to := to) g1
  have s2 := sh_nI (to := to) g2
  have s3 := sh_nI (to := to) g3
  have lp : ∀ f, 3 ≤ f → fix4 (b_X9_lays_79 F) f M (nI fr) (nI to) (nI 0) (wM S M V7 U) = some ((), wM S M (u2 (u2 (u2 (u2 V7 9 (2 * to) (nI (a0 - 1000 * fr + 1000 * to))) 10 (2 * to) (nI (c0 - 1000 * fr + 1000 * to))) 9 (2 * to + 1) (nI (a1 - 1000 * fr + 1000 * to))) 10 (2 * to + 1) (nI (c1 - 1000 * fr + 1000 * to))) U) := by
    intro f hf
    obtain ⟨f, rfl⟩ : ∃ f', f = f' + 3 := ⟨f - 3, by omega⟩
    show b_X9_lays_79 F (fix4 (b_X9_lays_79 F) (f + 2)) M (nI fr) (nI to) (nI 0) (wM S M V7 U) = _
    have st2 : ∀ V, fix4 (b_X9_lays_79 F) (f + 1) M (nI fr) (nI to) (nI 2) (wM S M V U) = some ((), wM S M V U) := fun V => rfl
    have w0 : V7 9 (2 * fr) = nI a0 := by rw [r9, l0]
    have w1 : V7 9 (2 * fr + 1) = nI a1 := by rw [r9, l1]
    have w2 : V7 10 (2 * fr) = nI c0 := by rw [r10, l2]
    have w3 : V7 10 (2 * fr + 1) = nI c1 := by rw [r10, l3]
    have st1 : ∀ V, V 9 (2 * fr + 1) = nI a1 → V 10 (2 * fr + 1) = nI c1 → fix4 (b_X9_lays_79 F) (f + 2) M (nI fr) (nI to) (nI 1) (wM S M V U) = some ((), wM S M (u2 (u2 V 9 (2 * to + 1) (nI (a1 - 1000 * fr + 1000 * to))) 10 (2 * to + 1) (nI (c1 - 1000 * fr + 1000 * to))) U) := by
      intro V z1 z2
      show b_X9_lays_79 F (fix4 (b_X9_lays_79 F) (f + 1)) M (nI fr) (nI to) (nI 1) (wM S M V U) = _
      generalize hk : fix4 (b_X9_lays_79 F) (f + 1) = k4 at st2 ⊢
      unfold b_X9_lays_79
      rw [if_neg (by decide)]
      simp only [nI_lm, nI_add, nI_1]
      simp (disch := first | assumption | exact inB_n (by omega) (by decide) | exact inB_l (by omega) (by decide) | exact inB_al (by omega) (by decide) | exact inB_la (by omega) (by decide) | exact inB_j (by assumption) (by omega) (by decide) | exact inB_e (by assumption) (by decide) | omega) only [↓eM h, ↓bd_r, ↓lt_r, ↓Option.bind_some, ↓reduceIte, ix_nI, ix_l, nI_al, nI_la, nI_lm, u2_ne, u2_eq, nI_leI, nI_ltI, nI_eq, le_ln, le_nl, lt_ln, lt_nl, eq_nl, eq_ln, z1, z2, s1, s3, st2]
    generalize hk : fix4 (b_X9_lays_79 F) (f + 2) = k4 at st1 ⊢
    unfold b_X9_lays_79
    rw [if_neg (by decide)]
    simp only [nI_lm, nI_add, nI_1]
    simp (disch := first | assumption | exact inB_n (by omega) (by decide) | exact inB_l (by omega) (by decide) | exact inB_al (by omega) (by decide) | exact inB_la (by omega) (by decide) | exact inB_j (by assumption) (by omega) (by decide) | exact inB_e (by assumption) (by decide) | omega) only [↓eM h, ↓bd_r, ↓lt_r, ↓Option.bind_some, ↓reduceIte, ix_nI, ix_l, nI_al, nI_la, nI_lm, u2_ne, u2_eq, nI_leI, nI_ltI, nI_eq, le_ln, le_nl, lt_ln, lt_nl, eq_nl, eq_ln, Nat.add_zero, w0, w2, s0, s2]
    rw [show (0 + 1 : Nat) = 1 from rfl]
    rw [st1 _ (by rw [u2_ne (by omega), u2_ne (by omega), w1]) (by rw [u2_ne (by omega), u2_ne (by omega), w3])]
  have lp := lp F (by omega)
  generalize hX : u2 (u2 (u2 (u2 V7 9 (2 * to) (nI (a0 - 1000 * fr + 1000 * to))) 10 (2 * to) (nI (c0 - 1000 * fr + 1000 * to))) 9 (2 * to + 1) (nI (a1 - 1000 * fr + 1000 * to))) 10 (2 * to + 1) (nI (c1 - 1000 * fr + 1000 * to)) = X at lp
  have xf : ∀ j, j ≠ 9 → j ≠ 10 → X j = V7 j := fun j h9 h10 => by rw [← hX, u2_row h10, u2_row h9, u2_row h10, u2_row h9]
  have xa : X 9 (2 * to) = nI (a0 - 1000 * fr + 1000 * to) := by rw [← hX]; simp (disch := omega) only [u2_ne, u2_eq]
  have xb : X 9 (2 * to + 1) = nI (a1 - 1000 * fr + 1000 * to) := by rw [← hX]; simp (disch := omega) only [u2_ne, u2_eq]
  have xc : X 10 (2 * to) = nI (c0 - 1000 * fr + 1000 * to) := by rw [← hX]; simp (disch := omega) only [u2_ne, u2_eq]
  have xd : X 10 (2 * to + 1) = nI (c1 - 1000 * fr + 1000 * to) := by rw [← hX]; simp (disch := omega) only [u2_ne, u2_eq]
  have xo : ∀ k, k ≠ 2 * to → k ≠ 2 * to + 1 → X 9 k = V0 9 k ∧ X 10 k = V0 10 k := fun k k1 k2 => by
    rw [← r9, ← r10, ← hX]
    constructor <;> simp (disch := omega) only [u2_ne]
  refine ⟨X, ?_, fun j hj => ?_, fun k hk => ?_, ?_, fun r K hr hK hn => ?_⟩
  · unfold fn_X9_lays
    simp only [↓eM h, ↓bd_r, e1, e2, e3, e4, e5, e6, e7]
    exact lp
  · rw [xf j (by omega) (by omega), f7 j (by omega), f6 j (by omega), f5 j (by omega), f4 j (by omega), f3 j (by omega), f2 j (by omega), f1 j (by omega)]
  · rw [xf 7 (by omega) (by omega), r7]; exact m6 k hk
  · unfold mSky at hK ⊢
    rw [xf 2 (by omega) (by omega), xf 3 (by omega) (by omega), xf 4 (by omega) (by omega), xf 5 (by omega) (by omega), xf 6 (by omega) (by omega), r2, r3, r4, r5, r6]
    have h11 : ∀ k, k < 1000 → X 11 (1000 * to + k) = V0 11 (1000 * fr + k) := fun k hk => by rw [xf 11 (by omega) (by omega)]; exact m7 k hk
    exact ⟨⟨(m1 0 (by omega)).trans hK.1.1, (m1 1 (by omega)).trans hK.1.2.1, (m1 2 (by omega)).trans hK.1.2.2.1, (m1 3 (by omega)).trans hK.1.2.2.2.1, (m1 4 (by omega)).trans hK.1.2.2.2.2⟩, fun k hk => ⟨(m2 k (by omega)).trans (hK.2.1 k hk).1, (m3 k (by omega)).trans (hK.2.1 k hk).2.1, (m4 k (by omega)).trans (hK.2.1 k hk).2.2.1, (m5 k (by omega)).trans (hK.2.1 k hk).2.2.2⟩,
      ⟨_, _, xa, xc, by omega, by omega, by omega, m0.move g0 k0 j0 h11⟩, ⟨_, _, xb, xd, by omega, by omega, by omega, m00.move g1 k1 j1 h11⟩⟩
  · unfold mSky at hK ⊢
    rw [xf 2 (by omega) (by omega), xf 3 (by omega) (by omega), xf 4 (by omega) (by omega), xf 5 (by omega) (by omega), xf 6 (by omega) (by omega), r2, r3, r4, r5, r6]
    have h11 : ∀ k, k < 1000 → X 11 (1000 * r + k) = V0 11 (1000 * r + k) := fun k hk => by rw [xf 11 (by omega) (by omega), o7 _ (by omega)]
    exact ⟨⟨(o1 _ (by omega)).trans hK.1.1, (o1 _ (by omega)).trans hK.1.2.1, (o1 _ (by omega)).trans hK.1.2.2.1, (o1 _ (by omega)).trans hK.1.2.2.2.1, (o1 _ (by omega)).trans hK.1.2.2.2.2⟩, fun k hk => ⟨(o2 _ (by omega)).trans (hK.2.1 k hk).1, (o3 _ (by omega)).trans (hK.2.1 k hk).2.1, (o4 _ (by omega)).trans (hK.2.1 k hk).2.2.1, (o5 _ (by omega)).trans (hK.2.1 k hk).2.2.2⟩,
      hK.2.2.1.stay (xo _ (by omega) (by omega)).1 (xo _ (by omega) (by omega)).2 h11, hK.2.2.2.stay (xo _ (by omega) (by omega)).1 (xo _ (by omega) (by omega)).2 h11⟩
