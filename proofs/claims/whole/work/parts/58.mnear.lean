/-! nearest: the model's call -/
theorem ma_nearest {x y z : Int32} {B : Nat} {K : SkyT} {s : Nat → Nat} {F M : Nat} {S : Mem} {V : Vw} {U : Uw} (h : shM S M) (hF : 10000 < F) (hw9 : wfK K) (hK : mSky V 0 K) (hS : mS V s) (hs : wfS K B s) (hB : B < 2 ^ 29) : ∃ V' U', fn_X9_nearest F M x y z (wM S M V U) = some (sp_nearest K s x y z, wM S M V' U') ∧ mk V V' ∧ mS V' s := by
  have n6 := hw9.1.1
  have hlo := hs.lost hw9
  unfold fn_X9_nearest f_X9_nearest_29 f_X9_nearest_96 sp_nearest okNe
  rw [cm_sI h, q_isWanted, bd_r]
  have S1 : mS (u2 V 0 0 0) s := hS.thrown
  have K1 : mSky (u2 V 0 0 0) 0 K := hK.thrown
  have m1 : mk V (u2 V 0 0 0) := mk.thrown
  generalize u2 V 0 0 0 = W at S1 K1 m1 ⊢
  cases hxy : (inr x 0 999 && inr y 0 40) with
  | false => exact ⟨W, U, rfl, m1, S1⟩
  | true =>
  have w4 : W 2 (Int32.toNatClampNeg 4) = nI (kN K) := K1.1.2.2.2.2
  rw [if_neg (show ¬ b1 true = 0 by decide)]
  simp (disch := first | assumption | exact inB_n (by omega) (by decide) | exact inB_l (by omega) (by decide) | exact inB_al (by omega) (by decide) | exact inB_la (by omega) (by decide) | exact inB_j (by assumption) (by omega) (by decide) | exact inB_e (by assumption) (by decide) | omega) only [↓eM h, w4, q_within, ↓bd_r]
  rw [show (1 : Int32) + nI (kN K) = nI (kN K) + 1 from Int32.add_comm _ _]
  cases hz : inr z 0 (nI (kN K) + 1) with
  | false => exact ⟨W, U, rfl, m1, S1⟩
  | true =>
  rw [if_neg (show ¬ b1 true = 0 by decide), if_pos (show (true && true) = true from rfl)]
  rw [Bool.and_eq_true] at hxy
  rw [show nI (kN K) + 1 = nI (kN K + 1) from nI_add _ 1] at hz
  obtain ⟨p, -, hp, rfl⟩ := inr_nI (a := 0) (b := 999) (by decide) (by decide) hxy.1
  obtain ⟨q, -, hq, rfl⟩ := inr_nI (a := 0) (b := 40) (by decide) (by decide) hxy.2
  obtain ⟨k, -, hk, rfl⟩ := inr_nI (a := 0) (b := kN K + 1) (by decide) (by omega) hz
  rw [nI_clamp (by omega), nI_clamp (by omega), nI_clamp (by omega)]
  obtain ⟨V1, e1, f1, w1⟩ := q_blows (F := F) (V0 := u2 (u2 (u2 W 0 45 (nI p)) 0 46 (nI q)) 0 47 (-1)) (U := U) (m := s 19) (g := 0) h (by omega) (K1.thrown.thrown.thrown)
  have r0 := f1 0 (by omega)
  have r24 : V1 24 = W 24 := by rw [f1 24 (by omega), u2_row (by omega), u2_row (by omega), u2_row (by omega)]
  have vs : vld K (s 18) s 2 s := fun k hk => by
    have := low_top (l := s 18) (e := 2) (hs.1 k hk).1
    exact ⟨this.1, this.2.1⟩
  obtain ⟨V2, e2, g1, g2⟩ := q_tries (F := F) (U := U) (l := s 18) (p := p) (q := q) (w := wR K (s 19) 0) h (by omega) hw9 hs (wR_le K (s 19) 0) (by omega) hp hq 8 0 s V1 (by omega) (by omega) (fun i hi => by omega) (fun i hi => rfl)
    ⟨K1.keep (fun j hj => by rw [f1 j (by omega), u2_row (by omega), u2_row (by omega), u2_row (by omega)]), by rw [r24]; exact S1 18 (by omega), fun i hi => by rw [r24]; exact S1 i (by omega), w1, by rw [r0, u2_ne (by omega), u2_ne (by omega)]; exact u2_eq ⟨rfl, rfl⟩, by rw [r0, u2_ne (by omega)]; exact u2_eq ⟨rfl, rfl⟩⟩
    (Or.inl ⟨by rw [r0]; exact u2_eq ⟨rfl, rfl⟩, fun c _ z => absurd z (Nat.not_lt_zero _)⟩)
  have m2 : mk V V2 := ⟨fun j a b => by rw [g1.1 j a (by omega) (by omega), f1 j (by omega), u2_row a, u2_row a, u2_row a]; exact m1.1 j a b, by rw [g1.2 1 (by omega) (by omega) (by omega) (by omega) (by omega), r0, u2_ne (by omega), u2_ne (by omega), u2_ne (by omega)]; exact m1.2⟩
  have S2 : mS V2 s := fun j hj => by rw [g1.1 24 (by omega) (by omega) (by omega), r24]; exact S1 j hj
  have w19 : W 24 (Int32.toNatClampNeg 19) = nI (s 19) := S1 19 (by omega)
  refine ⟨V2, U, ?_, m2, S2⟩
  have e2' : fn_X9_tries F 8 M 0 2 0 (wM S M V1 U) = some ((), wM S M V2 U) := e2
  have cmn : ∃ c, nearP K (s 18) (wR K (s 19) 0) s p q c ∧ V2 0 47 = nI (awayK K (s 18) (wR K (s 19) 0) c p q) ∧ V2 0 48 = nI (chgT s c (kN K)) ∧ ∀ i, i < kN K → V2 30 i = nI (c i) := by
    rcases g2 with ⟨_, z⟩ | ⟨c, c1, c2, c3, c4, c5, c6⟩
    · exact absurd (Nat.lt_succ_self 0) (z s vs)
    · exact ⟨c, ⟨c1, fun c' hc' => c6 c' hc' (Nat.lt_succ_self 0)⟩, c3, c4, c5⟩
  obtain ⟨c, c1, c2, c3, c4⟩ := cmn
  obtain ⟨u1, u2_, u3⟩ := near_uniq hw9 hs (nearC_ok c1) c1
  simp (disch := first | assumption | exact inB_n (by omega) (by decide) | exact inB_l (by omega) (by decide) | exact inB_al (by omega) (by decide) | exact inB_la (by omega) (by decide) | exact inB_j (by assumption) (by omega) (by decide) | exact inB_e (by assumption) (by decide) | omega) only [↓eM h, u2_ne, w19, e1, ↓bd_r, e2']
  by_cases k0 : k = 0
  · subst k0
    rw [if_pos (show nI 0 = 0 from rfl), if_pos rfl, c2, u1]
  · rw [if_neg (show ¬ nI k = 0 from fun q => k0 ((nI_eq (b := 0) (by omega) (by decide)).mp q)), if_neg k0]
    by_cases k1 : k = 1
    · subst k1
      rw [if_pos (show nI 1 = 1 from rfl), if_pos rfl, c3, u2_]
    · rw [if_neg (show ¬ nI k = 1 from fun q => k1 ((nI_eq (b := 1) (by omega) (by decide)).mp q)), if_neg k1]
      rw [show nI k - 2 = nI (k - 2) from pk_sub (b := 2) (by omega)]
      simp (disch := first | assumption | exact inB_n (by omega) (by decide) | exact inB_l (by omega) (by decide) | exact inB_al (by omega) (by decide) | exact inB_la (by omega) (by decide) | exact inB_j (by assumption) (by omega) (by decide) | exact inB_e (by assumption) (by decide) | omega) only [↓eM h, ix_nI, ix_l, nI_al, nI_la, nI_lm, u2_ne, u2_eq]
      rw [c4 _ (by omega), u3 _ (by omega)]
