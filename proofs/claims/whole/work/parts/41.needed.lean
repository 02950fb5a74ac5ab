/-! needed -/
def nbI : Option Nat → Int32
  | none => -1
  | some b => nI b
def fewB (best : Option Nat) (set : Nat) : Bool := match best with
  | none => true
  | some b => decide (popN set < popN b)
def nstep (K : SkyT) (s : Nat → Nat) (q all set : Nat) (best : Option Nat) : Option Nat := if nI set &&& nI (s 18) = 0 ∧ fewB best set = true ∧ q ≤ highN K (all - set) (wR K (s 19) 0) s then some set else best
def needR (K : SkyT) (s : Nat → Nat) (q all : Nat) : Nat → Nat → Option Nat → Option Nat
  | 0, _, best => best
  | d + 1, set, best => needR K s q all d (set + 1) (nstep K s q all set best)
def neF (best : Option Nat) (y : Int32) : Int32 := match best with
  | none => -1
  | some b => if y = 1 then nI b else nI (popN b)
def sp_needed (K : SkyT) (s : Nat → Nat) (x y : Int32) : Int32 := if (inr x 0 40 && inr y 0 1) = true then neF (needR K s x.toNatClampNeg (2 ^ kN K - 1) (2 ^ kN K) 0 none) y else -1
theorem andn_F : ∀ n : Fin 7, ∀ a : Fin 64, a.val < 2 ^ n.val → nI (2 ^ n.val - 1) &&& (nI a.val ^^^ (-1 : Int32)) = nI (2 ^ n.val - 1 - a.val) := by decide +kernel
theorem sh1_F : ∀ n : Fin 7, ((1 : Int32) <<< (nI n.val &&& 31)) = nI (2 ^ n.val) := by decide +kernel
theorem sh1 {n : Nat} (hn : n ≤ 6) : ((1 : Int32) <<< (nI n &&& 31)) = nI (2 ^ n) := sh1_F ⟨n, by omega⟩
theorem pw6 {n : Nat} (hn : n ≤ 6) : 1 ≤ 2 ^ n ∧ 2 ^ n ≤ 64 := ⟨Nat.two_pow_pos n, Nat.pow_le_pow_right (by decide) hn⟩
theorem pop_F : ∀ l : Fin 64, popN l.val ≤ 6 := by decide +kernel
theorem pop_le {l : Nat} (h : l < 64) : popN l ≤ 6 := pop_F ⟨l, h⟩
theorem nstep_lt {K : SkyT} {s : Nat → Nat} {q all set : Nat} {best : Option Nat} (hset : set < 64) (hb : ∀ b, best = some b → b < 64) : ∀ b, nstep K s q all set best = some b → b < 64 := by
  intro b e
  unfold nstep at e
  split at e
  · cases e; exact hset
  · exact hb b e
theorem ca_needed {x y : Int32} {B b : Nat} {K : SkyT} {s : Nat → Nat} {F C : Nat} {S : Mem} {V : Vw} {U : Uw} {D : Dw} (h : shC S C) (hF : 10000 < F) (hw9 : wfK K) (hK : cSky S C b K) (hb : D 28 0 = b) (hS : cNt V 28 K s) (hs : wfS K B s) (hB : B < 2 ^ 29) : ∃ V' D', fn_X8_needed F C x y (wC S C V U D) = some (sp_needed K s x y, wC S C V' U D') ∧ ck V V' ∧ dk D D' ∧ cNt V' 28 K s := by
  have hn6 := hw9.1.1
  have hl6 := hs.lost hw9
  obtain ⟨pw1, pw2⟩ := pw6 hn6
  unfold fn_X8_needed f_X8_needed_16 f_X8_needed_34 f_X8_needed_42 sp_needed
  rw [c_isHeight, bd_r]
  cases hx : inr x 0 40 with
  | false => exact ⟨V, D, rfl, ck.rf, dk.rf, hS⟩
  | true =>
  show ∃ V' D', (if (1 : Int32) = 0 then _ else _) = _ ∧ _
  rw [if_neg (by decide), c_within, bd_r]
  cases hy : inr y 0 1 with
  | false => exact ⟨V, D, rfl, ck.rf, dk.rf, hS⟩
  | true =>
  show ∃ V' D', (if (1 : Int32) = 0 then _ else _) = some ((if true = true then _ else _), _) ∧ _
  obtain ⟨q, -, hq, rfl⟩ := inr_nI (a := 0) (b := 40) (by decide) (by decide) hx
  rw [if_neg (by decide), if_pos rfl, nI_clamp (by omega)]
  obtain ⟨V1, e1, f1, g1⟩ := c_feel (F := F) (U := U) (m := s 19) (g := 0) (len := s) h isN28 (by omega) hw9 hK hb (fun k hk => (hS.2.2.2.1 k hk).1) (fun k hk => (hs.1 k hk).1)
  have hb1 : (u2 D 14 7 b) 28 0 = b := by rw [u2_ne (by omega)]; exact hb
  have dk1 : dk D (u2 D 14 7 b) := dk.air
  generalize u2 D 14 7 b = E at e1 g1 hb1 dk1
  have key : ∀ (d i f : Nat) (W : Vw) (best : Option Nat), i + d = 2 ^ kN K → d < f → (∀ j, j ≠ 14 → W j = V1 j) → felt K (s 19) b 0 s W E → (∀ b, best = some b → b < 64) →
      ∃ V', fix5 (b_X8_fewestKept_39 F) f C (nI q) (nI (2 ^ kN K - 1)) (nbI best) (nI i) (wC S C W U E) = some (nbI (needR K s q (2 ^ kN K - 1) d i best), wC S C V' U E) ∧ (∀ j, j ≠ 14 → V' j = V1 j) ∧ (∀ b, needR K s q (2 ^ kN K - 1) d i best = some b → b < 64) := by
    intro d
    induction d with
    | zero =>
      intro i f W best hi hf c1 g2 hbest
      obtain ⟨f, rfl⟩ : ∃ f', f = f' + 1 := ⟨f - 1, by omega⟩
      refine ⟨W, ?_, c1, hbest⟩
      show b_X8_fewestKept_39 F (fix5 (b_X8_fewestKept_39 F) f) C (nI q) (nI (2 ^ kN K - 1)) (nbI best) (nI i) (wC S C W U E) = _
      unfold b_X8_fewestKept_39
      rw [if_pos (nI_lt (by omega) (by omega))]
      rfl
    | succ d ih =>
      intro i f W best hi hf c1 g2 hbest
      obtain ⟨f, rfl⟩ : ∃ f', f = f' + 1 := ⟨f - 1, by omega⟩
      have ih := fun W => ih (i + 1) f W (nstep K s q (2 ^ kN K - 1) i best) (by omega) (by omega)
      show ∃ V', b_X8_fewestKept_39 F (fix5 (b_X8_fewestKept_39 F) f) C (nI q) (nI (2 ^ kN K - 1)) (nbI best) (nI i) (wC S C W U E) = _ ∧ _
      generalize fix5 (b_X8_fewestKept_39 F) f = k4 at ih ⊢
      have nW : cNt W 28 K s := (hS.keep (fun i hi => f1 (28 + i) (by omega))).keep (fun i hi => c1 (28 + i) (by omega))
      have o1 := andn_F ⟨kN K, by omega⟩ ⟨i, by omega⟩ (show i < 2 ^ kN K by omega)
      have o1 : nI (2 ^ kN K - 1) &&& (nI i ^^^ (-1 : Int32)) = nI (2 ^ kN K - 1 - i) := o1
      have e2 := c_hang (F := F) (U := U) (l := 2 ^ kN K - 1 - i) h isN28 (by omega) hw9 hK g2 (by omega) (fun k hk => (nW.2.2.2.1 k hk).1) (fun k hk => (hs.1 k hk).1)
      have hhi := high_le (K := K) (l := 2 ^ kN K - 1 - i) (w := wR K (s 19) 0) (len := s)
      have nb := nstep_lt (K := K) (s := s) (q := q) (all := 2 ^ kN K - 1) (set := i) (by omega) hbest
      have gX : felt K (s 19) b 0 s (u2 (u2 W 14 4 (nI (rawN K (2 ^ kN K - 1 - i) (wR K (s 19) 0) s))) 14 5 (nI (highN K (2 ^ kN K - 1 - i) (wR K (s 19) 0) s))) E := by
        obtain ⟨a1, a2, a3, a4, a5⟩ := g2
        refine ⟨a1, ?_, ?_, ?_, fun k hk => ?_⟩
        · rw [u2_ne (by omega), u2_ne (by omega)]; exact a2
        · rw [u2_ne (by omega), u2_ne (by omega)]; exact a3
        · rw [u2_ne (by omega), u2_ne (by omega)]; exact a4
        · rw [u2_row (by omega), u2_row (by omega), u2_row (by omega), u2_row (by omega)]; exact a5 k hk
      have ih1 := ih W c1 g2 nb
      have ih2 := ih _ (fun j hj => by rw [u2_row hj, u2_row hj, c1 j hj]) gX nb
      have st : ∀ c : Bool, c = fewB best i → ∃ V', f_X8_fewestKept_67 F k4 C (nI q) (nI (2 ^ kN K - 1)) (nbI best) (nI i) (b1 c) (wC S C W U E) = some (nbI (needR K s q (2 ^ kN K - 1) (d + 1) i best), wC S C V' U E) ∧ (∀ j, j ≠ 14 → V' j = V1 j) ∧ (∀ b, needR K s q (2 ^ kN K - 1) (d + 1) i best = some b → b < 64) := by
        intro c hc
        show ∃ V', _ = some (nbI (needR K s q (2 ^ kN K - 1) d (i + 1) (nstep K s q (2 ^ kN K - 1) i best)), _) ∧ _ ∧ ∀ b, needR K s q (2 ^ kN K - 1) d (i + 1) (nstep K s q (2 ^ kN K - 1) i best) = some b → b < 64
        unfold f_X8_fewestKept_67 f_X8_fewestKept_121 f_X8_fewestKept_122
        simp (disch := first | assumption | exact inB_n (by omega) (by decide) | exact inB_l (by omega) (by decide) | exact inB_al (by omega) (by decide) | exact inB_la (by omega) (by decide) | exact inB_j (by assumption) (by omega) (by decide) | exact inB_e (by assumption) (by decide) | omega) only [↓eC h, ↓eN h isN28, ↓bd_r, nW.2.1, o1, e2, ix_nI, ix_l, nI_al, nI_la, nI_lm, u2_ne, u2_eq, nI_leI, nI_ltI, nI_eq, le_ln, le_nl, lt_ln, lt_nl, eq_nl, eq_ln]
        by_cases ha : nI i &&& nI (s 18) = 0
        · rw [if_pos ha]
          cases c with
          | false =>
            rw [show nstep K s q (2 ^ kN K - 1) i best = best by unfold nstep; rw [if_neg (fun z => by rw [← hc] at z; cases z.2.1)]] at ih1 ⊢
            exact ih1
          | true =>
            show ∃ V', (if (1 : Int32) = 0 then _ else _) = _ ∧ _
            rw [if_neg (by decide)]
            by_cases hh : highN K (2 ^ kN K - 1 - i) (wR K (s 19) 0) s < q
            · rw [if_pos hh]
              rw [show nstep K s q (2 ^ kN K - 1) i best = best by unfold nstep; rw [if_neg (fun z => by omega)]] at ih2 ⊢
              exact ih2
            · rw [if_neg hh]
              rw [show nstep K s q (2 ^ kN K - 1) i best = some i by unfold nstep; rw [if_pos ⟨ha, hc.symm, by omega⟩]] at ih2 ⊢
              exact ih2
        · rw [if_neg ha]
          rw [show nstep K s q (2 ^ kN K - 1) i best = best by unfold nstep; rw [if_neg (fun z => ha z.1)]] at ih1 ⊢
          exact ih1
      unfold b_X8_fewestKept_39 f_X8_fewestKept_62
      rw [if_neg (nI_nlt (by omega) (by omega))]
      cases best with
      | none =>
        show ∃ V', (if (-1 : Int32) = -1 then _ else _) = _ ∧ _
        rw [if_pos rfl]
        exact st true rfl
      | some bb =>
        have hb6 := hbest bb rfl
        have hne : ¬ nI bb = -1 := fun z => by
          have := nI_pos (n := bb) (by omega)
          rw [z] at this
          exact this (by decide)
        show ∃ V', (if nI bb = -1 then _ else _) = _ ∧ _
        have b1' : bcF (nI i) = nI (popN i) := bc_pop ⟨i, by omega⟩
        have b2' : bcF (nbI (some bb)) = nI (popN bb) := bc_pop ⟨bb, hb6⟩
        have hp1 := pop_le (l := i) (by omega)
        have hp2 := pop_le (l := bb) hb6
        rw [if_neg hne, p_bitCount, bd_r, p_bitCount, bd_r, b1', b2']
        by_cases hc : popN i < popN bb
        · rw [if_neg (nI_ge hc (by omega))]
          exact st true (decide_eq_true hc).symm
        · rw [if_pos (nI_le (by omega) (by omega))]
          exact st false (decide_eq_false hc).symm
  obtain ⟨V2, e2, c2, b2⟩ := key (2 ^ kN K) 0 F V1 none (by omega) (by omega) (fun _ _ => rfl) g1 (fun b q => by cases q)
  have ef : fn_X8_fewestKept F C (nI q) (wC S C V U D) = some (nbI (needR K s q (2 ^ kN K - 1) (2 ^ kN K) 0 none), wC S C V2 U E) := by
    unfold fn_X8_fewestKept
    simp only [↓eC h, ↓eN h isN28, ↓eK hK.1, ↓bd_r, ↓lt_r, hS.1, e1, hb1, hK.2.1.1, sh1 hn6]
    rw [show nI (2 ^ kN K) - 1 = nI (2 ^ kN K - 1) from pk_sub (b := 1) pw1]
    exact e2
  refine ⟨V2, E, ?_, fun j hj => (c2 j (by omega)).trans (f1 j (by omega)), dk1, hS.keep (fun i hi => (c2 (28 + i) (by omega)).trans (f1 (28 + i) (by omega)))⟩
  simp only [↓eC h, ↓bd_r, ef]
  cases hr : needR K s q (2 ^ kN K - 1) (2 ^ kN K) 0 none with
  | none => rfl
  | some bb =>
    have hb6 := b2 bb hr
    have hne : ¬ nI bb = -1 := fun z => by
      have := nI_pos (n := bb) (by omega)
      rw [z] at this
      exact this (by decide)
    have b2' : bcF (nbI (some bb)) = nI (popN bb) := bc_pop ⟨bb, hb6⟩
    show (if nI bb = -1 then _ else _) = some ((if y = 1 then _ else _), _)
    rw [if_neg hne, p_bitCount, bd_r, b2']
    by_cases hy1 : y = 1
    · rw [if_pos hy1, if_pos hy1]; rfl
    · rw [if_neg hy1, if_neg hy1]
theorem ma_needed {x y : Int32} {B : Nat} {K : SkyT} {s : Nat → Nat} {F M : Nat} {S : Mem} {V : Vw} {U : Uw} (h : shM S M) (hF : 10000 < F) (hw9 : wfK K) (hK : mSky V 0 K) (hS : mS V s) (hs : wfS K B s) (hB : B < 2 ^ 29) : ∃ V' U', fn_X9_needed F M x y (wM S M V U) = some (sp_needed K s x y, wM S M V' U') ∧ mk V V' ∧ mS V' s := by
  have hn6 := hw9.1.1
  have hl6 := hs.lost hw9
  obtain ⟨pw1, pw2⟩ := pw6 hn6
  unfold fn_X9_needed f_X9_needed_21 sp_needed
  rw [cm_sI h, q_isHigh, bd_r]
  have S1 : mS (u2 V 0 0 0) s := hS.thrown
  have K1 : mSky (u2 V 0 0 0) 0 K := hK.thrown
  have m1 : mk V (u2 V 0 0 0) := mk.thrown
  generalize u2 V 0 0 0 = W at S1 K1 m1 ⊢
  cases hx : inr x 0 40 with
  | false => exact ⟨W, U, rfl, m1, S1⟩
  | true =>
  show ∃ V' U', (if (1 : Int32) = 0 then _ else _) = _ ∧ _
  rw [if_neg (by decide), q_within, bd_r]
  cases hy : inr y 0 1 with
  | false => exact ⟨W, U, rfl, m1, S1⟩
  | true =>
  show ∃ V' U', (if (1 : Int32) = 0 then _ else _) = some ((if true = true then _ else _), _) ∧ _
  obtain ⟨q, -, hq, rfl⟩ := inr_nI (a := 0) (b := 40) (by decide) (by decide) hx
  rw [if_neg (by decide), if_pos rfl, nI_clamp (by omega)]
  obtain ⟨X, e1, f1, g1⟩ := q_blows (F := F) (V0 := W) (U := U) (m := s 19) (g := 0) h (by omega) K1
  have S2 : mS X s := fun j hj => by rw [f1 24 (by omega)]; exact S1 j hj
  have K2 : mSky X 0 K := K1.keep (fun j hj => f1 j (by omega))
  have m2 : mk V X := m1.tr ⟨fun j a b => f1 j (by omega), by rw [f1 0 (by omega)]⟩
  have key : ∀ (d i f : Nat) (Y : Vw) (best : Option Nat), i + d = 2 ^ kN K → d < f → mk V Y → mSky Y 0 K → mS Y s → (∀ i, i < 41 → Y 27 i = nI (wR K (s 19) 0 i)) → (∀ b, best = some b → b < 64) →
      ∃ V' U', fix6 (b_X9_needed_52 F) f M (nI q) y (nI (2 ^ kN K - 1)) (nbI best) (nI i) (wM S M Y U) = some (neF (needR K s q (2 ^ kN K - 1) d i best) y, wM S M V' U') ∧ mk V V' ∧ mS V' s := by
    intro d
    induction d with
    | zero =>
      intro i f Y best hi hf c1 k1 n1 w1 hbest
      obtain ⟨f, rfl⟩ : ∃ f', f = f' + 1 := ⟨f - 1, by omega⟩
      refine ⟨Y, U, ?_, c1, n1⟩
      show b_X9_needed_52 F (fix6 (b_X9_needed_52 F) f) M (nI q) y (nI (2 ^ kN K - 1)) (nbI best) (nI i) (wM S M Y U) = _
      generalize fix6 (b_X9_needed_52 F) f = k4
      unfold b_X9_needed_52 f_X9_needed_126 f_X9_needed_136
      rw [if_pos (nI_lt (by omega) (by omega))]
      cases best with
      | none => rfl
      | some bb =>
        have hb6 := hbest bb rfl
        show (if nI bb < 0 then _ else _) = some ((if y = 1 then _ else _), _)
        rw [if_neg (nI_pos (by omega)), show nbI (some bb) = nI bb from rfl, q_bits (by omega) hb6, bd_r]
        by_cases hy1 : y = 1
        · rw [if_pos hy1, if_pos hy1]
        · rw [if_neg hy1, if_neg hy1]
    | succ d ih =>
      intro i f Y best hi hf c1 k1 n1 w1 hbest
      obtain ⟨f, rfl⟩ : ∃ f', f = f' + 1 := ⟨f - 1, by omega⟩
      have ih := fun Y => ih (i + 1) f Y (nstep K s q (2 ^ kN K - 1) i best) (by omega) (by omega)
      show ∃ V' U', b_X9_needed_52 F (fix6 (b_X9_needed_52 F) f) M (nI q) y (nI (2 ^ kN K - 1)) (nbI best) (nI i) (wM S M Y U) = _ ∧ _
      generalize fix6 (b_X9_needed_52 F) f = k4 at ih ⊢
      have o1 : nI (2 ^ kN K - 1) &&& (nI i ^^^ (-1 : Int32)) = nI (2 ^ kN K - 1 - i) := andn_F ⟨kN K, by omega⟩ ⟨i, by omega⟩ (show i < 2 ^ kN K by omega)
      obtain ⟨Z, e2, f2, f20, s2⟩ := q_highWith (F := F) (V := Y) (U := U) (l := 2 ^ kN K - 1 - i) (w := wR K (s 19) 0) h (by omega) hw9 k1 n1 hs (by omega) w1 (wR_le K (s 19) 0)
      have hhi := high_le (K := K) (l := 2 ^ kN K - 1 - i) (w := wR K (s 19) 0) (len := s)
      have nb := nstep_lt (K := K) (s := s) (q := q) (all := 2 ^ kN K - 1) (set := i) (by omega) hbest
      have ih1 := ih Y c1 k1 n1 w1 nb
      have ih2 := ih Z (c1.tr ⟨fun j a b => f2 j a (by omega) (by omega), f20 1 (by omega) (by omega) (by omega)⟩) (k1.keep (fun j hj => f2 j (by omega) (by omega) (by omega))) s2 (by rw [f2 27 (by omega) (by omega) (by omega)]; exact w1) nb
      have en : needR K s q (2 ^ kN K - 1) (d + 1) i best = needR K s q (2 ^ kN K - 1) d (i + 1) (nstep K s q (2 ^ kN K - 1) i best) := rfl
      rw [en]
      have st : nI i &&& nI (s 18) = 0 → fewB best i = true → ∃ V' U', f_X9_needed_92 F k4 M (nI q) y (nI (2 ^ kN K - 1)) (nbI best) (nI i) (wM S M Y U) = some (neF (needR K s q (2 ^ kN K - 1) d (i + 1) (nstep K s q (2 ^ kN K - 1) i best)) y, wM S M V' U') ∧ mk V V' ∧ mS V' s := by
        intro ha hc
        unfold f_X9_needed_92 f_X9_needed_110
        rw [o1, cm_cal h, e2, bd_r, nI_1]
        by_cases hh : highN K (2 ^ kN K - 1 - i) (wR K (s 19) 0) s < q
        · rw [if_pos (nI_lt hh (by omega))]
          rw [show nstep K s q (2 ^ kN K - 1) i best = best by unfold nstep; rw [if_neg (fun z => by omega)]] at ih2 ⊢
          exact ih2
        · rw [if_neg (nI_nlt (by omega) (by omega))]
          rw [show nstep K s q (2 ^ kN K - 1) i best = some i by unfold nstep; rw [if_pos ⟨ha, hc, by omega⟩]] at ih2 ⊢
          exact ih2
      have skip : ¬ (nI i &&& nI (s 18) = 0 ∧ fewB best i = true) → ∃ V' U', f_X9_needed_110 F k4 M (nI q) y (nI (2 ^ kN K - 1)) (nbI best) (nI i) (wM S M Y U) = some (neF (needR K s q (2 ^ kN K - 1) d (i + 1) (nstep K s q (2 ^ kN K - 1) i best)) y, wM S M V' U') ∧ mk V V' ∧ mS V' s := by
        intro hc
        unfold f_X9_needed_110
        rw [nI_1]
        rw [show nstep K s q (2 ^ kN K - 1) i best = best by unfold nstep; rw [if_neg (fun z => hc ⟨z.1, z.2.1⟩)]] at ih1 ⊢
        exact ih1
      unfold b_X9_needed_52
      rw [if_neg (nI_nlt (by omega) (by omega)), cm_s h, ca_s h (inB_l (by omega) (by decide)), show Y 24 (18 : Int32).toNatClampNeg = nI (s 18) from n1 18 (by omega)]
      by_cases ha : nI i &&& nI (s 18) = 0
      · rw [if_pos ha]
        cases best with
        | none =>
          show ∃ V' U', (if (-1 : Int32) < 0 then _ else _) = _ ∧ _
          rw [if_pos (by decide)]
          exact st ha rfl
        | some bb =>
          have hb6 := hbest bb rfl
          have hp1 := pop_le (l := i) (by omega)
          have hp2 := pop_le (l := bb) hb6
          show ∃ V' U', (if nI bb < 0 then _ else _) = _ ∧ _
          rw [if_neg (nI_pos (by omega)), q_bits (by omega) (show i < 64 by omega), bd_r, show nbI (some bb) = nI bb from rfl, q_bits (by omega) hb6, bd_r]
          by_cases hc : popN i < popN bb
          · rw [if_pos (nI_lt hc (by omega))]
            exact st ha (decide_eq_true hc)
          · rw [if_neg (nI_nlt (by omega) (by omega))]
            exact skip (fun z => hc (of_decide_eq_true z.2))
      · rw [if_neg ha]
        exact skip (fun z => ha z.1)
  rw [cm_s h, ca_s h (inB_l (by omega) (by decide)), show W 24 (19 : Int32).toNatClampNeg = nI (s 19) from S1 19 (by omega), cm_cal h, e1, bd_r, cm_sky h, ca_sky h (inB_l (by omega) (by decide)), show X 2 (4 : Int32).toNatClampNeg = nI (kN K) from K2.1.2.2.2.2, sh1 hn6, lt_r, show nI (2 ^ kN K) - 1 = nI (2 ^ kN K - 1) from pk_sub (b := 1) pw1]
  exact key (2 ^ kN K) 0 F X none (by omega) (by omega) m2 K2 S2 g1 (fun b q => by cases q)
