/-! the words of the text -/
def txD : List Nat := txB.map (fun c => c.toNatClampNeg)
def wRun : List Nat → Nat → List Nat → Option (List Nat)
  | [], _, g => some g
  | c :: cs, a, g => if c = 32 then wRun cs (a + 1) g else if a < 25 ∧ (97 ≤ c ∧ c ≤ 122) ∧ g.getD a 0 < 2 ^ 40 ∧ g.length = 25 then wRun cs a (g.set a (g.getD a 0 * 32 + (c - 96))) else none
theorem wRun_W5 : wRun txD 0 (List.replicate 25 0) = some W5 := by decide +kernel
theorem tx_at : ∀ i : Fin 125, txB.getD i.val 0 = nI (txD.getD i.val 0) ∧ txD.getD i.val 0 < 127 ∧ (((nI (txD.getD i.val 0) &&& (255 : Int32))).toUInt32 % 65536).toInt32 = nI (txD.getD i.val 0) ∧ vp_nar .char (nI (txD.getD i.val 0)) = nI (txD.getD i.val 0) := by decide +kernel
def bgT (S : Mem) : Prop := mB S < mZ S ∧ ¬ (9 ≤ mK S (mB S) ∧ mK S (mB S) < 15)
theorem tx_len {S : Mem} {F : Nat} (h : bgT S) : fn_J0_length_8abf5 F (mT S) S = some (125, S) := by
  have e1 : gSV S (mT S) = some (mB S) := if_pos rfl
  have e2 : gLen S (mB S) = some 125 := by unfold gLen; rw [if_neg h.2, if_pos rfl]
  have e3 : gSC S (mT S) = some 0 := if_pos rfl
  have e4 : fn_J0_coder_7d493 F (mT S) S = some (0, S) := by
    unfold fn_J0_coder_7d493 f_J0_coder_7d493_14
    rw [if_neg (by decide), e3, Option.bind_some]
    unfold rn
    rw [if_pos (by decide)]
  unfold fn_J0_length_8abf5 calT
  rw [e1, Option.bind_some, e2, Option.bind_some, if_pos rfl, e4, bd_r]
  rfl
theorem tx_chr {S : Mem} {F i : Nat} (h : bgT S) (hi : i < 125) : fn_J0_charAt_5068e F (mT S) (nI i) S = some (nI (txD.getD i 0), S) := by
  obtain ⟨t1, t2, t3, t4⟩ := tx_at ⟨i, hi⟩
  have t1 : txB.getD i 0 = nI (txD.getD i 0) := t1
  have t3 : (((nI (txD.getD i 0) &&& (255 : Int32))).toUInt32 % 65536).toInt32 = nI (txD.getD i 0) := t3
  have t4 : vp_nar .char (nI (txD.getD i 0)) = nI (txD.getD i 0) := t4
  have e1 : gSV S (mT S) = some (mB S) := if_pos rfl
  have e2 : gLen S (mB S) = some 125 := by unfold gLen; rw [if_neg h.2, if_pos rfl]
  have e3 : gSC S (mT S) = some 0 := if_pos rfl
  have er : rn .char (nI (txD.getD i 0)) S = some (nI (txD.getD i 0), S) := by unfold rn; rw [if_pos t4]
  have e4 : fn_J0_isLatin1_aae02 F (mT S) S = some (1, S) := by
    unfold fn_J0_isLatin1_aae02 f_J0_isLatin1_aae02_18
    rw [if_neg (by decide), e3, Option.bind_some, if_pos rfl, rz_1]
  have e5 : gT S (mB S) (nI i) = some (nI (txD.getD i 0)) := by
    unfold gT
    rw [if_pos ⟨rfl, inB_n hi (by decide)⟩, nI_clamp (by omega), t1]
  have e6 : fn_J1_charAt_3b067 F (mB S) (nI i) S = some (nI (txD.getD i 0), S) := by
    unfold fn_J1_charAt_3b067 fn_J0_checkIndex_df160 fn_J3_checkIndex_8e157
    rw [e2, Option.bind_some, if_neg (show ¬ nI i < 0 from nI_pos (by omega)), if_pos ((lt_nl (m := 125) (by decide) (by omega)).mpr hi), bd_r, bd_r, e5, Option.bind_some, t3, er]
  unfold fn_J0_charAt_5068e calT
  rw [if_pos rfl, e4, bd_r, if_neg (by decide), e1, Option.bind_some, e6, bd_r, er]
theorem al_bgT {S : Mem} {i : Nat} {W : List (Nat × Nat × Nat)} {WI : List (Nat × Nat × Int32)} {g : Nat → Int64} (h : bgT S) : bgT (alM S i W WI g) := by
  refine ⟨Nat.lt_of_lt_of_le h.1 (Nat.le_add_right _ _), ?_⟩
  show ¬ (9 ≤ mK (alM S i W WI g) (mB S) ∧ mK (alM S i W WI g) (mB S) < 15)
  rw [(al_lo h.1).1]
  exact h.2
theorem al_pJ {S : Mem} {i k : Nat} {W : List (Nat × Nat × Nat)} {WI : List (Nat × Nat × Int32)} {g : Nat → Int64} {v : Int64} (hi : 11 < i) : pJ (alM S i W WI g) (mZ S + 11) k v = alM S i W WI (fun l => if l = k then v else g l) := by
  have e5 : u2 (mJ (alM S i W WI g)) (mZ S + 11) k v = mJ (alM S i W WI (fun l => if l = k then v else g l)) := by
    funext b l
    show (if b = mZ S + 11 ∧ l = k then v else if inA S i b then (if b - mZ S = 11 then g l else 0) else mJ S b l) = if inA S i b then (if b - mZ S = 11 then (if l = k then v else g l) else 0) else mJ S b l
    by_cases h : b = mZ S + 11 ∧ l = k
    · rw [if_pos h, if_pos (by unfold inA; omega), if_pos (by omega), if_pos h.2]
    · rw [if_neg h]
      by_cases q : inA S i b
      · rw [if_pos q, if_pos q]
        by_cases e : b - mZ S = 11
        · rw [if_pos e, if_pos e, if_neg (fun z => h ⟨by unfold inA at q; omega, z⟩)]
        · rw [if_neg e, if_neg e]
      · rw [if_neg q, if_neg q]
  show ((alM S i W WI g).1, (alM S i W WI g).2.1, (alM S i W WI g).2.2.1, u2 (mJ (alM S i W WI g)) (mZ S + 11) k v, (alM S i W WI g).2.2.2.2) = _
  rw [e5]
  rfl
theorem getD_set {G : List Nat} {a l y : Nat} (h : a < G.length) : (G.set a y).getD l 0 = if l = a then y else G.getD l 0 := by
  rw [List.getD_eq_getElem?_getD, List.getElem?_set]
  by_cases hl : a = l
  · subst hl
    rw [if_pos rfl, if_pos h, if_pos rfl]
    rfl
  · rw [if_neg hl, if_neg (fun z => hl z.symm), List.getD_eq_getElem?_getD]
def gL (G : List Nat) : Nat → Int64 := fun k => lN (G.getD k 0)
theorem w_loop {S : Mem} {F i : Nat} {W : List (Nat × Nat × Nat)} {WI : List (Nat × Nat × Int32)} (hb : bgT S) (hi : 11 < i) (hW : lkR W 9 1 = some 11) : ∀ (cs : List Nat) (x a fu : Nat) (G G' : List Nat), x + cs.length = 125 → (∀ j, j < cs.length → cs.getD j 0 = txD.getD (x + j) 0) → cs.length < fu → a ≤ 25 + x → wRun cs a G = some G' →
    fix3 (b_X1_init_23 F) fu (mZ S + 9) (nI a) (nI x) (alM S i W WI (gL G)) = some ((), alM S i W WI (gL G')) := by
  intro cs
  induction cs with
  | nil =>
    intro x a fu G G' hx _ hf _ hr
    obtain ⟨fu, rfl⟩ : ∃ f', fu = f' + 1 := ⟨fu - 1, by omega⟩
    have hx : x = 125 := by simpa using hx
    subst hx
    cases hr
    have hb2 := al_bgT (i := i) (W := W) (WI := WI) (g := gL G) hb
    show b_X1_init_23 F (fix3 (b_X1_init_23 F) fu) (mZ S + 9) (nI a) (nI 125) (alM S i W WI (gL G)) = _
    unfold b_X1_init_23 calT
    rw [if_pos rfl, tx_len hb2, bd_r, if_pos (by decide)]
  | cons c cs ih =>
    intro x a fu G G' hx hc hf ha hr
    rw [List.length_cons] at hx hf hc
    obtain ⟨fu, rfl⟩ : ∃ f', fu = f' + 1 := ⟨fu - 1, by omega⟩
    have hb2 := al_bgT (i := i) (W := W) (WI := WI) (g := gL G) hb
    have ec : txD.getD x 0 = c := (hc 0 (by omega)).symm
    have hc127 : c < 127 := by
      have := (tx_at ⟨x, by omega⟩).2.1
      rw [← ec]
      exact this
    have hcs : ∀ j, j < cs.length → cs.getD j 0 = txD.getD (x + 1 + j) 0 := fun j hj => by
      have := hc (j + 1) (by omega)
      rw [show x + 1 + j = x + (j + 1) by omega]
      exact this
    have e1 : nI x + (1 : Int32) = nI (x + 1) := nI_1 x
    have ch := tx_chr (F := F) (i := x) hb2 (by omega)
    rw [ec] at ch
    show b_X1_init_23 F (fix3 (b_X1_init_23 F) fu) (mZ S + 9) (nI a) (nI x) (alM S i W WI (gL G)) = _
    unfold wRun at hr
    by_cases h32 : c = 32
    · rw [if_pos h32] at hr
      have ih := ih (x + 1) (a + 1) fu G G' (by omega) hcs (by omega) (by omega) hr
      generalize fix3 (b_X1_init_23 F) fu = k3 at ih ⊢
      unfold b_X1_init_23 f_X1_init_73 calT
      rw [if_pos rfl, tx_len hb2, bd_r, if_neg (fun q => by have : 125 ≤ x := (le_ln (m := 125) (by decide) (by omega)).mp q; omega), if_pos rfl, ch, bd_r, if_pos (by rw [h32]; rfl), e1, show nI a + (1 : Int32) = nI (a + 1) from nI_1 a]
      exact ih
    · rw [if_neg h32] at hr
      by_cases hok : a < 25 ∧ (97 ≤ c ∧ c ≤ 122) ∧ G.getD a 0 < 2 ^ 40 ∧ G.length = 25
      · rw [if_pos hok] at hr
        obtain ⟨k1, k2, k3', k4⟩ := hok
        have ih := ih (x + 1) a fu _ G' (by omega) hcs (by omega) (by omega) hr
        generalize fix3 (b_X1_init_23 F) fu = k3 at ih ⊢
        have eg : (fun l => if l = a then lN (G.getD a 0 * 32 + (c - 96)) else gL G l) = gL (G.set a (G.getD a 0 * 32 + (c - 96))) := by
          funext l
          unfold gL
          rw [getD_set (by omega)]
          by_cases hl : l = a
          · rw [if_pos hl, if_pos hl]
          · rw [if_neg hl, if_neg hl]
        unfold b_X1_init_23 f_X1_init_73 calT
        rw [if_pos rfl, tx_len hb2, bd_r, if_neg (fun q => by have : 125 ≤ x := (le_ln (m := 125) (by decide) (by omega)).mp q; omega), if_pos rfl, ch, bd_r, if_neg (show ¬ nI c = 32 from fun q => h32 ((nI_eq (b := 32) (by omega) (by omega)).mp q)), if_neg (fun q => by have : 25 ≤ a := (le_ln (m := 25) (by decide) (by omega)).mp q; omega)]
        rw [al_gR (ci := 1) (v := 11) (show 9 < i by omega) rfl hW rfl, al_gR (ci := 1) (v := 11) (show 9 < i by omega) rfl hW rfl]
        have kk : mK (alM S i W WI (gL G)) (mZ S + 11) = 11 := al_mK hi
        have nn : mN (alM S i W WI (gL G)) (mZ S + 11) = 25 := al_mN hi
        rw [gAJ_k kk nn (inB_n k1 (by decide)), nI_clamp (by omega), al_mJ hi, if_pos rfl, show gL G a = lN (G.getD a 0) from rfl, c_withLetter k3' k2, bd_r, sAJ_k kk nn (inB_n k1 (by decide)), nI_clamp (by omega), al_pJ hi, eg, e1]
        exact ih
      · rw [if_neg hok] at hr; cases hr
def WLp : List (Nat × Nat × Nat) := [(9, 1, 11), (9, 0, 10), (0, 0, 7), (1, 11, 999), (1, 10, 999), (1, 5, 6), (1, 4, 5), (1, 3, 4), (1, 2, 3), (1, 1, 2)]
def WCl : List (Nat × Nat × Nat) := [(42, 3, 64), (64, 0, 1), (64, 9, 70), (64, 8, 69), (64, 7, 68), (64, 6, 67), (64, 5, 66), (64, 4, 65), (42, 2, 57), (57, 0, 1), (57, 9, 63), (57, 8, 62), (57, 7, 61), (57, 6, 60), (57, 5, 59), (57, 4, 58), (42, 1, 50), (50, 0, 1), (50, 9, 56), (50, 8, 55), (50, 7, 54), (50, 6, 53), (50, 5, 52), (50, 4, 51), (42, 0, 43), (43, 0, 1), (43, 9, 49), (43, 8, 48), (43, 7, 47), (43, 6, 46), (43, 5, 45), (43, 4, 44), (0, 7, 42), (0, 6, 35), (35, 0, 1), (35, 9, 41), (35, 8, 40), (35, 7, 39), (35, 6, 38), (35, 5, 37), (35, 4, 36), (0, 5, 28), (28, 0, 1), (28, 9, 34), (28, 8, 33), (28, 7, 32), (28, 6, 31), (28, 5, 30), (28, 4, 29), (0, 4, 20), (20, 6, 27), (20, 5, 26), (20, 4, 25), (20, 3, 24), (20, 2, 23), (20, 1, 22), (20, 0, 21), (0, 3, 14), (14, 7, 1), (14, 2, 19), (14, 1, 18), (14, 0, 15), (15, 1, 17), (15, 0, 16), (0, 2, 8), (8, 7, 1), (8, 2, 13), (8, 1, 12), (8, 0, 9), (9, 1, 11), (9, 0, 10), (0, 0, 7), (1, 11, 999), (1, 10, 999), (1, 5, 6), (1, 4, 5), (1, 3, 4), (1, 2, 3), (1, 1, 2)]
def WMo : List (Nat × Nat × Nat) := [(71, 51, 102), (71, 49, 101), (71, 44, 100), (71, 40, 99), (71, 39, 98), (71, 38, 97), (71, 37, 96), (71, 36, 95), (71, 34, 94), (71, 33, 93), (71, 32, 92), (71, 31, 91), (71, 30, 90), (71, 29, 89), (71, 28, 88), (71, 27, 87), (71, 26, 86), (71, 25, 85), (71, 24, 84), (71, 23, 83), (71, 19, 82), (71, 18, 81), (71, 17, 80), (71, 16, 79), (71, 15, 78), (71, 14, 77), (71, 13, 76), (71, 12, 75), (71, 11, 74), (71, 10, 73), (71, 2, 72), (42, 3, 64), (64, 0, 1), (64, 9, 70), (64, 8, 69), (64, 7, 68), (64, 6, 67), (64, 5, 66), (64, 4, 65), (42, 2, 57), (57, 0, 1), (57, 9, 63), (57, 8, 62), (57, 7, 61), (57, 6, 60), (57, 5, 59), (57, 4, 58), (42, 1, 50), (50, 0, 1), (50, 9, 56), (50, 8, 55), (50, 7, 54), (50, 6, 53), (50, 5, 52), (50, 4, 51), (42, 0, 43), (43, 0, 1), (43, 9, 49), (43, 8, 48), (43, 7, 47), (43, 6, 46), (43, 5, 45), (43, 4, 44), (0, 7, 42), (0, 6, 35), (35, 0, 1), (35, 9, 41), (35, 8, 40), (35, 7, 39), (35, 6, 38), (35, 5, 37), (35, 4, 36), (0, 5, 28), (28, 0, 1), (28, 9, 34), (28, 8, 33), (28, 7, 32), (28, 6, 31), (28, 5, 30), (28, 4, 29), (0, 4, 20), (20, 6, 27), (20, 5, 26), (20, 4, 25), (20, 3, 24), (20, 2, 23), (20, 1, 22), (20, 0, 21), (0, 3, 14), (14, 7, 1), (14, 2, 19), (14, 1, 18), (14, 0, 15), (15, 1, 17), (15, 0, 16), (0, 2, 8), (8, 7, 1), (8, 2, 13), (8, 1, 12), (8, 0, 9), (9, 1, 11), (9, 0, 10), (0, 0, 7), (1, 11, 999), (1, 10, 999), (1, 5, 6), (1, 4, 5), (1, 3, 4), (1, 2, 3), (1, 1, 2)]
def WIc : List (Nat × Nat × Int32) := [(1, 9, 0), (1, 8, 5), (1, 7, 2), (1, 6, 20)]
theorem i_words {S : Mem} {F : Nat} (hF : 10000 < F) (hb : bgT S) : fix3 (b_X1_init_23 F) F (mZ S + 9) 0 0 (alM S (11 + 1) WLp WIc (fun _ => 0)) = some ((), alM S 12 WLp WIc (gL W5)) := by
  have e0 : (fun _ => 0 : Nat → Int64) = gL (List.replicate 25 0) := by
    funext k
    unfold gL
    rw [List.getD_eq_getElem?_getD, List.getElem?_replicate]
    split <;> rfl
  rw [e0]
  exact w_loop (F := F) (i := 12) hb (by omega) rfl txD 0 0 F _ W5 (by decide +kernel) (fun j _ => by rw [Nat.zero_add]) (by rw [show txD.length = 125 by decide +kernel]; omega) (by omega) wRun_W5
set_option maxHeartbeats 4000000 in
set_option maxRecDepth 100000 in
theorem i_X8 {S : Mem} {F : Nat} (hF : 10000 < F) (hb : bgT S) : fn_X8_init F (mZ S + 0) (alM S 1 [] [] (fun _ => 0)) = some ((), alM S 71 WCl WIc (gL W5)) := by
  have hw := i_words hF hb
  unfold WLp WIc at hw
  unfold fn_X8_init fn_X5_init fn_X6_init fn_X1_init fn_X0_init fn_X3_init fn_X4_init fn_X2_init
  simp (disch := first | rfl | decide | omega) only [al_nO, al_nA, al_nA11, al_sR, al_sRu, al_sI, al_gR (ci := 7) (k := 7) (j := 0) (v := 42), ↓bd_r, Nat.reduceAdd, hw, al_sAR (n := 0) (x := 0) rfl, al_sAR (n := 1) (x := 1) rfl, al_sAR (n := 2) (x := 2) rfl, al_sAR (n := 3) (x := 3) rfl]
  rfl
