/-! the class's search: seek -/
theorem srC.set {K : SkyT} {l e p q b C : Nat} {w s : Nat → Nat} {ba : Bool} {V V' : Vw} {D : Dw} (hs : srC K l w s e p q ba b C V D) (h1 : ∀ j, j ≠ 20 → j ≠ 25 → V' j = V j) (h2 : ∀ i, i ≠ 13 → i ≠ 14 → V' 20 i = V 20 i) : srC K l w s e p q ba b C V' D := by
  unfold srC at hs ⊢
  rw [h1 21 (by omega) (by omega), h1 22 (by omega) (by omega), h1 23 (by omega) (by omega), h1 24 (by omega) (by omega), h1 29 (by omega) (by omega), h2 7 (by omega) (by omega), h2 8 (by omega) (by omega), h2 9 (by omega) (by omega), h2 10 (by omega) (by omega), h2 11 (by omega) (by omega), h2 12 (by omega) (by omega)]
  exact hs
theorem Inv.step {K : SkyT} {l e p q b0 R bd bst : Nat} {w s : Nat → Nat} {ba : Bool} (h : Inv K l w s e p q ba b0 (R + 1) 0 1 bd bst) : Inv K l w s e p q ba b0 R 0 0 bd bst :=
  ⟨h.1, fun c h1 h2 h3 => h.2 c h1 h2 (by
    rcases h3 with h3 | ⟨_, h3⟩
    · by_cases g : R + 1 < rawN K l w c
      · exact Or.inl g
      · exact Or.inr ⟨by omega, Nat.lt_succ_self 0⟩
    · exact absurd h3 (Nat.not_lt_zero _))⟩
theorem Inv.start {K : SkyT} {l e p q b0 : Nat} {w s : Nat → Nat} {ba : Bool} : Inv K l w s e p q ba b0 41 0 1 b0 (2 ^ 63 - 1) := by
  refine ⟨Or.inl ⟨rfl, rfl⟩, fun c h1 h2 h3 => ?_⟩
  have : rawN K l w c ≤ 40 := rawG_le 40
  omega
theorem c_heights {l e p q b0 b B : Nat} {ba : Bool} {K : SkyT} {w s : Nat → Nat} {F C : Nat} {S : Mem} {U : Uw} {D : Dw} (h : shC S C) (hF : 100 < F) (hw9 : wfK K) (hK : cSky S C b K) (hwf : wfS K B s) (hw : ∀ i, w i ≤ 99) (hp : p ≤ 999) (hq : q ≤ 40) (hb0 : ba = true → b0 = 2147483647) (hb1 : b0 < 2 ^ 31) :
    ∀ (j f : Nat) (V : Vw) (bd bst : Nat), j ≤ 41 → j < f → srC K l w s e p q ba b C V D → Inv K l w s e p q ba b0 j 0 1 bd bst →
      ∃ V' bd' bst', fix2 (b_X4_seek_137 F) f (C + 20) (nI j - 1) (wC S C (u2 V 20 13 (nI bd)) (u2 U 20 15 (lN bst)) D) = some ((), wC S C V' (u2 U 20 15 (lN bst')) D) ∧ (∀ i, i ≠ 20 → i ≠ 25 → V' i = V i) ∧ V' 20 7 = nI (kN K) ∧ Inv K l w s e p q ba b0 0 0 1 bd' bst' := by
  intro j
  induction j with
  | zero =>
    intro f V bd bst hj hf hs hi
    obtain ⟨f, rfl⟩ : ∃ f', f = f' + 1 := ⟨f - 1, by omega⟩
    exact ⟨u2 V 20 13 (nI bd), bd, bst, rfl, fun i h1 h2 => u2_row h1, by rw [u2_ne (by omega)]; exact hs.1.1, hi⟩
  | succ j ih =>
    intro f V bd bst hj hf hs hi
    obtain ⟨f, rfl⟩ : ∃ f', f = f' + 1 := ⟨f - 1, by omega⟩
    have hs1 : srC K l w s e p q ba b C (u2 (u2 V 20 13 (nI bd)) 20 14 (nI j)) D := hs.set (fun i h1 h2 => by rw [u2_row h1, u2_row h1]) (fun i h1 h2 => by rw [u2_ne (by omega), u2_ne (by omega)])
    obtain ⟨V1, p1, p2, p3⟩ := c_reach (F := F) (U := u2 U 20 15 (lN bst)) h hF hw9 hwf hw hs1 (u2_eq ⟨rfl, rfl⟩) (show j ≤ 40 by omega)
    have hs2 : srC K l w s e p q ba b C V1 D := hs1.set (fun i h1 h2 => p2 i h2) (fun i h1 h2 => by rw [p2 20 (by omega)])
    have e14 : V1 20 14 = nI j := by rw [p2 20 (by omega)]; exact u2_eq ⟨rfl, rfl⟩
    have e13 : V1 20 13 = nI bd := by rw [p2 20 (by omega), u2_ne (by omega)]; exact u2_eq ⟨rfl, rfl⟩
    obtain ⟨bd', bst', q1, q2⟩ := c_choose (F := F) (V := V1) (U := U) (D := D) h hF hw9 hK hwf hw hs2 ⟨e14, p3⟩ (show j ≤ 40 by omega) hp hq hb0 hb1 8 0 (fun _ => 0) bd bst (by omega) (by have := hw9.1.1; omega) (fun i hi => by omega) hi.step
    rw [u2_self e13] at q1
    obtain ⟨V2, bd2, bst2, r1, r2, r3, r4⟩ := ih f V1 bd' bst' (by omega) (by omega) hs2 q2
    refine ⟨V2, bd2, bst2, ?_, fun i h1 h2 => by rw [r2 i h1 h2, p2 i h2, u2_row h1, u2_row h1], r3, r4⟩
    show b_X4_seek_137 F (fix2 (b_X4_seek_137 F) f) (C + 20) (nI (j + 1) - 1) _ = _
    generalize fix2 (b_X4_seek_137 F) f = k137 at r1 ⊢
    have em : nI j + (-1 : Int32) = nI j - 1 := (Int32.sub_eq_add_neg _ _).symm
    rw [← em] at r1
    rw [nI_pred]
    unfold b_X4_seek_137
    rw [if_neg (nI_pos (show j < 2 ^ 31 by omega))]
    simp only [↓eC h, p1, ↓bd_r]
    erw [q1]
    simp only [↓bd_r]
    exact r1
/-- what the search keeps of the view -/
def keepS (j : Nat) : Prop := j < 16 ∨ (17 < j ∧ j < 20) ∨ 25 < j
theorem c_kites {l e p q b0 b B : Nat} {ba : Bool} {K : SkyT} {w s : Nat → Nat} {F C : Nat} {S : Mem} {U : Uw} {D : Dw} (h : shC S C) (hF : 100 < F) (hw9 : wfK K) (hK : cSky S C b K) (hwf : wfS K B s) (hw : ∀ i, w i ≤ 99) (hp : p ≤ 999) (hq : q ≤ 40) (he : e ≤ 40) (hb0 : ba = true → b0 = 2147483647) (hb1 : b0 < 2 ^ 31) (hl2 : l < 2 ^ 31) (d5 : D 20 5 = C + 29) (d6 : D 20 6 = b + 2) (d28 : D 28 0 = b) :
    ∀ (m k f : Nat) (V : Vw), k + m = kN K → m < f → V 20 7 = nI (kN K) → V 20 8 = nI (kW K) → V 20 9 = nI p → V 20 10 = nI q → V 20 12 = b1 ba → V 20 13 = nI b0 → V 28 2 = nI l → (∀ i, i < 41 → V 21 i = nI (w i)) → (∀ i, i < kN K → V 29 i = nI (s i)) → (∀ i, i < k → V 23 i = nI (lowK l s e i) ∧ V 24 i = nI (topK l s e i) ∧ ∀ x, lowK l s e i ≤ x → x ≤ topK l s e i → V 22 (41 * i + x) = pT K l w i x) →
      ∃ V' bd' bst', fix4 (b_X4_seek_105 F) f (C + 20) (C + 28) (nI e) (nI k) (wC S C V (u2 U 20 15 (lN (2 ^ 63 - 1))) D) = some ((), wC S C V' (u2 U 20 15 (lN bst')) D) ∧ (∀ j, keepS j → V' j = V j) ∧ V' 20 7 = nI (kN K) ∧ Inv K l w s e p q ba b0 0 0 1 bd' bst' := by
  have n6 := hw9.1.1
  intro m
  induction m with
  | zero =>
    intro k f V hk hf v7 v8 v9 v10 v12 v13 vl w21 w29 hr
    obtain ⟨f, rfl⟩ : ∃ f', f = f' + 1 := ⟨f - 1, by omega⟩
    have hg := c_gap (F := F) (V := V) (U := u2 U 20 15 (lN (2 ^ 63 - 1))) (D := D) h hF hw9 hK hw hp v7 v9 w21 d6
    have hs : srC K l w s e p q ba b C (u2 V 20 11 (nI (gapN K w p))) D := by
      refine ⟨⟨?_, ?_, ?_, ?_, u2_eq ⟨rfl, rfl⟩, ?_⟩, fun i hi => ?_, fun i hi => ?_, d5, d6⟩
      · rw [u2_ne (by omega)]; exact v7
      · rw [u2_ne (by omega)]; exact v8
      · rw [u2_ne (by omega)]; exact v9
      · rw [u2_ne (by omega)]; exact v10
      · rw [u2_ne (by omega)]; exact v12
      · rw [u2_ne (by omega)]; exact w21 i hi
      · obtain ⟨g1, g2, g3⟩ := hr i (by omega)
        refine ⟨?_, ?_, ?_, fun x h1 h2 => ?_⟩
        · rw [u2_ne (by omega)]; exact g1
        · rw [u2_ne (by omega)]; exact g2
        · rw [u2_ne (by omega)]; exact w29 i hi
        · rw [u2_ne (by omega)]; exact g3 x h1 h2
    have e13 : (u2 V 20 11 (nI (gapN K w p))) 20 13 = nI b0 := by rw [u2_ne (by omega)]; exact v13
    obtain ⟨V', bd', bst', r1, r2, r3, r4⟩ := c_heights (F := F) (U := U) h hF hw9 hK hwf hw hp hq hb0 hb1 41 F _ b0 (2 ^ 63 - 1) (by omega) (by omega) hs Inv.start
    rw [u2_self e13] at r1
    refine ⟨V', bd', bst', ?_, fun j hj => ?_, r3, r4⟩
    · show b_X4_seek_105 F (fix4 (b_X4_seek_105 F) f) (C + 20) (C + 28) (nI e) (nI k) _ = _
      generalize fix4 (b_X4_seek_105 F) f = k105
      unfold b_X4_seek_105
      simp only [↓eC h, v7, hg, ↓bd_r]
      rw [if_pos (show nI (kN K) ≤ nI k from nI_le (by omega) (by omega))]
      exact r1
    · unfold keepS at hj
      rw [r2 j (by omega) (by omega), u2_row (by omega)]
  | succ m ih =>
    intro k f V hk hf v7 v8 v9 v10 v12 v13 vl w21 w29 hr
    obtain ⟨f, rfl⟩ : ∃ f', f = f' + 1 := ⟨f - 1, by omega⟩
    obtain ⟨V1, p1, p2, p3, p4, p5, p6, p7⟩ := c_spread (F := F) (V0 := V) (U := u2 U 20 15 (lN (2 ^ 63 - 1))) h hF hw9 hK hwf hw (show k < kN K by omega) he w21 d28 vl hl2 (w29 k (by omega))
    have r20 := p2 20 (by omega) (by omega) (by omega)
    obtain ⟨V', bd', bst', r1, r2, r3, r4⟩ := ih (k + 1) f V1 (by omega) (by omega) (by rw [r20]; exact v7) (by rw [r20]; exact v8) (by rw [r20]; exact v9) (by rw [r20]; exact v10) (by rw [r20]; exact v12) (by rw [r20]; exact v13) (by rw [p2 28 (by omega) (by omega) (by omega)]; exact vl) (by rw [p2 21 (by omega) (by omega) (by omega)]; exact w21) (by rw [p2 29 (by omega) (by omega) (by omega)]; exact w29) (fun i hi => by
      by_cases c : i = k
      · subst c; exact ⟨p3, p4, p5⟩
      · obtain ⟨g1, g2, g3⟩ := hr i (by omega)
        rw [(p6 i c).1, (p6 i c).2]
        have t4 := (low_top (l := l) (e := e) (hwf.1 i (by omega)).1).2.2
        exact ⟨g1, g2, fun x h1 h2 => by rw [p7 _ (by omega)]; exact g3 x h1 h2⟩)
    refine ⟨V', bd', bst', ?_, fun j hj => ?_, r3, r4⟩
    · show b_X4_seek_105 F (fix4 (b_X4_seek_105 F) f) (C + 20) (C + 28) (nI e) (nI k) _ = _
      generalize fix4 (b_X4_seek_105 F) f = k105 at r1 ⊢
      unfold b_X4_seek_105
      simp (disch := first | assumption | exact inB_n (by omega) (by decide) | exact inB_l (by omega) (by decide) | exact inB_al (by omega) (by decide) | exact inB_la (by omega) (by decide) | exact inB_j (by assumption) (by omega) (by decide) | exact inB_e (by assumption) (by decide) | omega) only [↓eC h, v7, p1, ↓bd_r, ix_nI, ix_l, nI_al, nI_la, nI_lm, u2_ne, u2_eq]
      rw [if_neg (show ¬ nI (kN K) ≤ nI k from fun q => by have := (nI_leI (by omega) (by omega)).mp q; omega)]
      exact r1
    · rw [r2 j hj]
      unfold keepS at hj
      exact p2 j (by omega) (by omega) (by omega)
theorem c_airs {m b : Nat} {K : SkyT} {F C : Nat} {S : Mem} {V0 : Vw} {U : Uw} {D : Dw} {x5 : Int32} (h : shC S C) (hF : 1001 < F) (hK : cSky S C b K) (d28 : D 28 0 = b) (v28 : V0 28 1 = nI m) :
    ∀ (n i f : Nat) (V : Vw), i + n = 41 → n < f → (∀ j, j ≠ 16 → j ≠ 17 → j ≠ 21 → V j = V0 j) → (∀ y, y < i → V 21 y = nI (wR K m 0 y)) →
      ∃ V', fix5 (b_X4_seek_67 F) f (C + 20) (C + 28) (C + 14) x5 (nI i) (wC S C V U D) = fix4 (b_X4_seek_105 F) F (C + 20) (C + 28) x5 0 (wC S C V' U D) ∧ (∀ j, j ≠ 16 → j ≠ 17 → j ≠ 21 → V' j = V0 j) ∧ ∀ y, y < 41 → V' 21 y = nI (wR K m 0 y) := by
  intro n
  induction n with
  | zero =>
    intro i f V hi hf hV hy
    obtain ⟨f, rfl⟩ : ∃ f', f = f' + 1 := ⟨f - 1, by omega⟩
    have hi : i = 41 := by omega
    subst hi
    refine ⟨V, ?_, hV, hy⟩
    show b_X4_seek_67 F (fix5 (b_X4_seek_67 F) f) (C + 20) (C + 28) (C + 14) x5 (nI 41) (wC S C V U D) = _
    generalize fix5 (b_X4_seek_67 F) f = k67
    unfold b_X4_seek_67
    rw [if_pos (show (40 : Int32) < nI 41 by decide)]
  | succ n ih =>
    intro i f V hi hf hV hy
    obtain ⟨f, rfl⟩ : ∃ f', f = f' + 1 := ⟨f - 1, by omega⟩
    obtain ⟨V1, p1, p2⟩ := c_windAt (F := F) (V := V) (U := U) (D := D) (hh := i) (m := m) (g := 0) h hF hK
    obtain ⟨V', r1, r2, r3⟩ := ih (i + 1) f (u2 V1 21 i (nI (windN K i m 0))) (by omega) (by omega) (fun j h1 h2 h3 => by rw [u2_row h3, p2 j h1 h2, hV j h1 h2 h3]) (fun y hy9 => by
      by_cases c : y = i
      · subst c; exact u2_eq ⟨rfl, rfl⟩
      · rw [u2_ne (Or.inr c), p2 21 (by omega) (by omega)]; exact hy y (by omega))
    refine ⟨V', ?_, r2, r3⟩
    show b_X4_seek_67 F (fix5 (b_X4_seek_67 F) f) (C + 20) (C + 28) (C + 14) x5 (nI i) (wC S C V U D) = _
    generalize fix5 (b_X4_seek_67 F) f = k67 at r1 ⊢
    unfold b_X4_seek_67
    have e28 : V 28 1 = nI m := by rw [hV 28 (by omega) (by omega) (by omega)]; exact v28
    rw [if_neg (show ¬ (40 : Int32) < nI i from nI_nlt (a := 40) (b := i) (by omega) (by omega))]
    simp (disch := first | assumption | exact inB_n (by omega) (by decide) | exact inB_l (by omega) (by decide) | exact inB_al (by omega) (by decide) | exact inB_la (by omega) (by decide) | exact inB_j (by assumption) (by omega) (by decide) | exact inB_e (by assumption) (by decide) | omega) only [↓eC h, ↓eN h isN28, d28, e28, p1, ↓bd_r, ix_nI, ix_l, nI_al, nI_la, nI_lm, u2_ne, u2_eq]
    exact r1
theorem lN_top : (9223372036854775807 : Int64) = lN (2 ^ 63 - 1) := by decide
theorem c_seek {l m e p q b0 b B : Nat} {ba : Bool} {K : SkyT} {s : Nat → Nat} {F C : Nat} {S : Mem} {V : Vw} {U : Uw} {D : Dw} (h : shC S C) (hF : 1001 < F) (hw9 : wfK K) (hK : cSky S C b K) (hwf : wfS K B s) (hp : p ≤ 999) (hq : q ≤ 40) (he : e ≤ 40) (hb0 : ba = true → b0 = 2147483647) (hb1 : b0 < 2 ^ 31) (hl2 : l < 2 ^ 31) (d28 : D 28 0 = b) (v1 : V 28 1 = nI m) (v2 : V 28 2 = nI l) (v29 : ∀ i, i < kN K → V 29 i = nI (s i)) (v12 : V 20 12 = b1 ba) (v13 : V 20 13 = nI b0) :
    ∃ V' bd' bst', fn_X4_seek F (C + 20) (C + 28) (C + 14) (nI p) (nI q) (nI e) (wC S C V U D) = some ((), wC S C V' (u2 U 20 15 (lN bst')) (u2 (u2 D 20 5 (C + 29)) 20 6 (b + 2))) ∧ (∀ j, keepS j → V' j = V j) ∧ V' 20 7 = nI (kN K) ∧ Inv K l (wR K m 0) s e p q ba b0 0 0 1 bd' bst' := by
  have n6 := hw9.1.1
  have e6 : mnI (nI (kN K)) 6 = nI (kN K) := by
    have := mn_nI (a := kN K) (b := 6) (by omega) (by omega)
    rw [show (6 : Int32) = nI 6 from rfl, this, Nat.min_eq_left n6]
  obtain ⟨V1, p1, p2, p3⟩ := c_airs (F := F) (V0 := u2 (u2 (u2 (u2 V 20 7 (nI (kN K))) 20 8 (nI (kW K))) 20 9 (nI p)) 20 10 (nI q)) (U := u2 U 20 15 (lN (2 ^ 63 - 1))) (D := u2 (u2 D 20 5 (C + 29)) 20 6 (b + 2)) (x5 := nI e) (m := m) h hF hK (by rw [u2_ne (by omega), u2_ne (by omega)]; exact d28) (by rw [u2_ne (by omega), u2_ne (by omega), u2_ne (by omega), u2_ne (by omega)]; exact v1) 41 0 F _ (by omega) (by omega) (fun _ _ _ _ => rfl) (fun y hy => by omega)
  have r20 := p2 20 (by omega) (by omega) (by omega)
  have r28 := p2 28 (by omega) (by omega) (by omega)
  have r29 := p2 29 (by omega) (by omega) (by omega)
  obtain ⟨V', bd', bst', q1, q2, q3, q4⟩ := c_kites (F := F) (U := U) (D := u2 (u2 D 20 5 (C + 29)) 20 6 (b + 2)) (ba := ba) (w := wR K m 0) h (by omega) hw9 hK hwf (wR_le K m 0) hp hq he hb0 hb1 hl2 (by rw [u2_ne (by omega)]; exact u2_eq ⟨rfl, rfl⟩) (u2_eq ⟨rfl, rfl⟩) (by rw [u2_ne (by omega), u2_ne (by omega)]; exact d28) (kN K) 0 F V1 (by omega) (by omega)
    (by rw [r20, u2_ne (by omega), u2_ne (by omega), u2_ne (by omega)]; exact u2_eq ⟨rfl, rfl⟩) (by rw [r20, u2_ne (by omega), u2_ne (by omega)]; exact u2_eq ⟨rfl, rfl⟩) (by rw [r20, u2_ne (by omega)]; exact u2_eq ⟨rfl, rfl⟩) (by rw [r20]; exact u2_eq ⟨rfl, rfl⟩)
    (by rw [r20, u2_ne (by omega), u2_ne (by omega), u2_ne (by omega), u2_ne (by omega)]; exact v12) (by rw [r20, u2_ne (by omega), u2_ne (by omega), u2_ne (by omega), u2_ne (by omega)]; exact v13)
    (by rw [r28, u2_ne (by omega), u2_ne (by omega), u2_ne (by omega), u2_ne (by omega)]; exact v2) p3 (fun i hi => by rw [r29, u2_ne (by omega), u2_ne (by omega), u2_ne (by omega), u2_ne (by omega)]; exact v29 i hi) (fun i hi => by omega)
  refine ⟨V', bd', bst', ?_, fun j hj => ?_, q3, q4⟩
  · unfold fn_X4_seek
    have e28 : u2 D 20 5 (C + (28 + 1)) 28 0 = b := by rw [u2_ne (by omega)]; exact d28
    simp only [↓eC h, ↓eN h isN28, ↓eK hK.1, d28, e28, hK.2.1.1, hK.2.1.2.1, e6, lN_top]
    exact p1.trans q1
  · rw [q2 j hj]
    unfold keepS at hj
    rw [p2 j (by omega) (by omega) (by omega), u2_row (by omega), u2_row (by omega), u2_row (by omega), u2_row (by omega)]
