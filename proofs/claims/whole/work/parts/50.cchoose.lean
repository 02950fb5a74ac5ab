/-! the class's search: what has been seen -/
def okC (ba : Bool) (b0 aw : Nat) : Prop := ba = true ∨ aw ≤ b0
def scC (K : SkyT) (l : Nat) (w s : Nat → Nat) (p q : Nat) (ba : Bool) (c : Nat → Nat) : Nat := scJ ba (awayK K l w c p q) (chgT s c (kN K)) (keyT c (kN K))
def rbN (ba : Bool) (bst : Nat) : Nat := if ba = true then bst else bst / 2 ^ 36 % 8
def rkN (K : SkyT) (l : Nat) (w s : Nat → Nat) (p q : Nat) (ba : Bool) (c : Nat → Nat) : Nat := if ba = true then scC K l w s p q ba c else chgT s c (kN K)
def Inv (K : SkyT) (l : Nat) (w s : Nat → Nat) (e p q : Nat) (ba : Bool) (b0 R k x bd bst : Nat) : Prop :=
  ((bst = 2 ^ 63 - 1 ∧ bd = b0) ∨ ∃ c, vld K l s e c ∧ okC ba b0 (awayK K l w c p q) ∧ bst = scC K l w s p q ba c ∧ bd = if ba = true then awayK K l w c p q else b0) ∧
  ∀ c, vld K l s e c → okC ba b0 (awayK K l w c p q) → (R < rawN K l w c ∨ (rawN K l w c = R ∧ keyT c k < x)) → rbN ba bst ≤ rkN K l w s p q ba c
theorem chg_le {s c : Nat → Nat} {n : Nat} : chgT s c n ≤ n := by
  have : chgT s c n ≤ n * 1 := sumTo_le (fun i hi => by split <;> omega)
  omega
theorem key_lt36 {K : SkyT} {l e B : Nat} {s c : Nat → Nat} (hw9 : wfK K) (hs : wfS K B s) (hv : vld K l s e c) : keyT c (kN K) < 2 ^ 36 := by
  have h1 := keyT_lt (c := c) (k := kN K) (fun i hi => by have := vld_le hs hv hi; omega)
  have h2 : 64 ^ kN K ≤ 64 ^ 6 := Nat.pow_le_pow_right (by decide) hw9.1.1
  have h3 : (64 : Nat) ^ 6 = 2 ^ 36 := by decide
  omega
theorem away_le {K : SkyT} {l p q : Nat} {w c : Nat → Nat} (hw9 : wfK K) (hw : ∀ i, w i ≤ 99) (hp : p ≤ 999) (hq : q ≤ 40) : awayK K l w c p q ≤ 2000 := by
  have h1 := place_le2 (l := l) (w := w) (len := c) hw9 hw
  have h2 := high_le (K := K) (l := l) (w := w) (len := c)
  unfold awayK distN
  omega
/-- the scores' order -/
theorem sc_split {aw ch key : Nat} {ba : Bool} (hch : ch ≤ 6) (hk : key < 2 ^ 36) : scJ ba aw ch key / 2 ^ 36 % 8 = ch ∧ scJ ba aw ch key / 2 ^ 39 = (if ba = true then aw else 0) := by
  unfold scJ
  generalize (if ba = true then aw else 0) = z
  omega
theorem prune {K : SkyT} {l e p q b0 R k bd bst B : Nat} {ba : Bool} {w s c0 : Nat → Nat} (hw9 : wfK K) (hs : wfS K B s) (hw : ∀ i, w i ≤ 99) (hp : p ≤ 999) (hq : q ≤ 40) (hb0 : ba = true → b0 = 2147483647) (hk : k ≤ kN K) (hc0 : ∀ i, i < k → c0 i < 64) (hI : Inv K l w s e p q ba b0 R k (keyT c0 k) bd bst)
    (hh : hopeB K w p q R ba bd bst (pulledP k (plN K l w c0) c0 R + fromT (mostK K l w s e R) (kN K) k) (pulledP k (plN K l w c0) c0 (R + 1)) (sumTo (slkN K l w c0) k) (chgT s c0 k) = true) : Inv K l w s e p q ba b0 R k (keyT c0 k + 1) bd bst := by
  refine ⟨hI.1, fun c hv hok hc => ?_⟩
  rcases hc with hc | ⟨hr, hx⟩
  · exact hI.2 c hv hok (Or.inl hc)
  by_cases hlt : keyT c k < keyT c0 k
  · exact hI.2 c hv hok (Or.inr ⟨hr, hlt⟩)
  have ag : ∀ i, i < k → c i = c0 i := keyT_inj (fun i hi => ⟨by have := vld_le hs hv (show i < kN K by omega); omega, hc0 i hi⟩) (by omega)
  have raw : rawG (pulledP (kN K) (plN K l w c) c) (kW K) 40 = R := hr
  obtain ⟨u1, u2'⟩ := raw_up raw
  rw [← pulled_congr ag, ← pulled_congr ag, ← slack_congr ag, ← chg_congr ag] at hh
  have p1 : pulledP k (plN K l w c) c (R + 1) ≤ pulledP (kN K) (plN K l w c) c (R + 1) := by
    unfold pulledP; rw [from_all hk]; exact Nat.le_add_right _ _
  have p2 := reach_ge (w := w) (R := R) hv hk
  have p3 := far_ge (p := p) (q := q) hk hr
  have p4 : chgT s c k ≤ chgT s c (kN K) := by unfold chgT; rw [from_all hk]; exact Nat.le_add_right _ _
  have ch6 := chg_le (s := s) (c := c) (n := kN K)
  have n6 := hw9.1.1
  have k36 := key_lt36 hw9 hs hv
  have a9 := away_le (l := l) (c := c) hw9 hw hp hq
  unfold hopeB at hh
  simp only [Bool.or_eq_true, Bool.and_eq_true, decide_eq_true_eq, Bool.not_eq_true'] at hh
  rcases hh with ((⟨a1, a2⟩ | ⟨a1, a2⟩) | ⟨a1, a2⟩) | a1
  · have := u1 a1
    omega
  · have := u2' a1
    omega
  · unfold rbN rkN
    rw [a1, if_neg (by decide), if_neg (by decide)]
    omega
  · rcases hI.1 with ⟨m1, m2⟩ | ⟨cb, vb, ob, sb, db⟩
    · rcases hok with ha | ha
      · have := hb0 ha
        omega
      · omega
    · cases hba : ba with
      | false =>
        rcases hok with ha | ha
        · rw [hba] at ha; cases ha
        · rw [hba, if_neg (by decide)] at db
          omega
      | true =>
        rw [hba, if_pos rfl] at db
        unfold rbN rkN
        rw [if_pos rfl, if_pos rfl, sb, hba]
        have kb36 := key_lt36 hw9 hs vb
        have cb6 := chg_le (s := s) (c := cb) (n := kN K)
        unfold scC scJ
        rw [if_pos rfl, if_pos rfl]
        omega
theorem leaf {K : SkyT} {l e p q b0 R bd bst B : Nat} {ba : Bool} {w s c0 : Nat → Nat} (hw9 : wfK K) (hs : wfS K B s) (hw : ∀ i, w i ≤ 99) (hp : p ≤ 999) (hq : q ≤ 40) (hb0 : ba = true → b0 = 2147483647) (hv0 : vld K l s e c0) (hr0 : rawN K l w c0 = R) (hI : Inv K l w s e p q ba b0 R (kN K) (keyT c0 (kN K)) bd bst) :
    Inv K l w s e p q ba b0 R (kN K) (keyT c0 (kN K) + 1) (jgB ba bd bst (awayK K l w c0 p q) (scC K l w s p q ba c0)).1 (jgB ba bd bst (awayK K l w c0 p q) (scC K l w s p q ba c0)).2 := by
  have n6 := hw9.1.1
  have k36 := key_lt36 hw9 hs hv0
  have ch6 := chg_le (s := s) (c := c0) (n := kN K)
  have a9 := away_le (l := l) (c := c0) hw9 hw hp hq
  have sp := sc_split (aw := awayK K l w c0 p q) (ba := ba) (show chgT s c0 (kN K) ≤ 6 by omega) k36
  have okb : okC ba b0 (awayK K l w c0 p q) → awayK K l w c0 p q ≤ bd ∨ rbN ba bst ≤ rkN K l w s p q ba c0 := by
    intro hok
    rcases hI.1 with ⟨m1, m2⟩ | ⟨cb, vb, ob, sb, db⟩
    · left
      rcases hok with ha | ha
      · have := hb0 ha; omega
      · omega
    · cases hba : ba with
      | false =>
        rcases hok with ha | ha
        · rw [hba] at ha; cases ha
        · left; rw [hba, if_neg (by decide)] at db; omega
      | true =>
        rw [hba, if_pos rfl] at db
        by_cases hle : awayK K l w c0 p q ≤ bd
        · exact Or.inl hle
        · right
          unfold rbN rkN
          rw [if_pos rfl, if_pos rfl, sb, hba]
          have kb36 := key_lt36 hw9 hs vb
          have cb6 := chg_le (s := s) (c := cb) (n := kN K)
          unfold scC scJ
          rw [if_pos rfl, if_pos rfl]
          omega
  have bst8 : bst = 2 ^ 63 - 1 ∨ (bst / 2 ^ 36 % 8 ≤ 6 ∧ (ba = false → bst < 7 * 2 ^ 36)) := by
    rcases hI.1 with ⟨m1, m2⟩ | ⟨cb, vb, ob, sb, db⟩
    · exact Or.inl m1
    · right
      have kb36 := key_lt36 hw9 hs vb
      have cb6 := chg_le (s := s) (c := cb) (n := kN K)
      rw [sb]
      refine ⟨by unfold scC; rw [(sc_split (by omega) kb36).1]; omega, fun hf => ?_⟩
      unfold scC scJ
      rw [hf, if_neg (by decide)]
      omega
  have sc0 : ba = false → scC K l w s p q ba c0 = chgT s c0 (kN K) * 2 ^ 36 + keyT c0 (kN K) := fun hf => by
    unfold scC scJ
    rw [hf, if_neg (by decide)]
    omega
  have rk0 : rbN ba (scC K l w s p q ba c0) = rkN K l w s p q ba c0 := by
    unfold rbN rkN
    cases hba : ba with
    | true => rw [if_pos rfl, if_pos rfl]
    | false =>
      rw [if_neg (by decide), if_neg (by decide)]
      have := sp.1
      rw [hba] at this
      unfold scC
      exact this
  unfold jgB
  by_cases hc : awayK K l w c0 p q ≤ bd ∧ scC K l w s p q ba c0 < bst
  · rw [if_pos hc]
    dsimp only
    have hok0 : okC ba b0 (awayK K l w c0 p q) := by
      cases hba : ba with
      | true => exact Or.inl rfl
      | false =>
        right
        rcases hI.1 with ⟨m1, m2⟩ | ⟨cb, vb, ob, sb, db⟩
        · omega
        · rw [hba, if_neg (by decide)] at db; omega
    refine ⟨Or.inr ⟨c0, hv0, hok0, rfl, ?_⟩, fun c hv hok hcc => ?_⟩
    · cases hba : ba with
      | true => rfl
      | false =>
        rw [if_neg (by decide), if_neg (by decide)]
        rcases hI.1 with ⟨m1, m2⟩ | ⟨cb, vb, ob, sb, db⟩
        · exact m2
        · rw [hba, if_neg (by decide)] at db; exact db
    · by_cases hold : R < rawN K l w c ∨ (rawN K l w c = R ∧ keyT c (kN K) < keyT c0 (kN K))
      · have := hI.2 c hv hok hold
        refine Nat.le_trans ?_ this
        unfold rbN
        cases hba : ba with
        | true => rw [if_pos rfl, if_pos rfl, ← hba]; omega
        | false =>
          rw [if_neg (by decide), if_neg (by decide)]
          have s0 := sc0 hba
          rw [hba] at s0
          have hc2 := hc.2
          rw [hba, s0] at hc2
          rw [s0]
          rcases bst8 with h8 | ⟨h8, h9⟩
          · rw [h8]; omega
          · have := h9 hba; omega
      · have hk : keyT c (kN K) = keyT c0 (kN K) := by omega
        have ag : ∀ i, i < kN K → c i = c0 i := keyT_inj (fun i hi => ⟨by have := vld_le hs hv hi; omega, by have := vld_le hs hv0 hi; omega⟩) hk
        have e1 : rkN K l w s p q ba c = rkN K l w s p q ba c0 := by
          unfold rkN scC
          rw [away_congr ag, chg_congr ag, hk]
        rw [e1, ← rk0]
        exact Nat.le_refl _
  · rw [if_neg hc]
    dsimp only
    refine ⟨hI.1, fun c hv hok hcc => ?_⟩
    by_cases hold : R < rawN K l w c ∨ (rawN K l w c = R ∧ keyT c (kN K) < keyT c0 (kN K))
    · exact hI.2 c hv hok hold
    · have hk : keyT c (kN K) = keyT c0 (kN K) := by omega
      have ag : ∀ i, i < kN K → c i = c0 i := keyT_inj (fun i hi => ⟨by have := vld_le hs hv hi; omega, by have := vld_le hs hv0 hi; omega⟩) hk
      have e1 : rkN K l w s p q ba c = rkN K l w s p q ba c0 := by
        unfold rkN scC
        rw [away_congr ag, chg_congr ag, hk]
      rw [e1]
      rw [away_congr ag] at hok
      rcases okb hok with h1 | h1
      · have hb : bst ≤ scC K l w s p q ba c0 := by
          have : ¬ scC K l w s p q ba c0 < bst := fun z => hc ⟨h1, z⟩
          omega
        rw [← rk0]
        unfold rbN
        cases hba : ba with
        | true => rw [if_pos rfl, if_pos rfl, ← hba]; exact hb
        | false =>
          rw [if_neg (by decide), if_neg (by decide)]
          have s0 := sc0 hba
          rw [hba] at s0 hb
          rw [s0] at hb ⊢
          omega
      · exact h1

/-! the class's search: choose -/
def set1 (c : Nat → Nat) (k y : Nat) : Nat → Nat := fun i => if i = k then y else c i
theorem set1_ne {c : Nat → Nat} {k y i : Nat} (h : i ≠ k) : set1 c k y i = c i := if_neg h
theorem set1_eq {c : Nat → Nat} {k y : Nat} : set1 c k y k = y := if_pos rfl
theorem set1_pulled {K : SkyT} {l k y h : Nat} {w c : Nat → Nat} : pulledP (k + 1) (plN K l w (set1 c k y)) (set1 c k y) h = pulledP k (plN K l w c) c h + if h ≤ y then pAt K l w k y else 0 := by
  show pulledP k (plN K l w (set1 c k y)) (set1 c k y) h + (if h ≤ set1 c k y k then plN K l w (set1 c k y) k else 0) = _
  rw [pulled_congr (c := set1 c k y) (c' := c) (fun i hi => set1_ne (by omega)), pAt_eq, set1_eq]
theorem set1_mom {K : SkyT} {l k y h : Nat} {w c : Nat → Nat} : momP (k + 1) (plN K l w (set1 c k y)) (set1 c k y) (wi K) h = momP k (plN K l w c) c (wi K) h + if h ≤ y then pAt K l w k y * wi K k else 0 := by
  show momP k (plN K l w (set1 c k y)) (set1 c k y) (wi K) h + (if h ≤ set1 c k y k then plN K l w (set1 c k y) k * wi K k else 0) = _
  rw [mom_congr (c := set1 c k y) (c' := c) (fun i hi => set1_ne (by omega)), pAt_eq, set1_eq]
theorem set1_slk {K : SkyT} {l k y : Nat} {w c : Nat → Nat} : sumTo (slkN K l w (set1 c k y)) (k + 1) = sumTo (slkN K l w c) k + slkN K l w (fun _ => y) k := by
  show sumTo (slkN K l w (set1 c k y)) k + slkN K l w (set1 c k y) k = _
  rw [slack_congr (c := set1 c k y) (c' := c) (fun i hi => set1_ne (by omega)), slk_congr (c' := fun _ => y) set1_eq]
theorem set1_chg {s c : Nat → Nat} {k y : Nat} : chgT s (set1 c k y) (k + 1) = chgT s c k + if y = s k then 0 else 1 := by
  show chgT s (set1 c k y) k + (if set1 c k y k = s k then 0 else 1) = _
  rw [chg_congr (c := set1 c k y) (c' := c) (fun i hi => set1_ne (by omega)), set1_eq]
theorem set1_key {c : Nat → Nat} {k y : Nat} : keyT (set1 c k y) (k + 1) = 64 * keyT c k + y := by
  show 64 * keyT (set1 c k y) k + set1 c k y k = _
  rw [keyT_congr (c := set1 c k y) (c' := c) (fun i hi => set1_ne (by omega)), set1_eq]
theorem Inv.down {K : SkyT} {l e p q b0 R k x bd bst B : Nat} {ba : Bool} {w s : Nat → Nat} (hs : wfS K B s) (hk : k < kN K) (h : Inv K l w s e p q ba b0 R k x bd bst) : Inv K l w s e p q ba b0 R (k + 1) (64 * x + lowK l s e k) bd bst :=
  ⟨h.1, fun c hv hok hc => h.2 c hv hok (hc.imp id (fun z => ⟨z.1, by
    have h1 : 64 * keyT c k + c k < 64 * x + lowK l s e k := z.2
    have h2 := (hv k hk).1
    have h3 := low_top (l := l) (e := e) (hs.1 k hk).1
    omega⟩))⟩
theorem Inv.up {K : SkyT} {l e p q b0 R k x bd bst B : Nat} {ba : Bool} {w s : Nat → Nat} (hs : wfS K B s) (hk : k < kN K) (h : Inv K l w s e p q ba b0 R (k + 1) (64 * x + topK l s e k + 1) bd bst) : Inv K l w s e p q ba b0 R k (x + 1) bd bst :=
  ⟨h.1, fun c hv hok hc => h.2 c hv hok (hc.imp id (fun z => ⟨z.1, by
    show 64 * keyT c k + c k < _
    have h2 := hv k hk
    have h3 := low_top (l := l) (e := e) (hs.1 k hk).1
    omega⟩))⟩
theorem Inv.bd {K : SkyT} {l e p q b0 R k x bd bst B : Nat} {ba : Bool} {w s : Nat → Nat} (hw9 : wfK K) (hs : wfS K B s) (hw : ∀ i, w i ≤ 99) (hp : p ≤ 999) (hq : q ≤ 40) (hb0 : b0 < 2 ^ 31) (h : Inv K l w s e p q ba b0 R k x bd bst) : bd < 2 ^ 31 ∧ bst < 2 ^ 63 := by
  rcases h.1 with ⟨m1, m2⟩ | ⟨cb, vb, ob, sb, db⟩
  · rw [m1, m2]; exact ⟨hb0, by decide⟩
  · have n6 := hw9.1.1
    have k36 := key_lt36 hw9 hs vb
    have c6 := chg_le (s := s) (c := cb) (n := kN K)
    have a9 := away_le (l := l) (c := cb) hw9 hw hp hq
    refine ⟨by rw [db]; split <;> omega, ?_⟩
    rw [sb]
    unfold scC scJ
    split <;> omega
theorem c_choose {l e p q b0 R b B : Nat} {ba : Bool} {K : SkyT} {w s : Nat → Nat} {F C : Nat} {S : Mem} {V : Vw} {U : Uw} {D : Dw} (h : shC S C) (hF : 100 < F) (hw9 : wfK K) (hK : cSky S C b K) (hwf : wfS K B s) (hw : ∀ i, w i ≤ 99) (hs : srC K l w s e p q ba b C V D) (hr : rcC K l w s e R V) (hR : R ≤ 40) (hp : p ≤ 999) (hq : q ≤ 40) (hb0 : ba = true → b0 = 2147483647) (hb1 : b0 < 2 ^ 31) :
    ∀ (d k : Nat) (c0 : Nat → Nat) (bd bst : Nat), k ≤ kN K → kN K - k < d → (∀ i, i < k → lowK l s e i ≤ c0 i ∧ c0 i ≤ topK l s e i) → Inv K l w s e p q ba b0 R k (keyT c0 k) bd bst →
      ∃ bd' bst', fn_X4_choose F d (C + 20) (nI k) (nI (pulledP k (plN K l w c0) c0 R)) (nI (pulledP k (plN K l w c0) c0 (R + 1))) (nI (momP k (plN K l w c0) c0 (wi K) R)) (nI (sumTo (slkN K l w c0) k)) (nI (chgT s c0 k)) (lN (keyT c0 k)) (wC S C (u2 V 20 13 (nI bd)) (u2 U 20 15 (lN bst)) D) = some ((), wC S C (u2 V 20 13 (nI bd')) (u2 U 20 15 (lN bst')) D) ∧ Inv K l w s e p q ba b0 R k (keyT c0 k + 1) bd' bst' := by
  have n6 := hw9.1.1
  obtain ⟨⟨v7, v8, v9, v10, v11, v12⟩, w21, vk, d5, d6⟩ := id hs
  have lt : ∀ i, i < kN K → lowK l s e i ≤ topK l s e i ∧ topK l s e i ≤ 40 := fun i hi => by
    have := low_top (l := l) (e := e) (hwf.1 i hi).1
    omega
  intro d
  induction d with
  | zero => intro k c0 bd bst hk hd; omega
  | succ d ih =>
    intro k c0 bd bst hk hd hc0 hI
    show ∃ bd' bst', fb_X4_choose F (fn_X4_choose F d) (C + 20) (nI k) _ _ _ _ _ _ _ = _ ∧ _
    generalize fn_X4_choose F d = rp at ih ⊢
    have c040 : ∀ i, i < k → c0 i ≤ 40 := fun i hi => by have := (hc0 i hi).2; have := (lt i (by omega)).2; omega
    have pb : ∀ x, pulledP k (plN K l w c0) c0 x ≤ 2376 := fun x => by
      have : pulledP k (plN K l w c0) c0 x ≤ k * 396 := sumTo_le (fun i hi => by
        split
        · exact plN_le hw9 hw (by omega)
        · omega)
      omega
    have mb : momP k (plN K l w c0) c0 (wi K) R ≤ 235224 := by
      have : momP k (plN K l w c0) c0 (wi K) R ≤ k * 39204 := sumTo_le (fun i hi => by
        split
        · have : plN K l w c0 i * wi K i ≤ 396 * 99 := Nat.mul_le_mul (plN_le hw9 hw (by omega)) (hw9.2 i (by omega)).2.1
          omega
        · omega)
      omega
    have sb : sumTo (slkN K l w c0) k ≤ 6 := by
      have : sumTo (slkN K l w c0) k ≤ k * 1 := sumTo_le (fun i hi => slk_le1)
      omega
    have cb : chgT s c0 k ≤ 6 := by have := chg_le (s := s) (c := c0) (n := k); omega
    have rb : fromT (mostK K l w s e R) (kN K) k ≤ 2376 := by
      have : fromT (mostK K l w s e R) (kN K) k ≤ (kN K - k) * 396 := sumTo_le (fun j hj => mxL_le _ _ _ (by omega) (fun x h1 h2 => (pT_mx hw9 hw (by omega)).2))
      have h2 : (kN K - k) * 396 ≤ 6 * 396 := Nat.mul_le_mul_right _ (by omega)
      omega
    have kb : keyT c0 k < 2 ^ 36 := by
      have h1 := keyT_lt (c := c0) (k := k) (fun i hi => by have := c040 i hi; omega)
      have h2 : 64 ^ k ≤ 64 ^ 6 := Nat.pow_le_pow_right (by decide) (by omega)
      have h3 : (64 : Nat) ^ 6 = 2 ^ 36 := by decide
      omega
    obtain ⟨hbd, hbst⟩ := hI.bd hw9 hwf hw hp hq hb1
    have hh := c_hopeless (F := F) (U := U) (ma := pulledP k (plN K l w c0) c0 R + fromT (mostK K l w s e R) (kN K) k) (ab := pulledP k (plN K l w c0) c0 (R + 1)) (sl := sumTo (slkN K l w c0) k) (ch := chgT s c0 k) h hw9 hs hr.1 hR hp hq hbd hbst (by have := pb R; omega) (by have := pb (R + 1); omega) sb (by omega)
    unfold fb_X4_choose
    simp (disch := first | assumption | exact inB_n (by omega) (by decide) | exact inB_l (by omega) (by decide) | exact inB_al (by omega) (by decide) | exact inB_la (by omega) (by decide) | exact inB_j (by assumption) (by omega) (by decide) | exact inB_e (by assumption) (by decide) | omega) only [↓eC h, ↓bd_r, u2_ne, hr.2 k hk, nI_add, hh, v7, ix_nI, ix_l, nI_al, nI_la, nI_lm, u2_ne, u2_eq]
    cases hB : hopeB K w p q R ba bd bst (pulledP k (plN K l w c0) c0 R + fromT (mostK K l w s e R) (kN K) k) (pulledP k (plN K l w c0) c0 (R + 1)) (sumTo (slkN K l w c0) k) (chgT s c0 k) with
    | true =>
      exact ⟨bd, bst, rfl, prune hw9 hwf hw hp hq hb0 hk (fun i hi => by have := c040 i hi; omega) hI hB⟩
    | false =>
      show ∃ bd' bst', (if (0 : Int32) = 0 then _ else _) = _ ∧ _
      rw [if_pos rfl]
      by_cases hkn : k = kN K
      · subst hkn
        rw [if_neg (show ¬ nI (kN K) < nI (kN K) from Int32.lt_irrefl)]
        have hv0 : vld K l s e c0 := hc0
        unfold hopeB at hB
        rw [from_end, Nat.add_zero] at hB
        simp only [Bool.or_eq_false_iff, Bool.and_eq_false_iff, decide_eq_false_iff_not] at hB
        have hr0 : rawN K l w c0 = R := raw_is hR (fun z => by
          rcases hB.1.1.1 with h1 | h1
          · exact absurd z h1
          · omega) (fun z => by
          rcases hB.1.1.2 with h1 | h1
          · exact absurd z h1
          · omega)
        have hj := c_judge (F := F) (U := U) (at_ := pulledP (kN K) (plN K l w c0) c0 R) (mom := momP (kN K) (plN K l w c0) c0 (wi K) R) (sl := sumTo (slkN K l w c0) (kN K)) (ch := chgT s c0 (kN K)) (key := keyT c0 (kN K)) h hw9 hw hs hr.1 hR hp hq hbd hbst (pb R) mb sb cb kb
        have ea : awJ w p q (pulledP (kN K) (plN K l w c0) c0 R) (momP (kN K) (plN K l w c0) c0 (wi K) R) (R - sumTo (slkN K l w c0) (kN K)) = awayK K l w c0 p q := by
          unfold awJ awayK placeN highN slackN
          rw [hr0]
        rw [ea] at hj
        rw [hj, bd_r]
        exact ⟨_, _, rfl, leaf hw9 hwf hw hp hq hb0 hv0 hr0 hI⟩
      · have hkl : k < kN K := by omega
        rw [if_pos (nI_lt hkl (by omega))]
        obtain ⟨g1, g2, g3, g4⟩ := vk k hkl
        have lt1 := lt k hkl
        have e23 : ∀ {α : Type} (K' : Int32 → Option α), (gA (wC S C (u2 V 20 13 (nI bd)) (u2 U 20 15 (lN bst)) D) 10 (C + 23) (nI k)).bind K' = K' (nI (lowK l s e k)) := fun K' => by simp (disch := first | assumption | exact inB_n (by omega) (by decide) | exact inB_l (by omega) (by decide) | exact inB_al (by omega) (by decide) | exact inB_la (by omega) (by decide) | exact inB_j (by assumption) (by omega) (by decide) | exact inB_e (by assumption) (by decide) | omega) only [↓eC h, u2_ne, g1, ix_nI, ix_l, nI_al, nI_la, nI_lm, u2_ne, u2_eq]
        rw [e23]
        have loop : ∀ (m y f bd bst : Nat), y + m = topK l s e k + 1 → m < f → lowK l s e k ≤ y → Inv K l w s e p q ba b0 R (k + 1) (64 * keyT c0 k + y) bd bst →
            ∃ bd' bst', fix9 (b_X4_choose_51 F rp) f (C + 20) (nI k) (nI (pulledP k (plN K l w c0) c0 R)) (nI (pulledP k (plN K l w c0) c0 (R + 1))) (nI (momP k (plN K l w c0) c0 (wi K) R)) (nI (sumTo (slkN K l w c0) k)) (nI (chgT s c0 k)) (lN (keyT c0 k)) (nI y) (wC S C (u2 V 20 13 (nI bd)) (u2 U 20 15 (lN bst)) D) = some ((), wC S C (u2 V 20 13 (nI bd')) (u2 U 20 15 (lN bst')) D) ∧ Inv K l w s e p q ba b0 R (k + 1) (64 * keyT c0 k + topK l s e k + 1) bd' bst' := by
          intro m
          induction m with
          | zero =>
            intro y f bd bst hy hf hlo hI2
            obtain ⟨f, rfl⟩ : ∃ f', f = f' + 1 := ⟨f - 1, by omega⟩
            obtain rfl : y = topK l s e k + 1 := by omega
            refine ⟨bd, bst, ?_, hI2⟩
            show b_X4_choose_51 F rp (fix9 (b_X4_choose_51 F rp) f) (C + 20) (nI k) _ _ _ _ _ _ (nI (topK l s e k + 1)) _ = _
            generalize fix9 (b_X4_choose_51 F rp) f = k9
            unfold b_X4_choose_51
            have e9 : ∀ {α : Type} (K' : Nat → Option α), (gR (wC S C (u2 V 20 13 (nI bd)) (u2 U 20 15 (lN bst)) D) 4 3 (C + 20)).bind K' = K' (C + 24) := fun K' => by simp only [↓eC h]
            have e8 : ∀ {α : Type} (K' : Int32 → Option α), (gA (wC S C (u2 V 20 13 (nI bd)) (u2 U 20 15 (lN bst)) D) 10 (C + 24) (nI k)).bind K' = K' (nI (topK l s e k)) := fun K' => by simp (disch := first | assumption | exact inB_n (by omega) (by decide) | exact inB_l (by omega) (by decide) | exact inB_al (by omega) (by decide) | exact inB_la (by omega) (by decide) | exact inB_j (by assumption) (by omega) (by decide) | exact inB_e (by assumption) (by decide) | omega) only [↓eC h, u2_ne, g2, ix_nI, ix_l, nI_al, nI_la, nI_lm, u2_ne, u2_eq]
            rw [e9, e8, if_pos (nI_lt (by omega) (by omega))]
          | succ m ihm =>
            intro y f bd bst hy hf hlo hI2
            obtain ⟨f, rfl⟩ : ∃ f', f = f' + 1 := ⟨f - 1, by omega⟩
            have ihm := fun bd bst => ihm (y + 1) f bd bst (by omega) (by omega) (by omega)
            show ∃ bd' bst', b_X4_choose_51 F rp (fix9 (b_X4_choose_51 F rp) f) (C + 20) (nI k) _ _ _ _ _ _ (nI y) _ = _ ∧ _
            generalize fix9 (b_X4_choose_51 F rp) f = k9 at ihm ⊢
            have hy4 : y ≤ topK l s e k := by omega
            have gT := g4 y hlo hy4
            obtain ⟨px, pl4⟩ := pT_mx (l := l) (x := y) hw9 hw hkl
            obtain ⟨ps1, ps2⟩ := pT_slk (l := l) (x := y) hw9 hw hkl
            have kw := (hK.2.2.1 k hkl).2.1
            obtain ⟨bd2, bst2, er, hI3⟩ := ih (k + 1) (set1 c0 k y) bd bst (by omega) (by omega) (fun i hi => by
              by_cases hik : i = k
              · subst hik; rw [set1_eq]; exact ⟨hlo, hy4⟩
              · rw [set1_ne hik]; exact hc0 i (by omega)) (by rw [set1_key]; exact hI2)
            rw [set1_key] at hI3
            obtain ⟨bd3, bst3, e3, hI4⟩ := ihm bd2 bst2 hI3
            refine ⟨bd3, bst3, ?_, hI4⟩
            rw [set1_pulled, set1_pulled, set1_mom, set1_slk, set1_chg, set1_key] at er
            have sk4 := (hwf.1 k hkl).1
            have ek : (lN (keyT c0 k) <<< (((6 : Int32)).toInt64 &&& 63)) ||| (nI y).toInt64 = lN (64 * keyT c0 k + y) := by
              rw [nI_l (show y < 2 ^ 31 by omega), lN_shl _ sh6 (by omega), show keyT c0 k * 2 ^ 6 = keyT c0 k * 64 from rfl, lN_or (by omega) (by omega), Nat.mul_comm]
            have e29 : ∀ {α : Type} (K' : Int32 → Option α), (gA (wC S C (u2 V 20 13 (nI bd)) (u2 U 20 15 (lN bst)) D) 10 (C + 29) (nI k)).bind K' = K' (nI (s k)) := fun K' => by
              have := (eN h isN28).2.2.2.2.2.2.1 (u2 V 20 13 (nI bd)) (u2 U 20 15 (lN bst)) D (nI k) K' (inB_n (by omega) (by decide))
              rw [nI_clamp (by omega), u2_row (by omega), show V (28 + 1) k = nI (s k) from g3] at this
              exact this
            have s169 : f_X4_choose_169 F rp k9 (C + 20) (nI k) (nI (pulledP k (plN K l w c0) c0 R)) (nI (pulledP k (plN K l w c0) c0 (R + 1))) (nI (momP k (plN K l w c0) c0 (wi K) R)) (nI (sumTo (slkN K l w c0) k)) (nI (chgT s c0 k)) (lN (keyT c0 k)) (nI y) (C + 20) (nI (k + 1)) (nI (pulledP k (plN K l w c0) c0 R + if R ≤ y then pAt K l w k y else 0)) (nI (pulledP k (plN K l w c0) c0 (R + 1) + if R + 1 ≤ y then pAt K l w k y else 0)) (nI (momP k (plN K l w c0) c0 (wi K) R + if R ≤ y then pAt K l w k y * wi K k else 0)) (nI (sumTo (slkN K l w c0) k + slkN K l w (fun _ => y) k)) (nI (chgT s c0 k + if y = s k then 0 else 1)) (wC S C (u2 V 20 13 (nI bd)) (u2 U 20 15 (lN bst)) D) = some ((), wC S C (u2 V 20 13 (nI bd3)) (u2 U 20 15 (lN bst3)) D) := by
              unfold f_X4_choose_169
              rw [ek]
              simp only [↓eC h, ↓bd_r, er, nI_1]
              exact e3
            have s149 : f_X4_choose_149 F rp k9 (C + 20) (nI k) (nI (pulledP k (plN K l w c0) c0 R)) (nI (pulledP k (plN K l w c0) c0 (R + 1))) (nI (momP k (plN K l w c0) c0 (wi K) R)) (nI (sumTo (slkN K l w c0) k)) (nI (chgT s c0 k)) (lN (keyT c0 k)) (nI y) (C + 20) (nI (k + 1)) (nI (pulledP k (plN K l w c0) c0 R + if R ≤ y then pAt K l w k y else 0)) (nI (pulledP k (plN K l w c0) c0 (R + 1) + if R + 1 ≤ y then pAt K l w k y else 0)) (nI (momP k (plN K l w c0) c0 (wi K) R + if R ≤ y then pAt K l w k y * wi K k else 0)) (nI (sumTo (slkN K l w c0) k + slkN K l w (fun _ => y) k)) (wC S C (u2 V 20 13 (nI bd)) (u2 U 20 15 (lN bst)) D) = some ((), wC S C (u2 V 20 13 (nI bd3)) (u2 U 20 15 (lN bst3)) D) := by
              unfold f_X4_choose_149
              simp only [↓eC h, d5, e29]
              by_cases hys : y = s k
              · rw [if_pos hys, Nat.add_zero] at s169
                rw [if_pos (by rw [hys])]
                exact s169
              · rw [if_neg hys] at s169
                rw [if_neg (fun z => hys ((nI_eq (by omega) (by omega)).mp z)), nI_1]
                exact s169
            have s122 : ∀ (hd mo : Int32), nI (momP k (plN K l w c0) c0 (wi K) R) + hd * nI (wi K k) = nI (momP k (plN K l w c0) c0 (wi K) R + if R ≤ y then pAt K l w k y * wi K k else 0) → f_X4_choose_122 F rp k9 (C + 20) (nI k) (nI (pulledP k (plN K l w c0) c0 R)) (nI (pulledP k (plN K l w c0) c0 (R + 1))) (nI (momP k (plN K l w c0) c0 (wi K) R)) (nI (sumTo (slkN K l w c0) k)) (nI (chgT s c0 k)) (lN (keyT c0 k)) (nI y) (pT K l w k y) hd (C + 20) (nI (k + 1)) (nI (pulledP k (plN K l w c0) c0 R + if R ≤ y then pAt K l w k y else 0)) (nI (pulledP k (plN K l w c0) c0 (R + 1) + if R + 1 ≤ y then pAt K l w k y else 0)) (wC S C (u2 V 20 13 (nI bd)) (u2 U 20 15 (lN bst)) D) = some ((), wC S C (u2 V 20 13 (nI bd3)) (u2 U 20 15 (lN bst3)) D) := by
              intro hd mo hmo
              unfold f_X4_choose_122
              simp (disch := first | assumption | exact inB_n (by omega) (by decide) | exact inB_l (by omega) (by decide) | exact inB_al (by omega) (by decide) | exact inB_la (by omega) (by decide) | exact inB_j (by assumption) (by omega) (by decide) | exact inB_e (by assumption) (by decide) | omega) only [↓eC h, ↓eK hK.1, d6, kw, hmo, ix_nI, ix_l, nI_al, nI_la, nI_lm, u2_ne, u2_eq]
              by_cases hsl : pT K l w k y = -1
              · rw [ps1.mp hsl] at s149
                rw [if_pos hsl]
                exact s149
              · rw [ps2 hsl, Nat.add_zero] at s149
                rw [if_neg hsl]
                exact s149
            unfold b_X4_choose_51
            have e24 : ∀ {α : Type} (K' : Int32 → Option α), (gA (wC S C (u2 V 20 13 (nI bd)) (u2 U 20 15 (lN bst)) D) 10 (C + 24) (nI k)).bind K' = K' (nI (topK l s e k)) := fun K' => by simp (disch := first | assumption | exact inB_n (by omega) (by decide) | exact inB_l (by omega) (by decide) | exact inB_al (by omega) (by decide) | exact inB_la (by omega) (by decide) | exact inB_j (by assumption) (by omega) (by decide) | exact inB_e (by assumption) (by decide) | omega) only [↓eC h, u2_ne, g2, ix_nI, ix_l, nI_al, nI_la, nI_lm, u2_ne, u2_eq]
            have e22 : ∀ {α : Type} (K' : Int32 → Option α), (gA (wC S C (u2 V 20 13 (nI bd)) (u2 U 20 15 (lN bst)) D) 10 (C + 22) (nI (41 * k + y))).bind K' = K' (pT K l w k y) := fun K' => by simp (disch := first | assumption | exact inB_n (by omega) (by decide) | exact inB_l (by omega) (by decide) | exact inB_al (by omega) (by decide) | exact inB_la (by omega) (by decide) | exact inB_j (by assumption) (by omega) (by decide) | exact inB_e (by assumption) (by decide) | omega) only [↓eC h, u2_ne, gT, ix_nI, ix_l, nI_al, nI_la, nI_lm, u2_ne, u2_eq]
            have e41 : nI k * (41 : Int32) + nI y = nI (41 * k + y) := by rw [show nI k * (41 : Int32) = nI (k * 41) from pk_mul k 41, nI_add, Nat.mul_comm]
            have hr1 := hr.1
            simp (disch := first | assumption | exact inB_n (by omega) (by decide) | exact inB_l (by omega) (by decide) | exact inB_al (by omega) (by decide) | exact inB_la (by omega) (by decide) | exact inB_j (by assumption) (by omega) (by decide) | exact inB_e (by assumption) (by decide) | omega) only [↓eC h, e41, u2_ne, hr1, g2, gT, ix_nI, if_neg (show ¬ nI (topK l s e k) < nI y from nI_nlt hy4 (by omega))]
            unfold f_X4_choose_95
            have z0 : ∀ a : Nat, nI a + (0 : Int32) = nI (a + 0) := fun a => nI_add a 0
            simp (disch := first | assumption | exact inB_n (by omega) (by decide) | exact inB_l (by omega) (by decide) | exact inB_al (by omega) (by decide) | exact inB_la (by omega) (by decide) | exact inB_j (by assumption) (by omega) (by decide) | exact inB_e (by assumption) (by decide) | omega) only [↓eC h, u2_ne, hr1, nI_1, px, nI_add, z0]
            by_cases hyR : y < R
            · rw [if_pos (nI_lt hyR (by omega)), if_pos (nI_le (by omega) (by omega))]
              rw [if_neg (show ¬ R ≤ y by omega), if_neg (show ¬ R ≤ y by omega), if_neg (show ¬ R + 1 ≤ y by omega), Nat.add_zero (pulledP k (plN K l w c0) c0 (R + 1))] at s122
              exact s122 0 0 (by rw [Int32.zero_mul, z0])
            · rw [if_neg (nI_nlt (by omega) (by omega))]
              rw [if_pos (show R ≤ y by omega), if_pos (show R ≤ y by omega)] at s122
              have hm1 : nI (momP k (plN K l w c0) c0 (wi K) R) + nI (pAt K l w k y) * nI (wi K k) = nI (momP k (plN K l w c0) c0 (wi K) R + pAt K l w k y * wi K k) := by rw [pk_mul, nI_add]
              by_cases hy2 : y ≤ R
              · rw [if_pos (nI_le hy2 (by omega))]
                rw [if_neg (show ¬ R + 1 ≤ y by omega), Nat.add_zero] at s122
                exact s122 _ 0 hm1
              · rw [if_neg (show ¬ nI y ≤ nI R from nI_ge (by omega) (by omega))]
                rw [if_pos (show R + 1 ≤ y by omega)] at s122
                exact s122 _ 0 hm1
        obtain ⟨bd', bst', e1, hI2⟩ := loop (topK l s e k + 1 - lowK l s e k) (lowK l s e k) F bd bst (by omega) (by omega) (Nat.le_refl _) (hI.down hwf hkl)
        exact ⟨bd', bst', e1, hI2.up hwf hkl⟩
