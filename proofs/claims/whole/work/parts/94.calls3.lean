/-! sky and lamp: the memory grows -/
theorem shM.cg {S S' : Mem} {M : Nat} (h : shM S M) (e : ∀ j, j < 32 → mK S' (M + j) = mK S (M + j) ∧ mN S' (M + j) = mN S (M + j)) (r : mR S' M = mR S M) : shM S' M := by
  have hk := fun j hj => (e j hj).1
  have hn := fun j hj => (e j hj).2
  have k0 : mK S' M = mK S M := hk 0 (by omega)
  unfold shM at h ⊢
  simp (disch := omega) only [k0, r, hk, hn]
  exact h
theorem wM_eq {T : Mem} {M : Nat} {V : Vw} {U : Uw} (h : ∀ j, j < 32 → mI T (M + j) = V j ∧ mJ T (M + j) = U j) : wM T M V U = T := by
  have h1 : (fun a k => if M ≤ a ∧ a < M + 32 then V (a - M) k else mI T a k) = mI T := by
    funext a k
    by_cases q : M ≤ a ∧ a < M + 32
    · rw [if_pos q, ← (h (a - M) (by omega)).1, show M + (a - M) = a by omega]
    · rw [if_neg q]
  have h2 : (fun a k => if M ≤ a ∧ a < M + 32 then U (a - M) k else mJ T a k) = mJ T := by
    funext a k
    by_cases q : M ≤ a ∧ a < M + 32
    · rw [if_pos q, ← (h (a - M) (by omega)).2, show M + (a - M) = a by omega]
    · rw [if_neg q]
  unfold wM
  rw [h1, h2]
  rfl
def yS (C : Nat) (S S' : Mem) : Prop := (∀ a, a < mZ S → mK S' a = mK S a ∧ mN S' a = mN S a ∧ mR S' a = mR S a ∧ ((a < C + 71 ∨ C + 103 ≤ a) → mI S' a = mI S a)) ∧ mU S' = mU S ∧ mZ S ≤ mZ S'
theorem cSky_y {S S' : Mem} {C b : Nat} {K : SkyT} (hk : cSky S C b K) (ho : skO S C b) (x : yS C S S') : cSky S' C b K ∧ skO S' C b := by
  obtain ⟨h1, h2, h3, ⟨w, w1, w2⟩, ⟨v, v1, v2⟩⟩ := hk
  obtain ⟨o1, o2, o3⟩ := ho
  have hb := x.1 b (by omega)
  have hm : ∀ i, i ≤ 5 → mI S' (b + i) = mI S (b + i) := fun i hi => (x.1 (b + i) (by omega)).2.2.2 (by omega)
  have hm0 : mI S' b = mI S b := hm 0 (by omega)
  have hz := x.2.2
  have lw : ∀ w f, w < mZ S → (w < C ∨ C + 104 ≤ w) → cLaw S C w f → cLaw S' C w f := by
    intro w f q1 q2 q3
    have q := x.1 w q1
    cases f with
    | none => exact ⟨by rw [q.1]; exact q3.1, by rw [q.2.1]; exact q3.2⟩
    | some f =>
      obtain ⟨y1, y2, y3, y4, y5⟩ := q3
      exact ⟨by rw [q.1]; exact y1, by rw [q.2.1]; exact y2, by rw [q.2.1]; exact y3, y4, by rw [q.2.1, q.2.2.2 (by omega)]; exact y5⟩
  have ow := o3 10 w (by omega) w1
  have ov := o3 11 v (by omega) v1
  refine ⟨⟨⟨by rw [hb.1]; exact h1.1, fun i hi => ?_, h1.2.2⟩, by rw [hm0]; exact h2, fun k hk => by rw [hm 1 (by omega), hm 2 (by omega), hm 3 (by omega), hm 4 (by omega)]; exact h3 k hk, ⟨w, by rw [hb.2.2.1]; exact w1, lw w _ ow.1 ow.2 w2⟩, ⟨v, by rw [hb.2.2.1]; exact v1, lw v _ ov.1 ov.2 v2⟩⟩, o1, by omega, fun k u hk hu => ?_⟩
  · have q := x.1 (b + (1 + i)) (by omega)
    rw [hb.2.2.1, q.1, q.2.1]
    exact h1.2.1 i hi
  · rw [hb.2.2.1] at hu
    have q := o3 k u hk hu
    exact ⟨by omega, q.2⟩
/-- what is so of the memory alone -/
def JS (S : Mem) (C b L : Nat) (xs : Nat → Int32) : Prop := (shC S C ∧ shM S (C + 71) ∧ mK S (C + 103) = 11 ∧ mN S (C + 103) = 1) ∧ (mK S b = 14 ∧ mN S b = L ∧ mI S b = xs ∧ b < C) ∧ (bgU S ∧ mU S < C) ∧ C + 104 ≤ mZ S
theorem JS_y {S S' : Mem} {C b L : Nat} {xs : Nat → Int32} (h : JS S C b L xs) (x : yS C S S') : JS S' C b L xs := by
  obtain ⟨⟨a1, a2, a3, a4⟩, ⟨b1', b2, b3, b4⟩, ⟨⟨c1, c2, c3⟩, c4⟩, d⟩ := h
  have hz := x.2.2
  have q3 := x.1 (C + 103) (by omega)
  have qb := x.1 b (by omega)
  have qu := x.1 (mU S) c3
  refine ⟨⟨a1.cg (fun j hj => ?_), a2.cg (fun j hj => ?_) (x.1 (C + 71) (by omega)).2.2.1, by rw [q3.1]; exact a3, by rw [q3.2.1]; exact a4⟩, ⟨by rw [qb.1]; exact b1', by rw [qb.2.1]; exact b2, by rw [qb.2.2.2 (by omega)]; exact b3, b4⟩, ⟨⟨by rw [x.2.1, qu.1]; exact c1, by rw [x.2.1, qu.2.1]; exact c2, by rw [x.2.1]; omega⟩, by rw [x.2.1]; exact c4⟩, by omega⟩
  · have q := x.1 (C + j) (by omega)
    exact ⟨q.1, q.2.1, q.2.2.1⟩
  · have q := x.1 (C + 71 + j) (by omega)
    exact ⟨q.1, q.2.1⟩
theorem J_y {z0 q0 n C b L lm : Nat} {xs : Nat → Int32} {S S' : Mem} {Vc : Vw} {Uc : Uw} {Dc : Dw} {Vm : Vw} {X : Tp} {K : SkyT} {s : Nat → Nat} (h : JD z0 q0 n S C Vc Uc Dc Vm X K s lm b L xs) (x : yS C S S') (hz : mZ S' ≤ z0 + 8 * n) (hq : mQ S' ≤ q0 + 2042 * n) : JD z0 q0 n S' C Vc Uc Dc Vm X K s lm b L xs := by
  obtain ⟨h1, h2, h3, h4, t, ⟨k1, k2, k3, k4, k5, k6, k7⟩, l1, l2, l3, l4⟩ := h
  obtain ⟨g1, g2, g3, g4⟩ := JS_y ⟨h1, h2, h3, h4.1⟩ x
  have q := cSky_y k3 k4 x
  refine ⟨g1, g2, g3, ⟨g4, hz, hq⟩, t, ⟨k1, k2, q.1, q.2, k5, k6, k7⟩, l1, l2, l3, fun m hm hl => ?_⟩
  obtain ⟨K', s9, c1, c2, c3, c4, c5, c6, c7⟩ := l4 m hm hl
  have q := cSky_y c3 c4 x
  exact ⟨K', s9, c1, c2, q.1, q.2, c5, c6, c7⟩
theorem room_c {a b q n c : Nat} (h1 : a ≤ b + c) (h2 : b ≤ q + c * n) : a ≤ q + c * (n + 1) := by
  rw [Nat.mul_succ]
  omega
theorem room_q {a b q n : Nat} (h1 : a ≤ b + 2042) (h2 : b ≤ q + 2042 * n) : a ≤ q + 2042 * (n + 1) := room_c h1 h2
theorem room_z {a b q n : Nat} (h1 : a ≤ b + 8) (h2 : b ≤ q + 8 * n) : a ≤ q + 8 * (n + 1) := by omega
theorem bj_sky {F z0 q0 n C b L lm i : Nat} {xs : Nat → Int32} {k : Nat → Nat → Nat → Nat → Int32 → Mem → Option (Int32 × Mem)} {S : Mem} {Vc : Vw} {Uc : Uw} {Dc : Dw} {Vm : Vw} {Um : Uw} {X : Tp} {K : SkyT} {s : Nat → Nat} (hF : 10000 < F) (h : JD z0 q0 n S C Vc Uc Dc Vm X K s lm b L xs) (hL : L ≤ 3584) (hi : i + 7 ≤ L) (hn : 1000 * n + 1000 < 2 ^ 29) : JN z0 q0 (n + 1) C b L xs k i (br_1 F k b C (C + 71) (C + 103) (nI i) (JM S C Vc Uc Dc Vm Um)) := by
  have h9 := h
  obtain ⟨h1, h2, h3, h4, ⟨t1, t2, t3, t4⟩, ⟨k1, k2, k3, k4, k5, k6, k7⟩, l1, l2, l3, l4⟩ := h
  have mz : mZ (wM S (C + 71) Vm Um) = mZ S := rfl
  obtain ⟨S', V1, U1, D1, a1, a2, a3, a4, a5, a6, a7, a8, a9, a10, a11⟩ := cb_sky (X := X) (F := F) (S := wM S (C + 71) Vm Um) (V := Vc) (U := Uc) (D := Dc) h1.1 hF t1 t2 t4 (by rw [mz]; have := h4.1; omega) h3.1
  rw [mz] at a2 a3
  have a4 : mQ S' ≤ mQ S + 2042 := a4
  -- the memory that has grown, without the model's rows and with them
  have y : yS C S S' := by
    refine ⟨fun a ha => ?_, a2.2.1.1, a2.2.2.1⟩
    have q := a2.1 a ha
    exact ⟨q.1, q.2.1, funext fun k => q.2.2.2.2 k (Or.inl (by omega)), fun ho => q.2.2.1.trans (wM_out (by omega))⟩
  have eM : wM S' (C + 71) Vm Um = S' := wM_eq (fun j hj => by
    have q := a2.1 (C + 71 + j) (by show C + 71 + j < mZ S; have := h4.1; omega)
    exact ⟨q.2.2.1.trans (funext fun k => wM_mI hj), q.2.2.2.1.trans (funext fun k => wM_mJ hj)⟩)
  obtain ⟨g1, g2, g3, g4⟩ := JS_y ⟨h1, h2, h3, h4.1⟩ y
  obtain ⟨V2, U2, b1', b2, b3, b4, b5⟩ := mb_sky (X := X) (F := F) (S := wC S' C V1 U1 D1) (V := Vm) (U := Um) (shM_wC g1.2.1) hF t1 t3.1 t3.2
  rw [← wCM, ← wCM, eM] at b1'
  have e9 : br_1 F k b C (C + 71) (C + 103) (nI i) (JM S C Vc Uc Dc Vm Um) = k b C (C + 71) (C + 103) (nI (i + 7)) (JM S' C V1 U1 D1 V2 U2) := by
    generalize nI (skF (pSky X 1001 0 sk0)) = v at a1 b1'
    unfold br_1 f_L_law_1084
    rw [J_calC h9, a1, bd_r]
    rw [cal_r (S := wC S' C V1 U1 D1) (show mK S' (C + 71) = 8 from g1.2.1.1), b1', bd_r, if_pos rfl, nI_la]
  have X' : okTp (0, X.2) := ⟨by show 0 ≤ 1000; omega, fun i hi => absurd hi (by show ¬ i < 0; omega)⟩
  have tc : cTp V1 (0, X.2) := ⟨a6, fun i hi => absurd hi (by show ¬ i < 0; omega)⟩
  have tm : mTp V2 (0, X.2) := ⟨b2, fun i hi => absurd hi (by show ¬ i < 0; omega)⟩
  have tw : wds U1 := fun i hi => by rw [a9 11 (by omega) (by omega)]; exact t4 i hi
  have room : C + 104 ≤ mZ S' ∧ mZ S' ≤ z0 + 8 * (n + 1) ∧ mQ S' ≤ q0 + 2042 * (n + 1) := ⟨g4, room_z a3 h4.2.1, room_q a4 h4.2.2⟩
  have v08 : V1 0 8 = nI lm := by rw [a7 8 (by omega)]; exact l2
  have m31 : ∀ m, m < 4 → V2 31 m = b1 (lo lm m) := fun m hm => by rw [b3.2.2]; exact l3 m hm
  have mks : ∀ m, m < 4 → lo lm m = true → mkD (n + 1) S' C V1 D1 V2 m := fun m hm hl => by
    obtain ⟨K', s9, c1, c2, c3, c4, c5, c6, c7⟩ := l4 m hm hl
    have q := cSky_y c3 c4 y
    have dm : D1 (43 + 7 * m) 0 = Dc (43 + 7 * m) 0 := a10 _ (isN_mk hm) (by omega)
    exact ⟨K', s9, c1, c2.up (by omega), by rw [dm]; exact q.1, by rw [dm]; exact q.2, c5.keep (fun j hj => a8 _ (by omega)), b4 _ _ (by omega) c6 c1.1.1, fun j hj => by rw [b3.2.1]; exact c7 j hj⟩
  cases hs : pSky X 1001 0 sk0 with
  | inl kk =>
    rw [hs] at a11 b5
    obtain ⟨-, c1, c2⟩ := a11
    have q := cSky_y k3 k4 y
    refine ⟨S', V1, U1, D1, V2, U2, (0, X.2), K, s, lm, e9, g1, g2, g3, room, ⟨X', tc, tm, tw⟩, ⟨k1, k2.up (by omega), by rw [c2]; exact q.1, by rw [c2]; exact q.2, k5.keep (fun j hj => c1 _ (by omega)), b5.1 K k6 k1.1.1, fun j hj => by rw [b5.2]; exact k7 j hj⟩, l1, v08, m31, mks⟩
  | inr sk =>
    rw [hs] at a11 b5
    obtain ⟨c1, c2, c3, c4, c5, c6⟩ := a11
    rw [mz] at c2 c3 c5 c6
    have ho : skO S' C (mZ S) := ⟨Or.inr h4.1, c5, fun k w hk hw => by
      have q := c6 k w hk hw
      have hu : mU (wM S (C + 71) Vm Um) = mU S := rfl
      rw [hu] at q
      have := h3.2
      have := h4.1
      exact ⟨q.1, by omega⟩⟩
    refine ⟨S', V1, U1, D1, V2, U2, (0, X.2), skK sk, skS sk, lm, e9, g1, g2, g3, room, ⟨X', tc, tm, tw⟩, ⟨skK_wf c1, skS_wf c1, by rw [c2]; exact c3, by rw [c2]; exact ho, c4, b5.1, b5.2⟩, l1, v08, m31, mks⟩
theorem wM_pNew {S : Mem} {M kd n : Nat} {V : Vw} {U : Uw} (h : M + 32 ≤ mZ S) : pNew (wM S M V U) kd n = wM (pNew S kd n) M V U := by
  have e3 : u1 (mI (wM S M V U)) (mZ S) (fun _ => 0) = fun a k => if M ≤ a ∧ a < M + 32 then V (a - M) k else mI (pNew S kd n) a k := by
    funext a k
    show (if a = mZ S then (fun _ => (0 : Int32)) else fun k => if M ≤ a ∧ a < M + 32 then V (a - M) k else mI S a k) k = if M ≤ a ∧ a < M + 32 then V (a - M) k else (if a = mZ S then (fun _ => (0 : Int32)) else mI S a) k
    by_cases q : M ≤ a ∧ a < M + 32
    · rw [if_neg (by omega), if_pos q]; exact (if_pos q).symm
    · rw [if_neg q]
      by_cases q2 : a = mZ S
      · rw [if_pos q2, if_pos q2]
      · rw [if_neg q2, if_neg q2]; exact if_neg q
  have e4 : u1 (mJ (wM S M V U)) (mZ S) (fun _ => 0) = fun a k => if M ≤ a ∧ a < M + 32 then U (a - M) k else mJ (pNew S kd n) a k := by
    funext a k
    show (if a = mZ S then (fun _ => (0 : Int64)) else fun k => if M ≤ a ∧ a < M + 32 then U (a - M) k else mJ S a k) k = if M ≤ a ∧ a < M + 32 then U (a - M) k else (if a = mZ S then (fun _ => (0 : Int64)) else mJ S a) k
    by_cases q : M ≤ a ∧ a < M + 32
    · rw [if_neg (by omega), if_pos q]; exact (if_pos q).symm
    · rw [if_neg q]
      by_cases q2 : a = mZ S
      · rw [if_pos q2, if_pos q2]
      · rw [if_neg q2, if_neg q2]; exact if_neg q
  show (u1 S.1 (mZ S) kd, u1 S.2.1 (mZ S) n, u1 (mI (wM S M V U)) (mZ S) (fun _ => 0), u1 (mJ (wM S M V U)) (mZ S) (fun _ => 0), u1 S.2.2.2.2.1 (mZ S) (fun _ => none), mZ S + 1, mU S, mQ S + (if kd < 9 then szOf kd else n), mT S, mB S) = _
  rw [e3, e4]
  rfl
theorem pNew_y {S : Mem} {C kd n : Nat} : yS C S (pNew S kd n) := by
  refine ⟨fun a ha => ?_, rfl, Nat.le_succ _⟩
  have ne : a ≠ mZ S := by omega
  exact ⟨if_neg ne, if_neg ne, if_neg ne, fun _ => if_neg ne⟩
theorem wC_pJo {S : Mem} {C a k : Nat} {V : Vw} {U : Uw} {D : Dw} {v : Int64} (h : ¬ inR C a) : pJ (wC S C V U D) a k v = wC (pJ S a k v) C V U D := by
  have h1 : u2 (mJ (wC S C V U D)) a k v = fun c j => if c = C ∨ (C + 7 ≤ c ∧ c < C + 71) then U (c - C) j else mJ (pJ S a k v) c j := by
    funext c j
    show (if c = a ∧ j = k then v else if c = C ∨ (C + 7 ≤ c ∧ c < C + 71) then U (c - C) j else mJ S c j) = (if c = C ∨ (C + 7 ≤ c ∧ c < C + 71) then U (c - C) j else if c = a ∧ j = k then v else mJ S c j)
    by_cases h2 : c = C ∨ (C + 7 ≤ c ∧ c < C + 71)
    · rw [if_pos h2, if_pos h2, if_neg (fun q => h (by rw [← q.1]; exact h2))]
    · rw [if_neg h2, if_neg h2]
  show ((wC S C V U D).1, (wC S C V U D).2.1, (wC S C V U D).2.2.1, u2 (mJ (wC S C V U D)) a k v, (wC S C V U D).2.2.2.2) = _
  rw [h1]
  rfl
theorem wM_pJo {S : Mem} {M a k : Nat} {V : Vw} {U : Uw} {v : Int64} (h : ¬ (M ≤ a ∧ a < M + 32)) : pJ (wM S M V U) a k v = wM (pJ S a k v) M V U := by
  have h1 : u2 (mJ (wM S M V U)) a k v = fun c j => if M ≤ c ∧ c < M + 32 then U (c - M) j else mJ (pJ S a k v) c j := by
    funext c j
    show (if c = a ∧ j = k then v else if M ≤ c ∧ c < M + 32 then U (c - M) j else mJ S c j) = (if M ≤ c ∧ c < M + 32 then U (c - M) j else if c = a ∧ j = k then v else mJ S c j)
    by_cases h2 : M ≤ c ∧ c < M + 32
    · rw [if_pos h2, if_pos h2, if_neg (by omega)]
    · rw [if_neg h2, if_neg h2]
  show ((wM S M V U).1, (wM S M V U).2.1, (wM S M V U).2.2.1, u2 (mJ (wM S M V U)) a k v, (wM S M V U).2.2.2.2) = _
  rw [h1]
  rfl
theorem pJ_y {S : Mem} {C a k : Nat} {v : Int64} : yS C S (pJ S a k v) := ⟨fun _ _ => ⟨rfl, rfl, rfl, fun _ => rfl⟩, rfl, Nat.le_refl _⟩
theorem bj_lamp {F z0 q0 n C b L lm i : Nat} {xs : Nat → Int32} {k : Nat → Nat → Nat → Nat → Int32 → Mem → Option (Int32 × Mem)} {S : Mem} {Vc : Vw} {Uc : Uw} {Dc : Dw} {Vm : Vw} {Um : Uw} {X : Tp} {K : SkyT} {s : Nat → Nat} (hF : 10000 < F) (h : JD z0 q0 n S C Vc Uc Dc Vm X K s lm b L xs) (hL : L ≤ 3584) (hi : i + 7 ≤ L) (hn : 1000 * n + 1000 < 2 ^ 29) : JN z0 q0 (n + 1) C b L xs k i (br_4 F k b C (C + 71) (C + 103) (nI i) (JM S C Vc Uc Dc Vm Um)) := by
  have h9 := h
  obtain ⟨h1, h2, h3, h4, ht, ⟨k1, k2, k3, k4, k5, k6, k7⟩, hl⟩ := h
  have thr : ∀ (S1 : Mem) (Vc : Vw) (Uc : Uw) (Dc : Dw) (V2 : Vw) (U2 : Uw), shM S1 (C + 71) → fn_X9_thrown F (C + 71) (wC (wM S1 (C + 71) V2 U2) C Vc Uc Dc) = some (V2 0 0, wC (wM S1 (C + 71) V2 U2) C Vc Uc Dc) := by
    intro S1 Vc Uc Dc V2 U2 q
    rw [wCM]
    unfold fn_X9_thrown
    simp only [↓eM (shM_wC (V := Vc) (U := Uc) (D := Dc) q)]
  by_cases hx : (inr (xs (i + 1)) 0 9999 && inr (xs (i + 2)) 0 2) = true
  · have hx2 := Bool.and_eq_true _ _ ▸ hx
    have hx1 : inr (xs (i + 1)) 0 9999 = true := (Bool.and_eq_true _ _ ▸ hx : _ ∧ _).1
    have hx2 : inr (xs (i + 2)) 0 2 = true := (Bool.and_eq_true _ _ ▸ hx : _ ∧ _).2
    obtain ⟨m, -, m3, hm⟩ := inr_nI (a := 0) (b := 9999) (by decide) (by decide) hx1
    obtain ⟨V1, D1, a1, a2, a3, a4⟩ := ca_lamp (m := m) (y := xs (i + 2)) (F := F) (S := wM S (C + 71) Vm Um) (V := Vc) (U := Uc) (D := Dc) h1.1 hF k1 (cSky_wM k3 k4) rfl k5 k2 (by omega) (by rw [← hm]; exact hx1) hx2
    rw [← hm] at a1
    -- what the class answered, kept
    have y := pJ_y (S := S) (C := C) (a := C + 103) (k := 0) (v := (sp_lamp K s m (xs (i + 2))).toInt64)
    have g := JS_y ⟨h1, h2, h3, h4.1⟩ y
    obtain ⟨V2, U2, r, b1', b2, b3, b4, b5⟩ := ma_lamp (x := xs (i + 1)) (y := xs (i + 2)) (F := F) (S := wC (pJ S (C + 103) 0 (sp_lamp K s m (xs (i + 2))).toInt64) C V1 Uc D1) (V := Vm) (U := Um) (shM_wC g.1.2.1) hF k1 k6 k7 k2 (by omega)
    rw [← wCM, ← wCM] at b1'
    have er := b5 hx
    rw [hm, nI_clamp (by omega)] at er
    rw [hx] at b4
    have b4 : V2 0 0 = 0 := b4
    refine ⟨pJ S (C + 103) 0 (sp_lamp K s m (xs (i + 2))).toInt64, V1, Uc, D1, V2, U2, X, K, s, lm, ?_, J_y (J_go h9 (k2.up (by omega)) a2 rfl a3 a4 b2 b3) y (by show mZ S ≤ _; omega) (by show mQ S ≤ _; omega)⟩
    have el : fn_L_lamp F C (xs (i + 1)) (xs (i + 2)) (C + 103) (JM S C Vc Uc Dc Vm Um) = some (0, JM (pJ S (C + 103) 0 (sp_lamp K s m (xs (i + 2))).toInt64) C V1 Uc D1 Vm Um) := by
      have ef : fx_X8_lamp F C (xs (i + 1)) (xs (i + 2)) (JM S C Vc Uc Dc Vm Um) = none := by
        unfold fx_X8_lamp
        rw [c_within, bd_r, hx1, if_neg (show ¬ b1 true = 0 by decide), c_within, bd_r, hx2, if_neg (show ¬ b1 true = 0 by decide)]
      unfold fn_L_lamp
      rw [ef]
      show (bd (cal (JM S C Vc Uc Dc Vm Um) 7 C (fn_X8_lamp F C (xs (i + 1)) (xs (i + 2)) (JM S C Vc Uc Dc Vm Um))) fun v1 S2 => (sAJ S2 (C + 103) (0 : Int32) (v1).toInt64).bind fun S3 => some (0, S3)) = _
      rw [J_calC h9, a1, bd_r, sAJ_k (S := wC (wM S (C + 71) Vm Um) C V1 Uc D1) (show mK S (C + 103) = 11 from h1.2.2.1) (show mN S (C + 103) = 1 from h1.2.2.2) (by decide), show (0 : Int32).toNatClampNeg = 0 by decide, wC_pJo (by unfold inR; omega), wM_pJo (by omega)]
    have hg := fun (G : Int32 → Option (Int32 × Mem)) => J_gA (G := G) (J_y (J_go h9 (k2.up (by omega)) a2 rfl a3 a4 b2 b3) y (by show mZ S ≤ _; omega) (by show mQ S ≤ _; omega)) hL
    have hM : ∀ {G : Int32 → Mem → Option (Int32 × Mem)} (V2 : Vw) (U2 : Uw) (Y : Option (Int32 × Mem)), bd (cal (wC (wM (pJ S (C + 103) 0 (sp_lamp K s m (xs (i + 2))).toInt64) (C + 71) V2 U2) C V1 Uc D1) 8 (C + 71) Y) G = bd Y G := fun V2 U2 Y => cal_r (S := wC (wM (pJ S (C + 103) 0 (sp_lamp K s m (xs (i + 2))).toInt64) (C + 71) V2 U2) C V1 Uc D1) h1.2.1.1
    unfold br_4 f_L_law_431 f_L_law_1084
    simp (disch := omega) only [nI_la, J_gA h9 hL, el, ↓bd_r]
    simp (disch := omega) only [hg, hM, b1', thr _ V1 Uc D1 V2 U2 g.1.2.1, ↓bd_r, b4, ↓reduceIte]
    rw [gAJ_k (S := wC (wM (pJ S (C + 103) 0 (sp_lamp K s m (xs (i + 2))).toInt64) (C + 71) V2 U2) C V1 Uc D1) (show mK S (C + 103) = 11 from h1.2.2.1) (show mN S (C + 103) = 1 from h1.2.2.2) (by decide), show (0 : Int32).toNatClampNeg = 0 by decide]
    have ev : mJ (wC (wM (pJ S (C + 103) 0 (sp_lamp K s m (xs (i + 2))).toInt64) (C + 71) V2 U2) C V1 Uc D1) (C + 103) 0 = (sp_lamp K s m (xs (i + 2))).toInt64 := by
      rw [wC_outJ (by unfold inR; omega), wM_outJ (by omega)]
      exact u2_eq ⟨rfl, rfl⟩
    rw [ev, er, if_pos ((lg_cmp_eq _ _).mpr rfl)]
  · have hx0 : (inr (xs (i + 1)) 0 9999 && inr (xs (i + 2)) 0 2) = false := by simpa using hx
    have y := pNew_y (S := S) (C := C) (kd := 15) (n := 6)
    have g := JS_y ⟨h1, h2, h3, h4.1⟩ y
    obtain ⟨V2, U2, r, b1', b2, b3, b4, b5⟩ := ma_lamp (x := xs (i + 1)) (y := xs (i + 2)) (F := F) (S := wC (pNew S 15 6) C Vc Uc Dc) (V := Vm) (U := Um) (shM_wC g.1.2.1) hF k1 k6 k7 k2 (by omega)
    rw [← wCM, ← wCM] at b1'
    rw [hx0] at b4
    have b4 : V2 0 0 = 1 := b4
    have hJ := J_y (J_go h9 (k2.up (by omega)) ck.rf rfl dk.rf k5 b2 b3) y (by show mZ S + 1 ≤ _; omega) (by show mQ S + 6 ≤ _; omega)
    refine ⟨pNew S 15 6, Vc, Uc, Dc, V2, U2, X, K, s, lm, ?_, hJ⟩
    have ep : pNew (JM S C Vc Uc Dc Vm Um) 15 6 = JM (pNew S 15 6) C Vc Uc Dc Vm Um := by
      show pNew (wC (wM S (C + 71) Vm Um) C Vc Uc Dc) 15 6 = _
      have hz := h4.1
      rw [wC_pNew (S := wM S (C + 71) Vm Um) (show ¬ inR C (mZ S) by unfold inR; omega), wM_pNew (by omega)]
    have ef : fx_X8_lamp F C (xs (i + 1)) (xs (i + 2)) (JM S C Vc Uc Dc Vm Um) = some ((), JM (pNew S 15 6) C Vc Uc Dc Vm Um) := by
      unfold fx_X8_lamp
      rw [c_within, bd_r]
      cases q1 : inr (xs (i + 1)) 0 9999 with
      | false => rw [if_pos (show b1 false = 0 from rfl), ep]
      | true =>
        rw [q1, Bool.true_and] at hx0
        rw [if_neg (show ¬ b1 true = 0 by decide), c_within, bd_r, hx0, if_pos (show b1 false = 0 from rfl), ep]
    have el : fn_L_lamp F C (xs (i + 1)) (xs (i + 2)) (C + 103) (JM S C Vc Uc Dc Vm Um) = some (1, JM (pNew S 15 6) C Vc Uc Dc Vm Um) := by
      unfold fn_L_lamp
      rw [ef]
      show (bd (cal (JM S C Vc Uc Dc Vm Um) 7 C (some ((), JM (pNew S 15 6) C Vc Uc Dc Vm Um))) fun _ S1 => some (1, S1)) = _
      rw [J_calC h9, bd_r]
    have hg := fun (G : Int32 → Option (Int32 × Mem)) => J_gA (G := G) hJ hL
    have hM : ∀ {G : Int32 → Mem → Option (Int32 × Mem)} (V2 : Vw) (U2 : Uw) (Y : Option (Int32 × Mem)), bd (cal (wC (wM (pNew S 15 6) (C + 71) V2 U2) C Vc Uc Dc) 8 (C + 71) Y) G = bd Y G := fun V2 U2 Y => cal_r (S := wC (wM (pNew S 15 6) (C + 71) V2 U2) C Vc Uc Dc) g.1.2.1.1
    unfold br_4 f_L_law_431 f_L_law_1084
    simp (disch := omega) only [nI_la, J_gA h9 hL, el, ↓bd_r]
    simp (disch := omega) only [hg, hM, b1', thr _ Vc Uc Dc V2 U2 g.1.2.1, ↓bd_r, b4, ↓reduceIte]
    rfl
