/-! bits of small sets -/
theorem or_bitF : ∀ k : Fin 6, ∀ a : Fin 64, a.val < 2 ^ k.val → nI a.val ||| ((1 : Int32) <<< (nI k.val &&& 31)) = nI (a.val + 2 ^ k.val) := by decide +kernel
theorem or_bit {a k : Nat} (hk : k < 6) (ha : a < 2 ^ k) : nI a ||| ((1 : Int32) <<< (nI k &&& 31)) = nI (a + 2 ^ k) := by
  have h1 : 2 ^ k ≤ 2 ^ 5 := Nat.pow_le_pow_right (by decide) (by omega)
  exact or_bitF ⟨k, hk⟩ ⟨a, by omega⟩ ha
def bitsum (p : Nat → Bool) (n : Nat) : Nat := sumTo (fun k => if p k = true then 2 ^ k else 0) n
theorem bitsum_s (p : Nat → Bool) (n : Nat) : bitsum p (n + 1) = bitsum p n + if p n = true then 2 ^ n else 0 := rfl
theorem bitsum_lt (p : Nat → Bool) : ∀ n, bitsum p n < 2 ^ n
  | 0 => (by decide : 0 < 1)
  | n + 1 => by
    have := bitsum_lt p n
    rw [bitsum_s, Nat.pow_succ]
    split <;> omega
theorem lo_add {a c n k : Nat} (hk : k < n) : lo (a + 2 ^ n * c) k = lo a k := by
  unfold lo
  have e : 2 ^ n = 2 ^ k * (2 * 2 ^ (n - k - 1)) := by
    rw [← Nat.pow_succ', ← Nat.pow_add]; congr 1; omega
  rw [e, Nat.mul_assoc, Nat.add_mul_div_left _ _ (Nat.two_pow_pos k), Nat.mul_assoc]
  generalize 2 ^ (n - k - 1) * c = q
  have : (a / 2 ^ k + 2 * q) % 2 = a / 2 ^ k % 2 := by omega
  rw [this]
theorem lo_top {a n : Nat} {c : Bool} (ha : a < 2 ^ n) : lo (a + if c = true then 2 ^ n else 0) n = c := by
  unfold lo
  cases c with
  | true =>
    rw [if_pos rfl, Nat.add_div_right _ (Nat.two_pow_pos n), Nat.div_eq_of_lt ha]; rfl
  | false =>
    rw [if_neg (by decide), Nat.add_zero, Nat.div_eq_of_lt ha]; rfl
theorem lo_small {a k : Nat} (ha : a < 2 ^ k) : lo a k = false := by
  unfold lo
  rw [Nat.div_eq_of_lt ha]; rfl
theorem bitsum_lo (p : Nat → Bool) : ∀ n k, lo (bitsum p n) k = (decide (k < n) && p k)
  | 0, k => by
    have : bitsum p 0 < 2 ^ k := Nat.two_pow_pos k
    rw [lo_small this]; rfl
  | n + 1, k => by
    rw [bitsum_s]
    by_cases h1 : k < n
    · have h2 := bitsum_lo p n k
      rw [decide_eq_true h1] at h2
      rw [decide_eq_true (show k < n + 1 by omega), ← h2]
      cases p n with
      | true =>
        have h5 := lo_add (a := bitsum p n) (c := 1) h1
        rw [Nat.mul_one] at h5
        rw [if_pos rfl, h5]
      | false => rfl
    · by_cases h3 : k = n
      · subst h3
        rw [lo_top (bitsum_lt p k), decide_eq_true (Nat.lt_succ_self k)]; rfl
      · rw [decide_eq_false (show ¬ k < n + 1 by omega)]
        have h4 := bitsum_lt p (n + 1)
        rw [bitsum_s] at h4
        exact lo_small (Nat.lt_of_lt_of_le h4 (Nat.pow_le_pow_right (by decide) (by omega)))
/-! the class's count of bits -/
def bcF (x0 : Int32) : Int32 :=
  lt ((x0 - (((x0).toUInt32 >>> (((1 : Int32)).toUInt32 &&& Int32.toUInt32 31)).toInt32 &&& (1431655765 : Int32)))) fun v1 =>
  lt (((v1 &&& (858993459 : Int32)) + (((v1).toUInt32 >>> (((2 : Int32)).toUInt32 &&& Int32.toUInt32 31)).toInt32 &&& (858993459 : Int32)))) fun v2 =>
  lt (((v2 + ((v2).toUInt32 >>> (((4 : Int32)).toUInt32 &&& Int32.toUInt32 31)).toInt32) &&& (252645135 : Int32))) fun v3 =>
  lt ((v3 + ((v3).toUInt32 >>> (((8 : Int32)).toUInt32 &&& Int32.toUInt32 31)).toInt32)) fun v4 =>
  lt ((v4 + ((v4).toUInt32 >>> (((16 : Int32)).toUInt32 &&& Int32.toUInt32 31)).toInt32)) fun v5 => v5 &&& (63 : Int32)
theorem p_bitCount {F : Nat} {S : Mem} {x : Int32} : fn_J6_bitCount_0f7a4 F x S = some (bcF x, S) := rfl
def cntN (a l : Nat) : Nat := sumTo (fun k => if lo l k = true then 0 else if lo a k = true then 1 else 0) 6
theorem bc_F : ∀ a : Fin 64, ∀ l : Fin 64, bcF (nI a.val &&& (nI l.val ^^^ (-1 : Int32))) = nI (cntN a.val l.val) := by decide +kernel
theorem bc_and {a l : Nat} (ha : a < 64) (hl : l < 64) : bcF (nI a &&& (nI l ^^^ (-1 : Int32))) = nI (cntN a l) := bc_F ⟨a, ha⟩ ⟨l, hl⟩
theorem sumTo_more {f : Nat → Nat} {n : Nat} : ∀ m, (∀ k, n ≤ k → k < n + m → f k = 0) → sumTo f (n + m) = sumTo f n
  | 0, _ => rfl
  | m + 1, h => by
    show sumTo f (n + m) + f (n + m) = _
    rw [h (n + m) (by omega) (by omega), Nat.add_zero]
    exact sumTo_more m (fun k h1 h2 => h k h1 (by omega))
/-! the class: what the kites feel -/
def smk (K : SkyT) (w len : Nat → Nat) (i : Nat) : Nat := bitsum (fun k => !flyN K w len k) i
theorem smk_cnt {K : SkyT} (hw9 : wfK K) {l : Nat} {w len : Nat → Nat} : cntN (smk K w len (kN K)) l = slackN K l w len := by
  have hn := hw9.1.1
  unfold cntN slackN smk
  obtain ⟨m, hm⟩ : ∃ m, 6 = kN K + m := ⟨6 - kN K, by omega⟩
  rw [show sumTo (fun k => if lo l k = true then 0 else if lo (bitsum (fun k => !flyN K w len k) (kN K)) k = true then 1 else 0) 6 = sumTo (fun k => if lo l k = true then 0 else if lo (bitsum (fun k => !flyN K w len k) (kN K)) k = true then 1 else 0) (kN K + m) by rw [← hm], sumTo_more m (fun k h1 h2 => by
    rw [bitsum_lo, decide_eq_false (show ¬ k < kN K by omega)]; simp)]
  refine sumTo_congr (fun k hk => ?_)
  unfold slkN
  rw [bitsum_lo, decide_eq_true hk]
  cases flyN K w len k <;> simp
def felt (K : SkyT) (m b : Nat) (g : Int32) (len : Nat → Nat) (V : Vw) (D : Dw) : Prop := D 14 7 = b ∧ V 14 8 = nI m ∧ V 14 9 = g ∧ V 14 3 = nI (smk K (wR K m g) len (kN K)) ∧ ∀ k, k < kN K → V 18 k = nI (wR K m g (len k)) ∧ V 19 k = nI (pulN K (wR K m g) len k)
theorem c_feel {o b m : Nat} {g : Int32} {K : SkyT} {len : Nat → Nat} {F C : Nat} {S : Mem} {V0 : Vw} {U : Uw} {D0 : Dw} (h : shC S C) (ho : isN o) (hF : 1001 < F) (hw9 : wfK K) (hK : cSky S C b K) (hb : D0 o 0 = b) (hs : ∀ k, k < kN K → V0 (o + 1) k = nI (len k)) (hs4 : ∀ k, k < kN K → len k ≤ 40) :
    ∃ V', fn_X0_feel F (C + 14) (C + o) (nI m) g (wC S C V0 U D0) = some ((), wC S C V' U (u2 D0 14 7 b)) ∧ (∀ j, j < 14 ∨ j = 15 ∨ 19 < j → V' j = V0 j) ∧ felt K m b g len V' (u2 D0 14 7 b) := by
  have hn6 := hw9.1.1
  have ho7 : 28 ≤ o := by unfold isN at ho; omega
  have hn : mI S b 0 = nI (kN K) := hK.2.1.1
  have d147 : (u2 D0 14 7 b) 14 7 = b := u2_eq ⟨rfl, rfl⟩
  generalize hD : u2 D0 14 7 b = D at d147 ⊢
  have key : ∀ (d i f : Nat) (V : Vw), i + d = kN K → d < f → (∀ j, j < 14 ∨ j = 15 ∨ 19 < j → V j = V0 j) → (V 14 8 = nI m ∧ V 14 9 = g ∧ V 14 3 = nI (smk K (wR K m g) len i)) → (∀ k, k < i → V 18 k = nI (wR K m g (len k)) ∧ V 19 k = nI (pulN K (wR K m g) len k)) →
      ∃ V', fix3 (b_X0_feel_26 F) f (C + 14) (C + o) (nI i) (wC S C V U D) = some ((), wC S C V' U D) ∧ (∀ j, j < 14 ∨ j = 15 ∨ 19 < j → V' j = V0 j) ∧ felt K m b g len V' D := by
    intro d
    induction d with
    | zero =>
      intro i f V hi hf hV hA hP
      obtain ⟨f, rfl⟩ : ∃ f', f = f' + 1 := ⟨f - 1, by omega⟩
      obtain rfl : i = kN K := by omega
      refine ⟨V, ?_, hV, d147, hA.1, hA.2.1, hA.2.2, hP⟩
      show b_X0_feel_26 F (fix3 (b_X0_feel_26 F) f) (C + 14) (C + o) (nI (kN K)) (wC S C V U D) = _
      generalize fix3 (b_X0_feel_26 F) f = k4
      unfold b_X0_feel_26
      have e7 : ∀ {α : Type} (K' : Nat → Option α), (gR (wC S C V U D) 0 7 (C + 14)).bind K' = K' b := fun K' => by rw [← d147]; simp only [↓eC h]
      rw [e7, (eK hK.1).1, hn, if_pos (Int32.le_refl _)]
    | succ d ih =>
      intro i f V hi hf hV hA hP
      obtain ⟨f, rfl⟩ : ∃ f', f = f' + 1 := ⟨f - 1, by omega⟩
      have ih := fun V => ih (i + 1) f V (by omega) (by omega)
      show ∃ V', b_X0_feel_26 F (fix3 (b_X0_feel_26 F) f) (C + 14) (C + o) (nI i) (wC S C V U D) = _ ∧ _
      generalize fix3 (b_X0_feel_26 F) f = k4 at ih ⊢
      have h4 := hs4 i (by omega)
      have vl : V (o + 1) i = nI (len i) := by rw [hV (o + 1) (by omega)]; exact hs i (by omega)
      obtain ⟨V1, e1, f1⟩ := c_windAt (F := F) (V := V) (U := U) (D := D) (hh := len i) (m := m) (g := g) h hF hK
      have w1 : V1 (o + 1) i = nI (len i) := by rw [f1 (o + 1) (by omega) (by omega)]; exact vl
      generalize hX : u2 V1 18 i (nI (windN K (len i) m g)) = X
      have x18 : X 18 i = nI (windN K (len i) m g) := by rw [← hX, u2_eq ⟨rfl, rfl⟩]
      have xl : X (o + 1) i = nI (len i) := by rw [← hX, u2_ne (by omega)]; exact w1
      have hwm := (windN_ok K (len i) m g).1
      have e2 := c_pullOf (F := F) (C := C) (S := S) (V := X) (U := U) (D := D) (w := windN K (len i) m g) hw9 hK (show i < kN K by omega) h4 hwm
      have xf : ∀ j, j ≠ 16 → j ≠ 17 → j ≠ 18 → X j = V j := fun j a b c => by rw [← hX, u2_row c, f1 j a b]
      have x3 : X 14 3 = nI (smk K (wR K m g) len i) := by rw [xf 14 (by omega) (by omega) (by omega)]; exact hA.2.2
      have fin : ∀ (p q : Int32), p = nI (pulN K (wR K m g) len i) → q = nI (smk K (wR K m g) len (i + 1)) → ∃ V', k4 (C + 14) (C + o) (nI (i + 1)) (wC S C (u2 (u2 X 19 i p) 14 3 q) U D) = some ((), wC S C V' U D) ∧ (∀ j, j < 14 ∨ j = 15 ∨ 19 < j → V' j = V0 j) ∧ felt K m b g len V' D := by
        intro p q hp hq
        refine ih _ (fun j hj => ?_) ⟨?_, ?_, ?_⟩ (fun k hk => ?_)
        · rw [u2_row (by omega), u2_row (by omega), xf j (by omega) (by omega) (by omega), hV j hj]
        · rw [u2_ne (by omega), u2_row (by omega), xf 14 (by omega) (by omega) (by omega)]; exact hA.1
        · rw [u2_ne (by omega), u2_row (by omega), xf 14 (by omega) (by omega) (by omega)]; exact hA.2.1
        · rw [u2_eq ⟨rfl, rfl⟩]; exact hq
        · by_cases hki : k = i
          · subst hki
            refine ⟨?_, ?_⟩
            · rw [u2_row (by omega), u2_row (by omega)]; exact x18
            · rw [u2_row (by omega), u2_eq ⟨rfl, rfl⟩]; exact hp
          · have := hP k (by omega)
            refine ⟨?_, ?_⟩
            · rw [u2_row (by omega), u2_row (by omega), ← hX, u2_ne (by omega), f1 18 (by omega) (by omega)]; exact this.1
            · rw [u2_row (by omega), u2_ne (by omega), xf 19 (by omega) (by omega) (by omega)]; exact this.2
      unfold b_X0_feel_26 f_X0_feel_111 f_X0_feel_131
      simp (disch := first | assumption | exact inB_n (by omega) (by decide) | exact inB_l (by omega) (by decide) | exact inB_al (by omega) (by decide) | exact inB_la (by omega) (by decide) | exact inB_j (by assumption) (by omega) (by decide) | exact inB_e (by assumption) (by decide) | omega) only [↓eC h, ↓eN h ho, ↓eK hK.1, ↓bd_r, d147, hn, if_neg (show ¬ nI (kN K) ≤ nI i from nI_ge (by omega) (by omega)), vl, w1, hA.1, hA.2.1, e1, hX, xl, x18, e2, x3, ix_nI, ix_l, nI_al, nI_la, nI_lm, u2_ne, u2_eq]
      by_cases hc : 0 < len i ∧ needN K i ≤ windN K (len i) m g
      · have hfl : flyN K (wR K m g) len i = true := by
          unfold flyN wR
          rw [decide_eq_true hc.1, decide_eq_true hc.2]; rfl
        have hne : ¬ nI (pullN (kd K i) (li K i) (windN K (len i) m g)) = -1 := fun q => by
          have h9 := pullN_le (d := kd K i) (hw9.2 i (by omega)).2.2.2.1 hwm
          have := nI_pos (n := pullN (kd K i) (li K i) (windN K (len i) m g)) (by omega)
          rw [q] at this
          exact this (by decide)
        rw [if_pos hc, if_neg hne, if_neg hne]
        refine fin _ _ ?_ ?_
        · unfold pulN
          rw [hfl, if_pos rfl]; rfl
        · unfold smk
          rw [bitsum_s, hfl]
          show nI _ ||| 0 = nI (_ + 0)
          rw [Int32.or_zero, Nat.add_zero]
      · have hfl : flyN K (wR K m g) len i = false := by
          unfold flyN wR
          by_cases h1 : 0 < len i
          · rw [decide_eq_false (fun q => hc ⟨h1, q⟩), Bool.and_false]
          · rw [decide_eq_false h1, Bool.false_and]
        rw [if_neg hc, if_pos rfl, if_pos rfl]
        refine fin _ _ ?_ ?_
        · unfold pulN
          rw [hfl]; rfl
        · unfold smk
          rw [bitsum_s, hfl]
          show _ = nI (_ + 2 ^ i)
          exact or_bit (by omega) (bitsum_lt _ i)
  obtain ⟨V1, e1, f1, g1⟩ := key (kN K) 0 F (u2 (u2 (u2 V0 14 8 (nI m)) 14 9 g) 14 3 0) (by omega) (by omega) (fun j hj => by rw [u2_row (by omega), u2_row (by omega), u2_row (by omega)]) ⟨by simp (disch := omega) only [u2_ne, u2_eq], by simp (disch := omega) only [u2_ne, u2_eq], by rw [u2_eq ⟨rfl, rfl⟩]; rfl⟩ (fun k hk => by omega)
  refine ⟨V1, ?_, f1, g1⟩
  unfold fn_X0_feel
  simp (disch := first | assumption | exact inB_n (by omega) (by decide) | exact inB_l (by omega) (by decide) | exact inB_al (by omega) (by decide) | exact inB_la (by omega) (by decide) | exact inB_j (by assumption) (by omega) (by decide) | exact inB_e (by assumption) (by decide) | omega) only [↓eC h, ↓eN h ho, hb, hD]
  exact e1
/-! the class: where the lamp hangs -/
theorem c_lo {l k : Nat} (hl : l < 2 ^ 31) (hk : k < 6) : ((nI l >>> (nI k &&& 31)) &&& 1 = 0) ↔ lo l k = false := by
  rw [lo_nI hl hk]
  unfold lo
  constructor
  · intro q
    have : l / 2 ^ k % 2 = 0 := (nI_eq (b := 0) (by omega) (by decide)).mp q
    rw [this]; rfl
  · intro q
    have := of_decide_eq_false q
    have h2 : l / 2 ^ k % 2 = 0 := by omega
    rw [h2]; rfl
theorem c_pullFrom {o b l x : Nat} {K : SkyT} {p len : Nat → Nat} {F C : Nat} {S : Mem} {V : Vw} {U : Uw} {D : Dw} (h : shC S C) (ho : isN o) (hF : 7 < F) (hw9 : wfK K) (hK : cSky S C b K) (hb : D 14 7 = b) (hl : l < 64) (hs : ∀ k, k < kN K → V (o + 1) k = nI (len k)) (hs4 : ∀ k, k < kN K → len k ≤ 40) (hp : ∀ k, k < kN K → V 19 k = nI (p k)) (hx : x ≤ 40) :
    fn_X0_pullFrom F (C + 14) (C + o) (nI x) (nI l) (wC S C V U D) = some (nI (pulledP (kN K) (fun k => if lo l k = true then 0 else p k) len x), wC S C V U D) := by
  have hn6 := hw9.1.1
  have hn : mI S b 0 = nI (kN K) := hK.2.1.1
  have e7 : ∀ {α : Type} (K' : Nat → Option α), (gR (wC S C V U D) 0 7 (C + 14)).bind K' = K' b := fun K' => by rw [← hb]; simp only [↓eC h]
  have key : ∀ (d i f : Nat), i + d = kN K → d < f → fix6 (b_X0_pullFrom_6 F) f (C + 14) (C + o) (nI x) (nI l) (nI (pulledP i (fun k => if lo l k = true then 0 else p k) len x)) (nI i) (wC S C V U D) = some (nI (pulledP (kN K) (fun k => if lo l k = true then 0 else p k) len x), wC S C V U D) := by
    intro d
    induction d with
    | zero =>
      intro i f hi hf
      obtain ⟨f, rfl⟩ : ∃ f', f = f' + 1 := ⟨f - 1, by omega⟩
      obtain rfl : i = kN K := by omega
      show b_X0_pullFrom_6 F (fix6 (b_X0_pullFrom_6 F) f) (C + 14) (C + o) (nI x) (nI l) _ (nI (kN K)) (wC S C V U D) = _
      unfold b_X0_pullFrom_6
      rw [e7, (eK hK.1).1, hn, if_pos (Int32.le_refl _)]
    | succ d ih =>
      intro i f hi hf
      obtain ⟨f, rfl⟩ : ∃ f', f = f' + 1 := ⟨f - 1, by omega⟩
      have ih := ih (i + 1) f (by omega) (by omega)
      show b_X0_pullFrom_6 F (fix6 (b_X0_pullFrom_6 F) f) (C + 14) (C + o) (nI x) (nI l) _ (nI i) (wC S C V U D) = _
      generalize fix6 (b_X0_pullFrom_6 F) f = k6 at ih ⊢
      unfold b_X0_pullFrom_6 f_X0_pullFrom_50
      have h4 := hs4 i (by omega)
      rw [e7, (eK hK.1).1, hn, if_neg (show ¬ nI (kN K) ≤ nI i from nI_ge (by omega) (by omega))]
      have e : pulledP (i + 1) (fun k => if lo l k = true then 0 else p k) len x = pulledP i (fun k => if lo l k = true then 0 else p k) len x + (if x ≤ len i then (if lo l i = true then 0 else p i) else 0) := rfl
      rw [e] at ih
      cases hc : lo l i with
      | true =>
        rw [if_neg (fun q => by rw [(c_lo (by omega) (by omega)).mp q] at hc; cases hc), nI_1]
        rw [hc, if_pos rfl, ite_self, Nat.add_zero] at ih
        exact ih
      | false =>
        rw [if_pos ((c_lo (by omega) (by omega)).mpr hc)]
        rw [hc, if_neg (show ¬ false = true by decide)] at ih
        simp (disch := first | assumption | exact inB_n (by omega) (by decide) | exact inB_l (by omega) (by decide) | exact inB_al (by omega) (by decide) | exact inB_la (by omega) (by decide) | exact inB_j (by assumption) (by omega) (by decide) | exact inB_e (by assumption) (by decide) | omega) only [↓eC h, ↓eN h ho, ↓lt_r, hs i (by omega), hp i (by omega), ix_nI, ix_l, nI_al, nI_la, nI_lm, u2_ne, u2_eq, nI_leI, nI_ltI, nI_eq, le_ln, le_nl, lt_ln, lt_nl, eq_nl, eq_ln]
        by_cases hq : len i < x
        · rw [if_pos hq]
          rw [if_neg (by omega)] at ih
          exact ih
        · rw [if_neg hq, nI_add]
          rw [if_pos (by omega)] at ih
          exact ih
  exact key (kN K) 0 F (by omega) (by omega)
theorem rawG_spec {P : Nat → Nat} {wt : Nat} : ∀ r, (rawG P wt r = 0 ∨ wt ≤ P (rawG P wt r)) ∧ ∀ x, rawG P wt r < x → x ≤ r → P x < wt
  | 0 => ⟨Or.inl rfl, fun x h1 h2 => absurd h1 (by have : rawG P wt 0 = 0 := rfl; omega)⟩
  | r + 1 => by
    obtain ⟨h1, h2⟩ := rawG_spec (P := P) (wt := wt) r
    have e : rawG P wt (r + 1) = if P (r + 1) < wt then rawG P wt r else r + 1 := rfl
    rw [e]
    by_cases hc : P (r + 1) < wt
    · rw [if_pos hc]
      refine ⟨h1, fun x q1 q2 => ?_⟩
      by_cases hx : x = r + 1
      · rw [hx]; exact hc
      · exact h2 x q1 (by omega)
    · rw [if_neg hc]
      exact ⟨Or.inr (by omega), fun x q1 q2 => by omega⟩
/-- the greatest length of a kite by which the pulls come to the weight -/
def bestI (l : Nat) (P len : Nat → Nat) (wt : Nat) : Nat → Nat
  | 0 => 0
  | i + 1 => if len i ≤ bestI l P len wt i then bestI l P len wt i else if lo l i = true then bestI l P len wt i else if P (len i) < wt then bestI l P len wt i else len i
theorem best_raw {n l wt : Nat} {p len : Nat → Nat} (hwt : 0 < wt) (hs4 : ∀ k, k < n → len k ≤ 40) (hp : ∀ k, k < n → lo l k = true → p k = 0) : bestI l (pulledP n p len) len wt n = rawG (pulledP n p len) wt 40 := by
  obtain ⟨h1, h2⟩ := rawG_spec (P := pulledP n p len) (wt := wt) 40
  have h3 := rawG_le (P := pulledP n p len) (wt := wt) 40
  generalize hr : rawG (pulledP n p len) wt 40 = r at h1 h2 h3
  have up : ∀ i, i ≤ n → bestI l (pulledP n p len) len wt i ≤ r := by
    intro i
    induction i with
    | zero => intro _; exact Nat.zero_le r
    | succ i ih =>
      intro hi
      have ih := ih (by omega)
      have h4 := hs4 i (by omega)
      unfold bestI
      split
      · exact ih
      · split
        · exact ih
        · split
          · exact ih
          · rename_i q
            by_cases hq : len i ≤ r
            · exact hq
            · exact absurd (h2 (len i) (by omega) h4) q
  have down : r = 0 ∨ ∃ k, k < n ∧ lo l k = false ∧ len k = r := by
    by_cases h0 : r = 0
    · exact Or.inl h0
    · right
      have hw : wt ≤ pulledP n p len r := by omega
      by_cases hex : ∃ k, k < n ∧ lo l k = false ∧ len k = r
      · exact hex
      · exfalso
        have e : pulledP n p len r = pulledP n p len (r + 1) := sumTo_congr (fun k hk => by
          by_cases hk2 : lo l k = true
          · rw [hp k hk hk2, ite_self, ite_self]
          · have : len k ≠ r := fun q => hex ⟨k, hk, by simpa using hk2, q⟩
            by_cases h5 : r ≤ len k
            · rw [if_pos h5, if_pos (by omega)]
            · rw [if_neg h5, if_neg (by omega)])
        by_cases h40 : r = 40
        · have e0 : pulledP n p len (r + 1) = 0 := by
            have : pulledP n p len (r + 1) ≤ n * 0 := sumTo_le (fun k hk => by
              have := hs4 k hk
              rw [if_neg (by omega)]; exact Nat.le_refl 0)
            omega
          omega
        · have := h2 (r + 1) (by omega) (by omega)
          omega
  have mono : ∀ i, bestI l (pulledP n p len) len wt i ≤ bestI l (pulledP n p len) len wt (i + 1) := fun i => by
    rw [show bestI l (pulledP n p len) len wt (i + 1) = if len i ≤ bestI l (pulledP n p len) len wt i then bestI l (pulledP n p len) len wt i else if lo l i = true then bestI l (pulledP n p len) len wt i else if pulledP n p len (len i) < wt then bestI l (pulledP n p len) len wt i else len i from rfl]
    split
    · exact Nat.le_refl _
    · split
      · exact Nat.le_refl _
      · split
        · exact Nat.le_refl _
        · omega
  have mono2 : ∀ j i, bestI l (pulledP n p len) len wt i ≤ bestI l (pulledP n p len) len wt (i + j) := fun j => by
    induction j with
    | zero => exact fun i => Nat.le_refl _
    | succ j ih => exact fun i => Nat.le_trans (ih i) (mono (i + j))
  rcases down with h0 | ⟨k, hk, hl, he⟩
  · have := up n (Nat.le_refl n)
    omega
  · have h5 : r ≤ bestI l (pulledP n p len) len wt (k + 1) := by
      unfold bestI
      rw [hl]
      by_cases q : len k ≤ bestI l (pulledP n p len) len wt k
      · rw [if_pos q]; omega
      · rw [if_neg q, if_neg (by decide), if_neg (show ¬ pulledP n p len (len k) < wt from fun z => by rw [he] at z q; omega)]
        omega
    have h6 := mono2 (n - (k + 1)) (k + 1)
    rw [show k + 1 + (n - (k + 1)) = n by omega] at h6
    have h7 := up n (Nat.le_refl n)
    omega
theorem pl_if {K : SkyT} {l : Nat} {w len : Nat → Nat} : (fun k => if lo l k = true then 0 else pulN K w len k) = plN K l w len := rfl
theorem c_rawHeight {o b m l : Nat} {g : Int32} {K : SkyT} {len : Nat → Nat} {F C : Nat} {S : Mem} {V : Vw} {U : Uw} {D : Dw} (h : shC S C) (ho : isN o) (hF : 7 < F) (hw9 : wfK K) (hK : cSky S C b K) (hf : felt K m b g len V D) (hl : l < 64) (hs : ∀ k, k < kN K → V (o + 1) k = nI (len k)) (hs4 : ∀ k, k < kN K → len k ≤ 40) :
    fn_X0_rawHeight F (C + 14) (C + o) (nI l) (wC S C V U D) = some (nI (rawN K l (wR K m g) len), wC S C V U D) := by
  have hn6 := hw9.1.1
  have hn : mI S b 0 = nI (kN K) := hK.2.1.1
  have hW : mI S b 6 = nI (kW K) := hK.2.1.2.1
  have hW9 := hw9.1.2.1
  have e7 : ∀ {α : Type} (K' : Nat → Option α), (gR (wC S C V U D) 0 7 (C + 14)).bind K' = K' b := fun K' => by rw [← hf.1]; simp only [↓eC h]
  unfold fn_X0_rawHeight
  rw [e7, (eK hK.1).1, hW]
  by_cases h0 : kW K = 0
  · rw [h0, if_neg (by decide)]
    unfold rawN rawG
    rw [h0, if_neg (by omega)]
    rfl
  · rw [if_pos (show (0 : Int32) < nI (kW K) from nI_lt (a := 0) (by omega) (by omega))]
    have key : ∀ (d i f : Nat), i + d = kN K → d < f → fix5 (b_X0_rawHeight_18 F) f (C + 14) (C + o) (nI l) (nI (bestI l (pulledP (kN K) (plN K l (wR K m g) len) len) len (kW K) i)) (nI i) (wC S C V U D) = some (nI (bestI l (pulledP (kN K) (plN K l (wR K m g) len) len) len (kW K) (kN K)), wC S C V U D) := by
      intro d
      induction d with
      | zero =>
        intro i f hi hf2
        obtain ⟨f, rfl⟩ : ∃ f', f = f' + 1 := ⟨f - 1, by omega⟩
        obtain rfl : i = kN K := by omega
        show b_X0_rawHeight_18 F (fix5 (b_X0_rawHeight_18 F) f) (C + 14) (C + o) (nI l) _ (nI (kN K)) (wC S C V U D) = _
        unfold b_X0_rawHeight_18
        rw [e7, (eK hK.1).1, hn, if_pos (Int32.le_refl _)]
      | succ d ih =>
        intro i f hi hf2
        obtain ⟨f, rfl⟩ : ∃ f', f = f' + 1 := ⟨f - 1, by omega⟩
        have ih := ih (i + 1) f (by omega) (by omega)
        show b_X0_rawHeight_18 F (fix5 (b_X0_rawHeight_18 F) f) (C + 14) (C + o) (nI l) _ (nI i) (wC S C V U D) = _
        generalize fix5 (b_X0_rawHeight_18 F) f = k6 at ih ⊢
        have h4 := hs4 i (by omega)
        have pf := c_pullFrom (F := F) (V := V) (U := U) (D := D) (p := pulN K (wR K m g) len) h ho hF hw9 hK hf.1 hl hs hs4 (fun k hk => (hf.2.2.2.2 k hk).2) h4
        rw [pl_if] at pf
        rw [show bestI l (pulledP (kN K) (plN K l (wR K m g) len) len) len (kW K) (i + 1) = if len i ≤ bestI l (pulledP (kN K) (plN K l (wR K m g) len) len) len (kW K) i then bestI l (pulledP (kN K) (plN K l (wR K m g) len) len) len (kW K) i else if lo l i = true then bestI l (pulledP (kN K) (plN K l (wR K m g) len) len) len (kW K) i else if pulledP (kN K) (plN K l (wR K m g) len) len (len i) < kW K then bestI l (pulledP (kN K) (plN K l (wR K m g) len) len) len (kW K) i else len i from rfl] at ih
        have hpb : pulledP (kN K) (plN K l (wR K m g) len) len (len i) ≤ 2376 := by
          have : pulledP (kN K) (plN K l (wR K m g) len) len (len i) ≤ kN K * 396 := sumTo_le (fun k hk => by
            split
            · exact plN_le hw9 (wR_le K m g) hk
            · omega)
          omega
        have hbb : bestI l (pulledP (kN K) (plN K l (wR K m g) len) len) len (kW K) i ≤ 40 := by
          have : ∀ q, q ≤ i → bestI l (pulledP (kN K) (plN K l (wR K m g) len) len) len (kW K) q ≤ 40 := by
            intro q
            induction q with
            | zero => intro _; exact Nat.zero_le _
            | succ q ihq =>
              intro hq
              have h1 := ihq (by omega)
              have h2 := hs4 q (by omega)
              unfold bestI
              split
              · exact h1
              · split
                · exact h1
                · split
                  · exact h1
                  · exact h2
          exact this i (Nat.le_refl i)
        generalize bestI l (pulledP (kN K) (plN K l (wR K m g) len) len) len (kW K) i = bi at ih hbb ⊢
        generalize bestI l (pulledP (kN K) (plN K l (wR K m g) len) len) len (kW K) (kN K) = bn at ih ⊢
        generalize pulledP (kN K) (plN K l (wR K m g) len) len (len i) = pl at ih hpb pf
        unfold b_X0_rawHeight_18 f_X0_rawHeight_75
        rw [e7, (eK hK.1).1, hn, if_neg (show ¬ nI (kN K) ≤ nI i from nI_ge (by omega) (by omega))]
        simp (disch := first | assumption | exact inB_n (by omega) (by decide) | exact inB_l (by omega) (by decide) | exact inB_al (by omega) (by decide) | exact inB_la (by omega) (by decide) | exact inB_j (by assumption) (by omega) (by decide) | exact inB_e (by assumption) (by decide) | omega) only [↓eC h, ↓eN h ho, hs i (by omega), pf, ix_nI, ix_l, nI_al, nI_la, nI_lm, u2_ne, u2_eq, nI_leI]
        by_cases q1 : len i ≤ bi
        · rw [if_pos q1]
          rw [if_pos q1] at ih
          exact ih
        · rw [if_neg q1]
          rw [if_neg q1] at ih
          cases hc : lo l i with
          | true =>
            rw [if_neg (fun q => by rw [(c_lo (by omega) (by omega)).mp q] at hc; cases hc)]
            rw [hc, if_pos rfl] at ih
            exact ih
          | false =>
            rw [if_pos ((c_lo (by omega) (by omega)).mpr hc)]
            rw [hc, if_neg (by decide)] at ih
            rw [bd_r, e7, (eK hK.1).1, hW]
            by_cases q2 : pl < kW K
            · rw [if_pos (nI_lt q2 (by omega))]
              rw [if_pos q2] at ih
              exact ih
            · rw [if_neg (nI_nlt (by omega) (by omega))]
              rw [if_neg q2] at ih
              exact ih
    have := key (kN K) 0 F (by omega) (by omega)
    rw [best_raw (by omega) hs4 (fun k hk hq => by unfold plN; rw [hq]; rfl)] at this
    exact this
theorem mx_sub {a b : Nat} (ha : a < 2 ^ 30) (hb : b < 2 ^ 30) : mxI 0 (nI a - nI b) = nI (a - b) := by
  unfold mxI
  by_cases h3 : b < a
  · rw [pk_sub (by omega), if_pos (show (0 : Int32) < nI (a - b) from nI_lt (a := 0) (by omega) (by omega))]
  · have : a - b = 0 := by omega
    rw [this]
    by_cases h4 : a = b
    · subst h4; rw [pk_sub (Nat.le_refl a), Nat.sub_self]; rfl
    · have hn : nI a - nI b < 0 := pk_sneg (by omega) (by omega)
      rw [if_neg (fun q => absurd (Int32.lt_trans q hn) Int32.lt_irrefl)]
      rfl
theorem slackN_le {K : SkyT} {l : Nat} {w len : Nat → Nat} (hw9 : wfK K) : slackN K l w len ≤ 6 := by
  have hn6 := hw9.1.1
  have : slackN K l w len ≤ kN K * 1 := sumTo_le (fun k hk => by
    unfold slkN
    split
    · omega
    · split <;> omega)
  omega
theorem c_hang {o b m l : Nat} {g : Int32} {K : SkyT} {len : Nat → Nat} {F C : Nat} {S : Mem} {V : Vw} {U : Uw} {D : Dw} (h : shC S C) (ho : isN o) (hF : 7 < F) (hw9 : wfK K) (hK : cSky S C b K) (hf : felt K m b g len V D) (hl : l < 64) (hs : ∀ k, k < kN K → V (o + 1) k = nI (len k)) (hs4 : ∀ k, k < kN K → len k ≤ 40) :
    fn_X0_hang F (C + 14) (C + o) (nI l) (wC S C V U D) = some ((), wC S C (u2 (u2 V 14 4 (nI (rawN K l (wR K m g) len))) 14 5 (nI (highN K l (wR K m g) len))) U D) := by
  have hn6 := hw9.1.1
  have e1 := c_rawHeight (F := F) (U := U) h ho hF hw9 hK hf hl hs hs4
  have hr : rawN K l (wR K m g) len ≤ 40 := rawG_le 40
  have hsl := slackN_le (l := l) (w := wR K m g) (len := len) hw9
  have h6 : smk K (wR K m g) len (kN K) < 64 := by
    have h1 := bitsum_lt (fun k => !flyN K (wR K m g) len k) (kN K)
    have h2 : 2 ^ kN K ≤ 2 ^ 6 := Nat.pow_le_pow_right (by decide) hn6
    unfold smk
    omega
  unfold fn_X0_hang highN
  simp (disch := first | assumption | exact inB_n (by omega) (by decide) | exact inB_l (by omega) (by decide) | exact inB_al (by omega) (by decide) | exact inB_la (by omega) (by decide) | exact inB_j (by assumption) (by omega) (by decide) | exact inB_e (by assumption) (by decide) | omega) only [↓eC h, ↓bd_r, e1, p_bitCount, ix_nI, ix_l, nI_al, nI_la, nI_lm, u2_ne, u2_eq, hf.2.2.2.1, bc_and h6 hl, smk_cnt hw9, mx_sub (show rawN K l (wR K m g) len < 2 ^ 30 by omega) (show slackN K l (wR K m g) len < 2 ^ 30 by omega)]
/-! the class: where the lamp is -/
theorem c_lean {o b m l : Nat} {g : Int32} {K : SkyT} {len : Nat → Nat} {F C : Nat} {S : Mem} {V : Vw} {U : Uw} {D : Dw} (h : shC S C) (ho : isN o) (hF : 1001 < F) (hw9 : wfK K) (hK : cSky S C b K) (hf : felt K m b g len V D) (hl : l < 64) (hs : ∀ k, k < kN K → V (o + 1) k = nI (len k)) (hs4 : ∀ k, k < kN K → len k ≤ 40) (hr : V 14 4 = nI (rawN K l (wR K m g) len)) (hh : V 14 5 = nI (highN K l (wR K m g) len)) :
    ∃ V', fn_X0_lean F (C + 14) (C + o) (nI l) (wC S C V U D) = some ((), wC S C V' U D) ∧ (∀ j, j ≠ 14 → j ≠ 16 → j ≠ 17 → V' j = V j) ∧ (∀ j, j ≠ 6 → V' 14 j = V 14 j) ∧ V' 14 6 = nI (placeN K l (wR K m g) len) := by
  have hn6 := hw9.1.1
  have hn : mI S b 0 = nI (kN K) := hK.2.1.1
  have e7 : ∀ {α : Type} (K' : Nat → Option α), (gR (wC S C V U D) 0 7 (C + 14)).bind K' = K' b := fun K' => by rw [← hf.1]; simp only [↓eC h]
  have hr4 : rawN K l (wR K m g) len ≤ 40 := rawG_le 40
  have hp4 : ∀ k, k < kN K → plN K l (wR K m g) len k ≤ 396 := fun k hk => plN_le hw9 (wR_le K m g) hk
  obtain ⟨V1, e1, f1⟩ := c_windAt (F := F) (V := V) (U := U) (D := D) (hh := highN K l (wR K m g) len) (m := m) (g := g) h hF hK
  have fin : ∀ y : Nat, y ≤ 235224 → f_X0_lean_95 F (C + 14) (C + 14) (nI y) (wC S C V U D) = some ((), wC S C (u2 V1 14 6 (nI (y + wR K m g (highN K l (wR K m g) len) / 5))) U D) := by
    intro y hy
    unfold f_X0_lean_95
    have h9 := (windN_ok K (highN K l (wR K m g) len) m g).1
    have e5 : nI (windN K (highN K l (wR K m g) len) m g) / 5 = nI (windN K (highN K l (wR K m g) len) m g / 5) := pk_div (by omega) (d := 5) (by decide) (by decide)
    rw [e7]
    simp (disch := first | assumption | exact inB_n (by omega) (by decide) | exact inB_l (by omega) (by decide) | exact inB_al (by omega) (by decide) | exact inB_la (by omega) (by decide) | exact inB_j (by assumption) (by omega) (by decide) | exact inB_e (by assumption) (by decide) | omega) only [↓eC h, ↓bd_r, hh, hf.2.1, hf.2.2.1, e1, e5, nI_add]
    rfl
  have pb : ∀ i x, i ≤ kN K → pulledP i (plN K l (wR K m g) len) len x ≤ 2376 := fun i x hi => by
    have : pulledP i (plN K l (wR K m g) len) len x ≤ i * 396 := sumTo_le (fun k hk => by
      split
      · exact hp4 k (by omega)
      · omega)
    omega
  have mb : ∀ i x, i ≤ kN K → momP i (plN K l (wR K m g) len) len (wi K) x ≤ 235224 := fun i x hi => by
    have : momP i (plN K l (wR K m g) len) len (wi K) x ≤ i * 39204 := sumTo_le (fun k hk => by
      split
      · have : plN K l (wR K m g) len k * wi K k ≤ 396 * 99 := Nat.mul_le_mul (hp4 k (by omega)) (hw9.2 k (by omega)).2.1
        omega
      · omega)
    omega
  have key : ∀ (d i f : Nat), i + d = kN K → d < f → fix6 (b_X0_lean_8 F) f (C + 14) (C + o) (nI l) (nI (pulledP i (plN K l (wR K m g) len) len (rawN K l (wR K m g) len))) (nI (momP i (plN K l (wR K m g) len) len (wi K) (rawN K l (wR K m g) len))) (nI i) (wC S C V U D) = some ((), wC S C (u2 V1 14 6 (nI (placeN K l (wR K m g) len))) U D) := by
    intro d
    induction d with
    | zero =>
      intro i f hi hf2
      obtain ⟨f, rfl⟩ : ∃ f', f = f' + 1 := ⟨f - 1, by omega⟩
      obtain rfl : i = kN K := by omega
      show b_X0_lean_8 F (fix6 (b_X0_lean_8 F) f) (C + 14) (C + o) (nI l) _ _ (nI (kN K)) (wC S C V U D) = _
      have h1 := pb (kN K) (rawN K l (wR K m g) len) (Nat.le_refl _)
      have h2 := mb (kN K) (rawN K l (wR K m g) len) (Nat.le_refl _)
      unfold placeN
      generalize pulledP (kN K) (plN K l (wR K m g) len) len (rawN K l (wR K m g) len) = pa at h1 ⊢
      generalize momP (kN K) (plN K l (wR K m g) len) len (wi K) (rawN K l (wR K m g) len) = ma at h2 ⊢
      unfold b_X0_lean_8
      rw [e7, (eK hK.1).1, hn, if_pos (Int32.le_refl _)]
      by_cases h0 : pa = 0
      · subst h0
        rw [if_pos (show nI 0 ≤ 0 by decide), Nat.div_zero]
        exact fin 0 (by omega)
      · rw [if_neg (nI_nle (by omega) (by omega))]
        unfold nz
        have h3 : ma / pa ≤ ma := Nat.div_le_self _ _
        rw [if_neg (nI_ne0 (by omega) (by omega)), pk_div (by omega) (by omega) (by omega)]
        exact fin _ (by omega)
    | succ d ih =>
      intro i f hi hf2
      obtain ⟨f, rfl⟩ : ∃ f', f = f' + 1 := ⟨f - 1, by omega⟩
      have ih := ih (i + 1) f (by omega) (by omega)
      show b_X0_lean_8 F (fix6 (b_X0_lean_8 F) f) (C + 14) (C + o) (nI l) _ _ (nI i) (wC S C V U D) = _
      generalize fix6 (b_X0_lean_8 F) f = k6 at ih ⊢
      have h4 := hs4 i (by omega)
      rw [show pulledP (i + 1) (plN K l (wR K m g) len) len (rawN K l (wR K m g) len) = pulledP i (plN K l (wR K m g) len) len (rawN K l (wR K m g) len) + (if rawN K l (wR K m g) len ≤ len i then plN K l (wR K m g) len i else 0) from rfl, show momP (i + 1) (plN K l (wR K m g) len) len (wi K) (rawN K l (wR K m g) len) = momP i (plN K l (wR K m g) len) len (wi K) (rawN K l (wR K m g) len) + (if rawN K l (wR K m g) len ≤ len i then plN K l (wR K m g) len i * wi K i else 0) from rfl] at ih
      have hkk := (hK.2.2.1 i (by omega)).2.1
      have p19 := (hf.2.2.2.2 i (by omega)).2
      have epl : plN K l (wR K m g) len i = if lo l i = true then 0 else pulN K (wR K m g) len i := rfl
      unfold b_X0_lean_8 f_X0_lean_76
      rw [e7, (eK hK.1).1, hn, if_neg (show ¬ nI (kN K) ≤ nI i from nI_ge (by omega) (by omega))]
      cases hc : lo l i with
      | true =>
        rw [if_neg (fun q => by rw [(c_lo (by omega) (by omega)).mp q] at hc; cases hc), nI_1]
        rw [epl, hc, if_pos rfl, Nat.zero_mul, ite_self, Nat.add_zero, Nat.add_zero] at ih
        exact ih
      | false =>
        rw [if_pos ((c_lo (by omega) (by omega)).mpr hc)]
        rw [epl, hc, if_neg (show ¬ false = true by decide)] at ih
        simp (disch := first | assumption | exact inB_n (by omega) (by decide) | exact inB_l (by omega) (by decide) | exact inB_al (by omega) (by decide) | exact inB_la (by omega) (by decide) | exact inB_j (by assumption) (by omega) (by decide) | exact inB_e (by assumption) (by decide) | omega) only [↓eC h, ↓eN h ho, ↓eK hK.1, ↓lt_r, hf.1, hs i (by omega), p19, hr, hkk, pk_mul, ix_nI, ix_l, nI_al, nI_la, nI_lm, u2_ne, u2_eq, nI_leI, nI_ltI, nI_eq, le_ln, le_nl, lt_ln, lt_nl, eq_nl, eq_ln]
        by_cases hq : len i < rawN K l (wR K m g) len
        · rw [if_pos hq]
          rw [if_neg (by omega), if_neg (by omega)] at ih
          exact ih
        · rw [if_neg hq, nI_add, nI_add]
          rw [if_pos (by omega), if_pos (by omega)] at ih
          exact ih
  refine ⟨_, key (kN K) 0 F (by omega) (by omega), fun j h14 h16 h17 => by rw [u2_row h14, f1 j h16 h17], fun j h6 => by rw [u2_ne (Or.inr h6), f1 14 (by omega) (by omega)], u2_eq ⟨rfl, rfl⟩⟩
/-- the air has been looked at -/
def looked (K : SkyT) (m b l : Nat) (g : Int32) (len : Nat → Nat) (V : Vw) (D : Dw) : Prop := felt K m b g len V D ∧ V 14 4 = nI (rawN K l (wR K m g) len) ∧ V 14 5 = nI (highN K l (wR K m g) len) ∧ V 14 6 = nI (placeN K l (wR K m g) len)
theorem c_look {o b m l : Nat} {g : Int32} {K : SkyT} {len : Nat → Nat} {F C : Nat} {S : Mem} {V : Vw} {U : Uw} {D : Dw} (h : shC S C) (ho : isN o) (hF : 1001 < F) (hw9 : wfK K) (hK : cSky S C b K) (hb : D o 0 = b) (hl : l < 64) (hlo : V o 2 = nI l) (hs : ∀ k, k < kN K → V (o + 1) k = nI (len k)) (hs4 : ∀ k, k < kN K → len k ≤ 40) :
    ∃ V', fn_X0_look F (C + 14) (C + o) (nI m) g (wC S C V U D) = some ((), wC S C V' U (u2 D 14 7 b)) ∧ (∀ j, j < 14 ∨ j = 15 ∨ 19 < j → V' j = V j) ∧ looked K m b l g len V' (u2 D 14 7 b) := by
  have ho7 : 28 ≤ o := by unfold isN at ho; omega
  obtain ⟨V1, e1, f1, g1⟩ := c_feel (F := F) (U := U) (m := m) (g := g) h ho hF hw9 hK hb hs hs4
  have hs1 : ∀ k, k < kN K → V1 (o + 1) k = nI (len k) := by rw [f1 (o + 1) (by omega)]; exact hs
  have hl1 : V1 o 2 = nI l := by rw [f1 o (by omega)]; exact hlo
  have e2 := c_hang (F := F) (U := U) (l := l) h ho (by omega) hw9 hK g1 hl hs1 hs4
  generalize hX : u2 (u2 V1 14 4 (nI (rawN K l (wR K m g) len))) 14 5 (nI (highN K l (wR K m g) len)) = X at e2
  have xf : ∀ j, j ≠ 14 → X j = V1 j := fun j hj => by rw [← hX, u2_row hj, u2_row hj]
  have x4 : X 14 4 = nI (rawN K l (wR K m g) len) := by rw [← hX, u2_ne (by omega), u2_eq ⟨rfl, rfl⟩]
  have x5 : X 14 5 = nI (highN K l (wR K m g) len) := by rw [← hX, u2_eq ⟨rfl, rfl⟩]
  have xo : ∀ j, j ≠ 4 → j ≠ 5 → X 14 j = V1 14 j := fun j a b => by rw [← hX, u2_ne (Or.inr b), u2_ne (Or.inr a)]
  have gX : felt K m b g len X (u2 D 14 7 b) := by
    obtain ⟨a1, a2, a3, a4, a5⟩ := g1
    exact ⟨a1, (xo 8 (by omega) (by omega)).trans a2, (xo 9 (by omega) (by omega)).trans a3, (xo 3 (by omega) (by omega)).trans a4, by rw [xf 18 (by omega), xf 19 (by omega)]; exact a5⟩
  obtain ⟨V2, e3, f3, g3, p3⟩ := c_lean (F := F) (U := U) (l := l) h ho hF hw9 hK gX hl (by rw [xf (o + 1) (by omega)]; exact hs1) hs4 x4 x5
  refine ⟨V2, ?_, fun j hj => by rw [f3 j (by omega) (by omega) (by omega), xf j (by omega), f1 j hj], ⟨?_, (g3 4 (by omega)).trans x4, (g3 5 (by omega)).trans x5, p3⟩⟩
  · have xl : X o 2 = nI l := by rw [xf o (by omega)]; exact hl1
    unfold fn_X0_look
    simp (disch := first | assumption | exact inB_n (by omega) (by decide) | exact inB_l (by omega) (by decide) | exact inB_al (by omega) (by decide) | exact inB_la (by omega) (by decide) | exact inB_j (by assumption) (by omega) (by decide) | exact inB_e (by assumption) (by decide) | omega) only [↓eC h, ↓eN h ho, ↓bd_r, e1, hl1, e2, xl, e3]
  · obtain ⟨a1, a2, a3, a4, a5⟩ := gX
    exact ⟨a1, (g3 8 (by omega)).trans a2, (g3 9 (by omega)).trans a3, (g3 3 (by omega)).trans a4, by rw [f3 18 (by omega) (by omega) (by omega), f3 19 (by omega) (by omega) (by omega)]; exact a5⟩
