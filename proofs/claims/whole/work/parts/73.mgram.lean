/-! the model's turns follow the grammar of E -/
def Rn (X : Tp) (law : Nat) : List Int32 → RS → RS → Prop
  | [], s, s' => s = s'
  | c :: cs, s, s' => ∃ s1, rStep X law s = .inr (c, s1) ∧ Rn X law cs s1 s'
theorem Rn.app {X : Tp} {law : Nat} : ∀ {cs cs' : List Int32} {s s1 s2 : RS}, Rn X law cs s s1 → Rn X law cs' s1 s2 → Rn X law (cs ++ cs') s s2
  | [], cs', s, s1, s2, a, b => by
    have a : s = s1 := a
    subst a
    exact b
  | c :: cs, cs', s, s1, s2, ⟨s9, a1, a2⟩, b => ⟨s9, a1, Rn.app a2 b⟩
def Bad (X : Tp) (law : Nat) (s : RS) (k : Nat) : Prop := ∃ cs s1, Rn X law cs s s1 ∧ rStep X law s1 = .inl k
theorem Bad.pre {X : Tp} {law k : Nat} {cs : List Int32} {s s1 : RS} (a : Rn X law cs s s1) (b : Bad X law s1 k) : Bad X law s k := by
  obtain ⟨cs', s2, b1, b2⟩ := b
  exact ⟨cs ++ cs', s2, a.app b1, b2⟩
def wkL (val : Nat → Int32) : List Int32 → Nat → Vw → Option (Nat × Vw)
  | [], d, V => some (d, V)
  | c :: cs, d, V => (stepW val c d V).bind fun q => wkL val cs q.1 q.2
theorem wkL_app {val : Nat → Int32} : ∀ (cs cs' : List Int32) (d : Nat) (V : Vw), wkL val (cs ++ cs') d V = (wkL val cs d V).bind fun q => wkL val cs' q.1 q.2
  | [], cs', d, V => rfl
  | c :: cs, cs', d, V => by
    show (stepW val c d V).bind _ = ((stepW val c d V).bind _).bind _
    cases stepW val c d V with
    | none => rfl
    | some q => exact wkL_app cs cs' q.1 q.2
def layL (cd : Nat → Int32) : Nat → List Int32 → Prop
  | _, [] => True
  | a, c :: cs => cd a = c ∧ layL cd (a + 1) cs
theorem wkL_run {cd val : Nat → Int32} : ∀ (cs : List Int32) (a d : Nat) (V : Vw), layL cd a cs → wkRun cd val cs.length a d V = wkL val cs d V := by
  intro cs
  induction cs with
  | nil => exact fun a d V _ => rfl
  | cons c cs ih =>
    intro a d V hl
    rw [List.length_cons]
    unfold wkRun wkL
    rw [hl.1]
    congr 1
    funext q
    exact ih (a + 1) q.1 q.2 hl.2
theorem layL.cg {cd cd' : Nat → Int32} : ∀ (cs : List Int32) (a : Nat), (∀ i, a ≤ i → i < a + cs.length → cd' i = cd i) → layL cd a cs → layL cd' a cs := by
  intro cs
  induction cs with
  | nil => exact fun _ _ _ => trivial
  | cons c cs ih =>
    intro a e hl
    rw [List.length_cons] at e
    exact ⟨by rw [e a (by omega) (by omega)]; exact hl.1, ih (a + 1) (fun i h1 h2 => e i (by omega) (by omega)) hl.2⟩
/-! what stretches of codes do -/
def nnL (d : Nat) (V : Vw) : Prop := d = 0 ∨ ¬ V 22 d = 1
def sumV (V : Vw) (d : Nat) : Int32 := if V 19 d = 21 then V 18 d - V 20 d else V 18 d + V 20 d
def tstR (V : Vw) (d : Nat) : Int32 := joinV (V 15 d) (V 14 d) (cmpV (V 17 d) (V 16 d) (sumV V d))
def lowE (d : Nat) (V V' : Vw) : Prop := ∀ j k, k < d → V' j k = V j k
def EvP (d : Nat) (cs : List Int32) (f : Den) : Prop := ∀ val V, ∃ V', wkL val cs d V = some (dlv d V' (f val)) ∧ lowE (d + 1) V V'
def EvPr (d : Nat) (cs : List Int32) (f : Den) : Prop := ∀ val V, nnL d V → V 21 d = 0 → ∃ V', wkL val cs d V = some (d, V') ∧ V' 20 d = f val ∧ lowE d V V' ∧ ∀ j, j ≠ 20 → j ≠ 21 → V' j d = V j d
def EvSu (d : Nat) (cs : List Int32) (f : Den) : Prop := ∀ val V, nnL d V → V 18 d = 0 → V 19 d = 20 → V 21 d = 0 → ∃ V', wkL val cs d V = some (d, V') ∧ sumV V' d = f val ∧ lowE d V V' ∧ ∀ j, j < 18 ∨ 21 < j → V' j d = V j d
def EvTe (d : Nat) (cs : List Int32) (f : Den) : Prop := ∀ val V, nnL d V → V 17 d = 0 → V 18 d = 0 → V 19 d = 20 → V 21 d = 0 → ∃ V', wkL val cs d V = some (d, V') ∧ cmpV (V' 17 d) (V' 16 d) (sumV V' d) = f val ∧ lowE d V V' ∧ ∀ j, j < 16 ∨ 21 < j → V' j d = V j d
def EvTs (d : Nat) (cs : List Int32) (f : Den) : Prop := ∀ val V, nnL d V → V 15 d = 0 → V 17 d = 0 → V 18 d = 0 → V 19 d = 20 → V 21 d = 0 → ∃ V', wkL val cs d V = some (d, V') ∧ tstR V' d = f val ∧ lowE d V V' ∧ V' 22 d = V 22 d
theorem dlv_nn {d : Nat} {V : Vw} {v : Int32} (h : nnL d V) : dlv d V v = (d, u2 V 20 d (if V 21 d = 0 then v else V 20 d * v)) := by
  cases d with
  | zero => rfl
  | succ d =>
    unfold dlv
    rw [if_neg (h.elim (fun q => absurd q (by omega)) id)]
theorem nnL.cg {d : Nat} {V V' : Vw} (h : nnL d V) (e : V' 22 d = V 22 d) : nnL d V' := by
  rcases h with h | h
  · exact Or.inl h
  · exact Or.inr (by rw [e]; exact h)
theorem ev_pr0 {d : Nat} {cs : List Int32} {f : Den} (h : EvP d cs f) : EvPr d cs f := by
  intro val V hn h21
  obtain ⟨V', a, b⟩ := h val V
  have e21 := b 21 d (by omega)
  rw [dlv_nn (hn.cg (b 22 d (by omega))), e21, if_pos h21] at a
  exact ⟨_, a, u2_eq ⟨rfl, rfl⟩, fun j k hk => by rw [u2_ne (by omega)]; exact b j k (by omega), fun j h20 h21 => by rw [u2_ne (by omega)]; exact b j d (by omega)⟩
theorem st_22 {val : Nat → Int32} {d : Nat} {V : Vw} : stepW val 22 d V = some (d, u2 V 21 d 22) := by
  unfold stepW
  rw [if_neg (by decide), if_neg (by decide), if_pos rfl]
theorem wkL_c {val : Nat → Int32} {c : Int32} {cs : List Int32} {d : Nat} {V : Vw} : wkL val (c :: cs) d V = (stepW val c d V).bind fun q => wkL val cs q.1 q.2 := rfl
theorem ev_pr {d : Nat} {cs0 cs1 : List Int32} {f g : Den} (a : EvPr d cs0 f) (b : EvP d cs1 g) : EvPr d (cs0 ++ 22 :: cs1) (fun v => joinedF (nI 33) (f v) (g v)) := by
  intro val V hn h21
  obtain ⟨V1, a1, a2, a3, a4⟩ := a val V hn h21
  obtain ⟨V2, b1, b2⟩ := b val (u2 V1 21 d 22)
  have e22 : V2 22 d = V 22 d := by rw [b2 22 d (by omega), u2_ne (by omega), a4 22 (by omega) (by omega)]
  have e21 : V2 21 d = 22 := by rw [b2 21 d (by omega), u2_eq ⟨rfl, rfl⟩]
  have e20 : V2 20 d = f val := by rw [b2 20 d (by omega), u2_ne (by omega), a2]
  rw [dlv_nn (hn.cg e22), e21, if_neg (by decide), e20] at b1
  refine ⟨u2 V2 20 d (f val * g val), ?_, u2_eq ⟨rfl, rfl⟩, fun j k hk => by rw [u2_ne (by omega), b2 j k (by omega), u2_ne (by omega), a3 j k hk], fun j h20 h21 => by rw [u2_ne (by omega), b2 j d (by omega), u2_ne (by omega), a4 j h20 h21]⟩
  rw [wkL_app, a1, Option.bind_some, wkL_c, st_22]
  exact b1
theorem ev_su0 {d : Nat} {cs : List Int32} {f : Den} (h : EvPr d cs f) : EvSu d cs f := by
  intro val V hn h18 h19 h21
  obtain ⟨V', a, b, c, e⟩ := h val V hn h21
  refine ⟨V', a, ?_, c, fun j hj => e j (by omega) (by omega)⟩
  unfold sumV
  rw [e 19 (by omega) (by omega), e 18 (by omega) (by omega), h18, h19, if_neg (by decide), b, Int32.zero_add]
theorem st_20 {val : Nat → Int32} {d : Nat} {V : Vw} {c : Int32} (hc : c = 20 ∨ c = 21) : stepW val c d V = some (d, u2 (u2 (u2 V 18 d (sumV V d)) 21 d 0) 19 d c) := by
  unfold stepW
  rw [if_neg (by rcases hc with rfl | rfl <;> decide), if_pos hc]
  rfl
theorem ev_su {d op : Nat} {c : Int32} {cs0 cs1 : List Int32} {f g : Den} (hc : (c = 20 ∧ op = 31) ∨ (c = 21 ∧ op = 32)) (a : EvSu d cs0 f) (b : EvPr d cs1 g) : EvSu d (cs0 ++ c :: cs1) (fun v => joinedF (nI op) (f v) (g v)) := by
  intro val V hn h18 h19 h21
  obtain ⟨V1, a1, a2, a3, a4⟩ := a val V hn h18 h19 h21
  have e22 : u2 (u2 (u2 V1 18 d (sumV V1 d)) 21 d 0) 19 d c 22 d = V 22 d := by rw [u2_ne (by omega), u2_ne (by omega), u2_ne (by omega), a4 22 (by omega)]
  obtain ⟨V2, b1, b2, b3, b4⟩ := b val (u2 (u2 (u2 V1 18 d (sumV V1 d)) 21 d 0) 19 d c) (hn.cg e22) (by rw [u2_ne (by omega), u2_eq ⟨rfl, rfl⟩])
  refine ⟨V2, ?_, ?_, fun j k hk => by rw [b3 j k hk, u2_ne (by omega), u2_ne (by omega), u2_ne (by omega), a3 j k hk], fun j hj => by rw [b4 j (by omega) (by omega), u2_ne (by omega), u2_ne (by omega), u2_ne (by omega), a4 j hj]⟩
  · rw [wkL_app, a1]
    show (stepW val c d V1).bind _ = _
    rw [st_20 (hc.imp And.left And.left)]
    exact b1
  · unfold sumV
    rw [b4 19 (by omega) (by omega), b4 18 (by omega) (by omega), u2_eq ⟨rfl, rfl⟩, u2_ne (by omega), u2_ne (by omega), u2_eq ⟨rfl, rfl⟩, a2, b2]
    rcases hc with ⟨rfl, rfl⟩ | ⟨rfl, rfl⟩
    · rfl
    · rfl
theorem cmpV_0 {a s : Int32} : cmpV 0 a s = s := rfl
theorem ev_te0 {d : Nat} {cs : List Int32} {f : Den} (h : EvSu d cs f) : EvTe d cs f := by
  intro val V hn h17 h18 h19 h21
  obtain ⟨V', a, b, c, e⟩ := h val V hn h18 h19 h21
  refine ⟨V', a, ?_, c, fun j hj => e j (by omega)⟩
  rw [e 17 (by omega), h17, cmpV_0, b]
theorem st_24 {val : Nat → Int32} {d : Nat} {V : Vw} {c : Int32} (hc : c = 24 ∨ c = 25) : stepW val c d V = some (d, u2 (u2 (u2 (u2 (u2 (u2 V 18 d (sumV V d)) 21 d 0) 16 d (sumV V d)) 17 d c) 18 d 0) 19 d 20) := by
  unfold stepW
  rw [if_neg (by rcases hc with rfl | rfl <;> decide), if_neg (by rcases hc with rfl | rfl <;> decide), if_neg (by rcases hc with rfl | rfl <;> decide), if_pos hc]
  have e : sumsV d V 18 d = sumV V d := by unfold sumsV; rw [u2_ne (by omega), u2_eq ⟨rfl, rfl⟩]; rfl
  unfold eqsV
  rw [e]
  rfl
theorem ev_te {d op : Nat} {c : Int32} {cs0 cs1 : List Int32} {f g : Den} (hc : (c = 24 ∧ op = 29) ∨ (c = 25 ∧ op = 30)) (a : EvSu d cs0 f) (b : EvSu d cs1 g) : EvTe d (cs0 ++ c :: cs1) (fun v => joinedF (nI op) (f v) (g v)) := by
  intro val V hn h17 h18 h19 h21
  obtain ⟨V1, a1, a2, a3, a4⟩ := a val V hn h18 h19 h21
  have s1 := st_24 (val := val) (d := d) (V := V1) (c := c) (hc.imp And.left And.left)
  have w18 : u2 (u2 (u2 (u2 (u2 (u2 V1 18 d (sumV V1 d)) 21 d 0) 16 d (sumV V1 d)) 17 d c) 18 d 0) 19 d 20 18 d = 0 := by rw [u2_ne (by omega), u2_eq ⟨rfl, rfl⟩]
  have w19 : u2 (u2 (u2 (u2 (u2 (u2 V1 18 d (sumV V1 d)) 21 d 0) 16 d (sumV V1 d)) 17 d c) 18 d 0) 19 d 20 19 d = 20 := u2_eq ⟨rfl, rfl⟩
  have w21 : u2 (u2 (u2 (u2 (u2 (u2 V1 18 d (sumV V1 d)) 21 d 0) 16 d (sumV V1 d)) 17 d c) 18 d 0) 19 d 20 21 d = 0 := by rw [u2_ne (by omega), u2_ne (by omega), u2_ne (by omega), u2_ne (by omega), u2_eq ⟨rfl, rfl⟩]
  have w17 : u2 (u2 (u2 (u2 (u2 (u2 V1 18 d (sumV V1 d)) 21 d 0) 16 d (sumV V1 d)) 17 d c) 18 d 0) 19 d 20 17 d = c := by rw [u2_ne (by omega), u2_ne (by omega), u2_eq ⟨rfl, rfl⟩]
  have w16 : u2 (u2 (u2 (u2 (u2 (u2 V1 18 d (sumV V1 d)) 21 d 0) 16 d (sumV V1 d)) 17 d c) 18 d 0) 19 d 20 16 d = sumV V1 d := by rw [u2_ne (by omega), u2_ne (by omega), u2_ne (by omega), u2_eq ⟨rfl, rfl⟩]
  have wj : ∀ j, j < 16 ∨ 21 < j → u2 (u2 (u2 (u2 (u2 (u2 V1 18 d (sumV V1 d)) 21 d 0) 16 d (sumV V1 d)) 17 d c) 18 d 0) 19 d 20 j d = V1 j d := fun j hj => by rw [u2_ne (by omega), u2_ne (by omega), u2_ne (by omega), u2_ne (by omega), u2_ne (by omega), u2_ne (by omega)]
  have wl : lowE d V1 (u2 (u2 (u2 (u2 (u2 (u2 V1 18 d (sumV V1 d)) 21 d 0) 16 d (sumV V1 d)) 17 d c) 18 d 0) 19 d 20) := fun j k hk => by rw [u2_ne (by omega), u2_ne (by omega), u2_ne (by omega), u2_ne (by omega), u2_ne (by omega), u2_ne (by omega)]
  generalize u2 (u2 (u2 (u2 (u2 (u2 V1 18 d (sumV V1 d)) 21 d 0) 16 d (sumV V1 d)) 17 d c) 18 d 0) 19 d 20 = W at s1 w18 w19 w21 w17 w16 wj wl
  obtain ⟨V2, b1, b2, b3, b4⟩ := b val W (hn.cg (by rw [wj 22 (by omega), a4 22 (by omega)])) w18 w19 w21
  refine ⟨V2, ?_, ?_, fun j k hk => by rw [b3 j k hk, wl j k hk, a3 j k hk], fun j hj => by rw [b4 j (by omega), wj j hj, a4 j (by omega)]⟩
  · rw [wkL_app, a1]
    show (stepW val c d V1).bind _ = _
    rw [s1]
    exact b1
  · rw [b4 17 (by omega), b4 16 (by omega), w17, w16, a2, b2]
    rcases hc with ⟨rfl, rfl⟩ | ⟨rfl, rfl⟩
    · rfl
    · rfl
theorem ev_ts0 {d : Nat} {cs : List Int32} {f : Den} (h : EvTe d cs f) : EvTs d cs f := by
  intro val V hn h15 h17 h18 h19 h21
  obtain ⟨V', a, b, c, e⟩ := h val V hn h17 h18 h19 h21
  refine ⟨V', a, ?_, c, e 22 (by omega)⟩
  unfold tstR
  rw [e 15 (by omega), h15, b]
  rfl
theorem tsts_tst {d : Nat} {V : Vw} : testsV d V 14 d = tstR V d := by
  unfold testsV tstV
  rw [u2_ne (by omega), u2_ne (by omega), u2_ne (by omega), u2_eq ⟨rfl, rfl⟩]
  unfold sumsV tstR
  rw [u2_ne (by omega), u2_ne (by omega), u2_ne (by omega), u2_ne (by omega), u2_ne (by omega), u2_ne (by omega), u2_ne (by omega), u2_ne (by omega), u2_ne (by omega), u2_eq ⟨rfl, rfl⟩]
  rfl
theorem tsts_low {d j k : Nat} {V : Vw} (h : k ≠ d ∨ j < 14 ∨ 21 < j) : testsV d V j k = V j k := by
  unfold testsV tstV sumsV
  rw [u2_ne (by omega), u2_ne (by omega), u2_ne (by omega), u2_ne (by omega), u2_ne (by omega), u2_ne (by omega)]
theorem tsts_15 {d j : Nat} {V : Vw} (h : j = 15 ∨ j = 16) : testsV d V j d = V j d := by
  unfold testsV tstV sumsV
  rw [u2_ne (by omega), u2_ne (by omega), u2_ne (by omega), u2_ne (by omega), u2_ne (by omega), u2_ne (by omega)]
theorem tsts_17 {d : Nat} {V : Vw} : testsV d V 17 d = 0 ∧ testsV d V 18 d = 0 ∧ testsV d V 19 d = 20 ∧ testsV d V 21 d = 0 := by
  unfold testsV tstV
  refine ⟨?_, ?_, u2_eq ⟨rfl, rfl⟩, ?_⟩
  · rw [u2_ne (by omega), u2_ne (by omega), u2_eq ⟨rfl, rfl⟩]
  · rw [u2_ne (by omega), u2_eq ⟨rfl, rfl⟩]
  · rw [u2_ne (by omega), u2_ne (by omega), u2_ne (by omega), u2_ne (by omega)]
    unfold sumsV
    exact u2_eq ⟨rfl, rfl⟩
theorem st_26 {val : Nat → Int32} {d : Nat} {V : Vw} {c : Int32} (hc : c = 26 ∨ c = 27) : stepW val c d V = some (d, u2 (testsV d V) 15 d c) := by
  unfold stepW
  rw [if_neg (by rcases hc with rfl | rfl <;> decide), if_neg (by rcases hc with rfl | rfl <;> decide), if_neg (by rcases hc with rfl | rfl <;> decide), if_neg (by rcases hc with rfl | rfl <;> decide), if_pos hc]
theorem ev_ts {d op : Nat} {c : Int32} {cs0 cs1 : List Int32} {f g : Den} (hc : (c = 26 ∧ op = 18) ∨ (c = 27 ∧ op = 19)) (a : EvTs d cs0 f) (b : EvTe d cs1 g) : EvTs d (cs0 ++ c :: cs1) (fun v => joinedF (nI op) (f v) (g v)) := by
  intro val V hn h15 h17 h18 h19 h21
  obtain ⟨V1, a1, a2, a3, a4⟩ := a val V hn h15 h17 h18 h19 h21
  have q := tsts_17 (d := d) (V := V1)
  have e22 : u2 (testsV d V1) 15 d c 22 d = V 22 d := by rw [u2_ne (by omega), tsts_low (by omega), a4]
  obtain ⟨V2, b1, b2, b3, b4⟩ := b val (u2 (testsV d V1) 15 d c) (hn.cg e22) (by rw [u2_ne (by omega)]; exact q.1) (by rw [u2_ne (by omega)]; exact q.2.1) (by rw [u2_ne (by omega)]; exact q.2.2.1) (by rw [u2_ne (by omega)]; exact q.2.2.2)
  refine ⟨V2, ?_, ?_, fun j k hk => by rw [b3 j k hk, u2_ne (by omega), tsts_low (by omega), a3 j k hk], by rw [b4 22 (by omega), e22]⟩
  · rw [wkL_app, a1]
    show (stepW val c d V1).bind _ = _
    rw [st_26 (hc.imp And.left And.left)]
    exact b1
  · unfold tstR
    rw [b2, b4 15 (by omega), b4 14 (by omega), u2_eq ⟨rfl, rfl⟩, u2_ne (by omega), tsts_tst, a2]
    rcases hc with ⟨rfl, rfl⟩ | ⟨rfl, rfl⟩
    · rfl
    · rfl
/-- what the whole of E comes to -/
theorem ev_law {cs : List Int32} {f : Den} {cd : Nat → Int32} {a b : Nat} (h : EvTs 0 cs f) (hl : layL cd a cs) (hb : b = a + cs.length) : lawM cd a b f := by
  refine ⟨by omega, fun val V => ?_⟩
  obtain ⟨V', e1, e2, -, -⟩ := h val (opensV 0 V) (Or.inl rfl) (by unfold opensV; rw [u2_ne (by omega), u2_ne (by omega), u2_ne (by omega), u2_ne (by omega), u2_eq ⟨rfl, rfl⟩]) (by unfold opensV; rw [u2_ne (by omega), u2_ne (by omega), u2_ne (by omega), u2_eq ⟨rfl, rfl⟩]) (by unfold opensV; rw [u2_ne (by omega), u2_ne (by omega), u2_eq ⟨rfl, rfl⟩]) (by unfold opensV; rw [u2_ne (by omega), u2_eq ⟨rfl, rfl⟩]) (by unfold opensV; rw [u2_eq ⟨rfl, rfl⟩])
  refine ⟨0, V', ?_, by rw [tsts_tst]; exact e2⟩
  rw [show b - a = cs.length by omega, wkL_run cs a 0 _ hl, e1]
