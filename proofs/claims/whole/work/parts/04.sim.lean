/-! locals as a dense list -/
def asc : Nat → List (Option Value) → List (Nat × Value)
  | _, [] => []
  | i, none :: l => asc (i + 1) l
  | i, some v :: l => (i, v) :: asc (i + 1) l
theorem asc_mem : ∀ (L : List (Option Value)) (i k : Nat) (v : Value), (k, v) ∈ asc i L ↔ ∃ j, k = i + j ∧ L[j]? = some (some v)
  | [], i, k, v => by simp [asc]
  | none :: l, i, k, v => by
    rw [show asc i (none :: l) = asc (i + 1) l from rfl, asc_mem l (i + 1) k v]
    constructor
    · rintro ⟨j, h1, h2⟩
      exact ⟨j + 1, by omega, by simpa using h2⟩
    · rintro ⟨j, h1, h2⟩
      cases j with
      | zero => simp at h2
      | succ j => exact ⟨j, by omega, by simpa using h2⟩
  | some x :: l, i, k, v => by
    rw [show asc i (some x :: l) = (i, x) :: asc (i + 1) l from rfl, List.mem_cons, asc_mem l (i + 1) k v]
    constructor
    · rintro (h | ⟨j, h1, h2⟩)
      · cases h; exact ⟨0, by omega, by simp⟩
      · exact ⟨j + 1, by omega, by simpa using h2⟩
    · rintro ⟨j, h1, h2⟩
      cases j with
      | zero =>
        left
        simp at h2
        rw [h1, h2]; rfl
      | succ j => exact Or.inr ⟨j, by omega, by simpa using h2⟩
def lHas (ls : Array Slot) (nL : Nat) (L : List (Option Value)) : Prop := lv_has ls nL (asc 0 L) ∧ L.length = nL
theorem lHas.at {ls : Array Slot} {nL : Nat} {L : List (Option Value)} (h : lHas ls nL L) {k : Nat} {v : Value} (hk : L[k]? = some (some v)) : ls[k]? = some (.val v) :=
  h.1.2.2 (k, v) ((asc_mem L 0 k v).mpr ⟨k, by omega, hk⟩)
def oc1 : Option Value → Bool
  | none => true
  | some v => v.category == 1
def prevOK (L : List (Option Value)) (i : Nat) : Bool := match i with
  | 0 => true
  | j + 1 => match L[j]? with
    | some o => oc1 o
    | none => true
theorem prevOK_spec {L : List (Option Value)} {i j : Nat} {v : Value} (h : prevOK L i = true) (hj : j + 1 = i) (hv : L[j]? = some (some v)) : v.category ≠ 2 := by
  subst hj
  simp [prevOK, hv, oc1] at h
  omega
theorem lHas_st1 {ls' : Array Slot} {nL : Nat} {L : List (Option Value)} {i : Nat} {v : Value} (hl : L.length = nL) (hp : prevOK L i = true)
    (h : lv_has ls' nL ((i, v) :: (asc 0 L).filter (fun q => !(q.1 == i) && !(q.1 + 1 == i && q.2.category == 2)))) : lHas ls' nL (L.set i (some v)) := by
  refine ⟨⟨h.1, h.2.1, fun q hq => ?_⟩, by simpa using hl⟩
  obtain ⟨k, x⟩ := q
  obtain ⟨j, h1, h2⟩ := (asc_mem _ 0 k x).mp hq
  have hkj : k = j := by omega
  subst hkj
  by_cases e : k = i
  · subst e
    have hlt : k < L.length := by
      have := (List.getElem?_eq_some_iff.mp h2).1
      simpa using this
    rw [List.getElem?_set_self hlt] at h2
    cases h2
    exact h.2.2 _ List.mem_cons_self
  · rw [List.getElem?_set_ne (Ne.symm e)] at h2
    refine h.2.2 (k, x) (List.mem_cons_of_mem _ (List.mem_filter.mpr ⟨(asc_mem L 0 k x).mpr ⟨k, by omega, h2⟩, ?_⟩))
    have hc : k + 1 = i → ¬ x.category = 2 := fun hk => prevOK_spec hp hk h2
    by_cases e2 : k + 1 = i
    · simp [e, hc e2]
    · simp [e, e2]
theorem lHas_st2 {ls' : Array Slot} {nL : Nat} {L : List (Option Value)} {i : Nat} {v : Value} (hl : L.length = nL) (hp : prevOK L i = true)
    (h : lv_has ls' nL ((i, v) :: (asc 0 L).filter (fun q => !(q.1 == i) && (!(q.1 == i + 1) && !(q.1 + 1 == i && q.2.category == 2))))) : lHas ls' nL ((L.set i (some v)).set (i + 1) none) := by
  refine ⟨⟨h.1, h.2.1, fun q hq => ?_⟩, by simpa using hl⟩
  obtain ⟨k, x⟩ := q
  obtain ⟨j, h1, h2⟩ := (asc_mem _ 0 k x).mp hq
  have hkj : k = j := by omega
  subst hkj
  by_cases e1 : k = i + 1
  · subst e1
    have hlt : i + 1 < (L.set i (some v)).length := by
      have := (List.getElem?_eq_some_iff.mp h2).1
      simpa using this
    rw [List.getElem?_set_self hlt] at h2
    cases h2
  · rw [List.getElem?_set_ne (Ne.symm e1)] at h2
    by_cases e : k = i
    · subst e
      have hlt : k < L.length := by
        have := (List.getElem?_eq_some_iff.mp h2).1
        simpa using this
      rw [List.getElem?_set_self hlt] at h2
      cases h2
      exact h.2.2 _ List.mem_cons_self
    · rw [List.getElem?_set_ne (Ne.symm e)] at h2
      refine h.2.2 (k, x) (List.mem_cons_of_mem _ (List.mem_filter.mpr ⟨(asc_mem L 0 k x).mpr ⟨k, by omega, h2⟩, ?_⟩))
      have hc : k + 1 = i → ¬ x.category = 2 := fun hk => prevOK_spec hp hk h2
      by_cases e2 : k + 1 = i
      · simp [e, e1, hc e2]
      · simp [e, e1, e2]
/-- fewer known locals -/
def leL : List (Option Value) → List (Option Value) → Prop
  | [], [] => True
  | none :: a, _ :: b => leL a b
  | some v :: a, x :: b => x = some v ∧ leL a b
  | _, _ => False
theorem leL_at : ∀ {A B : List (Option Value)}, leL A B → A.length = B.length ∧ ∀ (k : Nat) (v : Value), A[k]? = some (some v) → B[k]? = some (some v)
  | [], [], _ => ⟨rfl, fun _ _ h => h⟩
  | none :: a, y :: b, h => by
    obtain ⟨h1, h2⟩ := leL_at (A := a) (B := b) h
    refine ⟨by simp [h1], fun k v hk => ?_⟩
    cases k with
    | zero => simp at hk
    | succ k => simpa using h2 k v (by simpa using hk)
  | some w :: a, y :: b, h => by
    obtain ⟨h0, h⟩ := h
    obtain ⟨h1, h2⟩ := leL_at (A := a) (B := b) h
    refine ⟨by simp [h1], fun k v hk => ?_⟩
    cases k with
    | zero => rw [h0]; simpa using hk
    | succ k => simpa using h2 k v (by simpa using hk)
  | [], y :: b, h => h.elim
  | none :: a, [], h => h.elim
  | some w :: a, [], h => h.elim
theorem lHas.less {ls : Array Slot} {nL : Nat} {A B : List (Option Value)} (h : lHas ls nL B) (hl : leL A B) : lHas ls nL A := by
  obtain ⟨h1, h2⟩ := leL_at hl
  refine ⟨⟨h.1.1, h.1.2.1, fun q hq => ?_⟩, h1.trans h.2⟩
  obtain ⟨k, x⟩ := q
  obtain ⟨j, e, hj⟩ := (asc_mem A 0 k x).mp hq
  have hkj : k = j := by omega
  subst hkj
  exact h.at (h2 k x hj)
/-! the judgement -/
def tysL (cs : Nat → ClassId) : List (ClassId × FieldType) := [(cs 9, .byte), (cs 10, .int), (cs 11, .long), (cs 12, .boolean), (cs 13, .object RX2)]
def txT : String := "wind rule lamp haul tired gusts kite at lift least long plain box tail heavy deaf lazy not and or high minute gust pull lean "
def txN : String := "no such minute, or nothing such of the lamp"
def Nst (cs : Nat → ClassId) (U : State) : Prop := (∀ w ∈ lw_nest, va_Nw w U) ∧ vk_R "KiteLamp$Cutter" 19 txT (cs 20) U ∧ vk_R "KiteLamp" 118 txN (cs 21) U ∧ va_AO RX2 U
theorem Nst.warm {cs : Nat → ClassId} {s U : State} (h : Nst cs s) (hW : s.WarmedH U.vm) : Nst cs U := by
  refine ⟨?_, h.2.1.warm hW, h.2.2.1.warm hW, va_AO.moved hW.alike h.2.2.2⟩
  intro w hw
  have h1 := h.1 w hw
  have h2 := (List.mem_filter.mp hw).2
  cases w <;> first | exact va_Nw.warmM hW h1 | exact va_Nw.warmC hW h1 | exact va_Nw.warmD hW h1 | (simp at h2; done)
abbrev Cx : Type := Program × Launch × Env × Room × State × MethodId × Array Value × List Frame × Method × Code × Nat × va_G × (Nat → ClassId) × Nat × Nat × Nat × Nat × Nat
/-- the room of a method: frames and words of locals as said, cells and places as they are used -/
def roomOf (fr lo mc ms : Nat) : Room := { frames := fr, cells := mc, slots := ms, locals := lo }
def Ctx (Γ : Cx) (cc : ByteArray) (own : String) (fr lo : Nat) (ret : Option FieldType) (isI : Bool) : Prop := match Γ with
  | (p, _, _, R, s, m, args, _, meth, c, nL, D, cs, _, mc, ms, _, _) => p.tables.exec = Jvm.exec ∧ c.code = cc ∧ c.maxLocals = nL ∧ s.vm.findClass own = some m.cls ∧ (∀ w ∈ lw_g, w.before args s = true) ∧ va_K D vwCl (tysL cs) s ∧ meth.locks = false ∧ (∃ rc rs, R = roomOf fr lo rc rs ∧ mc ≤ rc ∧ ms ≤ rs) ∧ meth.sig.returnType = ret ∧ Nst cs s ∧ (isI = true → meth.name = "<init>")
def lOf (Γ : Cx) : Launch := Γ.2.1
def Pre (D : va_G) (cs : Nat → ClassId) (z : Nat) (S : Mem) (U : State) : Prop := hR D cs z U S U.heap ∧ va_K D vwCl (tysL cs) U ∧ Nst cs U
def Qo (D : va_G) (cs : Nat → ClassId) (z : Nat) (r : Option Value) (S' : Mem) : Array Value → State → Outcome → State → Prop := fun _ st o t => o = .returned r ∧ hR D cs z t S' t.heap ∧ va_F (fun q => z ≤ q) st t
def wsOf (y : MethodName) (bytes : ByteArray) (maxL : Nat) (ret : Option FieldType) : List Cond := .code y bytes maxL ret :: lw_g
/-- a method's contract at one start: from memory S with arguments av it returns r and leaves S' -/
def Con (l : Launch) (y : MethodName) (bytes : ByteArray) (maxL : Nat) (ret : Option FieldType) (fr lo : Nat) (av : List Value) (S : Mem) (r : Option Value) (S' : Mem) : Prop :=
  (Nonempty Cx → mZ S ≤ mZ S' ∧ mQ S ≤ mQ S') ∧ ∀ (D : va_G) (cs : Nat → ClassId) (z : Nat), Met l y (wsOf y bytes maxL ret) (roomOf fr lo (mZ S' - mZ S) (mQ S' - mQ S)) (va_Pc av (Pre D cs z S)) (Qo D cs z r S') (mZ S' - mZ S) (mQ S' - mQ S) (fun q => z ≤ q)
def Sim {α : Type} (cc : ByteArray) (own : String) (fr lo : Nat) (ret : Option FieldType) (isI : Bool) (Γ : Cx) (ι : α → Option Value) (X : Option (α × Mem)) (S : Mem) (pc : Nat) (L : List (Option Value)) (st : List Value) : Prop := match Γ with
  | (p, l, e, R, s, m, args, below, meth, c, nL, D, cs, z, mc, ms, z0, q0) => ∀ (r : α) (S' : Mem), X = some (r, S') → (mZ S ≤ mZ S' ∧ mQ S ≤ mQ S') ∧ (Ctx (p, l, e, R, s, m, args, below, meth, c, nL, D, cs, z, mc, ms, z0, q0) cc own fr lo ret isI → z0 + mc = mZ S' → q0 + ms = mQ S' → ∀ (H : Heap) (locs : List Loc) (ls : Array Slot) (cl sl : Nat), z0 + cl = mZ S → q0 + sl = mQ S → hR D cs z s S H → va_S (fun q => z ≤ q) s.heap H locs → lHas ls nL L →
      W p l e R s m args below meth c H locs cl sl (MQ below (Qo D cs z (ι r) S') args s mc ms (fun q => z ≤ q)) (F0 m pc ls st))
def rI (v : Int32) : Option Value := some (.int v)
def rJ (v : Int64) : Option Value := some (.long v)
def rA (v : Nat) : Option Value := some (.ref v)
def rV (_ : Unit) : Option Value := none
section ROWS
variable {α : Type} {Γ : Cx} {ι : α → Option Value} {cc : ByteArray} {own : String} {fr lo : Nat} {ret : Option FieldType} {isI : Bool} {X : Option (α × Mem)} {S : Mem} {pc : Nat} {L : List (Option Value)} {st : List Value}
theorem s_none {K : Prop} : Sim cc own fr lo ret isI Γ ι none S pc L st := by
  obtain ⟨p, l, e, R, s, m, args, below, meth, c, nL, D, cs, z, mc, ms, z0, q0⟩ := Γ
  intro r S' hX
  cases hX
theorem s_less {A : List (Option Value)} (k : Sim cc own fr lo ret isI Γ ι X S pc A st) (h : leL A L) : Sim cc own fr lo ret isI Γ ι X S pc L st := by
  obtain ⟨p, l, e, R, s, m, args, below, meth, c, nL, D, cs, z, mc, ms, z0, q0⟩ := Γ
  intro r S' hX
  have k := k r S' hX
  exact ⟨k.1, fun C hm hq H locs ls cl sl h1 h2 hr hS hL => k.2 C hm hq H locs ls cl sl h1 h2 hr hS (hL.less h)⟩
theorem s_ite {c : Prop} {A B : Option (α × Mem)} (inst : Decidable c) (h1 : c → Sim cc own fr lo ret isI Γ ι A S pc L st) (h2 : ¬ c → Sim cc own fr lo ret isI Γ ι B S pc L st) : Sim cc own fr lo ret isI Γ ι (@ite _ c inst A B) S pc L st := by
  by_cases h : c
  · rw [if_pos h]; exact h1 h
  · rw [if_neg h]; exact h2 h

theorem s_iadd {x y : Int32} (hd : decode cc pc = .ok (.iadd, 1))  (k : Sim cc own fr lo ret isI Γ ι X S (pc + 1) L (.int (x + y) :: st)) : Sim cc own fr lo ret isI Γ ι X S pc L (.int y :: .int x :: st) := by
  obtain ⟨p, l, e, R, s, m, args, below, meth, c, nL, D, cs, z, mc, ms, z0, q0⟩ := Γ
  intro r S' hX
  have k := k r S' hX
  refine ⟨k.1, fun C hm hq H locs ls cl sl h1 h2 hr hS hL => ?_⟩
  obtain ⟨hx, hb, hml, hown, hts, hK, hlk, ⟨rc, rs, rfl, hrc, hrs⟩, hret, hnw, hisI⟩ := id C
  exact lv_iadd hx hb hd (k.2 C hm hq H locs ls cl sl h1 h2 hr hS hL)
theorem s_isub {x y : Int32} (hd : decode cc pc = .ok (.isub, 1))  (k : Sim cc own fr lo ret isI Γ ι X S (pc + 1) L (.int (x - y) :: st)) : Sim cc own fr lo ret isI Γ ι X S pc L (.int y :: .int x :: st) := by
  obtain ⟨p, l, e, R, s, m, args, below, meth, c, nL, D, cs, z, mc, ms, z0, q0⟩ := Γ
  intro r S' hX
  have k := k r S' hX
  refine ⟨k.1, fun C hm hq H locs ls cl sl h1 h2 hr hS hL => ?_⟩
  obtain ⟨hx, hb, hml, hown, hts, hK, hlk, ⟨rc, rs, rfl, hrc, hrs⟩, hret, hnw, hisI⟩ := id C
  exact lv_isub hx hb hd (k.2 C hm hq H locs ls cl sl h1 h2 hr hS hL)
theorem s_imul {x y : Int32} (hd : decode cc pc = .ok (.imul, 1))  (k : Sim cc own fr lo ret isI Γ ι X S (pc + 1) L (.int (x * y) :: st)) : Sim cc own fr lo ret isI Γ ι X S pc L (.int y :: .int x :: st) := by
  obtain ⟨p, l, e, R, s, m, args, below, meth, c, nL, D, cs, z, mc, ms, z0, q0⟩ := Γ
  intro r S' hX
  have k := k r S' hX
  refine ⟨k.1, fun C hm hq H locs ls cl sl h1 h2 hr hS hL => ?_⟩
  obtain ⟨hx, hb, hml, hown, hts, hK, hlk, ⟨rc, rs, rfl, hrc, hrs⟩, hret, hnw, hisI⟩ := id C
  exact lv_imul hx hb hd (k.2 C hm hq H locs ls cl sl h1 h2 hr hS hL)
theorem s_iand {x y : Int32} (hd : decode cc pc = .ok (.iand, 1))  (k : Sim cc own fr lo ret isI Γ ι X S (pc + 1) L (.int (x &&& y) :: st)) : Sim cc own fr lo ret isI Γ ι X S pc L (.int y :: .int x :: st) := by
  obtain ⟨p, l, e, R, s, m, args, below, meth, c, nL, D, cs, z, mc, ms, z0, q0⟩ := Γ
  intro r S' hX
  have k := k r S' hX
  refine ⟨k.1, fun C hm hq H locs ls cl sl h1 h2 hr hS hL => ?_⟩
  obtain ⟨hx, hb, hml, hown, hts, hK, hlk, ⟨rc, rs, rfl, hrc, hrs⟩, hret, hnw, hisI⟩ := id C
  exact lv_iand hx hb hd (k.2 C hm hq H locs ls cl sl h1 h2 hr hS hL)
theorem s_ior {x y : Int32} (hd : decode cc pc = .ok (.ior, 1))  (k : Sim cc own fr lo ret isI Γ ι X S (pc + 1) L (.int (x ||| y) :: st)) : Sim cc own fr lo ret isI Γ ι X S pc L (.int y :: .int x :: st) := by
  obtain ⟨p, l, e, R, s, m, args, below, meth, c, nL, D, cs, z, mc, ms, z0, q0⟩ := Γ
  intro r S' hX
  have k := k r S' hX
  refine ⟨k.1, fun C hm hq H locs ls cl sl h1 h2 hr hS hL => ?_⟩
  obtain ⟨hx, hb, hml, hown, hts, hK, hlk, ⟨rc, rs, rfl, hrc, hrs⟩, hret, hnw, hisI⟩ := id C
  exact lv_ior hx hb hd (k.2 C hm hq H locs ls cl sl h1 h2 hr hS hL)
theorem s_ixor {x y : Int32} (hd : decode cc pc = .ok (.ixor, 1))  (k : Sim cc own fr lo ret isI Γ ι X S (pc + 1) L (.int (x ^^^ y) :: st)) : Sim cc own fr lo ret isI Γ ι X S pc L (.int y :: .int x :: st) := by
  obtain ⟨p, l, e, R, s, m, args, below, meth, c, nL, D, cs, z, mc, ms, z0, q0⟩ := Γ
  intro r S' hX
  have k := k r S' hX
  refine ⟨k.1, fun C hm hq H locs ls cl sl h1 h2 hr hS hL => ?_⟩
  obtain ⟨hx, hb, hml, hown, hts, hK, hlk, ⟨rc, rs, rfl, hrc, hrs⟩, hret, hnw, hisI⟩ := id C
  exact lv_ixor hx hb hd (k.2 C hm hq H locs ls cl sl h1 h2 hr hS hL)
theorem s_ishl {x y : Int32} (hd : decode cc pc = .ok (.ishl, 1))  (k : Sim cc own fr lo ret isI Γ ι X S (pc + 1) L (.int (x <<< (y &&& 31)) :: st)) : Sim cc own fr lo ret isI Γ ι X S pc L (.int y :: .int x :: st) := by
  obtain ⟨p, l, e, R, s, m, args, below, meth, c, nL, D, cs, z, mc, ms, z0, q0⟩ := Γ
  intro r S' hX
  have k := k r S' hX
  refine ⟨k.1, fun C hm hq H locs ls cl sl h1 h2 hr hS hL => ?_⟩
  obtain ⟨hx, hb, hml, hown, hts, hK, hlk, ⟨rc, rs, rfl, hrc, hrs⟩, hret, hnw, hisI⟩ := id C
  exact lv_ishl hx hb hd (k.2 C hm hq H locs ls cl sl h1 h2 hr hS hL)
theorem s_ishr {x y : Int32} (hd : decode cc pc = .ok (.ishr, 1))  (k : Sim cc own fr lo ret isI Γ ι X S (pc + 1) L (.int (x >>> (y &&& 31)) :: st)) : Sim cc own fr lo ret isI Γ ι X S pc L (.int y :: .int x :: st) := by
  obtain ⟨p, l, e, R, s, m, args, below, meth, c, nL, D, cs, z, mc, ms, z0, q0⟩ := Γ
  intro r S' hX
  have k := k r S' hX
  refine ⟨k.1, fun C hm hq H locs ls cl sl h1 h2 hr hS hL => ?_⟩
  obtain ⟨hx, hb, hml, hown, hts, hK, hlk, ⟨rc, rs, rfl, hrc, hrs⟩, hret, hnw, hisI⟩ := id C
  exact lv_ishr hx hb hd (k.2 C hm hq H locs ls cl sl h1 h2 hr hS hL)
theorem s_iushr {x y : Int32} (hd : decode cc pc = .ok (.iushr, 1))  (k : Sim cc own fr lo ret isI Γ ι X S (pc + 1) L (.int ((x.toUInt32 >>> (y.toUInt32 &&& Int32.toUInt32 31)).toInt32) :: st)) : Sim cc own fr lo ret isI Γ ι X S pc L (.int y :: .int x :: st) := by
  obtain ⟨p, l, e, R, s, m, args, below, meth, c, nL, D, cs, z, mc, ms, z0, q0⟩ := Γ
  intro r S' hX
  have k := k r S' hX
  refine ⟨k.1, fun C hm hq H locs ls cl sl h1 h2 hr hS hL => ?_⟩
  obtain ⟨hx, hb, hml, hown, hts, hK, hlk, ⟨rc, rs, rfl, hrc, hrs⟩, hret, hnw, hisI⟩ := id C
  exact lv_iushr hx hb hd rfl (k.2 C hm hq H locs ls cl sl h1 h2 hr hS hL)
theorem s_ladd {x y : Int64} (hd : decode cc pc = .ok (.ladd, 1))  (k : Sim cc own fr lo ret isI Γ ι X S (pc + 1) L (.long (x + y) :: st)) : Sim cc own fr lo ret isI Γ ι X S pc L (.long y :: .long x :: st) := by
  obtain ⟨p, l, e, R, s, m, args, below, meth, c, nL, D, cs, z, mc, ms, z0, q0⟩ := Γ
  intro r S' hX
  have k := k r S' hX
  refine ⟨k.1, fun C hm hq H locs ls cl sl h1 h2 hr hS hL => ?_⟩
  obtain ⟨hx, hb, hml, hown, hts, hK, hlk, ⟨rc, rs, rfl, hrc, hrs⟩, hret, hnw, hisI⟩ := id C
  exact lv_ladd hx hb hd (k.2 C hm hq H locs ls cl sl h1 h2 hr hS hL)
theorem s_lsub {x y : Int64} (hd : decode cc pc = .ok (.lsub, 1))  (k : Sim cc own fr lo ret isI Γ ι X S (pc + 1) L (.long (x - y) :: st)) : Sim cc own fr lo ret isI Γ ι X S pc L (.long y :: .long x :: st) := by
  obtain ⟨p, l, e, R, s, m, args, below, meth, c, nL, D, cs, z, mc, ms, z0, q0⟩ := Γ
  intro r S' hX
  have k := k r S' hX
  refine ⟨k.1, fun C hm hq H locs ls cl sl h1 h2 hr hS hL => ?_⟩
  obtain ⟨hx, hb, hml, hown, hts, hK, hlk, ⟨rc, rs, rfl, hrc, hrs⟩, hret, hnw, hisI⟩ := id C
  exact lv_lsub hx hb hd (k.2 C hm hq H locs ls cl sl h1 h2 hr hS hL)
theorem s_lmul {x y : Int64} (hd : decode cc pc = .ok (.lmul, 1))  (k : Sim cc own fr lo ret isI Γ ι X S (pc + 1) L (.long (x * y) :: st)) : Sim cc own fr lo ret isI Γ ι X S pc L (.long y :: .long x :: st) := by
  obtain ⟨p, l, e, R, s, m, args, below, meth, c, nL, D, cs, z, mc, ms, z0, q0⟩ := Γ
  intro r S' hX
  have k := k r S' hX
  refine ⟨k.1, fun C hm hq H locs ls cl sl h1 h2 hr hS hL => ?_⟩
  obtain ⟨hx, hb, hml, hown, hts, hK, hlk, ⟨rc, rs, rfl, hrc, hrs⟩, hret, hnw, hisI⟩ := id C
  exact lv_lmul hx hb hd (k.2 C hm hq H locs ls cl sl h1 h2 hr hS hL)
theorem s_land {x y : Int64} (hd : decode cc pc = .ok (.land, 1))  (k : Sim cc own fr lo ret isI Γ ι X S (pc + 1) L (.long (x &&& y) :: st)) : Sim cc own fr lo ret isI Γ ι X S pc L (.long y :: .long x :: st) := by
  obtain ⟨p, l, e, R, s, m, args, below, meth, c, nL, D, cs, z, mc, ms, z0, q0⟩ := Γ
  intro r S' hX
  have k := k r S' hX
  refine ⟨k.1, fun C hm hq H locs ls cl sl h1 h2 hr hS hL => ?_⟩
  obtain ⟨hx, hb, hml, hown, hts, hK, hlk, ⟨rc, rs, rfl, hrc, hrs⟩, hret, hnw, hisI⟩ := id C
  exact lv_land hx hb hd (k.2 C hm hq H locs ls cl sl h1 h2 hr hS hL)
theorem s_lor {x y : Int64} (hd : decode cc pc = .ok (.lor, 1))  (k : Sim cc own fr lo ret isI Γ ι X S (pc + 1) L (.long (x ||| y) :: st)) : Sim cc own fr lo ret isI Γ ι X S pc L (.long y :: .long x :: st) := by
  obtain ⟨p, l, e, R, s, m, args, below, meth, c, nL, D, cs, z, mc, ms, z0, q0⟩ := Γ
  intro r S' hX
  have k := k r S' hX
  refine ⟨k.1, fun C hm hq H locs ls cl sl h1 h2 hr hS hL => ?_⟩
  obtain ⟨hx, hb, hml, hown, hts, hK, hlk, ⟨rc, rs, rfl, hrc, hrs⟩, hret, hnw, hisI⟩ := id C
  exact lv_lor hx hb hd (k.2 C hm hq H locs ls cl sl h1 h2 hr hS hL)
theorem s_lxor {x y : Int64} (hd : decode cc pc = .ok (.lxor, 1))  (k : Sim cc own fr lo ret isI Γ ι X S (pc + 1) L (.long (x ^^^ y) :: st)) : Sim cc own fr lo ret isI Γ ι X S pc L (.long y :: .long x :: st) := by
  obtain ⟨p, l, e, R, s, m, args, below, meth, c, nL, D, cs, z, mc, ms, z0, q0⟩ := Γ
  intro r S' hX
  have k := k r S' hX
  refine ⟨k.1, fun C hm hq H locs ls cl sl h1 h2 hr hS hL => ?_⟩
  obtain ⟨hx, hb, hml, hown, hts, hK, hlk, ⟨rc, rs, rfl, hrc, hrs⟩, hret, hnw, hisI⟩ := id C
  exact lv_lxor hx hb hd (k.2 C hm hq H locs ls cl sl h1 h2 hr hS hL)
theorem s_lshl {x : Int64} {y : Int32} (hd : decode cc pc = .ok (.lshl, 1))  (k : Sim cc own fr lo ret isI Γ ι X S (pc + 1) L (.long (x <<< (y.toInt64 &&& 63)) :: st)) : Sim cc own fr lo ret isI Γ ι X S pc L (.int y :: .long x :: st) := by
  obtain ⟨p, l, e, R, s, m, args, below, meth, c, nL, D, cs, z, mc, ms, z0, q0⟩ := Γ
  intro r S' hX
  have k := k r S' hX
  refine ⟨k.1, fun C hm hq H locs ls cl sl h1 h2 hr hS hL => ?_⟩
  obtain ⟨hx, hb, hml, hown, hts, hK, hlk, ⟨rc, rs, rfl, hrc, hrs⟩, hret, hnw, hisI⟩ := id C
  exact lv_lshl hx hb hd rfl (k.2 C hm hq H locs ls cl sl h1 h2 hr hS hL)
theorem s_lshr {x : Int64} {y : Int32} (hd : decode cc pc = .ok (.lshr, 1))  (k : Sim cc own fr lo ret isI Γ ι X S (pc + 1) L (.long (x >>> (y.toInt64 &&& 63)) :: st)) : Sim cc own fr lo ret isI Γ ι X S pc L (.int y :: .long x :: st) := by
  obtain ⟨p, l, e, R, s, m, args, below, meth, c, nL, D, cs, z, mc, ms, z0, q0⟩ := Γ
  intro r S' hX
  have k := k r S' hX
  refine ⟨k.1, fun C hm hq H locs ls cl sl h1 h2 hr hS hL => ?_⟩
  obtain ⟨hx, hb, hml, hown, hts, hK, hlk, ⟨rc, rs, rfl, hrc, hrs⟩, hret, hnw, hisI⟩ := id C
  exact lv_lshr hx hb hd rfl (k.2 C hm hq H locs ls cl sl h1 h2 hr hS hL)
theorem s_lushr {x : Int64} {y : Int32} (hd : decode cc pc = .ok (.lushr, 1))  (k : Sim cc own fr lo ret isI Γ ι X S (pc + 1) L (.long ((x.toUInt64 >>> (y.toInt64.toUInt64 &&& Int64.toUInt64 63)).toInt64) :: st)) : Sim cc own fr lo ret isI Γ ι X S pc L (.int y :: .long x :: st) := by
  obtain ⟨p, l, e, R, s, m, args, below, meth, c, nL, D, cs, z, mc, ms, z0, q0⟩ := Γ
  intro r S' hX
  have k := k r S' hX
  refine ⟨k.1, fun C hm hq H locs ls cl sl h1 h2 hr hS hL => ?_⟩
  obtain ⟨hx, hb, hml, hown, hts, hK, hlk, ⟨rc, rs, rfl, hrc, hrs⟩, hret, hnw, hisI⟩ := id C
  exact lv_lushr hx hb hd rfl (k.2 C hm hq H locs ls cl sl h1 h2 hr hS hL)
theorem s_ineg {x : Int32} (hd : decode cc pc = .ok (.ineg, 1))  (k : Sim cc own fr lo ret isI Γ ι X S (pc + 1) L (.int (-x) :: st)) : Sim cc own fr lo ret isI Γ ι X S pc L (.int x :: st) := by
  obtain ⟨p, l, e, R, s, m, args, below, meth, c, nL, D, cs, z, mc, ms, z0, q0⟩ := Γ
  intro r S' hX
  have k := k r S' hX
  refine ⟨k.1, fun C hm hq H locs ls cl sl h1 h2 hr hS hL => ?_⟩
  obtain ⟨hx, hb, hml, hown, hts, hK, hlk, ⟨rc, rs, rfl, hrc, hrs⟩, hret, hnw, hisI⟩ := id C
  exact lv_ineg hx hb hd (k.2 C hm hq H locs ls cl sl h1 h2 hr hS hL)
theorem s_i2l {x : Int32} (hd : decode cc pc = .ok (.i2l, 1))  (k : Sim cc own fr lo ret isI Γ ι X S (pc + 1) L (.long (x.toInt64) :: st)) : Sim cc own fr lo ret isI Γ ι X S pc L (.int x :: st) := by
  obtain ⟨p, l, e, R, s, m, args, below, meth, c, nL, D, cs, z, mc, ms, z0, q0⟩ := Γ
  intro r S' hX
  have k := k r S' hX
  refine ⟨k.1, fun C hm hq H locs ls cl sl h1 h2 hr hS hL => ?_⟩
  obtain ⟨hx, hb, hml, hown, hts, hK, hlk, ⟨rc, rs, rfl, hrc, hrs⟩, hret, hnw, hisI⟩ := id C
  exact lv_i2l hx hb hd rfl (k.2 C hm hq H locs ls cl sl h1 h2 hr hS hL)
theorem s_l2i {x : Int64} (hd : decode cc pc = .ok (.l2i, 1))  (k : Sim cc own fr lo ret isI Γ ι X S (pc + 1) L (.int (x.toInt32) :: st)) : Sim cc own fr lo ret isI Γ ι X S pc L (.long x :: st) := by
  obtain ⟨p, l, e, R, s, m, args, below, meth, c, nL, D, cs, z, mc, ms, z0, q0⟩ := Γ
  intro r S' hX
  have k := k r S' hX
  refine ⟨k.1, fun C hm hq H locs ls cl sl h1 h2 hr hS hL => ?_⟩
  obtain ⟨hx, hb, hml, hown, hts, hK, hlk, ⟨rc, rs, rfl, hrc, hrs⟩, hret, hnw, hisI⟩ := id C
  exact lv_l2i hx hb hd rfl (k.2 C hm hq H locs ls cl sl h1 h2 hr hS hL)
theorem s_i2b {x : Int32} (hd : decode cc pc = .ok (.i2b, 1))  (k : Sim cc own fr lo ret isI Γ ι X S (pc + 1) L (.int (x.toInt8.toInt32) :: st)) : Sim cc own fr lo ret isI Γ ι X S pc L (.int x :: st) := by
  obtain ⟨p, l, e, R, s, m, args, below, meth, c, nL, D, cs, z, mc, ms, z0, q0⟩ := Γ
  intro r S' hX
  have k := k r S' hX
  refine ⟨k.1, fun C hm hq H locs ls cl sl h1 h2 hr hS hL => ?_⟩
  obtain ⟨hx, hb, hml, hown, hts, hK, hlk, ⟨rc, rs, rfl, hrc, hrs⟩, hret, hnw, hisI⟩ := id C
  exact lv_i2b hx hb hd rfl (k.2 C hm hq H locs ls cl sl h1 h2 hr hS hL)
theorem s_i2c {x : Int32} (hd : decode cc pc = .ok (.i2c, 1))  (k : Sim cc own fr lo ret isI Γ ι X S (pc + 1) L (.int ((x.toUInt32 % 65536).toInt32) :: st)) : Sim cc own fr lo ret isI Γ ι X S pc L (.int x :: st) := by
  obtain ⟨p, l, e, R, s, m, args, below, meth, c, nL, D, cs, z, mc, ms, z0, q0⟩ := Γ
  intro r S' hX
  have k := k r S' hX
  refine ⟨k.1, fun C hm hq H locs ls cl sl h1 h2 hr hS hL => ?_⟩
  obtain ⟨hx, hb, hml, hown, hts, hK, hlk, ⟨rc, rs, rfl, hrc, hrs⟩, hret, hnw, hisI⟩ := id C
  exact lv_i2c hx hb hd rfl (k.2 C hm hq H locs ls cl sl h1 h2 hr hS hL)
theorem s_lcmp {x y : Int64} (hd : decode cc pc = .ok (.lcmp, 1))  (k : Sim cc own fr lo ret isI Γ ι X S (pc + 1) L (.int (lg_cmp x y) :: st)) : Sim cc own fr lo ret isI Γ ι X S pc L (.long y :: .long x :: st) := by
  obtain ⟨p, l, e, R, s, m, args, below, meth, c, nL, D, cs, z, mc, ms, z0, q0⟩ := Γ
  intro r S' hX
  have k := k r S' hX
  refine ⟨k.1, fun C hm hq H locs ls cl sl h1 h2 hr hS hL => ?_⟩
  obtain ⟨hx, hb, hml, hown, hts, hK, hlk, ⟨rc, rs, rfl, hrc, hrs⟩, hret, hnw, hisI⟩ := id C
  exact W.lcmp hx hb hd (k.2 C hm hq H locs ls cl sl h1 h2 hr hS hL)
theorem s_idivc {x y : Int32} (hd : decode cc pc = .ok (.idiv, 1)) (hy : ¬ y = 0) (k : Sim cc own fr lo ret isI Γ ι X S (pc + 1) L (.int (x / y) :: st)) : Sim cc own fr lo ret isI Γ ι X S pc L (.int y :: .int x :: st) := by
  obtain ⟨p, l, e, R, s, m, args, below, meth, c, nL, D, cs, z, mc, ms, z0, q0⟩ := Γ
  intro r S' hX
  have k := k r S' hX
  refine ⟨k.1, fun C hm hq H locs ls cl sl h1 h2 hr hS hL => ?_⟩
  obtain ⟨hx, hb, hml, hown, hts, hK, hlk, ⟨rc, rs, rfl, hrc, hrs⟩, hret, hnw, hisI⟩ := id C
  exact lv_idiv hx hb hd hy (k.2 C hm hq H locs ls cl sl h1 h2 hr hS hL)
theorem s_iremc {x y : Int32} (hd : decode cc pc = .ok (.irem, 1)) (hy : ¬ y = 0) (k : Sim cc own fr lo ret isI Γ ι X S (pc + 1) L (.int (x - x / y * y) :: st)) : Sim cc own fr lo ret isI Γ ι X S pc L (.int y :: .int x :: st) := by
  obtain ⟨p, l, e, R, s, m, args, below, meth, c, nL, D, cs, z, mc, ms, z0, q0⟩ := Γ
  intro r S' hX
  have k := k r S' hX
  refine ⟨k.1, fun C hm hq H locs ls cl sl h1 h2 hr hS hL => ?_⟩
  obtain ⟨hx, hb, hml, hown, hts, hK, hlk, ⟨rc, rs, rfl, hrc, hrs⟩, hret, hnw, hisI⟩ := id C
  exact lv_irem hx hb hd hy (k.2 C hm hq H locs ls cl sl h1 h2 hr hS hL)
theorem s_ldivc {x y : Int64} (hd : decode cc pc = .ok (.ldiv, 1)) (hy : ¬ y = 0) (k : Sim cc own fr lo ret isI Γ ι X S (pc + 1) L (.long (x / y) :: st)) : Sim cc own fr lo ret isI Γ ι X S pc L (.long y :: .long x :: st) := by
  obtain ⟨p, l, e, R, s, m, args, below, meth, c, nL, D, cs, z, mc, ms, z0, q0⟩ := Γ
  intro r S' hX
  have k := k r S' hX
  refine ⟨k.1, fun C hm hq H locs ls cl sl h1 h2 hr hS hL => ?_⟩
  obtain ⟨hx, hb, hml, hown, hts, hK, hlk, ⟨rc, rs, rfl, hrc, hrs⟩, hret, hnw, hisI⟩ := id C
  exact lv_ldiv hx hb hd hy (k.2 C hm hq H locs ls cl sl h1 h2 hr hS hL)
theorem s_lremc {x y : Int64} (hd : decode cc pc = .ok (.lrem, 1)) (hy : ¬ y = 0) (k : Sim cc own fr lo ret isI Γ ι X S (pc + 1) L (.long (x - x / y * y) :: st)) : Sim cc own fr lo ret isI Γ ι X S pc L (.long y :: .long x :: st) := by
  obtain ⟨p, l, e, R, s, m, args, below, meth, c, nL, D, cs, z, mc, ms, z0, q0⟩ := Γ
  intro r S' hX
  have k := k r S' hX
  refine ⟨k.1, fun C hm hq H locs ls cl sl h1 h2 hr hS hL => ?_⟩
  obtain ⟨hx, hb, hml, hown, hts, hK, hlk, ⟨rc, rs, rfl, hrc, hrs⟩, hret, hnw, hisI⟩ := id C
  exact lv_lrem hx hb hd hy (k.2 C hm hq H locs ls cl sl h1 h2 hr hS hL)
def nz {β : Type} (y : Int32) (X : Option β) : Option β := if y = 0 then none else X
def nzl {β : Type} (y : Int64) (X : Option β) : Option β := if y = 0 then none else X
theorem s_idiv {x y : Int32} (hd : decode cc pc = .ok (.idiv, 1)) (k : Sim cc own fr lo ret isI Γ ι X S (pc + 1) L (.int (x / y) :: st)) : Sim cc own fr lo ret isI Γ ι (nz y X) S pc L (.int y :: .int x :: st) := by
  unfold nz
  exact s_ite _ (fun _ => s_none (K := True)) (fun h => s_idivc hd h k)
theorem s_irem {x y : Int32} (hd : decode cc pc = .ok (.irem, 1)) (k : Sim cc own fr lo ret isI Γ ι X S (pc + 1) L (.int (x - x / y * y) :: st)) : Sim cc own fr lo ret isI Γ ι (nz y X) S pc L (.int y :: .int x :: st) := by
  unfold nz
  exact s_ite _ (fun _ => s_none (K := True)) (fun h => s_iremc hd h k)
theorem s_ldiv {x y : Int64} (hd : decode cc pc = .ok (.ldiv, 1)) (k : Sim cc own fr lo ret isI Γ ι X S (pc + 1) L (.long (x / y) :: st)) : Sim cc own fr lo ret isI Γ ι (nzl y X) S pc L (.long y :: .long x :: st) := by
  unfold nzl
  exact s_ite _ (fun _ => s_none (K := True)) (fun h => s_ldivc hd h k)
theorem s_lrem {x y : Int64} (hd : decode cc pc = .ok (.lrem, 1)) (k : Sim cc own fr lo ret isI Γ ι X S (pc + 1) L (.long (x - x / y * y) :: st)) : Sim cc own fr lo ret isI Γ ι (nzl y X) S pc L (.long y :: .long x :: st) := by
  unfold nzl
  exact s_ite _ (fun _ => s_none (K := True)) (fun h => s_lremc hd h k)
theorem s_iconst {n : Int} (v : Int32) (hd : decode cc pc = .ok (.iconst n, 1)) (hv : Int32.ofInt n = v) (k : Sim cc own fr lo ret isI Γ ι X S (pc + 1) L (.int v :: st)) : Sim cc own fr lo ret isI Γ ι X S pc L (st) := by
  obtain ⟨p, l, e, R, s, m, args, below, meth, c, nL, D, cs, z, mc, ms, z0, q0⟩ := Γ
  intro r S' hX
  have k := k r S' hX
  refine ⟨k.1, fun C hm hq H locs ls cl sl h1 h2 hr hS hL => ?_⟩
  obtain ⟨hx, hb, hml, hown, hts, hK, hlk, ⟨rc, rs, rfl, hrc, hrs⟩, hret, hnw, hisI⟩ := id C
  exact lv_iconst hx hb hd hv (k.2 C hm hq H locs ls cl sl h1 h2 hr hS hL)
theorem s_bipush {n : Int} (v : Int32) (hd : decode cc pc = .ok (.bipush n, 2)) (hv : (Int8.ofInt n).toInt32 = v) (k : Sim cc own fr lo ret isI Γ ι X S (pc + 2) L (.int v :: st)) : Sim cc own fr lo ret isI Γ ι X S pc L (st) := by
  obtain ⟨p, l, e, R, s, m, args, below, meth, c, nL, D, cs, z, mc, ms, z0, q0⟩ := Γ
  intro r S' hX
  have k := k r S' hX
  refine ⟨k.1, fun C hm hq H locs ls cl sl h1 h2 hr hS hL => ?_⟩
  obtain ⟨hx, hb, hml, hown, hts, hK, hlk, ⟨rc, rs, rfl, hrc, hrs⟩, hret, hnw, hisI⟩ := id C
  exact lv_bipush hx hb hd hv (k.2 C hm hq H locs ls cl sl h1 h2 hr hS hL)
theorem s_sipush {n : Int} (v : Int32) (hd : decode cc pc = .ok (.sipush n, 3)) (hv : (Int16.ofInt n).toInt32 = v) (k : Sim cc own fr lo ret isI Γ ι X S (pc + 3) L (.int v :: st)) : Sim cc own fr lo ret isI Γ ι X S pc L (st) := by
  obtain ⟨p, l, e, R, s, m, args, below, meth, c, nL, D, cs, z, mc, ms, z0, q0⟩ := Γ
  intro r S' hX
  have k := k r S' hX
  refine ⟨k.1, fun C hm hq H locs ls cl sl h1 h2 hr hS hL => ?_⟩
  obtain ⟨hx, hb, hml, hown, hts, hK, hlk, ⟨rc, rs, rfl, hrc, hrs⟩, hret, hnw, hisI⟩ := id C
  exact lv_sipush hx hb hd hv (k.2 C hm hq H locs ls cl sl h1 h2 hr hS hL)
theorem s_lconst {n : Fin 2} (v : Int64) (hd : decode cc pc = .ok (.lconst n, 1)) (hv : Int64.ofNat (n : Nat) = v) (k : Sim cc own fr lo ret isI Γ ι X S (pc + 1) L (.long v :: st)) : Sim cc own fr lo ret isI Γ ι X S pc L (st) := by
  obtain ⟨p, l, e, R, s, m, args, below, meth, c, nL, D, cs, z, mc, ms, z0, q0⟩ := Γ
  intro r S' hX
  have k := k r S' hX
  refine ⟨k.1, fun C hm hq H locs ls cl sl h1 h2 hr hS hL => ?_⟩
  obtain ⟨hx, hb, hml, hown, hts, hK, hlk, ⟨rc, rs, rfl, hrc, hrs⟩, hret, hnw, hisI⟩ := id C
  exact lv_lconst hx hb hd hv (k.2 C hm hq H locs ls cl sl h1 h2 hr hS hL)
theorem s_ldc {idx : Nat} {v : Int32} (hd : decode cc pc = .ok (.ldc idx, 2)) (hw : Cond.constant own idx v ∈ lw_g) (k : Sim cc own fr lo ret isI Γ ι X S (pc + 2) L (.int v :: st)) : Sim cc own fr lo ret isI Γ ι X S pc L (st) := by
  obtain ⟨p, l, e, R, s, m, args, below, meth, c, nL, D, cs, z, mc, ms, z0, q0⟩ := Γ
  intro r S' hX
  have k := k r S' hX
  refine ⟨k.1, fun C hm hq H locs ls cl sl h1 h2 hr hS hL => ?_⟩
  obtain ⟨hx, hb, hml, hown, hts, hK, hlk, ⟨rc, rs, rfl, hrc, hrs⟩, hret, hnw, hisI⟩ := id C
  exact lv_ldc hx hb hown (hts _ hw) hd (k.2 C hm hq H locs ls cl sl h1 h2 hr hS hL)
theorem s_ldcw {idx : Nat} {v : Int32} (hd : decode cc pc = .ok (.ldc_w idx, 3)) (hw : Cond.constant own idx v ∈ lw_g) (k : Sim cc own fr lo ret isI Γ ι X S (pc + 3) L (.int v :: st)) : Sim cc own fr lo ret isI Γ ι X S pc L (st) := by
  obtain ⟨p, l, e, R, s, m, args, below, meth, c, nL, D, cs, z, mc, ms, z0, q0⟩ := Γ
  intro r S' hX
  have k := k r S' hX
  refine ⟨k.1, fun C hm hq H locs ls cl sl h1 h2 hr hS hL => ?_⟩
  obtain ⟨hx, hb, hml, hown, hts, hK, hlk, ⟨rc, rs, rfl, hrc, hrs⟩, hret, hnw, hisI⟩ := id C
  exact lv_ldcw hx hb hown (hts _ hw) hd (k.2 C hm hq H locs ls cl sl h1 h2 hr hS hL)
theorem s_ldc2 {idx : Nat} {v : Int64} (hd : decode cc pc = .ok (.ldc2_w idx, 3)) (hw : Cond.constantLong own idx v ∈ lw_g) (k : Sim cc own fr lo ret isI Γ ι X S (pc + 3) L (.long v :: st)) : Sim cc own fr lo ret isI Γ ι X S pc L (st) := by
  obtain ⟨p, l, e, R, s, m, args, below, meth, c, nL, D, cs, z, mc, ms, z0, q0⟩ := Γ
  intro r S' hX
  have k := k r S' hX
  refine ⟨k.1, fun C hm hq H locs ls cl sl h1 h2 hr hS hL => ?_⟩
  obtain ⟨hx, hb, hml, hown, hts, hK, hlk, ⟨rc, rs, rfl, hrc, hrs⟩, hret, hnw, hisI⟩ := id C
  exact lv_ldc2 hx hb hown (hts _ hw) hd (k.2 C hm hq H locs ls cl sl h1 h2 hr hS hL)
theorem s_iload_n {j : Fin 4} (i : Nat) {x : Int32} (hd : decode cc pc = .ok (.iload_n j, 1)) (hi : (j : Nat) = i) (hl : L[i]? = some (some (.int x))) (k : Sim cc own fr lo ret isI Γ ι X S (pc + 1) L (.int x :: st)) : Sim cc own fr lo ret isI Γ ι X S pc L (st) := by
  obtain ⟨p, l, e, R, s, m, args, below, meth, c, nL, D, cs, z, mc, ms, z0, q0⟩ := Γ
  intro r S' hX
  have k := k r S' hX
  refine ⟨k.1, fun C hm hq H locs ls cl sl h1 h2 hr hS hL => ?_⟩
  obtain ⟨hx, hb, hml, hown, hts, hK, hlk, ⟨rc, rs, rfl, hrc, hrs⟩, hret, hnw, hisI⟩ := id C
  exact lv_iload_n hx hb hd hi (hL.at hl) (k.2 C hm hq H locs ls cl sl h1 h2 hr hS hL)
theorem s_iload {i : Nat} {x : Int32} (hd : decode cc pc = .ok (.iload i, 2)) (hl : L[i]? = some (some (.int x))) (k : Sim cc own fr lo ret isI Γ ι X S (pc + 2) L (.int x :: st)) : Sim cc own fr lo ret isI Γ ι X S pc L (st) := by
  obtain ⟨p, l, e, R, s, m, args, below, meth, c, nL, D, cs, z, mc, ms, z0, q0⟩ := Γ
  intro r S' hX
  have k := k r S' hX
  refine ⟨k.1, fun C hm hq H locs ls cl sl h1 h2 hr hS hL => ?_⟩
  obtain ⟨hx, hb, hml, hown, hts, hK, hlk, ⟨rc, rs, rfl, hrc, hrs⟩, hret, hnw, hisI⟩ := id C
  exact lv_iload hx hb hd (hL.at hl) (k.2 C hm hq H locs ls cl sl h1 h2 hr hS hL)
theorem s_lload_n {j : Fin 4} (i : Nat) {x : Int64} (hd : decode cc pc = .ok (.lload_n j, 1)) (hi : (j : Nat) = i) (hl : L[i]? = some (some (.long x))) (k : Sim cc own fr lo ret isI Γ ι X S (pc + 1) L (.long x :: st)) : Sim cc own fr lo ret isI Γ ι X S pc L (st) := by
  obtain ⟨p, l, e, R, s, m, args, below, meth, c, nL, D, cs, z, mc, ms, z0, q0⟩ := Γ
  intro r S' hX
  have k := k r S' hX
  refine ⟨k.1, fun C hm hq H locs ls cl sl h1 h2 hr hS hL => ?_⟩
  obtain ⟨hx, hb, hml, hown, hts, hK, hlk, ⟨rc, rs, rfl, hrc, hrs⟩, hret, hnw, hisI⟩ := id C
  exact lv_lload_n hx hb hd hi (hL.at hl) (k.2 C hm hq H locs ls cl sl h1 h2 hr hS hL)
theorem s_lload {i : Nat} {x : Int64} (hd : decode cc pc = .ok (.lload i, 2)) (hl : L[i]? = some (some (.long x))) (k : Sim cc own fr lo ret isI Γ ι X S (pc + 2) L (.long x :: st)) : Sim cc own fr lo ret isI Γ ι X S pc L (st) := by
  obtain ⟨p, l, e, R, s, m, args, below, meth, c, nL, D, cs, z, mc, ms, z0, q0⟩ := Γ
  intro r S' hX
  have k := k r S' hX
  refine ⟨k.1, fun C hm hq H locs ls cl sl h1 h2 hr hS hL => ?_⟩
  obtain ⟨hx, hb, hml, hown, hts, hK, hlk, ⟨rc, rs, rfl, hrc, hrs⟩, hret, hnw, hisI⟩ := id C
  exact lv_lload hx hb hd (hL.at hl) (k.2 C hm hq H locs ls cl sl h1 h2 hr hS hL)
theorem s_aload_n {j : Fin 4} (i : Nat) {x : Nat} (hd : decode cc pc = .ok (.aload_n j, 1)) (hi : (j : Nat) = i) (hl : L[i]? = some (some (.ref x))) (k : Sim cc own fr lo ret isI Γ ι X S (pc + 1) L (.ref x :: st)) : Sim cc own fr lo ret isI Γ ι X S pc L (st) := by
  obtain ⟨p, l, e, R, s, m, args, below, meth, c, nL, D, cs, z, mc, ms, z0, q0⟩ := Γ
  intro r S' hX
  have k := k r S' hX
  refine ⟨k.1, fun C hm hq H locs ls cl sl h1 h2 hr hS hL => ?_⟩
  obtain ⟨hx, hb, hml, hown, hts, hK, hlk, ⟨rc, rs, rfl, hrc, hrs⟩, hret, hnw, hisI⟩ := id C
  exact lv_aload_n hx hb hd hi (hL.at hl) (k.2 C hm hq H locs ls cl sl h1 h2 hr hS hL)
theorem s_aload {i : Nat} {x : Nat} (hd : decode cc pc = .ok (.aload i, 2)) (hl : L[i]? = some (some (.ref x))) (k : Sim cc own fr lo ret isI Γ ι X S (pc + 2) L (.ref x :: st)) : Sim cc own fr lo ret isI Γ ι X S pc L (st) := by
  obtain ⟨p, l, e, R, s, m, args, below, meth, c, nL, D, cs, z, mc, ms, z0, q0⟩ := Γ
  intro r S' hX
  have k := k r S' hX
  refine ⟨k.1, fun C hm hq H locs ls cl sl h1 h2 hr hS hL => ?_⟩
  obtain ⟨hx, hb, hml, hown, hts, hK, hlk, ⟨rc, rs, rfl, hrc, hrs⟩, hret, hnw, hisI⟩ := id C
  exact lv_aload hx hb hd (hL.at hl) (k.2 C hm hq H locs ls cl sl h1 h2 hr hS hL)
theorem s_istore_n {j : Fin 4} (i : Nat) {x : Int32} (hd : decode cc pc = .ok (.istore_n j, 1)) (hi : (j : Nat) = i) (hn : i < L.length) (hp : prevOK L i = true) (k : Sim cc own fr lo ret isI Γ ι X S (pc + 1) (L.set i (some (.int x))) st) : Sim cc own fr lo ret isI Γ ι X S pc L (.int x :: st) := by
  obtain ⟨p, l, e, R, s, m, args, below, meth, c, nL, D, cs, z, mc, ms, z0, q0⟩ := Γ
  intro r S' hX
  have k := k r S' hX
  refine ⟨k.1, fun C hm hq H locs ls cl sl h1 h2 hr hS hL => ?_⟩
  obtain ⟨hx, hb, hml, hown, hts, hK, hlk, ⟨rc, rs, rfl, hrc, hrs⟩, hret, hnw, hisI⟩ := id C
  exact lv_istore_n hx hb hd hi hL.1 (by rw [← hL.2]; exact hn) rfl (fun ls1 hh => k.2 C hm hq H locs ls1 cl sl h1 h2 hr hS (lHas_st1 hL.2 hp hh))
theorem s_istore {i : Nat} {x : Int32} (hd : decode cc pc = .ok (.istore i, 2)) (hn : i < L.length) (hp : prevOK L i = true) (k : Sim cc own fr lo ret isI Γ ι X S (pc + 2) (L.set i (some (.int x))) st) : Sim cc own fr lo ret isI Γ ι X S pc L (.int x :: st) := by
  obtain ⟨p, l, e, R, s, m, args, below, meth, c, nL, D, cs, z, mc, ms, z0, q0⟩ := Γ
  intro r S' hX
  have k := k r S' hX
  refine ⟨k.1, fun C hm hq H locs ls cl sl h1 h2 hr hS hL => ?_⟩
  obtain ⟨hx, hb, hml, hown, hts, hK, hlk, ⟨rc, rs, rfl, hrc, hrs⟩, hret, hnw, hisI⟩ := id C
  exact lv_istore hx hb hd hL.1 (by rw [← hL.2]; exact hn) rfl (fun ls1 hh => k.2 C hm hq H locs ls1 cl sl h1 h2 hr hS (lHas_st1 hL.2 hp hh))
theorem s_lstore_n {j : Fin 4} (i : Nat) {x : Int64} (hd : decode cc pc = .ok (.lstore_n j, 1)) (hi : (j : Nat) = i) (hn : i + 1 < L.length) (hp : prevOK L i = true) (k : Sim cc own fr lo ret isI Γ ι X S (pc + 1) ((L.set i (some (.long x))).set (i + 1) none) st) : Sim cc own fr lo ret isI Γ ι X S pc L (.long x :: st) := by
  obtain ⟨p, l, e, R, s, m, args, below, meth, c, nL, D, cs, z, mc, ms, z0, q0⟩ := Γ
  intro r S' hX
  have k := k r S' hX
  refine ⟨k.1, fun C hm hq H locs ls cl sl h1 h2 hr hS hL => ?_⟩
  obtain ⟨hx, hb, hml, hown, hts, hK, hlk, ⟨rc, rs, rfl, hrc, hrs⟩, hret, hnw, hisI⟩ := id C
  exact lv_lstore_n hx hb hd hi hL.1 (by rw [← hL.2]; exact hn) rfl (fun ls1 hh => k.2 C hm hq H locs ls1 cl sl h1 h2 hr hS (lHas_st2 hL.2 hp hh))
theorem s_lstore {i : Nat} {x : Int64} (hd : decode cc pc = .ok (.lstore i, 2)) (hn : i + 1 < L.length) (hp : prevOK L i = true) (k : Sim cc own fr lo ret isI Γ ι X S (pc + 2) ((L.set i (some (.long x))).set (i + 1) none) st) : Sim cc own fr lo ret isI Γ ι X S pc L (.long x :: st) := by
  obtain ⟨p, l, e, R, s, m, args, below, meth, c, nL, D, cs, z, mc, ms, z0, q0⟩ := Γ
  intro r S' hX
  have k := k r S' hX
  refine ⟨k.1, fun C hm hq H locs ls cl sl h1 h2 hr hS hL => ?_⟩
  obtain ⟨hx, hb, hml, hown, hts, hK, hlk, ⟨rc, rs, rfl, hrc, hrs⟩, hret, hnw, hisI⟩ := id C
  exact lv_lstore hx hb hd hL.1 (by rw [← hL.2]; exact hn) rfl (fun ls1 hh => k.2 C hm hq H locs ls1 cl sl h1 h2 hr hS (lHas_st2 hL.2 hp hh))
theorem s_astore_n {j : Fin 4} (i : Nat) {x : Nat} (hd : decode cc pc = .ok (.astore_n j, 1)) (hi : (j : Nat) = i) (hn : i < L.length) (hp : prevOK L i = true) (k : Sim cc own fr lo ret isI Γ ι X S (pc + 1) (L.set i (some (.ref x))) st) : Sim cc own fr lo ret isI Γ ι X S pc L (.ref x :: st) := by
  obtain ⟨p, l, e, R, s, m, args, below, meth, c, nL, D, cs, z, mc, ms, z0, q0⟩ := Γ
  intro r S' hX
  have k := k r S' hX
  refine ⟨k.1, fun C hm hq H locs ls cl sl h1 h2 hr hS hL => ?_⟩
  obtain ⟨hx, hb, hml, hown, hts, hK, hlk, ⟨rc, rs, rfl, hrc, hrs⟩, hret, hnw, hisI⟩ := id C
  exact lv_astore_n hx hb hd hi hL.1 (by rw [← hL.2]; exact hn) rfl (fun ls1 hh => k.2 C hm hq H locs ls1 cl sl h1 h2 hr hS (lHas_st1 hL.2 hp hh))
theorem s_astore {i : Nat} {x : Nat} (hd : decode cc pc = .ok (.astore i, 2)) (hn : i < L.length) (hp : prevOK L i = true) (k : Sim cc own fr lo ret isI Γ ι X S (pc + 2) (L.set i (some (.ref x))) st) : Sim cc own fr lo ret isI Γ ι X S pc L (.ref x :: st) := by
  obtain ⟨p, l, e, R, s, m, args, below, meth, c, nL, D, cs, z, mc, ms, z0, q0⟩ := Γ
  intro r S' hX
  have k := k r S' hX
  refine ⟨k.1, fun C hm hq H locs ls cl sl h1 h2 hr hS hL => ?_⟩
  obtain ⟨hx, hb, hml, hown, hts, hK, hlk, ⟨rc, rs, rfl, hrc, hrs⟩, hret, hnw, hisI⟩ := id C
  exact lv_astore hx hb hd hL.1 (by rw [← hL.2]; exact hn) rfl (fun ls1 hh => k.2 C hm hq H locs ls1 cl sl h1 h2 hr hS (lHas_st1 hL.2 hp hh))
theorem s_iinc {i : Nat} {n : Int} {x : Int32} (v : Int32) (hd : decode cc pc = .ok (.iinc i n, 3)) (hv : Int32.ofInt n = v) (hn : i < L.length) (hp : prevOK L i = true) (hl : L[i]? = some (some (.int x))) (k : Sim cc own fr lo ret isI Γ ι X S (pc + 3) (L.set i (some (.int (x + v)))) st) : Sim cc own fr lo ret isI Γ ι X S pc L st := by
  obtain ⟨p, l, e, R, s, m, args, below, meth, c, nL, D, cs, z, mc, ms, z0, q0⟩ := Γ
  intro r S' hX
  have k := k r S' hX
  refine ⟨k.1, fun C hm hq H locs ls cl sl h1 h2 hr hS hL => ?_⟩
  obtain ⟨hx, hb, hml, hown, hts, hK, hlk, ⟨rc, rs, rfl, hrc, hrs⟩, hret, hnw, hisI⟩ := id C
  obtain ⟨q, hqq⟩ := List.getElem?_of_mem ((asc_mem L 0 i (.int x)).mpr ⟨i, by omega, hl⟩)
  exact lv_iinc hx hb hd hL.1 hqq (by rw [hv]) (by rw [← hL.2]; exact hn) rfl (fun ls1 hh => k.2 C hm hq H locs ls1 cl sl h1 h2 hr hS (lHas_st1 hL.2 hp hh))
theorem s_istore_0 {x : Int32} {a0 : Option Value} (hd : decode cc pc = .ok (.istore_n 0, 1)) (k : Sim cc own fr lo ret isI Γ ι X S (pc + 1) (some (.int x) :: L) st) : Sim cc own fr lo ret isI Γ ι X S pc (a0 :: L) (.int x :: st) := s_istore_n 0 hd rfl (by simp) rfl k
theorem s_istore_1 {x : Int32} {a0 a1 : Option Value} (hd : decode cc pc = .ok (.istore_n 1, 1)) (hp : oc1 a0 = true) (k : Sim cc own fr lo ret isI Γ ι X S (pc + 1) (a0 :: some (.int x) :: L) st) : Sim cc own fr lo ret isI Γ ι X S pc (a0 :: a1 :: L) (.int x :: st) := s_istore_n 1 hd rfl (by simp) hp k
theorem s_istore_2 {x : Int32} {a0 a1 a2 : Option Value} (hd : decode cc pc = .ok (.istore_n 2, 1)) (hp : oc1 a1 = true) (k : Sim cc own fr lo ret isI Γ ι X S (pc + 1) (a0 :: a1 :: some (.int x) :: L) st) : Sim cc own fr lo ret isI Γ ι X S pc (a0 :: a1 :: a2 :: L) (.int x :: st) := s_istore_n 2 hd rfl (by simp) hp k
theorem s_istore_3 {x : Int32} {a0 a1 a2 a3 : Option Value} (hd : decode cc pc = .ok (.istore_n 3, 1)) (hp : oc1 a2 = true) (k : Sim cc own fr lo ret isI Γ ι X S (pc + 1) (a0 :: a1 :: a2 :: some (.int x) :: L) st) : Sim cc own fr lo ret isI Γ ι X S pc (a0 :: a1 :: a2 :: a3 :: L) (.int x :: st) := s_istore_n 3 hd rfl (by simp) hp k
theorem s_istore_4 {x : Int32} {a0 a1 a2 a3 a4 : Option Value} (hd : decode cc pc = .ok (.istore 4, 2)) (hp : oc1 a3 = true) (k : Sim cc own fr lo ret isI Γ ι X S (pc + 2) (a0 :: a1 :: a2 :: a3 :: some (.int x) :: L) st) : Sim cc own fr lo ret isI Γ ι X S pc (a0 :: a1 :: a2 :: a3 :: a4 :: L) (.int x :: st) := s_istore hd (by simp) hp k
theorem s_istore_5 {x : Int32} {a0 a1 a2 a3 a4 a5 : Option Value} (hd : decode cc pc = .ok (.istore 5, 2)) (hp : oc1 a4 = true) (k : Sim cc own fr lo ret isI Γ ι X S (pc + 2) (a0 :: a1 :: a2 :: a3 :: a4 :: some (.int x) :: L) st) : Sim cc own fr lo ret isI Γ ι X S pc (a0 :: a1 :: a2 :: a3 :: a4 :: a5 :: L) (.int x :: st) := s_istore hd (by simp) hp k
theorem s_istore_6 {x : Int32} {a0 a1 a2 a3 a4 a5 a6 : Option Value} (hd : decode cc pc = .ok (.istore 6, 2)) (hp : oc1 a5 = true) (k : Sim cc own fr lo ret isI Γ ι X S (pc + 2) (a0 :: a1 :: a2 :: a3 :: a4 :: a5 :: some (.int x) :: L) st) : Sim cc own fr lo ret isI Γ ι X S pc (a0 :: a1 :: a2 :: a3 :: a4 :: a5 :: a6 :: L) (.int x :: st) := s_istore hd (by simp) hp k
theorem s_istore_7 {x : Int32} {a0 a1 a2 a3 a4 a5 a6 a7 : Option Value} (hd : decode cc pc = .ok (.istore 7, 2)) (hp : oc1 a6 = true) (k : Sim cc own fr lo ret isI Γ ι X S (pc + 2) (a0 :: a1 :: a2 :: a3 :: a4 :: a5 :: a6 :: some (.int x) :: L) st) : Sim cc own fr lo ret isI Γ ι X S pc (a0 :: a1 :: a2 :: a3 :: a4 :: a5 :: a6 :: a7 :: L) (.int x :: st) := s_istore hd (by simp) hp k
theorem s_istore_8 {x : Int32} {a0 a1 a2 a3 a4 a5 a6 a7 a8 : Option Value} (hd : decode cc pc = .ok (.istore 8, 2)) (hp : oc1 a7 = true) (k : Sim cc own fr lo ret isI Γ ι X S (pc + 2) (a0 :: a1 :: a2 :: a3 :: a4 :: a5 :: a6 :: a7 :: some (.int x) :: L) st) : Sim cc own fr lo ret isI Γ ι X S pc (a0 :: a1 :: a2 :: a3 :: a4 :: a5 :: a6 :: a7 :: a8 :: L) (.int x :: st) := s_istore hd (by simp) hp k
theorem s_istore_9 {x : Int32} {a0 a1 a2 a3 a4 a5 a6 a7 a8 a9 : Option Value} (hd : decode cc pc = .ok (.istore 9, 2)) (hp : oc1 a8 = true) (k : Sim cc own fr lo ret isI Γ ι X S (pc + 2) (a0 :: a1 :: a2 :: a3 :: a4 :: a5 :: a6 :: a7 :: a8 :: some (.int x) :: L) st) : Sim cc own fr lo ret isI Γ ι X S pc (a0 :: a1 :: a2 :: a3 :: a4 :: a5 :: a6 :: a7 :: a8 :: a9 :: L) (.int x :: st) := s_istore hd (by simp) hp k
theorem s_istore_10 {x : Int32} {a0 a1 a2 a3 a4 a5 a6 a7 a8 a9 a10 : Option Value} (hd : decode cc pc = .ok (.istore 10, 2)) (hp : oc1 a9 = true) (k : Sim cc own fr lo ret isI Γ ι X S (pc + 2) (a0 :: a1 :: a2 :: a3 :: a4 :: a5 :: a6 :: a7 :: a8 :: a9 :: some (.int x) :: L) st) : Sim cc own fr lo ret isI Γ ι X S pc (a0 :: a1 :: a2 :: a3 :: a4 :: a5 :: a6 :: a7 :: a8 :: a9 :: a10 :: L) (.int x :: st) := s_istore hd (by simp) hp k
theorem s_istore_11 {x : Int32} {a0 a1 a2 a3 a4 a5 a6 a7 a8 a9 a10 a11 : Option Value} (hd : decode cc pc = .ok (.istore 11, 2)) (hp : oc1 a10 = true) (k : Sim cc own fr lo ret isI Γ ι X S (pc + 2) (a0 :: a1 :: a2 :: a3 :: a4 :: a5 :: a6 :: a7 :: a8 :: a9 :: a10 :: some (.int x) :: L) st) : Sim cc own fr lo ret isI Γ ι X S pc (a0 :: a1 :: a2 :: a3 :: a4 :: a5 :: a6 :: a7 :: a8 :: a9 :: a10 :: a11 :: L) (.int x :: st) := s_istore hd (by simp) hp k
theorem s_istore_12 {x : Int32} {a0 a1 a2 a3 a4 a5 a6 a7 a8 a9 a10 a11 a12 : Option Value} (hd : decode cc pc = .ok (.istore 12, 2)) (hp : oc1 a11 = true) (k : Sim cc own fr lo ret isI Γ ι X S (pc + 2) (a0 :: a1 :: a2 :: a3 :: a4 :: a5 :: a6 :: a7 :: a8 :: a9 :: a10 :: a11 :: some (.int x) :: L) st) : Sim cc own fr lo ret isI Γ ι X S pc (a0 :: a1 :: a2 :: a3 :: a4 :: a5 :: a6 :: a7 :: a8 :: a9 :: a10 :: a11 :: a12 :: L) (.int x :: st) := s_istore hd (by simp) hp k
theorem s_istore_13 {x : Int32} {a0 a1 a2 a3 a4 a5 a6 a7 a8 a9 a10 a11 a12 a13 : Option Value} (hd : decode cc pc = .ok (.istore 13, 2)) (hp : oc1 a12 = true) (k : Sim cc own fr lo ret isI Γ ι X S (pc + 2) (a0 :: a1 :: a2 :: a3 :: a4 :: a5 :: a6 :: a7 :: a8 :: a9 :: a10 :: a11 :: a12 :: some (.int x) :: L) st) : Sim cc own fr lo ret isI Γ ι X S pc (a0 :: a1 :: a2 :: a3 :: a4 :: a5 :: a6 :: a7 :: a8 :: a9 :: a10 :: a11 :: a12 :: a13 :: L) (.int x :: st) := s_istore hd (by simp) hp k
theorem s_istore_14 {x : Int32} {a0 a1 a2 a3 a4 a5 a6 a7 a8 a9 a10 a11 a12 a13 a14 : Option Value} (hd : decode cc pc = .ok (.istore 14, 2)) (hp : oc1 a13 = true) (k : Sim cc own fr lo ret isI Γ ι X S (pc + 2) (a0 :: a1 :: a2 :: a3 :: a4 :: a5 :: a6 :: a7 :: a8 :: a9 :: a10 :: a11 :: a12 :: a13 :: some (.int x) :: L) st) : Sim cc own fr lo ret isI Γ ι X S pc (a0 :: a1 :: a2 :: a3 :: a4 :: a5 :: a6 :: a7 :: a8 :: a9 :: a10 :: a11 :: a12 :: a13 :: a14 :: L) (.int x :: st) := s_istore hd (by simp) hp k
theorem s_istore_15 {x : Int32} {a0 a1 a2 a3 a4 a5 a6 a7 a8 a9 a10 a11 a12 a13 a14 a15 : Option Value} (hd : decode cc pc = .ok (.istore 15, 2)) (hp : oc1 a14 = true) (k : Sim cc own fr lo ret isI Γ ι X S (pc + 2) (a0 :: a1 :: a2 :: a3 :: a4 :: a5 :: a6 :: a7 :: a8 :: a9 :: a10 :: a11 :: a12 :: a13 :: a14 :: some (.int x) :: L) st) : Sim cc own fr lo ret isI Γ ι X S pc (a0 :: a1 :: a2 :: a3 :: a4 :: a5 :: a6 :: a7 :: a8 :: a9 :: a10 :: a11 :: a12 :: a13 :: a14 :: a15 :: L) (.int x :: st) := s_istore hd (by simp) hp k
theorem s_lstore_0 {x : Int64} {a0 b : Option Value} (hd : decode cc pc = .ok (.lstore_n 0, 1)) (k : Sim cc own fr lo ret isI Γ ι X S (pc + 1) (some (.long x) :: none :: L) st) : Sim cc own fr lo ret isI Γ ι X S pc (a0 :: b :: L) (.long x :: st) := s_lstore_n 0 hd rfl (by simp) rfl k
theorem s_lstore_1 {x : Int64} {a0 a1 b : Option Value} (hd : decode cc pc = .ok (.lstore_n 1, 1)) (hp : oc1 a0 = true) (k : Sim cc own fr lo ret isI Γ ι X S (pc + 1) (a0 :: some (.long x) :: none :: L) st) : Sim cc own fr lo ret isI Γ ι X S pc (a0 :: a1 :: b :: L) (.long x :: st) := s_lstore_n 1 hd rfl (by simp) hp k
theorem s_lstore_2 {x : Int64} {a0 a1 a2 b : Option Value} (hd : decode cc pc = .ok (.lstore_n 2, 1)) (hp : oc1 a1 = true) (k : Sim cc own fr lo ret isI Γ ι X S (pc + 1) (a0 :: a1 :: some (.long x) :: none :: L) st) : Sim cc own fr lo ret isI Γ ι X S pc (a0 :: a1 :: a2 :: b :: L) (.long x :: st) := s_lstore_n 2 hd rfl (by simp) hp k
theorem s_lstore_3 {x : Int64} {a0 a1 a2 a3 b : Option Value} (hd : decode cc pc = .ok (.lstore_n 3, 1)) (hp : oc1 a2 = true) (k : Sim cc own fr lo ret isI Γ ι X S (pc + 1) (a0 :: a1 :: a2 :: some (.long x) :: none :: L) st) : Sim cc own fr lo ret isI Γ ι X S pc (a0 :: a1 :: a2 :: a3 :: b :: L) (.long x :: st) := s_lstore_n 3 hd rfl (by simp) hp k
theorem s_lstore_4 {x : Int64} {a0 a1 a2 a3 a4 b : Option Value} (hd : decode cc pc = .ok (.lstore 4, 2)) (hp : oc1 a3 = true) (k : Sim cc own fr lo ret isI Γ ι X S (pc + 2) (a0 :: a1 :: a2 :: a3 :: some (.long x) :: none :: L) st) : Sim cc own fr lo ret isI Γ ι X S pc (a0 :: a1 :: a2 :: a3 :: a4 :: b :: L) (.long x :: st) := s_lstore hd (by simp) hp k
theorem s_lstore_5 {x : Int64} {a0 a1 a2 a3 a4 a5 b : Option Value} (hd : decode cc pc = .ok (.lstore 5, 2)) (hp : oc1 a4 = true) (k : Sim cc own fr lo ret isI Γ ι X S (pc + 2) (a0 :: a1 :: a2 :: a3 :: a4 :: some (.long x) :: none :: L) st) : Sim cc own fr lo ret isI Γ ι X S pc (a0 :: a1 :: a2 :: a3 :: a4 :: a5 :: b :: L) (.long x :: st) := s_lstore hd (by simp) hp k
theorem s_lstore_6 {x : Int64} {a0 a1 a2 a3 a4 a5 a6 b : Option Value} (hd : decode cc pc = .ok (.lstore 6, 2)) (hp : oc1 a5 = true) (k : Sim cc own fr lo ret isI Γ ι X S (pc + 2) (a0 :: a1 :: a2 :: a3 :: a4 :: a5 :: some (.long x) :: none :: L) st) : Sim cc own fr lo ret isI Γ ι X S pc (a0 :: a1 :: a2 :: a3 :: a4 :: a5 :: a6 :: b :: L) (.long x :: st) := s_lstore hd (by simp) hp k
theorem s_lstore_7 {x : Int64} {a0 a1 a2 a3 a4 a5 a6 a7 b : Option Value} (hd : decode cc pc = .ok (.lstore 7, 2)) (hp : oc1 a6 = true) (k : Sim cc own fr lo ret isI Γ ι X S (pc + 2) (a0 :: a1 :: a2 :: a3 :: a4 :: a5 :: a6 :: some (.long x) :: none :: L) st) : Sim cc own fr lo ret isI Γ ι X S pc (a0 :: a1 :: a2 :: a3 :: a4 :: a5 :: a6 :: a7 :: b :: L) (.long x :: st) := s_lstore hd (by simp) hp k
theorem s_lstore_8 {x : Int64} {a0 a1 a2 a3 a4 a5 a6 a7 a8 b : Option Value} (hd : decode cc pc = .ok (.lstore 8, 2)) (hp : oc1 a7 = true) (k : Sim cc own fr lo ret isI Γ ι X S (pc + 2) (a0 :: a1 :: a2 :: a3 :: a4 :: a5 :: a6 :: a7 :: some (.long x) :: none :: L) st) : Sim cc own fr lo ret isI Γ ι X S pc (a0 :: a1 :: a2 :: a3 :: a4 :: a5 :: a6 :: a7 :: a8 :: b :: L) (.long x :: st) := s_lstore hd (by simp) hp k
theorem s_lstore_9 {x : Int64} {a0 a1 a2 a3 a4 a5 a6 a7 a8 a9 b : Option Value} (hd : decode cc pc = .ok (.lstore 9, 2)) (hp : oc1 a8 = true) (k : Sim cc own fr lo ret isI Γ ι X S (pc + 2) (a0 :: a1 :: a2 :: a3 :: a4 :: a5 :: a6 :: a7 :: a8 :: some (.long x) :: none :: L) st) : Sim cc own fr lo ret isI Γ ι X S pc (a0 :: a1 :: a2 :: a3 :: a4 :: a5 :: a6 :: a7 :: a8 :: a9 :: b :: L) (.long x :: st) := s_lstore hd (by simp) hp k
theorem s_lstore_10 {x : Int64} {a0 a1 a2 a3 a4 a5 a6 a7 a8 a9 a10 b : Option Value} (hd : decode cc pc = .ok (.lstore 10, 2)) (hp : oc1 a9 = true) (k : Sim cc own fr lo ret isI Γ ι X S (pc + 2) (a0 :: a1 :: a2 :: a3 :: a4 :: a5 :: a6 :: a7 :: a8 :: a9 :: some (.long x) :: none :: L) st) : Sim cc own fr lo ret isI Γ ι X S pc (a0 :: a1 :: a2 :: a3 :: a4 :: a5 :: a6 :: a7 :: a8 :: a9 :: a10 :: b :: L) (.long x :: st) := s_lstore hd (by simp) hp k
theorem s_lstore_11 {x : Int64} {a0 a1 a2 a3 a4 a5 a6 a7 a8 a9 a10 a11 b : Option Value} (hd : decode cc pc = .ok (.lstore 11, 2)) (hp : oc1 a10 = true) (k : Sim cc own fr lo ret isI Γ ι X S (pc + 2) (a0 :: a1 :: a2 :: a3 :: a4 :: a5 :: a6 :: a7 :: a8 :: a9 :: a10 :: some (.long x) :: none :: L) st) : Sim cc own fr lo ret isI Γ ι X S pc (a0 :: a1 :: a2 :: a3 :: a4 :: a5 :: a6 :: a7 :: a8 :: a9 :: a10 :: a11 :: b :: L) (.long x :: st) := s_lstore hd (by simp) hp k
theorem s_lstore_12 {x : Int64} {a0 a1 a2 a3 a4 a5 a6 a7 a8 a9 a10 a11 a12 b : Option Value} (hd : decode cc pc = .ok (.lstore 12, 2)) (hp : oc1 a11 = true) (k : Sim cc own fr lo ret isI Γ ι X S (pc + 2) (a0 :: a1 :: a2 :: a3 :: a4 :: a5 :: a6 :: a7 :: a8 :: a9 :: a10 :: a11 :: some (.long x) :: none :: L) st) : Sim cc own fr lo ret isI Γ ι X S pc (a0 :: a1 :: a2 :: a3 :: a4 :: a5 :: a6 :: a7 :: a8 :: a9 :: a10 :: a11 :: a12 :: b :: L) (.long x :: st) := s_lstore hd (by simp) hp k
theorem s_lstore_13 {x : Int64} {a0 a1 a2 a3 a4 a5 a6 a7 a8 a9 a10 a11 a12 a13 b : Option Value} (hd : decode cc pc = .ok (.lstore 13, 2)) (hp : oc1 a12 = true) (k : Sim cc own fr lo ret isI Γ ι X S (pc + 2) (a0 :: a1 :: a2 :: a3 :: a4 :: a5 :: a6 :: a7 :: a8 :: a9 :: a10 :: a11 :: a12 :: some (.long x) :: none :: L) st) : Sim cc own fr lo ret isI Γ ι X S pc (a0 :: a1 :: a2 :: a3 :: a4 :: a5 :: a6 :: a7 :: a8 :: a9 :: a10 :: a11 :: a12 :: a13 :: b :: L) (.long x :: st) := s_lstore hd (by simp) hp k
theorem s_lstore_14 {x : Int64} {a0 a1 a2 a3 a4 a5 a6 a7 a8 a9 a10 a11 a12 a13 a14 b : Option Value} (hd : decode cc pc = .ok (.lstore 14, 2)) (hp : oc1 a13 = true) (k : Sim cc own fr lo ret isI Γ ι X S (pc + 2) (a0 :: a1 :: a2 :: a3 :: a4 :: a5 :: a6 :: a7 :: a8 :: a9 :: a10 :: a11 :: a12 :: a13 :: some (.long x) :: none :: L) st) : Sim cc own fr lo ret isI Γ ι X S pc (a0 :: a1 :: a2 :: a3 :: a4 :: a5 :: a6 :: a7 :: a8 :: a9 :: a10 :: a11 :: a12 :: a13 :: a14 :: b :: L) (.long x :: st) := s_lstore hd (by simp) hp k
theorem s_lstore_15 {x : Int64} {a0 a1 a2 a3 a4 a5 a6 a7 a8 a9 a10 a11 a12 a13 a14 a15 b : Option Value} (hd : decode cc pc = .ok (.lstore 15, 2)) (hp : oc1 a14 = true) (k : Sim cc own fr lo ret isI Γ ι X S (pc + 2) (a0 :: a1 :: a2 :: a3 :: a4 :: a5 :: a6 :: a7 :: a8 :: a9 :: a10 :: a11 :: a12 :: a13 :: a14 :: some (.long x) :: none :: L) st) : Sim cc own fr lo ret isI Γ ι X S pc (a0 :: a1 :: a2 :: a3 :: a4 :: a5 :: a6 :: a7 :: a8 :: a9 :: a10 :: a11 :: a12 :: a13 :: a14 :: a15 :: b :: L) (.long x :: st) := s_lstore hd (by simp) hp k
theorem s_astore_0 {x : Nat} {a0 : Option Value} (hd : decode cc pc = .ok (.astore_n 0, 1)) (k : Sim cc own fr lo ret isI Γ ι X S (pc + 1) (some (.ref x) :: L) st) : Sim cc own fr lo ret isI Γ ι X S pc (a0 :: L) (.ref x :: st) := s_astore_n 0 hd rfl (by simp) rfl k
theorem s_astore_1 {x : Nat} {a0 a1 : Option Value} (hd : decode cc pc = .ok (.astore_n 1, 1)) (hp : oc1 a0 = true) (k : Sim cc own fr lo ret isI Γ ι X S (pc + 1) (a0 :: some (.ref x) :: L) st) : Sim cc own fr lo ret isI Γ ι X S pc (a0 :: a1 :: L) (.ref x :: st) := s_astore_n 1 hd rfl (by simp) hp k
theorem s_astore_2 {x : Nat} {a0 a1 a2 : Option Value} (hd : decode cc pc = .ok (.astore_n 2, 1)) (hp : oc1 a1 = true) (k : Sim cc own fr lo ret isI Γ ι X S (pc + 1) (a0 :: a1 :: some (.ref x) :: L) st) : Sim cc own fr lo ret isI Γ ι X S pc (a0 :: a1 :: a2 :: L) (.ref x :: st) := s_astore_n 2 hd rfl (by simp) hp k
theorem s_astore_3 {x : Nat} {a0 a1 a2 a3 : Option Value} (hd : decode cc pc = .ok (.astore_n 3, 1)) (hp : oc1 a2 = true) (k : Sim cc own fr lo ret isI Γ ι X S (pc + 1) (a0 :: a1 :: a2 :: some (.ref x) :: L) st) : Sim cc own fr lo ret isI Γ ι X S pc (a0 :: a1 :: a2 :: a3 :: L) (.ref x :: st) := s_astore_n 3 hd rfl (by simp) hp k
theorem s_astore_4 {x : Nat} {a0 a1 a2 a3 a4 : Option Value} (hd : decode cc pc = .ok (.astore 4, 2)) (hp : oc1 a3 = true) (k : Sim cc own fr lo ret isI Γ ι X S (pc + 2) (a0 :: a1 :: a2 :: a3 :: some (.ref x) :: L) st) : Sim cc own fr lo ret isI Γ ι X S pc (a0 :: a1 :: a2 :: a3 :: a4 :: L) (.ref x :: st) := s_astore hd (by simp) hp k
theorem s_astore_5 {x : Nat} {a0 a1 a2 a3 a4 a5 : Option Value} (hd : decode cc pc = .ok (.astore 5, 2)) (hp : oc1 a4 = true) (k : Sim cc own fr lo ret isI Γ ι X S (pc + 2) (a0 :: a1 :: a2 :: a3 :: a4 :: some (.ref x) :: L) st) : Sim cc own fr lo ret isI Γ ι X S pc (a0 :: a1 :: a2 :: a3 :: a4 :: a5 :: L) (.ref x :: st) := s_astore hd (by simp) hp k
theorem s_astore_6 {x : Nat} {a0 a1 a2 a3 a4 a5 a6 : Option Value} (hd : decode cc pc = .ok (.astore 6, 2)) (hp : oc1 a5 = true) (k : Sim cc own fr lo ret isI Γ ι X S (pc + 2) (a0 :: a1 :: a2 :: a3 :: a4 :: a5 :: some (.ref x) :: L) st) : Sim cc own fr lo ret isI Γ ι X S pc (a0 :: a1 :: a2 :: a3 :: a4 :: a5 :: a6 :: L) (.ref x :: st) := s_astore hd (by simp) hp k
theorem s_astore_7 {x : Nat} {a0 a1 a2 a3 a4 a5 a6 a7 : Option Value} (hd : decode cc pc = .ok (.astore 7, 2)) (hp : oc1 a6 = true) (k : Sim cc own fr lo ret isI Γ ι X S (pc + 2) (a0 :: a1 :: a2 :: a3 :: a4 :: a5 :: a6 :: some (.ref x) :: L) st) : Sim cc own fr lo ret isI Γ ι X S pc (a0 :: a1 :: a2 :: a3 :: a4 :: a5 :: a6 :: a7 :: L) (.ref x :: st) := s_astore hd (by simp) hp k
theorem s_astore_8 {x : Nat} {a0 a1 a2 a3 a4 a5 a6 a7 a8 : Option Value} (hd : decode cc pc = .ok (.astore 8, 2)) (hp : oc1 a7 = true) (k : Sim cc own fr lo ret isI Γ ι X S (pc + 2) (a0 :: a1 :: a2 :: a3 :: a4 :: a5 :: a6 :: a7 :: some (.ref x) :: L) st) : Sim cc own fr lo ret isI Γ ι X S pc (a0 :: a1 :: a2 :: a3 :: a4 :: a5 :: a6 :: a7 :: a8 :: L) (.ref x :: st) := s_astore hd (by simp) hp k
theorem s_astore_9 {x : Nat} {a0 a1 a2 a3 a4 a5 a6 a7 a8 a9 : Option Value} (hd : decode cc pc = .ok (.astore 9, 2)) (hp : oc1 a8 = true) (k : Sim cc own fr lo ret isI Γ ι X S (pc + 2) (a0 :: a1 :: a2 :: a3 :: a4 :: a5 :: a6 :: a7 :: a8 :: some (.ref x) :: L) st) : Sim cc own fr lo ret isI Γ ι X S pc (a0 :: a1 :: a2 :: a3 :: a4 :: a5 :: a6 :: a7 :: a8 :: a9 :: L) (.ref x :: st) := s_astore hd (by simp) hp k
theorem s_astore_10 {x : Nat} {a0 a1 a2 a3 a4 a5 a6 a7 a8 a9 a10 : Option Value} (hd : decode cc pc = .ok (.astore 10, 2)) (hp : oc1 a9 = true) (k : Sim cc own fr lo ret isI Γ ι X S (pc + 2) (a0 :: a1 :: a2 :: a3 :: a4 :: a5 :: a6 :: a7 :: a8 :: a9 :: some (.ref x) :: L) st) : Sim cc own fr lo ret isI Γ ι X S pc (a0 :: a1 :: a2 :: a3 :: a4 :: a5 :: a6 :: a7 :: a8 :: a9 :: a10 :: L) (.ref x :: st) := s_astore hd (by simp) hp k
theorem s_astore_11 {x : Nat} {a0 a1 a2 a3 a4 a5 a6 a7 a8 a9 a10 a11 : Option Value} (hd : decode cc pc = .ok (.astore 11, 2)) (hp : oc1 a10 = true) (k : Sim cc own fr lo ret isI Γ ι X S (pc + 2) (a0 :: a1 :: a2 :: a3 :: a4 :: a5 :: a6 :: a7 :: a8 :: a9 :: a10 :: some (.ref x) :: L) st) : Sim cc own fr lo ret isI Γ ι X S pc (a0 :: a1 :: a2 :: a3 :: a4 :: a5 :: a6 :: a7 :: a8 :: a9 :: a10 :: a11 :: L) (.ref x :: st) := s_astore hd (by simp) hp k
theorem s_astore_12 {x : Nat} {a0 a1 a2 a3 a4 a5 a6 a7 a8 a9 a10 a11 a12 : Option Value} (hd : decode cc pc = .ok (.astore 12, 2)) (hp : oc1 a11 = true) (k : Sim cc own fr lo ret isI Γ ι X S (pc + 2) (a0 :: a1 :: a2 :: a3 :: a4 :: a5 :: a6 :: a7 :: a8 :: a9 :: a10 :: a11 :: some (.ref x) :: L) st) : Sim cc own fr lo ret isI Γ ι X S pc (a0 :: a1 :: a2 :: a3 :: a4 :: a5 :: a6 :: a7 :: a8 :: a9 :: a10 :: a11 :: a12 :: L) (.ref x :: st) := s_astore hd (by simp) hp k
theorem s_astore_13 {x : Nat} {a0 a1 a2 a3 a4 a5 a6 a7 a8 a9 a10 a11 a12 a13 : Option Value} (hd : decode cc pc = .ok (.astore 13, 2)) (hp : oc1 a12 = true) (k : Sim cc own fr lo ret isI Γ ι X S (pc + 2) (a0 :: a1 :: a2 :: a3 :: a4 :: a5 :: a6 :: a7 :: a8 :: a9 :: a10 :: a11 :: a12 :: some (.ref x) :: L) st) : Sim cc own fr lo ret isI Γ ι X S pc (a0 :: a1 :: a2 :: a3 :: a4 :: a5 :: a6 :: a7 :: a8 :: a9 :: a10 :: a11 :: a12 :: a13 :: L) (.ref x :: st) := s_astore hd (by simp) hp k
theorem s_astore_14 {x : Nat} {a0 a1 a2 a3 a4 a5 a6 a7 a8 a9 a10 a11 a12 a13 a14 : Option Value} (hd : decode cc pc = .ok (.astore 14, 2)) (hp : oc1 a13 = true) (k : Sim cc own fr lo ret isI Γ ι X S (pc + 2) (a0 :: a1 :: a2 :: a3 :: a4 :: a5 :: a6 :: a7 :: a8 :: a9 :: a10 :: a11 :: a12 :: a13 :: some (.ref x) :: L) st) : Sim cc own fr lo ret isI Γ ι X S pc (a0 :: a1 :: a2 :: a3 :: a4 :: a5 :: a6 :: a7 :: a8 :: a9 :: a10 :: a11 :: a12 :: a13 :: a14 :: L) (.ref x :: st) := s_astore hd (by simp) hp k
theorem s_astore_15 {x : Nat} {a0 a1 a2 a3 a4 a5 a6 a7 a8 a9 a10 a11 a12 a13 a14 a15 : Option Value} (hd : decode cc pc = .ok (.astore 15, 2)) (hp : oc1 a14 = true) (k : Sim cc own fr lo ret isI Γ ι X S (pc + 2) (a0 :: a1 :: a2 :: a3 :: a4 :: a5 :: a6 :: a7 :: a8 :: a9 :: a10 :: a11 :: a12 :: a13 :: a14 :: some (.ref x) :: L) st) : Sim cc own fr lo ret isI Γ ι X S pc (a0 :: a1 :: a2 :: a3 :: a4 :: a5 :: a6 :: a7 :: a8 :: a9 :: a10 :: a11 :: a12 :: a13 :: a14 :: a15 :: L) (.ref x :: st) := s_astore hd (by simp) hp k
theorem s_iinc_0 {n : Int} {x : Int32} (v : Int32) (hd : decode cc pc = .ok (.iinc 0 n, 3)) (hv : Int32.ofInt n = v) (k : Sim cc own fr lo ret isI Γ ι X S (pc + 3) (some (.int (x + v)) :: L) st) : Sim cc own fr lo ret isI Γ ι X S pc (some (.int x) :: L) st := s_iinc v hd hv (by simp) rfl rfl k
theorem s_iinc_1 {n : Int} {x : Int32} (v : Int32) {a0 : Option Value} (hd : decode cc pc = .ok (.iinc 1 n, 3)) (hv : Int32.ofInt n = v) (hp : oc1 a0 = true) (k : Sim cc own fr lo ret isI Γ ι X S (pc + 3) (a0 :: some (.int (x + v)) :: L) st) : Sim cc own fr lo ret isI Γ ι X S pc (a0 :: some (.int x) :: L) st := s_iinc v hd hv (by simp) hp rfl k
theorem s_iinc_2 {n : Int} {x : Int32} (v : Int32) {a0 a1 : Option Value} (hd : decode cc pc = .ok (.iinc 2 n, 3)) (hv : Int32.ofInt n = v) (hp : oc1 a1 = true) (k : Sim cc own fr lo ret isI Γ ι X S (pc + 3) (a0 :: a1 :: some (.int (x + v)) :: L) st) : Sim cc own fr lo ret isI Γ ι X S pc (a0 :: a1 :: some (.int x) :: L) st := s_iinc v hd hv (by simp) hp rfl k
theorem s_iinc_3 {n : Int} {x : Int32} (v : Int32) {a0 a1 a2 : Option Value} (hd : decode cc pc = .ok (.iinc 3 n, 3)) (hv : Int32.ofInt n = v) (hp : oc1 a2 = true) (k : Sim cc own fr lo ret isI Γ ι X S (pc + 3) (a0 :: a1 :: a2 :: some (.int (x + v)) :: L) st) : Sim cc own fr lo ret isI Γ ι X S pc (a0 :: a1 :: a2 :: some (.int x) :: L) st := s_iinc v hd hv (by simp) hp rfl k
theorem s_iinc_4 {n : Int} {x : Int32} (v : Int32) {a0 a1 a2 a3 : Option Value} (hd : decode cc pc = .ok (.iinc 4 n, 3)) (hv : Int32.ofInt n = v) (hp : oc1 a3 = true) (k : Sim cc own fr lo ret isI Γ ι X S (pc + 3) (a0 :: a1 :: a2 :: a3 :: some (.int (x + v)) :: L) st) : Sim cc own fr lo ret isI Γ ι X S pc (a0 :: a1 :: a2 :: a3 :: some (.int x) :: L) st := s_iinc v hd hv (by simp) hp rfl k
theorem s_iinc_5 {n : Int} {x : Int32} (v : Int32) {a0 a1 a2 a3 a4 : Option Value} (hd : decode cc pc = .ok (.iinc 5 n, 3)) (hv : Int32.ofInt n = v) (hp : oc1 a4 = true) (k : Sim cc own fr lo ret isI Γ ι X S (pc + 3) (a0 :: a1 :: a2 :: a3 :: a4 :: some (.int (x + v)) :: L) st) : Sim cc own fr lo ret isI Γ ι X S pc (a0 :: a1 :: a2 :: a3 :: a4 :: some (.int x) :: L) st := s_iinc v hd hv (by simp) hp rfl k
theorem s_iinc_6 {n : Int} {x : Int32} (v : Int32) {a0 a1 a2 a3 a4 a5 : Option Value} (hd : decode cc pc = .ok (.iinc 6 n, 3)) (hv : Int32.ofInt n = v) (hp : oc1 a5 = true) (k : Sim cc own fr lo ret isI Γ ι X S (pc + 3) (a0 :: a1 :: a2 :: a3 :: a4 :: a5 :: some (.int (x + v)) :: L) st) : Sim cc own fr lo ret isI Γ ι X S pc (a0 :: a1 :: a2 :: a3 :: a4 :: a5 :: some (.int x) :: L) st := s_iinc v hd hv (by simp) hp rfl k
theorem s_iinc_7 {n : Int} {x : Int32} (v : Int32) {a0 a1 a2 a3 a4 a5 a6 : Option Value} (hd : decode cc pc = .ok (.iinc 7 n, 3)) (hv : Int32.ofInt n = v) (hp : oc1 a6 = true) (k : Sim cc own fr lo ret isI Γ ι X S (pc + 3) (a0 :: a1 :: a2 :: a3 :: a4 :: a5 :: a6 :: some (.int (x + v)) :: L) st) : Sim cc own fr lo ret isI Γ ι X S pc (a0 :: a1 :: a2 :: a3 :: a4 :: a5 :: a6 :: some (.int x) :: L) st := s_iinc v hd hv (by simp) hp rfl k
theorem s_iinc_8 {n : Int} {x : Int32} (v : Int32) {a0 a1 a2 a3 a4 a5 a6 a7 : Option Value} (hd : decode cc pc = .ok (.iinc 8 n, 3)) (hv : Int32.ofInt n = v) (hp : oc1 a7 = true) (k : Sim cc own fr lo ret isI Γ ι X S (pc + 3) (a0 :: a1 :: a2 :: a3 :: a4 :: a5 :: a6 :: a7 :: some (.int (x + v)) :: L) st) : Sim cc own fr lo ret isI Γ ι X S pc (a0 :: a1 :: a2 :: a3 :: a4 :: a5 :: a6 :: a7 :: some (.int x) :: L) st := s_iinc v hd hv (by simp) hp rfl k
theorem s_iinc_9 {n : Int} {x : Int32} (v : Int32) {a0 a1 a2 a3 a4 a5 a6 a7 a8 : Option Value} (hd : decode cc pc = .ok (.iinc 9 n, 3)) (hv : Int32.ofInt n = v) (hp : oc1 a8 = true) (k : Sim cc own fr lo ret isI Γ ι X S (pc + 3) (a0 :: a1 :: a2 :: a3 :: a4 :: a5 :: a6 :: a7 :: a8 :: some (.int (x + v)) :: L) st) : Sim cc own fr lo ret isI Γ ι X S pc (a0 :: a1 :: a2 :: a3 :: a4 :: a5 :: a6 :: a7 :: a8 :: some (.int x) :: L) st := s_iinc v hd hv (by simp) hp rfl k
theorem s_iinc_10 {n : Int} {x : Int32} (v : Int32) {a0 a1 a2 a3 a4 a5 a6 a7 a8 a9 : Option Value} (hd : decode cc pc = .ok (.iinc 10 n, 3)) (hv : Int32.ofInt n = v) (hp : oc1 a9 = true) (k : Sim cc own fr lo ret isI Γ ι X S (pc + 3) (a0 :: a1 :: a2 :: a3 :: a4 :: a5 :: a6 :: a7 :: a8 :: a9 :: some (.int (x + v)) :: L) st) : Sim cc own fr lo ret isI Γ ι X S pc (a0 :: a1 :: a2 :: a3 :: a4 :: a5 :: a6 :: a7 :: a8 :: a9 :: some (.int x) :: L) st := s_iinc v hd hv (by simp) hp rfl k
theorem s_iinc_11 {n : Int} {x : Int32} (v : Int32) {a0 a1 a2 a3 a4 a5 a6 a7 a8 a9 a10 : Option Value} (hd : decode cc pc = .ok (.iinc 11 n, 3)) (hv : Int32.ofInt n = v) (hp : oc1 a10 = true) (k : Sim cc own fr lo ret isI Γ ι X S (pc + 3) (a0 :: a1 :: a2 :: a3 :: a4 :: a5 :: a6 :: a7 :: a8 :: a9 :: a10 :: some (.int (x + v)) :: L) st) : Sim cc own fr lo ret isI Γ ι X S pc (a0 :: a1 :: a2 :: a3 :: a4 :: a5 :: a6 :: a7 :: a8 :: a9 :: a10 :: some (.int x) :: L) st := s_iinc v hd hv (by simp) hp rfl k
theorem s_iinc_12 {n : Int} {x : Int32} (v : Int32) {a0 a1 a2 a3 a4 a5 a6 a7 a8 a9 a10 a11 : Option Value} (hd : decode cc pc = .ok (.iinc 12 n, 3)) (hv : Int32.ofInt n = v) (hp : oc1 a11 = true) (k : Sim cc own fr lo ret isI Γ ι X S (pc + 3) (a0 :: a1 :: a2 :: a3 :: a4 :: a5 :: a6 :: a7 :: a8 :: a9 :: a10 :: a11 :: some (.int (x + v)) :: L) st) : Sim cc own fr lo ret isI Γ ι X S pc (a0 :: a1 :: a2 :: a3 :: a4 :: a5 :: a6 :: a7 :: a8 :: a9 :: a10 :: a11 :: some (.int x) :: L) st := s_iinc v hd hv (by simp) hp rfl k
theorem s_iinc_13 {n : Int} {x : Int32} (v : Int32) {a0 a1 a2 a3 a4 a5 a6 a7 a8 a9 a10 a11 a12 : Option Value} (hd : decode cc pc = .ok (.iinc 13 n, 3)) (hv : Int32.ofInt n = v) (hp : oc1 a12 = true) (k : Sim cc own fr lo ret isI Γ ι X S (pc + 3) (a0 :: a1 :: a2 :: a3 :: a4 :: a5 :: a6 :: a7 :: a8 :: a9 :: a10 :: a11 :: a12 :: some (.int (x + v)) :: L) st) : Sim cc own fr lo ret isI Γ ι X S pc (a0 :: a1 :: a2 :: a3 :: a4 :: a5 :: a6 :: a7 :: a8 :: a9 :: a10 :: a11 :: a12 :: some (.int x) :: L) st := s_iinc v hd hv (by simp) hp rfl k
theorem s_iinc_14 {n : Int} {x : Int32} (v : Int32) {a0 a1 a2 a3 a4 a5 a6 a7 a8 a9 a10 a11 a12 a13 : Option Value} (hd : decode cc pc = .ok (.iinc 14 n, 3)) (hv : Int32.ofInt n = v) (hp : oc1 a13 = true) (k : Sim cc own fr lo ret isI Γ ι X S (pc + 3) (a0 :: a1 :: a2 :: a3 :: a4 :: a5 :: a6 :: a7 :: a8 :: a9 :: a10 :: a11 :: a12 :: a13 :: some (.int (x + v)) :: L) st) : Sim cc own fr lo ret isI Γ ι X S pc (a0 :: a1 :: a2 :: a3 :: a4 :: a5 :: a6 :: a7 :: a8 :: a9 :: a10 :: a11 :: a12 :: a13 :: some (.int x) :: L) st := s_iinc v hd hv (by simp) hp rfl k
theorem s_iinc_15 {n : Int} {x : Int32} (v : Int32) {a0 a1 a2 a3 a4 a5 a6 a7 a8 a9 a10 a11 a12 a13 a14 : Option Value} (hd : decode cc pc = .ok (.iinc 15 n, 3)) (hv : Int32.ofInt n = v) (hp : oc1 a14 = true) (k : Sim cc own fr lo ret isI Γ ι X S (pc + 3) (a0 :: a1 :: a2 :: a3 :: a4 :: a5 :: a6 :: a7 :: a8 :: a9 :: a10 :: a11 :: a12 :: a13 :: a14 :: some (.int (x + v)) :: L) st) : Sim cc own fr lo ret isI Γ ι X S pc (a0 :: a1 :: a2 :: a3 :: a4 :: a5 :: a6 :: a7 :: a8 :: a9 :: a10 :: a11 :: a12 :: a13 :: a14 :: some (.int x) :: L) st := s_iinc v hd hv (by simp) hp rfl k
theorem s_dup {v : Value} (hd : decode cc pc = .ok (.dup, 1)) (hv : v.category = 1) (k : Sim cc own fr lo ret isI Γ ι X S (pc + 1) L (v :: v :: st)) : Sim cc own fr lo ret isI Γ ι X S pc L (v :: st) := by
  obtain ⟨p, l, e, R, s, m, args, below, meth, c, nL, D, cs, z, mc, ms, z0, q0⟩ := Γ
  intro r S' hX
  have k := k r S' hX
  refine ⟨k.1, fun C hm hq H locs ls cl sl h1 h2 hr hS hL => ?_⟩
  obtain ⟨hx, hb, hml, hown, hts, hK, hlk, ⟨rc, rs, rfl, hrc, hrs⟩, hret, hnw, hisI⟩ := id C
  exact lv_dup hx hb hd hv (k.2 C hm hq H locs ls cl sl h1 h2 hr hS hL)
theorem s_pop {v : Value} (hd : decode cc pc = .ok (.pop, 1)) (hv : v.category = 1) (k : Sim cc own fr lo ret isI Γ ι X S (pc + 1) L (st)) : Sim cc own fr lo ret isI Γ ι X S pc L (v :: st) := by
  obtain ⟨p, l, e, R, s, m, args, below, meth, c, nL, D, cs, z, mc, ms, z0, q0⟩ := Γ
  intro r S' hX
  have k := k r S' hX
  refine ⟨k.1, fun C hm hq H locs ls cl sl h1 h2 hr hS hL => ?_⟩
  obtain ⟨hx, hb, hml, hown, hts, hK, hlk, ⟨rc, rs, rfl, hrc, hrs⟩, hret, hnw, hisI⟩ := id C
  exact lv_pop hx hb hd hv (k.2 C hm hq H locs ls cl sl h1 h2 hr hS hL)
theorem s_dup_x1 {v u : Value} (hd : decode cc pc = .ok (.dup_x1, 1)) (hv : v.category = 1) (hu : u.category = 1) (k : Sim cc own fr lo ret isI Γ ι X S (pc + 1) L (v :: u :: v :: st)) : Sim cc own fr lo ret isI Γ ι X S pc L (v :: u :: st) := by
  obtain ⟨p, l, e, R, s, m, args, below, meth, c, nL, D, cs, z, mc, ms, z0, q0⟩ := Γ
  intro r S' hX
  have k := k r S' hX
  refine ⟨k.1, fun C hm hq H locs ls cl sl h1 h2 hr hS hL => ?_⟩
  obtain ⟨hx, hb, hml, hown, hts, hK, hlk, ⟨rc, rs, rfl, hrc, hrs⟩, hret, hnw, hisI⟩ := id C
  exact lv_dup_x1 hx hb hd hv hu (k.2 C hm hq H locs ls cl sl h1 h2 hr hS hL)
theorem s_dup2 {v u : Value} (hd : decode cc pc = .ok (.dup2, 1)) (hv : v.category = 1) (hu : u.category = 1) (k : Sim cc own fr lo ret isI Γ ι X S (pc + 1) L (v :: u :: v :: u :: st)) : Sim cc own fr lo ret isI Γ ι X S pc L (v :: u :: st) := by
  obtain ⟨p, l, e, R, s, m, args, below, meth, c, nL, D, cs, z, mc, ms, z0, q0⟩ := Γ
  intro r S' hX
  have k := k r S' hX
  refine ⟨k.1, fun C hm hq H locs ls cl sl h1 h2 hr hS hL => ?_⟩
  obtain ⟨hx, hb, hml, hown, hts, hK, hlk, ⟨rc, rs, rfl, hrc, hrs⟩, hret, hnw, hisI⟩ := id C
  exact lv_dup2_11 hx hb hd hv hu (k.2 C hm hq H locs ls cl sl h1 h2 hr hS hL)
theorem s_dup2l {v : Value} (hd : decode cc pc = .ok (.dup2, 1)) (hv : v.category = 2) (k : Sim cc own fr lo ret isI Γ ι X S (pc + 1) L (v :: v :: st)) : Sim cc own fr lo ret isI Γ ι X S pc L (v :: st) := by
  obtain ⟨p, l, e, R, s, m, args, below, meth, c, nL, D, cs, z, mc, ms, z0, q0⟩ := Γ
  intro r S' hX
  have k := k r S' hX
  refine ⟨k.1, fun C hm hq H locs ls cl sl h1 h2 hr hS hL => ?_⟩
  obtain ⟨hx, hb, hml, hown, hts, hK, hlk, ⟨rc, rs, rfl, hrc, hrs⟩, hret, hnw, hisI⟩ := id C
  exact lv_dup2_2 hx hb hd hv (k.2 C hm hq H locs ls cl sl h1 h2 hr hS hL)
theorem s_dup_x2 {v u t : Value} (hd : decode cc pc = .ok (.dup_x2, 1)) (hv : v.category = 1) (hu : u.category = 1) (ht : t.category = 1) (k : Sim cc own fr lo ret isI Γ ι X S (pc + 1) L (v :: u :: t :: v :: st)) : Sim cc own fr lo ret isI Γ ι X S pc L (v :: u :: t :: st) := by
  obtain ⟨p, l, e, R, s, m, args, below, meth, c, nL, D, cs, z, mc, ms, z0, q0⟩ := Γ
  intro r S' hX
  have k := k r S' hX
  refine ⟨k.1, fun C hm hq H locs ls cl sl h1 h2 hr hS hL => ?_⟩
  obtain ⟨hx, hb, hml, hown, hts, hK, hlk, ⟨rc, rs, rfl, hrc, hrs⟩, hret, hnw, hisI⟩ := id C
  exact lv_dup_x2 hx hb hd hv hu ht (k.2 C hm hq H locs ls cl sl h1 h2 hr hS hL)
theorem s_dup2_x1l {v u : Value} (hd : decode cc pc = .ok (.dup2_x1, 1)) (hv : v.category = 2) (hu : u.category = 1) (k : Sim cc own fr lo ret isI Γ ι X S (pc + 1) L (v :: u :: v :: st)) : Sim cc own fr lo ret isI Γ ι X S pc L (v :: u :: st) := by
  obtain ⟨p, l, e, R, s, m, args, below, meth, c, nL, D, cs, z, mc, ms, z0, q0⟩ := Γ
  intro r S' hX
  have k := k r S' hX
  refine ⟨k.1, fun C hm hq H locs ls cl sl h1 h2 hr hS hL => ?_⟩
  obtain ⟨hx, hb, hml, hown, hts, hK, hlk, ⟨rc, rs, rfl, hrc, hrs⟩, hret, hnw, hisI⟩ := id C
  exact lv_dup2_x1_2 hx hb hd hv hu (k.2 C hm hq H locs ls cl sl h1 h2 hr hS hL)
theorem s_goto {off : Int} (tgt : Nat) (hd : decode cc pc = .ok (.goto off, 3)) (ht : (pc : Int) + off = (tgt : Int)) (k : Sim cc own fr lo ret isI Γ ι X S tgt L st) : Sim cc own fr lo ret isI Γ ι X S pc L st := by
  obtain ⟨p, l, e, R, s, m, args, below, meth, c, nL, D, cs, z, mc, ms, z0, q0⟩ := Γ
  intro r S' hX
  have k := k r S' hX
  refine ⟨k.1, fun C hm hq H locs ls cl sl h1 h2 hr hS hL => ?_⟩
  obtain ⟨hx, hb, hml, hown, hts, hK, hlk, ⟨rc, rs, rfl, hrc, hrs⟩, hret, hnw, hisI⟩ := id C
  exact lv_goto hx hb hd ht (k.2 C hm hq H locs ls cl sl h1 h2 hr hS hL)
theorem s_if_eq {x : Int32} {off : Int} (tgt : Nat) {A B : Option (α × Mem)} (hd : decode cc pc = .ok (.ifCond .eq off, 3)) (ht : (pc : Int) + off = (tgt : Int)) (kt : x = 0 → Sim cc own fr lo ret isI Γ ι A S tgt L st) (kf : ¬ x = 0 → Sim cc own fr lo ret isI Γ ι B S (pc + 3) L st) : Sim cc own fr lo ret isI Γ ι (if x = 0 then A else B) S pc L (.int x :: st) := by
  obtain ⟨p, l, e, R, s, m, args, below, meth, c, nL, D, cs, z, mc, ms, z0, q0⟩ := Γ
  intro r S' hX
  have mono : mZ S ≤ mZ S' ∧ mQ S ≤ mQ S' := by
    by_cases h : x = 0
    · rw [if_pos h] at hX; exact (kt h r S' hX).1
    · rw [if_neg h] at hX; exact (kf h r S' hX).1
  refine ⟨mono, fun C hm hq H locs ls cl sl h1 h2 hr hS hL => ?_⟩
  obtain ⟨hx, hb, hml, hown, hts, hK, hlk, ⟨rc, rs, rfl, hrc, hrs⟩, hret, hnw, hisI⟩ := id C
  refine lv_if_eq hx hb hd ht (fun h => ?_) (fun h => ?_)
  · rw [if_pos h] at hX; exact (kt h r S' hX).2 C hm hq H locs ls cl sl h1 h2 hr hS hL
  · rw [if_neg h] at hX; exact (kf h r S' hX).2 C hm hq H locs ls cl sl h1 h2 hr hS hL
theorem s_icmp_eq {x y : Int32} {off : Int} (tgt : Nat) {A B : Option (α × Mem)} (hd : decode cc pc = .ok (.if_icmp .eq off, 3)) (ht : (pc : Int) + off = (tgt : Int)) (kt : x = y → Sim cc own fr lo ret isI Γ ι A S tgt L st) (kf : ¬ x = y → Sim cc own fr lo ret isI Γ ι B S (pc + 3) L st) : Sim cc own fr lo ret isI Γ ι (if x = y then A else B) S pc L (.int y :: .int x :: st) := by
  obtain ⟨p, l, e, R, s, m, args, below, meth, c, nL, D, cs, z, mc, ms, z0, q0⟩ := Γ
  intro r S' hX
  have mono : mZ S ≤ mZ S' ∧ mQ S ≤ mQ S' := by
    by_cases h : x = y
    · rw [if_pos h] at hX; exact (kt h r S' hX).1
    · rw [if_neg h] at hX; exact (kf h r S' hX).1
  refine ⟨mono, fun C hm hq H locs ls cl sl h1 h2 hr hS hL => ?_⟩
  obtain ⟨hx, hb, hml, hown, hts, hK, hlk, ⟨rc, rs, rfl, hrc, hrs⟩, hret, hnw, hisI⟩ := id C
  refine lv_icmp_eq hx hb hd ht (fun h => ?_) (fun h => ?_)
  · rw [if_pos h] at hX; exact (kt h r S' hX).2 C hm hq H locs ls cl sl h1 h2 hr hS hL
  · rw [if_neg h] at hX; exact (kf h r S' hX).2 C hm hq H locs ls cl sl h1 h2 hr hS hL
theorem s_if_ne {x : Int32} {off : Int} (tgt : Nat) {A B : Option (α × Mem)} (hd : decode cc pc = .ok (.ifCond .ne off, 3)) (ht : (pc : Int) + off = (tgt : Int)) (kt : ¬ x = 0 → Sim cc own fr lo ret isI Γ ι B S tgt L st) (kf : x = 0 → Sim cc own fr lo ret isI Γ ι A S (pc + 3) L st) : Sim cc own fr lo ret isI Γ ι (if x = 0 then A else B) S pc L (.int x :: st) := by
  obtain ⟨p, l, e, R, s, m, args, below, meth, c, nL, D, cs, z, mc, ms, z0, q0⟩ := Γ
  intro r S' hX
  have mono : mZ S ≤ mZ S' ∧ mQ S ≤ mQ S' := by
    by_cases h : x = 0
    · rw [if_pos h] at hX; exact (kf h r S' hX).1
    · rw [if_neg h] at hX; exact (kt h r S' hX).1
  refine ⟨mono, fun C hm hq H locs ls cl sl h1 h2 hr hS hL => ?_⟩
  obtain ⟨hx, hb, hml, hown, hts, hK, hlk, ⟨rc, rs, rfl, hrc, hrs⟩, hret, hnw, hisI⟩ := id C
  refine lv_if_ne hx hb hd ht (fun h => ?_) (fun h => ?_)
  · rw [if_neg h] at hX; exact (kt h r S' hX).2 C hm hq H locs ls cl sl h1 h2 hr hS hL
  · rw [if_pos h] at hX; exact (kf h r S' hX).2 C hm hq H locs ls cl sl h1 h2 hr hS hL
theorem s_icmp_ne {x y : Int32} {off : Int} (tgt : Nat) {A B : Option (α × Mem)} (hd : decode cc pc = .ok (.if_icmp .ne off, 3)) (ht : (pc : Int) + off = (tgt : Int)) (kt : ¬ x = y → Sim cc own fr lo ret isI Γ ι B S tgt L st) (kf : x = y → Sim cc own fr lo ret isI Γ ι A S (pc + 3) L st) : Sim cc own fr lo ret isI Γ ι (if x = y then A else B) S pc L (.int y :: .int x :: st) := by
  obtain ⟨p, l, e, R, s, m, args, below, meth, c, nL, D, cs, z, mc, ms, z0, q0⟩ := Γ
  intro r S' hX
  have mono : mZ S ≤ mZ S' ∧ mQ S ≤ mQ S' := by
    by_cases h : x = y
    · rw [if_pos h] at hX; exact (kf h r S' hX).1
    · rw [if_neg h] at hX; exact (kt h r S' hX).1
  refine ⟨mono, fun C hm hq H locs ls cl sl h1 h2 hr hS hL => ?_⟩
  obtain ⟨hx, hb, hml, hown, hts, hK, hlk, ⟨rc, rs, rfl, hrc, hrs⟩, hret, hnw, hisI⟩ := id C
  refine lv_icmp_ne hx hb hd ht (fun h => ?_) (fun h => ?_)
  · rw [if_neg h] at hX; exact (kt h r S' hX).2 C hm hq H locs ls cl sl h1 h2 hr hS hL
  · rw [if_pos h] at hX; exact (kf h r S' hX).2 C hm hq H locs ls cl sl h1 h2 hr hS hL
theorem s_if_lt {x : Int32} {off : Int} (tgt : Nat) {A B : Option (α × Mem)} (hd : decode cc pc = .ok (.ifCond .lt off, 3)) (ht : (pc : Int) + off = (tgt : Int)) (kt : x < 0 → Sim cc own fr lo ret isI Γ ι A S tgt L st) (kf : ¬ x < 0 → Sim cc own fr lo ret isI Γ ι B S (pc + 3) L st) : Sim cc own fr lo ret isI Γ ι (if x < 0 then A else B) S pc L (.int x :: st) := by
  obtain ⟨p, l, e, R, s, m, args, below, meth, c, nL, D, cs, z, mc, ms, z0, q0⟩ := Γ
  intro r S' hX
  have mono : mZ S ≤ mZ S' ∧ mQ S ≤ mQ S' := by
    by_cases h : x < 0
    · rw [if_pos h] at hX; exact (kt h r S' hX).1
    · rw [if_neg h] at hX; exact (kf h r S' hX).1
  refine ⟨mono, fun C hm hq H locs ls cl sl h1 h2 hr hS hL => ?_⟩
  obtain ⟨hx, hb, hml, hown, hts, hK, hlk, ⟨rc, rs, rfl, hrc, hrs⟩, hret, hnw, hisI⟩ := id C
  refine lv_if_lt hx hb hd ht (fun h => ?_) (fun h => ?_)
  · rw [if_pos h] at hX; exact (kt h r S' hX).2 C hm hq H locs ls cl sl h1 h2 hr hS hL
  · rw [if_neg h] at hX; exact (kf h r S' hX).2 C hm hq H locs ls cl sl h1 h2 hr hS hL
theorem s_icmp_lt {x y : Int32} {off : Int} (tgt : Nat) {A B : Option (α × Mem)} (hd : decode cc pc = .ok (.if_icmp .lt off, 3)) (ht : (pc : Int) + off = (tgt : Int)) (kt : x < y → Sim cc own fr lo ret isI Γ ι A S tgt L st) (kf : ¬ x < y → Sim cc own fr lo ret isI Γ ι B S (pc + 3) L st) : Sim cc own fr lo ret isI Γ ι (if x < y then A else B) S pc L (.int y :: .int x :: st) := by
  obtain ⟨p, l, e, R, s, m, args, below, meth, c, nL, D, cs, z, mc, ms, z0, q0⟩ := Γ
  intro r S' hX
  have mono : mZ S ≤ mZ S' ∧ mQ S ≤ mQ S' := by
    by_cases h : x < y
    · rw [if_pos h] at hX; exact (kt h r S' hX).1
    · rw [if_neg h] at hX; exact (kf h r S' hX).1
  refine ⟨mono, fun C hm hq H locs ls cl sl h1 h2 hr hS hL => ?_⟩
  obtain ⟨hx, hb, hml, hown, hts, hK, hlk, ⟨rc, rs, rfl, hrc, hrs⟩, hret, hnw, hisI⟩ := id C
  refine lv_icmp_lt hx hb hd ht (fun h => ?_) (fun h => ?_)
  · rw [if_pos h] at hX; exact (kt h r S' hX).2 C hm hq H locs ls cl sl h1 h2 hr hS hL
  · rw [if_neg h] at hX; exact (kf h r S' hX).2 C hm hq H locs ls cl sl h1 h2 hr hS hL
theorem s_if_ge {x : Int32} {off : Int} (tgt : Nat) {A B : Option (α × Mem)} (hd : decode cc pc = .ok (.ifCond .ge off, 3)) (ht : (pc : Int) + off = (tgt : Int)) (kt : 0 ≤ x → Sim cc own fr lo ret isI Γ ι A S tgt L st) (kf : ¬ 0 ≤ x → Sim cc own fr lo ret isI Γ ι B S (pc + 3) L st) : Sim cc own fr lo ret isI Γ ι (if 0 ≤ x then A else B) S pc L (.int x :: st) := by
  obtain ⟨p, l, e, R, s, m, args, below, meth, c, nL, D, cs, z, mc, ms, z0, q0⟩ := Γ
  intro r S' hX
  have mono : mZ S ≤ mZ S' ∧ mQ S ≤ mQ S' := by
    by_cases h : 0 ≤ x
    · rw [if_pos h] at hX; exact (kt h r S' hX).1
    · rw [if_neg h] at hX; exact (kf h r S' hX).1
  refine ⟨mono, fun C hm hq H locs ls cl sl h1 h2 hr hS hL => ?_⟩
  obtain ⟨hx, hb, hml, hown, hts, hK, hlk, ⟨rc, rs, rfl, hrc, hrs⟩, hret, hnw, hisI⟩ := id C
  refine lv_if_ge hx hb hd ht (fun h => ?_) (fun h => ?_)
  · rw [if_pos h] at hX; exact (kt h r S' hX).2 C hm hq H locs ls cl sl h1 h2 hr hS hL
  · rw [if_neg h] at hX; exact (kf h r S' hX).2 C hm hq H locs ls cl sl h1 h2 hr hS hL
theorem s_icmp_ge {x y : Int32} {off : Int} (tgt : Nat) {A B : Option (α × Mem)} (hd : decode cc pc = .ok (.if_icmp .ge off, 3)) (ht : (pc : Int) + off = (tgt : Int)) (kt : y ≤ x → Sim cc own fr lo ret isI Γ ι A S tgt L st) (kf : ¬ y ≤ x → Sim cc own fr lo ret isI Γ ι B S (pc + 3) L st) : Sim cc own fr lo ret isI Γ ι (if y ≤ x then A else B) S pc L (.int y :: .int x :: st) := by
  obtain ⟨p, l, e, R, s, m, args, below, meth, c, nL, D, cs, z, mc, ms, z0, q0⟩ := Γ
  intro r S' hX
  have mono : mZ S ≤ mZ S' ∧ mQ S ≤ mQ S' := by
    by_cases h : y ≤ x
    · rw [if_pos h] at hX; exact (kt h r S' hX).1
    · rw [if_neg h] at hX; exact (kf h r S' hX).1
  refine ⟨mono, fun C hm hq H locs ls cl sl h1 h2 hr hS hL => ?_⟩
  obtain ⟨hx, hb, hml, hown, hts, hK, hlk, ⟨rc, rs, rfl, hrc, hrs⟩, hret, hnw, hisI⟩ := id C
  refine lv_icmp_ge hx hb hd ht (fun h => ?_) (fun h => ?_)
  · rw [if_pos h] at hX; exact (kt h r S' hX).2 C hm hq H locs ls cl sl h1 h2 hr hS hL
  · rw [if_neg h] at hX; exact (kf h r S' hX).2 C hm hq H locs ls cl sl h1 h2 hr hS hL
theorem s_if_gt {x : Int32} {off : Int} (tgt : Nat) {A B : Option (α × Mem)} (hd : decode cc pc = .ok (.ifCond .gt off, 3)) (ht : (pc : Int) + off = (tgt : Int)) (kt : 0 < x → Sim cc own fr lo ret isI Γ ι A S tgt L st) (kf : ¬ 0 < x → Sim cc own fr lo ret isI Γ ι B S (pc + 3) L st) : Sim cc own fr lo ret isI Γ ι (if 0 < x then A else B) S pc L (.int x :: st) := by
  obtain ⟨p, l, e, R, s, m, args, below, meth, c, nL, D, cs, z, mc, ms, z0, q0⟩ := Γ
  intro r S' hX
  have mono : mZ S ≤ mZ S' ∧ mQ S ≤ mQ S' := by
    by_cases h : 0 < x
    · rw [if_pos h] at hX; exact (kt h r S' hX).1
    · rw [if_neg h] at hX; exact (kf h r S' hX).1
  refine ⟨mono, fun C hm hq H locs ls cl sl h1 h2 hr hS hL => ?_⟩
  obtain ⟨hx, hb, hml, hown, hts, hK, hlk, ⟨rc, rs, rfl, hrc, hrs⟩, hret, hnw, hisI⟩ := id C
  refine lv_if_gt hx hb hd ht (fun h => ?_) (fun h => ?_)
  · rw [if_pos h] at hX; exact (kt h r S' hX).2 C hm hq H locs ls cl sl h1 h2 hr hS hL
  · rw [if_neg h] at hX; exact (kf h r S' hX).2 C hm hq H locs ls cl sl h1 h2 hr hS hL
theorem s_icmp_gt {x y : Int32} {off : Int} (tgt : Nat) {A B : Option (α × Mem)} (hd : decode cc pc = .ok (.if_icmp .gt off, 3)) (ht : (pc : Int) + off = (tgt : Int)) (kt : y < x → Sim cc own fr lo ret isI Γ ι A S tgt L st) (kf : ¬ y < x → Sim cc own fr lo ret isI Γ ι B S (pc + 3) L st) : Sim cc own fr lo ret isI Γ ι (if y < x then A else B) S pc L (.int y :: .int x :: st) := by
  obtain ⟨p, l, e, R, s, m, args, below, meth, c, nL, D, cs, z, mc, ms, z0, q0⟩ := Γ
  intro r S' hX
  have mono : mZ S ≤ mZ S' ∧ mQ S ≤ mQ S' := by
    by_cases h : y < x
    · rw [if_pos h] at hX; exact (kt h r S' hX).1
    · rw [if_neg h] at hX; exact (kf h r S' hX).1
  refine ⟨mono, fun C hm hq H locs ls cl sl h1 h2 hr hS hL => ?_⟩
  obtain ⟨hx, hb, hml, hown, hts, hK, hlk, ⟨rc, rs, rfl, hrc, hrs⟩, hret, hnw, hisI⟩ := id C
  refine lv_icmp_gt hx hb hd ht (fun h => ?_) (fun h => ?_)
  · rw [if_pos h] at hX; exact (kt h r S' hX).2 C hm hq H locs ls cl sl h1 h2 hr hS hL
  · rw [if_neg h] at hX; exact (kf h r S' hX).2 C hm hq H locs ls cl sl h1 h2 hr hS hL
theorem s_if_le {x : Int32} {off : Int} (tgt : Nat) {A B : Option (α × Mem)} (hd : decode cc pc = .ok (.ifCond .le off, 3)) (ht : (pc : Int) + off = (tgt : Int)) (kt : x ≤ 0 → Sim cc own fr lo ret isI Γ ι A S tgt L st) (kf : ¬ x ≤ 0 → Sim cc own fr lo ret isI Γ ι B S (pc + 3) L st) : Sim cc own fr lo ret isI Γ ι (if x ≤ 0 then A else B) S pc L (.int x :: st) := by
  obtain ⟨p, l, e, R, s, m, args, below, meth, c, nL, D, cs, z, mc, ms, z0, q0⟩ := Γ
  intro r S' hX
  have mono : mZ S ≤ mZ S' ∧ mQ S ≤ mQ S' := by
    by_cases h : x ≤ 0
    · rw [if_pos h] at hX; exact (kt h r S' hX).1
    · rw [if_neg h] at hX; exact (kf h r S' hX).1
  refine ⟨mono, fun C hm hq H locs ls cl sl h1 h2 hr hS hL => ?_⟩
  obtain ⟨hx, hb, hml, hown, hts, hK, hlk, ⟨rc, rs, rfl, hrc, hrs⟩, hret, hnw, hisI⟩ := id C
  refine lv_if_le hx hb hd ht (fun h => ?_) (fun h => ?_)
  · rw [if_pos h] at hX; exact (kt h r S' hX).2 C hm hq H locs ls cl sl h1 h2 hr hS hL
  · rw [if_neg h] at hX; exact (kf h r S' hX).2 C hm hq H locs ls cl sl h1 h2 hr hS hL
theorem s_icmp_le {x y : Int32} {off : Int} (tgt : Nat) {A B : Option (α × Mem)} (hd : decode cc pc = .ok (.if_icmp .le off, 3)) (ht : (pc : Int) + off = (tgt : Int)) (kt : x ≤ y → Sim cc own fr lo ret isI Γ ι A S tgt L st) (kf : ¬ x ≤ y → Sim cc own fr lo ret isI Γ ι B S (pc + 3) L st) : Sim cc own fr lo ret isI Γ ι (if x ≤ y then A else B) S pc L (.int y :: .int x :: st) := by
  obtain ⟨p, l, e, R, s, m, args, below, meth, c, nL, D, cs, z, mc, ms, z0, q0⟩ := Γ
  intro r S' hX
  have mono : mZ S ≤ mZ S' ∧ mQ S ≤ mQ S' := by
    by_cases h : x ≤ y
    · rw [if_pos h] at hX; exact (kt h r S' hX).1
    · rw [if_neg h] at hX; exact (kf h r S' hX).1
  refine ⟨mono, fun C hm hq H locs ls cl sl h1 h2 hr hS hL => ?_⟩
  obtain ⟨hx, hb, hml, hown, hts, hK, hlk, ⟨rc, rs, rfl, hrc, hrs⟩, hret, hnw, hisI⟩ := id C
  refine lv_icmp_le hx hb hd ht (fun h => ?_) (fun h => ?_)
  · rw [if_pos h] at hX; exact (kt h r S' hX).2 C hm hq H locs ls cl sl h1 h2 hr hS hL
  · rw [if_neg h] at hX; exact (kf h r S' hX).2 C hm hq H locs ls cl sl h1 h2 hr hS hL
theorem s_icmp_geT {x y : Int32} {off : Int} (tgt : Nat) (hd : decode cc pc = .ok (.if_icmp .ge off, 3)) (ht : (pc : Int) + off = (tgt : Int)) (h : y ≤ x) (k : Sim cc own fr lo ret isI Γ ι X S tgt L st) : Sim cc own fr lo ret isI Γ ι X S pc L (.int y :: .int x :: st) := by
  obtain ⟨p, l, e, R, s, m, args, below, meth, c, nL, D, cs, z, mc, ms, z0, q0⟩ := Γ
  intro r S' hX
  have k := k r S' hX
  refine ⟨k.1, fun C hm hq H locs ls cl sl h1 h2 hr hS hL => ?_⟩
  obtain ⟨hx, hb, hml, hown, hts, hK, hlk, ⟨rc, rs, rfl, hrc, hrs⟩, hret, hnw, hisI⟩ := id C
  exact lv_icmp_ge hx hb hd ht (fun _ => (k.2 C hm hq H locs ls cl sl h1 h2 hr hS hL)) (fun q => absurd h q)
theorem s_icmp_geF {x y : Int32} {off : Int} (tgt : Nat) (hd : decode cc pc = .ok (.if_icmp .ge off, 3)) (ht : (pc : Int) + off = (tgt : Int)) (h : ¬ y ≤ x) (k : Sim cc own fr lo ret isI Γ ι X S (pc + 3) L st) : Sim cc own fr lo ret isI Γ ι X S pc L (.int y :: .int x :: st) := by
  obtain ⟨p, l, e, R, s, m, args, below, meth, c, nL, D, cs, z, mc, ms, z0, q0⟩ := Γ
  intro r S' hX
  have k := k r S' hX
  refine ⟨k.1, fun C hm hq H locs ls cl sl h1 h2 hr hS hL => ?_⟩
  obtain ⟨hx, hb, hml, hown, hts, hK, hlk, ⟨rc, rs, rfl, hrc, hrs⟩, hret, hnw, hisI⟩ := id C
  exact lv_icmp_ge hx hb hd ht (fun q => absurd q h) (fun _ => (k.2 C hm hq H locs ls cl sl h1 h2 hr hS hL))
theorem s_tsOut {dflt tlo thi : Int} {offs : Array Int} {len : Nat} {x : Int32} (tgt : Nat) (hd : decode cc pc = .ok (.tableswitch dflt tlo thi offs, len)) (h : x.toInt < tlo ∨ thi < x.toInt) (ht : (pc : Int) + dflt = (tgt : Int)) (k : Sim cc own fr lo ret isI Γ ι X S tgt L st) : Sim cc own fr lo ret isI Γ ι X S pc L (.int x :: st) := by
  obtain ⟨p, l, e, R, s, m, args, below, meth, c, nL, D, cs, z, mc, ms, z0, q0⟩ := Γ
  intro r S' hX
  have k := k r S' hX
  refine ⟨k.1, fun C hm hq H locs ls cl sl h1 h2 hr hS hL => ?_⟩
  obtain ⟨hx, hb, hml, hown, hts, hK, hlk, ⟨rc, rs, rfl, hrc, hrs⟩, hret, hnw, hisI⟩ := id C
  exact lv_tableOut hx hb hd h ht (k.2 C hm hq H locs ls cl sl h1 h2 hr hS hL)
theorem s_tsIn {dflt tlo thi : Int} {offs : Array Int} {len : Nat} {x : Int32} {off : Int} (tgt : Nat) (hd : decode cc pc = .ok (.tableswitch dflt tlo thi offs, len)) (h3 : ¬ x.toInt < tlo) (h4 : ¬ thi < x.toInt) (ho : offs[(x.toInt - tlo).toNat]? = some off) (ht : (pc : Int) + off = (tgt : Int)) (k : Sim cc own fr lo ret isI Γ ι X S tgt L st) : Sim cc own fr lo ret isI Γ ι X S pc L (.int x :: st) := by
  obtain ⟨p, l, e, R, s, m, args, below, meth, c, nL, D, cs, z, mc, ms, z0, q0⟩ := Γ
  intro r S' hX
  have k := k r S' hX
  refine ⟨k.1, fun C hm hq H locs ls cl sl h1 h2 hr hS hL => ?_⟩
  obtain ⟨hx, hb, hml, hown, hts, hK, hlk, ⟨rc, rs, rfl, hrc, hrs⟩, hret, hnw, hisI⟩ := id C
  exact lv_tableIn hx hb hd h3 h4 ho ht (k.2 C hm hq H locs ls cl sl h1 h2 hr hS hL)
end ROWS
