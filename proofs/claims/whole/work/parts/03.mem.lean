/-! the memory: kind, length, whole numbers, longs, references of every cell by its address; the next free address -/
abbrev Mem : Type := (Nat → Nat) × (Nat → Nat) × (Nat → Nat → Int32) × (Nat → Nat → Int64) × (Nat → Nat → Option Nat) × Nat × Nat × Nat × Nat × Nat
def mK (S : Mem) : Nat → Nat := S.1
def mN (S : Mem) : Nat → Nat := S.2.1
def mI (S : Mem) : Nat → Nat → Int32 := S.2.2.1
def mJ (S : Mem) : Nat → Nat → Int64 := S.2.2.2.1
def mR (S : Mem) : Nat → Nat → Option Nat := S.2.2.2.2.1
def mZ (S : Mem) : Nat := S.2.2.2.2.2.1
/-- where Sky's row UNTOLD lies -/
def mU (S : Mem) : Nat := S.2.2.2.2.2.2.1
/-- how many places were made so far -/
def mQ (S : Mem) : Nat := S.2.2.2.2.2.2.2.1
/-- where the text of the tokens' words lies -/
def mT (S : Mem) : Nat := S.2.2.2.2.2.2.2.2.1
/-- and its bytes -/
def mB (S : Mem) : Nat := S.2.2.2.2.2.2.2.2.2
def txB : List Int32 := [119, 105, 110, 100, 32, 114, 117, 108, 101, 32, 108, 97, 109, 112, 32, 104, 97, 117, 108, 32, 116, 105, 114, 101, 100, 32, 103, 117, 115, 116, 115, 32, 107, 105, 116, 101, 32, 97, 116, 32, 108, 105, 102, 116, 32, 108, 101, 97, 115, 116, 32, 108, 111, 110, 103, 32, 112, 108, 97, 105, 110, 32, 98, 111, 120, 32, 116, 97, 105, 108, 32, 104, 101, 97, 118, 121, 32, 100, 101, 97, 102, 32, 108, 97, 122, 121, 32, 110, 111, 116, 32, 97, 110, 100, 32, 111, 114, 32, 104, 105, 103, 104, 32, 109, 105, 110, 117, 116, 101, 32, 103, 117, 115, 116, 32, 112, 117, 108, 108, 32, 108, 101, 97, 110, 32]
def u2 {α : Type} (f : Nat → Nat → α) (a k : Nat) (v : α) : Nat → Nat → α := fun b j => if b = a ∧ j = k then v else f b j
def u1 {α : Type} (f : Nat → α) (a : Nat) (v : α) : Nat → α := fun b => if b = a then v else f b
def pI (S : Mem) (a k : Nat) (v : Int32) : Mem := (S.1, S.2.1, u2 S.2.2.1 a k v, S.2.2.2)
def pJ (S : Mem) (a k : Nat) (v : Int64) : Mem := (S.1, S.2.1, S.2.2.1, u2 S.2.2.2.1 a k v, S.2.2.2.2)
def pR (S : Mem) (a k : Nat) (v : Option Nat) : Mem := (S.1, S.2.1, S.2.2.1, S.2.2.2.1, u2 S.2.2.2.2.1 a k v, S.2.2.2.2.2)
/-- a row of whole numbers anew, as a copy makes it -/
def pA (S : Mem) (a : Nat) (f : Nat → Int32) : Mem := (S.1, S.2.1, u1 S.2.2.1 a f, S.2.2.2)
/-- the kinds: nine kinds of objects, then rows: 9 bytes, 10 ints, 11 longs, 12 booleans, 13 nights; 14: a row of ints that was there before; 15: no cell -/
abbrev vwCl : List vw_C := [(RX0, TX0, 10), (RX1, TX1, 8), (RX2, TX2, 10), (RX3, TX3, 2), (RX4, TX4, 16), (RX5, TX5, 12), (RX6, TX6, 8), (RX8, TX8, 9), (RX9, TX9, 52)]
def szOf (ci : Nat) : Nat := match ci with
  | 0 => 10
  | 1 => 8
  | 2 => 10
  | 3 => 2
  | 4 => 16
  | 5 => 12
  | 6 => 8
  | 7 => 9
  | _ => 52
def pNew (S : Mem) (kd n : Nat) : Mem := (u1 S.1 (mZ S) kd, u1 S.2.1 (mZ S) n, u1 S.2.2.1 (mZ S) (fun _ => 0), u1 S.2.2.2.1 (mZ S) (fun _ => 0), u1 S.2.2.2.2.1 (mZ S) (fun _ => none), mZ S + 1, mU S, mQ S + (if kd < 9 then szOf kd else n), mT S, mB S)
def clR (ci : Nat) : String := match ci with
  | 0 => RX0
  | 1 => RX1
  | 2 => RX2
  | 3 => RX3
  | 4 => RX4
  | 5 => RX5
  | 6 => RX6
  | 7 => RX8
  | _ => RX9
def clT (ci : Nat) : u_T := match ci with
  | 0 => TX0
  | 1 => TX1
  | 2 => TX2
  | 3 => TX3
  | 4 => TX4
  | 5 => TX5
  | 6 => TX6
  | 7 => TX8
  | _ => TX9
def tyOf (ci : Nat) : Nat → FieldType := match ci with
  | 0 => tyX0
  | 1 => tyX1
  | 2 => tyX2
  | 3 => tyX3
  | 4 => tyX4
  | 5 => tyX5
  | 6 => tyX6
  | 7 => tyX8
  | _ => tyX9
theorem ci_cases {P : Nat → Prop} (h0 : P 0) (h1 : P 1) (h2 : P 2) (h3 : P 3) (h4 : P 4) (h5 : P 5) (h6 : P 6) (h7 : P 7) (h8 : P 8) : ∀ ci, ci < 9 → P ci := by
  intro ci h
  match ci, h with
  | 0, _ => exact h0
  | 1, _ => exact h1
  | 2, _ => exact h2
  | 3, _ => exact h3
  | 4, _ => exact h4
  | 5, _ => exact h5
  | 6, _ => exact h6
  | 7, _ => exact h7
  | 8, _ => exact h8
  | n + 9, h => exact absurd h (by omega)
/-- the words that last -/
def lw_g : List Cond := lw_tbl.filter goodWord
theorem lw_in {w : Cond} (i : Nat) (h : lw_tbl[i]? = some w) (g : goodWord w = true) : w ∈ lw_g := List.mem_filter.mpr ⟨List.mem_of_getElem? h, g⟩
theorem lw_good : ∀ w ∈ lw_g, goodWord w = true := fun w h => (List.mem_filter.mp h).2
theorem lw_GoodIn {ws : List Cond} (h : ∀ w ∈ ws, w ∈ lw_g) : GoodIn lw_g ws := fun w hw => ⟨h w hw, good_of_word (lw_good w (h w hw))⟩
theorem cl_at : ∀ ci, ci < 9 → vwCl[ci]? = some (clR ci, clT ci, szOf ci) := ci_cases rfl rfl rfl rfl rfl rfl rfl rfl rfl
theorem inT : ∀ ci, ci < 9 → ∀ w ∈ u_ws (clR ci) (clT ci) (szOf ci), w ∈ lw_g :=
  ci_cases (by decide +kernel) (by decide +kernel) (by decide +kernel) (by decide +kernel) (by decide +kernel) (by decide +kernel) (by decide +kernel) (by decide +kernel) (by decide +kernel)
theorem tyT : ∀ ci, ci < 9 → ∀ k, k < szOf ci → parseFieldDescriptor (clT ci k).2.2.1 = some (tyOf ci k) :=
  ci_cases tyX0_ok tyX1_ok tyX2_ok tyX3_ok tyX4_ok tyX5_ok tyX6_ok tyX8_ok tyX9_ok
theorem nmT : ∀ ci, ci < 9 → ∀ a, a < szOf ci → ∀ b, b < szOf ci → a ≠ b → (clT ci a).2.1 ≠ (clT ci b).2.1 :=
  ci_cases nmX0 nmX1 nmX2 nmX3 nmX4 nmX5 nmX6 nmX8 nmX9
theorem inst_at : ∀ ci, ci < 9 → Cond.instantiable (clR ci) (szOf ci) ∈ lw_g :=
  ci_cases (by decide +kernel) (by decide +kernel) (by decide +kernel) (by decide +kernel) (by decide +kernel) (by decide +kernel) (by decide +kernel) (by decide +kernel) (by decide +kernel)
theorem init_at : ∀ ci, ci < 9 → Cond.initialized (clR ci) ∈ lw_g :=
  ci_cases (by decide +kernel) (by decide +kernel) (by decide +kernel) (by decide +kernel) (by decide +kernel) (by decide +kernel) (by decide +kernel) (by decide +kernel) (by decide +kernel)
/-- which types there are -/
def tI (ty : FieldType) : Bool := match ty with
  | .int => true
  | .boolean => true
  | _ => false
def tJ (ty : FieldType) : Bool := match ty with
  | .long => true
  | _ => false
def tR (ty : FieldType) : Bool := match ty with
  | .object _ => true
  | .array _ => true
  | _ => false
theorem ty_any : ∀ ci, ci < 9 → ∀ k, k < szOf ci → (tI (tyOf ci k) || (tJ (tyOf ci k) || tR (tyOf ci k))) = true :=
  ci_cases (by decide +kernel) (by decide +kernel) (by decide +kernel) (by decide +kernel) (by decide +kernel) (by decide +kernel) (by decide +kernel) (by decide +kernel) (by decide +kernel)
def entV (ty : FieldType) (S : Mem) (a k : Nat) : Value := match ty with
  | .long => .long (mJ S a k)
  | .object _ => va_rf (mR S a k)
  | .array _ => va_rf (mR S a k)
  | _ => .int (mI S a k)
theorem entV_I {ty : FieldType} (h : tI ty = true) (S : Mem) (a k : Nat) : entV ty S a k = .int (mI S a k) := by cases ty <;> first | rfl | cases h
theorem entV_J {ty : FieldType} (h : tJ ty = true) (S : Mem) (a k : Nat) : entV ty S a k = .long (mJ S a k) := by cases ty <;> first | rfl | cases h
theorem entV_R {ty : FieldType} (h : tR ty = true) (S : Mem) (a k : Nat) : entV ty S a k = va_rf (mR S a k) := by cases ty <;> first | rfl | cases h
theorem entV_0 {ty : FieldType} (h : (tI ty || (tJ ty || tR ty)) = true) {S : Mem} {a k : Nat} (hi : mI S a k = 0) (hj : mJ S a k = 0) (hr : mR S a k = none) : defaultValue ty = entV ty S a k := by
  cases ty <;> first | (simp [entV, hi, hj, hr, va_rf, defaultValue]; done) | (simp [tI, tJ, tR] at h; done)
theorem entV_eq {ty : FieldType} {S S' : Mem} {a k : Nat} (hi : mI S' a k = mI S a k) (hj : mJ S' a k = mJ S a k) (hr : mR S' a k = mR S a k) : entV ty S' a k = entV ty S a k := by
  cases ty <;> simp [entV, hi, hj, hr]
def arV (kd : Nat) (S : Mem) (a j : Nat) : Value := match kd with
  | 11 => .long (mJ S a j)
  | 13 => va_rf (mR S a j)
  | _ => .int (mI S a j)
theorem arV_eq {kd : Nat} {S S' : Mem} {a : Nat} (hi : mI S' a = mI S a) (hj : mJ S' a = mJ S a) (hr : mR S' a = mR S a) : arV kd S' a = arV kd S a := by
  funext j
  unfold arV
  rw [hi, hj, hr]
def hOb (D : va_G) (S : Mem) (a : Nat) (H : Heap) : Prop := t_OB a (D.1 (mK S a)) (szOf (mK S a)) (D.2 (mK S a)) H (fun k => entV (tyOf (mK S a) k) S a k)
def hAr (cs : Nat → ClassId) (S : Mem) (a : Nat) (H : Heap) : Prop := H[a]? = some (arrV (cs (mK S a)) (mN S a) (arV (mK S a) S a))
/-- what was there before: the text, its bytes, statics of the JDK -/
def hT (cs : Nat → ClassId) (z : Nat) (U : State) (S : Mem) (H : Heap) : Prop :=
  (mT S = cs 20 ∧ mB S = cs 22) ∧ (va_O "java/lang/String" (mT S) (fun q => z ≤ q) U H ∧ va_OF "java/lang/String" "coder" "B" (.int 0) (mT S) (fun q => z ≤ q) U H ∧ va_OF "java/lang/String" "value" "[B" (.ref (mB S)) (mT S) (fun q => z ≤ q) U H) ∧
  va_T .byte (mB S) 125 (fun j => .int (txB.getD j 0)) (fun q => z ≤ q) U H ∧ va_Z "java/lang/String" "COMPACT_STRINGS" "Z" (.int 1) (fun q => z ≤ q) U H ∧ va_Zq "jdk/internal/util/Preconditions" "SIOOBE_FORMATTER" "Ljava/util/function/BiFunction;" (fun q => z ≤ q) U H ∧ vx_Zq Bundle.tN "UNASSIGNED_STACK" Bundle.steD (fun q => z ≤ q) U H ∧ vx_Zq Bundle.tN "SUPPRESSED_SENTINEL" Bundle.listD (fun q => z ≤ q) U H
theorem hT.moved {cs : Nat → ClassId} {z : Nat} {u U : State} {S : Mem} {H : Heap} (hvm : u.vm.Alike U.vm) (h : hT cs z u S H) : hT cs z U S H :=
  ⟨h.1, ⟨va_O.moved hvm h.2.1.1, va_OF.moved hvm h.2.1.2.1, va_OF.moved hvm h.2.1.2.2⟩, va_T.moved hvm h.2.2.1, h.2.2.2.1.moved hvm, h.2.2.2.2.1.imp (fun q => q.moved hvm) (fun q => q.imp (fun t q => q.moved hvm)), vx_Zq.moved hvm h.2.2.2.2.2.1, vx_Zq.moved hvm h.2.2.2.2.2.2⟩
theorem hT.kept {cs : Nat → ClassId} {z : Nat} {U : State} {S : Mem} {H H1 : Heap} (h : hT cs z U S H) (hq : ∀ a : Nat, a < H.size → ¬ z ≤ a → H1[a]? = H[a]?) : hT cs z U S H1 :=
  ⟨h.1, ⟨h.2.1.1.kept hq, h.2.1.2.1.kept hq, h.2.1.2.2.kept hq⟩, h.2.2.1.kept hq, h.2.2.2.1.kept hq, h.2.2.2.2.1.imp (fun q => q.kept hq) (fun q => q.imp (fun t q => q.kept hq)), h.2.2.2.2.2.1.kept hq, h.2.2.2.2.2.2.kept hq⟩
theorem hT.same {cs : Nat → ClassId} {z : Nat} {U : State} {S S' : Mem} {H : Heap} (h : hT cs z U S H) (ht : mT S' = mT S) (hb : mB S' = mB S) : hT cs z U S' H := by
  unfold hT
  rw [ht, hb]
  exact h
/-- the heap holds the memory -/
def hR (D : va_G) (cs : Nat → ClassId) (z : Nat) (U : State) (S : Mem) (H : Heap) : Prop :=
  H.size = mZ S ∧ z ≤ mZ S ∧ (∀ a, mK S a < 9 → z ≤ a ∧ hOb D S a H) ∧ (∀ a, 9 ≤ mK S a → mK S a < 14 → z ≤ a ∧ hAr cs S a H) ∧ (∀ a, mK S a = 14 → va_T .int a (mN S a) (fun j => .int (mI S a j)) (fun q => z ≤ q) U H) ∧ va_Z "KiteLamp$Sky" "UNTOLD" "[I" (.ref (mU S)) (fun q => z ≤ q) U H ∧ hT cs z U S H
theorem hOb_lt {D : va_G} {S : Mem} {a : Nat} {H : Heap} (h : hOb D S a H) : a < H.size := by
  obtain ⟨cell, h1, -⟩ := h
  exact (Array.getElem?_eq_some_iff.mp h1).1
theorem hAr_lt {cs : Nat → ClassId} {S : Mem} {a : Nat} {H : Heap} (h : hAr cs S a H) : a < H.size := (Array.getElem?_eq_some_iff.mp h).1
theorem hR.moved {D : va_G} {cs : Nat → ClassId} {z : Nat} {u U : State} {S : Mem} {H : Heap} (hvm : u.vm.Alike U.vm) (h : hR D cs z u S H) : hR D cs z U S H :=
  ⟨h.1, h.2.1, h.2.2.1, h.2.2.2.1, fun a ha => va_T.moved hvm (h.2.2.2.2.1 a ha), h.2.2.2.2.2.1.moved hvm, h.2.2.2.2.2.2.moved hvm⟩
/-- two memories that differ in the cell a alone -/
def Ag (S S' : Mem) (a : Nat) : Prop := mK S' = mK S ∧ mN S' = mN S ∧ (mZ S' = mZ S ∧ mU S' = mU S ∧ mT S' = mT S ∧ mB S' = mB S) ∧ ∀ b, b ≠ a → mI S' b = mI S b ∧ mJ S' b = mJ S b ∧ mR S' b = mR S b
theorem hR_upd {D : va_G} {cs : Nat → ClassId} {z : Nat} {U : State} {S S' : Mem} {H H1 : Heap} {a : Nat} (h : hR D cs z U S H) (hg : Ag S S' a) (hz : H1.size = H.size) (oq : ∀ q, q ≠ a → H1[q]? = H[q]?)
    (ho : mK S a < 9 → hOb D S' a H1) (ha : 9 ≤ mK S a → mK S a < 14 → hAr cs S' a H1) (hx : mK S a ≠ 14) (hza : z ≤ a) : hR D cs z U S' H1 := by
  obtain ⟨h1, h2, h3, h4, h5, h6, h7⟩ := h
  obtain ⟨g1, g2, ⟨g3, g3u, g3t, g3b⟩, g4⟩ := hg
  have oz : ∀ q : Nat, q < H.size → ¬ z ≤ q → H1[q]? = H[q]? := fun q _ hq => oq q (fun e => hq (by rw [e]; exact hza))
  refine ⟨by rw [hz, g3]; exact h1, by rw [g3]; exact h2, fun b hb => ?_, fun b hb hb2 => ?_, fun b hb => ?_, by rw [g3u]; exact h6.kept oz, (h7.kept oz).same g3t g3b⟩
  · rw [g1] at hb
    refine ⟨(h3 b hb).1, ?_⟩
    by_cases e : b = a
    · subst e; exact ho hb
    · obtain ⟨i1, i2, i3⟩ := g4 b e
      have q := (h3 b hb).2
      unfold hOb at q ⊢
      rw [g1]
      exact (q.kept (oq b e)).to (fun k _ => (entV_eq (by rw [i1]) (by rw [i2]) (by rw [i3])).symm)
  · rw [g1] at hb hb2
    refine ⟨(h4 b hb hb2).1, ?_⟩
    by_cases e : b = a
    · subst e; exact ha hb hb2
    · obtain ⟨i1, i2, i3⟩ := g4 b e
      have q := (h4 b hb hb2).2
      unfold hAr at q ⊢
      rw [g1, g2, arV_eq i1 i2 i3, oq b e]
      exact q
  · rw [g1] at hb
    have e : b ≠ a := fun e => hx (by rw [← e]; exact hb)
    obtain ⟨i1, i2, i3⟩ := g4 b e
    rw [g2, i1]
    exact (h5 b hb).kept oz
theorem hR_new {D : va_G} {cs : Nat → ClassId} {z : Nat} {U : State} {S : Mem} {H H1 : Heap} {kd n : Nat} (h : hR D cs z U S H) (hz : H1.size = H.size + 1) (oq : ∀ q, q < H.size → H1[q]? = H[q]?)
    (ho : kd < 9 → hOb D (pNew S kd n) (mZ S) H1) (ha : 9 ≤ kd → kd < 14 → hAr cs (pNew S kd n) (mZ S) H1) (hx : kd ≠ 14 ∧ kd ≠ 16 ∧ kd ≠ 17) : hR D cs z U (pNew S kd n) H1 := by
  obtain ⟨h1, h2, h3, h4, h5, h6, h7⟩ := h
  have k0 : mK (pNew S kd n) (mZ S) = kd := by simp [mK, pNew, u1]
  have kn : ∀ b, b ≠ mZ S → mK (pNew S kd n) b = mK S b ∧ mN (pNew S kd n) b = mN S b ∧ mI (pNew S kd n) b = mI S b ∧ mJ (pNew S kd n) b = mJ S b ∧ mR (pNew S kd n) b = mR S b := by
    intro b hb
    simp [mK, mN, mI, mJ, mR, pNew, u1, hb]
  have zz : mZ (pNew S kd n) = mZ S + 1 := rfl
  refine ⟨by rw [hz, zz, h1], by rw [zz]; omega, fun b hb => ?_, fun b hb hb2 => ?_, fun b hb => ?_, h6.kept (fun q hq _ => oq q hq), (h7.kept (fun q hq _ => oq q hq)).same rfl rfl⟩
  · by_cases e : b = mZ S
    · subst e; rw [k0] at hb; exact ⟨h2, ho hb⟩
    · obtain ⟨i0, i00, i1, i2, i3⟩ := kn b e
      rw [i0] at hb
      have q := (h3 b hb).2
      refine ⟨(h3 b hb).1, ?_⟩
      have hl := oq b (hOb_lt q)
      unfold hOb at q ⊢
      rw [i0]
      exact (q.kept hl).to (fun k _ => (entV_eq (by rw [i1]) (by rw [i2]) (by rw [i3])).symm)
  · by_cases e : b = mZ S
    · subst e; rw [k0] at hb hb2; exact ⟨h2, ha hb hb2⟩
    · obtain ⟨i0, i00, i1, i2, i3⟩ := kn b e
      rw [i0] at hb hb2
      have q := (h4 b hb hb2).2
      refine ⟨(h4 b hb hb2).1, ?_⟩
      have hl := oq b (hAr_lt q)
      unfold hAr at q ⊢
      rw [i0, i00, arV_eq i1 i2 i3, hl]
      exact q
  · by_cases e : b = mZ S
    · subst e; rw [k0] at hb; omega
    · obtain ⟨i0, i00, i1, i2, i3⟩ := kn b e
      rw [i0] at hb
      rw [i00, i1]
      exact (h5 b hb).kept (fun q hq _ => oq q hq)
theorem Ag_pI (S : Mem) (a k : Nat) (v : Int32) : Ag S (pI S a k v) a := ⟨rfl, rfl, ⟨rfl, rfl, rfl, rfl⟩, fun b hb => ⟨by funext j; simp [mI, pI, u2, hb], rfl, rfl⟩⟩
theorem Ag_pJ (S : Mem) (a k : Nat) (v : Int64) : Ag S (pJ S a k v) a := ⟨rfl, rfl, ⟨rfl, rfl, rfl, rfl⟩, fun b hb => ⟨rfl, by funext j; simp [mJ, pJ, u2, hb], rfl⟩⟩
theorem Ag_pR (S : Mem) (a k : Nat) (v : Option Nat) : Ag S (pR S a k v) a := ⟨rfl, rfl, ⟨rfl, rfl, rfl, rfl⟩, fun b hb => ⟨rfl, rfl, by funext j; simp [mR, pR, u2, hb]⟩⟩
theorem Ag_pA (S : Mem) (a : Nat) (f : Nat → Int32) : Ag S (pA S a f) a := ⟨rfl, rfl, ⟨rfl, rfl, rfl, rfl⟩, fun b hb => ⟨by simp [mI, pA, u1, hb], rfl, rfl⟩⟩
theorem pI_s (S : Mem) (a k : Nat) (v : Int32) : mI (pI S a k v) a k = v := by simp [mI, pI, u2]
theorem pI_n (S : Mem) {a k : Nat} (v : Int32) {j : Nat} (h : j ≠ k) : mI (pI S a k v) a j = mI S a j := by simp [mI, pI, u2, h]
theorem pJ_s (S : Mem) (a k : Nat) (v : Int64) : mJ (pJ S a k v) a k = v := by simp [mJ, pJ, u2]
theorem pJ_n (S : Mem) {a k : Nat} (v : Int64) {j : Nat} (h : j ≠ k) : mJ (pJ S a k v) a j = mJ S a j := by simp [mJ, pJ, u2, h]
theorem pR_s (S : Mem) (a k : Nat) (v : Option Nat) : mR (pR S a k v) a k = v := by simp [mR, pR, u2]
theorem pR_n (S : Mem) {a k : Nat} (v : Option Nat) {j : Nat} (h : j ≠ k) : mR (pR S a k v) a j = mR S a j := by simp [mR, pR, u2, h]
/-- what a method's code reads of an object's place k -/
def gI (S : Mem) (ci k a : Nat) : Option Int32 := if mK S a = ci then some (mI S a k) else none
def gJ (S : Mem) (ci k a : Nat) : Option Int64 := if mK S a = ci then some (mJ S a k) else none
def gR (S : Mem) (ci k a : Nat) : Option Nat := if mK S a = ci then mR S a k else none
def sI (S : Mem) (ci k a : Nat) (v : Int32) : Option Mem := if mK S a = ci then some (pI S a k v) else none
def sZ (S : Mem) (ci k a : Nat) (v : Int32) : Option Mem := if mK S a = ci ∧ (v = 0 ∨ v = 1) then some (pI S a k v) else none
def sJ (S : Mem) (ci k a : Nat) (v : Int64) : Option Mem := if mK S a = ci then some (pJ S a k v) else none
def sR (S : Mem) (ci k a : Nat) (v : Nat) : Option Mem := if mK S a = ci then some (pR S a k (some v)) else none
/-- rows -/
abbrev inB (i : Int32) (n : Nat) : Prop := ¬ i < 0 ∧ i.toNatClampNeg < n
theorem inB.vp {i : Int32} {n : Nat} (h : inB i n) : vp_in i n := fun q => q.elim h.1 (fun q => absurd q (Nat.not_le.mpr h.2))
def gA (S : Mem) (kd a : Nat) (i : Int32) : Option Int32 := if mK S a = kd ∧ inB i (mN S a) then some (mI S a i.toNatClampNeg) else none
def gAJ (S : Mem) (a : Nat) (i : Int32) : Option Int64 := if mK S a = 11 ∧ inB i (mN S a) then some (mJ S a i.toNatClampNeg) else none
def gAR (S : Mem) (a : Nat) (i : Int32) : Option Nat := if mK S a = 13 ∧ inB i (mN S a) then mR S a i.toNatClampNeg else none
def sA (S : Mem) (a : Nat) (i v : Int32) : Option Mem := if mK S a = 10 ∧ inB i (mN S a) then some (pI S a i.toNatClampNeg v) else none
def sAB (S : Mem) (a : Nat) (i v : Int32) : Option Mem := if mK S a = 9 ∧ inB i (mN S a) then some (pI S a i.toNatClampNeg (vp_nar .byte v)) else none
def sAZ (S : Mem) (a : Nat) (i v : Int32) : Option Mem := if mK S a = 12 ∧ inB i (mN S a) then some (pI S a i.toNatClampNeg (vp_nar .boolean v)) else none
def sAJ (S : Mem) (a : Nat) (i : Int32) (v : Int64) : Option Mem := if mK S a = 11 ∧ inB i (mN S a) then some (pJ S a i.toNatClampNeg v) else none
def gSV (S : Mem) (a : Nat) : Option Nat := if a = mT S then some (mB S) else none
def gSC (S : Mem) (a : Nat) : Option Int32 := if a = mT S then some 0 else none
def gT (S : Mem) (a : Nat) (i : Int32) : Option Int32 := if a = mB S ∧ inB i 125 then some (txB.getD i.toNatClampNeg 0) else none
def calT {α : Type} (S : Mem) (a : Nat) (X : Option α) : Option α := if a = mT S then X else none
def gLen (S : Mem) (a : Nat) : Option Int32 := if 9 ≤ mK S a ∧ mK S a < 15 then some (Int32.ofNat (mN S a)) else if a = mB S then some 125 else none
def nA (S : Mem) (kd : Nat) (n : Int32) : Option (Nat × Mem) := if ¬ n < 0 ∧ n.toNatClampNeg ≤ 8192 then some (mZ S, pNew S kd n.toNatClampNeg) else none
def sAR (S : Mem) (ci a : Nat) (i : Int32) (v : Nat) : Option Mem := if mK S a = 13 ∧ inB i (mN S a) ∧ mK S v = ci then some (pR S a i.toNatClampNeg (some v)) else none
/-- a call of a method of an object of kind ci -/
def cal {α : Type} (S : Mem) (ci a : Nat) (X : Option α) : Option α := if mK S a = ci then X else none
def lw_nest : List Cond := lw_tbl.filter (fun w => match w with
  | .methodLinkNest _ _ _ _ => true
  | .castable _ _ => true
  | .declares _ => true
  | _ => false)
/-- a field by its entry of a class's pool -/
def FK (own : String) (idx ci k : Nat) : Prop := ci < 9 ∧ k < szOf ci ∧ Cond.fieldLink own idx (clT ci k).1 (clT ci k).2.1 (clT ci k).2.2.1 ∈ lw_g
/-- a method by its entry of a class's pool -/
def MKV (own : String) (idx : Nat) (y : MethodName) (bytes : ByteArray) (maxL : Nat) (ret : Option FieldType) (n : Nat) : Prop :=
  Cond.methodLink own idx y ∈ lw_g ∧ Cond.instanceMethod y ∈ lw_g ∧ Cond.selects y.cls y y ∈ lw_g ∧ Cond.initialized y.cls ∈ lw_g ∧ Cond.code y bytes maxL ret ∈ lw_g ∧ (y.cls ≠ "java/lang/invoke/MethodHandle" ∧ y.cls ≠ "java/lang/invoke/VarHandle" ∧ (parseMethodDescriptor y.desc).map (fun d => d.parameters.length) = some n)
def MKS (own : String) (idx : Nat) (y : MethodName) (bytes : ByteArray) (maxL : Nat) (ret : Option FieldType) (n : Nat) : Prop :=
  Cond.methodLink own idx y ∈ lw_g ∧ Cond.static y ∈ lw_g ∧ Cond.initialized y.cls ∈ lw_g ∧ Cond.code y bytes maxL ret ∈ lw_g ∧ (y.cls ≠ "java/lang/invoke/MethodHandle" ∧ y.cls ≠ "java/lang/invoke/VarHandle" ∧ (parseMethodDescriptor y.desc).map (fun d => d.parameters.length) = some n)
def MKSN (own : String) (idx : Nat) (y : MethodName) (bytes : ByteArray) (maxL : Nat) (ret : Option FieldType) (n : Nat) : Prop :=
  (∃ host, Cond.methodLinkNest own idx y host ∈ lw_nest) ∧ Cond.static y ∈ lw_g ∧ Cond.initialized y.cls ∈ lw_g ∧ Cond.code y bytes maxL ret ∈ lw_g ∧ (y.cls ≠ "java/lang/invoke/MethodHandle" ∧ y.cls ≠ "java/lang/invoke/VarHandle" ∧ (parseMethodDescriptor y.desc).map (fun d => d.parameters.length) = some n)
def MKI (own : String) (idx : Nat) (y : MethodName) (bytes : ByteArray) (maxL : Nat) (ret : Option FieldType) (n : Nat) : Prop :=
  Cond.methodLink own idx y ∈ lw_g ∧ Cond.instanceMethod y ∈ lw_g ∧ y.name = "<init>" ∧ Cond.initialized y.cls ∈ lw_g ∧ (Cond.code y bytes maxL none ∈ lw_g ∧ ret = none) ∧ (y.cls ≠ "java/lang/invoke/MethodHandle" ∧ y.cls ≠ "java/lang/invoke/VarHandle" ∧ (parseMethodDescriptor y.desc).map (fun d => d.parameters.length) = some n)
def MKIN (own : String) (idx : Nat) (y : MethodName) (bytes : ByteArray) (maxL : Nat) (ret : Option FieldType) (n : Nat) : Prop :=
  (∃ host, Cond.methodLinkNest own idx y host ∈ lw_nest) ∧ Cond.instanceMethod y ∈ lw_g ∧ y.name = "<init>" ∧ Cond.initialized y.cls ∈ lw_g ∧ (Cond.code y bytes maxL none ∈ lw_g ∧ ret = none) ∧ (y.cls ≠ "java/lang/invoke/MethodHandle" ∧ y.cls ≠ "java/lang/invoke/VarHandle" ∧ (parseMethodDescriptor y.desc).map (fun d => d.parameters.length) = some n)
