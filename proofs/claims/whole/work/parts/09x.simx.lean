def XCo (D : va_G) (cs : Nat → ClassId) (z : Nat) (S' : Mem) : String → State → State → Prop := fun E st t => E = "java/util/NoSuchElementException" ∧ hR D cs z t S' t.heap ∧ va_F (fun q => z ≤ q) st t
def ExX (Γ : Cx) : Prop := match Γ with
  | (_, l, _, _, s, _, _, _, _, c, _, _, _, z, _, _, _, _) => l.stackTraces = false ∧ (∀ x ∈ c.exceptionTable.toList, False) ∧ vx_Zq Bundle.tN "UNASSIGNED_STACK" Bundle.steD (fun q => z ≤ q) s s.heap ∧ vx_Zq Bundle.tN "SUPPRESSED_SENTINEL" Bundle.listD (fun q => z ≤ q) s s.heap

def SimX {α : Type} (cc : ByteArray) (own : String) (fr lo : Nat) (ret : Option FieldType) (isI : Bool) (Γ : Cx) (ι : α → Option Value) (X : Option (α × Mem)) (S : Mem) (pc : Nat) (L : List (Option Value)) (st : List Value) : Prop := match Γ with
  | (p, l, e, R, s, m, args, below, meth, c, nL, D, cs, z, mc, ms, z0, q0) => ∀ (r : α) (S' : Mem), X = some (r, S') → (mZ S ≤ mZ S' ∧ mQ S ≤ mQ S') ∧ (Ctx (p, l, e, R, s, m, args, below, meth, c, nL, D, cs, z, mc, ms, z0, q0) cc own fr lo ret isI ∧ ExX (p, l, e, R, s, m, args, below, meth, c, nL, D, cs, z, mc, ms, z0, q0) → z0 + mc = mZ S' → q0 + ms = mQ S' → ∀ (H : Heap) (locs : List Loc) (ls : Array Slot) (cl sl : Nat), z0 + cl = mZ S → q0 + sl = mQ S → hR D cs z s S H → va_S (fun q => z ≤ q) s.heap H locs → lHas ls nL L →
      W p l e R s m args below meth c H locs cl sl (vx_MQ below (fun _ _ _ _ => False) (XCo D cs z S') args s mc ms (fun q => z ≤ q)) (F0 m pc ls st))

section XROWS
variable {α : Type} {Γ : Cx} {ι : α → Option Value} {cc : ByteArray} {own : String} {fr lo : Nat} {ret : Option FieldType} {isI : Bool} {X : Option (α × Mem)} {S : Mem} {pc : Nat} {L : List (Option Value)} {st : List Value}
theorem sx_none {K : Prop} : SimX cc own fr lo ret isI Γ ι none S pc L st := by
  obtain ⟨p, l, e, R, s, m, args, below, meth, c, nL, D, cs, z, mc, ms, z0, q0⟩ := Γ
  intro r S' hX
  cases hX

theorem sx_iload_n {j : Fin 4} (i : Nat) {x : Int32} (hd : decode cc pc = .ok (.iload_n j, 1)) (hi : (j : Nat) = i) (hl : L[i]? = some (some (.int x))) (k : SimX cc own fr lo ret isI Γ ι X S (pc + 1) L (.int x :: st)) : SimX cc own fr lo ret isI Γ ι X S pc L (st) := by
  obtain ⟨p, l, e, R, s, m, args, below, meth, c, nL, D, cs, z, mc, ms, z0, q0⟩ := Γ
  intro r S' hX
  have k := k r S' hX
  refine ⟨k.1, fun C hm hq H locs ls cl sl h1 h2 hr hS hL => ?_⟩
  obtain ⟨hx, hb, hml, hown, hts, hK, hlk, ⟨rc, rs, rfl, hrc, hrs⟩, hret, hnw, hisI⟩ := id C.1
  exact lv_iload_n hx hb hd hi (hL.at hl) (k.2 C hm hq H locs ls cl sl h1 h2 hr hS hL)

theorem sx_iconst {n : Int} (v : Int32) (hd : decode cc pc = .ok (.iconst n, 1)) (hv : Int32.ofInt n = v) (k : SimX cc own fr lo ret isI Γ ι X S (pc + 1) L (.int v :: st)) : SimX cc own fr lo ret isI Γ ι X S pc L (st) := by
  obtain ⟨p, l, e, R, s, m, args, below, meth, c, nL, D, cs, z, mc, ms, z0, q0⟩ := Γ
  intro r S' hX
  have k := k r S' hX
  refine ⟨k.1, fun C hm hq H locs ls cl sl h1 h2 hr hS hL => ?_⟩
  obtain ⟨hx, hb, hml, hown, hts, hK, hlk, ⟨rc, rs, rfl, hrc, hrs⟩, hret, hnw, hisI⟩ := id C.1
  exact lv_iconst hx hb hd hv (k.2 C hm hq H locs ls cl sl h1 h2 hr hS hL)

theorem sx_sipush {n : Int} (v : Int32) (hd : decode cc pc = .ok (.sipush n, 3)) (hv : (Int16.ofInt n).toInt32 = v) (k : SimX cc own fr lo ret isI Γ ι X S (pc + 3) L (.int v :: st)) : SimX cc own fr lo ret isI Γ ι X S pc L (st) := by
  obtain ⟨p, l, e, R, s, m, args, below, meth, c, nL, D, cs, z, mc, ms, z0, q0⟩ := Γ
  intro r S' hX
  have k := k r S' hX
  refine ⟨k.1, fun C hm hq H locs ls cl sl h1 h2 hr hS hL => ?_⟩
  obtain ⟨hx, hb, hml, hown, hts, hK, hlk, ⟨rc, rs, rfl, hrc, hrs⟩, hret, hnw, hisI⟩ := id C.1
  exact lv_sipush hx hb hd hv (k.2 C hm hq H locs ls cl sl h1 h2 hr hS hL)

theorem sx_if_eq {x : Int32} {off : Int} (tgt : Nat) {A B : Option (α × Mem)} (hd : decode cc pc = .ok (.ifCond .eq off, 3)) (ht : (pc : Int) + off = (tgt : Int)) (kt : x = 0 → SimX cc own fr lo ret isI Γ ι A S tgt L st) (kf : ¬ x = 0 → SimX cc own fr lo ret isI Γ ι B S (pc + 3) L st) : SimX cc own fr lo ret isI Γ ι (if x = 0 then A else B) S pc L (.int x :: st) := by
  obtain ⟨p, l, e, R, s, m, args, below, meth, c, nL, D, cs, z, mc, ms, z0, q0⟩ := Γ
  intro r S' hX
  have mono : mZ S ≤ mZ S' ∧ mQ S ≤ mQ S' := by
    by_cases h : x = 0
    · rw [if_pos h] at hX; exact (kt h r S' hX).1
    · rw [if_neg h] at hX; exact (kf h r S' hX).1
  refine ⟨mono, fun C hm hq H locs ls cl sl h1 h2 hr hS hL => ?_⟩
  obtain ⟨hx, hb, hml, hown, hts, hK, hlk, ⟨rc, rs, rfl, hrc, hrs⟩, hret, hnw, hisI⟩ := id C.1
  refine lv_if_eq hx hb hd ht (fun h => ?_) (fun h => ?_)
  · rw [if_pos h] at hX; exact (kt h r S' hX).2 C hm hq H locs ls cl sl h1 h2 hr hS hL
  · rw [if_neg h] at hX; exact (kf h r S' hX).2 C hm hq H locs ls cl sl h1 h2 hr hS hL

theorem sx_if_ne {x : Int32} {off : Int} (tgt : Nat) {A B : Option (α × Mem)} (hd : decode cc pc = .ok (.ifCond .ne off, 3)) (ht : (pc : Int) + off = (tgt : Int)) (kt : ¬ x = 0 → SimX cc own fr lo ret isI Γ ι B S tgt L st) (kf : x = 0 → SimX cc own fr lo ret isI Γ ι A S (pc + 3) L st) : SimX cc own fr lo ret isI Γ ι (if x = 0 then A else B) S pc L (.int x :: st) := by
  obtain ⟨p, l, e, R, s, m, args, below, meth, c, nL, D, cs, z, mc, ms, z0, q0⟩ := Γ
  intro r S' hX
  have mono : mZ S ≤ mZ S' ∧ mQ S ≤ mQ S' := by
    by_cases h : x = 0
    · rw [if_pos h] at hX; exact (kf h r S' hX).1
    · rw [if_neg h] at hX; exact (kt h r S' hX).1
  refine ⟨mono, fun C hm hq H locs ls cl sl h1 h2 hr hS hL => ?_⟩
  obtain ⟨hx, hb, hml, hown, hts, hK, hlk, ⟨rc, rs, rfl, hrc, hrs⟩, hret, hnw, hisI⟩ := id C.1
  refine lv_if_ne hx hb hd ht (fun h => ?_) (fun h => ?_)
  · rw [if_neg h] at hX; exact (kt h r S' hX).2 C hm hq H locs ls cl sl h1 h2 hr hS hL
  · rw [if_pos h] at hX; exact (kf h r S' hX).2 C hm hq H locs ls cl sl h1 h2 hr hS hL

theorem sx_run {β : Type} {ιb : β → Option Value} {X0 : Option (β × Mem)} {K : β → Mem → Option (α × Mem)} {stk : List Value} (hmono : ∀ v S1, X0 = some (v, S1) → mZ S ≤ mZ S1 ∧ mQ S ≤ mQ S1)
    (hrun : ∀ v S1, X0 = some (v, S1) → match Γ with
      | (p, l, e, R, s, m, args, below, meth, c, nL, D, cs, z, mc, ms, z0, q0) => Ctx (p, l, e, R, s, m, args, below, meth, c, nL, D, cs, z, mc, ms, z0, q0) cc own fr lo ret isI → ∀ (H : Heap) (locs : List Loc) (ls : Array Slot) (cl sl : Nat), cl + (mZ S1 - mZ S) ≤ mc → sl + (mQ S1 - mQ S) ≤ ms → hR D cs z s S H → va_S (fun q => z ≤ q) s.heap H locs → lHas ls nL L → ∃ a, va_Run p l e R s m args below meth c H locs cl sl (mZ S1 - mZ S) (mQ S1 - mQ S) (F0 m pc ls stk) st (Qo D cs z (ιb v) S1 a) (fun q => z ≤ q))
    (k : ∀ v S1, SimX cc own fr lo ret isI Γ ι (K v S1) S1 (pc + 3) L ((ιb v).toList ++ st)) : SimX cc own fr lo ret isI Γ ι (bd X0 K) S pc L stk := by
  obtain ⟨p, l, e, R, s, m, args, below, meth, c, nL, D, cs, z, mc, ms, z0, q0⟩ := Γ
  intro r S' hX
  cases hX0 : X0 with
  | none => rw [hX0] at hX; cases hX
  | some q =>
    obtain ⟨v, S1⟩ := q
    rw [hX0] at hX
    have k := k v S1 r S' hX
    have hmn := hmono v S1 hX0
    refine ⟨⟨by omega, by omega⟩, fun C hm hq H locs ls cl sl h1 h2 hr hS hL => ?_⟩
    obtain ⟨hx, hb, hml, hown, hts, hK, hlk, ⟨rc, rs, rfl, hrc, hrs⟩, hret, hnw, hisI⟩ := id C.1
    obtain ⟨a, hrn⟩ := hrun v S1 hX0 C.1 H locs ls cl sl (by omega) (by omega) hr hS hL
    intro T hT Xs
    obtain ⟨w9, st₀, t, T', L9, h0, X', hL9, e1, e2, ⟨ho, hR1, hz, hk⟩, stp⟩ := hrn T hT Xs
    cases ho
    rw [h0] at hz hk
    have hal : s.vm.Alike T'.vm := X'.warmed.alike
    obtain ⟨t2, a1, b1⟩ := k.2 C hm hq T'.heap (locs ++ L9) ls _ _ (by omega) (by omega)
      (by rw [e1]; exact hR1.moved (by rw [← e2]; exact hal.symm))
      ⟨Nat.le_trans hS.1 (by rw [e1]; exact hz), fun q h1 h2 => by rw [e1, hk q (Nat.lt_of_lt_of_le h1 hS.1) h2]; exact hS.2.1 q h1 h2, fun q hq => by
        rcases List.mem_append.mp hq with h | h
        · exact hS.2.2 q h
        · exact hL9 q h⟩ hL T' rfl X'
    exact ⟨t2, stp t2 a1, b1⟩

theorem sx_callS {β : Type} {ιb : β → Option Value} {y : MethodName} {bytes : ByteArray} {maxL n idx frY loY : Nat} {retY : Option FieldType} {X0 : Option (β × Mem)} {K : β → Mem → Option (α × Mem)} (As : List Value) (mk : MKS own idx y bytes maxL retY n) (hn : As.length = n) (hrm : RmOK fr lo frY loY maxL) (hst : (st.map fun v => v.category).sum ≤ 8)
    (hc : ∀ v S1, X0 = some (v, S1) → Con (lOf Γ) y bytes maxL retY frY loY (As) S (ιb v) S1) (hd : decode cc pc = .ok (.invokestatic idx, 3)) (k : ∀ v S1, SimX cc own fr lo ret isI Γ ι (K v S1) S1 (pc + 3) L ((ιb v).toList ++ st)) : SimX cc own fr lo ret isI Γ ι (bd (X0) K) S pc L (As.reverse ++ st) := by
  refine sx_run (ιb := ιb) (fun v S1 h0 => (hc v S1 h0).1 ⟨Γ⟩) (fun v S1 h0 => ?_) k
  obtain ⟨p, l, e, R, s, m, args, below, meth, c, nL, D, cs, z, mc, ms, z0, q0⟩ := Γ
  intro C
  obtain ⟨hx, hb, hml, hown, hts, hK, hlk, ⟨rc, rs, rfl, hrc, hrs⟩, hret, hnw, hisI⟩ := id C
  intro H locs ls cl sl r4 r5 hr hS hL
  obtain ⟨m1, m2, m3, m4, m5⟩ := mk
  refine ⟨_, va_runS (As := As) (rest := st) ⟨hx, hb, hml, hown, hts⟩ ((hc v S1 h0).2 D cs z) ⟨callB_of n hts (ws_good m4) rfl rfl rfl (hts _ m3) (hts _ m1) m5 hrm, hts _ m2⟩ ⟨Pre.blind D cs z S _, fun U hU hW => ⟨rfl, by rw [hU]; exact hr.moved hW.alike, va_K.moved hW.alike hK, hnw.warm hW⟩⟩ rfl hn hL.1.1 rfl (lv_room hst) hd ⟨Nat.le_trans r4 hrc, Nat.le_trans r5 hrs⟩⟩

theorem sx_cS3I {y : MethodName} {bytes : ByteArray} {maxL idx frY loY : Nat} {retY : Option FieldType} {X0 : Option (Int32 × Mem)} {K : Int32 → Mem → Option (α × Mem)} {a1 a2 a3 : Value} (mk : MKS own idx y bytes maxL retY 3) (hc : ∀ v S1, X0 = some (v, S1) → Con (lOf Γ) y bytes maxL retY frY loY [a1, a2, a3] S (rI v) S1) (hrm : RmOK fr lo frY loY maxL) (hst : (st.map fun v => v.category).sum ≤ 8) (hd : decode cc pc = .ok (.invokestatic idx, 3)) (k : ∀ v S1, SimX cc own fr lo ret isI Γ ι (K v S1) S1 (pc + 3) L (.int v :: st)) : SimX cc own fr lo ret isI Γ ι (bd (X0) K) S pc L (a3 :: a2 :: a1 :: st) := sx_callS (ιb := rI) [a1, a2, a3] mk rfl hrm hst hc hd k

def xnm : List String := ["java/lang/RuntimeException", "java/lang/Exception"]
def xat : List Cond := (Bundle.ownAtomsX RX8 120 "java/util/NoSuchElementException" 13 prog_29_method_4_code xnm).filter vx_no
theorem xat_in : ∀ w ∈ xat, (w ∈ lw_g) ∨ (w ∈ lw_nest ∧ w.onTables = true) := by decide +kernel
theorem xat_ot : ∀ w ∈ Cond.classLink RX8 116 "java/util/NoSuchElementException" :: Cond.initialized "java/util/NoSuchElementException" :: xat, vx_ot w = true := by decide +kernel
theorem sx_throw (hown0 : own = RX8) (hw1 : Cond.classLink RX8 116 "java/util/NoSuchElementException" ∈ lw_g) (hw2 : Cond.initialized "java/util/NoSuchElementException" ∈ lw_g) (hrm : 5 < fr ∧ (st.map fun v => v.category).sum + 82 ≤ lo)
    (d0 : decode cc pc = .ok (.new 116, 3)) (d3 : decode cc (pc + 3) = .ok (.dup, 1)) (d4 : decode cc (pc + 4) = .ok (.ldc 118, 2)) (d6 : decode cc (pc + 6) = .ok (.invokespecial 120, 3)) (d9 : decode cc (pc + 9) = .ok (.athrow, 1)) {S : Mem} {ι : Unit → Option Value} : SimX cc own fr lo ret isI Γ ι (some ((), pNew S 15 6)) S pc L st := by
  obtain ⟨p, l, e, R, s, m, args, below, meth, c, nL, D, cs, z, mc, ms, z0, q0⟩ := Γ
  intro r S' hX
  cases hX
  have e9 : mZ (pNew S 15 6) = mZ S + 1 := rfl
  have e0 : mQ (pNew S 15 6) = mQ S + 6 := rfl
  rw [e0, e9]
  refine ⟨⟨by omega, by omega⟩, fun C hm hq H locs ls cl sl h1 h2 hr hS hL => ?_⟩
  obtain ⟨hx, hb, hml, hown, hts, hK, hlk, ⟨rc, rs, rfl, hrc, hrs⟩, hret, hnw, hisI⟩ := id C.1
  obtain ⟨hl, ht, hU, hN⟩ := C.2
  subst hown0
  refine vx_throwX (names := xnm) (ix := 13) (rx := prog_29_method_4_code) hx hb hl (by decide +kernel) (by decide +kernel) (by decide +kernel) (by decide +kernel) hown (by decide +kernel) (by decide +kernel) (hts _ hw1) (hts _ hw2) hnw.2.2.1 (fun w hw => ?_) xat_ot hU hN hS (hL.1.1.trans hml.symm) d0 d3 d4 d6 d9 (fun x hx => (ht x hx).elim) hrm.1 hrm.2 (by show cl + 1 ≤ rc; omega) (by show sl + 6 ≤ rs; omega) hlk (fun t hal hsz hfr => ⟨rfl, ?_, ?_⟩) (fun q hq => hS.2.2 q hq) (by omega) (by omega)
  · rcases xat_in w hw with h | ⟨h, h9⟩
    · exact hts w h
    · exact va_Nw.use h9 (hnw.1 w h)
  · exact (hR_new hr hsz.symm hfr (fun h => absurd h (by decide)) (fun _ h => absurd h (by decide)) (by decide)).moved hal
  · exact ⟨Nat.le_trans hS.1 (by omega), fun q g1 g2 => (hfr q (Nat.lt_of_lt_of_le g1 hS.1)).trans (hS.2.1 q g1 g2)⟩
end XROWS
def XCon (l : Launch) (y : MethodName) (bytes : ByteArray) (maxL : Nat) (ret : Option FieldType) (fr lo : Nat) (av : List Value) (S : Mem) (S' : Mem) : Prop :=
  (Nonempty Cx → mZ S ≤ mZ S' ∧ mQ S ≤ mQ S') ∧ ∀ (D : va_G) (cs : Nat → ClassId) (z : Nat), vx_Met l y (wsOf y bytes maxL ret) (roomOf fr lo (mZ S' - mZ S) (mQ S' - mQ S)) (va_Pc av (Pre D cs z S)) (fun _ _ _ _ => False) (XCo D cs z S') (mZ S' - mZ S) (mQ S' - mQ S) (fun q => z ≤ q)

theorem xcon_of {α : Type} {ι : α → Option Value} {l : Launch} {y : MethodName} {bytes : ByteArray} {maxL : Nat} {ret : Option FieldType} {fr lo : Nat} {av : List Value} {S : Mem} {X : Option (α × Mem)} {v : α} {S1 : Mem} (own : String) (isI : Bool) (Lv : List (Option Value)) (hl0 : l.stackTraces = false) (hown : y.cls = own) (hI : isI = true → y.name = "<init>") (hy : plainName y.cls = true) (hlen : (lg_sl av).length ≤ maxL) (hLv : asc 0 Lv = lv_args 0 av ∧ Lv.length = maxL)
    (h : ∀ Γ : Cx, lOf Γ = l → SimX bytes own fr lo ret isI Γ ι X S 0 Lv []) (hX : X = some (v, S1)) : XCon l y bytes maxL ret fr lo av S S1 := by
  have mono : Nonempty Cx → mZ S ≤ mZ S1 ∧ mQ S ≤ mQ S1 := by
    rintro ⟨p, l1, e, R, s, m, args, below, meth, c, nL, D, cs, z, mc, ms, z0, q0⟩
    exact (h (p, l, e, R, s, m, args, below, meth, c, nL, D, cs, z, mc, ms, z0, q0) rfl v S1 hX).1
  refine ⟨mono, fun D cs z => ?_⟩
  refine vx_ofW (cc := bytes) (maxL := maxL) (ret := ret) hy rfl ?_
  intro p e s m args below meth c s₁ B hml htb hv
  obtain ⟨rfl, hr, hK, hN⟩ := hv
  have hts := atoms_spec (ws := wsOf y bytes maxL ret) B.pre
  have hw : s.vm.findClass own = some m.cls := by rw [← hown]; exact findClass_of_methodNamed B.named
  have hl := lv_entry av (n := maxL) hlen
  rw [lg_entry_eq]
  generalize (lg_sl av ++ List.replicate (maxL - (lg_sl av).length) Slot.unset).toArray = ls at hl ⊢
  have hin : isI = true → meth.name = "<init>" := fun h => (name_of_methodNamed B.named B.method).1.trans (hI h)
  have k := h (p, l, e, (headSpec (wsOf y bytes maxL ret) (roomOf fr lo (mZ S1 - mZ S) (mQ S1 - mQ S))).room, s, m, av.toArray, below, meth, c, maxL, D, cs, z, mZ S1 - mZ S, mQ S1 - mQ S, mZ S, mQ S) rfl v S1 hX
  have k1 : mZ S ≤ mZ S1 ∧ mQ S ≤ mQ S1 := k.1
  exact k.2 ⟨⟨B.exec, B.bytes, hml, hw, fun w h => hts w (List.mem_cons_of_mem _ h), hK, B.notSynchronized, ⟨_, _, rfl, Nat.le_refl _, Nat.le_refl _⟩, B.returns, hN, hin⟩, hl0, htb, hr.2.2.2.2.2.2.2.2.2.2.2.1, hr.2.2.2.2.2.2.2.2.2.2.2.2⟩ (by omega) (by omega) s.heap [] ls 0 0 rfl rfl hr va_S.rf ⟨by rw [hLv.1]; exact hl, hLv.2⟩

