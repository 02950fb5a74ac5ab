def fx_X8_lamp (F : Nat) (x0 : Nat) (x1 x2 : Int32) (S : Mem) : Option (Unit × Mem) :=
  bd ((fn_X8_isWithin F x1 (0 : Int32) (9999 : Int32) S)) fun v1 S2 =>
  if v1 = 0 then some ((), pNew S2 15 6) else
  bd ((fn_X8_isWithin F x2 (0 : Int32) (2 : Int32) S2)) fun v3 S4 =>
  if v3 = 0 then some ((), pNew S4 15 6) else none
theorem tx_X8_lamp_20 {Γ : Cx} (x0 : Nat) (x1 x2 : Int32) (S : Mem) {ι : Unit → Option Value} : SimX cX8_lamp RX8 8 200 (some .int) false Γ ι (some ((), pNew S 15 6)) S 20 [some (.ref x0), some (.int x1), some (.int x2)] [] :=
  sx_throw rfl (lw_in 942 (by decide +kernel) (by decide +kernel)) (lw_in 99 (by decide +kernel) (by decide +kernel)) ⟨by decide, by decide⟩ dX8_lamp_20 dX8_lamp_23 dX8_lamp_24 dX8_lamp_26 dX8_lamp_29
set_option maxRecDepth 100000 in
theorem xcon_X8_lamp {l : Launch} (hl0 : l.stackTraces = false) (F : Nat) (x0 : Nat) (x1 x2 : Int32) (S : Mem) (v : Unit) (S1 : Mem) (h : fx_X8_lamp F x0 x1 x2 S = some (v, S1)) : XCon l yX8_lamp cX8_lamp 3 (some .int) 8 200 [.ref x0, .int x1, .int x2] S S1 := by
  refine xcon_of (ι := rV) RX8 false [some (.ref x0), some (.int x1), some (.int x2)] hl0 rfl (fun h => by cases h) (by decide) (Nat.le_of_ble_eq_true rfl) ⟨rfl, rfl⟩ (fun Γ hl => ?_) h
  unfold fx_X8_lamp
  refine sx_iload_n 1 dX8_lamp_0 rfl rfl ?_
  refine sx_iconst (0 : Int32) dX8_lamp_1 (by decide) ?_
  refine sx_sipush (9999 : Int32) dX8_lamp_2 (by decide) ?_
  refine sx_cS3I mk_X8_112 (fun v9 S9 h9 => con_X8_isWithin F _ _ _ _ v9 S9 h9) ⟨by omega, by omega⟩ (Nat.le_of_ble_eq_true rfl) dX8_lamp_5 (fun v1 S2 => ?_)
  refine sx_if_eq 20 dX8_lamp_8 (by decide) (fun _ => ?_) (fun _ => ?_)
  · exact tx_X8_lamp_20 x0 x1 x2 S2
  refine sx_iload_n 2 dX8_lamp_11 rfl rfl ?_
  refine sx_iconst (0 : Int32) dX8_lamp_12 (by decide) ?_
  refine sx_iconst (2 : Int32) dX8_lamp_13 (by decide) ?_
  refine sx_cS3I mk_X8_112 (fun v9 S9 h9 => con_X8_isWithin F _ _ _ _ v9 S9 h9) ⟨by omega, by omega⟩ (Nat.le_of_ble_eq_true rfl) dX8_lamp_14 (fun v3 S4 => ?_)
  refine sx_if_ne 30 dX8_lamp_17 (by decide) (fun _ => sx_none (K := True)) (fun _ => ?_)
  exact tx_X8_lamp_20 x0 x1 x2 S4
/-! the law's lamp: out[0] and 0, or 1 where it throws -/
def hhL : List (Nat × Nat × Nat × Nat) := [(0, 10, 13, 13)]
def TabL (Γ : Cx) : Prop := match Γ with
  | (_, _, _, _, _, _, _, _, _, c, _, _, _, _, _, _, _, _) => c.exceptionTable.toList = tableOf hhL
def fn_L_lamp (F : Nat) (x0 : Nat) (x1 x2 : Int32) (x3 : Nat) (S : Mem) : Option (Int32 × Mem) :=
  match fx_X8_lamp F x0 x1 x2 S with
  | some q => bd (cal S 7 x0 (some ((), q.2))) fun _ S1 => some (1, S1)
  | none => bd (cal S 7 x0 (fn_X8_lamp F x0 x1 x2 S)) fun v1 S2 => (sAJ S2 x3 (0 : Int32) (v1).toInt64).bind fun S3 => some (0, S3)
theorem s_xcall {α : Type} {Γ : Cx} {ι : α → Option Value} {cc : ByteArray} {fr lo : Nat} {ret : Option FieldType} {isI : Bool} {L : List (Option Value)} {st : List Value} {S S1 : Mem} {y : MethodName} {bytes : ByteArray} {maxL idx frY loY b : Nat} {retY : Option FieldType} {a1 a2 : Value} {X : Option (α × Mem)} (mk : MKV RL idx y bytes maxL retY 2) (hcy : y.cls = clR 7) (hk : mK S b = 7)
    (hc : XCon (lOf Γ) y bytes maxL retY frY loY [.ref b, a1, a2] S S1) (htab : Ctx Γ cc RL fr lo ret isI → TabL Γ) (hrm : RmOK fr lo frY loY maxL) (hst : (st.map fun v => v.category).sum ≤ 8) (hd : decode cc 5 = .ok (.invokevirtual idx, 3)) (k : ∀ q, Sim cc RL fr lo ret isI Γ ι X S1 13 L [.ref q]) : Sim cc RL fr lo ret isI Γ ι X S 5 L (a2 :: a1 :: .ref b :: st) := by
  have hmn := hc.1 ⟨Γ⟩
  obtain ⟨p, l, e, R, s, m, args, below, meth, c, nL, D, cs, z, mc, ms, z0, q0⟩ := Γ
  intro r S' hX
  have kk : ∀ q, _ := fun q => k q r S' hX
  have k0 := (kk 0).1
  refine ⟨⟨by omega, by omega⟩, fun C hm hq H locs ls cl sl h1 h2 hr hS hL => ?_⟩
  have ht : c.exceptionTable.toList = tableOf hhL := htab C
  obtain ⟨hx, hb, hml, hown, hts, hK, hlk, ⟨rc, rs, rfl, hrc, hrs⟩, hret, hnw, hisI⟩ := id C
  obtain ⟨m1, m2, m3, m4, m5, m6⟩ := mk
  have hrec : ∃ cell : Cell, H[b]? = some cell ∧ cell.vm.isStatics = false ∧ s.vm.findClass y.cls = some cell.cls := by
    obtain ⟨-, cell, g1, g2, g3, -⟩ := hr_ob hr hk (by decide)
    exact ⟨cell, g1, by rw [g3]; rfl, by rw [g2, hcy]; exact (hK.1 7 _ (cl_at 7 (by decide))).2.1⟩
  have f1 : cl + (mZ S1 - mZ S) ≤ rc := by omega
  have f2 : sl + (mQ S1 - mQ S) ≤ rs := by omega
  have hrun := vx_runV (R := roomOf fr lo rc rs) (As := [a1, a2]) (rest := st) (H := H) (locs := locs) (cells := cl) (slots := sl) (below := below) (meth := meth) (e := e) (g := F0 m 5 ls (a2 :: a1 :: .ref b :: st)) ⟨hx, hb, hml, hown, hts⟩ (hc.2 D cs z) ⟨callB_of 2 hts (ws_good m5) rfl rfl rfl (hts _ m4) (hts _ m1) m6 hrm, hts _ m2, hts _ m3⟩ ⟨Pre.blind D cs z S _, hrec, fun U hU hW => ⟨rfl, by rw [hU]; exact hr.moved hW.alike, va_K.moved hW.alike hK, hnw.warm hW⟩⟩ rfl rfl hL.1.1 rfl (lv_room hst) hd ⟨f1, f2⟩
  intro T hT Xs
  rcases hrun T hT Xs with ⟨v, st₀, t, T', L9, h0, X', hL9, e1, e2, hf, -⟩ | ⟨q, st₀, t, T', L9, E, ce, h0, X', hL9, e1, e2, ⟨rfl, hR1, hz, hkp⟩, hce, hcv, hcl, stp⟩
  · exact hf.elim
  · rw [h0] at hz hkp
    have hal : s.vm.Alike T'.vm := X'.warmed.alike
    have hSn : va_S (fun q => z ≤ q) s.heap T'.heap (locs ++ L9) := ⟨Nat.le_trans hS.1 (by rw [e1]; exact hz), fun q h1 h2 => by rw [e1, hkp q (Nat.lt_of_lt_of_le h1 hS.1) h2]; exact hS.2.1 q h1 h2, fun q hq => by
        rcases List.mem_append.mp hq with h | h
        · exact hS.2.2 q h
        · exact hL9 q h⟩
    have hW := (kk q).2 C hm hq T'.heap (locs ++ L9) ls _ _ (by omega : z0 + (cl + (mZ S1 - mZ S)) = mZ S1) (by omega : q0 + (sl + (mQ S1 - mQ S)) = mQ S1) (by rw [e1]; exact hR1.moved (by rw [← e2]; exact hal.symm)) hSn hL
    obtain ⟨t2, b1, b2⟩ := vx_catch (E := "java/util/NoSuchElementException") (name := "java/util/NoSuchElementException") (pc := 5) (rest := st) (ce := ce) (q := q) hown [] ⟨0, 10, 13, 13⟩ [] ht (fun x hx => by cases hx) (by decide) (by decide) (hts _ (lw_in 937 (by decide +kernel) (by decide +kernel))) (va_Nw.use rfl (hnw.1 _ (by decide +kernel : Cond.castable "java/util/NoSuchElementException" "java/util/NoSuchElementException" ∈ lw_nest))) (by rw [e1]; exact hce) hcv hcl hW T' rfl X'
    exact ⟨t2, stp.trans b1, b2⟩
/-- the contract of the law's lamp -/
def ConW (l : Launch) (y : MethodName) (bytes : ByteArray) (maxL : Nat) (ret : Option FieldType) (hh : List (Nat × Nat × Nat × Nat)) (fr lo : Nat) (av : List Value) (S : Mem) (r : Option Value) (S' : Mem) : Prop :=
  (Nonempty Cx → mZ S ≤ mZ S' ∧ mQ S ≤ mQ S') ∧ ∀ (D : va_G) (cs : Nat → ClassId) (z : Nat), Met l y (.codeWith y bytes maxL ret hh :: lw_g) (roomOf fr lo (mZ S' - mZ S) (mQ S' - mQ S)) (va_Pc av (Pre D cs z S)) (Qo D cs z r S') (mZ S' - mZ S) (mQ S' - mQ S) (fun q => z ≤ q)
theorem sim_L_lamp {Γ : Cx} (hl0 : (lOf Γ).stackTraces = false) (F : Nat) (x0 : Nat) (x1 x2 : Int32) (x3 : Nat) (S : Mem) (htab : Ctx Γ cL_lamp RL 9 222 (some .int) false → TabL Γ) : Sim cL_lamp RL 9 222 (some .int) false Γ rI (fn_L_lamp F x0 x1 x2 x3 S) S 0 [some (.ref x0), some (.int x1), some (.int x2), some (.ref x3), none] [] := by
  unfold fn_L_lamp
  refine s_aload_n 3 dL_lamp_0 rfl rfl ?_
  refine s_iconst (0 : Int32) dL_lamp_1 (by decide) ?_
  refine s_aload_n 0 dL_lamp_2 rfl rfl ?_
  refine s_iload_n 1 dL_lamp_3 rfl rfl ?_
  refine s_iload_n 2 dL_lamp_4 rfl rfl ?_
  cases hfx : fx_X8_lamp F x0 x1 x2 S with
  | some q =>
    obtain ⟨v0, S1⟩ := q
    by_cases hk : mK S x0 = 7
    · have e9 : (bd (cal S 7 x0 (some ((), S1))) fun _ S1 => some ((1 : Int32), S1)) = some (1, S1) := by unfold cal; rw [if_pos hk]; rfl
      show Sim _ _ _ _ _ _ _ _ (bd (cal S 7 x0 (some ((), S1))) fun _ S1 => some ((1 : Int32), S1)) _ _ _ _
      rw [e9]
      refine s_xcall mk_L_7 rfl hk (xcon_X8_lamp hl0 F x0 x1 x2 S v0 S1 hfx) htab ⟨by omega, by omega⟩ (Nat.le_of_ble_eq_true rfl) dL_lamp_5 (fun q => ?_)
      refine s_astore_4 dL_lamp_13 rfl ?_
      refine s_iconst (1 : Int32) dL_lamp_15 (by decide) ?_
      exact s_iret dL_lamp_16
    · have e9 : (bd (cal S 7 x0 (some ((), S1))) fun _ S1 => some ((1 : Int32), S1)) = none := by unfold cal; rw [if_neg hk]; rfl
      show Sim _ _ _ _ _ _ _ _ (bd (cal S 7 x0 (some ((), S1))) fun _ S1 => some ((1 : Int32), S1)) _ _ _ _
      rw [e9]
      exact s_none (K := True)
  | none =>
    refine s_cV2I mk_L_7 (by decide) rfl (fun v9 S9 h9 => con_X8_lamp F _ _ _ _ v9 S9 h9) ⟨by omega, by omega⟩ (Nat.le_of_ble_eq_true rfl) dL_lamp_5 (fun v1 S2 => ?_)
    refine s_i2l dL_lamp_8 ?_
    refine s_last dL_lamp_9 (fun S3 => ?_)
    refine s_goto 17 dL_lamp_10 (by decide) ?_
    refine s_iconst (0 : Int32) dL_lamp_17 (by decide) ?_
    exact s_iret dL_lamp_18
theorem con_L_lamp {l : Launch} (hl0 : l.stackTraces = false) (F : Nat) (x0 : Nat) (x1 x2 : Int32) (x3 : Nat) (S : Mem) (v : Int32) (S1 : Mem) (h : fn_L_lamp F x0 x1 x2 x3 S = some (v, S1)) : ConW l yL_lamp cL_lamp 5 (some .int) hhL 9 222 [.ref x0, .int x1, .int x2, .ref x3] S (rI v) S1 := by
  have mono : Nonempty Cx → mZ S ≤ mZ S1 ∧ mQ S ≤ mQ S1 := by
    rintro ⟨p, l1, e, R, s, m, args, below, meth, c, nL, D, cs, z, mc, ms, z0, q0⟩
    exact (sim_L_lamp (Γ := (p, l, e, R, s, m, args, below, meth, { c with exceptionTable := (tableOf hhL).toArray }, nL, D, cs, z, mc, ms, z0, q0)) hl0 F x0 x1 x2 x3 S (fun _ => by simp [TabL]) v S1 h).1
  refine ⟨mono, fun D cs z => ?_⟩
  refine va_MetW (cc := cL_lamp) (maxL := 5) (ret := some .int) (hh := hhL) (by decide) rfl ?_
  intro p e s m args below meth c s₁ B hml hv
  obtain ⟨rfl, hr, hK, hN⟩ := hv
  have hts := atoms_spec (ws := .codeWith yL_lamp cL_lamp 5 (some .int) hhL :: lw_g) B.pre
  have hw : s.vm.findClass RL = some m.cls := findClass_of_methodNamed B.named
  have htb : c.exceptionTable.toList = tableOf hhL := vx_table (x := yL_lamp) B (hts _ List.mem_cons_self)
  have hl := lv_entry [.ref x0, .int x1, .int x2, .ref x3] (n := 5) (Nat.le_of_ble_eq_true rfl)
  rw [lg_entry_eq]
  generalize (lg_sl [Value.ref x0, .int x1, .int x2, .ref x3] ++ List.replicate (5 - (lg_sl [Value.ref x0, .int x1, .int x2, .ref x3]).length) Slot.unset).toArray = ls at hl ⊢
  have k := sim_L_lamp (Γ := (p, l, e, (headSpec (.codeWith yL_lamp cL_lamp 5 (some .int) hhL :: lw_g) (roomOf 9 222 (mZ S1 - mZ S) (mQ S1 - mQ S))).room, s, m, [Value.ref x0, .int x1, .int x2, .ref x3].toArray, below, meth, c, 5, D, cs, z, mZ S1 - mZ S, mQ S1 - mQ S, mZ S, mQ S)) hl0 F x0 x1 x2 x3 S (fun _ => htb) v S1 h
  have k1 : mZ S ≤ mZ S1 ∧ mQ S ≤ mQ S1 := k.1
  exact k.2 ⟨B.exec, B.bytes, hml, hw, fun w h => hts w (List.mem_cons_of_mem _ h), hK, B.notSynchronized, ⟨_, _, rfl, Nat.le_refl _, Nat.le_refl _⟩, B.returns, hN, fun h => by cases h⟩ (by omega) (by omega) s.heap [] ls 0 0 rfl rfl hr va_S.rf ⟨hl, rfl⟩
