def R_law : String := "KiteLampLaw"
def lw_P (b : Addr) (xs : List Int32) (args : Array Value) (s : State) : Prop := args = #[.ref b] ∧ s.IntsAt b xs ∧ xs.length ≤ 3584 ∧ (Jvm.Cond.and given_1 narrow_1).before args s = true
def lw_Q (_ : Array Value) (s : State) (o : Outcome) (t : State) : Prop := o = .returned (some (.int 1)) ∧ Framed s o t [] 601024 7293034
def lw_Z (below : List Frame) (a : Array Value) (s : State) : State → Prop := fun t => ∃ o, t.status = .running ∧ Ended t below o ∧ lw_Q a s o t
/-- the law's own end, with 1 on the stack, nothing written that was there before, its room as the claim has it -/
theorem lw_ret {p : Program} {l : Launch} {e : Env} {s : State} {m : MethodId} {below : List Frame} {meth : Method} {c : Code} {b : Nat} (hx : p.tables.exec = Jvm.exec) (hb : c.code = code) (hr : meth.sig.returnType = ret) (hlocks : meth.locks = false) {pc : Nat} {H : Heap} {ls : Array Slot} (hdg : decode code pc = .ok (.ireturn, 1)) : W p l e room_1 s m #[Value.ref b] below meth c H [] 601024 7293034 (lw_Z below #[Value.ref b] s) (F0 m pc ls [.int 1]) := by
  intro T hT X
  obtain ⟨fs, hret, hrun, hended, hW, hframe⟩ := X.leave (v := some (.int 1)) (hlocks := hlocks) (fun h => by rw [hr] at h; cases h)
  have hmeth' : T.vm.method? m = some meth := X.method'
  refine ⟨T.setFrames fs, ?_, .returned (some (.int 1)), hrun, hended, rfl, ⟨_, rfl⟩, hW, hframe⟩
  jvm_step X.here [X.here.top, hx, hb, hdg, hmeth', hr, ret, narrow_b1]
  (try refine ⟨rfl, ?_⟩); (try refine ⟨rfl, ?_⟩)
  first | (intro acts; rw [hret _ acts rfl rfl rfl]) | rw [hret _ _ rfl rfl rfl]
  exact Steps.refl _
/-- what holds at the law's entry: the machine, the code, the tables' words (any of lw_tbl by 'hts w (by decide +kernel)'), the script of L ints xs at the cell b, what the Statement gives of the start (any of its parts by flat_of_before) -/
def lw_At (p : Program) (s : State) (m : MethodId) (meth : Method) (c : Code) (b L : Nat) (xs : Nat → Int32) : Prop :=
  p.tables.exec = Jvm.exec ∧ c.code = code ∧ meth.sig.returnType = ret ∧ c.maxLocals = 7 ∧ s.vm.findClass R_law = some m.cls ∧ (∀ w ∈ lw_tbl, w.before #[Value.ref b] s = true) ∧ va_X b L xs s s.heap ∧ b < s.heap.size ∧ meth.locks = false ∧ (Jvm.Cond.and given_1 narrow_1).before #[Value.ref b] s = true
/-- the memory at the law's start -/
def S0 (z b L u0 q vb : Nat) (xs : Nat → Int32) : Mem := (fun a => if a = b ∨ a = u0 then 14 else 15, fun a => if a = b then L else 0, fun a j => if a = b then xs j else 0, fun _ _ => 0, fun _ _ => none, z, u0, 0, q, vb)
/-- WHAT IS LEFT: the law's function answers 1 on every script, within the room -/
def LawPure : Prop := ∃ F : Nat, ∀ (z b L u0 q vb : Nat) (xs : Nat → Int32), L ≤ 3584 → b < z → u0 < z → q < z → vb < z → b ≠ u0 → vb ≠ b → vb ≠ u0 →
  ∃ S', fn_L_law F b (S0 z b L u0 q vb xs) = some (1, S') ∧ mZ S' ≤ z + 601024 ∧ mQ S' ≤ 7293034
theorem same_forget {s t : State} {L : List Loc} {k n k' n' : Nat} (h : s.sameButNew t L k n) (hL : ∀ q ∈ L, s.heap.size ≤ q.base) (hk : k ≤ k') (hn : n ≤ n') : s.sameButNew t [] k' n' := by
  obtain ⟨e1, e2, e3, e4, e5, e6⟩ := h
  refine ⟨e1, e2, by omega, e4, by omega, fun a c hc => ?_⟩
  obtain ⟨c', h1, h2, h3, h4⟩ := e6 a c hc
  refine ⟨c', h1, h2, h3, fun i _ => h4 i (fun hm => ?_)⟩
  have := hL _ hm
  have h9 := (Array.getElem?_eq_some_iff.mp hc).1
  exact absurd this (Nat.not_le.mpr h9)
theorem vaT_ne {s : State} {H : Heap} {A : Nat → Prop} {a c N M : Nat} {f g : Nat → Value} (h1 : va_T .int a N f A s H) (h2 : va_T .byte c M g A s H) : c ≠ a := by
  rintro rfl
  obtain ⟨cell, q1, ⟨-, k, hk, comp, hkind⟩, -⟩ := h1
  obtain ⟨cell2, p1, ⟨-, k2, hk2, comp2, hkind2⟩, -⟩ := h2
  cases Option.some.inj (q1.symm.trans p1)
  cases Option.some.inj (hk.symm.trans hk2)
  rw [hkind] at hkind2
  cases hkind2
set_option maxHeartbeats 4000000 in
set_option maxRecDepth 100000 in
theorem whole_start_open (hpure : LawPure) {p : Program} {e : Env} {s : State} {m : MethodId} {below : List Frame} {meth : Method} {c : Code} (l : Launch) (hl0 : l.stackTraces = false) {b L : Nat} {xs : Nat → Int32} (hL : L ≤ 3584) (C0 : lw_At p s m meth c b L xs) : W p l e room_1 s m #[Value.ref b] below meth c s.heap [] 0 0 (lw_Z below #[Value.ref b] s) (entryFrame m ([Value.ref b] : List Value).toArray 7) := by
  obtain ⟨hx, hb, hr, hml, hown, hts, hX, hbl, hlocks, hgv⟩ := id C0
  have hg := flat_of_before _ hgv
  have htg : ∀ w ∈ lw_g, w.before #[Value.ref b] s = true := fun w h => hts w (List.mem_filter.mp h).1
  have hA : ∀ a : Nat, a < s.heap.size → ¬ s.heap.size ≤ a := fun a h => Nat.not_le.mpr h
  have hKn : ∀ ci, ci < 9 → ∃ (cC : ClassId) (iS : Nat → Nat), u_Kn s (clR ci) (clT ci) (szOf ci) cC iS := fun ci h => u_known htg (inT ci h) (htg _ (inst_at ci h))
  obtain ⟨dC, dI, hD⟩ : ∃ (dC : Nat → ClassId) (dI : Nat → Nat → Nat), ∀ ci, ci < 9 → u_Kn s (clR ci) (clT ci) (szOf ci) (dC ci) (dI ci) := by
    refine ⟨fun ci => if h : ci < 9 then (hKn ci h).choose else 0, fun ci => if h : ci < 9 then (hKn ci h).choose_spec.choose else fun _ => 0, fun ci h => ?_⟩
    simp only [dif_pos h]
    exact (hKn ci h).choose_spec.choose_spec
  obtain ⟨cB, kB, pB, fB, gB, iB⟩ := Cond.arrayClass_spec (hts (.arrayClass .byte) (by decide +kernel))
  obtain ⟨cI, kI, pI_, fI, gI_, iI⟩ := Cond.arrayClass_spec (hts (.arrayClass .int) (by decide +kernel))
  obtain ⟨cJ, kJ, pJ_, fJ, gJ_, iJ⟩ := Cond.arrayClass_spec (hts (.arrayClass .long) (by decide +kernel))
  obtain ⟨cZ, kZ, pZ, fZ, gZ, iZ⟩ := Cond.arrayClass_spec (hts (.arrayClass .boolean) (by decide +kernel))
  obtain ⟨pN, cN, kN, fN, -, gN, iN, jN⟩ := Cond.arrayOver_spec (hts (.arrayOver (.object RX2)) (by decide +kernel))
  obtain ⟨adK, adV, hvk, hev⟩ := vk_Sof (args := #[Value.ref b]) (s := s) (N := 1) (tm := fun _ => Term.string "KiteLamp$Cutter" 19) (len := [125]) (byt := [txB]) (A := fun q => s.heap.size ≤ q)
    (fun i hi => by obtain rfl : i = 0 := by omega
                    decide) (fun i _ => hg _ (by decide +kernel)) (fun i _ => hg _ (by decide +kernel)) (fun i _ => hg _ (by decide +kernel))
    (fun i hi => by obtain rfl : i = 0 := by omega
                    exact hg _ (by decide +kernel))
    (fun i hi => by
      obtain rfl : i = 0 := by omega
      intro j hj
      exact hg _ ((by decide +kernel : ∀ j, j < 125 → (Cond.eq (.elem (.field (Term.string "KiteLamp$Cutter" 19) "java/lang/String" "value" "[B") (.int (Int32.ofNat j))) (.int (txB.getD j 0))) ∈ flatC (Jvm.Cond.and given_1 narrow_1)) j hj))
    (fun i j hi hj hij => absurd (by omega : i = j) hij) hA
  have hq := hev 0 (by decide)
  obtain ⟨hO, hcod, hval, htx⟩ := hvk.1 0 (by decide)
  obtain ⟨q2, -, -, -, hq2, -⟩ := Cond.exactly_spec (hg (.exactly (.string "KiteLamp" 118) "java/lang/String") (by decide +kernel))
  obtain ⟨u0, hu0, hTu⟩ := va_Tof (args := #[Value.ref b]) (s := s) (tm := .static "KiteLamp$Sky" "UNTOLD" "[I") (ty := .int) (N := 0) (f := fun _ => .int 0) (A := fun q => s.heap.size ≤ q) (by decide) (hg _ (by decide +kernel)) (va_eqt (z := 0) (hg _ (by decide +kernel))) (fun j hj => absurd hj (Nat.not_lt_zero _)) hA
  have hTb : va_T .int b L (fun j => .int (xs j)) (fun q => s.heap.size ≤ q) s s.heap := by
    obtain ⟨scr, a1, a2, a3, a4, a5⟩ := hX
    exact ⟨scr, a1, a2, a3, by omega, by rw [a4], a5, hA _ hbl⟩
  have hbu : b ≠ u0 := by
    have hn := hg (.not (.eq (.arg 0) (.static "KiteLamp$Sky" "UNTOLD" "[I"))) (by decide +kernel)
    exact va_neR hn rfl hu0
  have hlt : ∀ {ty : FieldType} {a N : Nat} {f : Nat → Value}, va_T ty a N f (fun q => s.heap.size ≤ q) s s.heap → a < s.heap.size := by
    rintro ty a N f ⟨cell, h1, -⟩
    exact (Array.getElem?_eq_some_iff.mp h1).1
  have hqlt : adK 0 < s.heap.size := by
    obtain ⟨cell, h1, -⟩ := hO
    exact (Array.getElem?_eq_some_iff.mp h1).1
  obtain ⟨F, hF⟩ := hpure
  obtain ⟨S', hS', hz', hq'⟩ := hF s.heap.size b L u0 (adK 0) (adV 0) xs hL hbl (hlt hTu) hqlt (hlt htx) hbu (vaT_ne hTb htx) (vaT_ne hTu htx)
  have hcsd : ∃ cs : Nat → ClassId, cs 9 = cB ∧ cs 10 = cI ∧ cs 11 = cJ ∧ cs 12 = cZ ∧ cs 13 = cN ∧ cs 20 = adK 0 ∧ cs 21 = q2 ∧ cs 22 = adV 0 :=
    ⟨fun n => if n = 9 then cB else if n = 10 then cI else if n = 11 then cJ else if n = 12 then cZ else if n = 13 then cN else if n = 20 then adK 0 else if n = 21 then q2 else adV 0, rfl, rfl, rfl, rfl, rfl, rfl, rfl, rfl⟩
  obtain ⟨cs, c9, c10, c11, c12, c13, c20, c21, c22⟩ := hcsd
  have hK : va_K (dC, dI) vwCl (tysL cs) s := by
    refine ⟨fun ci q hq => ?_, fun k q hk => ?_⟩
    · have hc9 : ci < 9 := by
        have := (List.getElem?_eq_some_iff.mp hq).1
        simpa using this
      have h1 := cl_at ci hc9
      rw [h1] at hq
      cases hq
      exact hD ci hc9
    · have hk5 : k < 5 := by
        have := (List.getElem?_eq_some_iff.mp hk).1
        simpa [tysL] using this
      match k, hk5, hk with
      | 0, _, hk => cases hk; rw [c9]; exact ⟨fun n z => ⟨fun k h => (by cases h), kB, gB, pB, iB⟩, fB⟩
      | 1, _, hk => cases hk; rw [c10]; exact ⟨fun n z => ⟨fun k h => (by cases h), kI, gI_, pI_, iI⟩, fI⟩
      | 2, _, hk => cases hk; rw [c11]; exact ⟨fun n z => ⟨fun k h => (by cases h), kJ, gJ_, pJ_, iJ⟩, fJ⟩
      | 3, _, hk => cases hk; rw [c12]; exact ⟨fun n z => ⟨fun k h => (by cases h), kZ, gZ, pZ, iZ⟩, fZ⟩
      | 4, _, hk => cases hk; rw [c13]; exact ⟨fun n z => ⟨fun k h => (by cases h), kN, gN, pN, iN⟩, ⟨kN, pN, gN, iN, fN, jN⟩⟩
  have hN : Nst cs s := by
    refine ⟨fun w hw => va_Nw.of ?_ (hts w (List.mem_filter.mp hw).1), ?_, ?_, va_AO.of (hts (.arrayOver (.object RX2)) (by decide +kernel))⟩
    · have h2 := (List.mem_filter.mp hw).2
      cases w <;> first | rfl | (simp at h2; done)
    · rw [c20]; exact vk_R.of (hts (.stringRef "KiteLamp$Cutter" 19 txT) (by decide +kernel)) hq
    · rw [c21]; exact vk_R.of (hts (.stringRef "KiteLamp" 118 txN) (by decide +kernel)) hq2
  have hR0 : hR (dC, dI) cs s.heap.size s (S0 s.heap.size b L u0 (adK 0) (adV 0) xs) s.heap := by
    have hk : ∀ a, mK (S0 s.heap.size b L u0 (adK 0) (adV 0) xs) a = if a = b ∨ a = u0 then 14 else 15 := fun _ => rfl
    refine ⟨rfl, Nat.le_refl _, fun a h => ?_, fun a h1 h2 => ?_, fun a h => ?_, ?_, ?_⟩
    · rw [hk] at h; split at h <;> omega
    · rw [hk] at h2; split at h2 <;> omega
    · rw [hk] at h
      by_cases hab : a = b
      · subst hab
        have e1 : mN (S0 s.heap.size a L u0 (adK 0) (adV 0) xs) a = L := by simp [mN, S0]
        have e2 : mI (S0 s.heap.size a L u0 (adK 0) (adV 0) xs) a = xs := by funext j; simp [mI, S0]
        rw [e1, e2]; exact hTb
      · have hau : a = u0 := by
          by_cases h9 : a = u0
          · exact h9
          · rw [if_neg (by simp [hab, h9])] at h; omega
        subst hau
        have e1 : mN (S0 s.heap.size b L a (adK 0) (adV 0) xs) a = 0 := by simp [mN, S0, hab]
        rw [e1]
        obtain ⟨cell, t1, t2, t3, t4, t5, t6, t7⟩ := hTu
        exact ⟨cell, t1, t2, t3, t4, t5, fun j hj => absurd hj (Nat.not_lt_zero _), t7⟩
    · exact va_Zof (hts (.laysStatic "KiteLamp$Sky" "UNTOLD" "[I") (by decide +kernel)) (hts (.initialized "KiteLamp$Sky") (by decide +kernel)) hu0 hA
    · refine ⟨⟨c20.symm, c22.symm⟩, ⟨hO, hcod, hval⟩, htx, ?_, ?_, ?_, ?_⟩
      · exact va_Zof (hts (.laysStatic "java/lang/String" "COMPACT_STRINGS" "Z") (by decide +kernel)) (hts (.initialized "java/lang/String") (by decide +kernel)) (va_eqi (hg _ (by decide +kernel))) hA
      · exact va_Zqof (hts (.laysStatic "jdk/internal/util/Preconditions" "SIOOBE_FORMATTER" "Ljava/util/function/BiFunction;") (by decide +kernel)) (hts (.initialized "jdk/internal/util/Preconditions") (by decide +kernel)) (hg _ (by decide +kernel)) hA
      · exact vx_Zqof (hts (.laysStatic Bundle.tN "UNASSIGNED_STACK" Bundle.steD) (by decide +kernel)) (hts (.initialized Bundle.tN) (by decide +kernel)) (hg _ (by decide +kernel)) hA
      · exact vx_Zqof (hts (.laysStatic Bundle.tN "SUPPRESSED_SENTINEL" Bundle.listD) (by decide +kernel)) (hts (.initialized Bundle.tN) (by decide +kernel)) (hg _ (by decide +kernel)) hA
  have k := sim_L_law (Γ := (p, l, e, room_1, s, m, #[Value.ref b], below, meth, c, 7, (dC, dI), cs, s.heap.size, mZ S' - s.heap.size, mQ S', s.heap.size, 0)) F hl0 b (S0 s.heap.size b L u0 (adK 0) (adV 0) xs) 1 S' hS'
  have k1 : s.heap.size ≤ mZ S' := k.1.1
  have hl := lv_entry ([.ref b]) (n := 7) (Nat.le_of_ble_eq_true rfl)
  rw [lg_entry_eq]
  generalize (lg_sl ([.ref b]) ++ List.replicate (7 - (lg_sl ([.ref b])).length) Slot.unset).toArray = ls at hl ⊢
  have hW := k.2 ⟨hx, hb, hml, hown, htg, hK, hlocks, ⟨601024, 7293034, rfl, by omega, hq'⟩, hr, hN, fun h => by cases h⟩ (by omega) (by omega) s.heap [] ls 0 0 rfl rfl hR0 va_S.rf ⟨hl, rfl⟩
  intro T hT X
  obtain ⟨t, a1, o, b1, b2, ⟨ho, -, -⟩, Lc, hfe, hfree⟩ := hW T hT X
  subst ho
  obtain ⟨f1, f2, f3⟩ := hfe
  exact ⟨t, a1, _, b1, b2, rfl, f1, f2, same_forget f3 hfree (by omega) hq'⟩

set_option maxHeartbeats 4000000 in
theorem lw_walk (hpure : LawPure) (l : Launch) (hl0 : l.stackTraces = false) (b : Addr) (xs : List Int32) : MetFree l x (headSpec (Jvm.Cond.code x code maxLocals ret :: tables_1) room_1) (lw_P b xs) (fun _ _ _ _ _ => True) lw_Q := by
  refine MetFree.of_bodyS (code := code) (maxLocals := maxLocals) (ret := ret) (by decide) ?_ ?_
  · intro args s m h hn
    obtain ⟨meth, c, h1, h2, h3, h4, h5, h6, -, -⟩ := Cond.code_spec hn (atoms_spec (ws := Jvm.Cond.code x code maxLocals ret :: tables_1) h _ List.mem_cons_self)
    exact ⟨meth, c, h1, h2, h3, h4, h5, h6⟩
  · intro p e s m args below meth c s₁ B hml0 hP _
    obtain ⟨rfl, hx, hbd, hgv⟩ := hP
    obtain ⟨scr, harrAt, hlist, hof, hsmall⟩ := hx
    obtain ⟨hcb, hkn, -, -⟩ := State.arrayAt?_spec harrAt
    have hown : s.vm.findClass R_law = some m.cls := findClass_of_methodNamed B.named
    have hts0 : ∀ c ∈ (Jvm.Cond.code x code maxLocals ret :: tables_1), c.before #[Value.ref b] s = true := atoms_spec (ws := Jvm.Cond.code x code maxLocals ret :: tables_1) B.pre
    have hts : ∀ w ∈ lw_tbl, w.before #[Value.ref b] s = true := k2_hts_sels lw_privs (fun w hw => hts0 w (List.mem_cons_of_mem _ hw)) lw_privs_ok
    have hml : c.maxLocals = 7 := B.maxLocals_eq (hts0 _ List.mem_cons_self)
    have X₀ : Stand p l e room_1 s m #[Value.ref b] below meth c s₁ [] 0 0 := Stand.of_body B
    have hh0 : s₁.heap = s.heap := by rw [B.state]; rfl
    have hsz : scr.slots.size = xs.length := by rw [← Array.length_toList, hlist, List.length_map]
    have hval : ∀ j : Nat, j < xs.length → scr.slots[j]? = some (.int (xs.getD j 0)) := fun j hj => by
      rw [← Array.getElem?_toList, hlist]
      simp [hj]
    have hbl : b < s.heap.size := (Array.getElem?_eq_some_iff.mp hcb).1
    have hX : va_X b xs.length (fun j => xs.getD j 0) s s.heap := ⟨scr, hcb, hof, hkn, hsz, hval⟩
    have K : W p l e room_1 s m #[Value.ref b] below meth c s₁.heap [] 0 0 (lw_Z below #[Value.ref b] s) (entryFrame m ([Value.ref b] : List Value).toArray 7) := by
      rw [hh0]
      exact whole_start_open hpure l hl0 hbd ⟨B.exec, B.bytes, B.returns, hml, hown, hts, hX, hbl, B.notSynchronized, hgv⟩
    obtain ⟨t, a1, o, b1, b2, b3⟩ := K s₁ rfl X₀
    exact ⟨t, o, a1, b1, b2, b3⟩
theorem lw_pre_spec {args : Array Value} {s : State} (h : (Jvm.Cond.and given_1 narrow_1).before args s = true) (hr : rest_1_c.before args s = true) : ∃ (b : Addr) (xs : List Int32), lw_P b xs args s := by
  have hs := flat_of_before _ h
  have hq := flat_of_before _ hr
  have hc : (Cond.count 1).before args s = true := hs _ (by decide +kernel)
  have harr : (Cond.arrayOf (.arg 0) .int).before args s = true := hs _ (by decide +kernel)
  have hle : (Cond.le (.length (.arg 0)) (.int 3584)).before args s = true := hs _ (by decide +kernel)
  have hlen : (Cond.isInt (.length (.arg 0))).before args s = true := hq _ (by decide +kernel)
  have hall : (Cond.all (.arg 0) (.isInt (.elem (.arg 0) (.index 0)))).before args s = true := hq _ (by decide +kernel)
  obtain ⟨b, xs, hb, hx⟩ := State.ints_of_pre rfl harr hlen hall
  have hsm : xs.length < 2 ^ 31 := hx.choose_spec.2.2.2
  have hev : (Term.length (.arg 0)).eval args s none [] s = some (.int xs.length.toInt32) := hx.length_eval hb
  have hv := Cond.le_ints hev (show (Term.int 3584).eval args s none [] s = some (.int 3584) from rfl)
  have hd : xs.length.toInt32 ≤ 3584 := by
    simpa [Cond.before, Cond.holds, hv] using hle
  have hN : xs.length ≤ 3584 := (Int32.ofNat_le_ofNat hsm (by decide)).mp (show Int32.ofNat xs.length ≤ Int32.ofNat 3584 from hd)
  exact ⟨b, xs, Cond.one_arg hc (show args[0]? = some (.ref b) from hb), hx, hN, h⟩
theorem lw_comes (hpure : LawPure) (l : Launch) (hl0 : l.stackTraces = false) : Comes l x (Jvm.Cond.code x code maxLocals ret :: tables_1) room_1 (fun tb e args s => Calls_1 tb e args s ∧ rest_1 tb e args s ∧ Pre_1 tb e args s)
    (fun _ _ args s o t => lw_Q args s o t) := by
  intro p e ha hc hk s m args below hf hfit hheap happ hpre
  obtain ⟨b, xs, hP⟩ := lw_pre_spec hpre.2.2 hpre.2.1
  obtain ⟨k, o, h1, h2, h3, hQ⟩ := lw_walk hpure l hl0 b xs p e ha hc hk s m args below hf ((Spec.applies_iff_loose hf).mp happ).1 hP trivial
  exact ⟨k, o, h1, h2, h3, hQ⟩
theorem lw_frame {s t : State} {o : Outcome} {args : Array Value} (h : Framed s o t [] 601024 7293034) :
    Framed s o t (fieldLocs frame_1_writes args s ++ arrayLocs frame_1_arrays args s ++ staticLocs frame_1_statics s) 601024 7293034 := h
theorem lw_limb (hpure : LawPure) (L : Cond) (hL : ∀ (args : Array Value) (s t : State), L.after args s (.returned (some (.int 1))) t = true) :
    ArmFor flags0 classFile x code maxLocals ret World_1 tables_1 room_1 Calls_1 rest_1 Pre_1
      (fun tb e a s o t => postC L tb e a s o t ∧ Framed s o t (fieldLocs frame_1_writes a s ++ arrayLocs frame_1_arrays a s ++ staticLocs frame_1_statics s) 601024 7293034) := by
  intro l hfl _ _ p e ha hc hk s m args below hf hfit hheap happ hpre
  obtain ⟨k, o, h1, h2, h3, rfl, hF⟩ := lw_comes hpure l (by unfold Launch.stackTraces; rw [hfl]; decide +kernel) p e ha hc hk s m args below hf hfit hheap happ hpre
  exact ⟨k, _, h1, h2, h3, hL args s _, lw_frame hF⟩
theorem i_vc_open (hpure : LawPure) : Claimed_1_1 ∧ Claimed_1_2 := ⟨lw_limb hpure limb_1_1 (fun args s t => by simp [limb_1_1, Cond.after, Cond.holds, Cond.value]), lw_limb hpure limb_1_2 (fun args s t => Cond.after_iff.mpr (by
  first | (rw [show limb_1_2 = Cond.eq .result (.int 1) from rfl, Cond.eq_ints (x := 1) (y := 1) rfl rfl]; simp; done) | (simp [limb_1_2, Cond.value, Term.eval]; done)))⟩

