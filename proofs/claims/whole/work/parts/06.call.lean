def nO (S : Mem) (ci : Nat) : Option (Nat × Mem) := some (mZ S, pNew S ci 0)
theorem pNew_at (S : Mem) (kd n : Nat) : mK (pNew S kd n) (mZ S) = kd ∧ mN (pNew S kd n) (mZ S) = n ∧ mI (pNew S kd n) (mZ S) = (fun _ => 0) ∧ mJ (pNew S kd n) (mZ S) = (fun _ => 0) ∧ mR (pNew S kd n) (mZ S) = (fun _ => none) := by
  simp [mK, mN, mI, mJ, mR, pNew, u1]
section NROWS
variable {α : Type} {Γ : Cx} {ι : α → Option Value} {cc : ByteArray} {own : String} {Rm : Room} {ret : Option FieldType} {mc0 ms0 : Nat} {X : Option (α × Mem)} {S : Mem} {cl sl pc : Nat} {L : List (Option Value)} {st : List Value}
theorem s_new (C : Ctx Γ cc own Rm ret mc0 ms0) {idx : Nat} (ci : Nat) {K : Nat × Mem → Option (α × Mem)} (hci : ci < 9) (hw : Cond.classLink own idx (clR ci) ∈ lw_g) (hrm : cl + 1 ≤ Rm.cells ∧ sl + szOf ci ≤ Rm.slots) (hd : decode cc pc = .ok (.new idx, 3)) (kk : ∀ q S1, Sim Γ ι (K (q, S1)) S1 (cl + 1) (sl + szOf ci) (pc + 3) L (.ref q :: st)) : Sim Γ ι ((nO S ci).bind K) S cl sl pc L st := by
  obtain ⟨p, l, e, R, s, m, args, below, meth, c, nL, D, cs, z, mc, ms⟩ := Γ
  obtain ⟨hx, hb, hml, hown, hts, hK, hlk, hRm, hret, hmc, hms, hnw⟩ := C
  intro r S' hX H locs ls hr hS hL
  subst hRm
  have hKn := hK.1 ci _ (cl_at ci hci)
  refine W.newcK hx hb hown (hts _ hw) (hts _ (inst_at ci hci)) (hts _ (init_at ci hci)) rfl hd hrm.1 hrm.2 hKn.2.1 rfl fun H1 kC hkC e1 z1 o1 => ?_
  have hz := hr.1
  rw [hz]
  refine kk _ _ r S' hX H1 locs ls (hR_new hr z1 o1 (fun _ => ?_) (fun h => absurd h (by omega)) (by omega)) ⟨Nat.le_trans hS.1 (by omega), fun q h1 h2 => (o1 q (Nat.lt_of_lt_of_le h1 hS.1)).trans (hS.2.1 q h1 h2), hS.2.2⟩ hL
  obtain ⟨a1, a2, a3, a4, a5⟩ := pNew_at S ci 0
  unfold hOb
  rw [a1]
  rw [hz] at e1
  exact (u_born (tyOf ci) hts (inT ci hci) hKn hkC e1 (tyT ci hci)).to (fun k hk => entV_0 (ty_any ci hci k hk) (by rw [a3]) (by rw [a4]) (by rw [a5]))

theorem s_newa9 (C : Ctx Γ cc own Rm ret mc0 ms0) (B : Nat) {n : Int32} {K : Nat × Mem → Option (α × Mem)} (hw : Cond.arrayClass .byte ∈ lw_g) (hB : B ≤ 8192) (hrm : cl + 1 ≤ Rm.cells ∧ sl + B ≤ Rm.slots) (hd : decode cc pc = .ok (.newarray .byte, 2)) (kk : ∀ q S1, Sim Γ ι (K (q, S1)) S1 (cl + 1) (sl + B) (pc + 2) L (.ref q :: st)) : Sim Γ ι ((nA S 9 B n).bind K) S cl sl pc L (.int n :: st) := by
  obtain ⟨p, l, e, R, s, m, args, below, meth, c, nL, D, cs, z, mc, ms⟩ := Γ
  obtain ⟨hx, hb, hml, hown, hts, hK, hlk, hRm, hret, hmc, hms, hnw⟩ := C
  intro r S' hX H locs ls hr hS hL
  subst hRm
  unfold nA at hX
  by_cases hk : ¬ n < 0 ∧ n.toNatClampNeg ≤ B
  · rw [if_pos hk] at hX
    refine va_newaK hx hb (hts _ hw) rfl hd rfl hk.1 rfl (by have : componentBytes (newarray.typeOf .byte) ≤ 8 := by decide
                                                            have h3 := Nat.mul_le_mul hk.2 this
                                                            omega) hrm.1 (by omega) rfl fun H1 cA e1 z1 o1 hAr hNm => ?_
    have hz := hr.1
    have hcA : cA = cs 9 := Option.some.inj (hNm.symm.trans (hK.2 0 _ rfl).2)
    rw [hz] at e1 ⊢
    refine W.widen (Nat.le_refl _) (Nat.add_le_add_left hk.2 sl) ?_
    refine kk _ _ r S' hX H1 locs ls (hR_new hr z1 o1 (fun h => absurd h (by decide)) (fun _ _ => ?_) (by decide)) ⟨Nat.le_trans hS.1 (by omega), fun q h1 h2 => (o1 q (Nat.lt_of_lt_of_le h1 hS.1)).trans (hS.2.1 q h1 h2), hS.2.2⟩ hL
    obtain ⟨a1, a2, a3, a4, a5⟩ := pNew_at S 9 n.toNatClampNeg
    unfold hAr
    rw [a1, a2, e1, hcA]
    congr 2
    funext j
    unfold arV
    first | rw [a3]; rfl | rw [a4]; rfl
  · rw [if_neg hk] at hX; cases hX
theorem s_newa10 (C : Ctx Γ cc own Rm ret mc0 ms0) (B : Nat) {n : Int32} {K : Nat × Mem → Option (α × Mem)} (hw : Cond.arrayClass .int ∈ lw_g) (hB : B ≤ 8192) (hrm : cl + 1 ≤ Rm.cells ∧ sl + B ≤ Rm.slots) (hd : decode cc pc = .ok (.newarray .int, 2)) (kk : ∀ q S1, Sim Γ ι (K (q, S1)) S1 (cl + 1) (sl + B) (pc + 2) L (.ref q :: st)) : Sim Γ ι ((nA S 10 B n).bind K) S cl sl pc L (.int n :: st) := by
  obtain ⟨p, l, e, R, s, m, args, below, meth, c, nL, D, cs, z, mc, ms⟩ := Γ
  obtain ⟨hx, hb, hml, hown, hts, hK, hlk, hRm, hret, hmc, hms, hnw⟩ := C
  intro r S' hX H locs ls hr hS hL
  subst hRm
  unfold nA at hX
  by_cases hk : ¬ n < 0 ∧ n.toNatClampNeg ≤ B
  · rw [if_pos hk] at hX
    refine va_newaK hx hb (hts _ hw) rfl hd rfl hk.1 rfl (by have : componentBytes (newarray.typeOf .int) ≤ 8 := by decide
                                                            have h3 := Nat.mul_le_mul hk.2 this
                                                            omega) hrm.1 (by omega) rfl fun H1 cA e1 z1 o1 hAr hNm => ?_
    have hz := hr.1
    have hcA : cA = cs 10 := Option.some.inj (hNm.symm.trans (hK.2 1 _ rfl).2)
    rw [hz] at e1 ⊢
    refine W.widen (Nat.le_refl _) (Nat.add_le_add_left hk.2 sl) ?_
    refine kk _ _ r S' hX H1 locs ls (hR_new hr z1 o1 (fun h => absurd h (by decide)) (fun _ _ => ?_) (by decide)) ⟨Nat.le_trans hS.1 (by omega), fun q h1 h2 => (o1 q (Nat.lt_of_lt_of_le h1 hS.1)).trans (hS.2.1 q h1 h2), hS.2.2⟩ hL
    obtain ⟨a1, a2, a3, a4, a5⟩ := pNew_at S 10 n.toNatClampNeg
    unfold hAr
    rw [a1, a2, e1, hcA]
    congr 2
    funext j
    unfold arV
    first | rw [a3]; rfl | rw [a4]; rfl
  · rw [if_neg hk] at hX; cases hX
theorem s_newa11 (C : Ctx Γ cc own Rm ret mc0 ms0) (B : Nat) {n : Int32} {K : Nat × Mem → Option (α × Mem)} (hw : Cond.arrayClass .long ∈ lw_g) (hB : B ≤ 8192) (hrm : cl + 1 ≤ Rm.cells ∧ sl + B ≤ Rm.slots) (hd : decode cc pc = .ok (.newarray .long, 2)) (kk : ∀ q S1, Sim Γ ι (K (q, S1)) S1 (cl + 1) (sl + B) (pc + 2) L (.ref q :: st)) : Sim Γ ι ((nA S 11 B n).bind K) S cl sl pc L (.int n :: st) := by
  obtain ⟨p, l, e, R, s, m, args, below, meth, c, nL, D, cs, z, mc, ms⟩ := Γ
  obtain ⟨hx, hb, hml, hown, hts, hK, hlk, hRm, hret, hmc, hms, hnw⟩ := C
  intro r S' hX H locs ls hr hS hL
  subst hRm
  unfold nA at hX
  by_cases hk : ¬ n < 0 ∧ n.toNatClampNeg ≤ B
  · rw [if_pos hk] at hX
    refine va_newaK hx hb (hts _ hw) rfl hd rfl hk.1 rfl (by have : componentBytes (newarray.typeOf .long) ≤ 8 := by decide
                                                            have h3 := Nat.mul_le_mul hk.2 this
                                                            omega) hrm.1 (by omega) rfl fun H1 cA e1 z1 o1 hAr hNm => ?_
    have hz := hr.1
    have hcA : cA = cs 11 := Option.some.inj (hNm.symm.trans (hK.2 2 _ rfl).2)
    rw [hz] at e1 ⊢
    refine W.widen (Nat.le_refl _) (Nat.add_le_add_left hk.2 sl) ?_
    refine kk _ _ r S' hX H1 locs ls (hR_new hr z1 o1 (fun h => absurd h (by decide)) (fun _ _ => ?_) (by decide)) ⟨Nat.le_trans hS.1 (by omega), fun q h1 h2 => (o1 q (Nat.lt_of_lt_of_le h1 hS.1)).trans (hS.2.1 q h1 h2), hS.2.2⟩ hL
    obtain ⟨a1, a2, a3, a4, a5⟩ := pNew_at S 11 n.toNatClampNeg
    unfold hAr
    rw [a1, a2, e1, hcA]
    congr 2
    funext j
    unfold arV
    first | rw [a3]; rfl | rw [a4]; rfl
  · rw [if_neg hk] at hX; cases hX
theorem s_newa12 (C : Ctx Γ cc own Rm ret mc0 ms0) (B : Nat) {n : Int32} {K : Nat × Mem → Option (α × Mem)} (hw : Cond.arrayClass .boolean ∈ lw_g) (hB : B ≤ 8192) (hrm : cl + 1 ≤ Rm.cells ∧ sl + B ≤ Rm.slots) (hd : decode cc pc = .ok (.newarray .boolean, 2)) (kk : ∀ q S1, Sim Γ ι (K (q, S1)) S1 (cl + 1) (sl + B) (pc + 2) L (.ref q :: st)) : Sim Γ ι ((nA S 12 B n).bind K) S cl sl pc L (.int n :: st) := by
  obtain ⟨p, l, e, R, s, m, args, below, meth, c, nL, D, cs, z, mc, ms⟩ := Γ
  obtain ⟨hx, hb, hml, hown, hts, hK, hlk, hRm, hret, hmc, hms, hnw⟩ := C
  intro r S' hX H locs ls hr hS hL
  subst hRm
  unfold nA at hX
  by_cases hk : ¬ n < 0 ∧ n.toNatClampNeg ≤ B
  · rw [if_pos hk] at hX
    refine va_newaK hx hb (hts _ hw) rfl hd rfl hk.1 rfl (by have : componentBytes (newarray.typeOf .boolean) ≤ 8 := by decide
                                                            have h3 := Nat.mul_le_mul hk.2 this
                                                            omega) hrm.1 (by omega) rfl fun H1 cA e1 z1 o1 hAr hNm => ?_
    have hz := hr.1
    have hcA : cA = cs 12 := Option.some.inj (hNm.symm.trans (hK.2 3 _ rfl).2)
    rw [hz] at e1 ⊢
    refine W.widen (Nat.le_refl _) (Nat.add_le_add_left hk.2 sl) ?_
    refine kk _ _ r S' hX H1 locs ls (hR_new hr z1 o1 (fun h => absurd h (by decide)) (fun _ _ => ?_) (by decide)) ⟨Nat.le_trans hS.1 (by omega), fun q h1 h2 => (o1 q (Nat.lt_of_lt_of_le h1 hS.1)).trans (hS.2.1 q h1 h2), hS.2.2⟩ hL
    obtain ⟨a1, a2, a3, a4, a5⟩ := pNew_at S 12 n.toNatClampNeg
    unfold hAr
    rw [a1, a2, e1, hcA]
    congr 2
    funext j
    unfold arV
    first | rw [a3]; rfl | rw [a4]; rfl
  · rw [if_neg hk] at hX; cases hX
theorem s_anew (C : Ctx Γ cc own Rm ret mc0 ms0) (B : Nat) {idx : Nat} {n : Int32} {K : Nat × Mem → Option (α × Mem)} (hw : Cond.classLink own idx RX2 ∈ lw_g) (hw2 : Cond.arrayOver (.object RX2) ∈ lw_g) (hB : B ≤ 8192) (hrm : cl + 1 ≤ Rm.cells ∧ sl + B ≤ Rm.slots) (hd : decode cc pc = .ok (.anewarray idx, 3)) (kk : ∀ q S1, Sim Γ ι (K (q, S1)) S1 (cl + 1) (sl + B) (pc + 3) L (.ref q :: st)) : Sim Γ ι ((nA S 13 B n).bind K) S cl sl pc L (.int n :: st) := by
  obtain ⟨p, l, e, R, s, m, args, below, meth, c, nL, D, cs, z, mc, ms⟩ := Γ
  obtain ⟨hx, hb, hml, hown, hts, hK, hlk, hRm, hret, hmc, hms, hnw⟩ := C
  intro r S' hX H locs ls hr hS hL
  subst hRm
  unfold nA at hX
  by_cases hk : ¬ n < 0 ∧ n.toNatClampNeg ≤ B
  · rw [if_pos hk] at hX
    refine W.anew hx hb hown (hts _ hw) (hts _ hw2) rfl hd rfl hk.1 (by omega) hrm.1 (by omega) fun cA kA comp e1 e2 e3 e4 => ?_
    have hz := hr.1
    obtain ⟨kA', comp', b1, b2, b3, b4⟩ := (hK.2 4 _ rfl).2
    have hcA : cA = cs 13 := Option.some.inj (e1.symm.trans b4)
    rw [hz]
    refine W.widen (Nat.le_refl _) (Nat.add_le_add_left hk.2 sl) ?_
    refine kk _ _ r S' hX _ locs ls (hR_new hr (by simp) (fun q hq => by rw [Array.getElem?_push, if_neg (Nat.ne_of_lt hq)]) (fun h => absurd h (by decide)) (fun _ _ => ?_) (by decide)) ⟨Nat.le_trans hS.1 (by simp), fun q h1 h2 => (by rw [Array.getElem?_push, if_neg (Nat.ne_of_lt (Nat.lt_of_lt_of_le h1 hS.1))]; exact hS.2.1 q h1 h2), hS.2.2⟩ hL
    obtain ⟨a1, a2, a3, a4, a5⟩ := pNew_at S 13 n.toNatClampNeg
    unfold hAr
    rw [a1, a2, ← hz, hcA, arrV_new]
    simp only [Array.getElem?_push_size]
    congr 2
    funext j
    unfold arV
    show Value.null = va_rf _
    rw [a5]; rfl
  · rw [if_neg hk] at hX; cases hX
theorem s_aast (C : Ctx Γ cc own Rm ret mc0 ms0) {a v : Nat} {i : Int32} {K : Mem → Option (α × Mem)} (hd : decode cc pc = .ok (.aastore, 1)) (kk : ∀ S1, Sim Γ ι (K S1) S1 cl sl (pc + 1) L st) : Sim Γ ι ((sAR S 2 a i v).bind K) S cl sl pc L (.ref v :: .int i :: .ref a :: st) := by
  obtain ⟨p, l, e, R, s, m, args, below, meth, c, nL, D, cs, z, mc, ms⟩ := Γ
  obtain ⟨hx, hb, hml, hown, hts, hK, hlk, hRm, hret, hmc, hms, hnw⟩ := C
  intro r S' hX H locs ls hr hS hL
  unfold sAR at hX
  by_cases hk : mK S a = 13 ∧ inB i (mN S a) ∧ mK S v = 2
  · rw [if_pos hk] at hX
    obtain ⟨hza, ha⟩ := hr_ar hr hk.1 (by decide) (by decide)
    obtain ⟨-, cellV, g1, g2, g3, -⟩ := hr_ob hr hk.2.2 (by decide)
    have hcls := (hK.1 2 _ (cl_at 2 (by decide))).2
    obtain ⟨kA, comp, k1, k2, k3, -⟩ := (hK.2 4 _ rfl).2
    have hcomp : comp = D.1 2 := Option.some.inj (k3.symm.trans hcls.1)
    obtain ⟨kC, hkC, -⟩ := hcls.2
    refine W.aast hx hb ha (fun q h => by cases h) (fun h => by cases h) k1 k2 rfl (by rw [hcomp]; exact hkC) ⟨hk.2.1.1, by rw [arrV_size]; exact hk.2.1.2⟩ g1 (fun q h => by rw [g3] at h; cases h) (by rw [g2]; exact hkC) (by rw [g2, hcomp]; exact va_assign hcls) rfl rfl hd fun H1 e1 e2 e3 => ?_
    refine kk _ r S' hX H1 _ ls (hR_upd hr (Ag_pR S a i.toNatClampNeg (some v)) e2 e3 (fun h => absurd h (by rw [hk.1]; decide)) (fun _ _ => ?_) (by rw [hk.1]; decide) hza) (hS.put e2 e3 hza) hL
    unfold hAr
    rw [e1, arrV_store]
    show some (arrV (cs 13) (mN S a) _) = some (arrV (cs (mK S a)) (mN S a) (arV (mK S a) _ a))
    rw [hk.1]
    congr 2
    funext q
    unfold updV
    by_cases hq : q = i.toNatClampNeg
    · subst hq
      rw [if_pos rfl]
      show _ = va_rf (mR (pR S a _ (some v)) a _)
      rw [pR_s]; rfl
    · rw [if_neg hq]
      show va_rf (mR S a q) = va_rf (mR (pR S a _ (some v)) a q)
      rw [pR_n S _ hq]
  · rw [if_neg hk] at hX; cases hX
theorem s_getU (C : Ctx Γ cc own Rm ret mc0 ms0) {idx : Nat} (hw : Cond.fieldLink own idx "KiteLamp$Sky" "UNTOLD" "[I" ∈ lw_g) (hd : decode cc pc = .ok (.getstatic idx, 3)) (k : Sim Γ ι X S cl sl (pc + 3) L (.ref (mU S) :: st)) : Sim Γ ι X S cl sl pc L st := by
  obtain ⟨p, l, e, R, s, m, args, below, meth, c, nL, D, cs, z, mc, ms⟩ := Γ
  obtain ⟨hx, hb, hml, hown, hts, hK, hlk, hRm, hret, hmc, hms, hnw⟩ := C
  intro r S' hX H locs ls hr hS hL
  obtain ⟨cf, kf, fi, f, a, cell, h1, h2, h3, h4, h5, h6, h7, h8⟩ := hr.2.2.2.2.2
  exact W.gets hx hb hown (hts _ hw) h1 h2 h3 h4 h5 (fun e => by rw [e] at h6; cases h6) h7 rfl hd (k r S' hX H locs ls hr hS hL)
theorem s_objInit (C : Ctx Γ cc own Rm ret mc0 ms0) {idx a : Nat} (hw : Cond.methodLink own idx Lib.objectInit ∈ lw_g) (hw2 : Cond.instanceMethod Lib.objectInit ∈ lw_g) (hw3 : Cond.code Lib.objectInit ⟨#[0xb1]⟩ 1 none ∈ lw_g) (hrm : 1 ≤ Rm.frames ∧ (st.map fun v => v.category).sum + 12 ≤ Rm.locals) (hd : decode cc pc = .ok (.invokespecial idx, 3)) (k : Sim Γ ι X S cl sl (pc + 3) L st) : Sim Γ ι X S cl sl pc L (.ref a :: st) := by
  obtain ⟨p, l, e, R, s, m, args, below, meth, c, nL, D, cs, z, mc, ms⟩ := Γ
  obtain ⟨hx, hb, hml, hown, hts, hK, hlk, hRm, hret, hmc, hms, hnw⟩ := C
  intro r S' hX H locs ls hr hS hL
  subst hRm
  exact W.objInit hx hb hown (hts _ hw) (hts _ hw2) (hts _ hw3) rfl (hL.1.1.trans hml.symm) rfl hd hrm.1 (by show 2 * 0 + _ + 12 ≤ _; omega) (k r S' hX H locs ls hr hS hL)
/-! returns -/
theorem s_iret {S : Mem} (C : Ctx Γ cc own Rm (some .int) mc0 ms0) {x : Int32} (hc : cl ≤ mc0 ∧ sl ≤ ms0) (hd : decode cc pc = .ok (.ireturn, 1)) : Sim Γ rI (some (x, S)) S cl sl pc L [.int x] := by
  obtain ⟨p, l, e, R, s, m, args, below, meth, c, nL, D, cs, z, mc, ms⟩ := Γ
  obtain ⟨hx, hb, hml, hown, hts, hK, hlk, hRm, hret, hmc, hms, hnw⟩ := C
  intro r S' hX H locs ls hr hS hL
  cases hX
  subst hmc; subst hms
  exact W.widen hc.1 hc.2 (W.iret hx hb hret (fun t ht hw => ⟨rfl, by rw [ht]; exact hr.moved hw.alike, hS.F ht⟩) (fun q hq => hS.2.2 q hq) hd hlk)
def rz (x : Int32) (S : Mem) : Option (Int32 × Mem) := if x = 0 ∨ x = 1 then some (x, S) else none
theorem s_zret {S : Mem} (C : Ctx Γ cc own Rm (some .boolean) mc0 ms0) {x : Int32} (hc : cl ≤ mc0 ∧ sl ≤ ms0) (hd : decode cc pc = .ok (.ireturn, 1)) : Sim Γ rI (rz x S) S cl sl pc L [.int x] := by
  obtain ⟨p, l, e, R, s, m, args, below, meth, c, nL, D, cs, z, mc, ms⟩ := Γ
  obtain ⟨hx, hb, hml, hown, hts, hK, hlk, hRm, hret, hmc, hms, hnw⟩ := C
  intro r S' hX H locs ls hr hS hL
  unfold rz at hX
  by_cases hk : x = 0 ∨ x = 1
  · rw [if_pos hk] at hX
    cases hX
    subst hmc; subst hms
    exact W.widen hc.1 hc.2 (W.zret hx hb hret (by rcases hk with rfl | rfl <;> rfl) (fun t ht hw => ⟨rfl, by rw [ht]; exact hr.moved hw.alike, hS.F ht⟩) (fun q hq => hS.2.2 q hq) hd hlk)
  · rw [if_neg hk] at hX; cases hX
theorem s_lret {S : Mem} (C : Ctx Γ cc own Rm (some .long) mc0 ms0) {x : Int64} (hc : cl ≤ mc0 ∧ sl ≤ ms0) (hd : decode cc pc = .ok (.lreturn, 1)) : Sim Γ rJ (some (x, S)) S cl sl pc L [.long x] := by
  obtain ⟨p, l, e, R, s, m, args, below, meth, c, nL, D, cs, z, mc, ms⟩ := Γ
  obtain ⟨hx, hb, hml, hown, hts, hK, hlk, hRm, hret, hmc, hms, hnw⟩ := C
  intro r S' hX H locs ls hr hS hL
  cases hX
  subst hmc; subst hms
  exact W.widen hc.1 hc.2 (W.lret hx hb hret (fun t ht hw => ⟨rfl, by rw [ht]; exact hr.moved hw.alike, hS.F ht⟩) (fun q hq => hS.2.2 q hq) hd hlk)
theorem s_vret {S : Mem} (C : Ctx Γ cc own Rm none mc0 ms0) (hc : cl ≤ mc0 ∧ sl ≤ ms0) (hd : decode cc pc = .ok (.return_, 1)) : Sim Γ rV (some ((), S)) S cl sl pc L [] := by
  obtain ⟨p, l, e, R, s, m, args, below, meth, c, nL, D, cs, z, mc, ms⟩ := Γ
  obtain ⟨hx, hb, hml, hown, hts, hK, hlk, hRm, hret, hmc, hms, hnw⟩ := C
  intro r S' hX H locs ls hr hS hL
  cases hX
  subst hmc; subst hms
  exact W.widen hc.1 hc.2 (W.vret hx hb hret (fun t ht hw => ⟨rfl, by rw [ht]; exact hr.moved hw.alike, hS.F ht⟩) (fun q hq => hS.2.2 q hq) hd hlk)
theorem s_aret {S : Mem} {rt : FieldType} (C : Ctx Γ cc own Rm (some (.array rt)) mc0 ms0) {x : Nat} (hc : cl ≤ mc0 ∧ sl ≤ ms0) (hd : decode cc pc = .ok (.areturn, 1)) : Sim Γ rA (some (x, S)) S cl sl pc L [.ref x] := by
  obtain ⟨p, l, e, R, s, m, args, below, meth, c, nL, D, cs, z, mc, ms⟩ := Γ
  obtain ⟨hx, hb, hml, hown, hts, hK, hlk, hRm, hret, hmc, hms, hnw⟩ := C
  intro r S' hX H locs ls hr hS hL
  cases hX
  subst hmc; subst hms
  exact W.widen hc.1 hc.2 (W.aret hx hb hret (Or.inr ⟨_, rfl⟩) (Or.inr ⟨_, rfl⟩) (fun t ht hw => ⟨rfl, by rw [ht]; exact hr.moved hw.alike, hS.F ht⟩) (fun q hq => hS.2.2 q hq) hd hlk)
/-! calls -/
theorem Pre.blind (D : va_G) (cs : Nat → ClassId) (z : Nat) (S : Mem) (av : List Value) : FrameBlind (va_Pc av (Pre D cs z S)) := by
  intro a U g mk h
  obtain ⟨h1, h2, h3, h4⟩ := h
  exact ⟨h1, h2.moved (u := U) (U := U.calling g mk a) (Vm.Alike.refl U.vm), va_K.moved (u := U) (U := U.calling g mk a) (Vm.Alike.refl U.vm) h3, fun w hw => va_Nw.same (by
    have h2 := (List.mem_filter.mp hw).2
    cases w <;> first | rfl | (simp at h2; done)) (rfl : U.vm = (U.calling g mk a).vm) (h4 w hw)⟩
theorem s_run {β : Type} {ιb : β → Option Value} (C : Ctx Γ cc own Rm ret mc0 ms0) {X0 : Option (β × Mem)} {K : β × Mem → Option (α × Mem)} {stk : List Value} {mcY msY : Nat}
    (hrun : ∀ v S1, X0 = some (v, S1) → match Γ with
      | (p, l, e, R, s, m, args, below, meth, c, nL, D, cs, z, _, _) => ∀ (H : Heap) (locs : List Loc) (ls : Array Slot), hR D cs z s S H → va_S (fun q => z ≤ q) s.heap H locs → lHas ls nL L → ∃ a, va_Run p l e R s m args below meth c H locs cl sl mcY msY (F0 m pc ls stk) st (Qo D cs z (ιb v) S1 a) (fun q => z ≤ q))
    (k : ∀ v S1, Sim Γ ι (K (v, S1)) S1 (cl + mcY) (sl + msY) (pc + 3) L ((ιb v).toList ++ st)) : Sim Γ ι (X0.bind K) S cl sl pc L stk := by
  obtain ⟨p, l, e, R, s, m, args, below, meth, c, nL, D, cs, z, mc, ms⟩ := Γ
  obtain ⟨hx, hb, hml, hown, hts, hK, hlk, hRm, hret, hmc, hms, hnw⟩ := C
  intro r S' hX H locs ls hr hS hL
  cases hX0 : X0 with
  | none => rw [hX0] at hX; cases hX
  | some q =>
    obtain ⟨v, S1⟩ := q
    rw [hX0] at hX
    obtain ⟨a, hrn⟩ := hrun v S1 hX0 H locs ls hr hS hL
    intro T hT Xs
    obtain ⟨w9, st₀, t, T', L9, h0, X', hL9, e1, e2, ⟨ho, hR1, hz, hk⟩, stp⟩ := hrn T hT Xs
    cases ho
    rw [h0] at hz hk
    have hal : s.vm.Alike T'.vm := X'.warmed.alike
    obtain ⟨t2, a1, b1⟩ := k v S1 r S' hX T'.heap (locs ++ L9) ls
      (by rw [e1]; exact hR1.moved (by rw [← e2]; exact hal.symm))
      ⟨Nat.le_trans hS.1 (by rw [e1]; exact hz), fun q h1 h2 => by rw [e1, hk q (Nat.lt_of_lt_of_le h1 hS.1) h2]; exact hS.2.1 q h1 h2, fun q hq => by
        rcases List.mem_append.mp hq with h | h
        · exact hS.2.2 q h
        · exact hL9 q h⟩ hL T' rfl X'
    exact ⟨t2, stp t2 a1, b1⟩
/-- a method by its entry of a class's pool -/
def MKV (own : String) (idx : Nat) (y : MethodName) (bytes : ByteArray) (maxL : Nat) (ret : Option FieldType) (n : Nat) : Prop :=
  Cond.methodLink own idx y ∈ lw_g ∧ Cond.instanceMethod y ∈ lw_g ∧ Cond.selects y.cls y y ∈ lw_g ∧ Cond.initialized y.cls ∈ lw_g ∧ Cond.code y bytes maxL ret ∈ lw_g ∧ (y.cls ≠ "java/lang/invoke/MethodHandle" ∧ y.cls ≠ "java/lang/invoke/VarHandle" ∧ (parseMethodDescriptor y.desc).map (fun d => d.parameters.length) = some n)
def MKS (own : String) (idx : Nat) (y : MethodName) (bytes : ByteArray) (maxL : Nat) (ret : Option FieldType) (n : Nat) : Prop :=
  Cond.methodLink own idx y ∈ lw_g ∧ Cond.static y ∈ lw_g ∧ Cond.initialized y.cls ∈ lw_g ∧ Cond.code y bytes maxL ret ∈ lw_g ∧ (y.cls ≠ "java/lang/invoke/MethodHandle" ∧ y.cls ≠ "java/lang/invoke/VarHandle" ∧ (parseMethodDescriptor y.desc).map (fun d => d.parameters.length) = some n)
def MKSN (own : String) (idx : Nat) (y : MethodName) (bytes : ByteArray) (maxL : Nat) (ret : Option FieldType) (n : Nat) : Prop :=
  (∃ host, Cond.methodLinkNest own idx y host ∈ lw_nest) ∧ Cond.static y ∈ lw_g ∧ Cond.initialized y.cls ∈ lw_g ∧ Cond.code y bytes maxL ret ∈ lw_g ∧ (y.cls ≠ "java/lang/invoke/MethodHandle" ∧ y.cls ≠ "java/lang/invoke/VarHandle" ∧ (parseMethodDescriptor y.desc).map (fun d => d.parameters.length) = some n)
def MKI (own : String) (idx : Nat) (y : MethodName) (bytes : ByteArray) (maxL : Nat) (ret : Option FieldType) (n : Nat) : Prop :=
  Cond.methodLink own idx y ∈ lw_g ∧ Cond.instanceMethod y ∈ lw_g ∧ y.name = "<init>" ∧ Cond.initialized y.cls ∈ lw_g ∧ (Cond.code y bytes maxL none ∈ lw_g ∧ ret = none) ∧ (y.cls ≠ "java/lang/invoke/MethodHandle" ∧ y.cls ≠ "java/lang/invoke/VarHandle" ∧ (parseMethodDescriptor y.desc).map (fun d => d.parameters.length) = some n)
def MKIN (own : String) (idx : Nat) (y : MethodName) (bytes : ByteArray) (maxL : Nat) (ret : Option FieldType) (n : Nat) : Prop :=
  (∃ host, Cond.methodLinkNest own idx y host ∈ lw_nest) ∧ Cond.instanceMethod y ∈ lw_g ∧ y.name = "<init>" ∧ Cond.initialized y.cls ∈ lw_g ∧ (Cond.code y bytes maxL none ∈ lw_g ∧ ret = none) ∧ (y.cls ≠ "java/lang/invoke/MethodHandle" ∧ y.cls ≠ "java/lang/invoke/VarHandle" ∧ (parseMethodDescriptor y.desc).map (fun d => d.parameters.length) = some n)
theorem ws_good {y : MethodName} {bytes : ByteArray} {maxL : Nat} {ret : Option FieldType} (h : Cond.code y bytes maxL ret ∈ lw_g) : GoodIn lw_g (wsOf y bytes maxL ret) := lw_GoodIn (fun w hw => by
  rcases List.mem_cons.mp hw with rfl | h2
  · exact h
  · exact h2)
/-- the room that a call wants -/
abbrev RmOK (Rm rm : Room) (maxL mcY msY cl sl : Nat) : Prop := rm.cells = mcY ∧ rm.slots = msY ∧ (rm.frames + 1 ≤ Rm.frames ∧ 8 + (maxL + 11) + rm.locals ≤ Rm.locals) ∧ cl + mcY ≤ Rm.cells ∧ sl + msY ≤ Rm.slots

theorem s_callV {β : Type} {ιb : β → Option Value} (C : Ctx Γ cc own Rm ret mc0 ms0) {y : MethodName} {bytes : ByteArray} {maxL n idx mcY msY : Nat} {retY : Option FieldType} {rm : Room} {X0 : Option (β × Mem)} {K : β × Mem → Option (α × Mem)} {b ci : Nat} (As : List Value) (mk : MKV own idx y bytes maxL retY n) (hci : ci < 9) (hcy : y.cls = clR ci) (hn : As.length = n) (hrm : RmOK Rm rm maxL mcY msY cl sl) (hst : (st.map fun v => v.category).sum ≤ 8)
    (hc : ∀ v S1, X0 = some (v, S1) → Con (lOf Γ) y bytes maxL retY rm mcY msY (.ref b :: As) S (ιb v) S1) (hd : decode cc pc = .ok (.invokevirtual idx, 3)) (k : ∀ v S1, Sim Γ ι (K (v, S1)) S1 (cl + mcY) (sl + msY) (pc + 3) L ((ιb v).toList ++ st)) : Sim Γ ι ((cal S ci b X0).bind K) S cl sl pc L (As.reverse ++ .ref b :: st) := by
  refine s_run (ιb := ιb) (mcY := mcY) (msY := msY) C (fun v S1 h0 => ?_) k
  obtain ⟨p, l, e, R, s, m, args, below, meth, c, nL, D, cs, z, mc, ms⟩ := Γ
  obtain ⟨hx, hb, hml, hown, hts, hK, hlk, hRm, hret, hmc, hms, hnw⟩ := C
  subst hRm
  intro H locs ls hr hS hL
  obtain ⟨r1, r2, r3, r4, r5⟩ := hrm
  obtain ⟨m1, m2, m3, m4, m5, m6⟩ := mk
  unfold cal at h0
  by_cases hk : mK S b = ci
  case neg => rw [if_neg hk] at h0; cases h0
  rw [if_pos hk] at h0
  have hrec : ∃ cell : Cell, H[b]? = some cell ∧ cell.vm.isStatics = false ∧ s.vm.findClass y.cls = some cell.cls := by
    obtain ⟨-, cell, g1, g2, g3, -⟩ := hr_ob hr hk hci
    exact ⟨cell, g1, by rw [g3]; rfl, by rw [g2, hcy]; exact (hK.1 ci _ (cl_at ci hci)).2.1⟩
  refine ⟨_, va_runV (As := As) (rest := st) ⟨hx, hb, hml, hown, hts⟩ (hc v S1 h0 D cs z) ⟨callB_of n hts (ws_good m5) rfl r1 r2 (hts _ m4) (hts _ m1) m6 r3, hts _ m2, hts _ m3⟩ ⟨Pre.blind D cs z S _, hrec, fun U hU hW => ⟨rfl, by rw [hU]; exact hr.moved hW.alike, va_K.moved hW.alike hK, hnw.warm hW⟩⟩ rfl hn hL.1.1 rfl (lv_room hst) hd ⟨r4, r5⟩⟩
theorem s_callS {β : Type} {ιb : β → Option Value} (C : Ctx Γ cc own Rm ret mc0 ms0) {y : MethodName} {bytes : ByteArray} {maxL n idx mcY msY : Nat} {retY : Option FieldType} {rm : Room} {X0 : Option (β × Mem)} {K : β × Mem → Option (α × Mem)} (As : List Value) (mk : MKS own idx y bytes maxL retY n) (hn : As.length = n) (hrm : RmOK Rm rm maxL mcY msY cl sl) (hst : (st.map fun v => v.category).sum ≤ 8)
    (hc : ∀ v S1, X0 = some (v, S1) → Con (lOf Γ) y bytes maxL retY rm mcY msY (As) S (ιb v) S1) (hd : decode cc pc = .ok (.invokestatic idx, 3)) (k : ∀ v S1, Sim Γ ι (K (v, S1)) S1 (cl + mcY) (sl + msY) (pc + 3) L ((ιb v).toList ++ st)) : Sim Γ ι ((X0).bind K) S cl sl pc L (As.reverse ++ st) := by
  refine s_run (ιb := ιb) (mcY := mcY) (msY := msY) C (fun v S1 h0 => ?_) k
  obtain ⟨p, l, e, R, s, m, args, below, meth, c, nL, D, cs, z, mc, ms⟩ := Γ
  obtain ⟨hx, hb, hml, hown, hts, hK, hlk, hRm, hret, hmc, hms, hnw⟩ := C
  subst hRm
  intro H locs ls hr hS hL
  obtain ⟨r1, r2, r3, r4, r5⟩ := hrm
  obtain ⟨m1, m2, m3, m4, m5⟩ := mk
  refine ⟨_, va_runS (As := As) (rest := st) ⟨hx, hb, hml, hown, hts⟩ (hc v S1 h0 D cs z) ⟨callB_of n hts (ws_good m4) rfl r1 r2 (hts _ m3) (hts _ m1) m5 r3, hts _ m2⟩ ⟨Pre.blind D cs z S _, fun U hU hW => ⟨rfl, by rw [hU]; exact hr.moved hW.alike, va_K.moved hW.alike hK, hnw.warm hW⟩⟩ rfl hn hL.1.1 rfl (lv_room hst) hd ⟨r4, r5⟩⟩
theorem s_callSN {β : Type} {ιb : β → Option Value} (C : Ctx Γ cc own Rm ret mc0 ms0) {y : MethodName} {bytes : ByteArray} {maxL n idx mcY msY : Nat} {retY : Option FieldType} {rm : Room} {X0 : Option (β × Mem)} {K : β × Mem → Option (α × Mem)} (As : List Value) (mk : MKSN own idx y bytes maxL retY n) (hn : As.length = n) (hrm : RmOK Rm rm maxL mcY msY cl sl) (hst : (st.map fun v => v.category).sum ≤ 8)
    (hc : ∀ v S1, X0 = some (v, S1) → Con (lOf Γ) y bytes maxL retY rm mcY msY (As) S (ιb v) S1) (hd : decode cc pc = .ok (.invokestatic idx, 3)) (k : ∀ v S1, Sim Γ ι (K (v, S1)) S1 (cl + mcY) (sl + msY) (pc + 3) L ((ιb v).toList ++ st)) : Sim Γ ι ((X0).bind K) S cl sl pc L (As.reverse ++ st) := by
  refine s_run (ιb := ιb) (mcY := mcY) (msY := msY) C (fun v S1 h0 => ?_) k
  obtain ⟨p, l, e, R, s, m, args, below, meth, c, nL, D, cs, z, mc, ms⟩ := Γ
  obtain ⟨hx, hb, hml, hown, hts, hK, hlk, hRm, hret, hmc, hms, hnw⟩ := C
  subst hRm
  intro H locs ls hr hS hL
  obtain ⟨r1, r2, r3, r4, r5⟩ := hrm
  obtain ⟨⟨host, m1⟩, m2, m3, m4, m5⟩ := mk
  refine ⟨_, va_runSN (As := As) (rest := st) ⟨hx, hb, hml, hown, hts⟩ (hc v S1 h0 D cs z) ⟨va_cnB n hts (ws_good m4) rfl r1 r2 (hnw _ m1) (hts _ m3) m5 r3, hts _ m2, trivial⟩ ⟨Pre.blind D cs z S _, fun U hU hW => ⟨rfl, by rw [hU]; exact hr.moved hW.alike, va_K.moved hW.alike hK, hnw.warm hW⟩⟩ rfl hn hL.1.1 rfl (lv_room hst) hd ⟨r4, r5⟩⟩
theorem s_callI {β : Type} {ιb : β → Option Value} (C : Ctx Γ cc own Rm ret mc0 ms0) {y : MethodName} {bytes : ByteArray} {maxL n idx mcY msY : Nat} {retY : Option FieldType} {rm : Room} {X0 : Option (β × Mem)} {K : β × Mem → Option (α × Mem)} {b : Nat} (As : List Value) (mk : MKI own idx y bytes maxL retY n) (hn : As.length = n) (hrm : RmOK Rm rm maxL mcY msY cl sl) (hst : (st.map fun v => v.category).sum ≤ 8)
    (hc : ∀ v S1, X0 = some (v, S1) → Con (lOf Γ) y bytes maxL retY rm mcY msY (.ref b :: As) S (ιb v) S1) (hd : decode cc pc = .ok (.invokespecial idx, 3)) (k : ∀ v S1, Sim Γ ι (K (v, S1)) S1 (cl + mcY) (sl + msY) (pc + 3) L ((ιb v).toList ++ st)) : Sim Γ ι ((X0).bind K) S cl sl pc L (As.reverse ++ .ref b :: st) := by
  refine s_run (ιb := ιb) (mcY := mcY) (msY := msY) C (fun v S1 h0 => ?_) k
  obtain ⟨p, l, e, R, s, m, args, below, meth, c, nL, D, cs, z, mc, ms⟩ := Γ
  obtain ⟨hx, hb, hml, hown, hts, hK, hlk, hRm, hret, hmc, hms, hnw⟩ := C
  subst hRm
  intro H locs ls hr hS hL
  obtain ⟨r1, r2, r3, r4, r5⟩ := hrm
  obtain ⟨m1, m2, m3, m4, ⟨m5, rfl⟩, m6⟩ := mk
  refine ⟨_, va_runI (As := As) (rest := st) ⟨hx, hb, hml, hown, hts⟩ (hc v S1 h0 D cs z) ⟨callB_of n hts (ws_good m5) rfl r1 r2 (hts _ m4) (hts _ m1) m6 r3, m3, hts _ m2⟩ ⟨Pre.blind D cs z S _, fun U hU hW => ⟨rfl, by rw [hU]; exact hr.moved hW.alike, va_K.moved hW.alike hK, hnw.warm hW⟩⟩ rfl hn hL.1.1 rfl (lv_room hst) hd ⟨r4, r5⟩⟩
theorem s_callIN {β : Type} {ιb : β → Option Value} (C : Ctx Γ cc own Rm ret mc0 ms0) {y : MethodName} {bytes : ByteArray} {maxL n idx mcY msY : Nat} {retY : Option FieldType} {rm : Room} {X0 : Option (β × Mem)} {K : β × Mem → Option (α × Mem)} {b : Nat} (As : List Value) (mk : MKIN own idx y bytes maxL retY n) (hn : As.length = n) (hrm : RmOK Rm rm maxL mcY msY cl sl) (hst : (st.map fun v => v.category).sum ≤ 8)
    (hc : ∀ v S1, X0 = some (v, S1) → Con (lOf Γ) y bytes maxL retY rm mcY msY (.ref b :: As) S (ιb v) S1) (hd : decode cc pc = .ok (.invokespecial idx, 3)) (k : ∀ v S1, Sim Γ ι (K (v, S1)) S1 (cl + mcY) (sl + msY) (pc + 3) L ((ιb v).toList ++ st)) : Sim Γ ι ((X0).bind K) S cl sl pc L (As.reverse ++ .ref b :: st) := by
  refine s_run (ιb := ιb) (mcY := mcY) (msY := msY) C (fun v S1 h0 => ?_) k
  obtain ⟨p, l, e, R, s, m, args, below, meth, c, nL, D, cs, z, mc, ms⟩ := Γ
  obtain ⟨hx, hb, hml, hown, hts, hK, hlk, hRm, hret, hmc, hms, hnw⟩ := C
  subst hRm
  intro H locs ls hr hS hL
  obtain ⟨r1, r2, r3, r4, r5⟩ := hrm
  obtain ⟨⟨host, m1⟩, m2, m3, m4, ⟨m5, rfl⟩, m6⟩ := mk
  refine ⟨_, va_runIN (As := As) (rest := st) ⟨hx, hb, hml, hown, hts⟩ (hc v S1 h0 D cs z) ⟨va_cnB n hts (ws_good m5) rfl r1 r2 (hnw _ m1) (hts _ m4) m6 r3, m3, hts _ m2⟩ ⟨Pre.blind D cs z S _, fun U hU hW => ⟨rfl, by rw [hU]; exact hr.moved hW.alike, va_K.moved hW.alike hK, hnw.warm hW⟩⟩ rfl hn hL.1.1 rfl (lv_room hst) hd ⟨r4, r5⟩⟩
end NROWS
/-- a method's contract out of the walk of its body -/
theorem con_of {α : Type} {ι : α → Option Value} {l : Launch} {y : MethodName} {bytes : ByteArray} {maxL : Nat} {ret : Option FieldType} {rm : Room} {mc ms : Nat} {av : List Value} {S : Mem} {X : Option (α × Mem)} {v : α} {S1 : Mem} (own : String) (Lv : List (Option Value)) (hown : y.cls = own) (hy : plainName y.cls = true) (hlen : (lg_sl av).length ≤ maxL) (hLv : asc 0 Lv = lv_args 0 av ∧ Lv.length = maxL)
    (h : ∀ Γ : Cx, lOf Γ = l → Ctx Γ bytes own rm ret mc ms → (y.name = "<init>" → IsInit Γ) → Sim Γ ι X S 0 0 0 Lv []) (hX : X = some (v, S1)) : Con l y bytes maxL ret rm mc ms av S (ι v) S1 := by
  intro D cs z
  refine Met.ofW (cc := bytes) (maxL := maxL) (ret := ret) hy rfl ?_
  intro p e s m args below meth c s₁ B hml hv
  obtain ⟨rfl, hr, hK, hN⟩ := hv
  have hts := atoms_spec (ws := wsOf y bytes maxL ret) B.pre
  have hw : s.vm.findClass own = some m.cls := by rw [← hown]; exact findClass_of_methodNamed B.named
  have hl := lv_entry av (n := maxL) hlen
  rw [lg_entry_eq]
  generalize (lg_sl av ++ List.replicate (maxL - (lg_sl av).length) Slot.unset).toArray = ls at hl ⊢
  have hin : y.name = "<init>" → meth.name = "<init>" := fun h => (name_of_methodNamed B.named B.method).1.trans h
  have C : Ctx (p, l, e, (headSpec (wsOf y bytes maxL ret) rm).room, s, m, av.toArray, below, meth, c, maxL, D, cs, z, mc, ms) bytes own rm ret mc ms :=
    ⟨B.exec, B.bytes, hml, hw, fun w h => hts w (List.mem_cons_of_mem _ h), hK, B.notSynchronized, rfl, B.returns, rfl, rfl, hN⟩
  exact h _ rfl C hin v S1 hX s.heap [] ls hr va_S.rf ⟨by rw [hLv.1]; exact hl, hLv.2⟩
/-! loops: a body that may go round again, at most so many times -/
def fix0 {R : Type} (b : (Mem → Option R) → Mem → Option R) : Nat → Mem → Option R
  | 0 => fun _ => none
  | n + 1 => b (fix0 b n)
theorem s_fix0 {α : Type} {Γ : Cx} {ι : α → Option Value} {cl sl pc : Nat} {st : List Value} (Lf : List (Option Value)) {b : (Mem → Option (α × Mem)) → Mem → Option (α × Mem)} (h : ∀ back : Mem → Option (α × Mem), (∀ (S : Mem), Sim Γ ι (back  S) S cl sl pc (Lf ) st) → ∀ (S : Mem), Sim Γ ι (b back  S) S cl sl pc (Lf ) st) : ∀ f : Nat, ∀ (S : Mem), Sim Γ ι (fix0 b f  S) S cl sl pc (Lf ) st
  | 0 => fun _ => s_none (K := True)
  | f + 1 => h (fix0 b f) (s_fix0 Lf h f)
def fix1 {A0 : Type} {R : Type} (b : (A0 → Mem → Option R) → A0 → Mem → Option R) : Nat → A0 → Mem → Option R
  | 0 => fun _ _ => none
  | n + 1 => b (fix1 b n)
theorem s_fix1 {A0 : Type} {α : Type} {Γ : Cx} {ι : α → Option Value} {cl sl pc : Nat} {st : List Value} (Lf : A0 → List (Option Value)) {b : (A0 → Mem → Option (α × Mem)) → A0 → Mem → Option (α × Mem)} (h : ∀ back : A0 → Mem → Option (α × Mem), (∀ (x0 : A0) (S : Mem), Sim Γ ι (back x0 S) S cl sl pc (Lf x0) st) → ∀ (x0 : A0) (S : Mem), Sim Γ ι (b back x0 S) S cl sl pc (Lf x0) st) : ∀ f : Nat, ∀ (x0 : A0) (S : Mem), Sim Γ ι (fix1 b f x0 S) S cl sl pc (Lf x0) st
  | 0 => fun _ _ => s_none (K := True)
  | f + 1 => h (fix1 b f) (s_fix1 Lf h f)
def fix2 {A0 A1 : Type} {R : Type} (b : (A0 → A1 → Mem → Option R) → A0 → A1 → Mem → Option R) : Nat → A0 → A1 → Mem → Option R
  | 0 => fun _ _ _ => none
  | n + 1 => b (fix2 b n)
theorem s_fix2 {A0 A1 : Type} {α : Type} {Γ : Cx} {ι : α → Option Value} {cl sl pc : Nat} {st : List Value} (Lf : A0 → A1 → List (Option Value)) {b : (A0 → A1 → Mem → Option (α × Mem)) → A0 → A1 → Mem → Option (α × Mem)} (h : ∀ back : A0 → A1 → Mem → Option (α × Mem), (∀ (x0 : A0) (x1 : A1) (S : Mem), Sim Γ ι (back x0 x1 S) S cl sl pc (Lf x0 x1) st) → ∀ (x0 : A0) (x1 : A1) (S : Mem), Sim Γ ι (b back x0 x1 S) S cl sl pc (Lf x0 x1) st) : ∀ f : Nat, ∀ (x0 : A0) (x1 : A1) (S : Mem), Sim Γ ι (fix2 b f x0 x1 S) S cl sl pc (Lf x0 x1) st
  | 0 => fun _ _ _ => s_none (K := True)
  | f + 1 => h (fix2 b f) (s_fix2 Lf h f)
def fix3 {A0 A1 A2 : Type} {R : Type} (b : (A0 → A1 → A2 → Mem → Option R) → A0 → A1 → A2 → Mem → Option R) : Nat → A0 → A1 → A2 → Mem → Option R
  | 0 => fun _ _ _ _ => none
  | n + 1 => b (fix3 b n)
theorem s_fix3 {A0 A1 A2 : Type} {α : Type} {Γ : Cx} {ι : α → Option Value} {cl sl pc : Nat} {st : List Value} (Lf : A0 → A1 → A2 → List (Option Value)) {b : (A0 → A1 → A2 → Mem → Option (α × Mem)) → A0 → A1 → A2 → Mem → Option (α × Mem)} (h : ∀ back : A0 → A1 → A2 → Mem → Option (α × Mem), (∀ (x0 : A0) (x1 : A1) (x2 : A2) (S : Mem), Sim Γ ι (back x0 x1 x2 S) S cl sl pc (Lf x0 x1 x2) st) → ∀ (x0 : A0) (x1 : A1) (x2 : A2) (S : Mem), Sim Γ ι (b back x0 x1 x2 S) S cl sl pc (Lf x0 x1 x2) st) : ∀ f : Nat, ∀ (x0 : A0) (x1 : A1) (x2 : A2) (S : Mem), Sim Γ ι (fix3 b f x0 x1 x2 S) S cl sl pc (Lf x0 x1 x2) st
  | 0 => fun _ _ _ _ => s_none (K := True)
  | f + 1 => h (fix3 b f) (s_fix3 Lf h f)
def fix4 {A0 A1 A2 A3 : Type} {R : Type} (b : (A0 → A1 → A2 → A3 → Mem → Option R) → A0 → A1 → A2 → A3 → Mem → Option R) : Nat → A0 → A1 → A2 → A3 → Mem → Option R
  | 0 => fun _ _ _ _ _ => none
  | n + 1 => b (fix4 b n)
theorem s_fix4 {A0 A1 A2 A3 : Type} {α : Type} {Γ : Cx} {ι : α → Option Value} {cl sl pc : Nat} {st : List Value} (Lf : A0 → A1 → A2 → A3 → List (Option Value)) {b : (A0 → A1 → A2 → A3 → Mem → Option (α × Mem)) → A0 → A1 → A2 → A3 → Mem → Option (α × Mem)} (h : ∀ back : A0 → A1 → A2 → A3 → Mem → Option (α × Mem), (∀ (x0 : A0) (x1 : A1) (x2 : A2) (x3 : A3) (S : Mem), Sim Γ ι (back x0 x1 x2 x3 S) S cl sl pc (Lf x0 x1 x2 x3) st) → ∀ (x0 : A0) (x1 : A1) (x2 : A2) (x3 : A3) (S : Mem), Sim Γ ι (b back x0 x1 x2 x3 S) S cl sl pc (Lf x0 x1 x2 x3) st) : ∀ f : Nat, ∀ (x0 : A0) (x1 : A1) (x2 : A2) (x3 : A3) (S : Mem), Sim Γ ι (fix4 b f x0 x1 x2 x3 S) S cl sl pc (Lf x0 x1 x2 x3) st
  | 0 => fun _ _ _ _ _ => s_none (K := True)
  | f + 1 => h (fix4 b f) (s_fix4 Lf h f)
def fix5 {A0 A1 A2 A3 A4 : Type} {R : Type} (b : (A0 → A1 → A2 → A3 → A4 → Mem → Option R) → A0 → A1 → A2 → A3 → A4 → Mem → Option R) : Nat → A0 → A1 → A2 → A3 → A4 → Mem → Option R
  | 0 => fun _ _ _ _ _ _ => none
  | n + 1 => b (fix5 b n)
theorem s_fix5 {A0 A1 A2 A3 A4 : Type} {α : Type} {Γ : Cx} {ι : α → Option Value} {cl sl pc : Nat} {st : List Value} (Lf : A0 → A1 → A2 → A3 → A4 → List (Option Value)) {b : (A0 → A1 → A2 → A3 → A4 → Mem → Option (α × Mem)) → A0 → A1 → A2 → A3 → A4 → Mem → Option (α × Mem)} (h : ∀ back : A0 → A1 → A2 → A3 → A4 → Mem → Option (α × Mem), (∀ (x0 : A0) (x1 : A1) (x2 : A2) (x3 : A3) (x4 : A4) (S : Mem), Sim Γ ι (back x0 x1 x2 x3 x4 S) S cl sl pc (Lf x0 x1 x2 x3 x4) st) → ∀ (x0 : A0) (x1 : A1) (x2 : A2) (x3 : A3) (x4 : A4) (S : Mem), Sim Γ ι (b back x0 x1 x2 x3 x4 S) S cl sl pc (Lf x0 x1 x2 x3 x4) st) : ∀ f : Nat, ∀ (x0 : A0) (x1 : A1) (x2 : A2) (x3 : A3) (x4 : A4) (S : Mem), Sim Γ ι (fix5 b f x0 x1 x2 x3 x4 S) S cl sl pc (Lf x0 x1 x2 x3 x4) st
  | 0 => fun _ _ _ _ _ _ => s_none (K := True)
  | f + 1 => h (fix5 b f) (s_fix5 Lf h f)
def fix6 {A0 A1 A2 A3 A4 A5 : Type} {R : Type} (b : (A0 → A1 → A2 → A3 → A4 → A5 → Mem → Option R) → A0 → A1 → A2 → A3 → A4 → A5 → Mem → Option R) : Nat → A0 → A1 → A2 → A3 → A4 → A5 → Mem → Option R
  | 0 => fun _ _ _ _ _ _ _ => none
  | n + 1 => b (fix6 b n)
theorem s_fix6 {A0 A1 A2 A3 A4 A5 : Type} {α : Type} {Γ : Cx} {ι : α → Option Value} {cl sl pc : Nat} {st : List Value} (Lf : A0 → A1 → A2 → A3 → A4 → A5 → List (Option Value)) {b : (A0 → A1 → A2 → A3 → A4 → A5 → Mem → Option (α × Mem)) → A0 → A1 → A2 → A3 → A4 → A5 → Mem → Option (α × Mem)} (h : ∀ back : A0 → A1 → A2 → A3 → A4 → A5 → Mem → Option (α × Mem), (∀ (x0 : A0) (x1 : A1) (x2 : A2) (x3 : A3) (x4 : A4) (x5 : A5) (S : Mem), Sim Γ ι (back x0 x1 x2 x3 x4 x5 S) S cl sl pc (Lf x0 x1 x2 x3 x4 x5) st) → ∀ (x0 : A0) (x1 : A1) (x2 : A2) (x3 : A3) (x4 : A4) (x5 : A5) (S : Mem), Sim Γ ι (b back x0 x1 x2 x3 x4 x5 S) S cl sl pc (Lf x0 x1 x2 x3 x4 x5) st) : ∀ f : Nat, ∀ (x0 : A0) (x1 : A1) (x2 : A2) (x3 : A3) (x4 : A4) (x5 : A5) (S : Mem), Sim Γ ι (fix6 b f x0 x1 x2 x3 x4 x5 S) S cl sl pc (Lf x0 x1 x2 x3 x4 x5) st
  | 0 => fun _ _ _ _ _ _ _ => s_none (K := True)
  | f + 1 => h (fix6 b f) (s_fix6 Lf h f)
def fix7 {A0 A1 A2 A3 A4 A5 A6 : Type} {R : Type} (b : (A0 → A1 → A2 → A3 → A4 → A5 → A6 → Mem → Option R) → A0 → A1 → A2 → A3 → A4 → A5 → A6 → Mem → Option R) : Nat → A0 → A1 → A2 → A3 → A4 → A5 → A6 → Mem → Option R
  | 0 => fun _ _ _ _ _ _ _ _ => none
  | n + 1 => b (fix7 b n)
theorem s_fix7 {A0 A1 A2 A3 A4 A5 A6 : Type} {α : Type} {Γ : Cx} {ι : α → Option Value} {cl sl pc : Nat} {st : List Value} (Lf : A0 → A1 → A2 → A3 → A4 → A5 → A6 → List (Option Value)) {b : (A0 → A1 → A2 → A3 → A4 → A5 → A6 → Mem → Option (α × Mem)) → A0 → A1 → A2 → A3 → A4 → A5 → A6 → Mem → Option (α × Mem)} (h : ∀ back : A0 → A1 → A2 → A3 → A4 → A5 → A6 → Mem → Option (α × Mem), (∀ (x0 : A0) (x1 : A1) (x2 : A2) (x3 : A3) (x4 : A4) (x5 : A5) (x6 : A6) (S : Mem), Sim Γ ι (back x0 x1 x2 x3 x4 x5 x6 S) S cl sl pc (Lf x0 x1 x2 x3 x4 x5 x6) st) → ∀ (x0 : A0) (x1 : A1) (x2 : A2) (x3 : A3) (x4 : A4) (x5 : A5) (x6 : A6) (S : Mem), Sim Γ ι (b back x0 x1 x2 x3 x4 x5 x6 S) S cl sl pc (Lf x0 x1 x2 x3 x4 x5 x6) st) : ∀ f : Nat, ∀ (x0 : A0) (x1 : A1) (x2 : A2) (x3 : A3) (x4 : A4) (x5 : A5) (x6 : A6) (S : Mem), Sim Γ ι (fix7 b f x0 x1 x2 x3 x4 x5 x6 S) S cl sl pc (Lf x0 x1 x2 x3 x4 x5 x6) st
  | 0 => fun _ _ _ _ _ _ _ _ => s_none (K := True)
  | f + 1 => h (fix7 b f) (s_fix7 Lf h f)
def fix8 {A0 A1 A2 A3 A4 A5 A6 A7 : Type} {R : Type} (b : (A0 → A1 → A2 → A3 → A4 → A5 → A6 → A7 → Mem → Option R) → A0 → A1 → A2 → A3 → A4 → A5 → A6 → A7 → Mem → Option R) : Nat → A0 → A1 → A2 → A3 → A4 → A5 → A6 → A7 → Mem → Option R
  | 0 => fun _ _ _ _ _ _ _ _ _ => none
  | n + 1 => b (fix8 b n)
theorem s_fix8 {A0 A1 A2 A3 A4 A5 A6 A7 : Type} {α : Type} {Γ : Cx} {ι : α → Option Value} {cl sl pc : Nat} {st : List Value} (Lf : A0 → A1 → A2 → A3 → A4 → A5 → A6 → A7 → List (Option Value)) {b : (A0 → A1 → A2 → A3 → A4 → A5 → A6 → A7 → Mem → Option (α × Mem)) → A0 → A1 → A2 → A3 → A4 → A5 → A6 → A7 → Mem → Option (α × Mem)} (h : ∀ back : A0 → A1 → A2 → A3 → A4 → A5 → A6 → A7 → Mem → Option (α × Mem), (∀ (x0 : A0) (x1 : A1) (x2 : A2) (x3 : A3) (x4 : A4) (x5 : A5) (x6 : A6) (x7 : A7) (S : Mem), Sim Γ ι (back x0 x1 x2 x3 x4 x5 x6 x7 S) S cl sl pc (Lf x0 x1 x2 x3 x4 x5 x6 x7) st) → ∀ (x0 : A0) (x1 : A1) (x2 : A2) (x3 : A3) (x4 : A4) (x5 : A5) (x6 : A6) (x7 : A7) (S : Mem), Sim Γ ι (b back x0 x1 x2 x3 x4 x5 x6 x7 S) S cl sl pc (Lf x0 x1 x2 x3 x4 x5 x6 x7) st) : ∀ f : Nat, ∀ (x0 : A0) (x1 : A1) (x2 : A2) (x3 : A3) (x4 : A4) (x5 : A5) (x6 : A6) (x7 : A7) (S : Mem), Sim Γ ι (fix8 b f x0 x1 x2 x3 x4 x5 x6 x7 S) S cl sl pc (Lf x0 x1 x2 x3 x4 x5 x6 x7) st
  | 0 => fun _ _ _ _ _ _ _ _ _ => s_none (K := True)
  | f + 1 => h (fix8 b f) (s_fix8 Lf h f)
def fix9 {A0 A1 A2 A3 A4 A5 A6 A7 A8 : Type} {R : Type} (b : (A0 → A1 → A2 → A3 → A4 → A5 → A6 → A7 → A8 → Mem → Option R) → A0 → A1 → A2 → A3 → A4 → A5 → A6 → A7 → A8 → Mem → Option R) : Nat → A0 → A1 → A2 → A3 → A4 → A5 → A6 → A7 → A8 → Mem → Option R
  | 0 => fun _ _ _ _ _ _ _ _ _ _ => none
  | n + 1 => b (fix9 b n)
theorem s_fix9 {A0 A1 A2 A3 A4 A5 A6 A7 A8 : Type} {α : Type} {Γ : Cx} {ι : α → Option Value} {cl sl pc : Nat} {st : List Value} (Lf : A0 → A1 → A2 → A3 → A4 → A5 → A6 → A7 → A8 → List (Option Value)) {b : (A0 → A1 → A2 → A3 → A4 → A5 → A6 → A7 → A8 → Mem → Option (α × Mem)) → A0 → A1 → A2 → A3 → A4 → A5 → A6 → A7 → A8 → Mem → Option (α × Mem)} (h : ∀ back : A0 → A1 → A2 → A3 → A4 → A5 → A6 → A7 → A8 → Mem → Option (α × Mem), (∀ (x0 : A0) (x1 : A1) (x2 : A2) (x3 : A3) (x4 : A4) (x5 : A5) (x6 : A6) (x7 : A7) (x8 : A8) (S : Mem), Sim Γ ι (back x0 x1 x2 x3 x4 x5 x6 x7 x8 S) S cl sl pc (Lf x0 x1 x2 x3 x4 x5 x6 x7 x8) st) → ∀ (x0 : A0) (x1 : A1) (x2 : A2) (x3 : A3) (x4 : A4) (x5 : A5) (x6 : A6) (x7 : A7) (x8 : A8) (S : Mem), Sim Γ ι (b back x0 x1 x2 x3 x4 x5 x6 x7 x8 S) S cl sl pc (Lf x0 x1 x2 x3 x4 x5 x6 x7 x8) st) : ∀ f : Nat, ∀ (x0 : A0) (x1 : A1) (x2 : A2) (x3 : A3) (x4 : A4) (x5 : A5) (x6 : A6) (x7 : A7) (x8 : A8) (S : Mem), Sim Γ ι (fix9 b f x0 x1 x2 x3 x4 x5 x6 x7 x8 S) S cl sl pc (Lf x0 x1 x2 x3 x4 x5 x6 x7 x8) st
  | 0 => fun _ _ _ _ _ _ _ _ _ _ => s_none (K := True)
  | f + 1 => h (fix9 b f) (s_fix9 Lf h f)
def fix10 {A0 A1 A2 A3 A4 A5 A6 A7 A8 A9 : Type} {R : Type} (b : (A0 → A1 → A2 → A3 → A4 → A5 → A6 → A7 → A8 → A9 → Mem → Option R) → A0 → A1 → A2 → A3 → A4 → A5 → A6 → A7 → A8 → A9 → Mem → Option R) : Nat → A0 → A1 → A2 → A3 → A4 → A5 → A6 → A7 → A8 → A9 → Mem → Option R
  | 0 => fun _ _ _ _ _ _ _ _ _ _ _ => none
  | n + 1 => b (fix10 b n)
theorem s_fix10 {A0 A1 A2 A3 A4 A5 A6 A7 A8 A9 : Type} {α : Type} {Γ : Cx} {ι : α → Option Value} {cl sl pc : Nat} {st : List Value} (Lf : A0 → A1 → A2 → A3 → A4 → A5 → A6 → A7 → A8 → A9 → List (Option Value)) {b : (A0 → A1 → A2 → A3 → A4 → A5 → A6 → A7 → A8 → A9 → Mem → Option (α × Mem)) → A0 → A1 → A2 → A3 → A4 → A5 → A6 → A7 → A8 → A9 → Mem → Option (α × Mem)} (h : ∀ back : A0 → A1 → A2 → A3 → A4 → A5 → A6 → A7 → A8 → A9 → Mem → Option (α × Mem), (∀ (x0 : A0) (x1 : A1) (x2 : A2) (x3 : A3) (x4 : A4) (x5 : A5) (x6 : A6) (x7 : A7) (x8 : A8) (x9 : A9) (S : Mem), Sim Γ ι (back x0 x1 x2 x3 x4 x5 x6 x7 x8 x9 S) S cl sl pc (Lf x0 x1 x2 x3 x4 x5 x6 x7 x8 x9) st) → ∀ (x0 : A0) (x1 : A1) (x2 : A2) (x3 : A3) (x4 : A4) (x5 : A5) (x6 : A6) (x7 : A7) (x8 : A8) (x9 : A9) (S : Mem), Sim Γ ι (b back x0 x1 x2 x3 x4 x5 x6 x7 x8 x9 S) S cl sl pc (Lf x0 x1 x2 x3 x4 x5 x6 x7 x8 x9) st) : ∀ f : Nat, ∀ (x0 : A0) (x1 : A1) (x2 : A2) (x3 : A3) (x4 : A4) (x5 : A5) (x6 : A6) (x7 : A7) (x8 : A8) (x9 : A9) (S : Mem), Sim Γ ι (fix10 b f x0 x1 x2 x3 x4 x5 x6 x7 x8 x9 S) S cl sl pc (Lf x0 x1 x2 x3 x4 x5 x6 x7 x8 x9) st
  | 0 => fun _ _ _ _ _ _ _ _ _ _ _ => s_none (K := True)
  | f + 1 => h (fix10 b f) (s_fix10 Lf h f)
