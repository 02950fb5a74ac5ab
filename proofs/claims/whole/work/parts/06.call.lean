/-- go on with an answer and the memory behind it -/
def bd {β γ : Type} (X : Option (β × Mem)) (K : β → Mem → Option γ) : Option γ := match X with
  | none => none
  | some q => K q.1 q.2
/-- a copy of a stretch of ints -/
def acp (S : Mem) (sa : Nat) (sp : Int32) (da : Nat) (dp n : Int32) : Option Mem := if (mK S sa = 10 ∧ mK S da = 10) ∧ (¬ sp < 0 ∧ ¬ dp < 0 ∧ ¬ n < 0) ∧ sp.toNatClampNeg + n.toNatClampNeg ≤ mN S sa ∧ dp.toNatClampNeg + n.toNatClampNeg ≤ mN S da then some (pA S da (va_cpy (mI S sa) (mI S da) sp.toNatClampNeg dp.toNatClampNeg n.toNatClampNeg)) else none
def mxI (x y : Int32) : Int32 := if x < y then y else x
def mnI (x y : Int32) : Int32 := if y < x then y else x
def abI (x : Int32) : Int32 := if 0 ≤ x then x else 0 - x
/-- a name for a value -/
def lt {β γ : Type} (e : β) (K : β → γ) : γ := K e
def nO (S : Mem) (ci : Nat) : Option (Nat × Mem) := some (mZ S, pNew S ci 0)
theorem pNew_at (S : Mem) (kd n : Nat) : mK (pNew S kd n) (mZ S) = kd ∧ mN (pNew S kd n) (mZ S) = n ∧ mI (pNew S kd n) (mZ S) = (fun _ => 0) ∧ mJ (pNew S kd n) (mZ S) = (fun _ => 0) ∧ mR (pNew S kd n) (mZ S) = (fun _ => none) := by
  simp [mK, mN, mI, mJ, mR, pNew, u1]
section NROWS
variable {α : Type} {Γ : Cx} {ι : α → Option Value} {cc : ByteArray} {own : String} {fr lo : Nat} {ret : Option FieldType} {isI : Bool} {X : Option (α × Mem)} {S : Mem} {pc : Nat} {L : List (Option Value)} {st : List Value}
theorem s_ltI {x : Int32} {K : Int32 → Option (α × Mem)} (k : ∀ y, Sim cc own fr lo ret isI Γ ι (K y) S pc L (.int y :: st)) : Sim cc own fr lo ret isI Γ ι (lt x K) S pc L (.int x :: st) := k x
theorem s_ltJ {x : Int64} {K : Int64 → Option (α × Mem)} (k : ∀ y, Sim cc own fr lo ret isI Γ ι (K y) S pc L (.long y :: st)) : Sim cc own fr lo ret isI Γ ι (lt x K) S pc L (.long x :: st) := k x
theorem s_new {idx : Nat} (ci : Nat) {K : Nat → Mem → Option (α × Mem)} (hci : ci < 9) (hw : Cond.classLink own idx (clR ci) ∈ lw_g) (hd : decode cc pc = .ok (.new idx, 3)) (kk : ∀ q S1, Sim cc own fr lo ret isI Γ ι (K q S1) S1 (pc + 3) L (.ref q :: st)) : Sim cc own fr lo ret isI Γ ι (bd (nO S ci) K) S pc L st := by
  obtain ⟨p, l, e, R, s, m, args, below, meth, c, nL, D, cs, z, mc, ms, z0, q0⟩ := Γ
  intro r S' hX
  have kk := kk _ _ r S' hX
  have e0 : mQ (pNew S ci 0) = mQ S + szOf ci := by simp [mQ, pNew, hci]
  have e9 : mZ (pNew S ci 0) = mZ S + 1 := rfl
  rw [e0, e9] at kk
  refine ⟨⟨by omega, by omega⟩, fun C hm hq H locs ls cl sl h1 h2 hr hS hL => ?_⟩
  obtain ⟨hx, hb, hml, hown, hts, hK, hlk, ⟨rc, rs, rfl, hrc, hrs⟩, hret, hnw, hisI⟩ := id C
  have hKn := hK.1 ci _ (cl_at ci hci)
  refine W.newcK hx hb hown (hts _ hw) (hts _ (inst_at ci hci)) (hts _ (init_at ci hci)) rfl hd (by show cl + 1 ≤ rc; omega) (by show sl + szOf ci ≤ rs; omega) hKn.2.1 rfl fun H1 kC hkC e1 z1 o1 => ?_
  have hz := hr.1
  rw [hz]
  refine kk.2 C hm hq H1 locs ls _ _ (by omega) (by omega) (hR_new hr z1 o1 (fun _ => ?_) (fun h => absurd h (by omega)) (by omega)) ⟨Nat.le_trans hS.1 (by omega), fun q h1 h2 => (o1 q (Nat.lt_of_lt_of_le h1 hS.1)).trans (hS.2.1 q h1 h2), hS.2.2⟩ hL
  obtain ⟨a1, a2, a3, a4, a5⟩ := pNew_at S ci 0
  unfold hOb
  rw [a1]
  rw [hz] at e1
  exact (u_born (tyOf ci) hts (inT ci hci) hKn hkC e1 (tyT ci hci)).to (fun k hk => entV_0 (ty_any ci hci k hk) (by rw [a3]) (by rw [a4]) (by rw [a5]))

theorem s_newa9 {n : Int32} {K : Nat → Mem → Option (α × Mem)} (hw : Cond.arrayClass .byte ∈ lw_g) (hd : decode cc pc = .ok (.newarray .byte, 2)) (kk : ∀ q S1, Sim cc own fr lo ret isI Γ ι (K q S1) S1 (pc + 2) L (.ref q :: st)) : Sim cc own fr lo ret isI Γ ι (bd (nA S 9 n) K) S pc L (.int n :: st) := by
  obtain ⟨p, l, e, R, s, m, args, below, meth, c, nL, D, cs, z, mc, ms, z0, q0⟩ := Γ
  intro r S' hX
  unfold nA at hX
  by_cases hk : ¬ n < 0 ∧ n.toNatClampNeg ≤ 8192
  · rw [if_pos hk] at hX
    have kk := kk _ _ r S' hX
    have e0 : mQ (pNew S 9 n.toNatClampNeg) = mQ S + n.toNatClampNeg := by simp [mQ, pNew]
    have e9 : mZ (pNew S 9 n.toNatClampNeg) = mZ S + 1 := rfl
    rw [e0, e9] at kk
    refine ⟨⟨by omega, by omega⟩, fun C hm hq H locs ls cl sl h1 h2 hr hS hL => ?_⟩
    obtain ⟨hx, hb, hml, hown, hts, hK, hlk, ⟨rc, rs, rfl, hrc, hrs⟩, hret, hnw, hisI⟩ := id C
    have hbt : n.toNatClampNeg * componentBytes (newarray.typeOf .byte) ≤ 536870912 := by
      have h3 := Nat.mul_le_mul hk.2 (show componentBytes (newarray.typeOf .byte) ≤ 8 by decide)
      omega
    refine va_newaK (atype := .byte) hx hb (hts _ hw) rfl hd rfl hk.1 rfl hbt (by show cl + 1 ≤ rc; omega) (by show sl + _ ≤ rs; omega) rfl fun H1 cA e1 z1 o1 hAr1 hNm => ?_
    have hz := hr.1
    have hcA : cA = cs 9 := Option.some.inj (hNm.symm.trans (hK.2 0 _ rfl).2)
    rw [hz] at e1 ⊢
    refine kk.2 C hm hq H1 locs ls _ _ (by omega) (by omega) (hR_new hr z1 o1 (fun h => absurd h (by decide)) (fun _ _ => ?_) (by decide)) ⟨Nat.le_trans hS.1 (by omega), fun q h1 h2 => (o1 q (Nat.lt_of_lt_of_le h1 hS.1)).trans (hS.2.1 q h1 h2), hS.2.2⟩ hL
    obtain ⟨a1, a2, a3, a4, a5⟩ := pNew_at S 9 n.toNatClampNeg
    unfold hAr
    rw [a1, a2, e1, hcA]
    congr 2
    funext j
    unfold arV
    first | rw [a3]; rfl | rw [a4]; rfl
  · rw [if_neg hk] at hX; cases hX
theorem s_newa10 {n : Int32} {K : Nat → Mem → Option (α × Mem)} (hw : Cond.arrayClass .int ∈ lw_g) (hd : decode cc pc = .ok (.newarray .int, 2)) (kk : ∀ q S1, Sim cc own fr lo ret isI Γ ι (K q S1) S1 (pc + 2) L (.ref q :: st)) : Sim cc own fr lo ret isI Γ ι (bd (nA S 10 n) K) S pc L (.int n :: st) := by
  obtain ⟨p, l, e, R, s, m, args, below, meth, c, nL, D, cs, z, mc, ms, z0, q0⟩ := Γ
  intro r S' hX
  unfold nA at hX
  by_cases hk : ¬ n < 0 ∧ n.toNatClampNeg ≤ 8192
  · rw [if_pos hk] at hX
    have kk := kk _ _ r S' hX
    have e0 : mQ (pNew S 10 n.toNatClampNeg) = mQ S + n.toNatClampNeg := by simp [mQ, pNew]
    have e9 : mZ (pNew S 10 n.toNatClampNeg) = mZ S + 1 := rfl
    rw [e0, e9] at kk
    refine ⟨⟨by omega, by omega⟩, fun C hm hq H locs ls cl sl h1 h2 hr hS hL => ?_⟩
    obtain ⟨hx, hb, hml, hown, hts, hK, hlk, ⟨rc, rs, rfl, hrc, hrs⟩, hret, hnw, hisI⟩ := id C
    have hbt : n.toNatClampNeg * componentBytes (newarray.typeOf .int) ≤ 536870912 := by
      have h3 := Nat.mul_le_mul hk.2 (show componentBytes (newarray.typeOf .int) ≤ 8 by decide)
      omega
    refine va_newaK (atype := .int) hx hb (hts _ hw) rfl hd rfl hk.1 rfl hbt (by show cl + 1 ≤ rc; omega) (by show sl + _ ≤ rs; omega) rfl fun H1 cA e1 z1 o1 hAr1 hNm => ?_
    have hz := hr.1
    have hcA : cA = cs 10 := Option.some.inj (hNm.symm.trans (hK.2 1 _ rfl).2)
    rw [hz] at e1 ⊢
    refine kk.2 C hm hq H1 locs ls _ _ (by omega) (by omega) (hR_new hr z1 o1 (fun h => absurd h (by decide)) (fun _ _ => ?_) (by decide)) ⟨Nat.le_trans hS.1 (by omega), fun q h1 h2 => (o1 q (Nat.lt_of_lt_of_le h1 hS.1)).trans (hS.2.1 q h1 h2), hS.2.2⟩ hL
    obtain ⟨a1, a2, a3, a4, a5⟩ := pNew_at S 10 n.toNatClampNeg
    unfold hAr
    rw [a1, a2, e1, hcA]
    congr 2
    funext j
    unfold arV
    first | rw [a3]; rfl | rw [a4]; rfl
  · rw [if_neg hk] at hX; cases hX
theorem s_newa11 {n : Int32} {K : Nat → Mem → Option (α × Mem)} (hw : Cond.arrayClass .long ∈ lw_g) (hd : decode cc pc = .ok (.newarray .long, 2)) (kk : ∀ q S1, Sim cc own fr lo ret isI Γ ι (K q S1) S1 (pc + 2) L (.ref q :: st)) : Sim cc own fr lo ret isI Γ ι (bd (nA S 11 n) K) S pc L (.int n :: st) := by
  obtain ⟨p, l, e, R, s, m, args, below, meth, c, nL, D, cs, z, mc, ms, z0, q0⟩ := Γ
  intro r S' hX
  unfold nA at hX
  by_cases hk : ¬ n < 0 ∧ n.toNatClampNeg ≤ 8192
  · rw [if_pos hk] at hX
    have kk := kk _ _ r S' hX
    have e0 : mQ (pNew S 11 n.toNatClampNeg) = mQ S + n.toNatClampNeg := by simp [mQ, pNew]
    have e9 : mZ (pNew S 11 n.toNatClampNeg) = mZ S + 1 := rfl
    rw [e0, e9] at kk
    refine ⟨⟨by omega, by omega⟩, fun C hm hq H locs ls cl sl h1 h2 hr hS hL => ?_⟩
    obtain ⟨hx, hb, hml, hown, hts, hK, hlk, ⟨rc, rs, rfl, hrc, hrs⟩, hret, hnw, hisI⟩ := id C
    have hbt : n.toNatClampNeg * componentBytes (newarray.typeOf .long) ≤ 536870912 := by
      have h3 := Nat.mul_le_mul hk.2 (show componentBytes (newarray.typeOf .long) ≤ 8 by decide)
      omega
    refine va_newaK (atype := .long) hx hb (hts _ hw) rfl hd rfl hk.1 rfl hbt (by show cl + 1 ≤ rc; omega) (by show sl + _ ≤ rs; omega) rfl fun H1 cA e1 z1 o1 hAr1 hNm => ?_
    have hz := hr.1
    have hcA : cA = cs 11 := Option.some.inj (hNm.symm.trans (hK.2 2 _ rfl).2)
    rw [hz] at e1 ⊢
    refine kk.2 C hm hq H1 locs ls _ _ (by omega) (by omega) (hR_new hr z1 o1 (fun h => absurd h (by decide)) (fun _ _ => ?_) (by decide)) ⟨Nat.le_trans hS.1 (by omega), fun q h1 h2 => (o1 q (Nat.lt_of_lt_of_le h1 hS.1)).trans (hS.2.1 q h1 h2), hS.2.2⟩ hL
    obtain ⟨a1, a2, a3, a4, a5⟩ := pNew_at S 11 n.toNatClampNeg
    unfold hAr
    rw [a1, a2, e1, hcA]
    congr 2
    funext j
    unfold arV
    first | rw [a3]; rfl | rw [a4]; rfl
  · rw [if_neg hk] at hX; cases hX
theorem s_newa12 {n : Int32} {K : Nat → Mem → Option (α × Mem)} (hw : Cond.arrayClass .boolean ∈ lw_g) (hd : decode cc pc = .ok (.newarray .boolean, 2)) (kk : ∀ q S1, Sim cc own fr lo ret isI Γ ι (K q S1) S1 (pc + 2) L (.ref q :: st)) : Sim cc own fr lo ret isI Γ ι (bd (nA S 12 n) K) S pc L (.int n :: st) := by
  obtain ⟨p, l, e, R, s, m, args, below, meth, c, nL, D, cs, z, mc, ms, z0, q0⟩ := Γ
  intro r S' hX
  unfold nA at hX
  by_cases hk : ¬ n < 0 ∧ n.toNatClampNeg ≤ 8192
  · rw [if_pos hk] at hX
    have kk := kk _ _ r S' hX
    have e0 : mQ (pNew S 12 n.toNatClampNeg) = mQ S + n.toNatClampNeg := by simp [mQ, pNew]
    have e9 : mZ (pNew S 12 n.toNatClampNeg) = mZ S + 1 := rfl
    rw [e0, e9] at kk
    refine ⟨⟨by omega, by omega⟩, fun C hm hq H locs ls cl sl h1 h2 hr hS hL => ?_⟩
    obtain ⟨hx, hb, hml, hown, hts, hK, hlk, ⟨rc, rs, rfl, hrc, hrs⟩, hret, hnw, hisI⟩ := id C
    have hbt : n.toNatClampNeg * componentBytes (newarray.typeOf .boolean) ≤ 536870912 := by
      have h3 := Nat.mul_le_mul hk.2 (show componentBytes (newarray.typeOf .boolean) ≤ 8 by decide)
      omega
    refine va_newaK (atype := .boolean) hx hb (hts _ hw) rfl hd rfl hk.1 rfl hbt (by show cl + 1 ≤ rc; omega) (by show sl + _ ≤ rs; omega) rfl fun H1 cA e1 z1 o1 hAr1 hNm => ?_
    have hz := hr.1
    have hcA : cA = cs 12 := Option.some.inj (hNm.symm.trans (hK.2 3 _ rfl).2)
    rw [hz] at e1 ⊢
    refine kk.2 C hm hq H1 locs ls _ _ (by omega) (by omega) (hR_new hr z1 o1 (fun h => absurd h (by decide)) (fun _ _ => ?_) (by decide)) ⟨Nat.le_trans hS.1 (by omega), fun q h1 h2 => (o1 q (Nat.lt_of_lt_of_le h1 hS.1)).trans (hS.2.1 q h1 h2), hS.2.2⟩ hL
    obtain ⟨a1, a2, a3, a4, a5⟩ := pNew_at S 12 n.toNatClampNeg
    unfold hAr
    rw [a1, a2, e1, hcA]
    congr 2
    funext j
    unfold arV
    first | rw [a3]; rfl | rw [a4]; rfl
  · rw [if_neg hk] at hX; cases hX
theorem s_anew {idx : Nat} {n : Int32} {K : Nat → Mem → Option (α × Mem)} (hw : Cond.classLink own idx RX2 ∈ lw_g) (hd : decode cc pc = .ok (.anewarray idx, 3)) (kk : ∀ q S1, Sim cc own fr lo ret isI Γ ι (K q S1) S1 (pc + 3) L (.ref q :: st)) : Sim cc own fr lo ret isI Γ ι (bd (nA S 13 n) K) S pc L (.int n :: st) := by
  obtain ⟨p, l, e, R, s, m, args, below, meth, c, nL, D, cs, z, mc, ms, z0, q0⟩ := Γ
  intro r S' hX
  unfold nA at hX
  by_cases hk : ¬ n < 0 ∧ n.toNatClampNeg ≤ 8192
  · rw [if_pos hk] at hX
    have kk := kk _ _ r S' hX
    have e0 : mQ (pNew S 13 n.toNatClampNeg) = mQ S + n.toNatClampNeg := by simp [mQ, pNew]
    have e9 : mZ (pNew S 13 n.toNatClampNeg) = mZ S + 1 := rfl
    rw [e0, e9] at kk
    refine ⟨⟨by omega, by omega⟩, fun C hm hq H locs ls cl sl h1 h2 hr hS hL => ?_⟩
    obtain ⟨hx, hb, hml, hown, hts, hK, hlk, ⟨rc, rs, rfl, hrc, hrs⟩, hret, hnw, hisI⟩ := id C
    refine W.anew hx hb hown (hts _ hw) (va_AO.use hnw.2.2.2) rfl hd rfl hk.1 (by omega) (by show cl + 1 ≤ rc; omega) (by show sl + _ ≤ rs; omega) fun cA kA comp e1 e2 e3 e4 => ?_
    have hz := hr.1
    obtain ⟨kA', comp', b1, b2, b3, b4⟩ := (hK.2 4 _ rfl).2
    have hcA : cA = cs 13 := Option.some.inj (e1.symm.trans b4)
    rw [hz]
    refine kk.2 C hm hq _ locs ls _ _ (by omega) (by omega) (hR_new hr (by simp) (fun q hq => by rw [Array.getElem?_push, if_neg (Nat.ne_of_lt hq)]) (fun h => absurd h (by decide)) (fun _ _ => ?_) (by decide)) ⟨Nat.le_trans hS.1 (by simp), fun q h1 h2 => (by rw [Array.getElem?_push, if_neg (Nat.ne_of_lt (Nat.lt_of_lt_of_le h1 hS.1))]; exact hS.2.1 q h1 h2), hS.2.2⟩ hL
    obtain ⟨a1, a2, a3, a4, a5⟩ := pNew_at S 13 n.toNatClampNeg
    unfold hAr
    rw [a1, a2, ← hz, hcA, arrV_new]
    simp only [Array.getElem?_push_size]
    congr 2
    funext j
    unfold arV
    show Value.null = va_rf _
    rw [hz, a5]; rfl
  · rw [if_neg hk] at hX; cases hX
theorem s_aast {a v : Nat} {i : Int32} {K : Mem → Option (α × Mem)} (hd : decode cc pc = .ok (.aastore, 1)) (kk : ∀ S1, Sim cc own fr lo ret isI Γ ι (K S1) S1 (pc + 1) L st) : Sim cc own fr lo ret isI Γ ι ((sAR S 2 a i v).bind K) S pc L (.ref v :: .int i :: .ref a :: st) := by
  obtain ⟨p, l, e, R, s, m, args, below, meth, c, nL, D, cs, z, mc, ms, z0, q0⟩ := Γ
  intro r S' hX
  unfold sAR at hX
  by_cases hk : mK S a = 13 ∧ inB i (mN S a) ∧ mK S v = 2
  · rw [if_pos hk] at hX
    have kk := kk _ r S' hX
    refine ⟨kk.1, fun C hm hq H locs ls cl sl h1 h2 hr hS hL => ?_⟩
    obtain ⟨hx, hb, hml, hown, hts, hK, hlk, ⟨rc, rs, rfl, hrc, hrs⟩, hret, hnw, hisI⟩ := id C
    obtain ⟨hza, ha⟩ := hr_ar hr hk.1 (by decide) (by decide)
    obtain ⟨-, cellV, g1, g2, g3, -⟩ := hr_ob hr hk.2.2 (by decide)
    have hcls := (hK.1 2 _ (cl_at 2 (by decide))).2
    obtain ⟨kA, comp, k1, k2, k3, -⟩ := (hK.2 4 _ rfl).2
    have hcomp : comp = D.1 2 := Option.some.inj (k3.symm.trans hcls.1)
    obtain ⟨kC, hkC, -⟩ := hcls.2
    refine W.aast hx hb ha (fun q h => by cases h) (fun h => by cases h) k1 k2 rfl (by rw [hcomp]; exact hkC) ⟨hk.2.1.1, by rw [arrV_size]; exact hk.2.1.2⟩ g1 (fun q h => by rw [g3] at h; cases h) (by rw [g2]; exact hkC) (by rw [g2, hcomp]; exact va_assign hcls) rfl rfl hd fun H1 e1 e2 e3 => ?_
    refine kk.2 C hm hq H1 _ ls cl sl h1 h2 (hR_upd hr (Ag_pR S a i.toNatClampNeg (some v)) e2 e3 (fun h => absurd h (by rw [hk.1]; decide)) (fun _ _ => ?_) (by rw [hk.1]; decide) hza) (hS.put e2 e3 hza) hL
    unfold hAr
    rw [e1, arrV_store]
    show some (arrV (cs 13) (mN S a) _) = some (arrV (cs (mK S a)) (mN S a) (arV (mK S a) _ a))
    rw [hk.1]
    congr 2
    funext q
    unfold updV
    by_cases hq : q = i.toNatClampNeg
    · subst hq
      rw [if_pos rfl]
      show _ = va_rf (mR (pR S a _ (some v)) a _)
      rw [pR_s]; rfl
    · rw [if_neg hq]
      show va_rf (mR S a q) = va_rf (mR (pR S a _ (some v)) a q)
      rw [pR_n S _ hq]
  · rw [if_neg hk] at hX; cases hX
theorem s_getU {idx : Nat} (hw : Cond.fieldLink own idx "KiteLamp$Sky" "UNTOLD" "[I" ∈ lw_g) (hd : decode cc pc = .ok (.getstatic idx, 3)) (k : Sim cc own fr lo ret isI Γ ι X S (pc + 3) L (.ref (mU S) :: st)) : Sim cc own fr lo ret isI Γ ι X S pc L st := by
  obtain ⟨p, l, e, R, s, m, args, below, meth, c, nL, D, cs, z, mc, ms, z0, q0⟩ := Γ
  intro r S' hX
  have k := k r S' hX
  refine ⟨k.1, fun C hm hq H locs ls cl sl h1 h2 hr hS hL => ?_⟩
  obtain ⟨hx, hb, hml, hown, hts, hK, hlk, ⟨rc, rs, rfl, hrc, hrs⟩, hret, hnw, hisI⟩ := id C
  obtain ⟨cf, kf, fi, f, a, cell, b1, b2, b3, b4, b5, b6, b7, b8⟩ := hr.2.2.2.2.2.1
  exact W.gets hx hb hown (hts _ hw) b1 b2 b3 b4 b5 (fun e => by rw [e] at b6; cases b6) b7 rfl hd (k.2 C hm hq H locs ls cl sl h1 h2 hr hS hL)
theorem s_acopy {idx sa da : Nat} {sp dp n : Int32} {K : Mem → Option (α × Mem)} (m1 : Cond.methodLink own idx arraycopyName ∈ lw_g) (m2 : Cond.native arraycopyName ∈ lw_g) (m3 : Cond.static arraycopyName ∈ lw_g) (m4 : Cond.initialized "java/lang/System" ∈ lw_g) (hrm : 1 ≤ fr ∧ (st.map fun v => v.category).sum + 18 ≤ lo) (hd : decode cc pc = .ok (.invokestatic idx, 3)) (kk : ∀ S1, Sim cc own fr lo ret isI Γ ι (K S1) S1 (pc + 3) L st) : Sim cc own fr lo ret isI Γ ι ((acp S sa sp da dp n).bind K) S pc L (.int n :: .int dp :: .ref da :: .int sp :: .ref sa :: st) := by
  obtain ⟨p, l, e, R, s, m, args, below, meth, c, nL, D, cs, z, mc, ms, z0, q0⟩ := Γ
  intro r S' hX
  unfold acp at hX
  by_cases hk : (mK S sa = 10 ∧ mK S da = 10) ∧ (¬ sp < 0 ∧ ¬ dp < 0 ∧ ¬ n < 0) ∧ sp.toNatClampNeg + n.toNatClampNeg ≤ mN S sa ∧ dp.toNatClampNeg + n.toNatClampNeg ≤ mN S da
  · rw [if_pos hk] at hX
    obtain ⟨⟨ks, kd⟩, ⟨b1, b2, b3⟩, b4, b5⟩ := hk
    have kk := kk _ r S' hX
    refine ⟨kk.1, fun C hm hq H locs ls cl sl h1 h2 hr hS hL => ?_⟩
    obtain ⟨hx, hb, hml, hown, hts, hK, hlk, ⟨rc, rs, rfl, hrc, hrs⟩, hret, hnw, hisI⟩ := id C
    obtain ⟨-, ha0⟩ := hr_ar hr ks (by decide) (by decide)
    obtain ⟨hza, ha1⟩ := hr_ar hr kd (by decide) (by decide)
    have nn : ∀ x : Int32, ¬ x < 0 → x.toInt = (x.toNatClampNeg : Int) := by
      intro x hx0
      have h0 := Int32.le_iff_toInt_le.mp (Int32.not_lt.mp hx0)
      have h1 : (0 : Int) ≤ x.toInt := by simpa using h0
      show x.toInt = ((x.toInt.toNat : Nat) : Int)
      omega
    have hnf : nativeFrameWords "java/lang/System" "arraycopy" 5 = 7 := by decide
    intro T hT Xs
    obtain ⟨-, k0, hk0, cm0, hkk0⟩ := (hK.2 1 _ rfl).1 (mN S sa) (arV 10 S sa)
    obtain ⟨-, k1, hk1, cm1, hkk1⟩ := (hK.2 1 _ rfl).1 (mN S da) (arV 10 S da)
    obtain ⟨vm', X', step⟩ := Xs.arraycopy hx hown (hts _ m1) (hts _ m2) (hts _ m3) (hts _ m4) (src := sa) (dst := da) (cs := arrV (cs 10) (mN S sa) (arV 10 S sa)) (cd := arrV (cs 10) (mN S da) (arV 10 S da)) (srcPos := sp) (destPos := dp) (n := n) (by rw [hT]; exact ha0) (by rw [hT]; exact ha1)
      (fun _ h => by cases h) (fun _ h => by cases h) (fun h => by cases h) (fun h => by cases h) hk0 hk1 hkk0 hkk1 (by simp [refKind]) b1 b2 b3
      (by rw [nn sp b1, nn n b3, arrV_size]; omega) (by rw [nn dp b2, nn n b3, arrV_size]; omega)
      (fun vm₁ _ i hi => by
        have e9 : (arrV (cs 10) (mN S sa) (arV 10 S sa)).slots.getD (sp.toNatClampNeg + i) .null = .int (mI S sa (sp.toNatClampNeg + i)) := by
          rw [Array.getD_eq_getD_getElem?, arrV_read _ _ (by omega)]
          rfl
        rw [e9]
        exact ⟨rfl, trivial⟩)
      (g := F0 m pc ls (.int n :: .int dp :: .ref da :: .int sp :: .ref sa :: st)) rfl (hL.1.1.trans hml.symm) (rest := st) rfl (by rw [hb]; exact hd) hrm.1 (by show 2 * 0 + _ + _ ≤ lo; rw [hnf]; omega)
    have e1 : copied (arrV (cs 10) (mN S sa) (arV 10 S sa)) (arrV (cs 10) (mN S da) (arV 10 S da)) sp dp n = arrV (cs 10) (mN S da) (fun j => .int (va_cpy (mI S sa) (mI S da) sp.toNatClampNeg dp.toNatClampNeg n.toNatClampNeg j)) := va_copied (fun x => .int x) (cs 10) (cs 10) (mI S sa) (mI S da) b4
    rw [e1] at X' step
    have hl : da < H.size := (Array.getElem?_eq_some_iff.mp ha1).1
    have oq : ∀ q : Nat, q ≠ da → (H.setIfInBounds da (arrV (cs 10) (mN S da) (fun j => .int (va_cpy (mI S sa) (mI S da) sp.toNatClampNeg dp.toNatClampNeg n.toNatClampNeg j))))[q]? = H[q]? := fun q hq => by simp [Array.getElem?_setIfInBounds, Ne.symm hq]
    obtain ⟨t, a1, c1⟩ := kk.2 C hm hq (H.setIfInBounds da (arrV (cs 10) (mN S da) (fun j => .int (va_cpy (mI S sa) (mI S da) sp.toNatClampNeg dp.toNatClampNeg n.toNatClampNeg j)))) _ ls cl sl h1 h2
      (hR_upd hr (Ag_pA S da _) (by simp) oq (fun h => absurd h (by rw [kd]; decide)) (fun _ _ => by
        unfold hAr
        show _ = some (arrV (cs (mK S da)) (mN S da) (arV (mK S da) _ da))
        rw [kd]
        simp only [Array.getElem?_setIfInBounds, hl, if_true]
        congr 2
        funext j
        show _ = Value.int (mI (pA S da _) da j)
        simp [mI, pA, u1]) (by rw [kd]; decide) hza)
      ⟨by simp; exact hS.1, fun q g1 g2 => by
        rw [oq q (fun e => g2 (by rw [e]; exact hza))]
        exact hS.2.1 q g1 g2, fun q hq => by
        rcases List.mem_append.mp hq with h | h
        · exact hS.2.2 q h
        · obtain ⟨x, -, hx9⟩ := List.mem_map.mp h
          rw [← hx9]
          exact hza⟩ hL _ (by rw [← hT]; rfl) X'
    exact ⟨t, step t a1, c1⟩
  · rw [if_neg hk] at hX; cases hX
theorem s_mmax {idx : Nat} {x y : Int32} (m1 : Cond.methodLink own idx Lib.Math.max.name ∈ lw_g) (m2 : Cond.static Lib.Math.max.name ∈ lw_g) (m3 : Cond.initialized "java/lang/Math" ∈ lw_g) (m4 : Cond.code Lib.Math.max.name Lib.Math.max.code 2 (some .int) ∈ lw_g) (hrm : 1 ≤ fr ∧ (st.map fun v => v.category).sum + 13 ≤ lo) (hd : decode cc pc = .ok (.invokestatic idx, 3)) (k : Sim cc own fr lo ret isI Γ ι X S (pc + 3) L (.int (mxI x y) :: st)) : Sim cc own fr lo ret isI Γ ι X S pc L (.int y :: .int x :: st) := by
  obtain ⟨p, l, e, R, s, m, args, below, meth, c, nL, D, cs, z, mc, ms, z0, q0⟩ := Γ
  intro r S' hX
  have k := k r S' hX
  refine ⟨k.1, fun C hm hq H locs ls cl sl h1 h2 hr hS hL => ?_⟩
  obtain ⟨hx, hb, hml, hown, hts, hK, hlk, ⟨rc, rs, rfl, hrc, hrs⟩, hret, hnw, hisI⟩ := id C
  have k1 := k.1
  exact va_mmax hx hb (hml.trans hL.1.1.symm) hown (hts _ m1) (hts _ m2) (hts _ m3) (hts _ m4) hrm.1 hrm.2 (by show cl ≤ rc; omega) (by show sl ≤ rs; omega) hd (k.2 C hm hq H locs ls cl sl h1 h2 hr hS hL)
theorem s_mmin {idx : Nat} {x y : Int32} (m1 : Cond.methodLink own idx Lib.Math.min.name ∈ lw_g) (m2 : Cond.static Lib.Math.min.name ∈ lw_g) (m3 : Cond.initialized "java/lang/Math" ∈ lw_g) (m4 : Cond.code Lib.Math.min.name Lib.Math.min.code 2 (some .int) ∈ lw_g) (hrm : 1 ≤ fr ∧ (st.map fun v => v.category).sum + 13 ≤ lo) (hd : decode cc pc = .ok (.invokestatic idx, 3)) (k : Sim cc own fr lo ret isI Γ ι X S (pc + 3) L (.int (mnI x y) :: st)) : Sim cc own fr lo ret isI Γ ι X S pc L (.int y :: .int x :: st) := by
  obtain ⟨p, l, e, R, s, m, args, below, meth, c, nL, D, cs, z, mc, ms, z0, q0⟩ := Γ
  intro r S' hX
  have k := k r S' hX
  refine ⟨k.1, fun C hm hq H locs ls cl sl h1 h2 hr hS hL => ?_⟩
  obtain ⟨hx, hb, hml, hown, hts, hK, hlk, ⟨rc, rs, rfl, hrc, hrs⟩, hret, hnw, hisI⟩ := id C
  have k1 := k.1
  exact va_mmin hx hb (hml.trans hL.1.1.symm) hown (hts _ m1) (hts _ m2) (hts _ m3) (hts _ m4) hrm.1 hrm.2 (by show cl ≤ rc; omega) (by show sl ≤ rs; omega) hd (k.2 C hm hq H locs ls cl sl h1 h2 hr hS hL)
theorem s_mabs {idx : Nat} {x : Int32} (m1 : Cond.methodLink own idx Lib.Math.abs.name ∈ lw_g) (m2 : Cond.static Lib.Math.abs.name ∈ lw_g) (m3 : Cond.initialized "java/lang/Math" ∈ lw_g) (m4 : Cond.code Lib.Math.abs.name Lib.Math.abs.code 1 (some .int) ∈ lw_g) (hrm : 1 ≤ fr ∧ (st.map fun v => v.category).sum + 13 ≤ lo) (hd : decode cc pc = .ok (.invokestatic idx, 3)) (k : Sim cc own fr lo ret isI Γ ι X S (pc + 3) L (.int (abI x) :: st)) : Sim cc own fr lo ret isI Γ ι X S pc L (.int x :: st) := by
  obtain ⟨p, l, e, R, s, m, args, below, meth, c, nL, D, cs, z, mc, ms, z0, q0⟩ := Γ
  intro r S' hX
  have k := k r S' hX
  refine ⟨k.1, fun C hm hq H locs ls cl sl h1 h2 hr hS hL => ?_⟩
  obtain ⟨hx, hb, hml, hown, hts, hK, hlk, ⟨rc, rs, rfl, hrc, hrs⟩, hret, hnw, hisI⟩ := id C
  have k1 := k.1
  exact va_mabs hx hb (hml.trans hL.1.1.symm) hown (hts _ m1) (hts _ m2) (hts _ m3) (hts _ m4) hrm.1 hrm.2 (by show cl ≤ rc; omega) (by show sl ≤ rs; omega) hd (k.2 C hm hq H locs ls cl sl h1 h2 hr hS hL)
theorem s_getCS {idx : Nat} (hw : Cond.fieldLink own idx "java/lang/String" "COMPACT_STRINGS" "Z" ∈ lw_g) (hd : decode cc pc = .ok (.getstatic idx, 3)) (k : Sim cc own fr lo ret isI Γ ι X S (pc + 3) L (.int 1 :: st)) : Sim cc own fr lo ret isI Γ ι X S pc L st := by
  obtain ⟨p, l, e, R, s, m, args, below, meth, c, nL, D, cs, z, mc, ms, z0, q0⟩ := Γ
  intro r S' hX
  have k := k r S' hX
  refine ⟨k.1, fun C hm hq H locs ls cl sl h1 h2 hr hS hL => ?_⟩
  obtain ⟨hx, hb, hml, hown, hts, hK, hlk, ⟨rc, rs, rfl, hrc, hrs⟩, hret, hnw, hisI⟩ := id C
  obtain ⟨cf, kf, fi, f, a, cell, b1, b2, b3, b4, b5, b6, b7, b8⟩ := hr.2.2.2.2.2.2.2.2.2.1
  exact W.gets hx hb hown (hts _ hw) b1 b2 b3 b4 b5 (fun e => by rw [e] at b6; cases b6) b7 rfl hd (k.2 C hm hq H locs ls cl sl h1 h2 hr hS hL)
theorem s_getSI {idx : Nat} (hw : Cond.fieldLink own idx "jdk/internal/util/Preconditions" "SIOOBE_FORMATTER" "Ljava/util/function/BiFunction;" ∈ lw_g) (hd : decode cc pc = .ok (.getstatic idx, 3)) (k : ∀ v, (v = Value.null ∨ ∃ t, v = Value.ref t) → Sim cc own fr lo ret isI Γ ι X S (pc + 3) L (v :: st)) : Sim cc own fr lo ret isI Γ ι X S pc L st := by
  obtain ⟨p, l, e, R, s, m, args, below, meth, c, nL, D, cs, z, mc, ms, z0, q0⟩ := Γ
  intro r S' hX
  refine ⟨(k .null (Or.inl rfl) r S' hX).1, fun C hm hq H locs ls cl sl h1 h2 hr hS hL => ?_⟩
  obtain ⟨hx, hb, hml, hown, hts, hK, hlk, ⟨rc, rs, rfl, hrc, hrs⟩, hret, hnw, hisI⟩ := id C
  rcases hr.2.2.2.2.2.2.2.2.2.2.1 with q | ⟨t, q⟩
  · obtain ⟨cf, kf, fi, f, a, cell, b1, b2, b3, b4, b5, b6, b7, b8⟩ := q
    exact W.gets hx hb hown (hts _ hw) b1 b2 b3 b4 b5 (fun e => by rw [e] at b6; cases b6) b7 rfl hd ((k .null (Or.inl rfl) r S' hX).2 C hm hq H locs ls cl sl h1 h2 hr hS hL)
  · obtain ⟨cf, kf, fi, f, a, cell, b1, b2, b3, b4, b5, b6, b7, b8⟩ := q
    exact W.gets hx hb hown (hts _ hw) b1 b2 b3 b4 b5 (fun e => by rw [e] at b6; cases b6) b7 rfl hd ((k (.ref t) (Or.inr ⟨t, rfl⟩) r S' hX).2 C hm hq H locs ls cl sl h1 h2 hr hS hL)
theorem s_ldcT (hown0 : own = "KiteLamp$Cutter") (hd : decode cc pc = .ok (.ldc 19, 2)) (k : Sim cc own fr lo ret isI Γ ι X S (pc + 2) L (.ref (mT S) :: st)) : Sim cc own fr lo ret isI Γ ι X S pc L st := by
  obtain ⟨p, l, e, R, s, m, args, below, meth, c, nL, D, cs, z, mc, ms, z0, q0⟩ := Γ
  intro r S' hX
  have k := k r S' hX
  refine ⟨k.1, fun C hm hq H locs ls cl sl h1 h2 hr hS hL => ?_⟩
  obtain ⟨hx, hb, hml, hown, hts, hK, hlk, ⟨rc, rs, rfl, hrc, hrs⟩, hret, hnw, hisI⟩ := id C
  subst hown0
  have e0 := hr.2.2.2.2.2.2.1.1
  rw [e0] at k
  exact va_ldcS hx hb hown hnw.2.1 hd (k.2 C hm hq H locs ls cl sl h1 h2 hr hS hL)
theorem s_objInit {idx a : Nat} (hw : Cond.methodLink own idx Lib.objectInit ∈ lw_g) (hw2 : Cond.instanceMethod Lib.objectInit ∈ lw_g) (hw3 : Cond.code Lib.objectInit ⟨#[0xb1]⟩ 1 none ∈ lw_g) (hrm : 1 ≤ fr ∧ (st.map fun v => v.category).sum + 12 ≤ lo) (hd : decode cc pc = .ok (.invokespecial idx, 3)) (k : Sim cc own fr lo ret isI Γ ι X S (pc + 3) L st) : Sim cc own fr lo ret isI Γ ι X S pc L (.ref a :: st) := by
  obtain ⟨p, l, e, R, s, m, args, below, meth, c, nL, D, cs, z, mc, ms, z0, q0⟩ := Γ
  intro r S' hX
  have k := k r S' hX
  refine ⟨k.1, fun C hm hq H locs ls cl sl h1 h2 hr hS hL => ?_⟩
  obtain ⟨hx, hb, hml, hown, hts, hK, hlk, ⟨rc, rs, rfl, hrc, hrs⟩, hret, hnw, hisI⟩ := id C
  exact W.objInit hx hb hown (hts _ hw) (hts _ hw2) (hts _ hw3) rfl (hL.1.1.trans hml.symm) rfl hd hrm.1 (by show 2 * 0 + _ + 12 ≤ lo; omega) (k.2 C hm hq H locs ls cl sl h1 h2 hr hS hL)
/-! returns -/
theorem s_iret {S : Mem} {x : Int32} (hd : decode cc pc = .ok (.ireturn, 1)) : Sim cc own fr lo (some .int) isI Γ rI (some (x, S)) S pc L [.int x] := by
  obtain ⟨p, l, e, R, s, m, args, below, meth, c, nL, D, cs, z, mc, ms, z0, q0⟩ := Γ
  intro r S' hX
  cases hX
  refine ⟨⟨Nat.le_refl _, Nat.le_refl _⟩, fun C hm hq H locs ls cl sl h1 h2 hr hS hL => ?_⟩
  obtain ⟨hx, hb, hml, hown, hts, hK, hlk, ⟨rc, rs, rfl, hrc, hrs⟩, hret, hnw, hisI⟩ := id C
  obtain rfl : cl = mc := by omega
  obtain rfl : sl = ms := by omega
  exact (W.iret hx hb hret (fun t ht hw => ⟨rfl, by rw [ht]; exact hr.moved hw.alike, hS.F ht⟩) (fun q hq => hS.2.2 q hq) hd hlk)
def rz (x : Int32) (S : Mem) : Option (Int32 × Mem) := if x = 0 ∨ x = 1 then some (x, S) else none
theorem s_zret {S : Mem} {x : Int32} (hd : decode cc pc = .ok (.ireturn, 1)) : Sim cc own fr lo (some .boolean) isI Γ rI (rz x S) S pc L [.int x] := by
  obtain ⟨p, l, e, R, s, m, args, below, meth, c, nL, D, cs, z, mc, ms, z0, q0⟩ := Γ
  intro r S' hX
  unfold rz at hX
  by_cases hk : x = 0 ∨ x = 1
  · rw [if_pos hk] at hX
    cases hX
    refine ⟨⟨Nat.le_refl _, Nat.le_refl _⟩, fun C hm hq H locs ls cl sl h1 h2 hr hS hL => ?_⟩
    obtain ⟨hx, hb, hml, hown, hts, hK, hlk, ⟨rc, rs, rfl, hrc, hrs⟩, hret, hnw, hisI⟩ := id C
    obtain rfl : cl = mc := by omega
    obtain rfl : sl = ms := by omega
    exact (W.zret hx hb hret (by rcases hk with rfl | rfl <;> rfl) (fun t ht hw => ⟨rfl, by rw [ht]; exact hr.moved hw.alike, hS.F ht⟩) (fun q hq => hS.2.2 q hq) hd hlk)
  · rw [if_neg hk] at hX; cases hX
def rn (ty : FieldType) (x : Int32) (S : Mem) : Option (Int32 × Mem) := if vp_nar ty x = x then some (x, S) else none
theorem s_bret {S : Mem} {x : Int32} (hd : decode cc pc = .ok (.ireturn, 1)) : Sim cc own fr lo (some .byte) isI Γ rI (rn .byte x S) S pc L [.int x] := by
  obtain ⟨p, l, e, R, s, m, args, below, meth, c, nL, D, cs, z, mc, ms, z0, q0⟩ := Γ
  intro r S' hX
  unfold rn at hX
  by_cases hk : vp_nar .byte x = x
  · rw [if_pos hk] at hX
    cases hX
    refine ⟨⟨Nat.le_refl _, Nat.le_refl _⟩, fun C hm hq H locs ls cl sl h1 h2 hr hS hL => ?_⟩
    obtain ⟨hx, hb, hml, hown, hts, hK, hlk, ⟨rc, rs, rfl, hrc, hrs⟩, hret, hnw, hisI⟩ := id C
    obtain rfl : cl = mc := by omega
    obtain rfl : sl = ms := by omega
    exact (W.zret hx hb hret (show Value.int (vp_nar .byte x) = _ by rw [hk]) (fun t ht hw => ⟨rfl, by rw [ht]; exact hr.moved hw.alike, hS.F ht⟩) (fun q hq => hS.2.2 q hq) hd hlk)
  · rw [if_neg hk] at hX; cases hX
theorem s_cret {S : Mem} {x : Int32} (hd : decode cc pc = .ok (.ireturn, 1)) : Sim cc own fr lo (some .char) isI Γ rI (rn .char x S) S pc L [.int x] := by
  obtain ⟨p, l, e, R, s, m, args, below, meth, c, nL, D, cs, z, mc, ms, z0, q0⟩ := Γ
  intro r S' hX
  unfold rn at hX
  by_cases hk : vp_nar .char x = x
  · rw [if_pos hk] at hX
    cases hX
    refine ⟨⟨Nat.le_refl _, Nat.le_refl _⟩, fun C hm hq H locs ls cl sl h1 h2 hr hS hL => ?_⟩
    obtain ⟨hx, hb, hml, hown, hts, hK, hlk, ⟨rc, rs, rfl, hrc, hrs⟩, hret, hnw, hisI⟩ := id C
    obtain rfl : cl = mc := by omega
    obtain rfl : sl = ms := by omega
    exact (W.zret hx hb hret (show Value.int (vp_nar .char x) = _ by rw [hk]) (fun t ht hw => ⟨rfl, by rw [ht]; exact hr.moved hw.alike, hS.F ht⟩) (fun q hq => hS.2.2 q hq) hd hlk)
  · rw [if_neg hk] at hX; cases hX
theorem s_lret {S : Mem} {x : Int64} (hd : decode cc pc = .ok (.lreturn, 1)) : Sim cc own fr lo (some .long) isI Γ rJ (some (x, S)) S pc L [.long x] := by
  obtain ⟨p, l, e, R, s, m, args, below, meth, c, nL, D, cs, z, mc, ms, z0, q0⟩ := Γ
  intro r S' hX
  cases hX
  refine ⟨⟨Nat.le_refl _, Nat.le_refl _⟩, fun C hm hq H locs ls cl sl h1 h2 hr hS hL => ?_⟩
  obtain ⟨hx, hb, hml, hown, hts, hK, hlk, ⟨rc, rs, rfl, hrc, hrs⟩, hret, hnw, hisI⟩ := id C
  obtain rfl : cl = mc := by omega
  obtain rfl : sl = ms := by omega
  exact (W.lret hx hb hret (fun t ht hw => ⟨rfl, by rw [ht]; exact hr.moved hw.alike, hS.F ht⟩) (fun q hq => hS.2.2 q hq) hd hlk)
theorem s_vret {S : Mem} (hd : decode cc pc = .ok (.return_, 1)) : Sim cc own fr lo none isI Γ rV (some ((), S)) S pc L [] := by
  obtain ⟨p, l, e, R, s, m, args, below, meth, c, nL, D, cs, z, mc, ms, z0, q0⟩ := Γ
  intro r S' hX
  cases hX
  refine ⟨⟨Nat.le_refl _, Nat.le_refl _⟩, fun C hm hq H locs ls cl sl h1 h2 hr hS hL => ?_⟩
  obtain ⟨hx, hb, hml, hown, hts, hK, hlk, ⟨rc, rs, rfl, hrc, hrs⟩, hret, hnw, hisI⟩ := id C
  obtain rfl : cl = mc := by omega
  obtain rfl : sl = ms := by omega
  exact (W.vret hx hb hret (fun t ht hw => ⟨rfl, by rw [ht]; exact hr.moved hw.alike, hS.F ht⟩) (fun q hq => hS.2.2 q hq) hd hlk)
theorem s_aret {S : Mem} {rt : FieldType} {x : Nat} (hd : decode cc pc = .ok (.areturn, 1)) : Sim cc own fr lo (some (.array rt)) isI Γ rA (some (x, S)) S pc L [.ref x] := by
  obtain ⟨p, l, e, R, s, m, args, below, meth, c, nL, D, cs, z, mc, ms, z0, q0⟩ := Γ
  intro r S' hX
  cases hX
  refine ⟨⟨Nat.le_refl _, Nat.le_refl _⟩, fun C hm hq H locs ls cl sl h1 h2 hr hS hL => ?_⟩
  obtain ⟨hx, hb, hml, hown, hts, hK, hlk, ⟨rc, rs, rfl, hrc, hrs⟩, hret, hnw, hisI⟩ := id C
  obtain rfl : cl = mc := by omega
  obtain rfl : sl = ms := by omega
  exact (W.aret hx hb hret (Or.inr ⟨_, rfl⟩) (Or.inr ⟨_, rfl⟩) (fun t ht hw => ⟨rfl, by rw [ht]; exact hr.moved hw.alike, hS.F ht⟩) (fun q hq => hS.2.2 q hq) hd hlk)
/-! calls -/
theorem Pre.blind (D : va_G) (cs : Nat → ClassId) (z : Nat) (S : Mem) (av : List Value) : FrameBlind (va_Pc av (Pre D cs z S)) := by
  intro a U g mk h
  obtain ⟨h1, h2, h3, h4⟩ := h
  exact ⟨h1, h2.moved (u := U) (U := U.calling g mk a) (Vm.Alike.refl U.vm), va_K.moved (u := U) (U := U.calling g mk a) (Vm.Alike.refl U.vm) h3, fun w hw => va_Nw.same (by
    have h2 := (List.mem_filter.mp hw).2
    cases w <;> first | rfl | (simp at h2; done)) (rfl : U.vm = (U.calling g mk a).vm) (h4.1 w hw), h4.2.1.same rfl, h4.2.2.1.same rfl, va_AO.moved (u := U) (U := U.calling g mk a) (Vm.Alike.refl U.vm) h4.2.2.2⟩
theorem s_run {β : Type} {ιb : β → Option Value} {X0 : Option (β × Mem)} {K : β → Mem → Option (α × Mem)} {stk : List Value} (hmono : ∀ v S1, X0 = some (v, S1) → mZ S ≤ mZ S1 ∧ mQ S ≤ mQ S1)
    (hrun : ∀ v S1, X0 = some (v, S1) → match Γ with
      | (p, l, e, R, s, m, args, below, meth, c, nL, D, cs, z, mc, ms, z0, q0) => Ctx (p, l, e, R, s, m, args, below, meth, c, nL, D, cs, z, mc, ms, z0, q0) cc own fr lo ret isI → ∀ (H : Heap) (locs : List Loc) (ls : Array Slot) (cl sl : Nat), cl + (mZ S1 - mZ S) ≤ mc → sl + (mQ S1 - mQ S) ≤ ms → hR D cs z s S H → va_S (fun q => z ≤ q) s.heap H locs → lHas ls nL L → ∃ a, va_Run p l e R s m args below meth c H locs cl sl (mZ S1 - mZ S) (mQ S1 - mQ S) (F0 m pc ls stk) st (Qo D cs z (ιb v) S1 a) (fun q => z ≤ q))
    (k : ∀ v S1, Sim cc own fr lo ret isI Γ ι (K v S1) S1 (pc + 3) L ((ιb v).toList ++ st)) : Sim cc own fr lo ret isI Γ ι (bd X0 K) S pc L stk := by
  obtain ⟨p, l, e, R, s, m, args, below, meth, c, nL, D, cs, z, mc, ms, z0, q0⟩ := Γ
  intro r S' hX
  cases hX0 : X0 with
  | none => rw [hX0] at hX; cases hX
  | some q =>
    obtain ⟨v, S1⟩ := q
    rw [hX0] at hX
    have k := k v S1 r S' hX
    have hmn := hmono v S1 hX0
    refine ⟨⟨by omega, by omega⟩, fun C hm hq H locs ls cl sl h1 h2 hr hS hL => ?_⟩
    obtain ⟨hx, hb, hml, hown, hts, hK, hlk, ⟨rc, rs, rfl, hrc, hrs⟩, hret, hnw, hisI⟩ := id C
    obtain ⟨a, hrn⟩ := hrun v S1 hX0 C H locs ls cl sl (by omega) (by omega) hr hS hL
    intro T hT Xs
    obtain ⟨w9, st₀, t, T', L9, h0, X', hL9, e1, e2, ⟨ho, hR1, hz, hk⟩, stp⟩ := hrn T hT Xs
    cases ho
    rw [h0] at hz hk
    have hal : s.vm.Alike T'.vm := X'.warmed.alike
    obtain ⟨t2, a1, b1⟩ := k.2 C hm hq T'.heap (locs ++ L9) ls _ _ (by omega) (by omega)
      (by rw [e1]; exact hR1.moved (by rw [← e2]; exact hal.symm))
      ⟨Nat.le_trans hS.1 (by rw [e1]; exact hz), fun q h1 h2 => by rw [e1, hk q (Nat.lt_of_lt_of_le h1 hS.1) h2]; exact hS.2.1 q h1 h2, fun q hq => by
        rcases List.mem_append.mp hq with h | h
        · exact hS.2.2 q h
        · exact hL9 q h⟩ hL T' rfl X'
    exact ⟨t2, stp t2 a1, b1⟩
theorem ws_good {y : MethodName} {bytes : ByteArray} {maxL : Nat} {ret : Option FieldType} (h : Cond.code y bytes maxL ret ∈ lw_g) : GoodIn lw_g (wsOf y bytes maxL ret) := lw_GoodIn (fun w hw => by
  rcases List.mem_cons.mp hw with rfl | h2
  · exact h
  · exact h2)
/-- the room that a call wants -/
abbrev RmOK (fr lo frY loY maxL : Nat) : Prop := frY + 1 ≤ fr ∧ 8 + (maxL + 11) + loY ≤ lo

theorem cal_some {β : Type} {S : Mem} {ci b : Nat} {X0 : Option β} {v : β} (h : cal S ci b X0 = some v) : mK S b = ci ∧ X0 = some v := by
  unfold cal at h
  by_cases hk : mK S b = ci
  · rw [if_pos hk] at h; exact ⟨hk, h⟩
  · rw [if_neg hk] at h; cases h
theorem s_callV {β : Type} {ιb : β → Option Value} {y : MethodName} {bytes : ByteArray} {maxL n idx frY loY : Nat} {retY : Option FieldType} {X0 : Option (β × Mem)} {K : β → Mem → Option (α × Mem)} {b ci : Nat} (As : List Value) (mk : MKV own idx y bytes maxL retY n) (hci : ci < 9) (hcy : y.cls = clR ci) (hn : As.length = n) (hrm : RmOK fr lo frY loY maxL) (hst : (st.map fun v => v.category).sum ≤ 8)
    (hc : ∀ v S1, X0 = some (v, S1) → Con (lOf Γ) y bytes maxL retY frY loY (.ref b :: As) S (ιb v) S1) (hd : decode cc pc = .ok (.invokevirtual idx, 3)) (k : ∀ v S1, Sim cc own fr lo ret isI Γ ι (K v S1) S1 (pc + 3) L ((ιb v).toList ++ st)) : Sim cc own fr lo ret isI Γ ι (bd (cal S ci b X0) K) S pc L (As.reverse ++ .ref b :: st) := by
  refine s_run (ιb := ιb) (fun v S1 h0 => (hc v S1 (cal_some h0).2).1 ⟨Γ⟩) (fun v S1 h0 => ?_) k
  obtain ⟨p, l, e, R, s, m, args, below, meth, c, nL, D, cs, z, mc, ms, z0, q0⟩ := Γ
  intro C
  obtain ⟨hx, hb, hml, hown, hts, hK, hlk, ⟨rc, rs, rfl, hrc, hrs⟩, hret, hnw, hisI⟩ := id C
  intro H locs ls cl sl r4 r5 hr hS hL
  obtain ⟨m1, m2, m3, m4, m5, m6⟩ := mk
  obtain ⟨hk, h0⟩ := cal_some h0
  have hrec : ∃ cell : Cell, H[b]? = some cell ∧ cell.vm.isStatics = false ∧ s.vm.findClass y.cls = some cell.cls := by
    obtain ⟨-, cell, g1, g2, g3, -⟩ := hr_ob hr hk hci
    exact ⟨cell, g1, by rw [g3]; rfl, by rw [g2, hcy]; exact (hK.1 ci _ (cl_at ci hci)).2.1⟩
  refine ⟨_, va_runV (As := As) (rest := st) ⟨hx, hb, hml, hown, hts⟩ ((hc v S1 h0).2 D cs z) ⟨callB_of n hts (ws_good m5) rfl rfl rfl (hts _ m4) (hts _ m1) m6 hrm, hts _ m2, hts _ m3⟩ ⟨Pre.blind D cs z S _, hrec, fun U hU hW => ⟨rfl, by rw [hU]; exact hr.moved hW.alike, va_K.moved hW.alike hK, hnw.warm hW⟩⟩ rfl hn hL.1.1 rfl (lv_room hst) hd ⟨Nat.le_trans r4 hrc, Nat.le_trans r5 hrs⟩⟩
theorem calT_some {β : Type} {S : Mem} {b : Nat} {X0 : Option β} {v : β} (h : calT S b X0 = some v) : b = mT S ∧ X0 = some v := by
  unfold calT at h
  by_cases hk : b = mT S
  · rw [if_pos hk] at h; exact ⟨hk, h⟩
  · rw [if_neg hk] at h; cases h
theorem s_callT {β : Type} {ιb : β → Option Value} {y : MethodName} {bytes : ByteArray} {maxL n idx frY loY : Nat} {retY : Option FieldType} {X0 : Option (β × Mem)} {K : β → Mem → Option (α × Mem)} {b : Nat} (As : List Value) (mk : MKV own idx y bytes maxL retY n) (hcy : y.cls = "java/lang/String") (hn : As.length = n) (hrm : RmOK fr lo frY loY maxL) (hst : (st.map fun v => v.category).sum ≤ 8)
    (hc : ∀ v S1, X0 = some (v, S1) → Con (lOf Γ) y bytes maxL retY frY loY (.ref b :: As) S (ιb v) S1) (hd : decode cc pc = .ok (.invokevirtual idx, 3)) (k : ∀ v S1, Sim cc own fr lo ret isI Γ ι (K v S1) S1 (pc + 3) L ((ιb v).toList ++ st)) : Sim cc own fr lo ret isI Γ ι (bd (calT S b X0) K) S pc L (As.reverse ++ .ref b :: st) := by
  refine s_run (ιb := ιb) (fun v S1 h0 => (hc v S1 (calT_some h0).2).1 ⟨Γ⟩) (fun v S1 h0 => ?_) k
  obtain ⟨p, l, e, R, s, m, args, below, meth, c, nL, D, cs, z, mc, ms, z0, q0⟩ := Γ
  intro C
  obtain ⟨hx, hb, hml, hown, hts, hK, hlk, ⟨rc, rs, rfl, hrc, hrs⟩, hret, hnw, hisI⟩ := id C
  intro H locs ls cl sl r4 r5 hr hS hL
  obtain ⟨m1, m2, m3, m4, m5, m6⟩ := mk
  obtain ⟨hk, h0⟩ := calT_some h0
  have hrec : ∃ cell : Cell, H[b]? = some cell ∧ cell.vm.isStatics = false ∧ s.vm.findClass y.cls = some cell.cls := by
    obtain ⟨cell, g1, g2, g3, -⟩ := hr.2.2.2.2.2.2.2.1.1
    subst hk
    exact ⟨cell, g1, g2, by rw [hcy]; exact g3⟩
  refine ⟨_, va_runV (As := As) (rest := st) ⟨hx, hb, hml, hown, hts⟩ ((hc v S1 h0).2 D cs z) ⟨callB_of n hts (ws_good m5) rfl rfl rfl (hts _ m4) (hts _ m1) m6 hrm, hts _ m2, hts _ m3⟩ ⟨Pre.blind D cs z S _, hrec, fun U hU hW => ⟨rfl, by rw [hU]; exact hr.moved hW.alike, va_K.moved hW.alike hK, hnw.warm hW⟩⟩ rfl hn hL.1.1 rfl (lv_room hst) hd ⟨Nat.le_trans r4 hrc, Nat.le_trans r5 hrs⟩⟩
theorem s_callS {β : Type} {ιb : β → Option Value} {y : MethodName} {bytes : ByteArray} {maxL n idx frY loY : Nat} {retY : Option FieldType} {X0 : Option (β × Mem)} {K : β → Mem → Option (α × Mem)} (As : List Value) (mk : MKS own idx y bytes maxL retY n) (hn : As.length = n) (hrm : RmOK fr lo frY loY maxL) (hst : (st.map fun v => v.category).sum ≤ 8)
    (hc : ∀ v S1, X0 = some (v, S1) → Con (lOf Γ) y bytes maxL retY frY loY (As) S (ιb v) S1) (hd : decode cc pc = .ok (.invokestatic idx, 3)) (k : ∀ v S1, Sim cc own fr lo ret isI Γ ι (K v S1) S1 (pc + 3) L ((ιb v).toList ++ st)) : Sim cc own fr lo ret isI Γ ι (bd (X0) K) S pc L (As.reverse ++ st) := by
  refine s_run (ιb := ιb) (fun v S1 h0 => (hc v S1 h0).1 ⟨Γ⟩) (fun v S1 h0 => ?_) k
  obtain ⟨p, l, e, R, s, m, args, below, meth, c, nL, D, cs, z, mc, ms, z0, q0⟩ := Γ
  intro C
  obtain ⟨hx, hb, hml, hown, hts, hK, hlk, ⟨rc, rs, rfl, hrc, hrs⟩, hret, hnw, hisI⟩ := id C
  intro H locs ls cl sl r4 r5 hr hS hL
  obtain ⟨m1, m2, m3, m4, m5⟩ := mk
  refine ⟨_, va_runS (As := As) (rest := st) ⟨hx, hb, hml, hown, hts⟩ ((hc v S1 h0).2 D cs z) ⟨callB_of n hts (ws_good m4) rfl rfl rfl (hts _ m3) (hts _ m1) m5 hrm, hts _ m2⟩ ⟨Pre.blind D cs z S _, fun U hU hW => ⟨rfl, by rw [hU]; exact hr.moved hW.alike, va_K.moved hW.alike hK, hnw.warm hW⟩⟩ rfl hn hL.1.1 rfl (lv_room hst) hd ⟨Nat.le_trans r4 hrc, Nat.le_trans r5 hrs⟩⟩
theorem s_callSN {β : Type} {ιb : β → Option Value} {y : MethodName} {bytes : ByteArray} {maxL n idx frY loY : Nat} {retY : Option FieldType} {X0 : Option (β × Mem)} {K : β → Mem → Option (α × Mem)} (As : List Value) (mk : MKSN own idx y bytes maxL retY n) (hn : As.length = n) (hrm : RmOK fr lo frY loY maxL) (hst : (st.map fun v => v.category).sum ≤ 8)
    (hc : ∀ v S1, X0 = some (v, S1) → Con (lOf Γ) y bytes maxL retY frY loY (As) S (ιb v) S1) (hd : decode cc pc = .ok (.invokestatic idx, 3)) (k : ∀ v S1, Sim cc own fr lo ret isI Γ ι (K v S1) S1 (pc + 3) L ((ιb v).toList ++ st)) : Sim cc own fr lo ret isI Γ ι (bd (X0) K) S pc L (As.reverse ++ st) := by
  refine s_run (ιb := ιb) (fun v S1 h0 => (hc v S1 h0).1 ⟨Γ⟩) (fun v S1 h0 => ?_) k
  obtain ⟨p, l, e, R, s, m, args, below, meth, c, nL, D, cs, z, mc, ms, z0, q0⟩ := Γ
  intro C
  obtain ⟨hx, hb, hml, hown, hts, hK, hlk, ⟨rc, rs, rfl, hrc, hrs⟩, hret, hnw, hisI⟩ := id C
  intro H locs ls cl sl r4 r5 hr hS hL
  obtain ⟨⟨host, m1⟩, m2, m3, m4, m5⟩ := mk
  refine ⟨_, va_runSN (As := As) (rest := st) ⟨hx, hb, hml, hown, hts⟩ ((hc v S1 h0).2 D cs z) ⟨va_cnB n hts (ws_good m4) rfl rfl rfl (hnw.1 _ m1) (hts _ m3) m5 hrm, hts _ m2, trivial⟩ ⟨Pre.blind D cs z S _, fun U hU hW => ⟨rfl, by rw [hU]; exact hr.moved hW.alike, va_K.moved hW.alike hK, hnw.warm hW⟩⟩ rfl hn hL.1.1 rfl (lv_room hst) hd ⟨Nat.le_trans r4 hrc, Nat.le_trans r5 hrs⟩⟩
theorem s_callI {β : Type} {ιb : β → Option Value} {y : MethodName} {bytes : ByteArray} {maxL n idx frY loY : Nat} {retY : Option FieldType} {X0 : Option (β × Mem)} {K : β → Mem → Option (α × Mem)} {b : Nat} (As : List Value) (mk : MKI own idx y bytes maxL retY n) (hn : As.length = n) (hrm : RmOK fr lo frY loY maxL) (hst : (st.map fun v => v.category).sum ≤ 8)
    (hc : ∀ v S1, X0 = some (v, S1) → Con (lOf Γ) y bytes maxL retY frY loY (.ref b :: As) S (ιb v) S1) (hd : decode cc pc = .ok (.invokespecial idx, 3)) (k : ∀ v S1, Sim cc own fr lo ret isI Γ ι (K v S1) S1 (pc + 3) L ((ιb v).toList ++ st)) : Sim cc own fr lo ret isI Γ ι (bd (X0) K) S pc L (As.reverse ++ .ref b :: st) := by
  refine s_run (ιb := ιb) (fun v S1 h0 => (hc v S1 h0).1 ⟨Γ⟩) (fun v S1 h0 => ?_) k
  obtain ⟨p, l, e, R, s, m, args, below, meth, c, nL, D, cs, z, mc, ms, z0, q0⟩ := Γ
  intro C
  obtain ⟨hx, hb, hml, hown, hts, hK, hlk, ⟨rc, rs, rfl, hrc, hrs⟩, hret, hnw, hisI⟩ := id C
  intro H locs ls cl sl r4 r5 hr hS hL
  obtain ⟨m1, m2, m3, m4, ⟨m5, rfl⟩, m6⟩ := mk
  refine ⟨_, va_runI (As := As) (rest := st) ⟨hx, hb, hml, hown, hts⟩ ((hc v S1 h0).2 D cs z) ⟨callB_of n hts (ws_good m5) rfl rfl rfl (hts _ m4) (hts _ m1) m6 hrm, m3, hts _ m2⟩ ⟨Pre.blind D cs z S _, fun U hU hW => ⟨rfl, by rw [hU]; exact hr.moved hW.alike, va_K.moved hW.alike hK, hnw.warm hW⟩⟩ rfl hn hL.1.1 rfl (lv_room hst) hd ⟨Nat.le_trans r4 hrc, Nat.le_trans r5 hrs⟩⟩
theorem s_callIN {β : Type} {ιb : β → Option Value} {y : MethodName} {bytes : ByteArray} {maxL n idx frY loY : Nat} {retY : Option FieldType} {X0 : Option (β × Mem)} {K : β → Mem → Option (α × Mem)} {b : Nat} (As : List Value) (mk : MKIN own idx y bytes maxL retY n) (hn : As.length = n) (hrm : RmOK fr lo frY loY maxL) (hst : (st.map fun v => v.category).sum ≤ 8)
    (hc : ∀ v S1, X0 = some (v, S1) → Con (lOf Γ) y bytes maxL retY frY loY (.ref b :: As) S (ιb v) S1) (hd : decode cc pc = .ok (.invokespecial idx, 3)) (k : ∀ v S1, Sim cc own fr lo ret isI Γ ι (K v S1) S1 (pc + 3) L ((ιb v).toList ++ st)) : Sim cc own fr lo ret isI Γ ι (bd (X0) K) S pc L (As.reverse ++ .ref b :: st) := by
  refine s_run (ιb := ιb) (fun v S1 h0 => (hc v S1 h0).1 ⟨Γ⟩) (fun v S1 h0 => ?_) k
  obtain ⟨p, l, e, R, s, m, args, below, meth, c, nL, D, cs, z, mc, ms, z0, q0⟩ := Γ
  intro C
  obtain ⟨hx, hb, hml, hown, hts, hK, hlk, ⟨rc, rs, rfl, hrc, hrs⟩, hret, hnw, hisI⟩ := id C
  intro H locs ls cl sl r4 r5 hr hS hL
  obtain ⟨⟨host, m1⟩, m2, m3, m4, ⟨m5, rfl⟩, m6⟩ := mk
  refine ⟨_, va_runIN (As := As) (rest := st) ⟨hx, hb, hml, hown, hts⟩ ((hc v S1 h0).2 D cs z) ⟨va_cnB n hts (ws_good m5) rfl rfl rfl (hnw.1 _ m1) (hts _ m4) m6 hrm, m3, hts _ m2⟩ ⟨Pre.blind D cs z S _, fun U hU hW => ⟨rfl, by rw [hU]; exact hr.moved hW.alike, va_K.moved hW.alike hK, hnw.warm hW⟩⟩ rfl hn hL.1.1 rfl (lv_room hst) hd ⟨Nat.le_trans r4 hrc, Nat.le_trans r5 hrs⟩⟩
theorem s_cV0I {y : MethodName} {bytes : ByteArray} {maxL idx frY loY : Nat} {retY : Option FieldType} {X0 : Option (Int32 × Mem)} {K : Int32 → Mem → Option (α × Mem)} {b ci : Nat} (mk : MKV own idx y bytes maxL retY 0) (hci : ci < 9) (hcy : y.cls = clR ci) (hc : ∀ v S1, X0 = some (v, S1) → Con (lOf Γ) y bytes maxL retY frY loY [.ref b] S (rI v) S1) (hrm : RmOK fr lo frY loY maxL) (hst : (st.map fun v => v.category).sum ≤ 8) (hd : decode cc pc = .ok (.invokevirtual idx, 3)) (k : ∀ v S1, Sim cc own fr lo ret isI Γ ι (K v S1) S1 (pc + 3) L (.int v :: st)) : Sim cc own fr lo ret isI Γ ι (bd (cal S ci b X0) K) S pc L (.ref b :: st) := s_callV (ιb := rI) [] mk hci hcy rfl hrm hst hc hd k
theorem s_cV0J {y : MethodName} {bytes : ByteArray} {maxL idx frY loY : Nat} {retY : Option FieldType} {X0 : Option (Int64 × Mem)} {K : Int64 → Mem → Option (α × Mem)} {b ci : Nat} (mk : MKV own idx y bytes maxL retY 0) (hci : ci < 9) (hcy : y.cls = clR ci) (hc : ∀ v S1, X0 = some (v, S1) → Con (lOf Γ) y bytes maxL retY frY loY [.ref b] S (rJ v) S1) (hrm : RmOK fr lo frY loY maxL) (hst : (st.map fun v => v.category).sum ≤ 8) (hd : decode cc pc = .ok (.invokevirtual idx, 3)) (k : ∀ v S1, Sim cc own fr lo ret isI Γ ι (K v S1) S1 (pc + 3) L (.long v :: st)) : Sim cc own fr lo ret isI Γ ι (bd (cal S ci b X0) K) S pc L (.ref b :: st) := s_callV (ιb := rJ) [] mk hci hcy rfl hrm hst hc hd k
theorem s_cV0A {y : MethodName} {bytes : ByteArray} {maxL idx frY loY : Nat} {retY : Option FieldType} {X0 : Option (Nat × Mem)} {K : Nat → Mem → Option (α × Mem)} {b ci : Nat} (mk : MKV own idx y bytes maxL retY 0) (hci : ci < 9) (hcy : y.cls = clR ci) (hc : ∀ v S1, X0 = some (v, S1) → Con (lOf Γ) y bytes maxL retY frY loY [.ref b] S (rA v) S1) (hrm : RmOK fr lo frY loY maxL) (hst : (st.map fun v => v.category).sum ≤ 8) (hd : decode cc pc = .ok (.invokevirtual idx, 3)) (k : ∀ v S1, Sim cc own fr lo ret isI Γ ι (K v S1) S1 (pc + 3) L (.ref v :: st)) : Sim cc own fr lo ret isI Γ ι (bd (cal S ci b X0) K) S pc L (.ref b :: st) := s_callV (ιb := rA) [] mk hci hcy rfl hrm hst hc hd k
theorem s_cV0V {y : MethodName} {bytes : ByteArray} {maxL idx frY loY : Nat} {retY : Option FieldType} {X0 : Option (Unit × Mem)} {K : Unit → Mem → Option (α × Mem)} {b ci : Nat} (mk : MKV own idx y bytes maxL retY 0) (hci : ci < 9) (hcy : y.cls = clR ci) (hc : ∀ v S1, X0 = some (v, S1) → Con (lOf Γ) y bytes maxL retY frY loY [.ref b] S (rV v) S1) (hrm : RmOK fr lo frY loY maxL) (hst : (st.map fun v => v.category).sum ≤ 8) (hd : decode cc pc = .ok (.invokevirtual idx, 3)) (k : ∀ v S1, Sim cc own fr lo ret isI Γ ι (K v S1) S1 (pc + 3) L (st)) : Sim cc own fr lo ret isI Γ ι (bd (cal S ci b X0) K) S pc L (.ref b :: st) := s_callV (ιb := rV) [] mk hci hcy rfl hrm hst hc hd k
theorem s_cV1I {y : MethodName} {bytes : ByteArray} {maxL idx frY loY : Nat} {retY : Option FieldType} {X0 : Option (Int32 × Mem)} {K : Int32 → Mem → Option (α × Mem)} {b ci : Nat} {a1 : Value} (mk : MKV own idx y bytes maxL retY 1) (hci : ci < 9) (hcy : y.cls = clR ci) (hc : ∀ v S1, X0 = some (v, S1) → Con (lOf Γ) y bytes maxL retY frY loY [.ref b, a1] S (rI v) S1) (hrm : RmOK fr lo frY loY maxL) (hst : (st.map fun v => v.category).sum ≤ 8) (hd : decode cc pc = .ok (.invokevirtual idx, 3)) (k : ∀ v S1, Sim cc own fr lo ret isI Γ ι (K v S1) S1 (pc + 3) L (.int v :: st)) : Sim cc own fr lo ret isI Γ ι (bd (cal S ci b X0) K) S pc L (a1 :: .ref b :: st) := s_callV (ιb := rI) [a1] mk hci hcy rfl hrm hst hc hd k
theorem s_cV1J {y : MethodName} {bytes : ByteArray} {maxL idx frY loY : Nat} {retY : Option FieldType} {X0 : Option (Int64 × Mem)} {K : Int64 → Mem → Option (α × Mem)} {b ci : Nat} {a1 : Value} (mk : MKV own idx y bytes maxL retY 1) (hci : ci < 9) (hcy : y.cls = clR ci) (hc : ∀ v S1, X0 = some (v, S1) → Con (lOf Γ) y bytes maxL retY frY loY [.ref b, a1] S (rJ v) S1) (hrm : RmOK fr lo frY loY maxL) (hst : (st.map fun v => v.category).sum ≤ 8) (hd : decode cc pc = .ok (.invokevirtual idx, 3)) (k : ∀ v S1, Sim cc own fr lo ret isI Γ ι (K v S1) S1 (pc + 3) L (.long v :: st)) : Sim cc own fr lo ret isI Γ ι (bd (cal S ci b X0) K) S pc L (a1 :: .ref b :: st) := s_callV (ιb := rJ) [a1] mk hci hcy rfl hrm hst hc hd k
theorem s_cV1A {y : MethodName} {bytes : ByteArray} {maxL idx frY loY : Nat} {retY : Option FieldType} {X0 : Option (Nat × Mem)} {K : Nat → Mem → Option (α × Mem)} {b ci : Nat} {a1 : Value} (mk : MKV own idx y bytes maxL retY 1) (hci : ci < 9) (hcy : y.cls = clR ci) (hc : ∀ v S1, X0 = some (v, S1) → Con (lOf Γ) y bytes maxL retY frY loY [.ref b, a1] S (rA v) S1) (hrm : RmOK fr lo frY loY maxL) (hst : (st.map fun v => v.category).sum ≤ 8) (hd : decode cc pc = .ok (.invokevirtual idx, 3)) (k : ∀ v S1, Sim cc own fr lo ret isI Γ ι (K v S1) S1 (pc + 3) L (.ref v :: st)) : Sim cc own fr lo ret isI Γ ι (bd (cal S ci b X0) K) S pc L (a1 :: .ref b :: st) := s_callV (ιb := rA) [a1] mk hci hcy rfl hrm hst hc hd k
theorem s_cV1V {y : MethodName} {bytes : ByteArray} {maxL idx frY loY : Nat} {retY : Option FieldType} {X0 : Option (Unit × Mem)} {K : Unit → Mem → Option (α × Mem)} {b ci : Nat} {a1 : Value} (mk : MKV own idx y bytes maxL retY 1) (hci : ci < 9) (hcy : y.cls = clR ci) (hc : ∀ v S1, X0 = some (v, S1) → Con (lOf Γ) y bytes maxL retY frY loY [.ref b, a1] S (rV v) S1) (hrm : RmOK fr lo frY loY maxL) (hst : (st.map fun v => v.category).sum ≤ 8) (hd : decode cc pc = .ok (.invokevirtual idx, 3)) (k : ∀ v S1, Sim cc own fr lo ret isI Γ ι (K v S1) S1 (pc + 3) L (st)) : Sim cc own fr lo ret isI Γ ι (bd (cal S ci b X0) K) S pc L (a1 :: .ref b :: st) := s_callV (ιb := rV) [a1] mk hci hcy rfl hrm hst hc hd k
theorem s_cV2I {y : MethodName} {bytes : ByteArray} {maxL idx frY loY : Nat} {retY : Option FieldType} {X0 : Option (Int32 × Mem)} {K : Int32 → Mem → Option (α × Mem)} {b ci : Nat} {a1 a2 : Value} (mk : MKV own idx y bytes maxL retY 2) (hci : ci < 9) (hcy : y.cls = clR ci) (hc : ∀ v S1, X0 = some (v, S1) → Con (lOf Γ) y bytes maxL retY frY loY [.ref b, a1, a2] S (rI v) S1) (hrm : RmOK fr lo frY loY maxL) (hst : (st.map fun v => v.category).sum ≤ 8) (hd : decode cc pc = .ok (.invokevirtual idx, 3)) (k : ∀ v S1, Sim cc own fr lo ret isI Γ ι (K v S1) S1 (pc + 3) L (.int v :: st)) : Sim cc own fr lo ret isI Γ ι (bd (cal S ci b X0) K) S pc L (a2 :: a1 :: .ref b :: st) := s_callV (ιb := rI) [a1, a2] mk hci hcy rfl hrm hst hc hd k
theorem s_cV2J {y : MethodName} {bytes : ByteArray} {maxL idx frY loY : Nat} {retY : Option FieldType} {X0 : Option (Int64 × Mem)} {K : Int64 → Mem → Option (α × Mem)} {b ci : Nat} {a1 a2 : Value} (mk : MKV own idx y bytes maxL retY 2) (hci : ci < 9) (hcy : y.cls = clR ci) (hc : ∀ v S1, X0 = some (v, S1) → Con (lOf Γ) y bytes maxL retY frY loY [.ref b, a1, a2] S (rJ v) S1) (hrm : RmOK fr lo frY loY maxL) (hst : (st.map fun v => v.category).sum ≤ 8) (hd : decode cc pc = .ok (.invokevirtual idx, 3)) (k : ∀ v S1, Sim cc own fr lo ret isI Γ ι (K v S1) S1 (pc + 3) L (.long v :: st)) : Sim cc own fr lo ret isI Γ ι (bd (cal S ci b X0) K) S pc L (a2 :: a1 :: .ref b :: st) := s_callV (ιb := rJ) [a1, a2] mk hci hcy rfl hrm hst hc hd k
theorem s_cV2A {y : MethodName} {bytes : ByteArray} {maxL idx frY loY : Nat} {retY : Option FieldType} {X0 : Option (Nat × Mem)} {K : Nat → Mem → Option (α × Mem)} {b ci : Nat} {a1 a2 : Value} (mk : MKV own idx y bytes maxL retY 2) (hci : ci < 9) (hcy : y.cls = clR ci) (hc : ∀ v S1, X0 = some (v, S1) → Con (lOf Γ) y bytes maxL retY frY loY [.ref b, a1, a2] S (rA v) S1) (hrm : RmOK fr lo frY loY maxL) (hst : (st.map fun v => v.category).sum ≤ 8) (hd : decode cc pc = .ok (.invokevirtual idx, 3)) (k : ∀ v S1, Sim cc own fr lo ret isI Γ ι (K v S1) S1 (pc + 3) L (.ref v :: st)) : Sim cc own fr lo ret isI Γ ι (bd (cal S ci b X0) K) S pc L (a2 :: a1 :: .ref b :: st) := s_callV (ιb := rA) [a1, a2] mk hci hcy rfl hrm hst hc hd k
theorem s_cV2V {y : MethodName} {bytes : ByteArray} {maxL idx frY loY : Nat} {retY : Option FieldType} {X0 : Option (Unit × Mem)} {K : Unit → Mem → Option (α × Mem)} {b ci : Nat} {a1 a2 : Value} (mk : MKV own idx y bytes maxL retY 2) (hci : ci < 9) (hcy : y.cls = clR ci) (hc : ∀ v S1, X0 = some (v, S1) → Con (lOf Γ) y bytes maxL retY frY loY [.ref b, a1, a2] S (rV v) S1) (hrm : RmOK fr lo frY loY maxL) (hst : (st.map fun v => v.category).sum ≤ 8) (hd : decode cc pc = .ok (.invokevirtual idx, 3)) (k : ∀ v S1, Sim cc own fr lo ret isI Γ ι (K v S1) S1 (pc + 3) L (st)) : Sim cc own fr lo ret isI Γ ι (bd (cal S ci b X0) K) S pc L (a2 :: a1 :: .ref b :: st) := s_callV (ιb := rV) [a1, a2] mk hci hcy rfl hrm hst hc hd k
theorem s_cV3I {y : MethodName} {bytes : ByteArray} {maxL idx frY loY : Nat} {retY : Option FieldType} {X0 : Option (Int32 × Mem)} {K : Int32 → Mem → Option (α × Mem)} {b ci : Nat} {a1 a2 a3 : Value} (mk : MKV own idx y bytes maxL retY 3) (hci : ci < 9) (hcy : y.cls = clR ci) (hc : ∀ v S1, X0 = some (v, S1) → Con (lOf Γ) y bytes maxL retY frY loY [.ref b, a1, a2, a3] S (rI v) S1) (hrm : RmOK fr lo frY loY maxL) (hst : (st.map fun v => v.category).sum ≤ 8) (hd : decode cc pc = .ok (.invokevirtual idx, 3)) (k : ∀ v S1, Sim cc own fr lo ret isI Γ ι (K v S1) S1 (pc + 3) L (.int v :: st)) : Sim cc own fr lo ret isI Γ ι (bd (cal S ci b X0) K) S pc L (a3 :: a2 :: a1 :: .ref b :: st) := s_callV (ιb := rI) [a1, a2, a3] mk hci hcy rfl hrm hst hc hd k
theorem s_cV3J {y : MethodName} {bytes : ByteArray} {maxL idx frY loY : Nat} {retY : Option FieldType} {X0 : Option (Int64 × Mem)} {K : Int64 → Mem → Option (α × Mem)} {b ci : Nat} {a1 a2 a3 : Value} (mk : MKV own idx y bytes maxL retY 3) (hci : ci < 9) (hcy : y.cls = clR ci) (hc : ∀ v S1, X0 = some (v, S1) → Con (lOf Γ) y bytes maxL retY frY loY [.ref b, a1, a2, a3] S (rJ v) S1) (hrm : RmOK fr lo frY loY maxL) (hst : (st.map fun v => v.category).sum ≤ 8) (hd : decode cc pc = .ok (.invokevirtual idx, 3)) (k : ∀ v S1, Sim cc own fr lo ret isI Γ ι (K v S1) S1 (pc + 3) L (.long v :: st)) : Sim cc own fr lo ret isI Γ ι (bd (cal S ci b X0) K) S pc L (a3 :: a2 :: a1 :: .ref b :: st) := s_callV (ιb := rJ) [a1, a2, a3] mk hci hcy rfl hrm hst hc hd k
theorem s_cV3A {y : MethodName} {bytes : ByteArray} {maxL idx frY loY : Nat} {retY : Option FieldType} {X0 : Option (Nat × Mem)} {K : Nat → Mem → Option (α × Mem)} {b ci : Nat} {a1 a2 a3 : Value} (mk : MKV own idx y bytes maxL retY 3) (hci : ci < 9) (hcy : y.cls = clR ci) (hc : ∀ v S1, X0 = some (v, S1) → Con (lOf Γ) y bytes maxL retY frY loY [.ref b, a1, a2, a3] S (rA v) S1) (hrm : RmOK fr lo frY loY maxL) (hst : (st.map fun v => v.category).sum ≤ 8) (hd : decode cc pc = .ok (.invokevirtual idx, 3)) (k : ∀ v S1, Sim cc own fr lo ret isI Γ ι (K v S1) S1 (pc + 3) L (.ref v :: st)) : Sim cc own fr lo ret isI Γ ι (bd (cal S ci b X0) K) S pc L (a3 :: a2 :: a1 :: .ref b :: st) := s_callV (ιb := rA) [a1, a2, a3] mk hci hcy rfl hrm hst hc hd k
theorem s_cV3V {y : MethodName} {bytes : ByteArray} {maxL idx frY loY : Nat} {retY : Option FieldType} {X0 : Option (Unit × Mem)} {K : Unit → Mem → Option (α × Mem)} {b ci : Nat} {a1 a2 a3 : Value} (mk : MKV own idx y bytes maxL retY 3) (hci : ci < 9) (hcy : y.cls = clR ci) (hc : ∀ v S1, X0 = some (v, S1) → Con (lOf Γ) y bytes maxL retY frY loY [.ref b, a1, a2, a3] S (rV v) S1) (hrm : RmOK fr lo frY loY maxL) (hst : (st.map fun v => v.category).sum ≤ 8) (hd : decode cc pc = .ok (.invokevirtual idx, 3)) (k : ∀ v S1, Sim cc own fr lo ret isI Γ ι (K v S1) S1 (pc + 3) L (st)) : Sim cc own fr lo ret isI Γ ι (bd (cal S ci b X0) K) S pc L (a3 :: a2 :: a1 :: .ref b :: st) := s_callV (ιb := rV) [a1, a2, a3] mk hci hcy rfl hrm hst hc hd k
theorem s_cV4I {y : MethodName} {bytes : ByteArray} {maxL idx frY loY : Nat} {retY : Option FieldType} {X0 : Option (Int32 × Mem)} {K : Int32 → Mem → Option (α × Mem)} {b ci : Nat} {a1 a2 a3 a4 : Value} (mk : MKV own idx y bytes maxL retY 4) (hci : ci < 9) (hcy : y.cls = clR ci) (hc : ∀ v S1, X0 = some (v, S1) → Con (lOf Γ) y bytes maxL retY frY loY [.ref b, a1, a2, a3, a4] S (rI v) S1) (hrm : RmOK fr lo frY loY maxL) (hst : (st.map fun v => v.category).sum ≤ 8) (hd : decode cc pc = .ok (.invokevirtual idx, 3)) (k : ∀ v S1, Sim cc own fr lo ret isI Γ ι (K v S1) S1 (pc + 3) L (.int v :: st)) : Sim cc own fr lo ret isI Γ ι (bd (cal S ci b X0) K) S pc L (a4 :: a3 :: a2 :: a1 :: .ref b :: st) := s_callV (ιb := rI) [a1, a2, a3, a4] mk hci hcy rfl hrm hst hc hd k
theorem s_cV4J {y : MethodName} {bytes : ByteArray} {maxL idx frY loY : Nat} {retY : Option FieldType} {X0 : Option (Int64 × Mem)} {K : Int64 → Mem → Option (α × Mem)} {b ci : Nat} {a1 a2 a3 a4 : Value} (mk : MKV own idx y bytes maxL retY 4) (hci : ci < 9) (hcy : y.cls = clR ci) (hc : ∀ v S1, X0 = some (v, S1) → Con (lOf Γ) y bytes maxL retY frY loY [.ref b, a1, a2, a3, a4] S (rJ v) S1) (hrm : RmOK fr lo frY loY maxL) (hst : (st.map fun v => v.category).sum ≤ 8) (hd : decode cc pc = .ok (.invokevirtual idx, 3)) (k : ∀ v S1, Sim cc own fr lo ret isI Γ ι (K v S1) S1 (pc + 3) L (.long v :: st)) : Sim cc own fr lo ret isI Γ ι (bd (cal S ci b X0) K) S pc L (a4 :: a3 :: a2 :: a1 :: .ref b :: st) := s_callV (ιb := rJ) [a1, a2, a3, a4] mk hci hcy rfl hrm hst hc hd k
theorem s_cV4A {y : MethodName} {bytes : ByteArray} {maxL idx frY loY : Nat} {retY : Option FieldType} {X0 : Option (Nat × Mem)} {K : Nat → Mem → Option (α × Mem)} {b ci : Nat} {a1 a2 a3 a4 : Value} (mk : MKV own idx y bytes maxL retY 4) (hci : ci < 9) (hcy : y.cls = clR ci) (hc : ∀ v S1, X0 = some (v, S1) → Con (lOf Γ) y bytes maxL retY frY loY [.ref b, a1, a2, a3, a4] S (rA v) S1) (hrm : RmOK fr lo frY loY maxL) (hst : (st.map fun v => v.category).sum ≤ 8) (hd : decode cc pc = .ok (.invokevirtual idx, 3)) (k : ∀ v S1, Sim cc own fr lo ret isI Γ ι (K v S1) S1 (pc + 3) L (.ref v :: st)) : Sim cc own fr lo ret isI Γ ι (bd (cal S ci b X0) K) S pc L (a4 :: a3 :: a2 :: a1 :: .ref b :: st) := s_callV (ιb := rA) [a1, a2, a3, a4] mk hci hcy rfl hrm hst hc hd k
theorem s_cV4V {y : MethodName} {bytes : ByteArray} {maxL idx frY loY : Nat} {retY : Option FieldType} {X0 : Option (Unit × Mem)} {K : Unit → Mem → Option (α × Mem)} {b ci : Nat} {a1 a2 a3 a4 : Value} (mk : MKV own idx y bytes maxL retY 4) (hci : ci < 9) (hcy : y.cls = clR ci) (hc : ∀ v S1, X0 = some (v, S1) → Con (lOf Γ) y bytes maxL retY frY loY [.ref b, a1, a2, a3, a4] S (rV v) S1) (hrm : RmOK fr lo frY loY maxL) (hst : (st.map fun v => v.category).sum ≤ 8) (hd : decode cc pc = .ok (.invokevirtual idx, 3)) (k : ∀ v S1, Sim cc own fr lo ret isI Γ ι (K v S1) S1 (pc + 3) L (st)) : Sim cc own fr lo ret isI Γ ι (bd (cal S ci b X0) K) S pc L (a4 :: a3 :: a2 :: a1 :: .ref b :: st) := s_callV (ιb := rV) [a1, a2, a3, a4] mk hci hcy rfl hrm hst hc hd k
theorem s_cV5I {y : MethodName} {bytes : ByteArray} {maxL idx frY loY : Nat} {retY : Option FieldType} {X0 : Option (Int32 × Mem)} {K : Int32 → Mem → Option (α × Mem)} {b ci : Nat} {a1 a2 a3 a4 a5 : Value} (mk : MKV own idx y bytes maxL retY 5) (hci : ci < 9) (hcy : y.cls = clR ci) (hc : ∀ v S1, X0 = some (v, S1) → Con (lOf Γ) y bytes maxL retY frY loY [.ref b, a1, a2, a3, a4, a5] S (rI v) S1) (hrm : RmOK fr lo frY loY maxL) (hst : (st.map fun v => v.category).sum ≤ 8) (hd : decode cc pc = .ok (.invokevirtual idx, 3)) (k : ∀ v S1, Sim cc own fr lo ret isI Γ ι (K v S1) S1 (pc + 3) L (.int v :: st)) : Sim cc own fr lo ret isI Γ ι (bd (cal S ci b X0) K) S pc L (a5 :: a4 :: a3 :: a2 :: a1 :: .ref b :: st) := s_callV (ιb := rI) [a1, a2, a3, a4, a5] mk hci hcy rfl hrm hst hc hd k
theorem s_cV5J {y : MethodName} {bytes : ByteArray} {maxL idx frY loY : Nat} {retY : Option FieldType} {X0 : Option (Int64 × Mem)} {K : Int64 → Mem → Option (α × Mem)} {b ci : Nat} {a1 a2 a3 a4 a5 : Value} (mk : MKV own idx y bytes maxL retY 5) (hci : ci < 9) (hcy : y.cls = clR ci) (hc : ∀ v S1, X0 = some (v, S1) → Con (lOf Γ) y bytes maxL retY frY loY [.ref b, a1, a2, a3, a4, a5] S (rJ v) S1) (hrm : RmOK fr lo frY loY maxL) (hst : (st.map fun v => v.category).sum ≤ 8) (hd : decode cc pc = .ok (.invokevirtual idx, 3)) (k : ∀ v S1, Sim cc own fr lo ret isI Γ ι (K v S1) S1 (pc + 3) L (.long v :: st)) : Sim cc own fr lo ret isI Γ ι (bd (cal S ci b X0) K) S pc L (a5 :: a4 :: a3 :: a2 :: a1 :: .ref b :: st) := s_callV (ιb := rJ) [a1, a2, a3, a4, a5] mk hci hcy rfl hrm hst hc hd k
theorem s_cV5A {y : MethodName} {bytes : ByteArray} {maxL idx frY loY : Nat} {retY : Option FieldType} {X0 : Option (Nat × Mem)} {K : Nat → Mem → Option (α × Mem)} {b ci : Nat} {a1 a2 a3 a4 a5 : Value} (mk : MKV own idx y bytes maxL retY 5) (hci : ci < 9) (hcy : y.cls = clR ci) (hc : ∀ v S1, X0 = some (v, S1) → Con (lOf Γ) y bytes maxL retY frY loY [.ref b, a1, a2, a3, a4, a5] S (rA v) S1) (hrm : RmOK fr lo frY loY maxL) (hst : (st.map fun v => v.category).sum ≤ 8) (hd : decode cc pc = .ok (.invokevirtual idx, 3)) (k : ∀ v S1, Sim cc own fr lo ret isI Γ ι (K v S1) S1 (pc + 3) L (.ref v :: st)) : Sim cc own fr lo ret isI Γ ι (bd (cal S ci b X0) K) S pc L (a5 :: a4 :: a3 :: a2 :: a1 :: .ref b :: st) := s_callV (ιb := rA) [a1, a2, a3, a4, a5] mk hci hcy rfl hrm hst hc hd k
theorem s_cV5V {y : MethodName} {bytes : ByteArray} {maxL idx frY loY : Nat} {retY : Option FieldType} {X0 : Option (Unit × Mem)} {K : Unit → Mem → Option (α × Mem)} {b ci : Nat} {a1 a2 a3 a4 a5 : Value} (mk : MKV own idx y bytes maxL retY 5) (hci : ci < 9) (hcy : y.cls = clR ci) (hc : ∀ v S1, X0 = some (v, S1) → Con (lOf Γ) y bytes maxL retY frY loY [.ref b, a1, a2, a3, a4, a5] S (rV v) S1) (hrm : RmOK fr lo frY loY maxL) (hst : (st.map fun v => v.category).sum ≤ 8) (hd : decode cc pc = .ok (.invokevirtual idx, 3)) (k : ∀ v S1, Sim cc own fr lo ret isI Γ ι (K v S1) S1 (pc + 3) L (st)) : Sim cc own fr lo ret isI Γ ι (bd (cal S ci b X0) K) S pc L (a5 :: a4 :: a3 :: a2 :: a1 :: .ref b :: st) := s_callV (ιb := rV) [a1, a2, a3, a4, a5] mk hci hcy rfl hrm hst hc hd k
theorem s_cV6I {y : MethodName} {bytes : ByteArray} {maxL idx frY loY : Nat} {retY : Option FieldType} {X0 : Option (Int32 × Mem)} {K : Int32 → Mem → Option (α × Mem)} {b ci : Nat} {a1 a2 a3 a4 a5 a6 : Value} (mk : MKV own idx y bytes maxL retY 6) (hci : ci < 9) (hcy : y.cls = clR ci) (hc : ∀ v S1, X0 = some (v, S1) → Con (lOf Γ) y bytes maxL retY frY loY [.ref b, a1, a2, a3, a4, a5, a6] S (rI v) S1) (hrm : RmOK fr lo frY loY maxL) (hst : (st.map fun v => v.category).sum ≤ 8) (hd : decode cc pc = .ok (.invokevirtual idx, 3)) (k : ∀ v S1, Sim cc own fr lo ret isI Γ ι (K v S1) S1 (pc + 3) L (.int v :: st)) : Sim cc own fr lo ret isI Γ ι (bd (cal S ci b X0) K) S pc L (a6 :: a5 :: a4 :: a3 :: a2 :: a1 :: .ref b :: st) := s_callV (ιb := rI) [a1, a2, a3, a4, a5, a6] mk hci hcy rfl hrm hst hc hd k
theorem s_cV6J {y : MethodName} {bytes : ByteArray} {maxL idx frY loY : Nat} {retY : Option FieldType} {X0 : Option (Int64 × Mem)} {K : Int64 → Mem → Option (α × Mem)} {b ci : Nat} {a1 a2 a3 a4 a5 a6 : Value} (mk : MKV own idx y bytes maxL retY 6) (hci : ci < 9) (hcy : y.cls = clR ci) (hc : ∀ v S1, X0 = some (v, S1) → Con (lOf Γ) y bytes maxL retY frY loY [.ref b, a1, a2, a3, a4, a5, a6] S (rJ v) S1) (hrm : RmOK fr lo frY loY maxL) (hst : (st.map fun v => v.category).sum ≤ 8) (hd : decode cc pc = .ok (.invokevirtual idx, 3)) (k : ∀ v S1, Sim cc own fr lo ret isI Γ ι (K v S1) S1 (pc + 3) L (.long v :: st)) : Sim cc own fr lo ret isI Γ ι (bd (cal S ci b X0) K) S pc L (a6 :: a5 :: a4 :: a3 :: a2 :: a1 :: .ref b :: st) := s_callV (ιb := rJ) [a1, a2, a3, a4, a5, a6] mk hci hcy rfl hrm hst hc hd k
theorem s_cV6A {y : MethodName} {bytes : ByteArray} {maxL idx frY loY : Nat} {retY : Option FieldType} {X0 : Option (Nat × Mem)} {K : Nat → Mem → Option (α × Mem)} {b ci : Nat} {a1 a2 a3 a4 a5 a6 : Value} (mk : MKV own idx y bytes maxL retY 6) (hci : ci < 9) (hcy : y.cls = clR ci) (hc : ∀ v S1, X0 = some (v, S1) → Con (lOf Γ) y bytes maxL retY frY loY [.ref b, a1, a2, a3, a4, a5, a6] S (rA v) S1) (hrm : RmOK fr lo frY loY maxL) (hst : (st.map fun v => v.category).sum ≤ 8) (hd : decode cc pc = .ok (.invokevirtual idx, 3)) (k : ∀ v S1, Sim cc own fr lo ret isI Γ ι (K v S1) S1 (pc + 3) L (.ref v :: st)) : Sim cc own fr lo ret isI Γ ι (bd (cal S ci b X0) K) S pc L (a6 :: a5 :: a4 :: a3 :: a2 :: a1 :: .ref b :: st) := s_callV (ιb := rA) [a1, a2, a3, a4, a5, a6] mk hci hcy rfl hrm hst hc hd k
theorem s_cV6V {y : MethodName} {bytes : ByteArray} {maxL idx frY loY : Nat} {retY : Option FieldType} {X0 : Option (Unit × Mem)} {K : Unit → Mem → Option (α × Mem)} {b ci : Nat} {a1 a2 a3 a4 a5 a6 : Value} (mk : MKV own idx y bytes maxL retY 6) (hci : ci < 9) (hcy : y.cls = clR ci) (hc : ∀ v S1, X0 = some (v, S1) → Con (lOf Γ) y bytes maxL retY frY loY [.ref b, a1, a2, a3, a4, a5, a6] S (rV v) S1) (hrm : RmOK fr lo frY loY maxL) (hst : (st.map fun v => v.category).sum ≤ 8) (hd : decode cc pc = .ok (.invokevirtual idx, 3)) (k : ∀ v S1, Sim cc own fr lo ret isI Γ ι (K v S1) S1 (pc + 3) L (st)) : Sim cc own fr lo ret isI Γ ι (bd (cal S ci b X0) K) S pc L (a6 :: a5 :: a4 :: a3 :: a2 :: a1 :: .ref b :: st) := s_callV (ιb := rV) [a1, a2, a3, a4, a5, a6] mk hci hcy rfl hrm hst hc hd k
theorem s_cV7I {y : MethodName} {bytes : ByteArray} {maxL idx frY loY : Nat} {retY : Option FieldType} {X0 : Option (Int32 × Mem)} {K : Int32 → Mem → Option (α × Mem)} {b ci : Nat} {a1 a2 a3 a4 a5 a6 a7 : Value} (mk : MKV own idx y bytes maxL retY 7) (hci : ci < 9) (hcy : y.cls = clR ci) (hc : ∀ v S1, X0 = some (v, S1) → Con (lOf Γ) y bytes maxL retY frY loY [.ref b, a1, a2, a3, a4, a5, a6, a7] S (rI v) S1) (hrm : RmOK fr lo frY loY maxL) (hst : (st.map fun v => v.category).sum ≤ 8) (hd : decode cc pc = .ok (.invokevirtual idx, 3)) (k : ∀ v S1, Sim cc own fr lo ret isI Γ ι (K v S1) S1 (pc + 3) L (.int v :: st)) : Sim cc own fr lo ret isI Γ ι (bd (cal S ci b X0) K) S pc L (a7 :: a6 :: a5 :: a4 :: a3 :: a2 :: a1 :: .ref b :: st) := s_callV (ιb := rI) [a1, a2, a3, a4, a5, a6, a7] mk hci hcy rfl hrm hst hc hd k
theorem s_cV7J {y : MethodName} {bytes : ByteArray} {maxL idx frY loY : Nat} {retY : Option FieldType} {X0 : Option (Int64 × Mem)} {K : Int64 → Mem → Option (α × Mem)} {b ci : Nat} {a1 a2 a3 a4 a5 a6 a7 : Value} (mk : MKV own idx y bytes maxL retY 7) (hci : ci < 9) (hcy : y.cls = clR ci) (hc : ∀ v S1, X0 = some (v, S1) → Con (lOf Γ) y bytes maxL retY frY loY [.ref b, a1, a2, a3, a4, a5, a6, a7] S (rJ v) S1) (hrm : RmOK fr lo frY loY maxL) (hst : (st.map fun v => v.category).sum ≤ 8) (hd : decode cc pc = .ok (.invokevirtual idx, 3)) (k : ∀ v S1, Sim cc own fr lo ret isI Γ ι (K v S1) S1 (pc + 3) L (.long v :: st)) : Sim cc own fr lo ret isI Γ ι (bd (cal S ci b X0) K) S pc L (a7 :: a6 :: a5 :: a4 :: a3 :: a2 :: a1 :: .ref b :: st) := s_callV (ιb := rJ) [a1, a2, a3, a4, a5, a6, a7] mk hci hcy rfl hrm hst hc hd k
theorem s_cV7A {y : MethodName} {bytes : ByteArray} {maxL idx frY loY : Nat} {retY : Option FieldType} {X0 : Option (Nat × Mem)} {K : Nat → Mem → Option (α × Mem)} {b ci : Nat} {a1 a2 a3 a4 a5 a6 a7 : Value} (mk : MKV own idx y bytes maxL retY 7) (hci : ci < 9) (hcy : y.cls = clR ci) (hc : ∀ v S1, X0 = some (v, S1) → Con (lOf Γ) y bytes maxL retY frY loY [.ref b, a1, a2, a3, a4, a5, a6, a7] S (rA v) S1) (hrm : RmOK fr lo frY loY maxL) (hst : (st.map fun v => v.category).sum ≤ 8) (hd : decode cc pc = .ok (.invokevirtual idx, 3)) (k : ∀ v S1, Sim cc own fr lo ret isI Γ ι (K v S1) S1 (pc + 3) L (.ref v :: st)) : Sim cc own fr lo ret isI Γ ι (bd (cal S ci b X0) K) S pc L (a7 :: a6 :: a5 :: a4 :: a3 :: a2 :: a1 :: .ref b :: st) := s_callV (ιb := rA) [a1, a2, a3, a4, a5, a6, a7] mk hci hcy rfl hrm hst hc hd k
theorem s_cV7V {y : MethodName} {bytes : ByteArray} {maxL idx frY loY : Nat} {retY : Option FieldType} {X0 : Option (Unit × Mem)} {K : Unit → Mem → Option (α × Mem)} {b ci : Nat} {a1 a2 a3 a4 a5 a6 a7 : Value} (mk : MKV own idx y bytes maxL retY 7) (hci : ci < 9) (hcy : y.cls = clR ci) (hc : ∀ v S1, X0 = some (v, S1) → Con (lOf Γ) y bytes maxL retY frY loY [.ref b, a1, a2, a3, a4, a5, a6, a7] S (rV v) S1) (hrm : RmOK fr lo frY loY maxL) (hst : (st.map fun v => v.category).sum ≤ 8) (hd : decode cc pc = .ok (.invokevirtual idx, 3)) (k : ∀ v S1, Sim cc own fr lo ret isI Γ ι (K v S1) S1 (pc + 3) L (st)) : Sim cc own fr lo ret isI Γ ι (bd (cal S ci b X0) K) S pc L (a7 :: a6 :: a5 :: a4 :: a3 :: a2 :: a1 :: .ref b :: st) := s_callV (ιb := rV) [a1, a2, a3, a4, a5, a6, a7] mk hci hcy rfl hrm hst hc hd k
theorem s_cT0I {y : MethodName} {bytes : ByteArray} {maxL idx frY loY : Nat} {retY : Option FieldType} {X0 : Option (Int32 × Mem)} {K : Int32 → Mem → Option (α × Mem)} {b : Nat} (mk : MKV own idx y bytes maxL retY 0) (hcy : y.cls = "java/lang/String") (hc : ∀ v S1, X0 = some (v, S1) → Con (lOf Γ) y bytes maxL retY frY loY [.ref b] S (rI v) S1) (hrm : RmOK fr lo frY loY maxL) (hst : (st.map fun v => v.category).sum ≤ 8) (hd : decode cc pc = .ok (.invokevirtual idx, 3)) (k : ∀ v S1, Sim cc own fr lo ret isI Γ ι (K v S1) S1 (pc + 3) L (.int v :: st)) : Sim cc own fr lo ret isI Γ ι (bd (calT S b X0) K) S pc L (.ref b :: st) := s_callT (ιb := rI) [] mk hcy rfl hrm hst hc hd k
theorem s_cT0J {y : MethodName} {bytes : ByteArray} {maxL idx frY loY : Nat} {retY : Option FieldType} {X0 : Option (Int64 × Mem)} {K : Int64 → Mem → Option (α × Mem)} {b : Nat} (mk : MKV own idx y bytes maxL retY 0) (hcy : y.cls = "java/lang/String") (hc : ∀ v S1, X0 = some (v, S1) → Con (lOf Γ) y bytes maxL retY frY loY [.ref b] S (rJ v) S1) (hrm : RmOK fr lo frY loY maxL) (hst : (st.map fun v => v.category).sum ≤ 8) (hd : decode cc pc = .ok (.invokevirtual idx, 3)) (k : ∀ v S1, Sim cc own fr lo ret isI Γ ι (K v S1) S1 (pc + 3) L (.long v :: st)) : Sim cc own fr lo ret isI Γ ι (bd (calT S b X0) K) S pc L (.ref b :: st) := s_callT (ιb := rJ) [] mk hcy rfl hrm hst hc hd k
theorem s_cT0A {y : MethodName} {bytes : ByteArray} {maxL idx frY loY : Nat} {retY : Option FieldType} {X0 : Option (Nat × Mem)} {K : Nat → Mem → Option (α × Mem)} {b : Nat} (mk : MKV own idx y bytes maxL retY 0) (hcy : y.cls = "java/lang/String") (hc : ∀ v S1, X0 = some (v, S1) → Con (lOf Γ) y bytes maxL retY frY loY [.ref b] S (rA v) S1) (hrm : RmOK fr lo frY loY maxL) (hst : (st.map fun v => v.category).sum ≤ 8) (hd : decode cc pc = .ok (.invokevirtual idx, 3)) (k : ∀ v S1, Sim cc own fr lo ret isI Γ ι (K v S1) S1 (pc + 3) L (.ref v :: st)) : Sim cc own fr lo ret isI Γ ι (bd (calT S b X0) K) S pc L (.ref b :: st) := s_callT (ιb := rA) [] mk hcy rfl hrm hst hc hd k
theorem s_cT0V {y : MethodName} {bytes : ByteArray} {maxL idx frY loY : Nat} {retY : Option FieldType} {X0 : Option (Unit × Mem)} {K : Unit → Mem → Option (α × Mem)} {b : Nat} (mk : MKV own idx y bytes maxL retY 0) (hcy : y.cls = "java/lang/String") (hc : ∀ v S1, X0 = some (v, S1) → Con (lOf Γ) y bytes maxL retY frY loY [.ref b] S (rV v) S1) (hrm : RmOK fr lo frY loY maxL) (hst : (st.map fun v => v.category).sum ≤ 8) (hd : decode cc pc = .ok (.invokevirtual idx, 3)) (k : ∀ v S1, Sim cc own fr lo ret isI Γ ι (K v S1) S1 (pc + 3) L (st)) : Sim cc own fr lo ret isI Γ ι (bd (calT S b X0) K) S pc L (.ref b :: st) := s_callT (ιb := rV) [] mk hcy rfl hrm hst hc hd k
theorem s_cT1I {y : MethodName} {bytes : ByteArray} {maxL idx frY loY : Nat} {retY : Option FieldType} {X0 : Option (Int32 × Mem)} {K : Int32 → Mem → Option (α × Mem)} {b : Nat} {a1 : Value} (mk : MKV own idx y bytes maxL retY 1) (hcy : y.cls = "java/lang/String") (hc : ∀ v S1, X0 = some (v, S1) → Con (lOf Γ) y bytes maxL retY frY loY [.ref b, a1] S (rI v) S1) (hrm : RmOK fr lo frY loY maxL) (hst : (st.map fun v => v.category).sum ≤ 8) (hd : decode cc pc = .ok (.invokevirtual idx, 3)) (k : ∀ v S1, Sim cc own fr lo ret isI Γ ι (K v S1) S1 (pc + 3) L (.int v :: st)) : Sim cc own fr lo ret isI Γ ι (bd (calT S b X0) K) S pc L (a1 :: .ref b :: st) := s_callT (ιb := rI) [a1] mk hcy rfl hrm hst hc hd k
theorem s_cT1J {y : MethodName} {bytes : ByteArray} {maxL idx frY loY : Nat} {retY : Option FieldType} {X0 : Option (Int64 × Mem)} {K : Int64 → Mem → Option (α × Mem)} {b : Nat} {a1 : Value} (mk : MKV own idx y bytes maxL retY 1) (hcy : y.cls = "java/lang/String") (hc : ∀ v S1, X0 = some (v, S1) → Con (lOf Γ) y bytes maxL retY frY loY [.ref b, a1] S (rJ v) S1) (hrm : RmOK fr lo frY loY maxL) (hst : (st.map fun v => v.category).sum ≤ 8) (hd : decode cc pc = .ok (.invokevirtual idx, 3)) (k : ∀ v S1, Sim cc own fr lo ret isI Γ ι (K v S1) S1 (pc + 3) L (.long v :: st)) : Sim cc own fr lo ret isI Γ ι (bd (calT S b X0) K) S pc L (a1 :: .ref b :: st) := s_callT (ιb := rJ) [a1] mk hcy rfl hrm hst hc hd k
theorem s_cT1A {y : MethodName} {bytes : ByteArray} {maxL idx frY loY : Nat} {retY : Option FieldType} {X0 : Option (Nat × Mem)} {K : Nat → Mem → Option (α × Mem)} {b : Nat} {a1 : Value} (mk : MKV own idx y bytes maxL retY 1) (hcy : y.cls = "java/lang/String") (hc : ∀ v S1, X0 = some (v, S1) → Con (lOf Γ) y bytes maxL retY frY loY [.ref b, a1] S (rA v) S1) (hrm : RmOK fr lo frY loY maxL) (hst : (st.map fun v => v.category).sum ≤ 8) (hd : decode cc pc = .ok (.invokevirtual idx, 3)) (k : ∀ v S1, Sim cc own fr lo ret isI Γ ι (K v S1) S1 (pc + 3) L (.ref v :: st)) : Sim cc own fr lo ret isI Γ ι (bd (calT S b X0) K) S pc L (a1 :: .ref b :: st) := s_callT (ιb := rA) [a1] mk hcy rfl hrm hst hc hd k
theorem s_cT1V {y : MethodName} {bytes : ByteArray} {maxL idx frY loY : Nat} {retY : Option FieldType} {X0 : Option (Unit × Mem)} {K : Unit → Mem → Option (α × Mem)} {b : Nat} {a1 : Value} (mk : MKV own idx y bytes maxL retY 1) (hcy : y.cls = "java/lang/String") (hc : ∀ v S1, X0 = some (v, S1) → Con (lOf Γ) y bytes maxL retY frY loY [.ref b, a1] S (rV v) S1) (hrm : RmOK fr lo frY loY maxL) (hst : (st.map fun v => v.category).sum ≤ 8) (hd : decode cc pc = .ok (.invokevirtual idx, 3)) (k : ∀ v S1, Sim cc own fr lo ret isI Γ ι (K v S1) S1 (pc + 3) L (st)) : Sim cc own fr lo ret isI Γ ι (bd (calT S b X0) K) S pc L (a1 :: .ref b :: st) := s_callT (ιb := rV) [a1] mk hcy rfl hrm hst hc hd k
theorem s_cS0I {y : MethodName} {bytes : ByteArray} {maxL idx frY loY : Nat} {retY : Option FieldType} {X0 : Option (Int32 × Mem)} {K : Int32 → Mem → Option (α × Mem)} (mk : MKS own idx y bytes maxL retY 0) (hc : ∀ v S1, X0 = some (v, S1) → Con (lOf Γ) y bytes maxL retY frY loY [] S (rI v) S1) (hrm : RmOK fr lo frY loY maxL) (hst : (st.map fun v => v.category).sum ≤ 8) (hd : decode cc pc = .ok (.invokestatic idx, 3)) (k : ∀ v S1, Sim cc own fr lo ret isI Γ ι (K v S1) S1 (pc + 3) L (.int v :: st)) : Sim cc own fr lo ret isI Γ ι (bd (X0) K) S pc L (st) := s_callS (ιb := rI) [] mk rfl hrm hst hc hd k
theorem s_cS0J {y : MethodName} {bytes : ByteArray} {maxL idx frY loY : Nat} {retY : Option FieldType} {X0 : Option (Int64 × Mem)} {K : Int64 → Mem → Option (α × Mem)} (mk : MKS own idx y bytes maxL retY 0) (hc : ∀ v S1, X0 = some (v, S1) → Con (lOf Γ) y bytes maxL retY frY loY [] S (rJ v) S1) (hrm : RmOK fr lo frY loY maxL) (hst : (st.map fun v => v.category).sum ≤ 8) (hd : decode cc pc = .ok (.invokestatic idx, 3)) (k : ∀ v S1, Sim cc own fr lo ret isI Γ ι (K v S1) S1 (pc + 3) L (.long v :: st)) : Sim cc own fr lo ret isI Γ ι (bd (X0) K) S pc L (st) := s_callS (ιb := rJ) [] mk rfl hrm hst hc hd k
theorem s_cS0A {y : MethodName} {bytes : ByteArray} {maxL idx frY loY : Nat} {retY : Option FieldType} {X0 : Option (Nat × Mem)} {K : Nat → Mem → Option (α × Mem)} (mk : MKS own idx y bytes maxL retY 0) (hc : ∀ v S1, X0 = some (v, S1) → Con (lOf Γ) y bytes maxL retY frY loY [] S (rA v) S1) (hrm : RmOK fr lo frY loY maxL) (hst : (st.map fun v => v.category).sum ≤ 8) (hd : decode cc pc = .ok (.invokestatic idx, 3)) (k : ∀ v S1, Sim cc own fr lo ret isI Γ ι (K v S1) S1 (pc + 3) L (.ref v :: st)) : Sim cc own fr lo ret isI Γ ι (bd (X0) K) S pc L (st) := s_callS (ιb := rA) [] mk rfl hrm hst hc hd k
theorem s_cS0V {y : MethodName} {bytes : ByteArray} {maxL idx frY loY : Nat} {retY : Option FieldType} {X0 : Option (Unit × Mem)} {K : Unit → Mem → Option (α × Mem)} (mk : MKS own idx y bytes maxL retY 0) (hc : ∀ v S1, X0 = some (v, S1) → Con (lOf Γ) y bytes maxL retY frY loY [] S (rV v) S1) (hrm : RmOK fr lo frY loY maxL) (hst : (st.map fun v => v.category).sum ≤ 8) (hd : decode cc pc = .ok (.invokestatic idx, 3)) (k : ∀ v S1, Sim cc own fr lo ret isI Γ ι (K v S1) S1 (pc + 3) L (st)) : Sim cc own fr lo ret isI Γ ι (bd (X0) K) S pc L (st) := s_callS (ιb := rV) [] mk rfl hrm hst hc hd k
theorem s_cS1I {y : MethodName} {bytes : ByteArray} {maxL idx frY loY : Nat} {retY : Option FieldType} {X0 : Option (Int32 × Mem)} {K : Int32 → Mem → Option (α × Mem)} {a1 : Value} (mk : MKS own idx y bytes maxL retY 1) (hc : ∀ v S1, X0 = some (v, S1) → Con (lOf Γ) y bytes maxL retY frY loY [a1] S (rI v) S1) (hrm : RmOK fr lo frY loY maxL) (hst : (st.map fun v => v.category).sum ≤ 8) (hd : decode cc pc = .ok (.invokestatic idx, 3)) (k : ∀ v S1, Sim cc own fr lo ret isI Γ ι (K v S1) S1 (pc + 3) L (.int v :: st)) : Sim cc own fr lo ret isI Γ ι (bd (X0) K) S pc L (a1 :: st) := s_callS (ιb := rI) [a1] mk rfl hrm hst hc hd k
theorem s_cS1J {y : MethodName} {bytes : ByteArray} {maxL idx frY loY : Nat} {retY : Option FieldType} {X0 : Option (Int64 × Mem)} {K : Int64 → Mem → Option (α × Mem)} {a1 : Value} (mk : MKS own idx y bytes maxL retY 1) (hc : ∀ v S1, X0 = some (v, S1) → Con (lOf Γ) y bytes maxL retY frY loY [a1] S (rJ v) S1) (hrm : RmOK fr lo frY loY maxL) (hst : (st.map fun v => v.category).sum ≤ 8) (hd : decode cc pc = .ok (.invokestatic idx, 3)) (k : ∀ v S1, Sim cc own fr lo ret isI Γ ι (K v S1) S1 (pc + 3) L (.long v :: st)) : Sim cc own fr lo ret isI Γ ι (bd (X0) K) S pc L (a1 :: st) := s_callS (ιb := rJ) [a1] mk rfl hrm hst hc hd k
theorem s_cS1A {y : MethodName} {bytes : ByteArray} {maxL idx frY loY : Nat} {retY : Option FieldType} {X0 : Option (Nat × Mem)} {K : Nat → Mem → Option (α × Mem)} {a1 : Value} (mk : MKS own idx y bytes maxL retY 1) (hc : ∀ v S1, X0 = some (v, S1) → Con (lOf Γ) y bytes maxL retY frY loY [a1] S (rA v) S1) (hrm : RmOK fr lo frY loY maxL) (hst : (st.map fun v => v.category).sum ≤ 8) (hd : decode cc pc = .ok (.invokestatic idx, 3)) (k : ∀ v S1, Sim cc own fr lo ret isI Γ ι (K v S1) S1 (pc + 3) L (.ref v :: st)) : Sim cc own fr lo ret isI Γ ι (bd (X0) K) S pc L (a1 :: st) := s_callS (ιb := rA) [a1] mk rfl hrm hst hc hd k
theorem s_cS1V {y : MethodName} {bytes : ByteArray} {maxL idx frY loY : Nat} {retY : Option FieldType} {X0 : Option (Unit × Mem)} {K : Unit → Mem → Option (α × Mem)} {a1 : Value} (mk : MKS own idx y bytes maxL retY 1) (hc : ∀ v S1, X0 = some (v, S1) → Con (lOf Γ) y bytes maxL retY frY loY [a1] S (rV v) S1) (hrm : RmOK fr lo frY loY maxL) (hst : (st.map fun v => v.category).sum ≤ 8) (hd : decode cc pc = .ok (.invokestatic idx, 3)) (k : ∀ v S1, Sim cc own fr lo ret isI Γ ι (K v S1) S1 (pc + 3) L (st)) : Sim cc own fr lo ret isI Γ ι (bd (X0) K) S pc L (a1 :: st) := s_callS (ιb := rV) [a1] mk rfl hrm hst hc hd k
theorem s_cS2I {y : MethodName} {bytes : ByteArray} {maxL idx frY loY : Nat} {retY : Option FieldType} {X0 : Option (Int32 × Mem)} {K : Int32 → Mem → Option (α × Mem)} {a1 a2 : Value} (mk : MKS own idx y bytes maxL retY 2) (hc : ∀ v S1, X0 = some (v, S1) → Con (lOf Γ) y bytes maxL retY frY loY [a1, a2] S (rI v) S1) (hrm : RmOK fr lo frY loY maxL) (hst : (st.map fun v => v.category).sum ≤ 8) (hd : decode cc pc = .ok (.invokestatic idx, 3)) (k : ∀ v S1, Sim cc own fr lo ret isI Γ ι (K v S1) S1 (pc + 3) L (.int v :: st)) : Sim cc own fr lo ret isI Γ ι (bd (X0) K) S pc L (a2 :: a1 :: st) := s_callS (ιb := rI) [a1, a2] mk rfl hrm hst hc hd k
theorem s_cS2J {y : MethodName} {bytes : ByteArray} {maxL idx frY loY : Nat} {retY : Option FieldType} {X0 : Option (Int64 × Mem)} {K : Int64 → Mem → Option (α × Mem)} {a1 a2 : Value} (mk : MKS own idx y bytes maxL retY 2) (hc : ∀ v S1, X0 = some (v, S1) → Con (lOf Γ) y bytes maxL retY frY loY [a1, a2] S (rJ v) S1) (hrm : RmOK fr lo frY loY maxL) (hst : (st.map fun v => v.category).sum ≤ 8) (hd : decode cc pc = .ok (.invokestatic idx, 3)) (k : ∀ v S1, Sim cc own fr lo ret isI Γ ι (K v S1) S1 (pc + 3) L (.long v :: st)) : Sim cc own fr lo ret isI Γ ι (bd (X0) K) S pc L (a2 :: a1 :: st) := s_callS (ιb := rJ) [a1, a2] mk rfl hrm hst hc hd k
theorem s_cS2A {y : MethodName} {bytes : ByteArray} {maxL idx frY loY : Nat} {retY : Option FieldType} {X0 : Option (Nat × Mem)} {K : Nat → Mem → Option (α × Mem)} {a1 a2 : Value} (mk : MKS own idx y bytes maxL retY 2) (hc : ∀ v S1, X0 = some (v, S1) → Con (lOf Γ) y bytes maxL retY frY loY [a1, a2] S (rA v) S1) (hrm : RmOK fr lo frY loY maxL) (hst : (st.map fun v => v.category).sum ≤ 8) (hd : decode cc pc = .ok (.invokestatic idx, 3)) (k : ∀ v S1, Sim cc own fr lo ret isI Γ ι (K v S1) S1 (pc + 3) L (.ref v :: st)) : Sim cc own fr lo ret isI Γ ι (bd (X0) K) S pc L (a2 :: a1 :: st) := s_callS (ιb := rA) [a1, a2] mk rfl hrm hst hc hd k
theorem s_cS2V {y : MethodName} {bytes : ByteArray} {maxL idx frY loY : Nat} {retY : Option FieldType} {X0 : Option (Unit × Mem)} {K : Unit → Mem → Option (α × Mem)} {a1 a2 : Value} (mk : MKS own idx y bytes maxL retY 2) (hc : ∀ v S1, X0 = some (v, S1) → Con (lOf Γ) y bytes maxL retY frY loY [a1, a2] S (rV v) S1) (hrm : RmOK fr lo frY loY maxL) (hst : (st.map fun v => v.category).sum ≤ 8) (hd : decode cc pc = .ok (.invokestatic idx, 3)) (k : ∀ v S1, Sim cc own fr lo ret isI Γ ι (K v S1) S1 (pc + 3) L (st)) : Sim cc own fr lo ret isI Γ ι (bd (X0) K) S pc L (a2 :: a1 :: st) := s_callS (ιb := rV) [a1, a2] mk rfl hrm hst hc hd k
theorem s_cS3I {y : MethodName} {bytes : ByteArray} {maxL idx frY loY : Nat} {retY : Option FieldType} {X0 : Option (Int32 × Mem)} {K : Int32 → Mem → Option (α × Mem)} {a1 a2 a3 : Value} (mk : MKS own idx y bytes maxL retY 3) (hc : ∀ v S1, X0 = some (v, S1) → Con (lOf Γ) y bytes maxL retY frY loY [a1, a2, a3] S (rI v) S1) (hrm : RmOK fr lo frY loY maxL) (hst : (st.map fun v => v.category).sum ≤ 8) (hd : decode cc pc = .ok (.invokestatic idx, 3)) (k : ∀ v S1, Sim cc own fr lo ret isI Γ ι (K v S1) S1 (pc + 3) L (.int v :: st)) : Sim cc own fr lo ret isI Γ ι (bd (X0) K) S pc L (a3 :: a2 :: a1 :: st) := s_callS (ιb := rI) [a1, a2, a3] mk rfl hrm hst hc hd k
theorem s_cS3J {y : MethodName} {bytes : ByteArray} {maxL idx frY loY : Nat} {retY : Option FieldType} {X0 : Option (Int64 × Mem)} {K : Int64 → Mem → Option (α × Mem)} {a1 a2 a3 : Value} (mk : MKS own idx y bytes maxL retY 3) (hc : ∀ v S1, X0 = some (v, S1) → Con (lOf Γ) y bytes maxL retY frY loY [a1, a2, a3] S (rJ v) S1) (hrm : RmOK fr lo frY loY maxL) (hst : (st.map fun v => v.category).sum ≤ 8) (hd : decode cc pc = .ok (.invokestatic idx, 3)) (k : ∀ v S1, Sim cc own fr lo ret isI Γ ι (K v S1) S1 (pc + 3) L (.long v :: st)) : Sim cc own fr lo ret isI Γ ι (bd (X0) K) S pc L (a3 :: a2 :: a1 :: st) := s_callS (ιb := rJ) [a1, a2, a3] mk rfl hrm hst hc hd k
theorem s_cS3A {y : MethodName} {bytes : ByteArray} {maxL idx frY loY : Nat} {retY : Option FieldType} {X0 : Option (Nat × Mem)} {K : Nat → Mem → Option (α × Mem)} {a1 a2 a3 : Value} (mk : MKS own idx y bytes maxL retY 3) (hc : ∀ v S1, X0 = some (v, S1) → Con (lOf Γ) y bytes maxL retY frY loY [a1, a2, a3] S (rA v) S1) (hrm : RmOK fr lo frY loY maxL) (hst : (st.map fun v => v.category).sum ≤ 8) (hd : decode cc pc = .ok (.invokestatic idx, 3)) (k : ∀ v S1, Sim cc own fr lo ret isI Γ ι (K v S1) S1 (pc + 3) L (.ref v :: st)) : Sim cc own fr lo ret isI Γ ι (bd (X0) K) S pc L (a3 :: a2 :: a1 :: st) := s_callS (ιb := rA) [a1, a2, a3] mk rfl hrm hst hc hd k
theorem s_cS3V {y : MethodName} {bytes : ByteArray} {maxL idx frY loY : Nat} {retY : Option FieldType} {X0 : Option (Unit × Mem)} {K : Unit → Mem → Option (α × Mem)} {a1 a2 a3 : Value} (mk : MKS own idx y bytes maxL retY 3) (hc : ∀ v S1, X0 = some (v, S1) → Con (lOf Γ) y bytes maxL retY frY loY [a1, a2, a3] S (rV v) S1) (hrm : RmOK fr lo frY loY maxL) (hst : (st.map fun v => v.category).sum ≤ 8) (hd : decode cc pc = .ok (.invokestatic idx, 3)) (k : ∀ v S1, Sim cc own fr lo ret isI Γ ι (K v S1) S1 (pc + 3) L (st)) : Sim cc own fr lo ret isI Γ ι (bd (X0) K) S pc L (a3 :: a2 :: a1 :: st) := s_callS (ιb := rV) [a1, a2, a3] mk rfl hrm hst hc hd k
theorem s_cS4I {y : MethodName} {bytes : ByteArray} {maxL idx frY loY : Nat} {retY : Option FieldType} {X0 : Option (Int32 × Mem)} {K : Int32 → Mem → Option (α × Mem)} {a1 a2 a3 a4 : Value} (mk : MKS own idx y bytes maxL retY 4) (hc : ∀ v S1, X0 = some (v, S1) → Con (lOf Γ) y bytes maxL retY frY loY [a1, a2, a3, a4] S (rI v) S1) (hrm : RmOK fr lo frY loY maxL) (hst : (st.map fun v => v.category).sum ≤ 8) (hd : decode cc pc = .ok (.invokestatic idx, 3)) (k : ∀ v S1, Sim cc own fr lo ret isI Γ ι (K v S1) S1 (pc + 3) L (.int v :: st)) : Sim cc own fr lo ret isI Γ ι (bd (X0) K) S pc L (a4 :: a3 :: a2 :: a1 :: st) := s_callS (ιb := rI) [a1, a2, a3, a4] mk rfl hrm hst hc hd k
theorem s_cS4J {y : MethodName} {bytes : ByteArray} {maxL idx frY loY : Nat} {retY : Option FieldType} {X0 : Option (Int64 × Mem)} {K : Int64 → Mem → Option (α × Mem)} {a1 a2 a3 a4 : Value} (mk : MKS own idx y bytes maxL retY 4) (hc : ∀ v S1, X0 = some (v, S1) → Con (lOf Γ) y bytes maxL retY frY loY [a1, a2, a3, a4] S (rJ v) S1) (hrm : RmOK fr lo frY loY maxL) (hst : (st.map fun v => v.category).sum ≤ 8) (hd : decode cc pc = .ok (.invokestatic idx, 3)) (k : ∀ v S1, Sim cc own fr lo ret isI Γ ι (K v S1) S1 (pc + 3) L (.long v :: st)) : Sim cc own fr lo ret isI Γ ι (bd (X0) K) S pc L (a4 :: a3 :: a2 :: a1 :: st) := s_callS (ιb := rJ) [a1, a2, a3, a4] mk rfl hrm hst hc hd k
theorem s_cS4A {y : MethodName} {bytes : ByteArray} {maxL idx frY loY : Nat} {retY : Option FieldType} {X0 : Option (Nat × Mem)} {K : Nat → Mem → Option (α × Mem)} {a1 a2 a3 a4 : Value} (mk : MKS own idx y bytes maxL retY 4) (hc : ∀ v S1, X0 = some (v, S1) → Con (lOf Γ) y bytes maxL retY frY loY [a1, a2, a3, a4] S (rA v) S1) (hrm : RmOK fr lo frY loY maxL) (hst : (st.map fun v => v.category).sum ≤ 8) (hd : decode cc pc = .ok (.invokestatic idx, 3)) (k : ∀ v S1, Sim cc own fr lo ret isI Γ ι (K v S1) S1 (pc + 3) L (.ref v :: st)) : Sim cc own fr lo ret isI Γ ι (bd (X0) K) S pc L (a4 :: a3 :: a2 :: a1 :: st) := s_callS (ιb := rA) [a1, a2, a3, a4] mk rfl hrm hst hc hd k
theorem s_cS4V {y : MethodName} {bytes : ByteArray} {maxL idx frY loY : Nat} {retY : Option FieldType} {X0 : Option (Unit × Mem)} {K : Unit → Mem → Option (α × Mem)} {a1 a2 a3 a4 : Value} (mk : MKS own idx y bytes maxL retY 4) (hc : ∀ v S1, X0 = some (v, S1) → Con (lOf Γ) y bytes maxL retY frY loY [a1, a2, a3, a4] S (rV v) S1) (hrm : RmOK fr lo frY loY maxL) (hst : (st.map fun v => v.category).sum ≤ 8) (hd : decode cc pc = .ok (.invokestatic idx, 3)) (k : ∀ v S1, Sim cc own fr lo ret isI Γ ι (K v S1) S1 (pc + 3) L (st)) : Sim cc own fr lo ret isI Γ ι (bd (X0) K) S pc L (a4 :: a3 :: a2 :: a1 :: st) := s_callS (ιb := rV) [a1, a2, a3, a4] mk rfl hrm hst hc hd k
theorem s_cS5I {y : MethodName} {bytes : ByteArray} {maxL idx frY loY : Nat} {retY : Option FieldType} {X0 : Option (Int32 × Mem)} {K : Int32 → Mem → Option (α × Mem)} {a1 a2 a3 a4 a5 : Value} (mk : MKS own idx y bytes maxL retY 5) (hc : ∀ v S1, X0 = some (v, S1) → Con (lOf Γ) y bytes maxL retY frY loY [a1, a2, a3, a4, a5] S (rI v) S1) (hrm : RmOK fr lo frY loY maxL) (hst : (st.map fun v => v.category).sum ≤ 8) (hd : decode cc pc = .ok (.invokestatic idx, 3)) (k : ∀ v S1, Sim cc own fr lo ret isI Γ ι (K v S1) S1 (pc + 3) L (.int v :: st)) : Sim cc own fr lo ret isI Γ ι (bd (X0) K) S pc L (a5 :: a4 :: a3 :: a2 :: a1 :: st) := s_callS (ιb := rI) [a1, a2, a3, a4, a5] mk rfl hrm hst hc hd k
theorem s_cS5J {y : MethodName} {bytes : ByteArray} {maxL idx frY loY : Nat} {retY : Option FieldType} {X0 : Option (Int64 × Mem)} {K : Int64 → Mem → Option (α × Mem)} {a1 a2 a3 a4 a5 : Value} (mk : MKS own idx y bytes maxL retY 5) (hc : ∀ v S1, X0 = some (v, S1) → Con (lOf Γ) y bytes maxL retY frY loY [a1, a2, a3, a4, a5] S (rJ v) S1) (hrm : RmOK fr lo frY loY maxL) (hst : (st.map fun v => v.category).sum ≤ 8) (hd : decode cc pc = .ok (.invokestatic idx, 3)) (k : ∀ v S1, Sim cc own fr lo ret isI Γ ι (K v S1) S1 (pc + 3) L (.long v :: st)) : Sim cc own fr lo ret isI Γ ι (bd (X0) K) S pc L (a5 :: a4 :: a3 :: a2 :: a1 :: st) := s_callS (ιb := rJ) [a1, a2, a3, a4, a5] mk rfl hrm hst hc hd k
theorem s_cS5A {y : MethodName} {bytes : ByteArray} {maxL idx frY loY : Nat} {retY : Option FieldType} {X0 : Option (Nat × Mem)} {K : Nat → Mem → Option (α × Mem)} {a1 a2 a3 a4 a5 : Value} (mk : MKS own idx y bytes maxL retY 5) (hc : ∀ v S1, X0 = some (v, S1) → Con (lOf Γ) y bytes maxL retY frY loY [a1, a2, a3, a4, a5] S (rA v) S1) (hrm : RmOK fr lo frY loY maxL) (hst : (st.map fun v => v.category).sum ≤ 8) (hd : decode cc pc = .ok (.invokestatic idx, 3)) (k : ∀ v S1, Sim cc own fr lo ret isI Γ ι (K v S1) S1 (pc + 3) L (.ref v :: st)) : Sim cc own fr lo ret isI Γ ι (bd (X0) K) S pc L (a5 :: a4 :: a3 :: a2 :: a1 :: st) := s_callS (ιb := rA) [a1, a2, a3, a4, a5] mk rfl hrm hst hc hd k
theorem s_cS5V {y : MethodName} {bytes : ByteArray} {maxL idx frY loY : Nat} {retY : Option FieldType} {X0 : Option (Unit × Mem)} {K : Unit → Mem → Option (α × Mem)} {a1 a2 a3 a4 a5 : Value} (mk : MKS own idx y bytes maxL retY 5) (hc : ∀ v S1, X0 = some (v, S1) → Con (lOf Γ) y bytes maxL retY frY loY [a1, a2, a3, a4, a5] S (rV v) S1) (hrm : RmOK fr lo frY loY maxL) (hst : (st.map fun v => v.category).sum ≤ 8) (hd : decode cc pc = .ok (.invokestatic idx, 3)) (k : ∀ v S1, Sim cc own fr lo ret isI Γ ι (K v S1) S1 (pc + 3) L (st)) : Sim cc own fr lo ret isI Γ ι (bd (X0) K) S pc L (a5 :: a4 :: a3 :: a2 :: a1 :: st) := s_callS (ιb := rV) [a1, a2, a3, a4, a5] mk rfl hrm hst hc hd k
theorem s_cSN0I {y : MethodName} {bytes : ByteArray} {maxL idx frY loY : Nat} {retY : Option FieldType} {X0 : Option (Int32 × Mem)} {K : Int32 → Mem → Option (α × Mem)} (mk : MKSN own idx y bytes maxL retY 0) (hc : ∀ v S1, X0 = some (v, S1) → Con (lOf Γ) y bytes maxL retY frY loY [] S (rI v) S1) (hrm : RmOK fr lo frY loY maxL) (hst : (st.map fun v => v.category).sum ≤ 8) (hd : decode cc pc = .ok (.invokestatic idx, 3)) (k : ∀ v S1, Sim cc own fr lo ret isI Γ ι (K v S1) S1 (pc + 3) L (.int v :: st)) : Sim cc own fr lo ret isI Γ ι (bd (X0) K) S pc L (st) := s_callSN (ιb := rI) [] mk rfl hrm hst hc hd k
theorem s_cSN0J {y : MethodName} {bytes : ByteArray} {maxL idx frY loY : Nat} {retY : Option FieldType} {X0 : Option (Int64 × Mem)} {K : Int64 → Mem → Option (α × Mem)} (mk : MKSN own idx y bytes maxL retY 0) (hc : ∀ v S1, X0 = some (v, S1) → Con (lOf Γ) y bytes maxL retY frY loY [] S (rJ v) S1) (hrm : RmOK fr lo frY loY maxL) (hst : (st.map fun v => v.category).sum ≤ 8) (hd : decode cc pc = .ok (.invokestatic idx, 3)) (k : ∀ v S1, Sim cc own fr lo ret isI Γ ι (K v S1) S1 (pc + 3) L (.long v :: st)) : Sim cc own fr lo ret isI Γ ι (bd (X0) K) S pc L (st) := s_callSN (ιb := rJ) [] mk rfl hrm hst hc hd k
theorem s_cSN0A {y : MethodName} {bytes : ByteArray} {maxL idx frY loY : Nat} {retY : Option FieldType} {X0 : Option (Nat × Mem)} {K : Nat → Mem → Option (α × Mem)} (mk : MKSN own idx y bytes maxL retY 0) (hc : ∀ v S1, X0 = some (v, S1) → Con (lOf Γ) y bytes maxL retY frY loY [] S (rA v) S1) (hrm : RmOK fr lo frY loY maxL) (hst : (st.map fun v => v.category).sum ≤ 8) (hd : decode cc pc = .ok (.invokestatic idx, 3)) (k : ∀ v S1, Sim cc own fr lo ret isI Γ ι (K v S1) S1 (pc + 3) L (.ref v :: st)) : Sim cc own fr lo ret isI Γ ι (bd (X0) K) S pc L (st) := s_callSN (ιb := rA) [] mk rfl hrm hst hc hd k
theorem s_cSN0V {y : MethodName} {bytes : ByteArray} {maxL idx frY loY : Nat} {retY : Option FieldType} {X0 : Option (Unit × Mem)} {K : Unit → Mem → Option (α × Mem)} (mk : MKSN own idx y bytes maxL retY 0) (hc : ∀ v S1, X0 = some (v, S1) → Con (lOf Γ) y bytes maxL retY frY loY [] S (rV v) S1) (hrm : RmOK fr lo frY loY maxL) (hst : (st.map fun v => v.category).sum ≤ 8) (hd : decode cc pc = .ok (.invokestatic idx, 3)) (k : ∀ v S1, Sim cc own fr lo ret isI Γ ι (K v S1) S1 (pc + 3) L (st)) : Sim cc own fr lo ret isI Γ ι (bd (X0) K) S pc L (st) := s_callSN (ιb := rV) [] mk rfl hrm hst hc hd k
theorem s_cSN1I {y : MethodName} {bytes : ByteArray} {maxL idx frY loY : Nat} {retY : Option FieldType} {X0 : Option (Int32 × Mem)} {K : Int32 → Mem → Option (α × Mem)} {a1 : Value} (mk : MKSN own idx y bytes maxL retY 1) (hc : ∀ v S1, X0 = some (v, S1) → Con (lOf Γ) y bytes maxL retY frY loY [a1] S (rI v) S1) (hrm : RmOK fr lo frY loY maxL) (hst : (st.map fun v => v.category).sum ≤ 8) (hd : decode cc pc = .ok (.invokestatic idx, 3)) (k : ∀ v S1, Sim cc own fr lo ret isI Γ ι (K v S1) S1 (pc + 3) L (.int v :: st)) : Sim cc own fr lo ret isI Γ ι (bd (X0) K) S pc L (a1 :: st) := s_callSN (ιb := rI) [a1] mk rfl hrm hst hc hd k
theorem s_cSN1J {y : MethodName} {bytes : ByteArray} {maxL idx frY loY : Nat} {retY : Option FieldType} {X0 : Option (Int64 × Mem)} {K : Int64 → Mem → Option (α × Mem)} {a1 : Value} (mk : MKSN own idx y bytes maxL retY 1) (hc : ∀ v S1, X0 = some (v, S1) → Con (lOf Γ) y bytes maxL retY frY loY [a1] S (rJ v) S1) (hrm : RmOK fr lo frY loY maxL) (hst : (st.map fun v => v.category).sum ≤ 8) (hd : decode cc pc = .ok (.invokestatic idx, 3)) (k : ∀ v S1, Sim cc own fr lo ret isI Γ ι (K v S1) S1 (pc + 3) L (.long v :: st)) : Sim cc own fr lo ret isI Γ ι (bd (X0) K) S pc L (a1 :: st) := s_callSN (ιb := rJ) [a1] mk rfl hrm hst hc hd k
theorem s_cSN1A {y : MethodName} {bytes : ByteArray} {maxL idx frY loY : Nat} {retY : Option FieldType} {X0 : Option (Nat × Mem)} {K : Nat → Mem → Option (α × Mem)} {a1 : Value} (mk : MKSN own idx y bytes maxL retY 1) (hc : ∀ v S1, X0 = some (v, S1) → Con (lOf Γ) y bytes maxL retY frY loY [a1] S (rA v) S1) (hrm : RmOK fr lo frY loY maxL) (hst : (st.map fun v => v.category).sum ≤ 8) (hd : decode cc pc = .ok (.invokestatic idx, 3)) (k : ∀ v S1, Sim cc own fr lo ret isI Γ ι (K v S1) S1 (pc + 3) L (.ref v :: st)) : Sim cc own fr lo ret isI Γ ι (bd (X0) K) S pc L (a1 :: st) := s_callSN (ιb := rA) [a1] mk rfl hrm hst hc hd k
theorem s_cSN1V {y : MethodName} {bytes : ByteArray} {maxL idx frY loY : Nat} {retY : Option FieldType} {X0 : Option (Unit × Mem)} {K : Unit → Mem → Option (α × Mem)} {a1 : Value} (mk : MKSN own idx y bytes maxL retY 1) (hc : ∀ v S1, X0 = some (v, S1) → Con (lOf Γ) y bytes maxL retY frY loY [a1] S (rV v) S1) (hrm : RmOK fr lo frY loY maxL) (hst : (st.map fun v => v.category).sum ≤ 8) (hd : decode cc pc = .ok (.invokestatic idx, 3)) (k : ∀ v S1, Sim cc own fr lo ret isI Γ ι (K v S1) S1 (pc + 3) L (st)) : Sim cc own fr lo ret isI Γ ι (bd (X0) K) S pc L (a1 :: st) := s_callSN (ιb := rV) [a1] mk rfl hrm hst hc hd k
theorem s_cSN2I {y : MethodName} {bytes : ByteArray} {maxL idx frY loY : Nat} {retY : Option FieldType} {X0 : Option (Int32 × Mem)} {K : Int32 → Mem → Option (α × Mem)} {a1 a2 : Value} (mk : MKSN own idx y bytes maxL retY 2) (hc : ∀ v S1, X0 = some (v, S1) → Con (lOf Γ) y bytes maxL retY frY loY [a1, a2] S (rI v) S1) (hrm : RmOK fr lo frY loY maxL) (hst : (st.map fun v => v.category).sum ≤ 8) (hd : decode cc pc = .ok (.invokestatic idx, 3)) (k : ∀ v S1, Sim cc own fr lo ret isI Γ ι (K v S1) S1 (pc + 3) L (.int v :: st)) : Sim cc own fr lo ret isI Γ ι (bd (X0) K) S pc L (a2 :: a1 :: st) := s_callSN (ιb := rI) [a1, a2] mk rfl hrm hst hc hd k
theorem s_cSN2J {y : MethodName} {bytes : ByteArray} {maxL idx frY loY : Nat} {retY : Option FieldType} {X0 : Option (Int64 × Mem)} {K : Int64 → Mem → Option (α × Mem)} {a1 a2 : Value} (mk : MKSN own idx y bytes maxL retY 2) (hc : ∀ v S1, X0 = some (v, S1) → Con (lOf Γ) y bytes maxL retY frY loY [a1, a2] S (rJ v) S1) (hrm : RmOK fr lo frY loY maxL) (hst : (st.map fun v => v.category).sum ≤ 8) (hd : decode cc pc = .ok (.invokestatic idx, 3)) (k : ∀ v S1, Sim cc own fr lo ret isI Γ ι (K v S1) S1 (pc + 3) L (.long v :: st)) : Sim cc own fr lo ret isI Γ ι (bd (X0) K) S pc L (a2 :: a1 :: st) := s_callSN (ιb := rJ) [a1, a2] mk rfl hrm hst hc hd k
theorem s_cSN2A {y : MethodName} {bytes : ByteArray} {maxL idx frY loY : Nat} {retY : Option FieldType} {X0 : Option (Nat × Mem)} {K : Nat → Mem → Option (α × Mem)} {a1 a2 : Value} (mk : MKSN own idx y bytes maxL retY 2) (hc : ∀ v S1, X0 = some (v, S1) → Con (lOf Γ) y bytes maxL retY frY loY [a1, a2] S (rA v) S1) (hrm : RmOK fr lo frY loY maxL) (hst : (st.map fun v => v.category).sum ≤ 8) (hd : decode cc pc = .ok (.invokestatic idx, 3)) (k : ∀ v S1, Sim cc own fr lo ret isI Γ ι (K v S1) S1 (pc + 3) L (.ref v :: st)) : Sim cc own fr lo ret isI Γ ι (bd (X0) K) S pc L (a2 :: a1 :: st) := s_callSN (ιb := rA) [a1, a2] mk rfl hrm hst hc hd k
theorem s_cSN2V {y : MethodName} {bytes : ByteArray} {maxL idx frY loY : Nat} {retY : Option FieldType} {X0 : Option (Unit × Mem)} {K : Unit → Mem → Option (α × Mem)} {a1 a2 : Value} (mk : MKSN own idx y bytes maxL retY 2) (hc : ∀ v S1, X0 = some (v, S1) → Con (lOf Γ) y bytes maxL retY frY loY [a1, a2] S (rV v) S1) (hrm : RmOK fr lo frY loY maxL) (hst : (st.map fun v => v.category).sum ≤ 8) (hd : decode cc pc = .ok (.invokestatic idx, 3)) (k : ∀ v S1, Sim cc own fr lo ret isI Γ ι (K v S1) S1 (pc + 3) L (st)) : Sim cc own fr lo ret isI Γ ι (bd (X0) K) S pc L (a2 :: a1 :: st) := s_callSN (ιb := rV) [a1, a2] mk rfl hrm hst hc hd k
theorem s_cSN3I {y : MethodName} {bytes : ByteArray} {maxL idx frY loY : Nat} {retY : Option FieldType} {X0 : Option (Int32 × Mem)} {K : Int32 → Mem → Option (α × Mem)} {a1 a2 a3 : Value} (mk : MKSN own idx y bytes maxL retY 3) (hc : ∀ v S1, X0 = some (v, S1) → Con (lOf Γ) y bytes maxL retY frY loY [a1, a2, a3] S (rI v) S1) (hrm : RmOK fr lo frY loY maxL) (hst : (st.map fun v => v.category).sum ≤ 8) (hd : decode cc pc = .ok (.invokestatic idx, 3)) (k : ∀ v S1, Sim cc own fr lo ret isI Γ ι (K v S1) S1 (pc + 3) L (.int v :: st)) : Sim cc own fr lo ret isI Γ ι (bd (X0) K) S pc L (a3 :: a2 :: a1 :: st) := s_callSN (ιb := rI) [a1, a2, a3] mk rfl hrm hst hc hd k
theorem s_cSN3J {y : MethodName} {bytes : ByteArray} {maxL idx frY loY : Nat} {retY : Option FieldType} {X0 : Option (Int64 × Mem)} {K : Int64 → Mem → Option (α × Mem)} {a1 a2 a3 : Value} (mk : MKSN own idx y bytes maxL retY 3) (hc : ∀ v S1, X0 = some (v, S1) → Con (lOf Γ) y bytes maxL retY frY loY [a1, a2, a3] S (rJ v) S1) (hrm : RmOK fr lo frY loY maxL) (hst : (st.map fun v => v.category).sum ≤ 8) (hd : decode cc pc = .ok (.invokestatic idx, 3)) (k : ∀ v S1, Sim cc own fr lo ret isI Γ ι (K v S1) S1 (pc + 3) L (.long v :: st)) : Sim cc own fr lo ret isI Γ ι (bd (X0) K) S pc L (a3 :: a2 :: a1 :: st) := s_callSN (ιb := rJ) [a1, a2, a3] mk rfl hrm hst hc hd k
theorem s_cSN3A {y : MethodName} {bytes : ByteArray} {maxL idx frY loY : Nat} {retY : Option FieldType} {X0 : Option (Nat × Mem)} {K : Nat → Mem → Option (α × Mem)} {a1 a2 a3 : Value} (mk : MKSN own idx y bytes maxL retY 3) (hc : ∀ v S1, X0 = some (v, S1) → Con (lOf Γ) y bytes maxL retY frY loY [a1, a2, a3] S (rA v) S1) (hrm : RmOK fr lo frY loY maxL) (hst : (st.map fun v => v.category).sum ≤ 8) (hd : decode cc pc = .ok (.invokestatic idx, 3)) (k : ∀ v S1, Sim cc own fr lo ret isI Γ ι (K v S1) S1 (pc + 3) L (.ref v :: st)) : Sim cc own fr lo ret isI Γ ι (bd (X0) K) S pc L (a3 :: a2 :: a1 :: st) := s_callSN (ιb := rA) [a1, a2, a3] mk rfl hrm hst hc hd k
theorem s_cSN3V {y : MethodName} {bytes : ByteArray} {maxL idx frY loY : Nat} {retY : Option FieldType} {X0 : Option (Unit × Mem)} {K : Unit → Mem → Option (α × Mem)} {a1 a2 a3 : Value} (mk : MKSN own idx y bytes maxL retY 3) (hc : ∀ v S1, X0 = some (v, S1) → Con (lOf Γ) y bytes maxL retY frY loY [a1, a2, a3] S (rV v) S1) (hrm : RmOK fr lo frY loY maxL) (hst : (st.map fun v => v.category).sum ≤ 8) (hd : decode cc pc = .ok (.invokestatic idx, 3)) (k : ∀ v S1, Sim cc own fr lo ret isI Γ ι (K v S1) S1 (pc + 3) L (st)) : Sim cc own fr lo ret isI Γ ι (bd (X0) K) S pc L (a3 :: a2 :: a1 :: st) := s_callSN (ιb := rV) [a1, a2, a3] mk rfl hrm hst hc hd k
theorem s_cSN4I {y : MethodName} {bytes : ByteArray} {maxL idx frY loY : Nat} {retY : Option FieldType} {X0 : Option (Int32 × Mem)} {K : Int32 → Mem → Option (α × Mem)} {a1 a2 a3 a4 : Value} (mk : MKSN own idx y bytes maxL retY 4) (hc : ∀ v S1, X0 = some (v, S1) → Con (lOf Γ) y bytes maxL retY frY loY [a1, a2, a3, a4] S (rI v) S1) (hrm : RmOK fr lo frY loY maxL) (hst : (st.map fun v => v.category).sum ≤ 8) (hd : decode cc pc = .ok (.invokestatic idx, 3)) (k : ∀ v S1, Sim cc own fr lo ret isI Γ ι (K v S1) S1 (pc + 3) L (.int v :: st)) : Sim cc own fr lo ret isI Γ ι (bd (X0) K) S pc L (a4 :: a3 :: a2 :: a1 :: st) := s_callSN (ιb := rI) [a1, a2, a3, a4] mk rfl hrm hst hc hd k
theorem s_cSN4J {y : MethodName} {bytes : ByteArray} {maxL idx frY loY : Nat} {retY : Option FieldType} {X0 : Option (Int64 × Mem)} {K : Int64 → Mem → Option (α × Mem)} {a1 a2 a3 a4 : Value} (mk : MKSN own idx y bytes maxL retY 4) (hc : ∀ v S1, X0 = some (v, S1) → Con (lOf Γ) y bytes maxL retY frY loY [a1, a2, a3, a4] S (rJ v) S1) (hrm : RmOK fr lo frY loY maxL) (hst : (st.map fun v => v.category).sum ≤ 8) (hd : decode cc pc = .ok (.invokestatic idx, 3)) (k : ∀ v S1, Sim cc own fr lo ret isI Γ ι (K v S1) S1 (pc + 3) L (.long v :: st)) : Sim cc own fr lo ret isI Γ ι (bd (X0) K) S pc L (a4 :: a3 :: a2 :: a1 :: st) := s_callSN (ιb := rJ) [a1, a2, a3, a4] mk rfl hrm hst hc hd k
theorem s_cSN4A {y : MethodName} {bytes : ByteArray} {maxL idx frY loY : Nat} {retY : Option FieldType} {X0 : Option (Nat × Mem)} {K : Nat → Mem → Option (α × Mem)} {a1 a2 a3 a4 : Value} (mk : MKSN own idx y bytes maxL retY 4) (hc : ∀ v S1, X0 = some (v, S1) → Con (lOf Γ) y bytes maxL retY frY loY [a1, a2, a3, a4] S (rA v) S1) (hrm : RmOK fr lo frY loY maxL) (hst : (st.map fun v => v.category).sum ≤ 8) (hd : decode cc pc = .ok (.invokestatic idx, 3)) (k : ∀ v S1, Sim cc own fr lo ret isI Γ ι (K v S1) S1 (pc + 3) L (.ref v :: st)) : Sim cc own fr lo ret isI Γ ι (bd (X0) K) S pc L (a4 :: a3 :: a2 :: a1 :: st) := s_callSN (ιb := rA) [a1, a2, a3, a4] mk rfl hrm hst hc hd k
theorem s_cSN4V {y : MethodName} {bytes : ByteArray} {maxL idx frY loY : Nat} {retY : Option FieldType} {X0 : Option (Unit × Mem)} {K : Unit → Mem → Option (α × Mem)} {a1 a2 a3 a4 : Value} (mk : MKSN own idx y bytes maxL retY 4) (hc : ∀ v S1, X0 = some (v, S1) → Con (lOf Γ) y bytes maxL retY frY loY [a1, a2, a3, a4] S (rV v) S1) (hrm : RmOK fr lo frY loY maxL) (hst : (st.map fun v => v.category).sum ≤ 8) (hd : decode cc pc = .ok (.invokestatic idx, 3)) (k : ∀ v S1, Sim cc own fr lo ret isI Γ ι (K v S1) S1 (pc + 3) L (st)) : Sim cc own fr lo ret isI Γ ι (bd (X0) K) S pc L (a4 :: a3 :: a2 :: a1 :: st) := s_callSN (ιb := rV) [a1, a2, a3, a4] mk rfl hrm hst hc hd k
theorem s_cSN5I {y : MethodName} {bytes : ByteArray} {maxL idx frY loY : Nat} {retY : Option FieldType} {X0 : Option (Int32 × Mem)} {K : Int32 → Mem → Option (α × Mem)} {a1 a2 a3 a4 a5 : Value} (mk : MKSN own idx y bytes maxL retY 5) (hc : ∀ v S1, X0 = some (v, S1) → Con (lOf Γ) y bytes maxL retY frY loY [a1, a2, a3, a4, a5] S (rI v) S1) (hrm : RmOK fr lo frY loY maxL) (hst : (st.map fun v => v.category).sum ≤ 8) (hd : decode cc pc = .ok (.invokestatic idx, 3)) (k : ∀ v S1, Sim cc own fr lo ret isI Γ ι (K v S1) S1 (pc + 3) L (.int v :: st)) : Sim cc own fr lo ret isI Γ ι (bd (X0) K) S pc L (a5 :: a4 :: a3 :: a2 :: a1 :: st) := s_callSN (ιb := rI) [a1, a2, a3, a4, a5] mk rfl hrm hst hc hd k
theorem s_cSN5J {y : MethodName} {bytes : ByteArray} {maxL idx frY loY : Nat} {retY : Option FieldType} {X0 : Option (Int64 × Mem)} {K : Int64 → Mem → Option (α × Mem)} {a1 a2 a3 a4 a5 : Value} (mk : MKSN own idx y bytes maxL retY 5) (hc : ∀ v S1, X0 = some (v, S1) → Con (lOf Γ) y bytes maxL retY frY loY [a1, a2, a3, a4, a5] S (rJ v) S1) (hrm : RmOK fr lo frY loY maxL) (hst : (st.map fun v => v.category).sum ≤ 8) (hd : decode cc pc = .ok (.invokestatic idx, 3)) (k : ∀ v S1, Sim cc own fr lo ret isI Γ ι (K v S1) S1 (pc + 3) L (.long v :: st)) : Sim cc own fr lo ret isI Γ ι (bd (X0) K) S pc L (a5 :: a4 :: a3 :: a2 :: a1 :: st) := s_callSN (ιb := rJ) [a1, a2, a3, a4, a5] mk rfl hrm hst hc hd k
theorem s_cSN5A {y : MethodName} {bytes : ByteArray} {maxL idx frY loY : Nat} {retY : Option FieldType} {X0 : Option (Nat × Mem)} {K : Nat → Mem → Option (α × Mem)} {a1 a2 a3 a4 a5 : Value} (mk : MKSN own idx y bytes maxL retY 5) (hc : ∀ v S1, X0 = some (v, S1) → Con (lOf Γ) y bytes maxL retY frY loY [a1, a2, a3, a4, a5] S (rA v) S1) (hrm : RmOK fr lo frY loY maxL) (hst : (st.map fun v => v.category).sum ≤ 8) (hd : decode cc pc = .ok (.invokestatic idx, 3)) (k : ∀ v S1, Sim cc own fr lo ret isI Γ ι (K v S1) S1 (pc + 3) L (.ref v :: st)) : Sim cc own fr lo ret isI Γ ι (bd (X0) K) S pc L (a5 :: a4 :: a3 :: a2 :: a1 :: st) := s_callSN (ιb := rA) [a1, a2, a3, a4, a5] mk rfl hrm hst hc hd k
theorem s_cSN5V {y : MethodName} {bytes : ByteArray} {maxL idx frY loY : Nat} {retY : Option FieldType} {X0 : Option (Unit × Mem)} {K : Unit → Mem → Option (α × Mem)} {a1 a2 a3 a4 a5 : Value} (mk : MKSN own idx y bytes maxL retY 5) (hc : ∀ v S1, X0 = some (v, S1) → Con (lOf Γ) y bytes maxL retY frY loY [a1, a2, a3, a4, a5] S (rV v) S1) (hrm : RmOK fr lo frY loY maxL) (hst : (st.map fun v => v.category).sum ≤ 8) (hd : decode cc pc = .ok (.invokestatic idx, 3)) (k : ∀ v S1, Sim cc own fr lo ret isI Γ ι (K v S1) S1 (pc + 3) L (st)) : Sim cc own fr lo ret isI Γ ι (bd (X0) K) S pc L (a5 :: a4 :: a3 :: a2 :: a1 :: st) := s_callSN (ιb := rV) [a1, a2, a3, a4, a5] mk rfl hrm hst hc hd k
theorem s_cI0V {y : MethodName} {bytes : ByteArray} {maxL idx frY loY : Nat} {retY : Option FieldType} {X0 : Option (Unit × Mem)} {K : Unit → Mem → Option (α × Mem)} {b : Nat} (mk : MKI own idx y bytes maxL retY 0) (hc : ∀ v S1, X0 = some (v, S1) → Con (lOf Γ) y bytes maxL retY frY loY [.ref b] S (rV v) S1) (hrm : RmOK fr lo frY loY maxL) (hst : (st.map fun v => v.category).sum ≤ 8) (hd : decode cc pc = .ok (.invokespecial idx, 3)) (k : ∀ v S1, Sim cc own fr lo ret isI Γ ι (K v S1) S1 (pc + 3) L (st)) : Sim cc own fr lo ret isI Γ ι (bd (X0) K) S pc L (.ref b :: st) := s_callI (ιb := rV) [] mk rfl hrm hst hc hd k
theorem s_cI1V {y : MethodName} {bytes : ByteArray} {maxL idx frY loY : Nat} {retY : Option FieldType} {X0 : Option (Unit × Mem)} {K : Unit → Mem → Option (α × Mem)} {b : Nat} {a1 : Value} (mk : MKI own idx y bytes maxL retY 1) (hc : ∀ v S1, X0 = some (v, S1) → Con (lOf Γ) y bytes maxL retY frY loY [.ref b, a1] S (rV v) S1) (hrm : RmOK fr lo frY loY maxL) (hst : (st.map fun v => v.category).sum ≤ 8) (hd : decode cc pc = .ok (.invokespecial idx, 3)) (k : ∀ v S1, Sim cc own fr lo ret isI Γ ι (K v S1) S1 (pc + 3) L (st)) : Sim cc own fr lo ret isI Γ ι (bd (X0) K) S pc L (a1 :: .ref b :: st) := s_callI (ιb := rV) [a1] mk rfl hrm hst hc hd k
theorem s_cI2V {y : MethodName} {bytes : ByteArray} {maxL idx frY loY : Nat} {retY : Option FieldType} {X0 : Option (Unit × Mem)} {K : Unit → Mem → Option (α × Mem)} {b : Nat} {a1 a2 : Value} (mk : MKI own idx y bytes maxL retY 2) (hc : ∀ v S1, X0 = some (v, S1) → Con (lOf Γ) y bytes maxL retY frY loY [.ref b, a1, a2] S (rV v) S1) (hrm : RmOK fr lo frY loY maxL) (hst : (st.map fun v => v.category).sum ≤ 8) (hd : decode cc pc = .ok (.invokespecial idx, 3)) (k : ∀ v S1, Sim cc own fr lo ret isI Γ ι (K v S1) S1 (pc + 3) L (st)) : Sim cc own fr lo ret isI Γ ι (bd (X0) K) S pc L (a2 :: a1 :: .ref b :: st) := s_callI (ιb := rV) [a1, a2] mk rfl hrm hst hc hd k
theorem s_cIN0V {y : MethodName} {bytes : ByteArray} {maxL idx frY loY : Nat} {retY : Option FieldType} {X0 : Option (Unit × Mem)} {K : Unit → Mem → Option (α × Mem)} {b : Nat} (mk : MKIN own idx y bytes maxL retY 0) (hc : ∀ v S1, X0 = some (v, S1) → Con (lOf Γ) y bytes maxL retY frY loY [.ref b] S (rV v) S1) (hrm : RmOK fr lo frY loY maxL) (hst : (st.map fun v => v.category).sum ≤ 8) (hd : decode cc pc = .ok (.invokespecial idx, 3)) (k : ∀ v S1, Sim cc own fr lo ret isI Γ ι (K v S1) S1 (pc + 3) L (st)) : Sim cc own fr lo ret isI Γ ι (bd (X0) K) S pc L (.ref b :: st) := s_callIN (ιb := rV) [] mk rfl hrm hst hc hd k
theorem s_cIN1V {y : MethodName} {bytes : ByteArray} {maxL idx frY loY : Nat} {retY : Option FieldType} {X0 : Option (Unit × Mem)} {K : Unit → Mem → Option (α × Mem)} {b : Nat} {a1 : Value} (mk : MKIN own idx y bytes maxL retY 1) (hc : ∀ v S1, X0 = some (v, S1) → Con (lOf Γ) y bytes maxL retY frY loY [.ref b, a1] S (rV v) S1) (hrm : RmOK fr lo frY loY maxL) (hst : (st.map fun v => v.category).sum ≤ 8) (hd : decode cc pc = .ok (.invokespecial idx, 3)) (k : ∀ v S1, Sim cc own fr lo ret isI Γ ι (K v S1) S1 (pc + 3) L (st)) : Sim cc own fr lo ret isI Γ ι (bd (X0) K) S pc L (a1 :: .ref b :: st) := s_callIN (ιb := rV) [a1] mk rfl hrm hst hc hd k
end NROWS
/-- a method's contract out of the walk of its body -/
theorem con_of {α : Type} {ι : α → Option Value} {l : Launch} {y : MethodName} {bytes : ByteArray} {maxL : Nat} {ret : Option FieldType} {fr lo : Nat} {av : List Value} {S : Mem} {X : Option (α × Mem)} {v : α} {S1 : Mem} (own : String) (isI : Bool) (Lv : List (Option Value)) (hown : y.cls = own) (hI : isI = true → y.name = "<init>") (hy : plainName y.cls = true) (hlen : (lg_sl av).length ≤ maxL) (hLv : asc 0 Lv = lv_args 0 av ∧ Lv.length = maxL)
    (h : ∀ Γ : Cx, lOf Γ = l → Sim bytes own fr lo ret isI Γ ι X S 0 Lv []) (hX : X = some (v, S1)) : Con l y bytes maxL ret fr lo av S (ι v) S1 := by
  have mono : Nonempty Cx → mZ S ≤ mZ S1 ∧ mQ S ≤ mQ S1 := by
    rintro ⟨p, l1, e, R, s, m, args, below, meth, c, nL, D, cs, z, mc, ms, z0, q0⟩
    exact (h (p, l, e, R, s, m, args, below, meth, c, nL, D, cs, z, mc, ms, z0, q0) rfl v S1 hX).1
  refine ⟨mono, fun D cs z => ?_⟩
  refine Met.ofW (cc := bytes) (maxL := maxL) (ret := ret) hy rfl ?_
  intro p e s m args below meth c s₁ B hml hv
  obtain ⟨rfl, hr, hK, hN⟩ := hv
  have hts := atoms_spec (ws := wsOf y bytes maxL ret) B.pre
  have hw : s.vm.findClass own = some m.cls := by rw [← hown]; exact findClass_of_methodNamed B.named
  have hl := lv_entry av (n := maxL) hlen
  rw [lg_entry_eq]
  generalize (lg_sl av ++ List.replicate (maxL - (lg_sl av).length) Slot.unset).toArray = ls at hl ⊢
  have hin : isI = true → meth.name = "<init>" := fun h => (name_of_methodNamed B.named B.method).1.trans (hI h)
  have k := h (p, l, e, (headSpec (wsOf y bytes maxL ret) (roomOf fr lo (mZ S1 - mZ S) (mQ S1 - mQ S))).room, s, m, av.toArray, below, meth, c, maxL, D, cs, z, mZ S1 - mZ S, mQ S1 - mQ S, mZ S, mQ S) rfl v S1 hX
  have k1 : mZ S ≤ mZ S1 ∧ mQ S ≤ mQ S1 := k.1
  exact k.2 ⟨B.exec, B.bytes, hml, hw, fun w h => hts w (List.mem_cons_of_mem _ h), hK, B.notSynchronized, ⟨_, _, rfl, Nat.le_refl _, Nat.le_refl _⟩, B.returns, hN, hin⟩ (by omega) (by omega) s.heap [] ls 0 0 rfl rfl hr va_S.rf ⟨by rw [hLv.1]; exact hl, hLv.2⟩
/-! loops: a body that may go round again, at most so many times -/
def fix0 {R : Type} (b : (Mem → Option R) → Mem → Option R) : Nat → Mem → Option R
  | 0 => fun _ => none
  | n + 1 => b (fix0 b n)
theorem s_fix0 {α : Type} {cc : ByteArray} {own : String} {fr lo : Nat} {ret : Option FieldType} {isI : Bool} {Γ : Cx} {ι : α → Option Value} {pc : Nat} {st : List Value} (Lf : List (Option Value)) {b : (Mem → Option (α × Mem)) → Mem → Option (α × Mem)} (h : ∀ back : Mem → Option (α × Mem), (∀ (S : Mem), Sim cc own fr lo ret isI Γ ι (back  S) S pc (Lf ) st) → ∀ (S : Mem), Sim cc own fr lo ret isI Γ ι (b back  S) S pc (Lf ) st) : ∀ f : Nat, ∀ (S : Mem), Sim cc own fr lo ret isI Γ ι (fix0 b f  S) S pc (Lf ) st
  | 0 => fun _ => s_none (K := True)
  | f + 1 => h (fix0 b f) (s_fix0 Lf h f)
def fix1 {A0 : Type} {R : Type} (b : (A0 → Mem → Option R) → A0 → Mem → Option R) : Nat → A0 → Mem → Option R
  | 0 => fun _ _ => none
  | n + 1 => b (fix1 b n)
theorem s_fix1 {A0 : Type} {α : Type} {cc : ByteArray} {own : String} {fr lo : Nat} {ret : Option FieldType} {isI : Bool} {Γ : Cx} {ι : α → Option Value} {pc : Nat} {st : List Value} (Lf : A0 → List (Option Value)) {b : (A0 → Mem → Option (α × Mem)) → A0 → Mem → Option (α × Mem)} (h : ∀ back : A0 → Mem → Option (α × Mem), (∀ (x0 : A0) (S : Mem), Sim cc own fr lo ret isI Γ ι (back x0 S) S pc (Lf x0) st) → ∀ (x0 : A0) (S : Mem), Sim cc own fr lo ret isI Γ ι (b back x0 S) S pc (Lf x0) st) : ∀ f : Nat, ∀ (x0 : A0) (S : Mem), Sim cc own fr lo ret isI Γ ι (fix1 b f x0 S) S pc (Lf x0) st
  | 0 => fun _ _ => s_none (K := True)
  | f + 1 => h (fix1 b f) (s_fix1 Lf h f)
def fix2 {A0 A1 : Type} {R : Type} (b : (A0 → A1 → Mem → Option R) → A0 → A1 → Mem → Option R) : Nat → A0 → A1 → Mem → Option R
  | 0 => fun _ _ _ => none
  | n + 1 => b (fix2 b n)
theorem s_fix2 {A0 A1 : Type} {α : Type} {cc : ByteArray} {own : String} {fr lo : Nat} {ret : Option FieldType} {isI : Bool} {Γ : Cx} {ι : α → Option Value} {pc : Nat} {st : List Value} (Lf : A0 → A1 → List (Option Value)) {b : (A0 → A1 → Mem → Option (α × Mem)) → A0 → A1 → Mem → Option (α × Mem)} (h : ∀ back : A0 → A1 → Mem → Option (α × Mem), (∀ (x0 : A0) (x1 : A1) (S : Mem), Sim cc own fr lo ret isI Γ ι (back x0 x1 S) S pc (Lf x0 x1) st) → ∀ (x0 : A0) (x1 : A1) (S : Mem), Sim cc own fr lo ret isI Γ ι (b back x0 x1 S) S pc (Lf x0 x1) st) : ∀ f : Nat, ∀ (x0 : A0) (x1 : A1) (S : Mem), Sim cc own fr lo ret isI Γ ι (fix2 b f x0 x1 S) S pc (Lf x0 x1) st
  | 0 => fun _ _ _ => s_none (K := True)
  | f + 1 => h (fix2 b f) (s_fix2 Lf h f)
def fix3 {A0 A1 A2 : Type} {R : Type} (b : (A0 → A1 → A2 → Mem → Option R) → A0 → A1 → A2 → Mem → Option R) : Nat → A0 → A1 → A2 → Mem → Option R
  | 0 => fun _ _ _ _ => none
  | n + 1 => b (fix3 b n)
theorem s_fix3 {A0 A1 A2 : Type} {α : Type} {cc : ByteArray} {own : String} {fr lo : Nat} {ret : Option FieldType} {isI : Bool} {Γ : Cx} {ι : α → Option Value} {pc : Nat} {st : List Value} (Lf : A0 → A1 → A2 → List (Option Value)) {b : (A0 → A1 → A2 → Mem → Option (α × Mem)) → A0 → A1 → A2 → Mem → Option (α × Mem)} (h : ∀ back : A0 → A1 → A2 → Mem → Option (α × Mem), (∀ (x0 : A0) (x1 : A1) (x2 : A2) (S : Mem), Sim cc own fr lo ret isI Γ ι (back x0 x1 x2 S) S pc (Lf x0 x1 x2) st) → ∀ (x0 : A0) (x1 : A1) (x2 : A2) (S : Mem), Sim cc own fr lo ret isI Γ ι (b back x0 x1 x2 S) S pc (Lf x0 x1 x2) st) : ∀ f : Nat, ∀ (x0 : A0) (x1 : A1) (x2 : A2) (S : Mem), Sim cc own fr lo ret isI Γ ι (fix3 b f x0 x1 x2 S) S pc (Lf x0 x1 x2) st
  | 0 => fun _ _ _ _ => s_none (K := True)
  | f + 1 => h (fix3 b f) (s_fix3 Lf h f)
def fix4 {A0 A1 A2 A3 : Type} {R : Type} (b : (A0 → A1 → A2 → A3 → Mem → Option R) → A0 → A1 → A2 → A3 → Mem → Option R) : Nat → A0 → A1 → A2 → A3 → Mem → Option R
  | 0 => fun _ _ _ _ _ => none
  | n + 1 => b (fix4 b n)
theorem s_fix4 {A0 A1 A2 A3 : Type} {α : Type} {cc : ByteArray} {own : String} {fr lo : Nat} {ret : Option FieldType} {isI : Bool} {Γ : Cx} {ι : α → Option Value} {pc : Nat} {st : List Value} (Lf : A0 → A1 → A2 → A3 → List (Option Value)) {b : (A0 → A1 → A2 → A3 → Mem → Option (α × Mem)) → A0 → A1 → A2 → A3 → Mem → Option (α × Mem)} (h : ∀ back : A0 → A1 → A2 → A3 → Mem → Option (α × Mem), (∀ (x0 : A0) (x1 : A1) (x2 : A2) (x3 : A3) (S : Mem), Sim cc own fr lo ret isI Γ ι (back x0 x1 x2 x3 S) S pc (Lf x0 x1 x2 x3) st) → ∀ (x0 : A0) (x1 : A1) (x2 : A2) (x3 : A3) (S : Mem), Sim cc own fr lo ret isI Γ ι (b back x0 x1 x2 x3 S) S pc (Lf x0 x1 x2 x3) st) : ∀ f : Nat, ∀ (x0 : A0) (x1 : A1) (x2 : A2) (x3 : A3) (S : Mem), Sim cc own fr lo ret isI Γ ι (fix4 b f x0 x1 x2 x3 S) S pc (Lf x0 x1 x2 x3) st
  | 0 => fun _ _ _ _ _ => s_none (K := True)
  | f + 1 => h (fix4 b f) (s_fix4 Lf h f)
def fix5 {A0 A1 A2 A3 A4 : Type} {R : Type} (b : (A0 → A1 → A2 → A3 → A4 → Mem → Option R) → A0 → A1 → A2 → A3 → A4 → Mem → Option R) : Nat → A0 → A1 → A2 → A3 → A4 → Mem → Option R
  | 0 => fun _ _ _ _ _ _ => none
  | n + 1 => b (fix5 b n)
theorem s_fix5 {A0 A1 A2 A3 A4 : Type} {α : Type} {cc : ByteArray} {own : String} {fr lo : Nat} {ret : Option FieldType} {isI : Bool} {Γ : Cx} {ι : α → Option Value} {pc : Nat} {st : List Value} (Lf : A0 → A1 → A2 → A3 → A4 → List (Option Value)) {b : (A0 → A1 → A2 → A3 → A4 → Mem → Option (α × Mem)) → A0 → A1 → A2 → A3 → A4 → Mem → Option (α × Mem)} (h : ∀ back : A0 → A1 → A2 → A3 → A4 → Mem → Option (α × Mem), (∀ (x0 : A0) (x1 : A1) (x2 : A2) (x3 : A3) (x4 : A4) (S : Mem), Sim cc own fr lo ret isI Γ ι (back x0 x1 x2 x3 x4 S) S pc (Lf x0 x1 x2 x3 x4) st) → ∀ (x0 : A0) (x1 : A1) (x2 : A2) (x3 : A3) (x4 : A4) (S : Mem), Sim cc own fr lo ret isI Γ ι (b back x0 x1 x2 x3 x4 S) S pc (Lf x0 x1 x2 x3 x4) st) : ∀ f : Nat, ∀ (x0 : A0) (x1 : A1) (x2 : A2) (x3 : A3) (x4 : A4) (S : Mem), Sim cc own fr lo ret isI Γ ι (fix5 b f x0 x1 x2 x3 x4 S) S pc (Lf x0 x1 x2 x3 x4) st
  | 0 => fun _ _ _ _ _ _ => s_none (K := True)
  | f + 1 => h (fix5 b f) (s_fix5 Lf h f)
def fix6 {A0 A1 A2 A3 A4 A5 : Type} {R : Type} (b : (A0 → A1 → A2 → A3 → A4 → A5 → Mem → Option R) → A0 → A1 → A2 → A3 → A4 → A5 → Mem → Option R) : Nat → A0 → A1 → A2 → A3 → A4 → A5 → Mem → Option R
  | 0 => fun _ _ _ _ _ _ _ => none
  | n + 1 => b (fix6 b n)
theorem s_fix6 {A0 A1 A2 A3 A4 A5 : Type} {α : Type} {cc : ByteArray} {own : String} {fr lo : Nat} {ret : Option FieldType} {isI : Bool} {Γ : Cx} {ι : α → Option Value} {pc : Nat} {st : List Value} (Lf : A0 → A1 → A2 → A3 → A4 → A5 → List (Option Value)) {b : (A0 → A1 → A2 → A3 → A4 → A5 → Mem → Option (α × Mem)) → A0 → A1 → A2 → A3 → A4 → A5 → Mem → Option (α × Mem)} (h : ∀ back : A0 → A1 → A2 → A3 → A4 → A5 → Mem → Option (α × Mem), (∀ (x0 : A0) (x1 : A1) (x2 : A2) (x3 : A3) (x4 : A4) (x5 : A5) (S : Mem), Sim cc own fr lo ret isI Γ ι (back x0 x1 x2 x3 x4 x5 S) S pc (Lf x0 x1 x2 x3 x4 x5) st) → ∀ (x0 : A0) (x1 : A1) (x2 : A2) (x3 : A3) (x4 : A4) (x5 : A5) (S : Mem), Sim cc own fr lo ret isI Γ ι (b back x0 x1 x2 x3 x4 x5 S) S pc (Lf x0 x1 x2 x3 x4 x5) st) : ∀ f : Nat, ∀ (x0 : A0) (x1 : A1) (x2 : A2) (x3 : A3) (x4 : A4) (x5 : A5) (S : Mem), Sim cc own fr lo ret isI Γ ι (fix6 b f x0 x1 x2 x3 x4 x5 S) S pc (Lf x0 x1 x2 x3 x4 x5) st
  | 0 => fun _ _ _ _ _ _ _ => s_none (K := True)
  | f + 1 => h (fix6 b f) (s_fix6 Lf h f)
def fix7 {A0 A1 A2 A3 A4 A5 A6 : Type} {R : Type} (b : (A0 → A1 → A2 → A3 → A4 → A5 → A6 → Mem → Option R) → A0 → A1 → A2 → A3 → A4 → A5 → A6 → Mem → Option R) : Nat → A0 → A1 → A2 → A3 → A4 → A5 → A6 → Mem → Option R
  | 0 => fun _ _ _ _ _ _ _ _ => none
  | n + 1 => b (fix7 b n)
theorem s_fix7 {A0 A1 A2 A3 A4 A5 A6 : Type} {α : Type} {cc : ByteArray} {own : String} {fr lo : Nat} {ret : Option FieldType} {isI : Bool} {Γ : Cx} {ι : α → Option Value} {pc : Nat} {st : List Value} (Lf : A0 → A1 → A2 → A3 → A4 → A5 → A6 → List (Option Value)) {b : (A0 → A1 → A2 → A3 → A4 → A5 → A6 → Mem → Option (α × Mem)) → A0 → A1 → A2 → A3 → A4 → A5 → A6 → Mem → Option (α × Mem)} (h : ∀ back : A0 → A1 → A2 → A3 → A4 → A5 → A6 → Mem → Option (α × Mem), (∀ (x0 : A0) (x1 : A1) (x2 : A2) (x3 : A3) (x4 : A4) (x5 : A5) (x6 : A6) (S : Mem), Sim cc own fr lo ret isI Γ ι (back x0 x1 x2 x3 x4 x5 x6 S) S pc (Lf x0 x1 x2 x3 x4 x5 x6) st) → ∀ (x0 : A0) (x1 : A1) (x2 : A2) (x3 : A3) (x4 : A4) (x5 : A5) (x6 : A6) (S : Mem), Sim cc own fr lo ret isI Γ ι (b back x0 x1 x2 x3 x4 x5 x6 S) S pc (Lf x0 x1 x2 x3 x4 x5 x6) st) : ∀ f : Nat, ∀ (x0 : A0) (x1 : A1) (x2 : A2) (x3 : A3) (x4 : A4) (x5 : A5) (x6 : A6) (S : Mem), Sim cc own fr lo ret isI Γ ι (fix7 b f x0 x1 x2 x3 x4 x5 x6 S) S pc (Lf x0 x1 x2 x3 x4 x5 x6) st
  | 0 => fun _ _ _ _ _ _ _ _ => s_none (K := True)
  | f + 1 => h (fix7 b f) (s_fix7 Lf h f)
def fix8 {A0 A1 A2 A3 A4 A5 A6 A7 : Type} {R : Type} (b : (A0 → A1 → A2 → A3 → A4 → A5 → A6 → A7 → Mem → Option R) → A0 → A1 → A2 → A3 → A4 → A5 → A6 → A7 → Mem → Option R) : Nat → A0 → A1 → A2 → A3 → A4 → A5 → A6 → A7 → Mem → Option R
  | 0 => fun _ _ _ _ _ _ _ _ _ => none
  | n + 1 => b (fix8 b n)
theorem s_fix8 {A0 A1 A2 A3 A4 A5 A6 A7 : Type} {α : Type} {cc : ByteArray} {own : String} {fr lo : Nat} {ret : Option FieldType} {isI : Bool} {Γ : Cx} {ι : α → Option Value} {pc : Nat} {st : List Value} (Lf : A0 → A1 → A2 → A3 → A4 → A5 → A6 → A7 → List (Option Value)) {b : (A0 → A1 → A2 → A3 → A4 → A5 → A6 → A7 → Mem → Option (α × Mem)) → A0 → A1 → A2 → A3 → A4 → A5 → A6 → A7 → Mem → Option (α × Mem)} (h : ∀ back : A0 → A1 → A2 → A3 → A4 → A5 → A6 → A7 → Mem → Option (α × Mem), (∀ (x0 : A0) (x1 : A1) (x2 : A2) (x3 : A3) (x4 : A4) (x5 : A5) (x6 : A6) (x7 : A7) (S : Mem), Sim cc own fr lo ret isI Γ ι (back x0 x1 x2 x3 x4 x5 x6 x7 S) S pc (Lf x0 x1 x2 x3 x4 x5 x6 x7) st) → ∀ (x0 : A0) (x1 : A1) (x2 : A2) (x3 : A3) (x4 : A4) (x5 : A5) (x6 : A6) (x7 : A7) (S : Mem), Sim cc own fr lo ret isI Γ ι (b back x0 x1 x2 x3 x4 x5 x6 x7 S) S pc (Lf x0 x1 x2 x3 x4 x5 x6 x7) st) : ∀ f : Nat, ∀ (x0 : A0) (x1 : A1) (x2 : A2) (x3 : A3) (x4 : A4) (x5 : A5) (x6 : A6) (x7 : A7) (S : Mem), Sim cc own fr lo ret isI Γ ι (fix8 b f x0 x1 x2 x3 x4 x5 x6 x7 S) S pc (Lf x0 x1 x2 x3 x4 x5 x6 x7) st
  | 0 => fun _ _ _ _ _ _ _ _ _ => s_none (K := True)
  | f + 1 => h (fix8 b f) (s_fix8 Lf h f)
def fix9 {A0 A1 A2 A3 A4 A5 A6 A7 A8 : Type} {R : Type} (b : (A0 → A1 → A2 → A3 → A4 → A5 → A6 → A7 → A8 → Mem → Option R) → A0 → A1 → A2 → A3 → A4 → A5 → A6 → A7 → A8 → Mem → Option R) : Nat → A0 → A1 → A2 → A3 → A4 → A5 → A6 → A7 → A8 → Mem → Option R
  | 0 => fun _ _ _ _ _ _ _ _ _ _ => none
  | n + 1 => b (fix9 b n)
theorem s_fix9 {A0 A1 A2 A3 A4 A5 A6 A7 A8 : Type} {α : Type} {cc : ByteArray} {own : String} {fr lo : Nat} {ret : Option FieldType} {isI : Bool} {Γ : Cx} {ι : α → Option Value} {pc : Nat} {st : List Value} (Lf : A0 → A1 → A2 → A3 → A4 → A5 → A6 → A7 → A8 → List (Option Value)) {b : (A0 → A1 → A2 → A3 → A4 → A5 → A6 → A7 → A8 → Mem → Option (α × Mem)) → A0 → A1 → A2 → A3 → A4 → A5 → A6 → A7 → A8 → Mem → Option (α × Mem)} (h : ∀ back : A0 → A1 → A2 → A3 → A4 → A5 → A6 → A7 → A8 → Mem → Option (α × Mem), (∀ (x0 : A0) (x1 : A1) (x2 : A2) (x3 : A3) (x4 : A4) (x5 : A5) (x6 : A6) (x7 : A7) (x8 : A8) (S : Mem), Sim cc own fr lo ret isI Γ ι (back x0 x1 x2 x3 x4 x5 x6 x7 x8 S) S pc (Lf x0 x1 x2 x3 x4 x5 x6 x7 x8) st) → ∀ (x0 : A0) (x1 : A1) (x2 : A2) (x3 : A3) (x4 : A4) (x5 : A5) (x6 : A6) (x7 : A7) (x8 : A8) (S : Mem), Sim cc own fr lo ret isI Γ ι (b back x0 x1 x2 x3 x4 x5 x6 x7 x8 S) S pc (Lf x0 x1 x2 x3 x4 x5 x6 x7 x8) st) : ∀ f : Nat, ∀ (x0 : A0) (x1 : A1) (x2 : A2) (x3 : A3) (x4 : A4) (x5 : A5) (x6 : A6) (x7 : A7) (x8 : A8) (S : Mem), Sim cc own fr lo ret isI Γ ι (fix9 b f x0 x1 x2 x3 x4 x5 x6 x7 x8 S) S pc (Lf x0 x1 x2 x3 x4 x5 x6 x7 x8) st
  | 0 => fun _ _ _ _ _ _ _ _ _ _ => s_none (K := True)
  | f + 1 => h (fix9 b f) (s_fix9 Lf h f)
def fix10 {A0 A1 A2 A3 A4 A5 A6 A7 A8 A9 : Type} {R : Type} (b : (A0 → A1 → A2 → A3 → A4 → A5 → A6 → A7 → A8 → A9 → Mem → Option R) → A0 → A1 → A2 → A3 → A4 → A5 → A6 → A7 → A8 → A9 → Mem → Option R) : Nat → A0 → A1 → A2 → A3 → A4 → A5 → A6 → A7 → A8 → A9 → Mem → Option R
  | 0 => fun _ _ _ _ _ _ _ _ _ _ _ => none
  | n + 1 => b (fix10 b n)
theorem s_fix10 {A0 A1 A2 A3 A4 A5 A6 A7 A8 A9 : Type} {α : Type} {cc : ByteArray} {own : String} {fr lo : Nat} {ret : Option FieldType} {isI : Bool} {Γ : Cx} {ι : α → Option Value} {pc : Nat} {st : List Value} (Lf : A0 → A1 → A2 → A3 → A4 → A5 → A6 → A7 → A8 → A9 → List (Option Value)) {b : (A0 → A1 → A2 → A3 → A4 → A5 → A6 → A7 → A8 → A9 → Mem → Option (α × Mem)) → A0 → A1 → A2 → A3 → A4 → A5 → A6 → A7 → A8 → A9 → Mem → Option (α × Mem)} (h : ∀ back : A0 → A1 → A2 → A3 → A4 → A5 → A6 → A7 → A8 → A9 → Mem → Option (α × Mem), (∀ (x0 : A0) (x1 : A1) (x2 : A2) (x3 : A3) (x4 : A4) (x5 : A5) (x6 : A6) (x7 : A7) (x8 : A8) (x9 : A9) (S : Mem), Sim cc own fr lo ret isI Γ ι (back x0 x1 x2 x3 x4 x5 x6 x7 x8 x9 S) S pc (Lf x0 x1 x2 x3 x4 x5 x6 x7 x8 x9) st) → ∀ (x0 : A0) (x1 : A1) (x2 : A2) (x3 : A3) (x4 : A4) (x5 : A5) (x6 : A6) (x7 : A7) (x8 : A8) (x9 : A9) (S : Mem), Sim cc own fr lo ret isI Γ ι (b back x0 x1 x2 x3 x4 x5 x6 x7 x8 x9 S) S pc (Lf x0 x1 x2 x3 x4 x5 x6 x7 x8 x9) st) : ∀ f : Nat, ∀ (x0 : A0) (x1 : A1) (x2 : A2) (x3 : A3) (x4 : A4) (x5 : A5) (x6 : A6) (x7 : A7) (x8 : A8) (x9 : A9) (S : Mem), Sim cc own fr lo ret isI Γ ι (fix10 b f x0 x1 x2 x3 x4 x5 x6 x7 x8 x9 S) S pc (Lf x0 x1 x2 x3 x4 x5 x6 x7 x8 x9) st
  | 0 => fun _ _ _ _ _ _ _ _ _ _ _ => s_none (K := True)
  | f + 1 => h (fix10 b f) (s_fix10 Lf h f)
