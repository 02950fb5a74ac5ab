theorem hr_ob {D : va_G} {cs : Nat → ClassId} {z : Nat} {s : State} {S : Mem} {H : Heap} {a ci : Nat} (hr : hR D cs z s S H) (hk : mK S a = ci) (hc : ci < 9) : z ≤ a ∧ t_OB a (D.1 ci) (szOf ci) (D.2 ci) H (fun k => entV (tyOf ci k) S a k) := by
  subst hk; exact hr.2.2.1 a hc
theorem hr_ar {D : va_G} {cs : Nat → ClassId} {z : Nat} {s : State} {S : Mem} {H : Heap} {a kd : Nat} (hr : hR D cs z s S H) (hk : mK S a = kd) (h1 : 9 ≤ kd) (h2 : kd < 14) : z ≤ a ∧ H[a]? = some (arrV (cs kd) (mN S a) (arV kd S a)) := by
  subst hk; exact hr.2.2.2.1 a h1 h2
section WROWS
variable {p : Program} {l : Launch} {e : Env} {R : Room} {s : State} {m : MethodId} {args : Array Value} {below : List Frame} {meth : Method} {c : Code} {H : Heap} {locs : List Loc} {cells slots : Nat} {Q : State → Prop} {cc : ByteArray} {pc : Nat} {ls : Array Slot} {rest : List Value} {D : va_G} {tys : List (ClassId × FieldType)} {own : String} {H0 : Heap} {ci k idx a z : Nat} {V : Nat → Value} {v : Value}
theorem w_get (hx : p.tables.exec = Jvm.exec) (hb : c.code = cc) (hts : ∀ w ∈ lw_g, w.before args s = true) (hown : s.vm.findClass own = some m.cls) (hK : va_K D vwCl tys s) (f : FK own idx ci k) (ho : t_OB a (D.1 ci) (szOf ci) (D.2 ci) H V) (hd : decode cc pc = .ok (.getfield idx, 3))
    (kk : W p l e R s m args below meth c H locs cells slots Q (F0 m (pc + 3) ls (V k :: rest))) : W p l e R s m args below meth c H locs cells slots Q (F0 m pc ls (.ref a :: rest)) := by
  obtain ⟨cell, q1, q2, q3, q4⟩ := ho
  obtain ⟨hS, hfc, kC, hkC, hkind⟩ := hK.1 ci _ (cl_at ci f.1)
  obtain ⟨cf, kf, fi, fd, hi, hsl⟩ := hS k f.2.1
  refine W.getf hx hb hown (hts _ f.2.2) hi (u_facts hfc hkC (u_lays hts (inT ci f.1) f.2.1) hi).1 q1 (by rw [q3]; exact fun h => by cases h) (v := V k) ?_ rfl rfl hd kk
  rw [hsl]; exact q4 k f.2.1
theorem w_put (hx : p.tables.exec = Jvm.exec) (hb : c.code = cc) (hts : ∀ w ∈ lw_g, w.before args s = true) (hown : s.vm.findClass own = some m.cls) (hK : va_K D vwCl tys s) (f : FK own idx ci k) (hfin : (clT ci k).2.2.2 = false ∨ ((clT ci k).2.2.2 = true ∧ meth.name = "<init>" ∧ (clT ci k).1 = own)) (hz : z ≤ a) (hS0 : va_S (fun q => z ≤ q) H0 H locs)
    (ho : t_OB a (D.1 ci) (szOf ci) (D.2 ci) H V) (hn : narrow (tyOf ci k) v = v) (hfit : fits (tyOf ci k) v = true) (hd : decode cc pc = .ok (.putfield idx, 3))
    (kk : ∀ (H1 : Heap) (locs1 : List Loc), t_OB a (D.1 ci) (szOf ci) (D.2 ci) H1 (updV V k v) → H1.size = H.size → (∀ q : Nat, q ≠ a → H1[q]? = H[q]?) → va_S (fun q => z ≤ q) H0 H1 locs1 → W p l e R s m args below meth c H1 locs1 cells slots Q (F0 m (pc + 3) ls rest)) : W p l e R s m args below meth c H locs cells slots Q (F0 m pc ls (v :: .ref a :: rest)) := by
  have hap := va_apart (own := own) hts (inT ci f.1) (tyOf ci) (tyT ci f.1) (nmT ci f.1) hK (cl_at ci f.1)
  obtain ⟨cell, q1, q2, q3, q4⟩ := ho
  obtain ⟨hS, hfc, kC, hkC, hkind⟩ := hK.1 ci _ (cl_at ci f.1)
  obtain ⟨cf, kf, fi, fd, hi, hsl⟩ := hS k f.2.1
  have hlay := hts _ (inT ci f.1 _ (u_in_lay f.2.1))
  have hst := (u_facts hfc hkC (u_lays hts (inT ci f.1) f.2.1) hi).1
  have hsz := k2_hasslot (q4 k f.2.1)
  rw [← hsl] at hsz
  have fin : ∀ H' : Heap, H'[a]? = some (cell.setSlot fd.slot v) → H'.size = H.size → (∀ q : Nat, q ≠ a → H'[q]? = H[q]?) → W p l e R s m args below meth c H' (locs ++ [⟨a, fd.slot⟩]) cells slots Q (F0 m (pc + 3) ls rest) := by
    intro H' e1 e2 e3
    rw [hsl] at e1 ⊢
    exact kk H' _ ⟨_, e1, q2, q3, t_set q4 hap f.2.1 v⟩ e2 e3 (hS0.put e2 e3 hz)
  rcases hfin with hf | ⟨hf, hin, hdc⟩
  · unfold u_lay at hlay
    rw [if_neg (by rw [hf]; decide)] at hlay
    have h6 := u_store hfc hkC hkind hlay hi (tyT ci f.1 k f.2.1) hn hfit
    exact W.putK hx hb (f := fd) ⟨hown, hts _ f.2.2, ⟨_, _, _, hi⟩, hst⟩ (by rw [q2]; exact h6) q1 q3 hsz rfl rfl hd fin
  · unfold u_lay at hlay
    rw [if_pos hf] at hlay
    have hcf : m.cls = cf := by
      obtain ⟨_, _, c', _, _, _, -, -, hf', -, -, -, hown2, -⟩ := Cond.laysFinal_spec hlay
      have e1 : c' = cf := by have := hi.symm.trans hf'; simp at this; exact this.1.symm
      rw [hdc] at hown2
      rw [← e1]; exact Option.some.inj (hown.symm.trans hown2)
    have h6 := u_fits hfc hkC hkind (Or.inr hlay) hi (tyT ci f.1 k f.2.1) hn hfit
    exact W.putFinK hx hb hown (hts _ f.2.2) hi hst hcf hin (by rw [q2]; exact h6) q1 q3 hsz rfl rfl hd fin
end WROWS
section HROWS
variable {α : Type} {Γ : Cx} {ι : α → Option Value} {cc : ByteArray} {own : String} {fr lo : Nat} {ret : Option FieldType} {isI : Bool} {X : Option (α × Mem)} {S : Mem} {pc : Nat} {L : List (Option Value)} {st : List Value}
theorem s_getI {ci k idx a : Nat} {K : Int32 → Option (α × Mem)} (f : FK own idx ci k) (ht : tI (tyOf ci k) = true) (hd : decode cc pc = .ok (.getfield idx, 3)) (kk : ∀ v, Sim cc own fr lo ret isI Γ ι (K v) S (pc + 3) L (.int v :: st)) : Sim cc own fr lo ret isI Γ ι ((gI S ci k a).bind K) S pc L (.ref a :: st) := by
  obtain ⟨p, l, e, R, s, m, args, below, meth, c, nL, D, cs, z, mc, ms, z0, q0⟩ := Γ
  intro r S' hX
  unfold gI at hX
  by_cases hk : mK S a = ci
  · rw [if_pos hk] at hX
    have kk := kk _ r S' hX
    refine ⟨kk.1, fun C hm hq H locs ls cl sl h1 h2 hr hS hL => ?_⟩
    obtain ⟨hx, hb, hml, hown, hts, hK, hlk, ⟨rc, rs, rfl, hrc, hrs⟩, hret, hnw, hisI⟩ := id C
    have ho := (hr_ob hr hk f.1).2
    refine w_get hx hb hts hown hK f ho hd ?_
    rw [entV_I ht]
    exact kk.2 C hm hq H locs ls cl sl h1 h2 hr hS hL
  · rw [if_neg hk] at hX; cases hX
theorem s_getJ {ci k idx a : Nat} {K : Int64 → Option (α × Mem)} (f : FK own idx ci k) (ht : tJ (tyOf ci k) = true) (hd : decode cc pc = .ok (.getfield idx, 3)) (kk : ∀ v, Sim cc own fr lo ret isI Γ ι (K v) S (pc + 3) L (.long v :: st)) : Sim cc own fr lo ret isI Γ ι ((gJ S ci k a).bind K) S pc L (.ref a :: st) := by
  obtain ⟨p, l, e, R, s, m, args, below, meth, c, nL, D, cs, z, mc, ms, z0, q0⟩ := Γ
  intro r S' hX
  unfold gJ at hX
  by_cases hk : mK S a = ci
  · rw [if_pos hk] at hX
    have kk := kk _ r S' hX
    refine ⟨kk.1, fun C hm hq H locs ls cl sl h1 h2 hr hS hL => ?_⟩
    obtain ⟨hx, hb, hml, hown, hts, hK, hlk, ⟨rc, rs, rfl, hrc, hrs⟩, hret, hnw, hisI⟩ := id C
    have ho := (hr_ob hr hk f.1).2
    refine w_get hx hb hts hown hK f ho hd ?_
    rw [entV_J ht]
    exact kk.2 C hm hq H locs ls cl sl h1 h2 hr hS hL
  · rw [if_neg hk] at hX; cases hX
theorem s_getR {ci k idx a : Nat} {K : Nat → Option (α × Mem)} (f : FK own idx ci k) (ht : tR (tyOf ci k) = true) (hd : decode cc pc = .ok (.getfield idx, 3)) (kk : ∀ v, Sim cc own fr lo ret isI Γ ι (K v) S (pc + 3) L (.ref v :: st)) : Sim cc own fr lo ret isI Γ ι ((gR S ci k a).bind K) S pc L (.ref a :: st) := by
  obtain ⟨p, l, e, R, s, m, args, below, meth, c, nL, D, cs, z, mc, ms, z0, q0⟩ := Γ
  intro r S' hX
  unfold gR at hX
  by_cases hk : mK S a = ci
  · rw [if_pos hk] at hX
    cases hqq : mR S a k with
    | none => rw [hqq] at hX; cases hX
    | some q =>
      rw [hqq] at hX
      have kk := kk q r S' hX
      refine ⟨kk.1, fun C hm hq H locs ls cl sl h1 h2 hr hS hL => ?_⟩
      obtain ⟨hx, hb, hml, hown, hts, hK, hlk, ⟨rc, rs, rfl, hrc, hrs⟩, hret, hnw, hisI⟩ := id C
      have ho := (hr_ob hr hk f.1).2
      refine w_get hx hb hts hown hK f ho hd ?_
      rw [entV_R ht, hqq]
      exact kk.2 C hm hq H locs ls cl sl h1 h2 hr hS hL
  · rw [if_neg hk] at hX; cases hX
theorem s_putI {ci k idx a : Nat} {v : Int32} {K : Mem → Option (α × Mem)} (f : FK own idx ci k) (hfin : (clT ci k).2.2.2 = false ∨ ((clT ci k).2.2.2 = true ∧ isI = true ∧ (clT ci k).1 = own)) (ht : tyOf ci k = .int) (hd : decode cc pc = .ok (.putfield idx, 3)) (kk : ∀ S1, Sim cc own fr lo ret isI Γ ι (K S1) S1 (pc + 3) L st) : Sim cc own fr lo ret isI Γ ι ((sI S ci k a v).bind K) S pc L (.int v :: .ref a :: st) := by
  obtain ⟨p, l, e, R, s, m, args, below, meth, c, nL, D, cs, z, mc, ms, z0, q0⟩ := Γ
  intro r S' hX
  unfold sI at hX
  by_cases hk : mK S a = ci
  · rw [if_pos hk] at hX
    have kk := kk _ r S' hX
    refine ⟨kk.1, fun C hm hq H locs ls cl sl h1 h2 hr hS hL => ?_⟩
    obtain ⟨hx, hb, hml, hown, hts, hK, hlk, ⟨rc, rs, rfl, hrc, hrs⟩, hret, hnw, hisI⟩ := id C
    obtain ⟨hza, ho⟩ := hr_ob hr hk f.1
    refine w_put hx hb hts hown hK f (hfin.imp id (fun h => ⟨h.1, hisI h.2.1, h.2.2⟩)) hza hS ho (by rw [ht]; rfl) (by rw [ht]; rfl) hd (fun H1 locs1 g1 g2 g3 g4 => ?_)
    refine kk.2 C hm hq H1 locs1 ls cl sl h1 h2 (hR_upd hr (Ag_pI S a k v) g2 g3 (fun _ => ?_) (fun h => absurd h (by rw [hk]; have := f.1; omega)) (by rw [hk]; have := f.1; omega) hza) g4 hL
    unfold hOb
    rw [show mK (pI S a k v) a = ci from hk]
    refine g1.to (fun j _ => ?_)
    unfold updV
    by_cases hj : j = k
    · subst hj
      rw [if_pos rfl, entV_I (by rw [ht]; rfl), pI_s]
    · rw [if_neg hj]
      exact (entV_eq (S := S) (S' := pI S a k v) (pI_n S v hj) rfl rfl).symm
  · rw [if_neg hk] at hX; cases hX
theorem s_putZ {ci k idx a : Nat} {v : Int32} {K : Mem → Option (α × Mem)} (f : FK own idx ci k) (hfin : (clT ci k).2.2.2 = false ∨ ((clT ci k).2.2.2 = true ∧ isI = true ∧ (clT ci k).1 = own)) (ht : tyOf ci k = .boolean) (hd : decode cc pc = .ok (.putfield idx, 3)) (kk : ∀ S1, Sim cc own fr lo ret isI Γ ι (K S1) S1 (pc + 3) L st) : Sim cc own fr lo ret isI Γ ι ((sZ S ci k a v).bind K) S pc L (.int v :: .ref a :: st) := by
  obtain ⟨p, l, e, R, s, m, args, below, meth, c, nL, D, cs, z, mc, ms, z0, q0⟩ := Γ
  intro r S' hX
  unfold sZ at hX
  by_cases hk : mK S a = ci ∧ (v = 0 ∨ v = 1)
  · rw [if_pos hk] at hX
    have kk := kk _ r S' hX
    refine ⟨kk.1, fun C hm hq H locs ls cl sl h1 h2 hr hS hL => ?_⟩
    obtain ⟨hx, hb, hml, hown, hts, hK, hlk, ⟨rc, rs, rfl, hrc, hrs⟩, hret, hnw, hisI⟩ := id C
    obtain ⟨hza, ho⟩ := hr_ob hr hk.1 f.1
    refine w_put hx hb hts hown hK f (hfin.imp id (fun h => ⟨h.1, hisI h.2.1, h.2.2⟩)) hza hS ho (by rw [ht]; rcases hk.2 with rfl | rfl <;> rfl) (by rw [ht]; rcases hk.2 with rfl | rfl <;> rfl) hd (fun H1 locs1 g1 g2 g3 g4 => ?_)
    refine kk.2 C hm hq H1 locs1 ls cl sl h1 h2 (hR_upd hr (Ag_pI S a k v) g2 g3 (fun _ => ?_) (fun h => absurd h (by rw [hk.1]; have := f.1; omega)) (by rw [hk.1]; have := f.1; omega) hza) g4 hL
    unfold hOb
    rw [show mK (pI S a k v) a = ci from hk.1]
    refine g1.to (fun j _ => ?_)
    unfold updV
    by_cases hj : j = k
    · subst hj
      rw [if_pos rfl, entV_I (by rw [ht]; rfl), pI_s]
    · rw [if_neg hj]
      exact (entV_eq (S := S) (S' := pI S a k v) (pI_n S v hj) rfl rfl).symm
  · rw [if_neg hk] at hX; cases hX
theorem s_putJ {ci k idx a : Nat} {v : Int64} {K : Mem → Option (α × Mem)} (f : FK own idx ci k) (hfin : (clT ci k).2.2.2 = false ∨ ((clT ci k).2.2.2 = true ∧ isI = true ∧ (clT ci k).1 = own)) (ht : tyOf ci k = .long) (hd : decode cc pc = .ok (.putfield idx, 3)) (kk : ∀ S1, Sim cc own fr lo ret isI Γ ι (K S1) S1 (pc + 3) L st) : Sim cc own fr lo ret isI Γ ι ((sJ S ci k a v).bind K) S pc L (.long v :: .ref a :: st) := by
  obtain ⟨p, l, e, R, s, m, args, below, meth, c, nL, D, cs, z, mc, ms, z0, q0⟩ := Γ
  intro r S' hX
  unfold sJ at hX
  by_cases hk : mK S a = ci
  · rw [if_pos hk] at hX
    have kk := kk _ r S' hX
    refine ⟨kk.1, fun C hm hq H locs ls cl sl h1 h2 hr hS hL => ?_⟩
    obtain ⟨hx, hb, hml, hown, hts, hK, hlk, ⟨rc, rs, rfl, hrc, hrs⟩, hret, hnw, hisI⟩ := id C
    obtain ⟨hza, ho⟩ := hr_ob hr hk f.1
    refine w_put hx hb hts hown hK f (hfin.imp id (fun h => ⟨h.1, hisI h.2.1, h.2.2⟩)) hza hS ho (by rw [ht]; rfl) (by rw [ht]; rfl) hd (fun H1 locs1 g1 g2 g3 g4 => ?_)
    refine kk.2 C hm hq H1 locs1 ls cl sl h1 h2 (hR_upd hr (Ag_pJ S a k v) g2 g3 (fun _ => ?_) (fun h => absurd h (by rw [hk]; have := f.1; omega)) (by rw [hk]; have := f.1; omega) hza) g4 hL
    unfold hOb
    rw [show mK (pJ S a k v) a = ci from hk]
    refine g1.to (fun j _ => ?_)
    unfold updV
    by_cases hj : j = k
    · subst hj
      rw [if_pos rfl, entV_J (by rw [ht]; rfl), pJ_s]
    · rw [if_neg hj]
      exact (entV_eq (S := S) (S' := pJ S a k v) rfl (pJ_n S v hj) rfl).symm
  · rw [if_neg hk] at hX; cases hX
theorem tR_nf {ty : FieldType} (h : tR ty = true) (v : Nat) : narrow ty (.ref v) = .ref v ∧ fits ty (.ref v) = true := by cases ty <;> first | (exact ⟨rfl, rfl⟩) | cases h
theorem s_putR {ci k idx a : Nat} {v : Nat} {K : Mem → Option (α × Mem)} (f : FK own idx ci k) (hfin : (clT ci k).2.2.2 = false ∨ ((clT ci k).2.2.2 = true ∧ isI = true ∧ (clT ci k).1 = own)) (ht : tR (tyOf ci k) = true) (hd : decode cc pc = .ok (.putfield idx, 3)) (kk : ∀ S1, Sim cc own fr lo ret isI Γ ι (K S1) S1 (pc + 3) L st) : Sim cc own fr lo ret isI Γ ι ((sR S ci k a v).bind K) S pc L (.ref v :: .ref a :: st) := by
  obtain ⟨p, l, e, R, s, m, args, below, meth, c, nL, D, cs, z, mc, ms, z0, q0⟩ := Γ
  intro r S' hX
  unfold sR at hX
  by_cases hk : mK S a = ci
  · rw [if_pos hk] at hX
    have kk := kk _ r S' hX
    refine ⟨kk.1, fun C hm hq H locs ls cl sl h1 h2 hr hS hL => ?_⟩
    obtain ⟨hx, hb, hml, hown, hts, hK, hlk, ⟨rc, rs, rfl, hrc, hrs⟩, hret, hnw, hisI⟩ := id C
    obtain ⟨hza, ho⟩ := hr_ob hr hk f.1
    refine w_put hx hb hts hown hK f (hfin.imp id (fun h => ⟨h.1, hisI h.2.1, h.2.2⟩)) hza hS ho (tR_nf ht v).1 (tR_nf ht v).2 hd (fun H1 locs1 g1 g2 g3 g4 => ?_)
    refine kk.2 C hm hq H1 locs1 ls cl sl h1 h2 (hR_upd hr (Ag_pR S a k (some v)) g2 g3 (fun _ => ?_) (fun h => absurd h (by rw [hk]; have := f.1; omega)) (by rw [hk]; have := f.1; omega) hza) g4 hL
    unfold hOb
    rw [show mK (pR S a k (some v)) a = ci from hk]
    refine g1.to (fun j _ => ?_)
    unfold updV
    by_cases hj : j = k
    · subst hj
      rw [if_pos rfl, entV_R ht, pR_s]; rfl
    · rw [if_neg hj]
      exact (entV_eq (S := S) (S' := pR S a k (some v)) rfl rfl (pR_n S (some v) hj)).symm
  · rw [if_neg hk] at hX; cases hX
theorem s_iald {a : Nat} {i : Int32} {K : Int32 → Option (α × Mem)} (hd : decode cc pc = .ok (.iaload, 1)) (kk : ∀ v, Sim cc own fr lo ret isI Γ ι (K v) S (pc + 1) L (.int v :: st)) : Sim cc own fr lo ret isI Γ ι ((gA S 10 a i).bind K) S pc L (.int i :: .ref a :: st) := by
  obtain ⟨p, l, e, R, s, m, args, below, meth, c, nL, D, cs, z, mc, ms, z0, q0⟩ := Γ
  intro r S' hX
  unfold gA at hX
  by_cases hk : mK S a = 10 ∧ inB i (mN S a)
  · rw [if_pos hk] at hX
    have kk := kk _ r S' hX
    refine ⟨kk.1, fun C hm hq H locs ls cl sl h1 h2 hr hS hL => ?_⟩
    obtain ⟨hx, hb, hml, hown, hts, hK, hlk, ⟨rc, rs, rfl, hrc, hrs⟩, hret, hnw, hisI⟩ := id C
    have ha := (hr_ar hr hk.1 (by decide) (by decide)).2
    exact W.iald (v := .int (mI S a i.toNatClampNeg)) hx hb ha ((hK.2 1 _ rfl).1 _ _) (fun q => by cases q) (by rw [arrV_size]; exact hk.2.vp) (by rw [arrV_read _ _ hk.2.2]; rfl) rfl rfl hd (kk.2 C hm hq H locs ls cl sl h1 h2 hr hS hL)
  · rw [if_neg hk] at hX; cases hX
theorem s_bald {a : Nat} {i : Int32} {K : Int32 → Option (α × Mem)} (hd : decode cc pc = .ok (.baload, 1)) (kk : ∀ v, Sim cc own fr lo ret isI Γ ι (K v) S (pc + 1) L (.int v :: st)) : Sim cc own fr lo ret isI Γ ι ((gA S 9 a i).bind K) S pc L (.int i :: .ref a :: st) := by
  obtain ⟨p, l, e, R, s, m, args, below, meth, c, nL, D, cs, z, mc, ms, z0, q0⟩ := Γ
  intro r S' hX
  unfold gA at hX
  by_cases hk : mK S a = 9 ∧ inB i (mN S a)
  · rw [if_pos hk] at hX
    have kk := kk _ r S' hX
    refine ⟨kk.1, fun C hm hq H locs ls cl sl h1 h2 hr hS hL => ?_⟩
    obtain ⟨hx, hb, hml, hown, hts, hK, hlk, ⟨rc, rs, rfl, hrc, hrs⟩, hret, hnw, hisI⟩ := id C
    have ha := (hr_ar hr hk.1 (by decide) (by decide)).2
    exact W.bald (v := .int (mI S a i.toNatClampNeg)) hx hb ha ((hK.2 0 _ rfl).1 _ _) (fun q => by cases q) (by rw [arrV_size]; exact hk.2.vp) (by rw [arrV_read _ _ hk.2.2]; rfl) rfl rfl hd (kk.2 C hm hq H locs ls cl sl h1 h2 hr hS hL)
  · rw [if_neg hk] at hX; cases hX
theorem s_zald {a : Nat} {i : Int32} {K : Int32 → Option (α × Mem)} (hd : decode cc pc = .ok (.baload, 1)) (kk : ∀ v, Sim cc own fr lo ret isI Γ ι (K v) S (pc + 1) L (.int v :: st)) : Sim cc own fr lo ret isI Γ ι ((gA S 12 a i).bind K) S pc L (.int i :: .ref a :: st) := by
  obtain ⟨p, l, e, R, s, m, args, below, meth, c, nL, D, cs, z, mc, ms, z0, q0⟩ := Γ
  intro r S' hX
  unfold gA at hX
  by_cases hk : mK S a = 12 ∧ inB i (mN S a)
  · rw [if_pos hk] at hX
    have kk := kk _ r S' hX
    refine ⟨kk.1, fun C hm hq H locs ls cl sl h1 h2 hr hS hL => ?_⟩
    obtain ⟨hx, hb, hml, hown, hts, hK, hlk, ⟨rc, rs, rfl, hrc, hrs⟩, hret, hnw, hisI⟩ := id C
    have ha := (hr_ar hr hk.1 (by decide) (by decide)).2
    exact W.zald (v := .int (mI S a i.toNatClampNeg)) hx hb ha ((hK.2 3 _ rfl).1 _ _) (fun q => by cases q) (by rw [arrV_size]; exact hk.2.vp) (by rw [arrV_read _ _ hk.2.2]; rfl) rfl rfl hd (kk.2 C hm hq H locs ls cl sl h1 h2 hr hS hL)
  · rw [if_neg hk] at hX; cases hX
theorem s_lald {a : Nat} {i : Int32} {K : Int64 → Option (α × Mem)} (hd : decode cc pc = .ok (.laload, 1)) (kk : ∀ v, Sim cc own fr lo ret isI Γ ι (K v) S (pc + 1) L (.long v :: st)) : Sim cc own fr lo ret isI Γ ι ((gAJ S a i).bind K) S pc L (.int i :: .ref a :: st) := by
  obtain ⟨p, l, e, R, s, m, args, below, meth, c, nL, D, cs, z, mc, ms, z0, q0⟩ := Γ
  intro r S' hX
  unfold gAJ at hX
  by_cases hk : mK S a = 11 ∧ inB i (mN S a)
  · rw [if_pos hk] at hX
    have kk := kk _ r S' hX
    refine ⟨kk.1, fun C hm hq H locs ls cl sl h1 h2 hr hS hL => ?_⟩
    obtain ⟨hx, hb, hml, hown, hts, hK, hlk, ⟨rc, rs, rfl, hrc, hrs⟩, hret, hnw, hisI⟩ := id C
    have ha := (hr_ar hr hk.1 (by decide) (by decide)).2
    exact W.lald (v := .long (mJ S a i.toNatClampNeg)) hx hb ha ((hK.2 2 _ rfl).1 _ _) (fun q => by cases q) (by rw [arrV_size]; exact hk.2.vp) (by rw [arrV_read _ _ hk.2.2]; rfl) rfl rfl hd (kk.2 C hm hq H locs ls cl sl h1 h2 hr hS hL)
  · rw [if_neg hk] at hX; cases hX
theorem s_aald {a : Nat} {i : Int32} {K : Nat → Option (α × Mem)} (hd : decode cc pc = .ok (.aaload, 1)) (kk : ∀ v, Sim cc own fr lo ret isI Γ ι (K v) S (pc + 1) L (.ref v :: st)) : Sim cc own fr lo ret isI Γ ι ((gAR S a i).bind K) S pc L (.int i :: .ref a :: st) := by
  obtain ⟨p, l, e, R, s, m, args, below, meth, c, nL, D, cs, z, mc, ms, z0, q0⟩ := Γ
  intro r S' hX
  unfold gAR at hX
  by_cases hk : mK S a = 13 ∧ inB i (mN S a)
  · rw [if_pos hk] at hX
    cases hqq : mR S a i.toNatClampNeg with
    | none => rw [hqq] at hX; cases hX
    | some q =>
      rw [hqq] at hX
      have kk := kk q r S' hX
      refine ⟨kk.1, fun C hm hq H locs ls cl sl h1 h2 hr hS hL => ?_⟩
      obtain ⟨hx, hb, hml, hown, hts, hK, hlk, ⟨rc, rs, rfl, hrc, hrs⟩, hret, hnw, hisI⟩ := id C
      have ha := (hr_ar hr hk.1 (by decide) (by decide)).2
      exact W.aald (v := .ref q) (ty := .object RX2) hx hb ha ((hK.2 4 _ rfl).1 _ _) rfl (fun q => by cases q) (by rw [arrV_size]; exact hk.2.vp) (by rw [arrV_read _ _ hk.2.2]; show some (va_rf _) = _; rw [hqq]; rfl) rfl rfl hd (kk.2 C hm hq H locs ls cl sl h1 h2 hr hS hL)
  · rw [if_neg hk] at hX; cases hX
theorem s_sald {a : Nat} {i : Int32} {K : Int32 → Option (α × Mem)} (hd : decode cc pc = .ok (.iaload, 1)) (kk : ∀ v, Sim cc own fr lo ret isI Γ ι (K v) S (pc + 1) L (.int v :: st)) : Sim cc own fr lo ret isI Γ ι ((gA S 14 a i).bind K) S pc L (.int i :: .ref a :: st) := by
  obtain ⟨p, l, e, R, s, m, args, below, meth, c, nL, D, cs, z, mc, ms, z0, q0⟩ := Γ
  intro r S' hX
  unfold gA at hX
  by_cases hk : mK S a = 14 ∧ inB i (mN S a)
  · rw [if_pos hk] at hX
    have kk := kk _ r S' hX
    refine ⟨kk.1, fun C hm hq H locs ls cl sl h1 h2 hr hS hL => ?_⟩
    obtain ⟨hx, hb, hml, hown, hts, hK, hlk, ⟨rc, rs, rfl, hrc, hrs⟩, hret, hnw, hisI⟩ := id C
    obtain ⟨scr, b1, b2, b3, b4, b5, b6, b7⟩ := hr.2.2.2.2.1 a hk.1
    exact W.iald (v := .int (mI S a i.toNatClampNeg)) hx hb b1 b2 b3 (fun q => q.elim hk.2.1 (fun q => absurd hk.2.2 (by omega))) (b6 _ hk.2.2) rfl rfl hd (kk.2 C hm hq H locs ls cl sl h1 h2 hr hS hL)
  · rw [if_neg hk] at hX; cases hX
theorem s_alen {a : Nat} {K : Int32 → Option (α × Mem)} (hd : decode cc pc = .ok (.arraylength, 1)) (kk : ∀ v, Sim cc own fr lo ret isI Γ ι (K v) S (pc + 1) L (.int v :: st)) : Sim cc own fr lo ret isI Γ ι ((gLen S a).bind K) S pc L (.ref a :: st) := by
  obtain ⟨p, l, e, R, s, m, args, below, meth, c, nL, D, cs, z, mc, ms, z0, q0⟩ := Γ
  intro r S' hX
  unfold gLen at hX
  by_cases hk : 9 ≤ mK S a ∧ mK S a < 15
  · rw [if_pos hk] at hX
    have kk := kk _ r S' hX
    refine ⟨kk.1, fun C hm hq H locs ls cl sl h1 h2 hr hS hL => ?_⟩
    obtain ⟨hx, hb, hml, hown, hts, hK, hlk, ⟨rc, rs, rfl, hrc, hrs⟩, hret, hnw, hisI⟩ := id C
    have kk := kk.2 C hm hq H locs ls cl sl h1 h2 hr hS hL
    by_cases h14 : mK S a = 14
    · obtain ⟨scr, b1, b2, b3, b4, b5, b6, b7⟩ := hr.2.2.2.2.1 a h14
      exact W.alen (n := Int32.ofNat (mN S a)) hx hb b1 b2 b5 rfl rfl hd kk
    · have ha := hr_ar hr (rfl : mK S a = mK S a) hk.1 (by omega)
      have ht : ∃ ty, ArrOfT s (cs (mK S a)) ty := by
        rcases (show mK S a = 9 ∨ mK S a = 10 ∨ mK S a = 11 ∨ mK S a = 12 ∨ mK S a = 13 by omega) with h | h | h | h | h
        · rw [h]; exact ⟨_, (hK.2 0 _ rfl).1⟩
        · rw [h]; exact ⟨_, (hK.2 1 _ rfl).1⟩
        · rw [h]; exact ⟨_, (hK.2 2 _ rfl).1⟩
        · rw [h]; exact ⟨_, (hK.2 3 _ rfl).1⟩
        · rw [h]; exact ⟨_, (hK.2 4 _ rfl).1⟩
      obtain ⟨ty, ht⟩ := ht
      exact W.alen (n := Int32.ofNat (mN S a)) hx hb ha.2 (ht _ _) (by rw [arrV_size] <;> rfl) rfl rfl hd kk
  · rw [if_neg hk] at hX
    by_cases h17 : a = mB S
    · rw [if_pos h17] at hX
      have kk := kk _ r S' hX
      refine ⟨kk.1, fun C hm hq H locs ls cl sl h1 h2 hr hS hL => ?_⟩
      obtain ⟨hx, hb, hml, hown, hts, hK, hlk, ⟨rc, rs, rfl, hrc, hrs⟩, hret, hnw, hisI⟩ := id C
      obtain ⟨scr, b1, b2, b3, b4, b5, b6, b7⟩ := hr.2.2.2.2.2.2.2.2.1
      subst h17
      exact W.alen (n := 125) hx hb b1 b2 b5 rfl rfl hd (kk.2 C hm hq H locs ls cl sl h1 h2 hr hS hL)
    · rw [if_neg h17] at hX; cases hX
theorem s_iast {a : Nat} {i : Int32} {v : Int32} {K : Mem → Option (α × Mem)} (hd : decode cc pc = .ok (.iastore, 1)) (kk : ∀ S1, Sim cc own fr lo ret isI Γ ι (K S1) S1 (pc + 1) L st) : Sim cc own fr lo ret isI Γ ι ((sA S a i v).bind K) S pc L (.int v :: .int i :: .ref a :: st) := by
  obtain ⟨p, l, e, R, s, m, args, below, meth, c, nL, D, cs, z, mc, ms, z0, q0⟩ := Γ
  intro r S' hX
  unfold sA at hX
  by_cases hk : mK S a = 10 ∧ inB i (mN S a)
  · rw [if_pos hk] at hX
    have kk := kk _ r S' hX
    refine ⟨kk.1, fun C hm hq H locs ls cl sl h1 h2 hr hS hL => ?_⟩
    obtain ⟨hx, hb, hml, hown, hts, hK, hlk, ⟨rc, rs, rfl, hrc, hrs⟩, hret, hnw, hisI⟩ := id C
    obtain ⟨hza, ha⟩ := hr_ar hr hk.1 (by decide) (by decide)
    refine W.iast hx hb ha ((hK.2 1 _ rfl).1 _ _) (fun q => by cases q) (by rw [arrV_size]; exact hk.2.vp) rfl rfl hd fun H1 e1 e2 e3 => ?_
    refine kk.2 C hm hq H1 _ ls cl sl h1 h2 (hR_upd hr (Ag_pI S a i.toNatClampNeg v) e2 e3 (fun h => absurd h (by rw [hk.1]; decide)) (fun _ _ => ?_) (by rw [hk.1]; decide) hza) (hS.put e2 e3 hza) hL
    unfold hAr
    rw [e1, arrV_store]
    show some (arrV (cs 10) (mN S a) _) = some (arrV (cs (mK S a)) (mN S a) (arV (mK S a) _ a))
    rw [hk.1]
    congr 2
    funext q
    unfold updV
    by_cases hq : q = i.toNatClampNeg
    · subst hq
      rw [if_pos rfl]
      show _ = Value.int (mI (pI S a _ v) a _)
      rw [pI_s]
    · rw [if_neg hq]
      show Value.int (mI S a q) = Value.int (mI (pI S a _ v) a q)
      rw [pI_n S _ hq]
  · rw [if_neg hk] at hX; cases hX
theorem s_bast {a : Nat} {i : Int32} {v : Int32} {K : Mem → Option (α × Mem)} (hd : decode cc pc = .ok (.bastore, 1)) (kk : ∀ S1, Sim cc own fr lo ret isI Γ ι (K S1) S1 (pc + 1) L st) : Sim cc own fr lo ret isI Γ ι ((sAB S a i v).bind K) S pc L (.int v :: .int i :: .ref a :: st) := by
  obtain ⟨p, l, e, R, s, m, args, below, meth, c, nL, D, cs, z, mc, ms, z0, q0⟩ := Γ
  intro r S' hX
  unfold sAB at hX
  by_cases hk : mK S a = 9 ∧ inB i (mN S a)
  · rw [if_pos hk] at hX
    have kk := kk _ r S' hX
    refine ⟨kk.1, fun C hm hq H locs ls cl sl h1 h2 hr hS hL => ?_⟩
    obtain ⟨hx, hb, hml, hown, hts, hK, hlk, ⟨rc, rs, rfl, hrc, hrs⟩, hret, hnw, hisI⟩ := id C
    obtain ⟨hza, ha⟩ := hr_ar hr hk.1 (by decide) (by decide)
    refine W.bast hx hb ha ((hK.2 0 _ rfl).1 _ _) (fun q => by cases q) (by rw [arrV_size]; exact hk.2.vp) rfl rfl hd fun H1 e1 e2 e3 => ?_
    refine kk.2 C hm hq H1 _ ls cl sl h1 h2 (hR_upd hr (Ag_pI S a i.toNatClampNeg (vp_nar .byte v)) e2 e3 (fun h => absurd h (by rw [hk.1]; decide)) (fun _ _ => ?_) (by rw [hk.1]; decide) hza) (hS.put e2 e3 hza) hL
    unfold hAr
    rw [e1, arrV_store]
    show some (arrV (cs 9) (mN S a) _) = some (arrV (cs (mK S a)) (mN S a) (arV (mK S a) _ a))
    rw [hk.1]
    congr 2
    funext q
    unfold updV
    by_cases hq : q = i.toNatClampNeg
    · subst hq
      rw [if_pos rfl]
      show _ = Value.int (mI (pI S a _ (vp_nar .byte v)) a _)
      rw [pI_s]; rfl
    · rw [if_neg hq]
      show Value.int (mI S a q) = Value.int (mI (pI S a _ (vp_nar .byte v)) a q)
      rw [pI_n S _ hq]
  · rw [if_neg hk] at hX; cases hX
theorem s_zast {a : Nat} {i : Int32} {v : Int32} {K : Mem → Option (α × Mem)} (hd : decode cc pc = .ok (.bastore, 1)) (kk : ∀ S1, Sim cc own fr lo ret isI Γ ι (K S1) S1 (pc + 1) L st) : Sim cc own fr lo ret isI Γ ι ((sAZ S a i v).bind K) S pc L (.int v :: .int i :: .ref a :: st) := by
  obtain ⟨p, l, e, R, s, m, args, below, meth, c, nL, D, cs, z, mc, ms, z0, q0⟩ := Γ
  intro r S' hX
  unfold sAZ at hX
  by_cases hk : mK S a = 12 ∧ inB i (mN S a)
  · rw [if_pos hk] at hX
    have kk := kk _ r S' hX
    refine ⟨kk.1, fun C hm hq H locs ls cl sl h1 h2 hr hS hL => ?_⟩
    obtain ⟨hx, hb, hml, hown, hts, hK, hlk, ⟨rc, rs, rfl, hrc, hrs⟩, hret, hnw, hisI⟩ := id C
    obtain ⟨hza, ha⟩ := hr_ar hr hk.1 (by decide) (by decide)
    refine W.zast hx hb ha ((hK.2 3 _ rfl).1 _ _) (fun q => by cases q) (by rw [arrV_size]; exact hk.2.vp) rfl rfl hd fun H1 e1 e2 e3 => ?_
    refine kk.2 C hm hq H1 _ ls cl sl h1 h2 (hR_upd hr (Ag_pI S a i.toNatClampNeg (vp_nar .boolean v)) e2 e3 (fun h => absurd h (by rw [hk.1]; decide)) (fun _ _ => ?_) (by rw [hk.1]; decide) hza) (hS.put e2 e3 hza) hL
    unfold hAr
    rw [e1, arrV_store]
    show some (arrV (cs 12) (mN S a) _) = some (arrV (cs (mK S a)) (mN S a) (arV (mK S a) _ a))
    rw [hk.1]
    congr 2
    funext q
    unfold updV
    by_cases hq : q = i.toNatClampNeg
    · subst hq
      rw [if_pos rfl]
      show _ = Value.int (mI (pI S a _ (vp_nar .boolean v)) a _)
      rw [pI_s]; rfl
    · rw [if_neg hq]
      show Value.int (mI S a q) = Value.int (mI (pI S a _ (vp_nar .boolean v)) a q)
      rw [pI_n S _ hq]
  · rw [if_neg hk] at hX; cases hX
theorem s_last {a : Nat} {i : Int32} {v : Int64} {K : Mem → Option (α × Mem)} (hd : decode cc pc = .ok (.lastore, 1)) (kk : ∀ S1, Sim cc own fr lo ret isI Γ ι (K S1) S1 (pc + 1) L st) : Sim cc own fr lo ret isI Γ ι ((sAJ S a i v).bind K) S pc L (.long v :: .int i :: .ref a :: st) := by
  obtain ⟨p, l, e, R, s, m, args, below, meth, c, nL, D, cs, z, mc, ms, z0, q0⟩ := Γ
  intro r S' hX
  unfold sAJ at hX
  by_cases hk : mK S a = 11 ∧ inB i (mN S a)
  · rw [if_pos hk] at hX
    have kk := kk _ r S' hX
    refine ⟨kk.1, fun C hm hq H locs ls cl sl h1 h2 hr hS hL => ?_⟩
    obtain ⟨hx, hb, hml, hown, hts, hK, hlk, ⟨rc, rs, rfl, hrc, hrs⟩, hret, hnw, hisI⟩ := id C
    obtain ⟨hza, ha⟩ := hr_ar hr hk.1 (by decide) (by decide)
    refine W.last hx hb ha ((hK.2 2 _ rfl).1 _ _) (fun q => by cases q) (by rw [arrV_size]; exact hk.2.vp) rfl rfl hd fun H1 e1 e2 e3 => ?_
    refine kk.2 C hm hq H1 _ ls cl sl h1 h2 (hR_upd hr (Ag_pJ S a i.toNatClampNeg v) e2 e3 (fun h => absurd h (by rw [hk.1]; decide)) (fun _ _ => ?_) (by rw [hk.1]; decide) hza) (hS.put e2 e3 hza) hL
    unfold hAr
    rw [e1, arrV_store]
    show some (arrV (cs 11) (mN S a) _) = some (arrV (cs (mK S a)) (mN S a) (arV (mK S a) _ a))
    rw [hk.1]
    congr 2
    funext q
    unfold updV
    by_cases hq : q = i.toNatClampNeg
    · subst hq
      rw [if_pos rfl]
      show _ = Value.long (mJ (pJ S a _ v) a _)
      rw [pJ_s]
    · rw [if_neg hq]
      show Value.long (mJ S a q) = Value.long (mJ (pJ S a _ v) a q)
      rw [pJ_n S _ hq]
  · rw [if_neg hk] at hX; cases hX
theorem s_tald {a : Nat} {i : Int32} {K : Int32 → Option (α × Mem)} (hd : decode cc pc = .ok (.baload, 1)) (kk : ∀ v, Sim cc own fr lo ret isI Γ ι (K v) S (pc + 1) L (.int v :: st)) : Sim cc own fr lo ret isI Γ ι ((gT S a i).bind K) S pc L (.int i :: .ref a :: st) := by
  obtain ⟨p, l, e, R, s, m, args, below, meth, c, nL, D, cs, z, mc, ms, z0, q0⟩ := Γ
  intro r S' hX
  unfold gT at hX
  by_cases hk : a = mB S ∧ inB i 125
  · rw [if_pos hk] at hX
    have kk := kk _ r S' hX
    refine ⟨kk.1, fun C hm hq H locs ls cl sl h1 h2 hr hS hL => ?_⟩
    obtain ⟨hx, hb, hml, hown, hts, hK, hlk, ⟨rc, rs, rfl, hrc, hrs⟩, hret, hnw, hisI⟩ := id C
    obtain ⟨scr, b1, b2, b3, b4, b5, b6, b7⟩ := hr.2.2.2.2.2.2.2.2.1
    obtain ⟨rfl, hk⟩ := hk
    exact W.bald (v := .int (txB.getD i.toNatClampNeg 0)) hx hb b1 b2 b3 (fun q => q.elim hk.1 (fun q => absurd hk.2 (by omega))) (b6 _ hk.2) rfl rfl hd (kk.2 C hm hq H locs ls cl sl h1 h2 hr hS hL)
  · rw [if_neg hk] at hX; cases hX
theorem s_getSV {idx a : Nat} {K : Nat → Option (α × Mem)} (hw : Cond.fieldLink own idx "java/lang/String" "value" "[B" ∈ lw_g) (hd : decode cc pc = .ok (.getfield idx, 3)) (kk : ∀ v, Sim cc own fr lo ret isI Γ ι (K v) S (pc + 3) L (.ref v :: st)) : Sim cc own fr lo ret isI Γ ι ((gSV S a).bind K) S pc L (.ref a :: st) := by
  obtain ⟨p, l, e, R, s, m, args, below, meth, c, nL, D, cs, z, mc, ms, z0, q0⟩ := Γ
  intro r S' hX
  unfold gSV at hX
  by_cases hk : a = mT S
  · rw [if_pos hk] at hX
    have kk := kk _ r S' hX
    refine ⟨kk.1, fun C hm hq H locs ls cl sl h1 h2 hr hS hL => ?_⟩
    obtain ⟨hx, hb, hml, hown, hts, hK, hlk, ⟨rc, rs, rfl, hrc, hrs⟩, hret, hnw, hisI⟩ := id C
    obtain ⟨cf, k, fi, f, cell, b1, b2, b3, b4, b5, b6⟩ := hr.2.2.2.2.2.2.2.1.2.2
    subst hk
    exact W.getf hx hb hown (hts _ hw) b1 b2 b3 b4 (v := .ref (mB S)) b5 rfl rfl hd (kk.2 C hm hq H locs ls cl sl h1 h2 hr hS hL)
  · rw [if_neg hk] at hX; cases hX
theorem s_getSC {idx a : Nat} {K : Int32 → Option (α × Mem)} (hw : Cond.fieldLink own idx "java/lang/String" "coder" "B" ∈ lw_g) (hd : decode cc pc = .ok (.getfield idx, 3)) (kk : ∀ v, Sim cc own fr lo ret isI Γ ι (K v) S (pc + 3) L (.int v :: st)) : Sim cc own fr lo ret isI Γ ι ((gSC S a).bind K) S pc L (.ref a :: st) := by
  obtain ⟨p, l, e, R, s, m, args, below, meth, c, nL, D, cs, z, mc, ms, z0, q0⟩ := Γ
  intro r S' hX
  unfold gSC at hX
  by_cases hk : a = mT S
  · rw [if_pos hk] at hX
    have kk := kk _ r S' hX
    refine ⟨kk.1, fun C hm hq H locs ls cl sl h1 h2 hr hS hL => ?_⟩
    obtain ⟨hx, hb, hml, hown, hts, hK, hlk, ⟨rc, rs, rfl, hrc, hrs⟩, hret, hnw, hisI⟩ := id C
    obtain ⟨cf, k, fi, f, cell, b1, b2, b3, b4, b5, b6⟩ := hr.2.2.2.2.2.2.2.1.2.1
    subst hk
    exact W.getf hx hb hown (hts _ hw) b1 b2 b3 b4 (v := .int 0) b5 rfl rfl hd (kk.2 C hm hq H locs ls cl sl h1 h2 hr hS hL)
  · rw [if_neg hk] at hX; cases hX
end HROWS
