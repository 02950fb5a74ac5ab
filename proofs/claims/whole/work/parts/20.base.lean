/-! what the accessors answer -/
theorem gI_of {S : Mem} {ci k a : Nat} (h : mK S a = ci) : gI S ci k a = some (mI S a k) := by simp [gI, h]
theorem gJ_of {S : Mem} {ci k a : Nat} (h : mK S a = ci) : gJ S ci k a = some (mJ S a k) := by simp [gJ, h]
theorem gR_of {S : Mem} {ci k a q : Nat} (h : mK S a = ci) (hr : mR S a k = some q) : gR S ci k a = some q := by simp [gR, h, hr]
theorem sI_of {S : Mem} {ci k a : Nat} {v : Int32} (h : mK S a = ci) : sI S ci k a v = some (pI S a k v) := by simp [sI, h]
theorem sJ_of {S : Mem} {ci k a : Nat} {v : Int64} (h : mK S a = ci) : sJ S ci k a v = some (pJ S a k v) := by simp [sJ, h]
theorem sR_of {S : Mem} {ci k a v : Nat} (h : mK S a = ci) : sR S ci k a v = some (pR S a k (some v)) := by simp [sR, h]
theorem cal_of {α : Type} {S : Mem} {ci a : Nat} {X : Option α} (h : mK S a = ci) : cal S ci a X = X := by simp [cal, h]
theorem bd_some {β γ : Type} {v : β} {S : Mem} {K : β → Mem → Option γ} : bd (some (v, S)) K = K v S := rfl
theorem inB_nI {n N : Nat} (h : n < N) (hN : N ≤ 2 ^ 31) : inB (nI n) N := ⟨nI_pos (by omega), by rw [nI_clamp (by omega)]; exact h⟩
theorem gA_of {S : Mem} {kd a n N : Nat} (h : mK S a = kd) (hN : mN S a = N) (hn : n < N) (hb : N ≤ 2 ^ 31) : gA S kd a (nI n) = some (mI S a n) := by
  have h1 := inB_nI hn hb
  rw [← hN] at h1
  unfold gA
  rw [if_pos ⟨h, h1⟩, nI_clamp (by omega)]
theorem sA_of {S : Mem} {a n N : Nat} {v : Int32} (h : mK S a = 10) (hN : mN S a = N) (hn : n < N) (hb : N ≤ 2 ^ 31) : sA S a (nI n) v = some (pI S a n v) := by
  have h1 := inB_nI hn hb
  rw [← hN] at h1
  unfold sA
  rw [if_pos ⟨h, h1⟩, nI_clamp (by omega)]
theorem gAJ_of {S : Mem} {a n N : Nat} (h : mK S a = 11) (hN : mN S a = N) (hn : n < N) (hb : N ≤ 2 ^ 31) : gAJ S a (nI n) = some (mJ S a n) := by
  have h1 := inB_nI hn hb
  rw [← hN] at h1
  unfold gAJ
  rw [if_pos ⟨h, h1⟩, nI_clamp (by omega)]
/-- the memory with other whole numbers -/
def wI (S : Mem) (f : Nat → Nat → Int32) : Mem := (S.1, S.2.1, f, S.2.2.2)
theorem pI_wI (S : Mem) (a k : Nat) (v : Int32) : pI S a k v = wI S (u2 (mI S) a k v) := rfl
theorem wI_wI (S : Mem) (f g : Nat → Nat → Int32) : wI (wI S f) g = wI S g := rfl
theorem wI_mI (S : Mem) (f : Nat → Nat → Int32) : mI (wI S f) = f := rfl
theorem wI_self (S : Mem) : wI S (mI S) = S := rfl
/-- the model's shape: its rows lie behind it -/
def shM (S : Mem) (M : Nat) : Prop := mK S M = 8 ∧ (mR S M 2 = some (M + 1) ∧ mK S (M + 1) = 10 ∧ mN S (M + 1) = 1000) ∧ (mR S M 10 = some (M + 2) ∧ mK S (M + 2) = 10 ∧ mN S (M + 2) = 30) ∧ (mR S M 11 = some (M + 3) ∧ mK S (M + 3) = 10 ∧ mN S (M + 3) = 36) ∧ (mR S M 12 = some (M + 4) ∧ mK S (M + 4) = 10 ∧ mN S (M + 4) = 36) ∧ (mR S M 13 = some (M + 5) ∧ mK S (M + 5) = 10 ∧ mN S (M + 5) = 36) ∧ (mR S M 14 = some (M + 6) ∧ mK S (M + 6) = 10 ∧ mN S (M + 6) = 36) ∧ (mR S M 15 = some (M + 7) ∧ mK S (M + 7) = 10 ∧ mN S (M + 7) = 36) ∧ (mR S M 16 = some (M + 8) ∧ mK S (M + 8) = 11 ∧ mN S (M + 8) = 6) ∧ (mR S M 17 = some (M + 9) ∧ mK S (M + 9) = 10 ∧ mN S (M + 9) = 12) ∧ (mR S M 18 = some (M + 10) ∧ mK S (M + 10) = 10 ∧ mN S (M + 10) = 12) ∧ (mR S M 19 = some (M + 11) ∧ mK S (M + 11) = 10 ∧ mN S (M + 11) = 6000) ∧ (mR S M 23 = some (M + 12) ∧ mK S (M + 12) = 10 ∧ mN S (M + 12) = 7) ∧ (mR S M 24 = some (M + 13) ∧ mK S (M + 13) = 12 ∧ mN S (M + 13) = 7) ∧ (mR S M 25 = some (M + 14) ∧ mK S (M + 14) = 10 ∧ mN S (M + 14) = 7) ∧ (mR S M 26 = some (M + 15) ∧ mK S (M + 15) = 10 ∧ mN S (M + 15) = 7) ∧ (mR S M 27 = some (M + 16) ∧ mK S (M + 16) = 10 ∧ mN S (M + 16) = 7) ∧ (mR S M 28 = some (M + 17) ∧ mK S (M + 17) = 10 ∧ mN S (M + 17) = 7) ∧ (mR S M 29 = some (M + 18) ∧ mK S (M + 18) = 10 ∧ mN S (M + 18) = 7) ∧ (mR S M 30 = some (M + 19) ∧ mK S (M + 19) = 10 ∧ mN S (M + 19) = 7) ∧ (mR S M 31 = some (M + 20) ∧ mK S (M + 20) = 10 ∧ mN S (M + 20) = 7) ∧ (mR S M 32 = some (M + 21) ∧ mK S (M + 21) = 10 ∧ mN S (M + 21) = 7) ∧ (mR S M 33 = some (M + 22) ∧ mK S (M + 22) = 10 ∧ mN S (M + 22) = 7) ∧ (mR S M 34 = some (M + 23) ∧ mK S (M + 23) = 10 ∧ mN S (M + 23) = 20) ∧ (mR S M 36 = some (M + 24) ∧ mK S (M + 24) = 10 ∧ mN S (M + 24) = 64) ∧ (mR S M 37 = some (M + 25) ∧ mK S (M + 25) = 10 ∧ mN S (M + 25) = 64) ∧ (mR S M 38 = some (M + 26) ∧ mK S (M + 26) = 10 ∧ mN S (M + 26) = 256) ∧ (mR S M 39 = some (M + 27) ∧ mK S (M + 27) = 10 ∧ mN S (M + 27) = 41) ∧ (mR S M 40 = some (M + 28) ∧ mK S (M + 28) = 10 ∧ mN S (M + 28) = 6) ∧ (mR S M 44 = some (M + 29) ∧ mK S (M + 29) = 10 ∧ mN S (M + 29) = 6) ∧ (mR S M 49 = some (M + 30) ∧ mK S (M + 30) = 10 ∧ mN S (M + 30) = 6) ∧ (mR S M 51 = some (M + 31) ∧ mK S (M + 31) = 12 ∧ mN S (M + 31) = 4)
theorem gm_tape {S : Mem} {M : Nat} (h : shM S M) : gR S 8 2 M = some (M + 1) := gR_of h.1 (h.2.1).1
theorem am_tape {S : Mem} {M n : Nat} (h : shM S M) (hn : n < 1000) : gA S 10 (M + 1) (nI n) = some (mI S (M + 1) n) := gA_of (h.2.1).2.1 (h.2.1).2.2 hn (by decide)
theorem um_tape {S : Mem} {M n : Nat} {v : Int32} (h : shM S M) (hn : n < 1000) : sA S (M + 1) (nI n) v = some (pI S (M + 1) n v) := sA_of (h.2.1).2.1 (h.2.1).2.2 hn (by decide)
theorem gm_sky {S : Mem} {M : Nat} (h : shM S M) : gR S 8 10 M = some (M + 2) := gR_of h.1 (h.2.2.1).1
theorem am_sky {S : Mem} {M n : Nat} (h : shM S M) (hn : n < 30) : gA S 10 (M + 2) (nI n) = some (mI S (M + 2) n) := gA_of (h.2.2.1).2.1 (h.2.2.1).2.2 hn (by decide)
theorem um_sky {S : Mem} {M n : Nat} {v : Int32} (h : shM S M) (hn : n < 30) : sA S (M + 2) (nI n) v = some (pI S (M + 2) n v) := sA_of (h.2.2.1).2.1 (h.2.2.1).2.2 hn (by decide)
theorem gm_kind {S : Mem} {M : Nat} (h : shM S M) : gR S 8 11 M = some (M + 3) := gR_of h.1 (h.2.2.2.1).1
theorem am_kind {S : Mem} {M n : Nat} (h : shM S M) (hn : n < 36) : gA S 10 (M + 3) (nI n) = some (mI S (M + 3) n) := gA_of (h.2.2.2.1).2.1 (h.2.2.2.1).2.2 hn (by decide)
theorem um_kind {S : Mem} {M n : Nat} {v : Int32} (h : shM S M) (hn : n < 36) : sA S (M + 3) (nI n) v = some (pI S (M + 3) n v) := sA_of (h.2.2.2.1).2.1 (h.2.2.2.1).2.2 hn (by decide)
theorem gm_winch {S : Mem} {M : Nat} (h : shM S M) : gR S 8 12 M = some (M + 4) := gR_of h.1 (h.2.2.2.2.1).1
theorem am_winch {S : Mem} {M n : Nat} (h : shM S M) (hn : n < 36) : gA S 10 (M + 4) (nI n) = some (mI S (M + 4) n) := gA_of (h.2.2.2.2.1).2.1 (h.2.2.2.2.1).2.2 hn (by decide)
theorem um_winch {S : Mem} {M n : Nat} {v : Int32} (h : shM S M) (hn : n < 36) : sA S (M + 4) (nI n) v = some (pI S (M + 4) n v) := sA_of (h.2.2.2.2.1).2.1 (h.2.2.2.2.1).2.2 hn (by decide)
theorem gm_lift {S : Mem} {M : Nat} (h : shM S M) : gR S 8 13 M = some (M + 5) := gR_of h.1 (h.2.2.2.2.2.1).1
theorem am_lift {S : Mem} {M n : Nat} (h : shM S M) (hn : n < 36) : gA S 10 (M + 5) (nI n) = some (mI S (M + 5) n) := gA_of (h.2.2.2.2.2.1).2.1 (h.2.2.2.2.2.1).2.2 hn (by decide)
theorem um_lift {S : Mem} {M n : Nat} {v : Int32} (h : shM S M) (hn : n < 36) : sA S (M + 5) (nI n) v = some (pI S (M + 5) n v) := sA_of (h.2.2.2.2.2.1).2.1 (h.2.2.2.2.2.1).2.2 hn (by decide)
theorem gm_least {S : Mem} {M : Nat} (h : shM S M) : gR S 8 14 M = some (M + 6) := gR_of h.1 (h.2.2.2.2.2.2.1).1
theorem am_least {S : Mem} {M n : Nat} (h : shM S M) (hn : n < 36) : gA S 10 (M + 6) (nI n) = some (mI S (M + 6) n) := gA_of (h.2.2.2.2.2.2.1).2.1 (h.2.2.2.2.2.2.1).2.2 hn (by decide)
theorem um_least {S : Mem} {M n : Nat} {v : Int32} (h : shM S M) (hn : n < 36) : sA S (M + 6) (nI n) v = some (pI S (M + 6) n v) := sA_of (h.2.2.2.2.2.2.1).2.1 (h.2.2.2.2.2.2.1).2.2 hn (by decide)
theorem gm_longAt {S : Mem} {M : Nat} (h : shM S M) : gR S 8 15 M = some (M + 7) := gR_of h.1 (h.2.2.2.2.2.2.2.1).1
theorem am_longAt {S : Mem} {M n : Nat} (h : shM S M) (hn : n < 36) : gA S 10 (M + 7) (nI n) = some (mI S (M + 7) n) := gA_of (h.2.2.2.2.2.2.2.1).2.1 (h.2.2.2.2.2.2.2.1).2.2 hn (by decide)
theorem um_longAt {S : Mem} {M n : Nat} {v : Int32} (h : shM S M) (hn : n < 36) : sA S (M + 7) (nI n) v = some (pI S (M + 7) n v) := sA_of (h.2.2.2.2.2.2.2.1).2.1 (h.2.2.2.2.2.2.2.1).2.2 hn (by decide)
theorem gm_names {S : Mem} {M : Nat} (h : shM S M) : gR S 8 16 M = some (M + 8) := gR_of h.1 (h.2.2.2.2.2.2.2.2.1).1
theorem am_names {S : Mem} {M n : Nat} (h : shM S M) (hn : n < 6) : gAJ S (M + 8) (nI n) = some (mJ S (M + 8) n) := gAJ_of (h.2.2.2.2.2.2.2.2.1).2.1 (h.2.2.2.2.2.2.2.2.1).2.2 hn (by decide)
theorem gm_lineFrom {S : Mem} {M : Nat} (h : shM S M) : gR S 8 17 M = some (M + 9) := gR_of h.1 (h.2.2.2.2.2.2.2.2.2.1).1
theorem am_lineFrom {S : Mem} {M n : Nat} (h : shM S M) (hn : n < 12) : gA S 10 (M + 9) (nI n) = some (mI S (M + 9) n) := gA_of (h.2.2.2.2.2.2.2.2.2.1).2.1 (h.2.2.2.2.2.2.2.2.2.1).2.2 hn (by decide)
theorem um_lineFrom {S : Mem} {M n : Nat} {v : Int32} (h : shM S M) (hn : n < 12) : sA S (M + 9) (nI n) v = some (pI S (M + 9) n v) := sA_of (h.2.2.2.2.2.2.2.2.2.1).2.1 (h.2.2.2.2.2.2.2.2.2.1).2.2 hn (by decide)
theorem gm_lineTo {S : Mem} {M : Nat} (h : shM S M) : gR S 8 18 M = some (M + 10) := gR_of h.1 (h.2.2.2.2.2.2.2.2.2.2.1).1
theorem am_lineTo {S : Mem} {M n : Nat} (h : shM S M) (hn : n < 12) : gA S 10 (M + 10) (nI n) = some (mI S (M + 10) n) := gA_of (h.2.2.2.2.2.2.2.2.2.2.1).2.1 (h.2.2.2.2.2.2.2.2.2.2.1).2.2 hn (by decide)
theorem um_lineTo {S : Mem} {M n : Nat} {v : Int32} (h : shM S M) (hn : n < 12) : sA S (M + 10) (nI n) v = some (pI S (M + 10) n v) := sA_of (h.2.2.2.2.2.2.2.2.2.2.1).2.1 (h.2.2.2.2.2.2.2.2.2.2.1).2.2 hn (by decide)
theorem gm_codes {S : Mem} {M : Nat} (h : shM S M) : gR S 8 19 M = some (M + 11) := gR_of h.1 (h.2.2.2.2.2.2.2.2.2.2.2.1).1
theorem am_codes {S : Mem} {M n : Nat} (h : shM S M) (hn : n < 6000) : gA S 10 (M + 11) (nI n) = some (mI S (M + 11) n) := gA_of (h.2.2.2.2.2.2.2.2.2.2.2.1).2.1 (h.2.2.2.2.2.2.2.2.2.2.2.1).2.2 hn (by decide)
theorem um_codes {S : Mem} {M n : Nat} {v : Int32} (h : shM S M) (hn : n < 6000) : sA S (M + 11) (nI n) v = some (pI S (M + 11) n v) := sA_of (h.2.2.2.2.2.2.2.2.2.2.2.1).2.1 (h.2.2.2.2.2.2.2.2.2.2.2.1).2.2 hn (by decide)
theorem gm_opened {S : Mem} {M : Nat} (h : shM S M) : gR S 8 23 M = some (M + 12) := gR_of h.1 (h.2.2.2.2.2.2.2.2.2.2.2.2.1).1
theorem am_opened {S : Mem} {M n : Nat} (h : shM S M) (hn : n < 7) : gA S 10 (M + 12) (nI n) = some (mI S (M + 12) n) := gA_of (h.2.2.2.2.2.2.2.2.2.2.2.2.1).2.1 (h.2.2.2.2.2.2.2.2.2.2.2.2.1).2.2 hn (by decide)
theorem um_opened {S : Mem} {M n : Nat} {v : Int32} (h : shM S M) (hn : n < 7) : sA S (M + 12) (nI n) v = some (pI S (M + 12) n v) := sA_of (h.2.2.2.2.2.2.2.2.2.2.2.2.1).2.1 (h.2.2.2.2.2.2.2.2.2.2.2.2.1).2.2 hn (by decide)
theorem gm_compared {S : Mem} {M : Nat} (h : shM S M) : gR S 8 24 M = some (M + 13) := gR_of h.1 (h.2.2.2.2.2.2.2.2.2.2.2.2.2.1).1
theorem am_compared {S : Mem} {M n : Nat} (h : shM S M) (hn : n < 7) : gA S 12 (M + 13) (nI n) = some (mI S (M + 13) n) := gA_of (h.2.2.2.2.2.2.2.2.2.2.2.2.2.1).2.1 (h.2.2.2.2.2.2.2.2.2.2.2.2.2.1).2.2 hn (by decide)
theorem gm_kept {S : Mem} {M : Nat} (h : shM S M) : gR S 8 25 M = some (M + 14) := gR_of h.1 (h.2.2.2.2.2.2.2.2.2.2.2.2.2.2.1).1
theorem am_kept {S : Mem} {M n : Nat} (h : shM S M) (hn : n < 7) : gA S 10 (M + 14) (nI n) = some (mI S (M + 14) n) := gA_of (h.2.2.2.2.2.2.2.2.2.2.2.2.2.2.1).2.1 (h.2.2.2.2.2.2.2.2.2.2.2.2.2.2.1).2.2 hn (by decide)
theorem um_kept {S : Mem} {M n : Nat} {v : Int32} (h : shM S M) (hn : n < 7) : sA S (M + 14) (nI n) v = some (pI S (M + 14) n v) := sA_of (h.2.2.2.2.2.2.2.2.2.2.2.2.2.2.1).2.1 (h.2.2.2.2.2.2.2.2.2.2.2.2.2.2.1).2.2 hn (by decide)
theorem gm_keptBy {S : Mem} {M : Nat} (h : shM S M) : gR S 8 26 M = some (M + 15) := gR_of h.1 (h.2.2.2.2.2.2.2.2.2.2.2.2.2.2.2.1).1
theorem am_keptBy {S : Mem} {M n : Nat} (h : shM S M) (hn : n < 7) : gA S 10 (M + 15) (nI n) = some (mI S (M + 15) n) := gA_of (h.2.2.2.2.2.2.2.2.2.2.2.2.2.2.2.1).2.1 (h.2.2.2.2.2.2.2.2.2.2.2.2.2.2.2.1).2.2 hn (by decide)
theorem um_keptBy {S : Mem} {M n : Nat} {v : Int32} (h : shM S M) (hn : n < 7) : sA S (M + 15) (nI n) v = some (pI S (M + 15) n v) := sA_of (h.2.2.2.2.2.2.2.2.2.2.2.2.2.2.2.1).2.1 (h.2.2.2.2.2.2.2.2.2.2.2.2.2.2.2.1).2.2 hn (by decide)
theorem gm_ahead {S : Mem} {M : Nat} (h : shM S M) : gR S 8 27 M = some (M + 16) := gR_of h.1 (h.2.2.2.2.2.2.2.2.2.2.2.2.2.2.2.2.1).1
theorem am_ahead {S : Mem} {M n : Nat} (h : shM S M) (hn : n < 7) : gA S 10 (M + 16) (nI n) = some (mI S (M + 16) n) := gA_of (h.2.2.2.2.2.2.2.2.2.2.2.2.2.2.2.2.1).2.1 (h.2.2.2.2.2.2.2.2.2.2.2.2.2.2.2.2.1).2.2 hn (by decide)
theorem um_ahead {S : Mem} {M n : Nat} {v : Int32} (h : shM S M) (hn : n < 7) : sA S (M + 16) (nI n) v = some (pI S (M + 16) n v) := sA_of (h.2.2.2.2.2.2.2.2.2.2.2.2.2.2.2.2.1).2.1 (h.2.2.2.2.2.2.2.2.2.2.2.2.2.2.2.2.1).2.2 hn (by decide)
theorem gm_against {S : Mem} {M : Nat} (h : shM S M) : gR S 8 28 M = some (M + 17) := gR_of h.1 (h.2.2.2.2.2.2.2.2.2.2.2.2.2.2.2.2.2.1).1
theorem am_against {S : Mem} {M n : Nat} (h : shM S M) (hn : n < 7) : gA S 10 (M + 17) (nI n) = some (mI S (M + 17) n) := gA_of (h.2.2.2.2.2.2.2.2.2.2.2.2.2.2.2.2.2.1).2.1 (h.2.2.2.2.2.2.2.2.2.2.2.2.2.2.2.2.2.1).2.2 hn (by decide)
theorem um_against {S : Mem} {M n : Nat} {v : Int32} (h : shM S M) (hn : n < 7) : sA S (M + 17) (nI n) v = some (pI S (M + 17) n v) := sA_of (h.2.2.2.2.2.2.2.2.2.2.2.2.2.2.2.2.2.1).2.1 (h.2.2.2.2.2.2.2.2.2.2.2.2.2.2.2.2.2.1).2.2 hn (by decide)
theorem gm_sum {S : Mem} {M : Nat} (h : shM S M) : gR S 8 29 M = some (M + 18) := gR_of h.1 (h.2.2.2.2.2.2.2.2.2.2.2.2.2.2.2.2.2.2.1).1
theorem am_sum {S : Mem} {M n : Nat} (h : shM S M) (hn : n < 7) : gA S 10 (M + 18) (nI n) = some (mI S (M + 18) n) := gA_of (h.2.2.2.2.2.2.2.2.2.2.2.2.2.2.2.2.2.2.1).2.1 (h.2.2.2.2.2.2.2.2.2.2.2.2.2.2.2.2.2.2.1).2.2 hn (by decide)
theorem um_sum {S : Mem} {M n : Nat} {v : Int32} (h : shM S M) (hn : n < 7) : sA S (M + 18) (nI n) v = some (pI S (M + 18) n v) := sA_of (h.2.2.2.2.2.2.2.2.2.2.2.2.2.2.2.2.2.2.1).2.1 (h.2.2.2.2.2.2.2.2.2.2.2.2.2.2.2.2.2.2.1).2.2 hn (by decide)
theorem gm_sumBy {S : Mem} {M : Nat} (h : shM S M) : gR S 8 30 M = some (M + 19) := gR_of h.1 (h.2.2.2.2.2.2.2.2.2.2.2.2.2.2.2.2.2.2.2.1).1
theorem am_sumBy {S : Mem} {M n : Nat} (h : shM S M) (hn : n < 7) : gA S 10 (M + 19) (nI n) = some (mI S (M + 19) n) := gA_of (h.2.2.2.2.2.2.2.2.2.2.2.2.2.2.2.2.2.2.2.1).2.1 (h.2.2.2.2.2.2.2.2.2.2.2.2.2.2.2.2.2.2.2.1).2.2 hn (by decide)
theorem um_sumBy {S : Mem} {M n : Nat} {v : Int32} (h : shM S M) (hn : n < 7) : sA S (M + 19) (nI n) v = some (pI S (M + 19) n v) := sA_of (h.2.2.2.2.2.2.2.2.2.2.2.2.2.2.2.2.2.2.2.1).2.1 (h.2.2.2.2.2.2.2.2.2.2.2.2.2.2.2.2.2.2.2.1).2.2 hn (by decide)
theorem gm_term {S : Mem} {M : Nat} (h : shM S M) : gR S 8 31 M = some (M + 20) := gR_of h.1 (h.2.2.2.2.2.2.2.2.2.2.2.2.2.2.2.2.2.2.2.2.1).1
theorem am_term {S : Mem} {M n : Nat} (h : shM S M) (hn : n < 7) : gA S 10 (M + 20) (nI n) = some (mI S (M + 20) n) := gA_of (h.2.2.2.2.2.2.2.2.2.2.2.2.2.2.2.2.2.2.2.2.1).2.1 (h.2.2.2.2.2.2.2.2.2.2.2.2.2.2.2.2.2.2.2.2.1).2.2 hn (by decide)
theorem um_term {S : Mem} {M n : Nat} {v : Int32} (h : shM S M) (hn : n < 7) : sA S (M + 20) (nI n) v = some (pI S (M + 20) n v) := sA_of (h.2.2.2.2.2.2.2.2.2.2.2.2.2.2.2.2.2.2.2.2.1).2.1 (h.2.2.2.2.2.2.2.2.2.2.2.2.2.2.2.2.2.2.2.2.1).2.2 hn (by decide)
theorem gm_termBy {S : Mem} {M : Nat} (h : shM S M) : gR S 8 32 M = some (M + 21) := gR_of h.1 (h.2.2.2.2.2.2.2.2.2.2.2.2.2.2.2.2.2.2.2.2.2.1).1
theorem am_termBy {S : Mem} {M n : Nat} (h : shM S M) (hn : n < 7) : gA S 10 (M + 21) (nI n) = some (mI S (M + 21) n) := gA_of (h.2.2.2.2.2.2.2.2.2.2.2.2.2.2.2.2.2.2.2.2.2.1).2.1 (h.2.2.2.2.2.2.2.2.2.2.2.2.2.2.2.2.2.2.2.2.2.1).2.2 hn (by decide)
theorem um_termBy {S : Mem} {M n : Nat} {v : Int32} (h : shM S M) (hn : n < 7) : sA S (M + 21) (nI n) v = some (pI S (M + 21) n v) := sA_of (h.2.2.2.2.2.2.2.2.2.2.2.2.2.2.2.2.2.2.2.2.2.1).2.1 (h.2.2.2.2.2.2.2.2.2.2.2.2.2.2.2.2.2.2.2.2.2.1).2.2 hn (by decide)
theorem gm_byNot {S : Mem} {M : Nat} (h : shM S M) : gR S 8 33 M = some (M + 22) := gR_of h.1 (h.2.2.2.2.2.2.2.2.2.2.2.2.2.2.2.2.2.2.2.2.2.2.1).1
theorem am_byNot {S : Mem} {M n : Nat} (h : shM S M) (hn : n < 7) : gA S 10 (M + 22) (nI n) = some (mI S (M + 22) n) := gA_of (h.2.2.2.2.2.2.2.2.2.2.2.2.2.2.2.2.2.2.2.2.2.2.1).2.1 (h.2.2.2.2.2.2.2.2.2.2.2.2.2.2.2.2.2.2.2.2.2.2.1).2.2 hn (by decide)
theorem um_byNot {S : Mem} {M n : Nat} {v : Int32} (h : shM S M) (hn : n < 7) : sA S (M + 22) (nI n) v = some (pI S (M + 22) n v) := sA_of (h.2.2.2.2.2.2.2.2.2.2.2.2.2.2.2.2.2.2.2.2.2.2.1).2.1 (h.2.2.2.2.2.2.2.2.2.2.2.2.2.2.2.2.2.2.2.2.2.2.1).2.2 hn (by decide)
theorem gm_valueOf {S : Mem} {M : Nat} (h : shM S M) : gR S 8 34 M = some (M + 23) := gR_of h.1 (h.2.2.2.2.2.2.2.2.2.2.2.2.2.2.2.2.2.2.2.2.2.2.2.1).1
theorem am_valueOf {S : Mem} {M n : Nat} (h : shM S M) (hn : n < 20) : gA S 10 (M + 23) (nI n) = some (mI S (M + 23) n) := gA_of (h.2.2.2.2.2.2.2.2.2.2.2.2.2.2.2.2.2.2.2.2.2.2.2.1).2.1 (h.2.2.2.2.2.2.2.2.2.2.2.2.2.2.2.2.2.2.2.2.2.2.2.1).2.2 hn (by decide)
theorem um_valueOf {S : Mem} {M n : Nat} {v : Int32} (h : shM S M) (hn : n < 20) : sA S (M + 23) (nI n) v = some (pI S (M + 23) n v) := sA_of (h.2.2.2.2.2.2.2.2.2.2.2.2.2.2.2.2.2.2.2.2.2.2.2.1).2.1 (h.2.2.2.2.2.2.2.2.2.2.2.2.2.2.2.2.2.2.2.2.2.2.2.1).2.2 hn (by decide)
theorem gm_s {S : Mem} {M : Nat} (h : shM S M) : gR S 8 36 M = some (M + 24) := gR_of h.1 (h.2.2.2.2.2.2.2.2.2.2.2.2.2.2.2.2.2.2.2.2.2.2.2.2.1).1
theorem am_s {S : Mem} {M n : Nat} (h : shM S M) (hn : n < 64) : gA S 10 (M + 24) (nI n) = some (mI S (M + 24) n) := gA_of (h.2.2.2.2.2.2.2.2.2.2.2.2.2.2.2.2.2.2.2.2.2.2.2.2.1).2.1 (h.2.2.2.2.2.2.2.2.2.2.2.2.2.2.2.2.2.2.2.2.2.2.2.2.1).2.2 hn (by decide)
theorem um_s {S : Mem} {M n : Nat} {v : Int32} (h : shM S M) (hn : n < 64) : sA S (M + 24) (nI n) v = some (pI S (M + 24) n v) := sA_of (h.2.2.2.2.2.2.2.2.2.2.2.2.2.2.2.2.2.2.2.2.2.2.2.2.1).2.1 (h.2.2.2.2.2.2.2.2.2.2.2.2.2.2.2.2.2.2.2.2.2.2.2.2.1).2.2 hn (by decide)
theorem gm_aside {S : Mem} {M : Nat} (h : shM S M) : gR S 8 37 M = some (M + 25) := gR_of h.1 (h.2.2.2.2.2.2.2.2.2.2.2.2.2.2.2.2.2.2.2.2.2.2.2.2.2.1).1
theorem am_aside {S : Mem} {M n : Nat} (h : shM S M) (hn : n < 64) : gA S 10 (M + 25) (nI n) = some (mI S (M + 25) n) := gA_of (h.2.2.2.2.2.2.2.2.2.2.2.2.2.2.2.2.2.2.2.2.2.2.2.2.2.1).2.1 (h.2.2.2.2.2.2.2.2.2.2.2.2.2.2.2.2.2.2.2.2.2.2.2.2.2.1).2.2 hn (by decide)
theorem um_aside {S : Mem} {M n : Nat} {v : Int32} (h : shM S M) (hn : n < 64) : sA S (M + 25) (nI n) v = some (pI S (M + 25) n v) := sA_of (h.2.2.2.2.2.2.2.2.2.2.2.2.2.2.2.2.2.2.2.2.2.2.2.2.2.1).2.1 (h.2.2.2.2.2.2.2.2.2.2.2.2.2.2.2.2.2.2.2.2.2.2.2.2.2.1).2.2 hn (by decide)
theorem gm_marked {S : Mem} {M : Nat} (h : shM S M) : gR S 8 38 M = some (M + 26) := gR_of h.1 (h.2.2.2.2.2.2.2.2.2.2.2.2.2.2.2.2.2.2.2.2.2.2.2.2.2.2.1).1
theorem am_marked {S : Mem} {M n : Nat} (h : shM S M) (hn : n < 256) : gA S 10 (M + 26) (nI n) = some (mI S (M + 26) n) := gA_of (h.2.2.2.2.2.2.2.2.2.2.2.2.2.2.2.2.2.2.2.2.2.2.2.2.2.2.1).2.1 (h.2.2.2.2.2.2.2.2.2.2.2.2.2.2.2.2.2.2.2.2.2.2.2.2.2.2.1).2.2 hn (by decide)
theorem um_marked {S : Mem} {M n : Nat} {v : Int32} (h : shM S M) (hn : n < 256) : sA S (M + 26) (nI n) v = some (pI S (M + 26) n v) := sA_of (h.2.2.2.2.2.2.2.2.2.2.2.2.2.2.2.2.2.2.2.2.2.2.2.2.2.2.1).2.1 (h.2.2.2.2.2.2.2.2.2.2.2.2.2.2.2.2.2.2.2.2.2.2.2.2.2.2.1).2.2 hn (by decide)
theorem gm_winds {S : Mem} {M : Nat} (h : shM S M) : gR S 8 39 M = some (M + 27) := gR_of h.1 (h.2.2.2.2.2.2.2.2.2.2.2.2.2.2.2.2.2.2.2.2.2.2.2.2.2.2.2.1).1
theorem am_winds {S : Mem} {M n : Nat} (h : shM S M) (hn : n < 41) : gA S 10 (M + 27) (nI n) = some (mI S (M + 27) n) := gA_of (h.2.2.2.2.2.2.2.2.2.2.2.2.2.2.2.2.2.2.2.2.2.2.2.2.2.2.2.1).2.1 (h.2.2.2.2.2.2.2.2.2.2.2.2.2.2.2.2.2.2.2.2.2.2.2.2.2.2.2.1).2.2 hn (by decide)
theorem um_winds {S : Mem} {M n : Nat} {v : Int32} (h : shM S M) (hn : n < 41) : sA S (M + 27) (nI n) v = some (pI S (M + 27) n v) := sA_of (h.2.2.2.2.2.2.2.2.2.2.2.2.2.2.2.2.2.2.2.2.2.2.2.2.2.2.2.1).2.1 (h.2.2.2.2.2.2.2.2.2.2.2.2.2.2.2.2.2.2.2.2.2.2.2.2.2.2.2.1).2.2 hn (by decide)
theorem gm_pulls {S : Mem} {M : Nat} (h : shM S M) : gR S 8 40 M = some (M + 28) := gR_of h.1 (h.2.2.2.2.2.2.2.2.2.2.2.2.2.2.2.2.2.2.2.2.2.2.2.2.2.2.2.2.1).1
theorem am_pulls {S : Mem} {M n : Nat} (h : shM S M) (hn : n < 6) : gA S 10 (M + 28) (nI n) = some (mI S (M + 28) n) := gA_of (h.2.2.2.2.2.2.2.2.2.2.2.2.2.2.2.2.2.2.2.2.2.2.2.2.2.2.2.2.1).2.1 (h.2.2.2.2.2.2.2.2.2.2.2.2.2.2.2.2.2.2.2.2.2.2.2.2.2.2.2.2.1).2.2 hn (by decide)
theorem um_pulls {S : Mem} {M n : Nat} {v : Int32} (h : shM S M) (hn : n < 6) : sA S (M + 28) (nI n) v = some (pI S (M + 28) n v) := sA_of (h.2.2.2.2.2.2.2.2.2.2.2.2.2.2.2.2.2.2.2.2.2.2.2.2.2.2.2.2.1).2.1 (h.2.2.2.2.2.2.2.2.2.2.2.2.2.2.2.2.2.2.2.2.2.2.2.2.2.2.2.2.1).2.2 hn (by decide)
theorem gm_next {S : Mem} {M : Nat} (h : shM S M) : gR S 8 44 M = some (M + 29) := gR_of h.1 (h.2.2.2.2.2.2.2.2.2.2.2.2.2.2.2.2.2.2.2.2.2.2.2.2.2.2.2.2.2.1).1
theorem am_next {S : Mem} {M n : Nat} (h : shM S M) (hn : n < 6) : gA S 10 (M + 29) (nI n) = some (mI S (M + 29) n) := gA_of (h.2.2.2.2.2.2.2.2.2.2.2.2.2.2.2.2.2.2.2.2.2.2.2.2.2.2.2.2.2.1).2.1 (h.2.2.2.2.2.2.2.2.2.2.2.2.2.2.2.2.2.2.2.2.2.2.2.2.2.2.2.2.2.1).2.2 hn (by decide)
theorem um_next {S : Mem} {M n : Nat} {v : Int32} (h : shM S M) (hn : n < 6) : sA S (M + 29) (nI n) v = some (pI S (M + 29) n v) := sA_of (h.2.2.2.2.2.2.2.2.2.2.2.2.2.2.2.2.2.2.2.2.2.2.2.2.2.2.2.2.2.1).2.1 (h.2.2.2.2.2.2.2.2.2.2.2.2.2.2.2.2.2.2.2.2.2.2.2.2.2.2.2.2.2.1).2.2 hn (by decide)
theorem gm_bestLong {S : Mem} {M : Nat} (h : shM S M) : gR S 8 49 M = some (M + 30) := gR_of h.1 (h.2.2.2.2.2.2.2.2.2.2.2.2.2.2.2.2.2.2.2.2.2.2.2.2.2.2.2.2.2.2.1).1
theorem am_bestLong {S : Mem} {M n : Nat} (h : shM S M) (hn : n < 6) : gA S 10 (M + 30) (nI n) = some (mI S (M + 30) n) := gA_of (h.2.2.2.2.2.2.2.2.2.2.2.2.2.2.2.2.2.2.2.2.2.2.2.2.2.2.2.2.2.2.1).2.1 (h.2.2.2.2.2.2.2.2.2.2.2.2.2.2.2.2.2.2.2.2.2.2.2.2.2.2.2.2.2.2.1).2.2 hn (by decide)
theorem um_bestLong {S : Mem} {M n : Nat} {v : Int32} (h : shM S M) (hn : n < 6) : sA S (M + 30) (nI n) v = some (pI S (M + 30) n v) := sA_of (h.2.2.2.2.2.2.2.2.2.2.2.2.2.2.2.2.2.2.2.2.2.2.2.2.2.2.2.2.2.2.1).2.1 (h.2.2.2.2.2.2.2.2.2.2.2.2.2.2.2.2.2.2.2.2.2.2.2.2.2.2.2.2.2.2.1).2.2 hn (by decide)
theorem gm_isLaid {S : Mem} {M : Nat} (h : shM S M) : gR S 8 51 M = some (M + 31) := gR_of h.1 (h.2.2.2.2.2.2.2.2.2.2.2.2.2.2.2.2.2.2.2.2.2.2.2.2.2.2.2.2.2.2.2).1
theorem am_isLaid {S : Mem} {M n : Nat} (h : shM S M) (hn : n < 4) : gA S 12 (M + 31) (nI n) = some (mI S (M + 31) n) := gA_of (h.2.2.2.2.2.2.2.2.2.2.2.2.2.2.2.2.2.2.2.2.2.2.2.2.2.2.2.2.2.2.2).2.1 (h.2.2.2.2.2.2.2.2.2.2.2.2.2.2.2.2.2.2.2.2.2.2.2.2.2.2.2.2.2.2.2).2.2 hn (by decide)
theorem shM.keep {S S' : Mem} {M : Nat} (h : shM S M) (hk : mK S' = mK S) (hn : mN S' = mN S) (hr : mR S' = mR S) : shM S' M := by
  unfold shM at h ⊢
  rw [hk, hn, hr]
  exact h
/-- an example: what the kites from a height on pull -/
def pulledF (s p : Nat → Int32) (h : Int32) : Nat → Nat → Int32 → Int32
  | 0, _, acc => acc
  | d + 1, i, acc => pulledF s p h d (i + 1) (acc + (if s i < h then 0 else p i))
theorem p_pulledAt_loop {F M : Nat} {S : Mem} {n : Nat} {x : Int32} (h : shM S M) (hk : mI S (M + 2) 4 = nI n) (hn : n ≤ 6) : ∀ (d i f : Nat) (acc : Int32), i + d = n → d < f →
    fix4 (b_X9_pulledAt_4 F) f M x acc (nI i) S = some (pulledF (mI S (M + 24)) (mI S (M + 28)) x d i acc, S) := by
  intro d
  induction d with
  | zero =>
    intro i f acc hi hf
    obtain ⟨f, rfl⟩ : ∃ f', f = f' + 1 := ⟨f - 1, by omega⟩
    show b_X9_pulledAt_4 F (fix4 (b_X9_pulledAt_4 F) f) M x acc (nI i) S = _
    unfold b_X9_pulledAt_4
    rw [gm_sky h]
    show (gA S 10 (M + 2) (nI 4)).bind _ = _
    rw [am_sky h (by decide), Option.bind_some, hk, if_pos (nI_le (by omega) (by omega))]
    rfl
  | succ d ih =>
    intro i f acc hi hf
    obtain ⟨f, rfl⟩ : ∃ f', f = f' + 1 := ⟨f - 1, by omega⟩
    have ih := fun acc => ih (i + 1) f acc (by omega) (by omega)
    show b_X9_pulledAt_4 F (fix4 (b_X9_pulledAt_4 F) f) M x acc (nI i) S = _
    generalize fix4 (b_X9_pulledAt_4 F) f = k4 at ih ⊢
    unfold b_X9_pulledAt_4
    rw [gm_sky h]
    show (gA S 10 (M + 2) (nI 4)).bind _ = _
    rw [am_sky h (by decide), Option.bind_some, hk, if_neg (nI_ge (by omega) (by omega)), gm_s h, Option.bind_some, am_s h (by omega), Option.bind_some]
    have e : nI i + (1 : Int32) = nI (i + 1) := nI_1 i
    by_cases hc : mI S (M + 24) i < x
    · rw [if_pos hc]
      show k4 M x (acc + 0) (nI i + (1 : Int32)) S = _
      rw [e, ih]
      simp only [pulledF, if_pos hc]
    · rw [if_neg hc, gm_pulls h, Option.bind_some, am_pulls h (by omega), Option.bind_some]
      show k4 M x (acc + mI S (M + 28) i) (nI i + (1 : Int32)) S = _
      rw [e, ih]
      simp only [pulledF, if_neg hc]
theorem p_pulledAt {F M : Nat} {S : Mem} {n : Nat} {x : Int32} (h : shM S M) (hk : mI S (M + 2) 4 = nI n) (hn : n ≤ 6) (hF : 7 ≤ F) : fn_X9_pulledAt F M x S = some (pulledF (mI S (M + 24)) (mI S (M + 28)) x n 0 0, S) := p_pulledAt_loop h hk hn n 0 F 0 (by omega) (by omega)

