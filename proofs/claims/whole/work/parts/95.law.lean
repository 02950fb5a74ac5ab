/-! the start: both constructors, and the row for the lamp's answer -/
set_option maxHeartbeats 4000000 in
set_option maxRecDepth 100000 in
theorem i_X9 {S : Mem} {F : Nat} : fn_X9_init F (mZ S + 71) (alM S 72 WCl WIc (gL W5)) = bd (cal (alM S 103 WMo WIc (gL W5)) 8 (mZ S + 71) (fn_X9_plain F (mZ S + 71) 0 (alM S 103 WMo WIc (gL W5)))) fun _ S95 => some ((), S95) := by
  unfold fn_X9_init WCl WIc
  simp (disch := first | rfl | decide | omega) only [al_nA, al_sR, Nat.reduceAdd]
  rfl
set_option maxRecDepth 100000 in
theorem st_shC {S : Mem} {i : Nat} (h104 : i = 104) : shC (alM S i WMo WIc (gL W5)) (mZ S) := by
  subst h104
  refine ⟨al_mK (j := 0) (by decide), al_mK (j := 8) (by decide), al_mK (j := 9) (by decide), al_mK (j := 14) (by decide), al_mK (j := 15) (by decide), al_mK (j := 20) (by decide), ⟨al_mK (j := 7) (by decide), al_mN (j := 7) (by decide)⟩, ⟨al_mK (j := 10) (by decide), al_mN (j := 10) (by decide)⟩, ⟨al_mK (j := 11) (by decide), al_mN (j := 11) (by decide)⟩, ⟨al_mK (j := 12) (by decide), al_mN (j := 12) (by decide)⟩, ⟨al_mK (j := 13) (by decide), al_mN (j := 13) (by decide)⟩, ⟨al_mK (j := 16) (by decide), al_mN (j := 16) (by decide)⟩, ⟨al_mK (j := 17) (by decide), al_mN (j := 17) (by decide)⟩, ⟨al_mK (j := 18) (by decide), al_mN (j := 18) (by decide)⟩, ⟨al_mK (j := 19) (by decide), al_mN (j := 19) (by decide)⟩, ⟨al_mK (j := 21) (by decide), al_mN (j := 21) (by decide)⟩, ⟨al_mK (j := 22) (by decide), al_mN (j := 22) (by decide)⟩, ⟨al_mK (j := 23) (by decide), al_mN (j := 23) (by decide)⟩, ⟨al_mK (j := 24) (by decide), al_mN (j := 24) (by decide)⟩, ⟨al_mK (j := 25) (by decide), al_mN (j := 25) (by decide)⟩, ⟨al_mK (j := 26) (by decide), al_mN (j := 26) (by decide)⟩, ⟨al_mK (j := 27) (by decide), al_mN (j := 27) (by decide)⟩, ⟨al_mK (j := 42) (by decide), al_mN (j := 42) (by decide)⟩, (al_mR (j := 0) (k := 0) (by decide)).trans rfl, (al_mR (j := 0) (k := 2) (by decide)).trans rfl, (al_mR (j := 0) (k := 3) (by decide)).trans rfl, (al_mR (j := 0) (k := 4) (by decide)).trans rfl, (al_mR (j := 0) (k := 5) (by decide)).trans rfl, (al_mR (j := 0) (k := 6) (by decide)).trans rfl, (al_mR (j := 0) (k := 7) (by decide)).trans rfl, (al_mR (j := 8) (k := 0) (by decide)).trans rfl, (al_mR (j := 8) (k := 1) (by decide)).trans rfl, (al_mR (j := 8) (k := 2) (by decide)).trans rfl, (al_mR (j := 9) (k := 1) (by decide)).trans rfl, (al_mR (j := 14) (k := 0) (by decide)).trans rfl, (al_mR (j := 14) (k := 1) (by decide)).trans rfl, (al_mR (j := 14) (k := 2) (by decide)).trans rfl, (al_mR (j := 15) (k := 0) (by decide)).trans rfl, (al_mR (j := 15) (k := 1) (by decide)).trans rfl, (al_mR (j := 20) (k := 0) (by decide)).trans rfl, (al_mR (j := 20) (k := 1) (by decide)).trans rfl, (al_mR (j := 20) (k := 2) (by decide)).trans rfl, (al_mR (j := 20) (k := 3) (by decide)).trans rfl, (al_mR (j := 20) (k := 4) (by decide)).trans rfl, fun o ho => ?_, fun i hi => ?_⟩
  · unfold isN at ho
    rcases ho with rfl | rfl | rfl | rfl | rfl | rfl
    · exact ⟨al_mK (j := 28) (by decide), ⟨(al_mR (j := 28) (k := 4) (by decide)).trans rfl, al_mK (j := 29) (by decide), al_mN (j := 29) (by decide)⟩, ⟨(al_mR (j := 28) (k := 5) (by decide)).trans rfl, al_mK (j := 30) (by decide), al_mN (j := 30) (by decide)⟩, ⟨(al_mR (j := 28) (k := 6) (by decide)).trans rfl, al_mK (j := 31) (by decide), al_mN (j := 31) (by decide)⟩, ⟨(al_mR (j := 28) (k := 7) (by decide)).trans rfl, al_mK (j := 32) (by decide), al_mN (j := 32) (by decide)⟩, ⟨(al_mR (j := 28) (k := 8) (by decide)).trans rfl, al_mK (j := 33) (by decide), al_mN (j := 33) (by decide)⟩, ⟨(al_mR (j := 28) (k := 9) (by decide)).trans rfl, al_mK (j := 34) (by decide), al_mN (j := 34) (by decide)⟩⟩
    · exact ⟨al_mK (j := 35) (by decide), ⟨(al_mR (j := 35) (k := 4) (by decide)).trans rfl, al_mK (j := 36) (by decide), al_mN (j := 36) (by decide)⟩, ⟨(al_mR (j := 35) (k := 5) (by decide)).trans rfl, al_mK (j := 37) (by decide), al_mN (j := 37) (by decide)⟩, ⟨(al_mR (j := 35) (k := 6) (by decide)).trans rfl, al_mK (j := 38) (by decide), al_mN (j := 38) (by decide)⟩, ⟨(al_mR (j := 35) (k := 7) (by decide)).trans rfl, al_mK (j := 39) (by decide), al_mN (j := 39) (by decide)⟩, ⟨(al_mR (j := 35) (k := 8) (by decide)).trans rfl, al_mK (j := 40) (by decide), al_mN (j := 40) (by decide)⟩, ⟨(al_mR (j := 35) (k := 9) (by decide)).trans rfl, al_mK (j := 41) (by decide), al_mN (j := 41) (by decide)⟩⟩
    · exact ⟨al_mK (j := 43) (by decide), ⟨(al_mR (j := 43) (k := 4) (by decide)).trans rfl, al_mK (j := 44) (by decide), al_mN (j := 44) (by decide)⟩, ⟨(al_mR (j := 43) (k := 5) (by decide)).trans rfl, al_mK (j := 45) (by decide), al_mN (j := 45) (by decide)⟩, ⟨(al_mR (j := 43) (k := 6) (by decide)).trans rfl, al_mK (j := 46) (by decide), al_mN (j := 46) (by decide)⟩, ⟨(al_mR (j := 43) (k := 7) (by decide)).trans rfl, al_mK (j := 47) (by decide), al_mN (j := 47) (by decide)⟩, ⟨(al_mR (j := 43) (k := 8) (by decide)).trans rfl, al_mK (j := 48) (by decide), al_mN (j := 48) (by decide)⟩, ⟨(al_mR (j := 43) (k := 9) (by decide)).trans rfl, al_mK (j := 49) (by decide), al_mN (j := 49) (by decide)⟩⟩
    · exact ⟨al_mK (j := 50) (by decide), ⟨(al_mR (j := 50) (k := 4) (by decide)).trans rfl, al_mK (j := 51) (by decide), al_mN (j := 51) (by decide)⟩, ⟨(al_mR (j := 50) (k := 5) (by decide)).trans rfl, al_mK (j := 52) (by decide), al_mN (j := 52) (by decide)⟩, ⟨(al_mR (j := 50) (k := 6) (by decide)).trans rfl, al_mK (j := 53) (by decide), al_mN (j := 53) (by decide)⟩, ⟨(al_mR (j := 50) (k := 7) (by decide)).trans rfl, al_mK (j := 54) (by decide), al_mN (j := 54) (by decide)⟩, ⟨(al_mR (j := 50) (k := 8) (by decide)).trans rfl, al_mK (j := 55) (by decide), al_mN (j := 55) (by decide)⟩, ⟨(al_mR (j := 50) (k := 9) (by decide)).trans rfl, al_mK (j := 56) (by decide), al_mN (j := 56) (by decide)⟩⟩
    · exact ⟨al_mK (j := 57) (by decide), ⟨(al_mR (j := 57) (k := 4) (by decide)).trans rfl, al_mK (j := 58) (by decide), al_mN (j := 58) (by decide)⟩, ⟨(al_mR (j := 57) (k := 5) (by decide)).trans rfl, al_mK (j := 59) (by decide), al_mN (j := 59) (by decide)⟩, ⟨(al_mR (j := 57) (k := 6) (by decide)).trans rfl, al_mK (j := 60) (by decide), al_mN (j := 60) (by decide)⟩, ⟨(al_mR (j := 57) (k := 7) (by decide)).trans rfl, al_mK (j := 61) (by decide), al_mN (j := 61) (by decide)⟩, ⟨(al_mR (j := 57) (k := 8) (by decide)).trans rfl, al_mK (j := 62) (by decide), al_mN (j := 62) (by decide)⟩, ⟨(al_mR (j := 57) (k := 9) (by decide)).trans rfl, al_mK (j := 63) (by decide), al_mN (j := 63) (by decide)⟩⟩
    · exact ⟨al_mK (j := 64) (by decide), ⟨(al_mR (j := 64) (k := 4) (by decide)).trans rfl, al_mK (j := 65) (by decide), al_mN (j := 65) (by decide)⟩, ⟨(al_mR (j := 64) (k := 5) (by decide)).trans rfl, al_mK (j := 66) (by decide), al_mN (j := 66) (by decide)⟩, ⟨(al_mR (j := 64) (k := 6) (by decide)).trans rfl, al_mK (j := 67) (by decide), al_mN (j := 67) (by decide)⟩, ⟨(al_mR (j := 64) (k := 7) (by decide)).trans rfl, al_mK (j := 68) (by decide), al_mN (j := 68) (by decide)⟩, ⟨(al_mR (j := 64) (k := 8) (by decide)).trans rfl, al_mK (j := 69) (by decide), al_mN (j := 69) (by decide)⟩, ⟨(al_mR (j := 64) (k := 9) (by decide)).trans rfl, al_mK (j := 70) (by decide), al_mN (j := 70) (by decide)⟩⟩
  · rcases (by omega : i = 0 ∨ i = 1 ∨ i = 2 ∨ i = 3) with rfl | rfl | rfl | rfl
    · exact (al_mR (j := 42) (k := 0) (by decide)).trans rfl
    · exact (al_mR (j := 42) (k := 1) (by decide)).trans rfl
    · exact (al_mR (j := 42) (k := 2) (by decide)).trans rfl
    · exact (al_mR (j := 42) (k := 3) (by decide)).trans rfl
set_option maxRecDepth 100000 in
theorem st_shM {S : Mem} {i : Nat} (hi : i = 103 ∨ i = 104) : shM (alM S i WMo WIc (gL W5)) (mZ S + 71) := by
  rcases hi with rfl | rfl
  exact ⟨al_mK (j := 71) (by decide), ⟨(al_mR (j := 71) (k := 2) (by decide)).trans rfl, al_mK (j := 72) (by decide), al_mN (j := 72) (by decide)⟩, ⟨(al_mR (j := 71) (k := 10) (by decide)).trans rfl, al_mK (j := 73) (by decide), al_mN (j := 73) (by decide)⟩, ⟨(al_mR (j := 71) (k := 11) (by decide)).trans rfl, al_mK (j := 74) (by decide), al_mN (j := 74) (by decide)⟩, ⟨(al_mR (j := 71) (k := 12) (by decide)).trans rfl, al_mK (j := 75) (by decide), al_mN (j := 75) (by decide)⟩, ⟨(al_mR (j := 71) (k := 13) (by decide)).trans rfl, al_mK (j := 76) (by decide), al_mN (j := 76) (by decide)⟩, ⟨(al_mR (j := 71) (k := 14) (by decide)).trans rfl, al_mK (j := 77) (by decide), al_mN (j := 77) (by decide)⟩, ⟨(al_mR (j := 71) (k := 15) (by decide)).trans rfl, al_mK (j := 78) (by decide), al_mN (j := 78) (by decide)⟩, ⟨(al_mR (j := 71) (k := 16) (by decide)).trans rfl, al_mK (j := 79) (by decide), al_mN (j := 79) (by decide)⟩, ⟨(al_mR (j := 71) (k := 17) (by decide)).trans rfl, al_mK (j := 80) (by decide), al_mN (j := 80) (by decide)⟩, ⟨(al_mR (j := 71) (k := 18) (by decide)).trans rfl, al_mK (j := 81) (by decide), al_mN (j := 81) (by decide)⟩, ⟨(al_mR (j := 71) (k := 19) (by decide)).trans rfl, al_mK (j := 82) (by decide), al_mN (j := 82) (by decide)⟩, ⟨(al_mR (j := 71) (k := 23) (by decide)).trans rfl, al_mK (j := 83) (by decide), al_mN (j := 83) (by decide)⟩, ⟨(al_mR (j := 71) (k := 24) (by decide)).trans rfl, al_mK (j := 84) (by decide), al_mN (j := 84) (by decide)⟩, ⟨(al_mR (j := 71) (k := 25) (by decide)).trans rfl, al_mK (j := 85) (by decide), al_mN (j := 85) (by decide)⟩, ⟨(al_mR (j := 71) (k := 26) (by decide)).trans rfl, al_mK (j := 86) (by decide), al_mN (j := 86) (by decide)⟩, ⟨(al_mR (j := 71) (k := 27) (by decide)).trans rfl, al_mK (j := 87) (by decide), al_mN (j := 87) (by decide)⟩, ⟨(al_mR (j := 71) (k := 28) (by decide)).trans rfl, al_mK (j := 88) (by decide), al_mN (j := 88) (by decide)⟩, ⟨(al_mR (j := 71) (k := 29) (by decide)).trans rfl, al_mK (j := 89) (by decide), al_mN (j := 89) (by decide)⟩, ⟨(al_mR (j := 71) (k := 30) (by decide)).trans rfl, al_mK (j := 90) (by decide), al_mN (j := 90) (by decide)⟩, ⟨(al_mR (j := 71) (k := 31) (by decide)).trans rfl, al_mK (j := 91) (by decide), al_mN (j := 91) (by decide)⟩, ⟨(al_mR (j := 71) (k := 32) (by decide)).trans rfl, al_mK (j := 92) (by decide), al_mN (j := 92) (by decide)⟩, ⟨(al_mR (j := 71) (k := 33) (by decide)).trans rfl, al_mK (j := 93) (by decide), al_mN (j := 93) (by decide)⟩, ⟨(al_mR (j := 71) (k := 34) (by decide)).trans rfl, al_mK (j := 94) (by decide), al_mN (j := 94) (by decide)⟩, ⟨(al_mR (j := 71) (k := 36) (by decide)).trans rfl, al_mK (j := 95) (by decide), al_mN (j := 95) (by decide)⟩, ⟨(al_mR (j := 71) (k := 37) (by decide)).trans rfl, al_mK (j := 96) (by decide), al_mN (j := 96) (by decide)⟩, ⟨(al_mR (j := 71) (k := 38) (by decide)).trans rfl, al_mK (j := 97) (by decide), al_mN (j := 97) (by decide)⟩, ⟨(al_mR (j := 71) (k := 39) (by decide)).trans rfl, al_mK (j := 98) (by decide), al_mN (j := 98) (by decide)⟩, ⟨(al_mR (j := 71) (k := 40) (by decide)).trans rfl, al_mK (j := 99) (by decide), al_mN (j := 99) (by decide)⟩, ⟨(al_mR (j := 71) (k := 44) (by decide)).trans rfl, al_mK (j := 100) (by decide), al_mN (j := 100) (by decide)⟩, ⟨(al_mR (j := 71) (k := 49) (by decide)).trans rfl, al_mK (j := 101) (by decide), al_mN (j := 101) (by decide)⟩, ⟨(al_mR (j := 71) (k := 51) (by decide)).trans rfl, al_mK (j := 102) (by decide), al_mN (j := 102) (by decide)⟩⟩
  exact ⟨al_mK (j := 71) (by decide), ⟨(al_mR (j := 71) (k := 2) (by decide)).trans rfl, al_mK (j := 72) (by decide), al_mN (j := 72) (by decide)⟩, ⟨(al_mR (j := 71) (k := 10) (by decide)).trans rfl, al_mK (j := 73) (by decide), al_mN (j := 73) (by decide)⟩, ⟨(al_mR (j := 71) (k := 11) (by decide)).trans rfl, al_mK (j := 74) (by decide), al_mN (j := 74) (by decide)⟩, ⟨(al_mR (j := 71) (k := 12) (by decide)).trans rfl, al_mK (j := 75) (by decide), al_mN (j := 75) (by decide)⟩, ⟨(al_mR (j := 71) (k := 13) (by decide)).trans rfl, al_mK (j := 76) (by decide), al_mN (j := 76) (by decide)⟩, ⟨(al_mR (j := 71) (k := 14) (by decide)).trans rfl, al_mK (j := 77) (by decide), al_mN (j := 77) (by decide)⟩, ⟨(al_mR (j := 71) (k := 15) (by decide)).trans rfl, al_mK (j := 78) (by decide), al_mN (j := 78) (by decide)⟩, ⟨(al_mR (j := 71) (k := 16) (by decide)).trans rfl, al_mK (j := 79) (by decide), al_mN (j := 79) (by decide)⟩, ⟨(al_mR (j := 71) (k := 17) (by decide)).trans rfl, al_mK (j := 80) (by decide), al_mN (j := 80) (by decide)⟩, ⟨(al_mR (j := 71) (k := 18) (by decide)).trans rfl, al_mK (j := 81) (by decide), al_mN (j := 81) (by decide)⟩, ⟨(al_mR (j := 71) (k := 19) (by decide)).trans rfl, al_mK (j := 82) (by decide), al_mN (j := 82) (by decide)⟩, ⟨(al_mR (j := 71) (k := 23) (by decide)).trans rfl, al_mK (j := 83) (by decide), al_mN (j := 83) (by decide)⟩, ⟨(al_mR (j := 71) (k := 24) (by decide)).trans rfl, al_mK (j := 84) (by decide), al_mN (j := 84) (by decide)⟩, ⟨(al_mR (j := 71) (k := 25) (by decide)).trans rfl, al_mK (j := 85) (by decide), al_mN (j := 85) (by decide)⟩, ⟨(al_mR (j := 71) (k := 26) (by decide)).trans rfl, al_mK (j := 86) (by decide), al_mN (j := 86) (by decide)⟩, ⟨(al_mR (j := 71) (k := 27) (by decide)).trans rfl, al_mK (j := 87) (by decide), al_mN (j := 87) (by decide)⟩, ⟨(al_mR (j := 71) (k := 28) (by decide)).trans rfl, al_mK (j := 88) (by decide), al_mN (j := 88) (by decide)⟩, ⟨(al_mR (j := 71) (k := 29) (by decide)).trans rfl, al_mK (j := 89) (by decide), al_mN (j := 89) (by decide)⟩, ⟨(al_mR (j := 71) (k := 30) (by decide)).trans rfl, al_mK (j := 90) (by decide), al_mN (j := 90) (by decide)⟩, ⟨(al_mR (j := 71) (k := 31) (by decide)).trans rfl, al_mK (j := 91) (by decide), al_mN (j := 91) (by decide)⟩, ⟨(al_mR (j := 71) (k := 32) (by decide)).trans rfl, al_mK (j := 92) (by decide), al_mN (j := 92) (by decide)⟩, ⟨(al_mR (j := 71) (k := 33) (by decide)).trans rfl, al_mK (j := 93) (by decide), al_mN (j := 93) (by decide)⟩, ⟨(al_mR (j := 71) (k := 34) (by decide)).trans rfl, al_mK (j := 94) (by decide), al_mN (j := 94) (by decide)⟩, ⟨(al_mR (j := 71) (k := 36) (by decide)).trans rfl, al_mK (j := 95) (by decide), al_mN (j := 95) (by decide)⟩, ⟨(al_mR (j := 71) (k := 37) (by decide)).trans rfl, al_mK (j := 96) (by decide), al_mN (j := 96) (by decide)⟩, ⟨(al_mR (j := 71) (k := 38) (by decide)).trans rfl, al_mK (j := 97) (by decide), al_mN (j := 97) (by decide)⟩, ⟨(al_mR (j := 71) (k := 39) (by decide)).trans rfl, al_mK (j := 98) (by decide), al_mN (j := 98) (by decide)⟩, ⟨(al_mR (j := 71) (k := 40) (by decide)).trans rfl, al_mK (j := 99) (by decide), al_mN (j := 99) (by decide)⟩, ⟨(al_mR (j := 71) (k := 44) (by decide)).trans rfl, al_mK (j := 100) (by decide), al_mN (j := 100) (by decide)⟩, ⟨(al_mR (j := 71) (k := 49) (by decide)).trans rfl, al_mK (j := 101) (by decide), al_mN (j := 101) (by decide)⟩, ⟨(al_mR (j := 71) (k := 51) (by decide)).trans rfl, al_mK (j := 102) (by decide), al_mN (j := 102) (by decide)⟩⟩
theorem wC_self {T : Mem} {C : Nat} {D : Dw} (hd : ∀ j k, (j = 0 ∨ (7 ≤ j ∧ j < 71)) → dyn j k → mR T (C + j) k = some (D j k)) : wC T C (fun j k => mI T (C + j) k) (fun j k => mJ T (C + j) k) D = T := by
  have e3 : (fun a k => if a = C ∨ (C + 7 ≤ a ∧ a < C + 71) then mI T (C + (a - C)) k else mI T a k) = mI T := by
    funext a k
    by_cases h : a = C ∨ (C + 7 ≤ a ∧ a < C + 71)
    · rw [if_pos h, show C + (a - C) = a by omega]
    · rw [if_neg h]
  have e4 : (fun a k => if a = C ∨ (C + 7 ≤ a ∧ a < C + 71) then mJ T (C + (a - C)) k else mJ T a k) = mJ T := by
    funext a k
    by_cases h : a = C ∨ (C + 7 ≤ a ∧ a < C + 71)
    · rw [if_pos h, show C + (a - C) = a by omega]
    · rw [if_neg h]
  have e5 : (fun a k => haveI := Classical.propDecidable (dyn (a - C) k); if (a = C ∨ (C + 7 ≤ a ∧ a < C + 71)) ∧ dyn (a - C) k then some (D (a - C) k) else mR T a k) = mR T := by
    funext a k
    by_cases h : (a = C ∨ (C + 7 ≤ a ∧ a < C + 71)) ∧ dyn (a - C) k
    · rw [if_pos h, ← hd (a - C) k (by omega) h.2, show C + (a - C) = a by omega]
    · rw [if_neg h]
  unfold wC
  rw [e3, e4, e5]
  rfl
def st_D (S : Mem) : Dw := fun j k => mZ S + (lkR WMo j k).getD 0
theorem st_dyn {S : Mem} {V : Vw} {U : Uw} : ∀ j k, (j = 0 ∨ (7 ≤ j ∧ j < 71)) → dyn j k → mR (wM (alM S 104 WMo WIc (gL W5)) (mZ S + 71) V U) (mZ S + j) k = some (st_D S j k) := by
  intro j k hj hd
  have e : mR (wM (alM S 104 WMo WIc (gL W5)) (mZ S + 71) V U) (mZ S + j) k = (lkR WMo j k).map (rfA S) := al_mR (S := S) (i := 104) (W := WMo) (WI := WIc) (g := gL W5) (by omega)
  rw [e]
  unfold dyn isN at hd
  rcases hd with ⟨h, rfl⟩ | ⟨rfl, rfl⟩ | ⟨rfl, rfl⟩ | ⟨rfl, rfl⟩ | ⟨rfl, rfl⟩ | ⟨rfl, rfl⟩
  · rcases h with rfl | rfl | rfl | rfl | rfl | rfl <;> rfl
  all_goals rfl
def bgS (S : Mem) (b L : Nat) (xs : Nat → Int32) : Prop := (mK S b = 14 ∧ mN S b = L ∧ mI S b = xs ∧ b < mZ S) ∧ ((9 ≤ mK S (mU S) ∧ mK S (mU S) < 15) ∧ mN S (mU S) = 0 ∧ mU S < mZ S) ∧ bgT S
theorem law_start {S : Mem} {F b L : Nat} {xs : Nat → Int32} (hF : 10000 < F) (hS : bgS S b L xs) : ∃ B Vc Uc Dc Vm Um X K s lm, fn_L_law F b S = fix5 (b_L_law_23 F) F b (mZ S) (mZ S + 71) (mZ S + 103) (nI (7 * 0)) (JM B (mZ S) Vc Uc Dc Vm Um) ∧ JD (mZ S + 104) (mQ S + totA 104) 0 B (mZ S) Vc Uc Dc Vm X K s lm b L xs := by
  obtain ⟨⟨s1, s2, s3, s4⟩, ⟨u1', u2', u3'⟩, hT⟩ := hS
  have hM := st_shM (S := S) (i := 103) (Or.inl rfl)
  obtain ⟨V1, p1, p2, p3, p4, p5, p6⟩ := q_plain (F := F) (r := 0) (V := fun j k => mI (alM S 103 WMo WIc (gL W5)) (mZ S + 71 + j) k) (U := fun j k => mJ (alM S 103 WMo WIc (gL W5)) (mZ S + 71 + j) k) hM (by omega) (by omega)
  rw [wM_self] at p1
  have p1 : fn_X9_plain F (mZ S + 71) 0 (alM S 103 WMo WIc (gL W5)) = some ((), wM (alM S 103 WMo WIc (gL W5)) (mZ S + 71) V1 (fun j k => mJ (alM S 103 WMo WIc (gL W5)) (mZ S + 71 + j) k)) := p1
  generalize hU0 : (fun j k => mJ (alM S 103 WMo WIc (gL W5)) (mZ S + 71 + j) k : Uw) = U0 at p1
  have z0 : ∀ j k, j < 32 → mI (alM S 103 WMo WIc (gL W5)) (mZ S + 71 + j) k = 0 := fun j k hj => by
    rw [Nat.add_assoc, al_mI (by omega), noI_lk]
    unfold WIc noI
    rw [if_neg (by omega)]
    unfold noI
    rw [if_neg (by omega)]
    unfold noI
    rw [if_neg (by omega)]
    unfold noI
    rw [if_neg (by omega)]
    rfl
  have vz : ∀ j k, j < 32 → j ≠ 2 → j ≠ 9 → j ≠ 10 → V1 j k = 0 := fun j k hj h2 h9 h10 => by
    rw [p4 j h2 h9 h10]
    exact z0 j k hj
  have e1 : bd (nO S 7) (fun v1 S2 => bd ((fn_X8_init F v1 S2)) fun _ S4 => bd (nO S4 8) fun v5 S6 => bd ((fn_X9_init F v5 S6)) fun _ S8 => bd (nA S8 11 (1 : Int32)) fun v9 S10 => fix5 (b_L_law_23 F) F b v1 v5 v9 (0 : Int32) S10) = fix5 (b_L_law_23 F) F b (mZ S + 0) (mZ S + 71) (mZ S + 103) 0 (wM (alM S 104 WMo WIc (gL W5)) (mZ S + 71) V1 U0) := by
    have e0 : nO S 7 = nO (alM S 0 [] [] (fun _ => 0)) 7 := by rw [al_0]
    rw [e0, al_nO (i := 0) (kd := 7) (W := []) (WI := []) rfl rfl rfl rfl rfl, i_X8 hF hT, bd_r, al_nO (i := 71) (kd := 8) (W := WCl) (WI := WIc) rfl rfl rfl rfl rfl, i_X9, cal_r (S := alM S 103 WMo WIc (gL W5)) (show mK (alM S 103 WMo WIc (gL W5)) (mZ S + 71) = 8 from al_mK (j := 71) (by decide)), p1, bd_r, bd_r]
    have e3 : nA (wM (alM S 103 WMo WIc (gL W5)) (mZ S + 71) V1 U0) 11 1 = some (mZ S + 103, wM (alM S 104 WMo WIc (gL W5)) (mZ S + 71) V1 U0) := by
      unfold nA
      rw [show (1 : Int32).toNatClampNeg = 1 by decide, if_pos ⟨by decide, by decide⟩, wM_pNew (show mZ S + 71 + 32 ≤ mZ S + 103 by omega)]
      have e4 := al_new (S := S) (i := 103) (W := WMo) (WI := WIc) (g := gL W5) rfl rfl (Or.inl (by decide))
      have e4 : pNew (alM S 103 WMo WIc (gL W5)) 11 1 = alM S 104 WMo WIc (gL W5) := e4
      rw [e4]
      rfl
    rw [e3, bd_r]
  have eB := wC_self (T := wM (alM S 104 WMo WIc (gL W5)) (mZ S + 71) V1 U0) (C := mZ S) (D := st_D S) st_dyn
  have hlo := fun a (ha : a < mZ S) => al_lo (i := 104) (W := WMo) (WI := WIc) (g := gL W5) ha
  have ci : ∀ j k, (j = 0 ∨ (7 ≤ j ∧ j < 71)) → mI (wM (alM S 104 WMo WIc (gL W5)) (mZ S + 71) V1 U0) (mZ S + j) k = 0 := fun j k hj => by
    rw [wM_out (by omega), al_mI (by omega), noI_lk]
    unfold WIc noI
    rw [if_neg (by omega)]
    unfold noI
    rw [if_neg (by omega)]
    unfold noI
    rw [if_neg (by omega)]
    unfold noI
    rw [if_neg (by omega)]
    rfl
  refine ⟨alM S 104 WMo WIc (gL W5), (fun j k => mI (wM (alM S 104 WMo WIc (gL W5)) (mZ S + 71) V1 U0) (mZ S + j) k), (fun j k => mJ (wM (alM S 104 WMo WIc (gL W5)) (mZ S + 71) V1 U0) (mZ S + j) k), st_D S, V1, U0, (0, fun _ => 0), skK sk0, skS sk0, 0, ?_, ⟨st_shC rfl, st_shM (Or.inr rfl), al_mK (j := 103) (by decide), al_mN (j := 103) (by decide)⟩, ⟨by rw [(hlo b s4).1]; exact s1, by rw [(hlo b s4).2.1]; exact s2, by rw [(hlo b s4).2.2.1]; exact s3, s4⟩, ⟨⟨?_, ?_, ?_⟩, u3'⟩, ⟨Nat.le_refl _, Nat.le_refl _, Nat.le_refl _⟩, ⟨⟨by show 0 ≤ 1000; omega, fun i hi => absurd hi (by show ¬ i < 0; omega)⟩, ⟨ci 0 1 (Or.inl rfl), fun i hi => absurd hi (by show ¬ i < 0; omega)⟩, ⟨vz 0 1 (by omega) (by omega) (by omega) (by omega), fun i hi => absurd hi (by show ¬ i < 0; omega)⟩, fun i hi => ?_⟩, ⟨skK_wf (X := (0, fun _ => 0)) wfZ_0, skS_wf (X := (0, fun _ => 0)) wfZ_0, ?_, ?_, ⟨ci 28 1 (by omega), ci 28 2 (by omega), ci 28 3 (by omega), fun k hk => absurd hk (by show ¬ k < 0; omega), fun i hi => absurd hi (by show ¬ i < 0; omega)⟩, ⟨p2, fun k hk => absurd hk (by show ¬ k < 0; omega), ⟨0, 0, p3.1, p3.2.2.1, by omega, by omega, by omega, rfl⟩, ⟨0, 0, p3.2.1, p3.2.2.2, by omega, by omega, by omega, rfl⟩⟩, fun j hj => vz 24 j (by omega) (by omega) (by omega) (by omega)⟩, by omega, ci 0 8 (Or.inl rfl), fun m hm => (vz 31 m (by omega) (by omega) (by omega) (by omega)).trans ?_, fun m hm hl => ?_⟩
  · show fn_L_law F b S = fix5 (b_L_law_23 F) F b (mZ S) (mZ S + 71) (mZ S + 103) (nI (7 * 0)) (wC (wM (alM S 104 WMo WIc (gL W5)) (mZ S + 71) V1 U0) (mZ S) _ _ (st_D S))
    rw [eB]
    exact e1
  · show 9 ≤ mK (alM S 104 WMo WIc (gL W5)) (mU S) ∧ mK (alM S 104 WMo WIc (gL W5)) (mU S) < 15
    rw [(hlo _ u3').1]; exact u1'
  · show mN (alM S 104 WMo WIc (gL W5)) (mU S) = 0
    rw [(hlo _ u3').2.1]; exact u2'
  · exact Nat.lt_of_lt_of_le u3' (Nat.le_add_right _ _)
  · show mJ (wM (alM S 104 WMo WIc (gL W5)) (mZ S + 71) V1 U0) (mZ S + 11) i = lN (W5.getD i 0)
    rw [wM_outJ (by omega), al_mJ (by omega), if_pos rfl]
    rfl
  · have hU : cLaw (alM S 104 WMo WIc (gL W5)) (mZ S) (mU S) none := ⟨by rw [(hlo _ u3').1]; exact u1', by rw [(hlo _ u3').2.1]; exact u2'⟩
    show cSky (alM S 104 WMo WIc (gL W5)) (mZ S) (mZ S + 1) (skK sk0)
    refine ⟨⟨al_mK (j := 1) (by decide), fun i hi => ?_, fun i hi => by unfold inR; omega⟩, ⟨(al_mI (j := 1) (k := 0) (by decide)).trans rfl, (al_mI (j := 1) (k := 6) (by decide)).trans rfl, (al_mI (j := 1) (k := 7) (by decide)).trans rfl, (al_mI (j := 1) (k := 8) (by decide)).trans rfl, (al_mI (j := 1) (k := 9) (by decide)).trans rfl⟩, fun k hk => absurd hk (by show ¬ k < 0; omega), ⟨mU S, (al_mR (j := 1) (k := 10) (by decide)).trans rfl, hU⟩, ⟨mU S, (al_mR (j := 1) (k := 11) (by decide)).trans rfl, hU⟩⟩
    rcases (by omega : i = 0 ∨ i = 1 ∨ i = 2 ∨ i = 3 ∨ i = 4) with rfl | rfl | rfl | rfl | rfl
    · exact ⟨(al_mR (j := 1) (k := 1) (by decide)).trans rfl, al_mK (j := 2) (by decide), al_mN (j := 2) (by decide)⟩
    · exact ⟨(al_mR (j := 1) (k := 2) (by decide)).trans rfl, al_mK (j := 3) (by decide), al_mN (j := 3) (by decide)⟩
    · exact ⟨(al_mR (j := 1) (k := 3) (by decide)).trans rfl, al_mK (j := 4) (by decide), al_mN (j := 4) (by decide)⟩
    · exact ⟨(al_mR (j := 1) (k := 4) (by decide)).trans rfl, al_mK (j := 5) (by decide), al_mN (j := 5) (by decide)⟩
    · exact ⟨(al_mR (j := 1) (k := 5) (by decide)).trans rfl, al_mK (j := 6) (by decide), al_mN (j := 6) (by decide)⟩
  · show skO (alM S 104 WMo WIc (gL W5)) (mZ S) (mZ S + 1)
    refine ⟨Or.inl rfl, by show mZ S + 1 + 6 ≤ mZ S + 104; omega, fun k w hk hw => ?_⟩
    have e : some w = some (mU S) := by
      rcases hk with rfl | rfl
      · exact hw.symm.trans ((al_mR (j := 1) (k := 10) (by decide)).trans rfl)
      · exact hw.symm.trans ((al_mR (j := 1) (k := 11) (by decide)).trans rfl)
    cases e
    exact ⟨Nat.lt_of_lt_of_le u3' (Nat.le_add_right _ _), Or.inl u3'⟩
  · rcases (by omega : m = 0 ∨ m = 1 ∨ m = 2 ∨ m = 3) with rfl | rfl | rfl | rfl <;> rfl
  · rcases (by omega : m = 0 ∨ m = 1 ∨ m = 2 ∨ m = 3) with rfl | rfl | rfl | rfl <;> cases hl
/-! the loop -/
theorem len_7 {L n : Nat} (hL : L ≤ 3584) (h : 7 * n ≤ L) : (nI L - (7 : Int32) < nI (7 * n)) ↔ L < 7 * n + 7 := by
  by_cases h7 : 7 ≤ L
  · rw [show nI L - (7 : Int32) = nI (L - 7) from pk_sub (b := 7) h7, nI_ltI (by omega) (by omega)]
    omega
  · have n0 : n = 0 := by omega
    subst n0
    rcases (by omega : L = 0 ∨ L = 1 ∨ L = 2 ∨ L = 3 ∨ L = 4 ∨ L = 5 ∨ L = 6) with rfl | rfl | rfl | rfl | rfl | rfl | rfl <;> exact ⟨fun _ => by omega, fun _ => by decide⟩
theorem law_loop {F C b L z0 q0 : Nat} {xs : Nat → Int32} (hF : 10000 < F) (hL : L ≤ 3584) : ∀ (d n fu : Nat) (S : Mem) (Vc : Vw) (Uc : Uw) (Dc : Dw) (Vm : Vw) (Um : Uw) (X : Tp) (K : SkyT) (s : Nat → Nat) (lm : Nat), JD z0 q0 n S C Vc Uc Dc Vm X K s lm b L xs → 7 * n ≤ L → L < 7 * (n + d) + 7 → d < fu → n + d ≤ 512 →
    ∃ T, fix5 (b_L_law_23 F) fu b C (C + 71) (C + 103) (nI (7 * n)) (JM S C Vc Uc Dc Vm Um) = some (1, T) ∧ mZ T ≤ z0 + 8 * 512 ∧ mQ T ≤ q0 + 2042 * 512 := by
  have up : ∀ (n S Vc Uc Dc Vm X K s lm), JD z0 q0 n S C Vc Uc Dc Vm X K s lm b L xs → n ≤ 512 → mZ S ≤ z0 + 8 * 512 ∧ mQ S ≤ q0 + 2042 * 512 := by
    intro n S Vc Uc Dc Vm X K s lm h hn
    exact ⟨Nat.le_trans h.2.2.2.1.2.1 (Nat.add_le_add_left (Nat.mul_le_mul_left 8 hn) _), Nat.le_trans h.2.2.2.1.2.2 (Nat.add_le_add_left (Nat.mul_le_mul_left 2042 hn) _)⟩
  intro d
  induction d with
  | zero =>
    intro n fu S Vc Uc Dc Vm Um X K s lm h h1 h2 h3 h4
    obtain ⟨fu, rfl⟩ : ∃ f', fu = f' + 1 := ⟨fu - 1, by omega⟩
    have u := up n S Vc Uc Dc Vm X K s lm h (by omega)
    refine ⟨JM S C Vc Uc Dc Vm Um, ?_, u.1, u.2⟩
    show b_L_law_23 F (fix5 (b_L_law_23 F) fu) b C (C + 71) (C + 103) (nI (7 * n)) (JM S C Vc Uc Dc Vm Um) = _
    rw [br_eq, J_len h, if_pos ((len_7 hL h1).mpr (by omega)), rz_1]
  | succ d ih =>
    intro n fu S Vc Uc Dc Vm Um X K s lm h h1 h2 h3 h4
    obtain ⟨fu, rfl⟩ : ∃ f', fu = f' + 1 := ⟨fu - 1, by omega⟩
    show ∃ T, b_L_law_23 F (fix5 (b_L_law_23 F) fu) b C (C + 71) (C + 103) (nI (7 * n)) (JM S C Vc Uc Dc Vm Um) = _ ∧ _
    rw [br_eq, J_len h]
    by_cases he : L < 7 * n + 7
    · rw [if_pos ((len_7 hL h1).mpr he), rz_1]
      have u := up n S Vc Uc Dc Vm X K s lm h (by omega)
      exact ⟨_, rfl, u.1, u.2⟩
    rw [if_neg (fun q => he ((len_7 hL h1).mp q)), J_gA h hL _ _ _ _ _ _ (by omega)]
    have hi : 7 * n + 7 ≤ L := by omega
    have hn : 1000 * n + 1000 < 2 ^ 29 := by omega
    have go : ∀ Y, JN z0 q0 (n + 1) C b L xs (fix5 (b_L_law_23 F) fu) (7 * n) Y → ∃ T, Y = some (1, T) ∧ mZ T ≤ z0 + 8 * 512 ∧ mQ T ≤ q0 + 2042 * 512 := by
      intro Y hY
      obtain ⟨S', Vc', Uc', Dc', Vm', Um', X', K', s', lm', e, hJ⟩ := hY
      obtain ⟨T, e2, e3, e4⟩ := ih (n + 1) fu S' Vc' Uc' Dc' Vm' Um' X' K' s' lm' hJ (by omega) (by omega) (by omega) (by omega)
      exact ⟨T, by rw [e, show 7 * n + 7 = 7 * (n + 1) by omega]; exact e2, e3, e4⟩
    by_cases h0 : xs (7 * n) &&& (31 : Int32) = 0
    · rw [if_pos h0]
      exact go _ (bj_feed hF h hL hi hn)
    rw [if_neg h0]
    by_cases h1 : xs (7 * n) &&& (31 : Int32) = 1
    · rw [if_pos h1]
      exact go _ (bj_sky hF h hL hi hn)
    rw [if_neg h1]
    by_cases h2 : xs (7 * n) &&& (31 : Int32) = 2
    · rw [if_pos h2]
      exact go _ (bj_kite hF h hL hi hn)
    rw [if_neg h2]
    by_cases h3 : xs (7 * n) &&& (31 : Int32) = 3
    · rw [if_pos h3]
      exact go _ (bj_wind hF h hL hi hn)
    rw [if_neg h3]
    by_cases h4 : xs (7 * n) &&& (31 : Int32) = 4
    · rw [if_pos h4]
      exact go _ (bj_lamp hF h hL hi hn)
    rw [if_neg h4]
    by_cases h5 : xs (7 * n) &&& (31 : Int32) = 5
    · rw [if_pos h5]
      exact go _ (bj_whistle hF h hL hi hn)
    rw [if_neg h5]
    by_cases h6 : xs (7 * n) &&& (31 : Int32) = 6
    · rw [if_pos h6]
      exact go _ (bj_lose hF h hL hi hn)
    rw [if_neg h6]
    by_cases h7 : xs (7 * n) &&& (31 : Int32) = 7
    · rw [if_pos h7]
      exact go _ (bj_run hF h hL hi hn)
    rw [if_neg h7]
    by_cases h8 : xs (7 * n) &&& (31 : Int32) = 8
    · rw [if_pos h8]
      exact go _ (bj_nearest hF h hL hi hn)
    rw [if_neg h8]
    by_cases h9 : xs (7 * n) &&& (31 : Int32) = 9
    · rw [if_pos h9]
      exact go _ (bj_fewest hF h hL hi hn)
    rw [if_neg h9]
    by_cases h10 : xs (7 * n) &&& (31 : Int32) = 10
    · rw [if_pos h10]
      exact go _ (bj_holds hF h hL hi hn)
    rw [if_neg h10]
    by_cases h11 : xs (7 * n) &&& (31 : Int32) = 11
    · rw [if_pos h11]
      exact go _ (bj_mayGo hF h hL hi hn)
    rw [if_neg h11]
    by_cases h12 : xs (7 * n) &&& (31 : Int32) = 12
    · rw [if_pos h12]
      exact go _ (bj_needed hF h hL hi hn)
    rw [if_neg h12]
    by_cases h13 : xs (7 * n) &&& (31 : Int32) = 13
    · rw [if_pos h13]
      exact go _ (bj_mean hF h hL hi hn)
    rw [if_neg h13]
    by_cases h14 : xs (7 * n) &&& (31 : Int32) = 14
    · rw [if_pos h14]
      exact go _ (bj_down hF h hL hi hn)
    rw [if_neg h14]
    by_cases h15 : xs (7 * n) &&& (31 : Int32) = 15
    · rw [if_pos h15]
      exact go _ (bj_note hF h hL hi hn)
    rw [if_neg h15]
    by_cases h16 : xs (7 * n) &&& (31 : Int32) = 16
    · rw [if_pos h16]
      exact go _ (bj_clear hF h hL hi hn)
    rw [if_neg h16]
    by_cases h17 : xs (7 * n) &&& (31 : Int32) = 17
    · rw [if_pos h17]
      exact go _ (bj_fits hF h hL hi hn)
    rw [if_neg h17]
    by_cases h18 : xs (7 * n) &&& (31 : Int32) = 18
    · rw [if_pos h18]
      exact go _ (bj_fit hF h hL hi hn)
    rw [if_neg h18]
    by_cases h19 : xs (7 * n) &&& (31 : Int32) = 19
    · rw [if_pos h19]
      exact go _ (bj_lots hF h hL hi hn)
    rw [if_neg h19]
    by_cases h20 : xs (7 * n) &&& (31 : Int32) = 20
    · rw [if_pos h20]
      exact go _ (bj_mark hF h hL hi hn)
    rw [if_neg h20]
    by_cases h21 : xs (7 * n) &&& (31 : Int32) = 21
    · rw [if_pos h21]
      exact go _ (bj_count hF h hL hi hn)
    rw [if_neg h21]
    refine go _ ⟨S, Vc, Uc, Dc, Vm, Um, X, K, s, lm, ?_, J_up h⟩
    unfold f_L_law_1084
    rw [nI_la]
theorem tot_104 : totA 104 ≤ 100000 := by decide +kernel
/-- what was left -/
theorem law_pure : LawPure := by
  refine ⟨20000, fun z b L u0 q vb xs hL hb hu hq hv h1 h2 h3 => ?_⟩
  have hS : bgS (S0 z b L u0 q vb xs) b L xs := by
    refine ⟨⟨if_pos (Or.inl rfl), if_pos rfl, ?_, hb⟩, ⟨?_, if_neg (fun e => h1 e.symm), hu⟩, hv, ?_⟩
    · funext j
      exact if_pos rfl
    · show 9 ≤ (if u0 = b ∨ u0 = u0 then 14 else 15) ∧ (if u0 = b ∨ u0 = u0 then 14 else 15) < 15
      rw [if_pos (Or.inr rfl)]
      omega
    · show ¬ (9 ≤ (if vb = b ∨ vb = u0 then 14 else 15) ∧ (if vb = b ∨ vb = u0 then 14 else 15) < 15)
      rw [if_neg (by omega)]
      omega
  obtain ⟨B, Vc, Uc, Dc, Vm, Um, X, K, s, lm, e1, hJ⟩ := law_start (F := 20000) (by omega) hS
  obtain ⟨T, e2, e3, e4⟩ := law_loop (F := 20000) (by omega) hL (L / 7) 0 20000 B Vc Uc Dc Vm Um X K s lm hJ (by omega) (by omega) (by omega) (by omega)
  refine ⟨T, e1.trans e2, ?_, ?_⟩
  · have e3 : mZ T ≤ z + 104 + 8 * 512 := e3
    omega
  · have e4 : mQ T ≤ 0 + totA 104 + 2042 * 512 := e4
    have := tot_104
    omega
