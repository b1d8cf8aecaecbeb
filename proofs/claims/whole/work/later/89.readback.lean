theorem mo_lt512 {sN lN : Nat} {p1 p2 p3 p4 : Int32} {g : Nat → Int32} {j : Nat} (h : j < 512) : mo_fmt sN lN p1 p2 p3 p4 g j = mo_f1 sN lN p1 p2 p3 p4 g j := by
  unfold mo_fmt mo_f2
  rw [ar_up_lt (lo := 1020) (by omega), ar_up_lt (lo := 1004) (by omega), ar_up_lt (lo := 1000) (by omega), ar_up_lt (lo := 996) (by omega), ar_up_lt (lo := 512) (by omega), ar_up_lt (lo := 3072) (by omega)]
theorem mo_rt4 : ∀ j : Nat, j < 1025 → (((mo_b (nI j).toInt64 0 &&& 255) ||| ((mo_b (nI j).toInt64 1 &&& 255) <<< ((8 : Int32) &&& 31))) ||| (((mo_b (nI j).toInt64 2 &&& 255) ||| ((mo_b (nI j).toInt64 3 &&& 255) <<< ((8 : Int32) &&& 31))) <<< ((16 : Int32) &&& 31))) = nI j := by decide +kernel
theorem mo_rt2 : ∀ j : Nat, j < 65 → ((mo_b (nI j).toInt64 0 &&& 255) ||| ((mo_b (nI j).toInt64 1 &&& 255) <<< ((8 : Int32) &&& 31))) = nI j := by decide +kernel
theorem mo_h13 {sN lN : Nat} {p1 p2 p3 p4 : Int32} {g : Nat → Int32} (hc : p1 = 2 ∨ p1 = 4 ∨ p1 = 8) : mo_one (mo_fmt sN lN p1 p2 p3 p4 g) 13 = p1 := by
  show (mo_fmt sN lN p1 p2 p3 p4 g 13 &&& 255) = p1
  rw [mo_lt512 (j := 13) (by decide)]
  unfold mo_f1
  rw [ar_up_lt (lo := 510) (j := 13) (by decide), ar_up_lt (lo := 67) (j := 13) (by decide), ar_up_lt (lo := 50) (j := 13) (by decide), ar_up_lt (lo := 48) (j := 13) (by decide), ar_up_lt (lo := 44) (j := 13) (by decide), ar_up_lt (lo := 36) (j := 13) (by decide), ar_up_lt (lo := 32) (j := 13) (by decide), ar_up_lt (lo := 16) (j := 13) (by decide), ar_up_lt (lo := 14) (j := 13) (by decide), ar_up_in (lo := 13) (i := 1) (j := 13) (by decide) (by decide)]
  rcases hc with rfl | rfl | rfl <;> decide +kernel
theorem mo_h16 {sN lN : Nat} {p1 p2 p3 p4 : Int32} {g : Nat → Int32} (hy : p3 = 1 ∨ p3 = 2) : mo_one (mo_fmt sN lN p1 p2 p3 p4 g) 16 = p3 := by
  show (mo_fmt sN lN p1 p2 p3 p4 g 16 &&& 255) = p3
  rw [mo_lt512 (j := 16) (by decide)]
  unfold mo_f1
  rw [ar_up_lt (lo := 510) (j := 16) (by decide), ar_up_lt (lo := 67) (j := 16) (by decide), ar_up_lt (lo := 50) (j := 16) (by decide), ar_up_lt (lo := 48) (j := 16) (by decide), ar_up_lt (lo := 44) (j := 16) (by decide), ar_up_lt (lo := 36) (j := 16) (by decide), ar_up_lt (lo := 32) (j := 16) (by decide), ar_up_in (lo := 16) (i := 1) (j := 16) (by decide) (by decide)]
  rcases hy with rfl | rfl <;> decide +kernel
theorem mo_h14 {sN lN : Nat} {p1 p2 p3 p4 : Int32} {g : Nat → Int32} {vN : Nat} (ev : p2 = nI vN) (hv : vN ≤ 64) : mo_two (mo_fmt sN lN p1 p2 p3 p4 g) 14 = p2 := by
  show ((mo_fmt sN lN p1 p2 p3 p4 g 14 &&& 255) ||| ((mo_fmt sN lN p1 p2 p3 p4 g 15 &&& 255) <<< ((8 : Int32) &&& 31))) = p2
  rw [mo_lt512 (j := 14) (by decide), mo_lt512 (j := 15) (by decide)]
  unfold mo_f1
  rw [ar_up_lt (lo := 510) (j := 14) (by decide), ar_up_lt (lo := 67) (j := 14) (by decide), ar_up_lt (lo := 50) (j := 14) (by decide), ar_up_lt (lo := 48) (j := 14) (by decide), ar_up_lt (lo := 44) (j := 14) (by decide), ar_up_lt (lo := 36) (j := 14) (by decide), ar_up_lt (lo := 32) (j := 14) (by decide), ar_up_lt (lo := 16) (j := 14) (by decide), ar_up_in (lo := 14) (i := 2) (j := 14) (by decide) (by decide)]
  rw [ar_up_lt (lo := 510) (j := 15) (by decide), ar_up_lt (lo := 67) (j := 15) (by decide), ar_up_lt (lo := 50) (j := 15) (by decide), ar_up_lt (lo := 48) (j := 15) (by decide), ar_up_lt (lo := 44) (j := 15) (by decide), ar_up_lt (lo := 36) (j := 15) (by decide), ar_up_lt (lo := 32) (j := 15) (by decide), ar_up_lt (lo := 16) (j := 15) (by decide), ar_up_in (lo := 14) (i := 2) (j := 15) (by decide) (by decide)]
  subst ev
  exact mo_rt2 vN (by omega)
theorem mo_h36 {sN lN : Nat} {p1 p2 p3 p4 : Int32} {g : Nat → Int32} (hl : lN ≤ 32) : mo_four (mo_fmt sN lN p1 p2 p3 p4 g) 36 = nI lN := by
  show (((mo_fmt sN lN p1 p2 p3 p4 g 36 &&& 255) ||| ((mo_fmt sN lN p1 p2 p3 p4 g 37 &&& 255) <<< ((8 : Int32) &&& 31))) ||| (((mo_fmt sN lN p1 p2 p3 p4 g 38 &&& 255) ||| ((mo_fmt sN lN p1 p2 p3 p4 g 39 &&& 255) <<< ((8 : Int32) &&& 31))) <<< ((16 : Int32) &&& 31))) = nI lN
  rw [mo_lt512 (j := 36) (by decide), mo_lt512 (j := 37) (by decide), mo_lt512 (j := 38) (by decide), mo_lt512 (j := 39) (by decide)]
  unfold mo_f1
  rw [ar_up_lt (lo := 510) (j := 36) (by decide), ar_up_lt (lo := 67) (j := 36) (by decide), ar_up_lt (lo := 50) (j := 36) (by decide), ar_up_lt (lo := 48) (j := 36) (by decide), ar_up_lt (lo := 44) (j := 36) (by decide), ar_up_in (lo := 36) (i := 4) (j := 36) (by decide) (by decide)]
  rw [ar_up_lt (lo := 510) (j := 37) (by decide), ar_up_lt (lo := 67) (j := 37) (by decide), ar_up_lt (lo := 50) (j := 37) (by decide), ar_up_lt (lo := 48) (j := 37) (by decide), ar_up_lt (lo := 44) (j := 37) (by decide), ar_up_in (lo := 36) (i := 4) (j := 37) (by decide) (by decide)]
  rw [ar_up_lt (lo := 510) (j := 38) (by decide), ar_up_lt (lo := 67) (j := 38) (by decide), ar_up_lt (lo := 50) (j := 38) (by decide), ar_up_lt (lo := 48) (j := 38) (by decide), ar_up_lt (lo := 44) (j := 38) (by decide), ar_up_in (lo := 36) (i := 4) (j := 38) (by decide) (by decide)]
  rw [ar_up_lt (lo := 510) (j := 39) (by decide), ar_up_lt (lo := 67) (j := 39) (by decide), ar_up_lt (lo := 50) (j := 39) (by decide), ar_up_lt (lo := 48) (j := 39) (by decide), ar_up_lt (lo := 44) (j := 39) (by decide), ar_up_in (lo := 36) (i := 4) (j := 39) (by decide) (by decide)]
  exact mo_rt4 lN (by omega)
theorem mo_h32 {sN lN : Nat} {p1 p2 p3 p4 : Int32} {g : Nat → Int32} (hs : sN ≤ 1024) : mo_four (mo_fmt sN lN p1 p2 p3 p4 g) 32 = nI sN := by
  show (((mo_fmt sN lN p1 p2 p3 p4 g 32 &&& 255) ||| ((mo_fmt sN lN p1 p2 p3 p4 g 33 &&& 255) <<< ((8 : Int32) &&& 31))) ||| (((mo_fmt sN lN p1 p2 p3 p4 g 34 &&& 255) ||| ((mo_fmt sN lN p1 p2 p3 p4 g 35 &&& 255) <<< ((8 : Int32) &&& 31))) <<< ((16 : Int32) &&& 31))) = nI sN
  rw [mo_lt512 (j := 32) (by decide), mo_lt512 (j := 33) (by decide), mo_lt512 (j := 34) (by decide), mo_lt512 (j := 35) (by decide)]
  unfold mo_f1
  rw [ar_up_lt (lo := 510) (j := 32) (by decide), ar_up_lt (lo := 67) (j := 32) (by decide), ar_up_lt (lo := 50) (j := 32) (by decide), ar_up_lt (lo := 48) (j := 32) (by decide), ar_up_lt (lo := 44) (j := 32) (by decide), ar_up_lt (lo := 36) (j := 32) (by decide), ar_up_in (lo := 32) (i := 4) (j := 32) (by decide) (by decide)]
  rw [ar_up_lt (lo := 510) (j := 33) (by decide), ar_up_lt (lo := 67) (j := 33) (by decide), ar_up_lt (lo := 50) (j := 33) (by decide), ar_up_lt (lo := 48) (j := 33) (by decide), ar_up_lt (lo := 44) (j := 33) (by decide), ar_up_lt (lo := 36) (j := 33) (by decide), ar_up_in (lo := 32) (i := 4) (j := 33) (by decide) (by decide)]
  rw [ar_up_lt (lo := 510) (j := 34) (by decide), ar_up_lt (lo := 67) (j := 34) (by decide), ar_up_lt (lo := 50) (j := 34) (by decide), ar_up_lt (lo := 48) (j := 34) (by decide), ar_up_lt (lo := 44) (j := 34) (by decide), ar_up_lt (lo := 36) (j := 34) (by decide), ar_up_in (lo := 32) (i := 4) (j := 34) (by decide) (by decide)]
  rw [ar_up_lt (lo := 510) (j := 35) (by decide), ar_up_lt (lo := 67) (j := 35) (by decide), ar_up_lt (lo := 50) (j := 35) (by decide), ar_up_lt (lo := 48) (j := 35) (by decide), ar_up_lt (lo := 44) (j := 35) (by decide), ar_up_lt (lo := 36) (j := 35) (by decide), ar_up_in (lo := 32) (i := 4) (j := 35) (by decide) (by decide)]
  exact mo_rt4 sN (by omega)
theorem mo_h44 {sN lN : Nat} {p1 p2 p3 p4 : Int32} {g : Nat → Int32} : mo_four (mo_fmt sN lN p1 p2 p3 p4 g) 44 = 2 := by
  show (((mo_fmt sN lN p1 p2 p3 p4 g 44 &&& 255) ||| ((mo_fmt sN lN p1 p2 p3 p4 g 45 &&& 255) <<< ((8 : Int32) &&& 31))) ||| (((mo_fmt sN lN p1 p2 p3 p4 g 46 &&& 255) ||| ((mo_fmt sN lN p1 p2 p3 p4 g 47 &&& 255) <<< ((8 : Int32) &&& 31))) <<< ((16 : Int32) &&& 31))) = 2
  rw [mo_lt512 (j := 44) (by decide), mo_lt512 (j := 45) (by decide), mo_lt512 (j := 46) (by decide), mo_lt512 (j := 47) (by decide)]
  unfold mo_f1
  rw [ar_up_lt (lo := 510) (j := 44) (by decide), ar_up_lt (lo := 67) (j := 44) (by decide), ar_up_lt (lo := 50) (j := 44) (by decide), ar_up_lt (lo := 48) (j := 44) (by decide), ar_up_in (lo := 44) (i := 4) (j := 44) (by decide) (by decide)]
  rw [ar_up_lt (lo := 510) (j := 45) (by decide), ar_up_lt (lo := 67) (j := 45) (by decide), ar_up_lt (lo := 50) (j := 45) (by decide), ar_up_lt (lo := 48) (j := 45) (by decide), ar_up_in (lo := 44) (i := 4) (j := 45) (by decide) (by decide)]
  rw [ar_up_lt (lo := 510) (j := 46) (by decide), ar_up_lt (lo := 67) (j := 46) (by decide), ar_up_lt (lo := 50) (j := 46) (by decide), ar_up_lt (lo := 48) (j := 46) (by decide), ar_up_in (lo := 44) (i := 4) (j := 46) (by decide) (by decide)]
  rw [ar_up_lt (lo := 510) (j := 47) (by decide), ar_up_lt (lo := 67) (j := 47) (by decide), ar_up_lt (lo := 50) (j := 47) (by decide), ar_up_lt (lo := 48) (j := 47) (by decide), ar_up_in (lo := 44) (i := 4) (j := 47) (by decide) (by decide)]
  decide +kernel
theorem mo_h11 {sN lN : Nat} {p1 p2 p3 p4 : Int32} {g : Nat → Int32} : mo_two (mo_fmt sN lN p1 p2 p3 p4 g) 11 = 512 := by
  show ((mo_fmt sN lN p1 p2 p3 p4 g 11 &&& 255) ||| ((mo_fmt sN lN p1 p2 p3 p4 g 12 &&& 255) <<< ((8 : Int32) &&& 31))) = 512
  rw [mo_lt512 (j := 11) (by decide), mo_lt512 (j := 12) (by decide)]
  unfold mo_f1
  rw [ar_up_lt (lo := 510) (j := 11) (by decide), ar_up_lt (lo := 67) (j := 11) (by decide), ar_up_lt (lo := 50) (j := 11) (by decide), ar_up_lt (lo := 48) (j := 11) (by decide), ar_up_lt (lo := 44) (j := 11) (by decide), ar_up_lt (lo := 36) (j := 11) (by decide), ar_up_lt (lo := 32) (j := 11) (by decide), ar_up_lt (lo := 16) (j := 11) (by decide), ar_up_lt (lo := 14) (j := 11) (by decide), ar_up_lt (lo := 13) (j := 11) (by decide), ar_up_in (lo := 11) (i := 2) (j := 11) (by decide) (by decide)]
  rw [ar_up_lt (lo := 510) (j := 12) (by decide), ar_up_lt (lo := 67) (j := 12) (by decide), ar_up_lt (lo := 50) (j := 12) (by decide), ar_up_lt (lo := 48) (j := 12) (by decide), ar_up_lt (lo := 44) (j := 12) (by decide), ar_up_lt (lo := 36) (j := 12) (by decide), ar_up_lt (lo := 32) (j := 12) (by decide), ar_up_lt (lo := 16) (j := 12) (by decide), ar_up_lt (lo := 14) (j := 12) (by decide), ar_up_lt (lo := 13) (j := 12) (by decide), ar_up_in (lo := 11) (i := 2) (j := 12) (by decide) (by decide)]
  decide +kernel
theorem mo_h17 {sN lN : Nat} {p1 p2 p3 p4 : Int32} {g : Nat → Int32} : mo_two (mo_fmt sN lN p1 p2 p3 p4 g) 17 = 0 := by
  show ((mo_fmt sN lN p1 p2 p3 p4 g 17 &&& 255) ||| ((mo_fmt sN lN p1 p2 p3 p4 g 18 &&& 255) <<< ((8 : Int32) &&& 31))) = 0
  rw [mo_lt512 (j := 17) (by decide), mo_lt512 (j := 18) (by decide)]
  unfold mo_f1
  rw [ar_up_lt (lo := 510) (j := 17) (by decide), ar_up_lt (lo := 67) (j := 17) (by decide), ar_up_lt (lo := 50) (j := 17) (by decide), ar_up_lt (lo := 48) (j := 17) (by decide), ar_up_lt (lo := 44) (j := 17) (by decide), ar_up_lt (lo := 36) (j := 17) (by decide), ar_up_lt (lo := 32) (j := 17) (by decide), ar_up_ge (lo := 16) (i := 1) (j := 17) (by decide), ar_up_ge (lo := 14) (i := 2) (j := 17) (by decide), ar_up_ge (lo := 13) (i := 1) (j := 17) (by decide), ar_up_ge (lo := 11) (i := 2) (j := 17) (by decide)]
  rw [ar_up_lt (lo := 510) (j := 18) (by decide), ar_up_lt (lo := 67) (j := 18) (by decide), ar_up_lt (lo := 50) (j := 18) (by decide), ar_up_lt (lo := 48) (j := 18) (by decide), ar_up_lt (lo := 44) (j := 18) (by decide), ar_up_lt (lo := 36) (j := 18) (by decide), ar_up_lt (lo := 32) (j := 18) (by decide), ar_up_ge (lo := 16) (i := 1) (j := 18) (by decide), ar_up_ge (lo := 14) (i := 2) (j := 18) (by decide), ar_up_ge (lo := 13) (i := 1) (j := 18) (by decide), ar_up_ge (lo := 11) (i := 2) (j := 18) (by decide)]
  unfold mo_bl mo_z
  rw [ar_up_ge (lo := 3) (i := 8) (j := 17) (by decide), ar_up_in (lo := 0) (i := 524288) (j := 17) (by decide) (by decide)]
  rw [ar_up_ge (lo := 3) (i := 8) (j := 18) (by decide), ar_up_in (lo := 0) (i := 524288) (j := 18) (by decide) (by decide)]
  decide +kernel
theorem mo_h19 {sN lN : Nat} {p1 p2 p3 p4 : Int32} {g : Nat → Int32} : mo_two (mo_fmt sN lN p1 p2 p3 p4 g) 19 = 0 := by
  show ((mo_fmt sN lN p1 p2 p3 p4 g 19 &&& 255) ||| ((mo_fmt sN lN p1 p2 p3 p4 g 20 &&& 255) <<< ((8 : Int32) &&& 31))) = 0
  rw [mo_lt512 (j := 19) (by decide), mo_lt512 (j := 20) (by decide)]
  unfold mo_f1
  rw [ar_up_lt (lo := 510) (j := 19) (by decide), ar_up_lt (lo := 67) (j := 19) (by decide), ar_up_lt (lo := 50) (j := 19) (by decide), ar_up_lt (lo := 48) (j := 19) (by decide), ar_up_lt (lo := 44) (j := 19) (by decide), ar_up_lt (lo := 36) (j := 19) (by decide), ar_up_lt (lo := 32) (j := 19) (by decide), ar_up_ge (lo := 16) (i := 1) (j := 19) (by decide), ar_up_ge (lo := 14) (i := 2) (j := 19) (by decide), ar_up_ge (lo := 13) (i := 1) (j := 19) (by decide), ar_up_ge (lo := 11) (i := 2) (j := 19) (by decide)]
  rw [ar_up_lt (lo := 510) (j := 20) (by decide), ar_up_lt (lo := 67) (j := 20) (by decide), ar_up_lt (lo := 50) (j := 20) (by decide), ar_up_lt (lo := 48) (j := 20) (by decide), ar_up_lt (lo := 44) (j := 20) (by decide), ar_up_lt (lo := 36) (j := 20) (by decide), ar_up_lt (lo := 32) (j := 20) (by decide), ar_up_ge (lo := 16) (i := 1) (j := 20) (by decide), ar_up_ge (lo := 14) (i := 2) (j := 20) (by decide), ar_up_ge (lo := 13) (i := 1) (j := 20) (by decide), ar_up_ge (lo := 11) (i := 2) (j := 20) (by decide)]
  unfold mo_bl mo_z
  rw [ar_up_ge (lo := 3) (i := 8) (j := 19) (by decide), ar_up_in (lo := 0) (i := 524288) (j := 19) (by decide) (by decide)]
  rw [ar_up_ge (lo := 3) (i := 8) (j := 20) (by decide), ar_up_in (lo := 0) (i := 524288) (j := 20) (by decide) (by decide)]
  decide +kernel
theorem mo_h22 {sN lN : Nat} {p1 p2 p3 p4 : Int32} {g : Nat → Int32} : mo_two (mo_fmt sN lN p1 p2 p3 p4 g) 22 = 0 := by
  show ((mo_fmt sN lN p1 p2 p3 p4 g 22 &&& 255) ||| ((mo_fmt sN lN p1 p2 p3 p4 g 23 &&& 255) <<< ((8 : Int32) &&& 31))) = 0
  rw [mo_lt512 (j := 22) (by decide), mo_lt512 (j := 23) (by decide)]
  unfold mo_f1
  rw [ar_up_lt (lo := 510) (j := 22) (by decide), ar_up_lt (lo := 67) (j := 22) (by decide), ar_up_lt (lo := 50) (j := 22) (by decide), ar_up_lt (lo := 48) (j := 22) (by decide), ar_up_lt (lo := 44) (j := 22) (by decide), ar_up_lt (lo := 36) (j := 22) (by decide), ar_up_lt (lo := 32) (j := 22) (by decide), ar_up_ge (lo := 16) (i := 1) (j := 22) (by decide), ar_up_ge (lo := 14) (i := 2) (j := 22) (by decide), ar_up_ge (lo := 13) (i := 1) (j := 22) (by decide), ar_up_ge (lo := 11) (i := 2) (j := 22) (by decide)]
  rw [ar_up_lt (lo := 510) (j := 23) (by decide), ar_up_lt (lo := 67) (j := 23) (by decide), ar_up_lt (lo := 50) (j := 23) (by decide), ar_up_lt (lo := 48) (j := 23) (by decide), ar_up_lt (lo := 44) (j := 23) (by decide), ar_up_lt (lo := 36) (j := 23) (by decide), ar_up_lt (lo := 32) (j := 23) (by decide), ar_up_ge (lo := 16) (i := 1) (j := 23) (by decide), ar_up_ge (lo := 14) (i := 2) (j := 23) (by decide), ar_up_ge (lo := 13) (i := 1) (j := 23) (by decide), ar_up_ge (lo := 11) (i := 2) (j := 23) (by decide)]
  unfold mo_bl mo_z
  rw [ar_up_ge (lo := 3) (i := 8) (j := 22) (by decide), ar_up_in (lo := 0) (i := 524288) (j := 22) (by decide) (by decide)]
  rw [ar_up_ge (lo := 3) (i := 8) (j := 23) (by decide), ar_up_in (lo := 0) (i := 524288) (j := 23) (by decide) (by decide)]
  decide +kernel
theorem mo_h48 {sN lN : Nat} {p1 p2 p3 p4 : Int32} {g : Nat → Int32} : mo_two (mo_fmt sN lN p1 p2 p3 p4 g) 48 = 1 := by
  show ((mo_fmt sN lN p1 p2 p3 p4 g 48 &&& 255) ||| ((mo_fmt sN lN p1 p2 p3 p4 g 49 &&& 255) <<< ((8 : Int32) &&& 31))) = 1
  rw [mo_lt512 (j := 48) (by decide), mo_lt512 (j := 49) (by decide)]
  unfold mo_f1
  rw [ar_up_lt (lo := 510) (j := 48) (by decide), ar_up_lt (lo := 67) (j := 48) (by decide), ar_up_lt (lo := 50) (j := 48) (by decide), ar_up_in (lo := 48) (i := 2) (j := 48) (by decide) (by decide)]
  rw [ar_up_lt (lo := 510) (j := 49) (by decide), ar_up_lt (lo := 67) (j := 49) (by decide), ar_up_lt (lo := 50) (j := 49) (by decide), ar_up_in (lo := 48) (i := 2) (j := 49) (by decide) (by decide)]
  decide +kernel
theorem mo_h50 {sN lN : Nat} {p1 p2 p3 p4 : Int32} {g : Nat → Int32} : mo_two (mo_fmt sN lN p1 p2 p3 p4 g) 50 = 6 := by
  show ((mo_fmt sN lN p1 p2 p3 p4 g 50 &&& 255) ||| ((mo_fmt sN lN p1 p2 p3 p4 g 51 &&& 255) <<< ((8 : Int32) &&& 31))) = 6
  rw [mo_lt512 (j := 50) (by decide), mo_lt512 (j := 51) (by decide)]
  unfold mo_f1
  rw [ar_up_lt (lo := 510) (j := 50) (by decide), ar_up_lt (lo := 67) (j := 50) (by decide), ar_up_in (lo := 50) (i := 2) (j := 50) (by decide) (by decide)]
  rw [ar_up_lt (lo := 510) (j := 51) (by decide), ar_up_lt (lo := 67) (j := 51) (by decide), ar_up_in (lo := 50) (i := 2) (j := 51) (by decide) (by decide)]
  decide +kernel
theorem mo_h510 {sN lN : Nat} {p1 p2 p3 p4 : Int32} {g : Nat → Int32} : mo_two (mo_fmt sN lN p1 p2 p3 p4 g) 510 = 43605 := by
  show ((mo_fmt sN lN p1 p2 p3 p4 g 510 &&& 255) ||| ((mo_fmt sN lN p1 p2 p3 p4 g 511 &&& 255) <<< ((8 : Int32) &&& 31))) = 43605
  rw [mo_lt512 (j := 510) (by decide), mo_lt512 (j := 511) (by decide)]
  unfold mo_f1
  rw [ar_up_in (lo := 510) (i := 2) (j := 510) (by decide) (by decide)]
  rw [ar_up_in (lo := 510) (i := 2) (j := 511) (by decide) (by decide)]
  decide +kernel
def tb_f1 (n : Nat) (f : Nat → Int32) (sec p1 p2 p3 p4 p5 : Int32) : Nat → Int32 := (dk_put2 n (dk_put4 n (dk_put2 n (dk_put2 n (dk_put4 n (dk_put4 n (dk_put4 n (dk_put1 n (dk_put2 n (dk_put1 n (dk_put2 n (dk_put1 n (dk_put1 n (dk_put1 n (dk_put1 n (dk_put1 n (dk_put1 n (dk_put1 n (dk_put1 n f (0 + 3) 32) (0 + 4) 32) (0 + 5) 32) (0 + 6) 32) (0 + 7) 32) (0 + 8) 32) (0 + 9) 32) (0 + 10) 32) (0 + 11) 512) (0 + 13) p1) (0 + 14) p2) (0 + 16) p3) (0 + 32) sec) (0 + 36) p4) (0 + 44) 2) (0 + 48) 1) (0 + 50) 6) (0 + 67) p5) (0 + 510) 43605)
abbrev bB (v : Int32) : Int32 := vp_nar .byte v.toInt8.toInt32
theorem dk_in0 {n k : Nat} (hn : n < 2 ^ 31) (hk : k < 2 ^ 31) : ¬ nI k < 0 := nI_pos hk
theorem dk1_ne {n k j : Nat} {f : Nat → Int32} {a v : Int32} (ha : a = nI k) (hk : k + 1 ≤ n) (hn : n < 2 ^ 31) (hj : j ≠ k) : dk_put1 n f a v j = f j := by
  subst ha
  unfold dk_put1
  rw [if_neg (nI_pos (by omega)), if_neg (nI_ge (by omega) hn), nI_clamp (by omega)]
  exact if_neg hj
theorem dk1_at {n k : Nat} {f : Nat → Int32} {a v : Int32} (ha : a = nI k) (hk : k + 1 ≤ n) (hn : n < 2 ^ 31) : dk_put1 n f a v k = bB v := by
  subst ha
  unfold dk_put1
  rw [if_neg (nI_pos (by omega)), if_neg (nI_ge (by omega) hn), nI_clamp (by omega)]
  exact if_pos rfl
theorem dk2_of {n k : Nat} {f : Nat → Int32} {a v : Int32} (ha : a = nI k) (hk : k + 2 ≤ n) (hn : n < 2 ^ 31) : dk_put2 n f a v = upd (upd f k (bB v)) (k + 1) (bB (v >>> ((8 : Int32) &&& 31))) := by
  subst ha
  unfold dk_put2
  rw [if_neg (nI_pos (by omega)), show nI n - 2 = nI (n - 2) from pk_sub (b := 2) (by omega), if_neg (nI_nlt (by omega) (by omega)), nI_clamp (by omega), show nI k + 1 = nI (k + 1) from nI_1 k, nI_clamp (by omega)]
theorem dk4_of {n k : Nat} {f : Nat → Int32} {a v : Int32} (ha : a = nI k) (hk : k + 4 ≤ n) (hn : n < 2 ^ 31) : dk_put4 n f a v = upd (upd (upd (upd f k (bB v)) (k + 1) (bB (v >>> ((8 : Int32) &&& 31)))) (k + 2) (bB (v >>> ((16 : Int32) &&& 31)))) (k + 3) (bB (v >>> ((24 : Int32) &&& 31))) := by
  subst ha
  unfold dk_put4
  rw [if_neg (nI_pos (by omega)), show nI n - 4 = nI (n - 4) from pk_sub (b := 4) (by omega), if_neg (nI_nlt (by omega) (by omega)), nI_clamp (by omega), show nI k + 1 = nI (k + 1) from nI_1 k, nI_clamp (by omega), show nI k + 2 = nI (k + 2) from nI_add k 2, nI_clamp (by omega), show nI k + 3 = nI (k + 3) from nI_add k 3, nI_clamp (by omega)]
theorem dk2_ne {n k j : Nat} {f : Nat → Int32} {a v : Int32} (ha : a = nI k) (hk : k + 2 ≤ n) (hn : n < 2 ^ 31) (hj : j < k ∨ k + 2 ≤ j) : dk_put2 n f a v j = f j := by
  rw [dk2_of ha hk hn, pk_un (by omega), pk_un (by omega)]
theorem dk2_0 {n k : Nat} {f : Nat → Int32} {a v : Int32} (ha : a = nI k) (hk : k + 2 ≤ n) (hn : n < 2 ^ 31) : dk_put2 n f a v k = bB v := by
  rw [dk2_of ha hk hn, pk_un (by omega), pk_us]
theorem dk2_1 {n k j : Nat} {f : Nat → Int32} {a v : Int32} (ha : a = nI k) (hk : k + 2 ≤ n) (hn : n < 2 ^ 31) (hj : j = k + 1) : dk_put2 n f a v j = bB (v >>> ((8 : Int32) &&& 31)) := by
  subst hj
  rw [dk2_of ha hk hn, pk_us]
theorem dk4_ne {n k j : Nat} {f : Nat → Int32} {a v : Int32} (ha : a = nI k) (hk : k + 4 ≤ n) (hn : n < 2 ^ 31) (hj : j < k ∨ k + 4 ≤ j) : dk_put4 n f a v j = f j := by
  rw [dk4_of ha hk hn, pk_un (by omega), pk_un (by omega), pk_un (by omega), pk_un (by omega)]
theorem dk4_0 {n k : Nat} {f : Nat → Int32} {a v : Int32} (ha : a = nI k) (hk : k + 4 ≤ n) (hn : n < 2 ^ 31) : dk_put4 n f a v k = bB v := by
  rw [dk4_of ha hk hn, pk_un (by omega), pk_un (by omega), pk_un (by omega), pk_us]
theorem dk4_1 {n k j : Nat} {f : Nat → Int32} {a v : Int32} (ha : a = nI k) (hk : k + 4 ≤ n) (hn : n < 2 ^ 31) (hj : j = k + 1) : dk_put4 n f a v j = bB (v >>> ((8 : Int32) &&& 31)) := by
  subst hj
  rw [dk4_of ha hk hn, pk_un (by omega), pk_un (by omega), pk_us]
theorem dk4_2 {n k j : Nat} {f : Nat → Int32} {a v : Int32} (ha : a = nI k) (hk : k + 4 ≤ n) (hn : n < 2 ^ 31) (hj : j = k + 2) : dk_put4 n f a v j = bB (v >>> ((16 : Int32) &&& 31)) := by
  subst hj
  rw [dk4_of ha hk hn, pk_un (by omega), pk_us]
theorem dk4_3 {n k j : Nat} {f : Nat → Int32} {a v : Int32} (ha : a = nI k) (hk : k + 4 ≤ n) (hn : n < 2 ^ 31) (hj : j = k + 3) : dk_put4 n f a v j = bB (v >>> ((24 : Int32) &&& 31)) := by
  subst hj
  rw [dk4_of ha hk hn, pk_us]
theorem dk_rd1 {n k : Nat} {f : Nat → Int32} {a : Int32} (ha : a = nI k) (hk : k + 1 ≤ n) (hn : n < 2 ^ 31) : dk_one n f a = f k &&& 255 := by
  subst ha
  rw [dk_one, if_neg (nI_pos (by omega)), if_neg (nI_ge (by omega) hn), nI_clamp (by omega)]
theorem dk_rd2 {n k : Nat} {f : Nat → Int32} {a : Int32} (ha : a = nI k) (hk : k + 2 ≤ n) (hn : n < 2 ^ 31) : dk_two n f a = (f k &&& 255) ||| ((f (k + 1) &&& 255) <<< ((8 : Int32) &&& 31)) := by
  subst ha
  rw [dk_two, if_neg (nI_pos (by omega)), show nI n - 2 = nI (n - 2) from pk_sub (b := 2) (by omega), if_pos (nI_le (by omega) (by omega)), nI_clamp (by omega), show nI k + 1 = nI (k + 1) from nI_1 k, nI_clamp (by omega)]
theorem dk_rd4 {n k : Nat} {f : Nat → Int32} {a : Int32} (ha : a = nI k) (hk : k + 4 ≤ n) (hn : n < 2 ^ 31) : dk_four n f a = (((f k &&& 255) ||| ((f (k + 1) &&& 255) <<< ((8 : Int32) &&& 31))) ||| ((f (k + 2) &&& 255) <<< ((16 : Int32) &&& 31))) ||| ((f (k + 3) &&& 255) <<< ((24 : Int32) &&& 31)) := by
  subst ha
  rw [dk_four, if_neg (nI_pos (by omega)), show nI n - 4 = nI (n - 4) from pk_sub (b := 4) (by omega), if_pos (nI_le (by omega) (by omega)), nI_clamp (by omega), show nI k + 1 = nI (k + 1) from nI_1 k, nI_clamp (by omega), show nI k + 2 = nI (k + 2) from nI_add k 2, nI_clamp (by omega), show nI k + 3 = nI (k + 3) from nI_add k 3, nI_clamp (by omega)]
theorem dk_z {n j : Nat} {f : Nat → Int32} {c : Int32} (hc : c = nI n) (hn : n < 2 ^ 31) (hj : j < n) : dk_zero n f 0 c j = 0 := by
  subst hc
  rw [dk_zero, if_neg (by decide), if_neg (nI_pos hn), if_neg (nI_nlt (Nat.le_refl _) hn), pk_sub (Nat.le_refl n), Nat.sub_self, if_neg (by decide), show (0 : Int32) + nI n = nI n from Int32.zero_add _, nI_clamp hn]
  exact if_pos ⟨Nat.zero_le _, hj⟩
theorem tb_lt512 {n : Nat} {f : Nat → Int32} {sec p1 p2 p3 p4 p5 : Int32} (hn0 : 4096 ≤ n) (hn : n < 2 ^ 31) {j : Nat} (h : j < 512) : tb_first n f sec p1 p2 p3 p4 p5 j = tb_f1 n f sec p1 p2 p3 p4 p5 j := by
  unfold tb_first
  rw [dk4_ne (a := 1020) (k := 1020) (by decide) (by omega) hn (by omega), dk4_ne (a := 1004) (k := 1004) (by decide) (by omega) hn (by omega), dk4_ne (a := 1000) (k := 1000) (by decide) (by omega) hn (by omega), dk4_ne (a := 996) (k := 996) (by decide) (by omega) hn (by omega), dk4_ne (a := 512) (k := 512) (by decide) (by omega) hn (by omega), dk2_ne (a := 3072 + 510) (k := 3582) (by decide) (by omega) hn (by omega), dk4_ne (a := 3072 + 67) (k := 3139) (by decide) (by omega) hn (by omega), dk2_ne (a := 3072 + 50) (k := 3122) (by decide) (by omega) hn (by omega), dk2_ne (a := 3072 + 48) (k := 3120) (by decide) (by omega) hn (by omega), dk4_ne (a := 3072 + 44) (k := 3116) (by decide) (by omega) hn (by omega), dk4_ne (a := 3072 + 36) (k := 3108) (by decide) (by omega) hn (by omega), dk4_ne (a := 3072 + 32) (k := 3104) (by decide) (by omega) hn (by omega), dk1_ne (a := 3072 + 16) (k := 3088) (by decide) (by omega) hn (by omega), dk2_ne (a := 3072 + 14) (k := 3086) (by decide) (by omega) hn (by omega), dk1_ne (a := 3072 + 13) (k := 3085) (by decide) (by omega) hn (by omega), dk2_ne (a := 3072 + 11) (k := 3083) (by decide) (by omega) hn (by omega), dk1_ne (a := 3072 + 10) (k := 3082) (by decide) (by omega) hn (by omega), dk1_ne (a := 3072 + 9) (k := 3081) (by decide) (by omega) hn (by omega), dk1_ne (a := 3072 + 8) (k := 3080) (by decide) (by omega) hn (by omega), dk1_ne (a := 3072 + 7) (k := 3079) (by decide) (by omega) hn (by omega), dk1_ne (a := 3072 + 6) (k := 3078) (by decide) (by omega) hn (by omega), dk1_ne (a := 3072 + 5) (k := 3077) (by decide) (by omega) hn (by omega), dk1_ne (a := 3072 + 4) (k := 3076) (by decide) (by omega) hn (by omega), dk1_ne (a := 3072 + 3) (k := 3075) (by decide) (by omega) hn (by omega)]
  rfl
theorem dk_rt4 : ∀ j : Nat, j < 1025 → ((((bB (nI j) &&& 255) ||| ((bB (nI j >>> ((8 : Int32) &&& 31)) &&& 255) <<< ((8 : Int32) &&& 31))) ||| ((bB (nI j >>> ((16 : Int32) &&& 31)) &&& 255) <<< ((16 : Int32) &&& 31))) ||| ((bB (nI j >>> ((24 : Int32) &&& 31)) &&& 255) <<< ((24 : Int32) &&& 31))) = nI j := by decide +kernel
theorem dk_rt2 : ∀ j : Nat, j < 65 → ((bB (nI j) &&& 255) ||| ((bB (nI j >>> ((8 : Int32) &&& 31)) &&& 255) <<< ((8 : Int32) &&& 31))) = nI j := by decide +kernel
theorem tb_h13 {n : Nat} {f : Nat → Int32} {sec p1 p2 p3 p4 p5 : Int32} (hn0 : 4096 ≤ n) (hn : n < 2 ^ 31) (hc : p1 = 2 ∨ p1 = 4 ∨ p1 = 8) : dk_one n (tb_first n f sec p1 p2 p3 p4 p5) 13 = p1 := by
  rw [dk_rd1 (k := 13) (by decide) (by omega) hn]
  show tb_first n f sec p1 p2 p3 p4 p5 13 &&& 255 = p1
  rw [tb_lt512 hn0 hn (j := 13) (by decide)]
  unfold tb_f1
  rw [dk2_ne (a := 0 + 510) (k := 510) (j := 13) (by decide) (by omega) hn (by decide), dk4_ne (a := 0 + 67) (k := 67) (j := 13) (by decide) (by omega) hn (by decide), dk2_ne (a := 0 + 50) (k := 50) (j := 13) (by decide) (by omega) hn (by decide), dk2_ne (a := 0 + 48) (k := 48) (j := 13) (by decide) (by omega) hn (by decide), dk4_ne (a := 0 + 44) (k := 44) (j := 13) (by decide) (by omega) hn (by decide), dk4_ne (a := 0 + 36) (k := 36) (j := 13) (by decide) (by omega) hn (by decide), dk4_ne (a := 0 + 32) (k := 32) (j := 13) (by decide) (by omega) hn (by decide), dk1_ne (a := 0 + 16) (k := 16) (j := 13) (by decide) (by omega) hn (by decide), dk2_ne (a := 0 + 14) (k := 14) (j := 13) (by decide) (by omega) hn (by decide), dk1_at (a := 0 + 13) (k := 13) (by decide) (by omega) hn]
  rcases hc with rfl | rfl | rfl <;> decide +kernel
theorem tb_h16 {n : Nat} {f : Nat → Int32} {sec p1 p2 p3 p4 p5 : Int32} (hn0 : 4096 ≤ n) (hn : n < 2 ^ 31) (hy : p3 = 1 ∨ p3 = 2) : dk_one n (tb_first n f sec p1 p2 p3 p4 p5) 16 = p3 := by
  rw [dk_rd1 (k := 16) (by decide) (by omega) hn]
  show tb_first n f sec p1 p2 p3 p4 p5 16 &&& 255 = p3
  rw [tb_lt512 hn0 hn (j := 16) (by decide)]
  unfold tb_f1
  rw [dk2_ne (a := 0 + 510) (k := 510) (j := 16) (by decide) (by omega) hn (by decide), dk4_ne (a := 0 + 67) (k := 67) (j := 16) (by decide) (by omega) hn (by decide), dk2_ne (a := 0 + 50) (k := 50) (j := 16) (by decide) (by omega) hn (by decide), dk2_ne (a := 0 + 48) (k := 48) (j := 16) (by decide) (by omega) hn (by decide), dk4_ne (a := 0 + 44) (k := 44) (j := 16) (by decide) (by omega) hn (by decide), dk4_ne (a := 0 + 36) (k := 36) (j := 16) (by decide) (by omega) hn (by decide), dk4_ne (a := 0 + 32) (k := 32) (j := 16) (by decide) (by omega) hn (by decide), dk1_at (a := 0 + 16) (k := 16) (by decide) (by omega) hn]
  rcases hy with rfl | rfl <;> decide +kernel
theorem tb_h14 {n : Nat} {f : Nat → Int32} {sec p1 p2 p3 p4 p5 : Int32} (hn0 : 4096 ≤ n) (hn : n < 2 ^ 31) {vN : Nat} (ev : p2 = nI vN) (hv : vN ≤ 64) : dk_two n (tb_first n f sec p1 p2 p3 p4 p5) 14 = p2 := by
  rw [dk_rd2 (k := 14) (by decide) (by omega) hn]
  show (tb_first n f sec p1 p2 p3 p4 p5 14 &&& 255) ||| ((tb_first n f sec p1 p2 p3 p4 p5 15 &&& 255) <<< ((8 : Int32) &&& 31)) = p2
  rw [tb_lt512 hn0 hn (j := 14) (by decide), tb_lt512 hn0 hn (j := 15) (by decide)]
  unfold tb_f1
  rw [dk2_ne (a := 0 + 510) (k := 510) (j := 14) (by decide) (by omega) hn (by decide), dk4_ne (a := 0 + 67) (k := 67) (j := 14) (by decide) (by omega) hn (by decide), dk2_ne (a := 0 + 50) (k := 50) (j := 14) (by decide) (by omega) hn (by decide), dk2_ne (a := 0 + 48) (k := 48) (j := 14) (by decide) (by omega) hn (by decide), dk4_ne (a := 0 + 44) (k := 44) (j := 14) (by decide) (by omega) hn (by decide), dk4_ne (a := 0 + 36) (k := 36) (j := 14) (by decide) (by omega) hn (by decide), dk4_ne (a := 0 + 32) (k := 32) (j := 14) (by decide) (by omega) hn (by decide), dk1_ne (a := 0 + 16) (k := 16) (j := 14) (by decide) (by omega) hn (by decide), dk2_0 (a := 0 + 14) (k := 14) (by decide) (by omega) hn]
  rw [dk2_ne (a := 0 + 510) (k := 510) (j := 15) (by decide) (by omega) hn (by decide), dk4_ne (a := 0 + 67) (k := 67) (j := 15) (by decide) (by omega) hn (by decide), dk2_ne (a := 0 + 50) (k := 50) (j := 15) (by decide) (by omega) hn (by decide), dk2_ne (a := 0 + 48) (k := 48) (j := 15) (by decide) (by omega) hn (by decide), dk4_ne (a := 0 + 44) (k := 44) (j := 15) (by decide) (by omega) hn (by decide), dk4_ne (a := 0 + 36) (k := 36) (j := 15) (by decide) (by omega) hn (by decide), dk4_ne (a := 0 + 32) (k := 32) (j := 15) (by decide) (by omega) hn (by decide), dk1_ne (a := 0 + 16) (k := 16) (j := 15) (by decide) (by omega) hn (by decide), dk2_1 (a := 0 + 14) (k := 14) (j := 15) (by decide) (by omega) hn (by decide)]
  subst ev
  exact dk_rt2 vN (by omega)
theorem tb_h36 {n : Nat} {f : Nat → Int32} {sec p1 p2 p3 p4 p5 : Int32} (hn0 : 4096 ≤ n) (hn : n < 2 ^ 31) {lN : Nat} (el : p4 = nI lN) (hl : lN ≤ 32) : dk_four n (tb_first n f sec p1 p2 p3 p4 p5) 36 = p4 := by
  rw [dk_rd4 (k := 36) (by decide) (by omega) hn]
  show (((tb_first n f sec p1 p2 p3 p4 p5 36 &&& 255) ||| ((tb_first n f sec p1 p2 p3 p4 p5 37 &&& 255) <<< ((8 : Int32) &&& 31))) ||| ((tb_first n f sec p1 p2 p3 p4 p5 38 &&& 255) <<< ((16 : Int32) &&& 31))) ||| ((tb_first n f sec p1 p2 p3 p4 p5 39 &&& 255) <<< ((24 : Int32) &&& 31)) = p4
  rw [tb_lt512 hn0 hn (j := 36) (by decide), tb_lt512 hn0 hn (j := 37) (by decide), tb_lt512 hn0 hn (j := 38) (by decide), tb_lt512 hn0 hn (j := 39) (by decide)]
  unfold tb_f1
  rw [dk2_ne (a := 0 + 510) (k := 510) (j := 36) (by decide) (by omega) hn (by decide), dk4_ne (a := 0 + 67) (k := 67) (j := 36) (by decide) (by omega) hn (by decide), dk2_ne (a := 0 + 50) (k := 50) (j := 36) (by decide) (by omega) hn (by decide), dk2_ne (a := 0 + 48) (k := 48) (j := 36) (by decide) (by omega) hn (by decide), dk4_ne (a := 0 + 44) (k := 44) (j := 36) (by decide) (by omega) hn (by decide), dk4_0 (a := 0 + 36) (k := 36) (by decide) (by omega) hn]
  rw [dk2_ne (a := 0 + 510) (k := 510) (j := 37) (by decide) (by omega) hn (by decide), dk4_ne (a := 0 + 67) (k := 67) (j := 37) (by decide) (by omega) hn (by decide), dk2_ne (a := 0 + 50) (k := 50) (j := 37) (by decide) (by omega) hn (by decide), dk2_ne (a := 0 + 48) (k := 48) (j := 37) (by decide) (by omega) hn (by decide), dk4_ne (a := 0 + 44) (k := 44) (j := 37) (by decide) (by omega) hn (by decide), dk4_1 (a := 0 + 36) (k := 36) (j := 37) (by decide) (by omega) hn (by decide)]
  rw [dk2_ne (a := 0 + 510) (k := 510) (j := 38) (by decide) (by omega) hn (by decide), dk4_ne (a := 0 + 67) (k := 67) (j := 38) (by decide) (by omega) hn (by decide), dk2_ne (a := 0 + 50) (k := 50) (j := 38) (by decide) (by omega) hn (by decide), dk2_ne (a := 0 + 48) (k := 48) (j := 38) (by decide) (by omega) hn (by decide), dk4_ne (a := 0 + 44) (k := 44) (j := 38) (by decide) (by omega) hn (by decide), dk4_2 (a := 0 + 36) (k := 36) (j := 38) (by decide) (by omega) hn (by decide)]
  rw [dk2_ne (a := 0 + 510) (k := 510) (j := 39) (by decide) (by omega) hn (by decide), dk4_ne (a := 0 + 67) (k := 67) (j := 39) (by decide) (by omega) hn (by decide), dk2_ne (a := 0 + 50) (k := 50) (j := 39) (by decide) (by omega) hn (by decide), dk2_ne (a := 0 + 48) (k := 48) (j := 39) (by decide) (by omega) hn (by decide), dk4_ne (a := 0 + 44) (k := 44) (j := 39) (by decide) (by omega) hn (by decide), dk4_3 (a := 0 + 36) (k := 36) (j := 39) (by decide) (by omega) hn (by decide)]
  subst el
  exact dk_rt4 lN (by omega)
theorem tb_h32 {n : Nat} {f : Nat → Int32} {sec p1 p2 p3 p4 p5 : Int32} (hn0 : 4096 ≤ n) (hn : n < 2 ^ 31) {sN : Nat} (es : sec = nI sN) (hs : sN ≤ 1024) : dk_four n (tb_first n f sec p1 p2 p3 p4 p5) 32 = sec := by
  rw [dk_rd4 (k := 32) (by decide) (by omega) hn]
  show (((tb_first n f sec p1 p2 p3 p4 p5 32 &&& 255) ||| ((tb_first n f sec p1 p2 p3 p4 p5 33 &&& 255) <<< ((8 : Int32) &&& 31))) ||| ((tb_first n f sec p1 p2 p3 p4 p5 34 &&& 255) <<< ((16 : Int32) &&& 31))) ||| ((tb_first n f sec p1 p2 p3 p4 p5 35 &&& 255) <<< ((24 : Int32) &&& 31)) = sec
  rw [tb_lt512 hn0 hn (j := 32) (by decide), tb_lt512 hn0 hn (j := 33) (by decide), tb_lt512 hn0 hn (j := 34) (by decide), tb_lt512 hn0 hn (j := 35) (by decide)]
  unfold tb_f1
  rw [dk2_ne (a := 0 + 510) (k := 510) (j := 32) (by decide) (by omega) hn (by decide), dk4_ne (a := 0 + 67) (k := 67) (j := 32) (by decide) (by omega) hn (by decide), dk2_ne (a := 0 + 50) (k := 50) (j := 32) (by decide) (by omega) hn (by decide), dk2_ne (a := 0 + 48) (k := 48) (j := 32) (by decide) (by omega) hn (by decide), dk4_ne (a := 0 + 44) (k := 44) (j := 32) (by decide) (by omega) hn (by decide), dk4_ne (a := 0 + 36) (k := 36) (j := 32) (by decide) (by omega) hn (by decide), dk4_0 (a := 0 + 32) (k := 32) (by decide) (by omega) hn]
  rw [dk2_ne (a := 0 + 510) (k := 510) (j := 33) (by decide) (by omega) hn (by decide), dk4_ne (a := 0 + 67) (k := 67) (j := 33) (by decide) (by omega) hn (by decide), dk2_ne (a := 0 + 50) (k := 50) (j := 33) (by decide) (by omega) hn (by decide), dk2_ne (a := 0 + 48) (k := 48) (j := 33) (by decide) (by omega) hn (by decide), dk4_ne (a := 0 + 44) (k := 44) (j := 33) (by decide) (by omega) hn (by decide), dk4_ne (a := 0 + 36) (k := 36) (j := 33) (by decide) (by omega) hn (by decide), dk4_1 (a := 0 + 32) (k := 32) (j := 33) (by decide) (by omega) hn (by decide)]
  rw [dk2_ne (a := 0 + 510) (k := 510) (j := 34) (by decide) (by omega) hn (by decide), dk4_ne (a := 0 + 67) (k := 67) (j := 34) (by decide) (by omega) hn (by decide), dk2_ne (a := 0 + 50) (k := 50) (j := 34) (by decide) (by omega) hn (by decide), dk2_ne (a := 0 + 48) (k := 48) (j := 34) (by decide) (by omega) hn (by decide), dk4_ne (a := 0 + 44) (k := 44) (j := 34) (by decide) (by omega) hn (by decide), dk4_ne (a := 0 + 36) (k := 36) (j := 34) (by decide) (by omega) hn (by decide), dk4_2 (a := 0 + 32) (k := 32) (j := 34) (by decide) (by omega) hn (by decide)]
  rw [dk2_ne (a := 0 + 510) (k := 510) (j := 35) (by decide) (by omega) hn (by decide), dk4_ne (a := 0 + 67) (k := 67) (j := 35) (by decide) (by omega) hn (by decide), dk2_ne (a := 0 + 50) (k := 50) (j := 35) (by decide) (by omega) hn (by decide), dk2_ne (a := 0 + 48) (k := 48) (j := 35) (by decide) (by omega) hn (by decide), dk4_ne (a := 0 + 44) (k := 44) (j := 35) (by decide) (by omega) hn (by decide), dk4_ne (a := 0 + 36) (k := 36) (j := 35) (by decide) (by omega) hn (by decide), dk4_3 (a := 0 + 32) (k := 32) (j := 35) (by decide) (by omega) hn (by decide)]
  subst es
  exact dk_rt4 sN (by omega)
theorem tb_h44 {n : Nat} {f : Nat → Int32} {sec p1 p2 p3 p4 p5 : Int32} (hn0 : 4096 ≤ n) (hn : n < 2 ^ 31) : dk_four n (tb_first n f sec p1 p2 p3 p4 p5) 44 = 2 := by
  rw [dk_rd4 (k := 44) (by decide) (by omega) hn]
  show (((tb_first n f sec p1 p2 p3 p4 p5 44 &&& 255) ||| ((tb_first n f sec p1 p2 p3 p4 p5 45 &&& 255) <<< ((8 : Int32) &&& 31))) ||| ((tb_first n f sec p1 p2 p3 p4 p5 46 &&& 255) <<< ((16 : Int32) &&& 31))) ||| ((tb_first n f sec p1 p2 p3 p4 p5 47 &&& 255) <<< ((24 : Int32) &&& 31)) = 2
  rw [tb_lt512 hn0 hn (j := 44) (by decide), tb_lt512 hn0 hn (j := 45) (by decide), tb_lt512 hn0 hn (j := 46) (by decide), tb_lt512 hn0 hn (j := 47) (by decide)]
  unfold tb_f1
  rw [dk2_ne (a := 0 + 510) (k := 510) (j := 44) (by decide) (by omega) hn (by decide), dk4_ne (a := 0 + 67) (k := 67) (j := 44) (by decide) (by omega) hn (by decide), dk2_ne (a := 0 + 50) (k := 50) (j := 44) (by decide) (by omega) hn (by decide), dk2_ne (a := 0 + 48) (k := 48) (j := 44) (by decide) (by omega) hn (by decide), dk4_0 (a := 0 + 44) (k := 44) (by decide) (by omega) hn]
  rw [dk2_ne (a := 0 + 510) (k := 510) (j := 45) (by decide) (by omega) hn (by decide), dk4_ne (a := 0 + 67) (k := 67) (j := 45) (by decide) (by omega) hn (by decide), dk2_ne (a := 0 + 50) (k := 50) (j := 45) (by decide) (by omega) hn (by decide), dk2_ne (a := 0 + 48) (k := 48) (j := 45) (by decide) (by omega) hn (by decide), dk4_1 (a := 0 + 44) (k := 44) (j := 45) (by decide) (by omega) hn (by decide)]
  rw [dk2_ne (a := 0 + 510) (k := 510) (j := 46) (by decide) (by omega) hn (by decide), dk4_ne (a := 0 + 67) (k := 67) (j := 46) (by decide) (by omega) hn (by decide), dk2_ne (a := 0 + 50) (k := 50) (j := 46) (by decide) (by omega) hn (by decide), dk2_ne (a := 0 + 48) (k := 48) (j := 46) (by decide) (by omega) hn (by decide), dk4_2 (a := 0 + 44) (k := 44) (j := 46) (by decide) (by omega) hn (by decide)]
  rw [dk2_ne (a := 0 + 510) (k := 510) (j := 47) (by decide) (by omega) hn (by decide), dk4_ne (a := 0 + 67) (k := 67) (j := 47) (by decide) (by omega) hn (by decide), dk2_ne (a := 0 + 50) (k := 50) (j := 47) (by decide) (by omega) hn (by decide), dk2_ne (a := 0 + 48) (k := 48) (j := 47) (by decide) (by omega) hn (by decide), dk4_3 (a := 0 + 44) (k := 44) (j := 47) (by decide) (by omega) hn (by decide)]
  decide +kernel
theorem tb_h11 {n : Nat} {f : Nat → Int32} {sec p1 p2 p3 p4 p5 : Int32} (hn0 : 4096 ≤ n) (hn : n < 2 ^ 31) : dk_two n (tb_first n f sec p1 p2 p3 p4 p5) 11 = 512 := by
  rw [dk_rd2 (k := 11) (by decide) (by omega) hn]
  show (tb_first n f sec p1 p2 p3 p4 p5 11 &&& 255) ||| ((tb_first n f sec p1 p2 p3 p4 p5 12 &&& 255) <<< ((8 : Int32) &&& 31)) = 512
  rw [tb_lt512 hn0 hn (j := 11) (by decide), tb_lt512 hn0 hn (j := 12) (by decide)]
  unfold tb_f1
  rw [dk2_ne (a := 0 + 510) (k := 510) (j := 11) (by decide) (by omega) hn (by decide), dk4_ne (a := 0 + 67) (k := 67) (j := 11) (by decide) (by omega) hn (by decide), dk2_ne (a := 0 + 50) (k := 50) (j := 11) (by decide) (by omega) hn (by decide), dk2_ne (a := 0 + 48) (k := 48) (j := 11) (by decide) (by omega) hn (by decide), dk4_ne (a := 0 + 44) (k := 44) (j := 11) (by decide) (by omega) hn (by decide), dk4_ne (a := 0 + 36) (k := 36) (j := 11) (by decide) (by omega) hn (by decide), dk4_ne (a := 0 + 32) (k := 32) (j := 11) (by decide) (by omega) hn (by decide), dk1_ne (a := 0 + 16) (k := 16) (j := 11) (by decide) (by omega) hn (by decide), dk2_ne (a := 0 + 14) (k := 14) (j := 11) (by decide) (by omega) hn (by decide), dk1_ne (a := 0 + 13) (k := 13) (j := 11) (by decide) (by omega) hn (by decide), dk2_0 (a := 0 + 11) (k := 11) (by decide) (by omega) hn]
  rw [dk2_ne (a := 0 + 510) (k := 510) (j := 12) (by decide) (by omega) hn (by decide), dk4_ne (a := 0 + 67) (k := 67) (j := 12) (by decide) (by omega) hn (by decide), dk2_ne (a := 0 + 50) (k := 50) (j := 12) (by decide) (by omega) hn (by decide), dk2_ne (a := 0 + 48) (k := 48) (j := 12) (by decide) (by omega) hn (by decide), dk4_ne (a := 0 + 44) (k := 44) (j := 12) (by decide) (by omega) hn (by decide), dk4_ne (a := 0 + 36) (k := 36) (j := 12) (by decide) (by omega) hn (by decide), dk4_ne (a := 0 + 32) (k := 32) (j := 12) (by decide) (by omega) hn (by decide), dk1_ne (a := 0 + 16) (k := 16) (j := 12) (by decide) (by omega) hn (by decide), dk2_ne (a := 0 + 14) (k := 14) (j := 12) (by decide) (by omega) hn (by decide), dk1_ne (a := 0 + 13) (k := 13) (j := 12) (by decide) (by omega) hn (by decide), dk2_1 (a := 0 + 11) (k := 11) (j := 12) (by decide) (by omega) hn (by decide)]
  decide +kernel
theorem tb_h48 {n : Nat} {f : Nat → Int32} {sec p1 p2 p3 p4 p5 : Int32} (hn0 : 4096 ≤ n) (hn : n < 2 ^ 31) : dk_two n (tb_first n f sec p1 p2 p3 p4 p5) 48 = 1 := by
  rw [dk_rd2 (k := 48) (by decide) (by omega) hn]
  show (tb_first n f sec p1 p2 p3 p4 p5 48 &&& 255) ||| ((tb_first n f sec p1 p2 p3 p4 p5 49 &&& 255) <<< ((8 : Int32) &&& 31)) = 1
  rw [tb_lt512 hn0 hn (j := 48) (by decide), tb_lt512 hn0 hn (j := 49) (by decide)]
  unfold tb_f1
  rw [dk2_ne (a := 0 + 510) (k := 510) (j := 48) (by decide) (by omega) hn (by decide), dk4_ne (a := 0 + 67) (k := 67) (j := 48) (by decide) (by omega) hn (by decide), dk2_ne (a := 0 + 50) (k := 50) (j := 48) (by decide) (by omega) hn (by decide), dk2_0 (a := 0 + 48) (k := 48) (by decide) (by omega) hn]
  rw [dk2_ne (a := 0 + 510) (k := 510) (j := 49) (by decide) (by omega) hn (by decide), dk4_ne (a := 0 + 67) (k := 67) (j := 49) (by decide) (by omega) hn (by decide), dk2_ne (a := 0 + 50) (k := 50) (j := 49) (by decide) (by omega) hn (by decide), dk2_1 (a := 0 + 48) (k := 48) (j := 49) (by decide) (by omega) hn (by decide)]
  decide +kernel
theorem tb_h50 {n : Nat} {f : Nat → Int32} {sec p1 p2 p3 p4 p5 : Int32} (hn0 : 4096 ≤ n) (hn : n < 2 ^ 31) : dk_two n (tb_first n f sec p1 p2 p3 p4 p5) 50 = 6 := by
  rw [dk_rd2 (k := 50) (by decide) (by omega) hn]
  show (tb_first n f sec p1 p2 p3 p4 p5 50 &&& 255) ||| ((tb_first n f sec p1 p2 p3 p4 p5 51 &&& 255) <<< ((8 : Int32) &&& 31)) = 6
  rw [tb_lt512 hn0 hn (j := 50) (by decide), tb_lt512 hn0 hn (j := 51) (by decide)]
  unfold tb_f1
  rw [dk2_ne (a := 0 + 510) (k := 510) (j := 50) (by decide) (by omega) hn (by decide), dk4_ne (a := 0 + 67) (k := 67) (j := 50) (by decide) (by omega) hn (by decide), dk2_0 (a := 0 + 50) (k := 50) (by decide) (by omega) hn]
  rw [dk2_ne (a := 0 + 510) (k := 510) (j := 51) (by decide) (by omega) hn (by decide), dk4_ne (a := 0 + 67) (k := 67) (j := 51) (by decide) (by omega) hn (by decide), dk2_1 (a := 0 + 50) (k := 50) (j := 51) (by decide) (by omega) hn (by decide)]
  decide +kernel
theorem tb_h510 {n : Nat} {f : Nat → Int32} {sec p1 p2 p3 p4 p5 : Int32} (hn0 : 4096 ≤ n) (hn : n < 2 ^ 31) : dk_two n (tb_first n f sec p1 p2 p3 p4 p5) 510 = 43605 := by
  rw [dk_rd2 (k := 510) (by decide) (by omega) hn]
  show (tb_first n f sec p1 p2 p3 p4 p5 510 &&& 255) ||| ((tb_first n f sec p1 p2 p3 p4 p5 511 &&& 255) <<< ((8 : Int32) &&& 31)) = 43605
  rw [tb_lt512 hn0 hn (j := 510) (by decide), tb_lt512 hn0 hn (j := 511) (by decide)]
  unfold tb_f1
  rw [dk2_0 (a := 0 + 510) (k := 510) (by decide) (by omega) hn]
  rw [dk2_1 (a := 0 + 510) (k := 510) (j := 511) (by decide) (by omega) hn (by decide)]
  decide +kernel
theorem tb_h17 {n : Nat} {f : Nat → Int32} {sec p1 p2 p3 p4 p5 : Int32} (hn0 : 4096 ≤ n) (hn : n < 2 ^ 31) (hz : ∀ j : Nat, j < n → f j = 0) : dk_two n (tb_first n f sec p1 p2 p3 p4 p5) 17 = 0 := by
  rw [dk_rd2 (k := 17) (by decide) (by omega) hn]
  show (tb_first n f sec p1 p2 p3 p4 p5 17 &&& 255) ||| ((tb_first n f sec p1 p2 p3 p4 p5 18 &&& 255) <<< ((8 : Int32) &&& 31)) = 0
  rw [tb_lt512 hn0 hn (j := 17) (by decide), tb_lt512 hn0 hn (j := 18) (by decide)]
  unfold tb_f1
  rw [dk2_ne (a := 0 + 510) (k := 510) (j := 17) (by decide) (by omega) hn (by decide), dk4_ne (a := 0 + 67) (k := 67) (j := 17) (by decide) (by omega) hn (by decide), dk2_ne (a := 0 + 50) (k := 50) (j := 17) (by decide) (by omega) hn (by decide), dk2_ne (a := 0 + 48) (k := 48) (j := 17) (by decide) (by omega) hn (by decide), dk4_ne (a := 0 + 44) (k := 44) (j := 17) (by decide) (by omega) hn (by decide), dk4_ne (a := 0 + 36) (k := 36) (j := 17) (by decide) (by omega) hn (by decide), dk4_ne (a := 0 + 32) (k := 32) (j := 17) (by decide) (by omega) hn (by decide), dk1_ne (a := 0 + 16) (k := 16) (j := 17) (by decide) (by omega) hn (by decide), dk2_ne (a := 0 + 14) (k := 14) (j := 17) (by decide) (by omega) hn (by decide), dk1_ne (a := 0 + 13) (k := 13) (j := 17) (by decide) (by omega) hn (by decide), dk2_ne (a := 0 + 11) (k := 11) (j := 17) (by decide) (by omega) hn (by decide), dk1_ne (a := 0 + 10) (k := 10) (j := 17) (by decide) (by omega) hn (by decide), dk1_ne (a := 0 + 9) (k := 9) (j := 17) (by decide) (by omega) hn (by decide), dk1_ne (a := 0 + 8) (k := 8) (j := 17) (by decide) (by omega) hn (by decide), dk1_ne (a := 0 + 7) (k := 7) (j := 17) (by decide) (by omega) hn (by decide), dk1_ne (a := 0 + 6) (k := 6) (j := 17) (by decide) (by omega) hn (by decide), dk1_ne (a := 0 + 5) (k := 5) (j := 17) (by decide) (by omega) hn (by decide), dk1_ne (a := 0 + 4) (k := 4) (j := 17) (by decide) (by omega) hn (by decide), dk1_ne (a := 0 + 3) (k := 3) (j := 17) (by decide) (by omega) hn (by decide)]
  rw [dk2_ne (a := 0 + 510) (k := 510) (j := 18) (by decide) (by omega) hn (by decide), dk4_ne (a := 0 + 67) (k := 67) (j := 18) (by decide) (by omega) hn (by decide), dk2_ne (a := 0 + 50) (k := 50) (j := 18) (by decide) (by omega) hn (by decide), dk2_ne (a := 0 + 48) (k := 48) (j := 18) (by decide) (by omega) hn (by decide), dk4_ne (a := 0 + 44) (k := 44) (j := 18) (by decide) (by omega) hn (by decide), dk4_ne (a := 0 + 36) (k := 36) (j := 18) (by decide) (by omega) hn (by decide), dk4_ne (a := 0 + 32) (k := 32) (j := 18) (by decide) (by omega) hn (by decide), dk1_ne (a := 0 + 16) (k := 16) (j := 18) (by decide) (by omega) hn (by decide), dk2_ne (a := 0 + 14) (k := 14) (j := 18) (by decide) (by omega) hn (by decide), dk1_ne (a := 0 + 13) (k := 13) (j := 18) (by decide) (by omega) hn (by decide), dk2_ne (a := 0 + 11) (k := 11) (j := 18) (by decide) (by omega) hn (by decide), dk1_ne (a := 0 + 10) (k := 10) (j := 18) (by decide) (by omega) hn (by decide), dk1_ne (a := 0 + 9) (k := 9) (j := 18) (by decide) (by omega) hn (by decide), dk1_ne (a := 0 + 8) (k := 8) (j := 18) (by decide) (by omega) hn (by decide), dk1_ne (a := 0 + 7) (k := 7) (j := 18) (by decide) (by omega) hn (by decide), dk1_ne (a := 0 + 6) (k := 6) (j := 18) (by decide) (by omega) hn (by decide), dk1_ne (a := 0 + 5) (k := 5) (j := 18) (by decide) (by omega) hn (by decide), dk1_ne (a := 0 + 4) (k := 4) (j := 18) (by decide) (by omega) hn (by decide), dk1_ne (a := 0 + 3) (k := 3) (j := 18) (by decide) (by omega) hn (by decide)]
  rw [hz 17 (by omega), hz 18 (by omega)]
  decide +kernel
theorem tb_h19 {n : Nat} {f : Nat → Int32} {sec p1 p2 p3 p4 p5 : Int32} (hn0 : 4096 ≤ n) (hn : n < 2 ^ 31) (hz : ∀ j : Nat, j < n → f j = 0) : dk_two n (tb_first n f sec p1 p2 p3 p4 p5) 19 = 0 := by
  rw [dk_rd2 (k := 19) (by decide) (by omega) hn]
  show (tb_first n f sec p1 p2 p3 p4 p5 19 &&& 255) ||| ((tb_first n f sec p1 p2 p3 p4 p5 20 &&& 255) <<< ((8 : Int32) &&& 31)) = 0
  rw [tb_lt512 hn0 hn (j := 19) (by decide), tb_lt512 hn0 hn (j := 20) (by decide)]
  unfold tb_f1
  rw [dk2_ne (a := 0 + 510) (k := 510) (j := 19) (by decide) (by omega) hn (by decide), dk4_ne (a := 0 + 67) (k := 67) (j := 19) (by decide) (by omega) hn (by decide), dk2_ne (a := 0 + 50) (k := 50) (j := 19) (by decide) (by omega) hn (by decide), dk2_ne (a := 0 + 48) (k := 48) (j := 19) (by decide) (by omega) hn (by decide), dk4_ne (a := 0 + 44) (k := 44) (j := 19) (by decide) (by omega) hn (by decide), dk4_ne (a := 0 + 36) (k := 36) (j := 19) (by decide) (by omega) hn (by decide), dk4_ne (a := 0 + 32) (k := 32) (j := 19) (by decide) (by omega) hn (by decide), dk1_ne (a := 0 + 16) (k := 16) (j := 19) (by decide) (by omega) hn (by decide), dk2_ne (a := 0 + 14) (k := 14) (j := 19) (by decide) (by omega) hn (by decide), dk1_ne (a := 0 + 13) (k := 13) (j := 19) (by decide) (by omega) hn (by decide), dk2_ne (a := 0 + 11) (k := 11) (j := 19) (by decide) (by omega) hn (by decide), dk1_ne (a := 0 + 10) (k := 10) (j := 19) (by decide) (by omega) hn (by decide), dk1_ne (a := 0 + 9) (k := 9) (j := 19) (by decide) (by omega) hn (by decide), dk1_ne (a := 0 + 8) (k := 8) (j := 19) (by decide) (by omega) hn (by decide), dk1_ne (a := 0 + 7) (k := 7) (j := 19) (by decide) (by omega) hn (by decide), dk1_ne (a := 0 + 6) (k := 6) (j := 19) (by decide) (by omega) hn (by decide), dk1_ne (a := 0 + 5) (k := 5) (j := 19) (by decide) (by omega) hn (by decide), dk1_ne (a := 0 + 4) (k := 4) (j := 19) (by decide) (by omega) hn (by decide), dk1_ne (a := 0 + 3) (k := 3) (j := 19) (by decide) (by omega) hn (by decide)]
  rw [dk2_ne (a := 0 + 510) (k := 510) (j := 20) (by decide) (by omega) hn (by decide), dk4_ne (a := 0 + 67) (k := 67) (j := 20) (by decide) (by omega) hn (by decide), dk2_ne (a := 0 + 50) (k := 50) (j := 20) (by decide) (by omega) hn (by decide), dk2_ne (a := 0 + 48) (k := 48) (j := 20) (by decide) (by omega) hn (by decide), dk4_ne (a := 0 + 44) (k := 44) (j := 20) (by decide) (by omega) hn (by decide), dk4_ne (a := 0 + 36) (k := 36) (j := 20) (by decide) (by omega) hn (by decide), dk4_ne (a := 0 + 32) (k := 32) (j := 20) (by decide) (by omega) hn (by decide), dk1_ne (a := 0 + 16) (k := 16) (j := 20) (by decide) (by omega) hn (by decide), dk2_ne (a := 0 + 14) (k := 14) (j := 20) (by decide) (by omega) hn (by decide), dk1_ne (a := 0 + 13) (k := 13) (j := 20) (by decide) (by omega) hn (by decide), dk2_ne (a := 0 + 11) (k := 11) (j := 20) (by decide) (by omega) hn (by decide), dk1_ne (a := 0 + 10) (k := 10) (j := 20) (by decide) (by omega) hn (by decide), dk1_ne (a := 0 + 9) (k := 9) (j := 20) (by decide) (by omega) hn (by decide), dk1_ne (a := 0 + 8) (k := 8) (j := 20) (by decide) (by omega) hn (by decide), dk1_ne (a := 0 + 7) (k := 7) (j := 20) (by decide) (by omega) hn (by decide), dk1_ne (a := 0 + 6) (k := 6) (j := 20) (by decide) (by omega) hn (by decide), dk1_ne (a := 0 + 5) (k := 5) (j := 20) (by decide) (by omega) hn (by decide), dk1_ne (a := 0 + 4) (k := 4) (j := 20) (by decide) (by omega) hn (by decide), dk1_ne (a := 0 + 3) (k := 3) (j := 20) (by decide) (by omega) hn (by decide)]
  rw [hz 19 (by omega), hz 20 (by omega)]
  decide +kernel
theorem tb_h22 {n : Nat} {f : Nat → Int32} {sec p1 p2 p3 p4 p5 : Int32} (hn0 : 4096 ≤ n) (hn : n < 2 ^ 31) (hz : ∀ j : Nat, j < n → f j = 0) : dk_two n (tb_first n f sec p1 p2 p3 p4 p5) 22 = 0 := by
  rw [dk_rd2 (k := 22) (by decide) (by omega) hn]
  show (tb_first n f sec p1 p2 p3 p4 p5 22 &&& 255) ||| ((tb_first n f sec p1 p2 p3 p4 p5 23 &&& 255) <<< ((8 : Int32) &&& 31)) = 0
  rw [tb_lt512 hn0 hn (j := 22) (by decide), tb_lt512 hn0 hn (j := 23) (by decide)]
  unfold tb_f1
  rw [dk2_ne (a := 0 + 510) (k := 510) (j := 22) (by decide) (by omega) hn (by decide), dk4_ne (a := 0 + 67) (k := 67) (j := 22) (by decide) (by omega) hn (by decide), dk2_ne (a := 0 + 50) (k := 50) (j := 22) (by decide) (by omega) hn (by decide), dk2_ne (a := 0 + 48) (k := 48) (j := 22) (by decide) (by omega) hn (by decide), dk4_ne (a := 0 + 44) (k := 44) (j := 22) (by decide) (by omega) hn (by decide), dk4_ne (a := 0 + 36) (k := 36) (j := 22) (by decide) (by omega) hn (by decide), dk4_ne (a := 0 + 32) (k := 32) (j := 22) (by decide) (by omega) hn (by decide), dk1_ne (a := 0 + 16) (k := 16) (j := 22) (by decide) (by omega) hn (by decide), dk2_ne (a := 0 + 14) (k := 14) (j := 22) (by decide) (by omega) hn (by decide), dk1_ne (a := 0 + 13) (k := 13) (j := 22) (by decide) (by omega) hn (by decide), dk2_ne (a := 0 + 11) (k := 11) (j := 22) (by decide) (by omega) hn (by decide), dk1_ne (a := 0 + 10) (k := 10) (j := 22) (by decide) (by omega) hn (by decide), dk1_ne (a := 0 + 9) (k := 9) (j := 22) (by decide) (by omega) hn (by decide), dk1_ne (a := 0 + 8) (k := 8) (j := 22) (by decide) (by omega) hn (by decide), dk1_ne (a := 0 + 7) (k := 7) (j := 22) (by decide) (by omega) hn (by decide), dk1_ne (a := 0 + 6) (k := 6) (j := 22) (by decide) (by omega) hn (by decide), dk1_ne (a := 0 + 5) (k := 5) (j := 22) (by decide) (by omega) hn (by decide), dk1_ne (a := 0 + 4) (k := 4) (j := 22) (by decide) (by omega) hn (by decide), dk1_ne (a := 0 + 3) (k := 3) (j := 22) (by decide) (by omega) hn (by decide)]
  rw [dk2_ne (a := 0 + 510) (k := 510) (j := 23) (by decide) (by omega) hn (by decide), dk4_ne (a := 0 + 67) (k := 67) (j := 23) (by decide) (by omega) hn (by decide), dk2_ne (a := 0 + 50) (k := 50) (j := 23) (by decide) (by omega) hn (by decide), dk2_ne (a := 0 + 48) (k := 48) (j := 23) (by decide) (by omega) hn (by decide), dk4_ne (a := 0 + 44) (k := 44) (j := 23) (by decide) (by omega) hn (by decide), dk4_ne (a := 0 + 36) (k := 36) (j := 23) (by decide) (by omega) hn (by decide), dk4_ne (a := 0 + 32) (k := 32) (j := 23) (by decide) (by omega) hn (by decide), dk1_ne (a := 0 + 16) (k := 16) (j := 23) (by decide) (by omega) hn (by decide), dk2_ne (a := 0 + 14) (k := 14) (j := 23) (by decide) (by omega) hn (by decide), dk1_ne (a := 0 + 13) (k := 13) (j := 23) (by decide) (by omega) hn (by decide), dk2_ne (a := 0 + 11) (k := 11) (j := 23) (by decide) (by omega) hn (by decide), dk1_ne (a := 0 + 10) (k := 10) (j := 23) (by decide) (by omega) hn (by decide), dk1_ne (a := 0 + 9) (k := 9) (j := 23) (by decide) (by omega) hn (by decide), dk1_ne (a := 0 + 8) (k := 8) (j := 23) (by decide) (by omega) hn (by decide), dk1_ne (a := 0 + 7) (k := 7) (j := 23) (by decide) (by omega) hn (by decide), dk1_ne (a := 0 + 6) (k := 6) (j := 23) (by decide) (by omega) hn (by decide), dk1_ne (a := 0 + 5) (k := 5) (j := 23) (by decide) (by omega) hn (by decide), dk1_ne (a := 0 + 4) (k := 4) (j := 23) (by decide) (by omega) hn (by decide), dk1_ne (a := 0 + 3) (k := 3) (j := 23) (by decide) (by omega) hn (by decide)]
  rw [hz 22 (by omega), hz 23 (by omega)]
  decide +kernel
