theorem md_ci {o : Option md_S} : (md_c o fun S => some S) = o := by cases o <;> rfl
theorem rqp0 {N : Nat} {a b : Int32} {S : md_S} : mo_readPart N 0 a b S = mo_readMore N a S := by
  unfold mo_readPart
  rw [if_pos rfl]
  exact md_ci
theorem rqp1 {N : Nat} {a b : Int32} {S : md_S} : mo_readPart N 1 a b S = mo_readSelector N a S := by
  unfold mo_readPart
  rw [if_neg (show ¬ ((1 : Int32) = 0) by decide), if_pos rfl]
  exact md_ci
theorem rqp2 {N : Nat} {a b : Int32} {S : md_S} : mo_readPart N 2 a b S = mo_readNext a S := by
  unfold mo_readPart
  rw [if_neg (show ¬ ((2 : Int32) = 0) by decide), if_neg (show ¬ ((2 : Int32) = 1) by decide), if_pos rfl]
  exact md_ci
theorem rqp3 {N : Nat} {a b : Int32} {S : md_S} : mo_readPart N 3 a b S = md_c (mo_push 4 a 0 S) fun S1 => mo_push 6 a 0 S1 := by
  unfold mo_readPart
  rw [if_neg (show ¬ ((3 : Int32) = 0) by decide), if_neg (show ¬ ((3 : Int32) = 1) by decide), if_neg (show ¬ ((3 : Int32) = 2) by decide), if_pos rfl]
  simp only [md_ci]
theorem rqp4 {N : Nat} {a b : Int32} {S : md_S} : mo_readPart N 4 a b S = md_b (mo_isTwice 124 S) fun v S1 => if v = 0 then some S1 else md_c (mo_push 5 a 0 S1) fun S2 => mo_push 6 a 0 S2 := by
  unfold mo_readPart
  rw [if_neg (show ¬ ((4 : Int32) = 0) by decide), if_neg (show ¬ ((4 : Int32) = 1) by decide), if_neg (show ¬ ((4 : Int32) = 2) by decide), if_neg (show ¬ ((4 : Int32) = 3) by decide), if_pos rfl]
  simp only [md_ci]
theorem rqp5 {N : Nat} {a b : Int32} {S : md_S} : mo_readPart N 5 a b S = mo_readEnd N 5 a b S := by
  unfold mo_readPart
  rw [if_neg (show ¬ ((5 : Int32) = 0) by decide), if_neg (show ¬ ((5 : Int32) = 1) by decide), if_neg (show ¬ ((5 : Int32) = 2) by decide), if_neg (show ¬ ((5 : Int32) = 3) by decide), if_neg (show ¬ ((5 : Int32) = 4) by decide), if_pos rfl]
  exact md_ci
theorem rqp6 {N : Nat} {a b : Int32} {S : md_S} : mo_readPart N 6 a b S = md_c (mo_push 7 a 0 S) fun S1 => mo_push 9 a 0 S1 := by
  unfold mo_readPart
  rw [if_neg (show ¬ ((6 : Int32) = 0) by decide), if_neg (show ¬ ((6 : Int32) = 1) by decide), if_neg (show ¬ ((6 : Int32) = 2) by decide), if_neg (show ¬ ((6 : Int32) = 3) by decide), if_neg (show ¬ ((6 : Int32) = 4) by decide), if_neg (show ¬ ((6 : Int32) = 5) by decide), if_pos rfl]
  simp only [md_ci]
theorem rqp7 {N : Nat} {a b : Int32} {S : md_S} : mo_readPart N 7 a b S = md_b (mo_isTwice 38 S) fun v S1 => if v = 0 then some S1 else md_c (mo_push 8 a 0 S1) fun S2 => mo_push 9 a 0 S2 := by
  unfold mo_readPart
  rw [if_neg (show ¬ ((7 : Int32) = 0) by decide), if_neg (show ¬ ((7 : Int32) = 1) by decide), if_neg (show ¬ ((7 : Int32) = 2) by decide), if_neg (show ¬ ((7 : Int32) = 3) by decide), if_neg (show ¬ ((7 : Int32) = 4) by decide), if_neg (show ¬ ((7 : Int32) = 5) by decide), if_neg (show ¬ ((7 : Int32) = 6) by decide), if_pos rfl]
  simp only [md_ci]
theorem rqp8 {N : Nat} {a b : Int32} {S : md_S} : mo_readPart N 8 a b S = mo_readEnd N 8 a b S := by
  unfold mo_readPart
  rw [if_neg (show ¬ ((8 : Int32) = 0) by decide), if_neg (show ¬ ((8 : Int32) = 1) by decide), if_neg (show ¬ ((8 : Int32) = 2) by decide), if_neg (show ¬ ((8 : Int32) = 3) by decide), if_neg (show ¬ ((8 : Int32) = 4) by decide), if_neg (show ¬ ((8 : Int32) = 5) by decide), if_neg (show ¬ ((8 : Int32) = 6) by decide), if_neg (show ¬ ((8 : Int32) = 7) by decide), if_pos rfl]
  exact md_ci
theorem rqp9 {N : Nat} {a b : Int32} {S : md_S} : mo_readPart N 9 a b S = mo_readTest a S := by
  unfold mo_readPart
  rw [if_neg (show ¬ ((9 : Int32) = 0) by decide), if_neg (show ¬ ((9 : Int32) = 1) by decide), if_neg (show ¬ ((9 : Int32) = 2) by decide), if_neg (show ¬ ((9 : Int32) = 3) by decide), if_neg (show ¬ ((9 : Int32) = 4) by decide), if_neg (show ¬ ((9 : Int32) = 5) by decide), if_neg (show ¬ ((9 : Int32) = 6) by decide), if_neg (show ¬ ((9 : Int32) = 7) by decide), if_neg (show ¬ ((9 : Int32) = 8) by decide), if_pos rfl]
  exact md_ci
theorem rqp10 {N : Nat} {a b : Int32} {S : md_S} : mo_readPart N 10 a b S = mo_readEnd N 10 a b S := by
  unfold mo_readPart
  rw [if_neg (show ¬ ((10 : Int32) = 0) by decide), if_neg (show ¬ ((10 : Int32) = 1) by decide), if_neg (show ¬ ((10 : Int32) = 2) by decide), if_neg (show ¬ ((10 : Int32) = 3) by decide), if_neg (show ¬ ((10 : Int32) = 4) by decide), if_neg (show ¬ ((10 : Int32) = 5) by decide), if_neg (show ¬ ((10 : Int32) = 6) by decide), if_neg (show ¬ ((10 : Int32) = 7) by decide), if_neg (show ¬ ((10 : Int32) = 8) by decide), if_neg (show ¬ ((10 : Int32) = 9) by decide), if_pos rfl]
  exact md_ci
theorem rqp11 {N : Nat} {a b : Int32} {S : md_S} : mo_readPart N 11 a b S = mo_readEnd N 11 a b S := by
  unfold mo_readPart
  rw [if_neg (show ¬ ((11 : Int32) = 0) by decide), if_neg (show ¬ ((11 : Int32) = 1) by decide), if_neg (show ¬ ((11 : Int32) = 2) by decide), if_neg (show ¬ ((11 : Int32) = 3) by decide), if_neg (show ¬ ((11 : Int32) = 4) by decide), if_neg (show ¬ ((11 : Int32) = 5) by decide), if_neg (show ¬ ((11 : Int32) = 6) by decide), if_neg (show ¬ ((11 : Int32) = 7) by decide), if_neg (show ¬ ((11 : Int32) = 8) by decide), if_neg (show ¬ ((11 : Int32) = 9) by decide), if_neg (show ¬ ((11 : Int32) = 10) by decide), if_pos rfl]
  exact md_ci
theorem rqp12 {N : Nat} {a b : Int32} {S : md_S} : mo_readPart N 12 a b S = mo_readTestPath N a b S := by
  unfold mo_readPart
  rw [if_neg (show ¬ ((12 : Int32) = 0) by decide), if_neg (show ¬ ((12 : Int32) = 1) by decide), if_neg (show ¬ ((12 : Int32) = 2) by decide), if_neg (show ¬ ((12 : Int32) = 3) by decide), if_neg (show ¬ ((12 : Int32) = 4) by decide), if_neg (show ¬ ((12 : Int32) = 5) by decide), if_neg (show ¬ ((12 : Int32) = 6) by decide), if_neg (show ¬ ((12 : Int32) = 7) by decide), if_neg (show ¬ ((12 : Int32) = 8) by decide), if_neg (show ¬ ((12 : Int32) = 9) by decide), if_neg (show ¬ ((12 : Int32) = 10) by decide), if_neg (show ¬ ((12 : Int32) = 11) by decide), if_pos rfl]
  exact md_ci
theorem rqp13 {N : Nat} {a b : Int32} {S : md_S} : mo_readPart N 13 a b S = mo_readRelation a S := by
  unfold mo_readPart
  rw [if_neg (show ¬ ((13 : Int32) = 0) by decide), if_neg (show ¬ ((13 : Int32) = 1) by decide), if_neg (show ¬ ((13 : Int32) = 2) by decide), if_neg (show ¬ ((13 : Int32) = 3) by decide), if_neg (show ¬ ((13 : Int32) = 4) by decide), if_neg (show ¬ ((13 : Int32) = 5) by decide), if_neg (show ¬ ((13 : Int32) = 6) by decide), if_neg (show ¬ ((13 : Int32) = 7) by decide), if_neg (show ¬ ((13 : Int32) = 8) by decide), if_neg (show ¬ ((13 : Int32) = 9) by decide), if_neg (show ¬ ((13 : Int32) = 10) by decide), if_neg (show ¬ ((13 : Int32) = 11) by decide), if_neg (show ¬ ((13 : Int32) = 12) by decide), if_pos rfl]
  exact md_ci
theorem rqp14 {N : Nat} {a b : Int32} {S : md_S} : mo_readPart N 14 a b S = mo_readThing N a S := by
  unfold mo_readPart
  rw [if_neg (show ¬ ((14 : Int32) = 0) by decide), if_neg (show ¬ ((14 : Int32) = 1) by decide), if_neg (show ¬ ((14 : Int32) = 2) by decide), if_neg (show ¬ ((14 : Int32) = 3) by decide), if_neg (show ¬ ((14 : Int32) = 4) by decide), if_neg (show ¬ ((14 : Int32) = 5) by decide), if_neg (show ¬ ((14 : Int32) = 6) by decide), if_neg (show ¬ ((14 : Int32) = 7) by decide), if_neg (show ¬ ((14 : Int32) = 8) by decide), if_neg (show ¬ ((14 : Int32) = 9) by decide), if_neg (show ¬ ((14 : Int32) = 10) by decide), if_neg (show ¬ ((14 : Int32) = 11) by decide), if_neg (show ¬ ((14 : Int32) = 12) by decide), if_neg (show ¬ ((14 : Int32) = 13) by decide), if_pos rfl]
  exact md_ci
theorem rqp15 {N : Nat} {a b : Int32} {S : md_S} : mo_readPart N 15 a b S = mo_readEnd N 15 a b S := by
  unfold mo_readPart
  rw [if_neg (show ¬ ((15 : Int32) = 0) by decide), if_neg (show ¬ ((15 : Int32) = 1) by decide), if_neg (show ¬ ((15 : Int32) = 2) by decide), if_neg (show ¬ ((15 : Int32) = 3) by decide), if_neg (show ¬ ((15 : Int32) = 4) by decide), if_neg (show ¬ ((15 : Int32) = 5) by decide), if_neg (show ¬ ((15 : Int32) = 6) by decide), if_neg (show ¬ ((15 : Int32) = 7) by decide), if_neg (show ¬ ((15 : Int32) = 8) by decide), if_neg (show ¬ ((15 : Int32) = 9) by decide), if_neg (show ¬ ((15 : Int32) = 10) by decide), if_neg (show ¬ ((15 : Int32) = 11) by decide), if_neg (show ¬ ((15 : Int32) = 12) by decide), if_neg (show ¬ ((15 : Int32) = 13) by decide), if_neg (show ¬ ((15 : Int32) = 14) by decide)]
  exact md_ci
theorem rqp16 {N : Nat} {a b : Int32} {S : md_S} : mo_readPart N 16 a b S = mo_readEnd N 16 a b S := by
  unfold mo_readPart
  rw [if_neg (show ¬ ((16 : Int32) = 0) by decide), if_neg (show ¬ ((16 : Int32) = 1) by decide), if_neg (show ¬ ((16 : Int32) = 2) by decide), if_neg (show ¬ ((16 : Int32) = 3) by decide), if_neg (show ¬ ((16 : Int32) = 4) by decide), if_neg (show ¬ ((16 : Int32) = 5) by decide), if_neg (show ¬ ((16 : Int32) = 6) by decide), if_neg (show ¬ ((16 : Int32) = 7) by decide), if_neg (show ¬ ((16 : Int32) = 8) by decide), if_neg (show ¬ ((16 : Int32) = 9) by decide), if_neg (show ¬ ((16 : Int32) = 10) by decide), if_neg (show ¬ ((16 : Int32) = 11) by decide), if_neg (show ¬ ((16 : Int32) = 12) by decide), if_neg (show ¬ ((16 : Int32) = 13) by decide), if_neg (show ¬ ((16 : Int32) = 14) by decide)]
  exact md_ci
theorem rqp17 {N : Nat} {a b : Int32} {S : md_S} : mo_readPart N 17 a b S = mo_readEnd N 17 a b S := by
  unfold mo_readPart
  rw [if_neg (show ¬ ((17 : Int32) = 0) by decide), if_neg (show ¬ ((17 : Int32) = 1) by decide), if_neg (show ¬ ((17 : Int32) = 2) by decide), if_neg (show ¬ ((17 : Int32) = 3) by decide), if_neg (show ¬ ((17 : Int32) = 4) by decide), if_neg (show ¬ ((17 : Int32) = 5) by decide), if_neg (show ¬ ((17 : Int32) = 6) by decide), if_neg (show ¬ ((17 : Int32) = 7) by decide), if_neg (show ¬ ((17 : Int32) = 8) by decide), if_neg (show ¬ ((17 : Int32) = 9) by decide), if_neg (show ¬ ((17 : Int32) = 10) by decide), if_neg (show ¬ ((17 : Int32) = 11) by decide), if_neg (show ¬ ((17 : Int32) = 12) by decide), if_neg (show ¬ ((17 : Int32) = 13) by decide), if_neg (show ¬ ((17 : Int32) = 14) by decide)]
  exact md_ci
theorem rqp18 {N : Nat} {a b : Int32} {S : md_S} : mo_readPart N 18 a b S = mo_readEnd N 18 a b S := by
  unfold mo_readPart
  rw [if_neg (show ¬ ((18 : Int32) = 0) by decide), if_neg (show ¬ ((18 : Int32) = 1) by decide), if_neg (show ¬ ((18 : Int32) = 2) by decide), if_neg (show ¬ ((18 : Int32) = 3) by decide), if_neg (show ¬ ((18 : Int32) = 4) by decide), if_neg (show ¬ ((18 : Int32) = 5) by decide), if_neg (show ¬ ((18 : Int32) = 6) by decide), if_neg (show ¬ ((18 : Int32) = 7) by decide), if_neg (show ¬ ((18 : Int32) = 8) by decide), if_neg (show ¬ ((18 : Int32) = 9) by decide), if_neg (show ¬ ((18 : Int32) = 10) by decide), if_neg (show ¬ ((18 : Int32) = 11) by decide), if_neg (show ¬ ((18 : Int32) = 12) by decide), if_neg (show ¬ ((18 : Int32) = 13) by decide), if_neg (show ¬ ((18 : Int32) = 14) by decide)]
  exact md_ci
theorem rqp19 {N : Nat} {a b : Int32} {S : md_S} : mo_readPart N 19 a b S = mo_readEnd N 19 a b S := by
  unfold mo_readPart
  rw [if_neg (show ¬ ((19 : Int32) = 0) by decide), if_neg (show ¬ ((19 : Int32) = 1) by decide), if_neg (show ¬ ((19 : Int32) = 2) by decide), if_neg (show ¬ ((19 : Int32) = 3) by decide), if_neg (show ¬ ((19 : Int32) = 4) by decide), if_neg (show ¬ ((19 : Int32) = 5) by decide), if_neg (show ¬ ((19 : Int32) = 6) by decide), if_neg (show ¬ ((19 : Int32) = 7) by decide), if_neg (show ¬ ((19 : Int32) = 8) by decide), if_neg (show ¬ ((19 : Int32) = 9) by decide), if_neg (show ¬ ((19 : Int32) = 10) by decide), if_neg (show ¬ ((19 : Int32) = 11) by decide), if_neg (show ¬ ((19 : Int32) = 12) by decide), if_neg (show ¬ ((19 : Int32) = 13) by decide), if_neg (show ¬ ((19 : Int32) = 14) by decide)]
  exact md_ci
theorem rqe5 {N : Nat} {a b : Int32} {S : md_S} : mo_readPart N 5 a b S = md_c (mo_emit a 10 0 0 S) fun S1 => mo_push 4 a 0 S1 := by
  rw [rqp5]
  unfold mo_readEnd
  rw [if_pos rfl]
  simp only [md_ci, md_lx]
theorem rqe8 {N : Nat} {a b : Int32} {S : md_S} : mo_readPart N 8 a b S = md_c (mo_emit a 9 0 0 S) fun S1 => mo_push 7 a 0 S1 := by
  rw [rqp8]
  unfold mo_readEnd
  rw [if_neg (show ¬ ((8 : Int32) = 5) by decide), if_neg (show ¬ ((8 : Int32) = 6) by decide), if_neg (show ¬ ((8 : Int32) = 7) by decide), if_pos rfl]
  simp only [md_ci, md_lx]
theorem rqe10 {N : Nat} {a b : Int32} {S : md_S} : mo_readPart N 10 a b S = mo_emit a 8 0 0 (md_p S 31 (S.1 31 - 1)) := by
  rw [rqp10]
  unfold mo_readEnd
  rw [if_neg (show ¬ ((10 : Int32) = 5) by decide), if_neg (show ¬ ((10 : Int32) = 6) by decide), if_neg (show ¬ ((10 : Int32) = 7) by decide), if_neg (show ¬ ((10 : Int32) = 8) by decide), if_neg (show ¬ ((10 : Int32) = 9) by decide), if_pos rfl]
  simp only [md_ci, md_lx]
theorem rqe11 {N : Nat} {a b : Int32} {S : md_S} : mo_readPart N 11 a b S = mo_need 41 (md_p S 31 (S.1 31 - 1)) := by
  rw [rqp11]
  unfold mo_readEnd
  rw [if_neg (show ¬ ((11 : Int32) = 5) by decide), if_neg (show ¬ ((11 : Int32) = 6) by decide), if_neg (show ¬ ((11 : Int32) = 7) by decide), if_neg (show ¬ ((11 : Int32) = 8) by decide), if_neg (show ¬ ((11 : Int32) = 9) by decide), if_neg (show ¬ ((11 : Int32) = 10) by decide), if_pos rfl]
  simp only [md_ci, md_lx]
theorem rqe15 {N : Nat} {a b : Int32} {S : md_S} : mo_readPart N 15 a b S = mo_emit a 7 b 0 S := by
  rw [rqp15]
  unfold mo_readEnd
  rw [if_neg (show ¬ ((15 : Int32) = 5) by decide), if_neg (show ¬ ((15 : Int32) = 6) by decide), if_neg (show ¬ ((15 : Int32) = 7) by decide), if_neg (show ¬ ((15 : Int32) = 8) by decide), if_neg (show ¬ ((15 : Int32) = 9) by decide), if_neg (show ¬ ((15 : Int32) = 10) by decide), if_neg (show ¬ ((15 : Int32) = 11) by decide), if_neg (show ¬ ((15 : Int32) = 12) by decide), if_neg (show ¬ ((15 : Int32) = 13) by decide), if_neg (show ¬ ((15 : Int32) = 14) by decide), if_pos rfl]
  simp only [md_ci, md_lx]
theorem rqe16 {N : Nat} {a b : Int32} {S : md_S} : mo_readPart N 16 a b S = md_c (mo_need 41 (md_p S 31 (S.1 31 - 1))) fun S1 => mo_emit a 3 0 0 S1 := by
  rw [rqp16]
  unfold mo_readEnd
  rw [if_neg (show ¬ ((16 : Int32) = 5) by decide), if_neg (show ¬ ((16 : Int32) = 6) by decide), if_neg (show ¬ ((16 : Int32) = 7) by decide), if_neg (show ¬ ((16 : Int32) = 8) by decide), if_neg (show ¬ ((16 : Int32) = 9) by decide), if_neg (show ¬ ((16 : Int32) = 10) by decide), if_neg (show ¬ ((16 : Int32) = 11) by decide), if_neg (show ¬ ((16 : Int32) = 12) by decide), if_neg (show ¬ ((16 : Int32) = 13) by decide), if_neg (show ¬ ((16 : Int32) = 14) by decide), if_neg (show ¬ ((16 : Int32) = 15) by decide), if_pos rfl]
  simp only [md_ci, md_lx]
theorem rqe17 {N : Nat} {a b : Int32} {S : md_S} : mo_readPart N 17 a b S = md_c (mo_need 41 (md_p S 31 (S.1 31 - 1))) fun S1 => mo_emit a 2 b 0 S1 := by
  rw [rqp17]
  unfold mo_readEnd
  rw [if_neg (show ¬ ((17 : Int32) = 5) by decide), if_neg (show ¬ ((17 : Int32) = 6) by decide), if_neg (show ¬ ((17 : Int32) = 7) by decide), if_neg (show ¬ ((17 : Int32) = 8) by decide), if_neg (show ¬ ((17 : Int32) = 9) by decide), if_neg (show ¬ ((17 : Int32) = 10) by decide), if_neg (show ¬ ((17 : Int32) = 11) by decide), if_neg (show ¬ ((17 : Int32) = 12) by decide), if_neg (show ¬ ((17 : Int32) = 13) by decide), if_neg (show ¬ ((17 : Int32) = 14) by decide), if_neg (show ¬ ((17 : Int32) = 15) by decide), if_neg (show ¬ ((17 : Int32) = 16) by decide), if_pos rfl]
  simp only [md_ci, md_lx]
theorem rqe18 {N : Nat} {a b : Int32} {S : md_S} : mo_readPart N 18 a b S = md_c (mo_mustBeSingle N b S) fun S1 => mo_emit a 1 b 0 S1 := by
  rw [rqp18]
  unfold mo_readEnd
  rw [if_neg (show ¬ ((18 : Int32) = 5) by decide), if_neg (show ¬ ((18 : Int32) = 6) by decide), if_neg (show ¬ ((18 : Int32) = 7) by decide), if_neg (show ¬ ((18 : Int32) = 8) by decide), if_neg (show ¬ ((18 : Int32) = 9) by decide), if_neg (show ¬ ((18 : Int32) = 10) by decide), if_neg (show ¬ ((18 : Int32) = 11) by decide), if_neg (show ¬ ((18 : Int32) = 12) by decide), if_neg (show ¬ ((18 : Int32) = 13) by decide), if_neg (show ¬ ((18 : Int32) = 14) by decide), if_neg (show ¬ ((18 : Int32) = 15) by decide), if_neg (show ¬ ((18 : Int32) = 16) by decide), if_neg (show ¬ ((18 : Int32) = 17) by decide), if_pos rfl]
  simp only [md_ci, md_lx]
theorem rqe19 {N : Nat} {a b : Int32} {S : md_S} : mo_readPart N 19 a b S = some (md_p S 31 (S.1 31 - 1)) := by
  rw [rqp19]
  unfold mo_readEnd
  rw [if_neg (show ¬ ((19 : Int32) = 5) by decide), if_neg (show ¬ ((19 : Int32) = 6) by decide), if_neg (show ¬ ((19 : Int32) = 7) by decide), if_neg (show ¬ ((19 : Int32) = 8) by decide), if_neg (show ¬ ((19 : Int32) = 9) by decide), if_neg (show ¬ ((19 : Int32) = 10) by decide), if_neg (show ¬ ((19 : Int32) = 11) by decide), if_neg (show ¬ ((19 : Int32) = 12) by decide), if_neg (show ¬ ((19 : Int32) = 13) by decide), if_neg (show ¬ ((19 : Int32) = 14) by decide), if_neg (show ¬ ((19 : Int32) = 15) by decide), if_neg (show ¬ ((19 : Int32) = 16) by decide), if_neg (show ¬ ((19 : Int32) = 17) by decide), if_neg (show ¬ ((19 : Int32) = 18) by decide)]
  simp only [md_ci, md_lx]
