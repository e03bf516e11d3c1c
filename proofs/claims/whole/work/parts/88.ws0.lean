/-! ===== the cells at the start ===== -/
theorem og_c0 (ad : Nat → Nat) (cA : Nat → ClassId) : om_ce ad cA 0 (om_M0.1 0) (om_M0.2 0) = (.inr (6, [.ref (ad 1), .ref (ad 7), .ref (ad 12), .ref (ad 14), .ref (ad 28), .ref (ad 30), .ref (ad 38)]) : va_E) := by
  have hI : om_M0.1 0 = (fun _ => 0) := rfl
  rw [hI]
  show (.inr (6, om_fs ad 0 ((fun _ => 0)) (om_M0.2 0) (om_fds 6)) : va_E) = _
  rw [show om_fds 6 = [4, 10, 15, 17, 31, 1, 1] from rfl]
  unfold om_fs
  simp only [List.mapIdx_cons, List.mapIdx_nil]
  rfl
theorem og_c1 (ad : Nat → Nat) (cA : Nat → ClassId) : om_ce ad cA 1 (om_M0.1 1) (om_M0.2 1) = (.inr (0, [.int 0, .int 0, .int 0, .ref (ad 2), .ref (ad 3), .ref (ad 4), .ref (ad 5), .ref (ad 6)]) : va_E) := by
  have hI : om_M0.1 1 = (fun _ => 0) := rfl
  rw [hI]
  show (.inr (0, om_fs ad 1 ((fun _ => 0)) (om_M0.2 1) (om_fds 0)) : va_E) = _
  rw [show om_fds 0 = [0, 0, 0, 4, 5, 6, 7, 8] from rfl]
  unfold om_fs
  simp only [List.mapIdx_cons, List.mapIdx_nil]
  rfl
theorem og_c2 (ad : Nat → Nat) (cA : Nat → ClassId) : om_ce ad cA 2 (om_M0.1 2) (om_M0.2 2) = (.inl ((cA 2), 8, .inl (fun _ => 0)) : va_E) := rfl
theorem og_c3 (ad : Nat → Nat) (cA : Nat → ClassId) : om_ce ad cA 3 (om_M0.1 3) (om_M0.2 3) = (.inl ((cA 3), 8, .inl (fun _ => 0)) : va_E) := rfl
theorem og_c4 (ad : Nat → Nat) (cA : Nat → ClassId) : om_ce ad cA 4 (om_M0.1 4) (om_M0.2 4) = (.inl ((cA 4), 20, .inl (fun _ => 0)) : va_E) := rfl
theorem og_c5 (ad : Nat → Nat) (cA : Nat → ClassId) : om_ce ad cA 5 (om_M0.1 5) (om_M0.2 5) = (.inl ((cA 5), 20, .inl (fun _ => 0)) : va_E) := rfl
theorem og_c6 (ad : Nat → Nat) (cA : Nat → ClassId) : om_ce ad cA 6 (om_M0.1 6) (om_M0.2 6) = (.inl ((cA 6), 20, .inl (fun _ => 0)) : va_E) := rfl
theorem og_c7 (ad : Nat → Nat) (cA : Nat → ClassId) : om_ce ad cA 7 (om_M0.1 7) (om_M0.2 7) = (.inr (3, [.int 0, .int 0, .int 0, .ref (ad 8), .ref (ad 9), .ref (ad 10), .ref (ad 11)]) : va_E) := by
  have hI : om_M0.1 7 = (fun _ => 0) := rfl
  rw [hI]
  show (.inr (3, om_fs ad 7 ((fun _ => 0)) (om_M0.2 7) (om_fds 3)) : va_E) = _
  rw [show om_fds 3 = [0, 0, 0, 4, 5, 6, 7] from rfl]
  unfold om_fs
  simp only [List.mapIdx_cons, List.mapIdx_nil]
  rfl
theorem og_c8 (ad : Nat → Nat) (cA : Nat → ClassId) : om_ce ad cA 8 (om_M0.1 8) (om_M0.2 8) = (.inl ((cA 8), 28, .inl (fun _ => 0)) : va_E) := rfl
theorem og_c9 (ad : Nat → Nat) (cA : Nat → ClassId) : om_ce ad cA 9 (om_M0.1 9) (om_M0.2 9) = (.inl ((cA 9), 28, .inl (fun _ => 0)) : va_E) := rfl
theorem og_c10 (ad : Nat → Nat) (cA : Nat → ClassId) : om_ce ad cA 10 (om_M0.1 10) (om_M0.2 10) = (.inl ((cA 10), 28, .inl (fun _ => 0)) : va_E) := rfl
theorem og_c11 (ad : Nat → Nat) (cA : Nat → ClassId) : om_ce ad cA 11 (om_M0.1 11) (om_M0.2 11) = (.inl ((cA 11), 8, .inl (fun _ => 0)) : va_E) := rfl
theorem og_c12 (ad : Nat → Nat) (cA : Nat → ClassId) : om_ce ad cA 12 (om_M0.1 12) (om_M0.2 12) = (.inr (1, [.ref (ad 13), .int 0]) : va_E) := by
  have hI : om_M0.1 12 = (fun _ => 0) := rfl
  rw [hI]
  show (.inr (1, om_fs ad 12 ((fun _ => 0)) (om_M0.2 12) (om_fds 1)) : va_E) = _
  rw [show om_fds 1 = [4, 0] from rfl]
  unfold om_fs
  simp only [List.mapIdx_cons, List.mapIdx_nil]
  rfl
theorem og_c13 (ad : Nat → Nat) (cA : Nat → ClassId) : om_ce ad cA 13 (om_M0.1 13) (om_M0.2 13) = (.inl ((cA 13), 9, .inl (fun _ => 0)) : va_E) := rfl
theorem og_c14 (ad : Nat → Nat) (cA : Nat → ClassId) : om_ce ad cA 14 (om_M0.1 14) (om_M0.2 14) = (.inr (2, [.int 0, .int 1, .int 0, .int 1, .ref (ad 15), .ref (ad 16), .ref (ad 17), .ref (ad 18)]) : va_E) := by
  have hI : om_M0.1 14 = (fun j => if j = 3 then 1 else if j = 1 then 1 else 0) := rfl
  rw [hI]
  show (.inr (2, om_fs ad 14 ((fun j => if j = 3 then 1 else if j = 1 then 1 else 0)) (om_M0.2 14) (om_fds 2)) : va_E) = _
  rw [show om_fds 2 = [0, 0, 0, 0, 4, 5, 6, 7] from rfl]
  unfold om_fs
  simp only [List.mapIdx_cons, List.mapIdx_nil]
  rfl
theorem og_c15 (ad : Nat → Nat) (cA : Nat → ClassId) : om_ce ad cA 15 (om_M0.1 15) (om_M0.2 15) = (.inl ((cA 15), 8, .inl (fun _ => 0)) : va_E) := rfl
theorem og_c16 (ad : Nat → Nat) (cA : Nat → ClassId) : om_ce ad cA 16 (om_M0.1 16) (om_M0.2 16) = (.inl ((cA 16), 9, .inr (.inr (.inr (.inr (fun j => if j < 9 then some (ad (16 + (3 + j))) else none))))) : va_E) := rfl
theorem og_c17 (ad : Nat → Nat) (cA : Nat → ClassId) : om_ce ad cA 17 (om_M0.1 17) (om_M0.2 17) = (.inl ((cA 17), 8, .inl (fun _ => 0)) : va_E) := rfl
theorem og_c18 (ad : Nat → Nat) (cA : Nat → ClassId) : om_ce ad cA 18 (om_M0.1 18) (om_M0.2 18) = (.inl ((cA 18), 8, .inl (fun _ => 0)) : va_E) := rfl
theorem og_c19 (ad : Nat → Nat) (cA : Nat → ClassId) : om_ce ad cA 19 (om_M0.1 19) (om_M0.2 19) = (.inl ((cA 19), 8, .inl (fun _ => 0)) : va_E) := rfl
theorem og_c20 (ad : Nat → Nat) (cA : Nat → ClassId) : om_ce ad cA 20 (om_M0.1 20) (om_M0.2 20) = (.inl ((cA 20), 8, .inl (fun _ => 0)) : va_E) := rfl
theorem og_c21 (ad : Nat → Nat) (cA : Nat → ClassId) : om_ce ad cA 21 (om_M0.1 21) (om_M0.2 21) = (.inl ((cA 21), 8, .inl (fun _ => 0)) : va_E) := rfl
theorem og_c22 (ad : Nat → Nat) (cA : Nat → ClassId) : om_ce ad cA 22 (om_M0.1 22) (om_M0.2 22) = (.inl ((cA 22), 8, .inl (fun _ => 0)) : va_E) := rfl
theorem og_c23 (ad : Nat → Nat) (cA : Nat → ClassId) : om_ce ad cA 23 (om_M0.1 23) (om_M0.2 23) = (.inl ((cA 23), 8, .inl (fun _ => 0)) : va_E) := rfl
theorem og_c24 (ad : Nat → Nat) (cA : Nat → ClassId) : om_ce ad cA 24 (om_M0.1 24) (om_M0.2 24) = (.inl ((cA 24), 8, .inl (fun _ => 0)) : va_E) := rfl
theorem og_c25 (ad : Nat → Nat) (cA : Nat → ClassId) : om_ce ad cA 25 (om_M0.1 25) (om_M0.2 25) = (.inl ((cA 25), 8, .inl (fun _ => 0)) : va_E) := rfl
theorem og_c26 (ad : Nat → Nat) (cA : Nat → ClassId) : om_ce ad cA 26 (om_M0.1 26) (om_M0.2 26) = (.inl ((cA 26), 8, .inl (fun _ => 0)) : va_E) := rfl
theorem og_c27 (ad : Nat → Nat) (cA : Nat → ClassId) : om_ce ad cA 27 (om_M0.1 27) (om_M0.2 27) = (.inl ((cA 27), 8, .inl (fun _ => 0)) : va_E) := rfl
theorem og_c28 (ad : Nat → Nat) (cA : Nat → ClassId) : om_ce ad cA 28 (om_M0.1 28) (om_M0.2 28) = (.inr (5, [.int 0, .ref (ad 29), .int 0, .int 0, .int 0, .int 0, .int 0, .null]) : va_E) := by
  have hI : om_M0.1 28 = (fun _ => 0) := rfl
  rw [hI]
  show (.inr (5, om_fs ad 28 ((fun _ => 0)) (om_M0.2 28) (om_fds 5)) : va_E) = _
  rw [show om_fds 5 = [0, 4, 0, 0, 0, 0, 0, 1] from rfl]
  unfold om_fs
  simp only [List.mapIdx_cons, List.mapIdx_nil]
  rfl
theorem og_c29 (ad : Nat → Nat) (cA : Nat → ClassId) : om_ce ad cA 29 (om_M0.1 29) (om_M0.2 29) = (.inl ((cA 29), 120, .inl (fun _ => 0)) : va_E) := rfl
theorem og_c30 (ad : Nat → Nat) (cA : Nat → ClassId) : om_ce ad cA 30 (om_M0.1 30) (om_M0.2 30) = (.inr (4, [.int 0, .ref (ad 31), .ref (ad 32), .ref (ad 33), .ref (ad 34), .ref (ad 35), .int 0, .ref (ad 36), .int 0, .ref (ad 37), .int 0]) : va_E) := by
  have hI : om_M0.1 30 = (fun _ => 0) := rfl
  rw [hI]
  show (.inr (4, om_fs ad 30 ((fun _ => 0)) (om_M0.2 30) (om_fds 4)) : va_E) = _
  rw [show om_fds 4 = [0, 4, 5, 6, 7, 8, 0, 9, 0, 10, 0] from rfl]
  unfold om_fs
  simp only [List.mapIdx_cons, List.mapIdx_nil]
  rfl
theorem og_c31 (ad : Nat → Nat) (cA : Nat → ClassId) : om_ce ad cA 31 (om_M0.1 31) (om_M0.2 31) = (.inl ((cA 31), 10, .inl (fun _ => 0)) : va_E) := rfl
theorem og_c32 (ad : Nat → Nat) (cA : Nat → ClassId) : om_ce ad cA 32 (om_M0.1 32) (om_M0.2 32) = (.inl ((cA 32), 10, .inl (fun _ => 0)) : va_E) := rfl
theorem og_c33 (ad : Nat → Nat) (cA : Nat → ClassId) : om_ce ad cA 33 (om_M0.1 33) (om_M0.2 33) = (.inl ((cA 33), 10, .inl (fun _ => 0)) : va_E) := rfl
theorem og_c34 (ad : Nat → Nat) (cA : Nat → ClassId) : om_ce ad cA 34 (om_M0.1 34) (om_M0.2 34) = (.inl ((cA 34), 10, .inl (fun _ => 0)) : va_E) := rfl
theorem og_c35 (ad : Nat → Nat) (cA : Nat → ClassId) : om_ce ad cA 35 (om_M0.1 35) (om_M0.2 35) = (.inl ((cA 35), 10, .inl (fun _ => 0)) : va_E) := rfl
theorem og_c36 (ad : Nat → Nat) (cA : Nat → ClassId) : om_ce ad cA 36 (om_M0.1 36) (om_M0.2 36) = (.inl ((cA 36), 120, .inl (fun _ => 0)) : va_E) := rfl
theorem og_c37 (ad : Nat → Nat) (cA : Nat → ClassId) : om_ce ad cA 37 (om_M0.1 37) (om_M0.2 37) = (.inl ((cA 37), 120, .inl (fun _ => 0)) : va_E) := rfl
theorem og_c38 (ad : Nat → Nat) (cA : Nat → ClassId) : om_ce ad cA 38 (om_M0.1 38) (om_M0.2 38) = (.inr (4, [.int 0, .ref (ad 39), .ref (ad 40), .ref (ad 41), .ref (ad 42), .ref (ad 43), .int 0, .ref (ad 44), .int 0, .ref (ad 45), .int 0]) : va_E) := by
  have hI : om_M0.1 38 = (fun _ => 0) := rfl
  rw [hI]
  show (.inr (4, om_fs ad 38 ((fun _ => 0)) (om_M0.2 38) (om_fds 4)) : va_E) = _
  rw [show om_fds 4 = [0, 4, 5, 6, 7, 8, 0, 9, 0, 10, 0] from rfl]
  unfold om_fs
  simp only [List.mapIdx_cons, List.mapIdx_nil]
  rfl
theorem og_c39 (ad : Nat → Nat) (cA : Nat → ClassId) : om_ce ad cA 39 (om_M0.1 39) (om_M0.2 39) = (.inl ((cA 39), 10, .inl (fun _ => 0)) : va_E) := rfl
theorem og_c40 (ad : Nat → Nat) (cA : Nat → ClassId) : om_ce ad cA 40 (om_M0.1 40) (om_M0.2 40) = (.inl ((cA 40), 10, .inl (fun _ => 0)) : va_E) := rfl
theorem og_c41 (ad : Nat → Nat) (cA : Nat → ClassId) : om_ce ad cA 41 (om_M0.1 41) (om_M0.2 41) = (.inl ((cA 41), 10, .inl (fun _ => 0)) : va_E) := rfl
theorem og_c42 (ad : Nat → Nat) (cA : Nat → ClassId) : om_ce ad cA 42 (om_M0.1 42) (om_M0.2 42) = (.inl ((cA 42), 10, .inl (fun _ => 0)) : va_E) := rfl
theorem og_c43 (ad : Nat → Nat) (cA : Nat → ClassId) : om_ce ad cA 43 (om_M0.1 43) (om_M0.2 43) = (.inl ((cA 43), 10, .inl (fun _ => 0)) : va_E) := rfl
theorem og_c44 (ad : Nat → Nat) (cA : Nat → ClassId) : om_ce ad cA 44 (om_M0.1 44) (om_M0.2 44) = (.inl ((cA 44), 120, .inl (fun _ => 0)) : va_E) := rfl
theorem og_c45 (ad : Nat → Nat) (cA : Nat → ClassId) : om_ce ad cA 45 (om_M0.1 45) (om_M0.2 45) = (.inl ((cA 45), 120, .inl (fun _ => 0)) : va_E) := rfl
theorem og_c46 (ad : Nat → Nat) (cA : Nat → ClassId) : om_ce ad cA 46 (om_M0.1 46) (om_M0.2 46) = (.inr (7, [.ref (ad 47), .ref (ad 48), .int 0, .ref (ad 49), .ref (ad 50), .ref (ad 51), .int 0, .ref (ad 52), .ref (ad 53), .int 0, .ref (ad 54), .ref (ad 55), .ref (ad 56), .ref (ad 57), .int 0, .int 0, .ref (ad 58), .ref (ad 59), .int (-1), .ref (ad 60), .ref (ad 61), .ref (ad 62), .ref (ad 63), .int 0, .int 0, .ref (ad 64), .int 0, .ref (ad 65), .ref (ad 66), .int 0, .int 0, .int 0, .int 0, .ref (ad 67), .int 0, .int 0, .ref (ad 68)]) : va_E) := by
  have hI : om_M0.1 46 = (fun j => if j = 18 then (-1) else 0) := rfl
  rw [hI]
  show (.inr (7, om_fs ad 46 ((fun j => if j = 18 then (-1) else 0)) (om_M0.2 46) (om_fds 7)) : va_E) = _
  rw [show om_fds 7 = [4, 5, 0, 6, 7, 8, 0, 9, 10, 0, 11, 12, 13, 14, 0, 0, 15, 16, 0, 17, 18, 19, 20, 0, 0, 21, 0, 22, 23, 0, 0, 0, 0, 24, 0, 0, 25] from rfl]
  unfold om_fs
  simp only [List.mapIdx_cons, List.mapIdx_nil]
  rfl
theorem og_c47 (ad : Nat → Nat) (cA : Nat → ClassId) : om_ce ad cA 47 (om_M0.1 47) (om_M0.2 47) = (.inl ((cA 47), 8, .inl (fun _ => 0)) : va_E) := rfl
theorem og_c48 (ad : Nat → Nat) (cA : Nat → ClassId) : om_ce ad cA 48 (om_M0.1 48) (om_M0.2 48) = (.inl ((cA 48), 8, .inl (fun _ => 0)) : va_E) := rfl
theorem og_c49 (ad : Nat → Nat) (cA : Nat → ClassId) : om_ce ad cA 49 (om_M0.1 49) (om_M0.2 49) = (.inl ((cA 49), 20, .inl (fun _ => 0)) : va_E) := rfl
theorem og_c50 (ad : Nat → Nat) (cA : Nat → ClassId) : om_ce ad cA 50 (om_M0.1 50) (om_M0.2 50) = (.inl ((cA 50), 20, .inl (fun _ => 0)) : va_E) := rfl
theorem og_c51 (ad : Nat → Nat) (cA : Nat → ClassId) : om_ce ad cA 51 (om_M0.1 51) (om_M0.2 51) = (.inl ((cA 51), 20, .inl (fun _ => 0)) : va_E) := rfl
theorem og_c52 (ad : Nat → Nat) (cA : Nat → ClassId) : om_ce ad cA 52 (om_M0.1 52) (om_M0.2 52) = (.inl ((cA 52), 8, .inl (upd (upd (upd (upd (upd (upd (upd (upd (fun _ => 0) 0 (-1)) 1 (-1)) 2 (-1)) 3 (-1)) 4 (-1)) 5 (-1)) 6 (-1)) 7 (-1))) : va_E) := rfl
theorem og_c53 (ad : Nat → Nat) (cA : Nat → ClassId) : om_ce ad cA 53 (om_M0.1 53) (om_M0.2 53) = (.inl ((cA 53), 120, .inl (fun _ => 0)) : va_E) := rfl
theorem og_c54 (ad : Nat → Nat) (cA : Nat → ClassId) : om_ce ad cA 54 (om_M0.1 54) (om_M0.2 54) = (.inl ((cA 54), 240, .inl (fun _ => 0)) : va_E) := rfl
theorem og_c55 (ad : Nat → Nat) (cA : Nat → ClassId) : om_ce ad cA 55 (om_M0.1 55) (om_M0.2 55) = (.inl ((cA 55), 240, .inl (fun _ => 0)) : va_E) := rfl
theorem og_c56 (ad : Nat → Nat) (cA : Nat → ClassId) : om_ce ad cA 56 (om_M0.1 56) (om_M0.2 56) = (.inl ((cA 56), 240, .inl (fun _ => 0)) : va_E) := rfl
theorem og_c57 (ad : Nat → Nat) (cA : Nat → ClassId) : om_ce ad cA 57 (om_M0.1 57) (om_M0.2 57) = (.inl ((cA 57), 240, .inl (fun _ => 0)) : va_E) := rfl
theorem og_c58 (ad : Nat → Nat) (cA : Nat → ClassId) : om_ce ad cA 58 (om_M0.1 58) (om_M0.2 58) = (.inl ((cA 58), 8, .inl (fun _ => 0)) : va_E) := rfl
theorem og_c59 (ad : Nat → Nat) (cA : Nat → ClassId) : om_ce ad cA 59 (om_M0.1 59) (om_M0.2 59) = (.inl ((cA 59), 8, .inl (upd (upd (upd (upd (upd (upd (upd (upd (fun _ => 0) 0 (-1)) 1 (-1)) 2 (-1)) 3 (-1)) 4 (-1)) 5 (-1)) 6 (-1)) 7 (-1))) : va_E) := rfl
theorem og_c60 (ad : Nat → Nat) (cA : Nat → ClassId) : om_ce ad cA 60 (om_M0.1 60) (om_M0.2 60) = (.inl ((cA 60), 8, .inl (fun _ => 0)) : va_E) := rfl
theorem og_c61 (ad : Nat → Nat) (cA : Nat → ClassId) : om_ce ad cA 61 (om_M0.1 61) (om_M0.2 61) = (.inl ((cA 61), 4, .inl (fun _ => 0)) : va_E) := rfl
theorem og_c62 (ad : Nat → Nat) (cA : Nat → ClassId) : om_ce ad cA 62 (om_M0.1 62) (om_M0.2 62) = (.inl ((cA 62), 8, .inl (fun _ => 0)) : va_E) := rfl
theorem og_c63 (ad : Nat → Nat) (cA : Nat → ClassId) : om_ce ad cA 63 (om_M0.1 63) (om_M0.2 63) = (.inl ((cA 63), 8, .inl (fun _ => 0)) : va_E) := rfl
theorem og_c64 (ad : Nat → Nat) (cA : Nat → ClassId) : om_ce ad cA 64 (om_M0.1 64) (om_M0.2 64) = (.inl ((cA 64), 10, .inl (fun _ => 0)) : va_E) := rfl
theorem og_c65 (ad : Nat → Nat) (cA : Nat → ClassId) : om_ce ad cA 65 (om_M0.1 65) (om_M0.2 65) = (.inl ((cA 65), 64, .inl (fun _ => 0)) : va_E) := rfl
theorem og_c66 (ad : Nat → Nat) (cA : Nat → ClassId) : om_ce ad cA 66 (om_M0.1 66) (om_M0.2 66) = (.inl ((cA 66), 64, .inl (fun _ => 0)) : va_E) := rfl
theorem og_c67 (ad : Nat → Nat) (cA : Nat → ClassId) : om_ce ad cA 67 (om_M0.1 67) (om_M0.2 67) = (.inl ((cA 67), 120, .inl (fun _ => 0)) : va_E) := rfl
theorem og_c68 (ad : Nat → Nat) (cA : Nat → ClassId) : om_ce ad cA 68 (om_M0.1 68) (om_M0.2 68) = (.inl ((cA 68), 120, .inl (fun _ => 0)) : va_E) := rfl
theorem og_rg69 : List.range om_N = [0, 1, 2, 3, 4, 5, 6, 7, 8, 9, 10, 11, 12, 13, 14, 15, 16, 17, 18, 19, 20, 21, 22, 23, 24, 25, 26, 27, 28, 29, 30, 31, 32, 33, 34, 35, 36, 37, 38, 39, 40, 41, 42, 43, 44, 45, 46, 47, 48, 49, 50, 51, 52, 53, 54, 55, 56, 57, 58, 59, 60, 61, 62, 63, 64, 65, 66, 67, 68] := by decide +kernel
def og_wcl (ad : Nat → Nat) (cA : Nat → ClassId) : va_W := [(ad 0, .inr (6, [.ref (ad 1), .ref (ad 7), .ref (ad 12), .ref (ad 14), .ref (ad 28), .ref (ad 30), .ref (ad 38)])), (ad 1, .inr (0, [.int 0, .int 0, .int 0, .ref (ad 2), .ref (ad 3), .ref (ad 4), .ref (ad 5), .ref (ad 6)])), (ad 2, .inl ((cA 2), 8, .inl (fun _ => 0))), (ad 3, .inl ((cA 3), 8, .inl (fun _ => 0))), (ad 4, .inl ((cA 4), 20, .inl (fun _ => 0))), (ad 5, .inl ((cA 5), 20, .inl (fun _ => 0))), (ad 6, .inl ((cA 6), 20, .inl (fun _ => 0))), (ad 7, .inr (3, [.int 0, .int 0, .int 0, .ref (ad 8), .ref (ad 9), .ref (ad 10), .ref (ad 11)])), (ad 8, .inl ((cA 8), 28, .inl (fun _ => 0))), (ad 9, .inl ((cA 9), 28, .inl (fun _ => 0))), (ad 10, .inl ((cA 10), 28, .inl (fun _ => 0))), (ad 11, .inl ((cA 11), 8, .inl (fun _ => 0))), (ad 12, .inr (1, [.ref (ad 13), .int 0])), (ad 13, .inl ((cA 13), 9, .inl (fun _ => 0))), (ad 14, .inr (2, [.int 0, .int 1, .int 0, .int 1, .ref (ad 15), .ref (ad 16), .ref (ad 17), .ref (ad 18)])), (ad 15, .inl ((cA 15), 8, .inl (fun _ => 0))), (ad 16, .inl ((cA 16), 9, .inr (.inr (.inr (.inr (fun j => if j < 9 then some (ad (16 + (3 + j))) else none)))))), (ad 17, .inl ((cA 17), 8, .inl (fun _ => 0))), (ad 18, .inl ((cA 18), 8, .inl (fun _ => 0))), (ad 19, .inl ((cA 19), 8, .inl (fun _ => 0))), (ad 20, .inl ((cA 20), 8, .inl (fun _ => 0))), (ad 21, .inl ((cA 21), 8, .inl (fun _ => 0))), (ad 22, .inl ((cA 22), 8, .inl (fun _ => 0))), (ad 23, .inl ((cA 23), 8, .inl (fun _ => 0))), (ad 24, .inl ((cA 24), 8, .inl (fun _ => 0))), (ad 25, .inl ((cA 25), 8, .inl (fun _ => 0))), (ad 26, .inl ((cA 26), 8, .inl (fun _ => 0))), (ad 27, .inl ((cA 27), 8, .inl (fun _ => 0))), (ad 28, .inr (5, [.int 0, .ref (ad 29), .int 0, .int 0, .int 0, .int 0, .int 0, .null])), (ad 29, .inl ((cA 29), 120, .inl (fun _ => 0))), (ad 30, .inr (4, [.int 0, .ref (ad 31), .ref (ad 32), .ref (ad 33), .ref (ad 34), .ref (ad 35), .int 0, .ref (ad 36), .int 0, .ref (ad 37), .int 0])), (ad 31, .inl ((cA 31), 10, .inl (fun _ => 0))), (ad 32, .inl ((cA 32), 10, .inl (fun _ => 0))), (ad 33, .inl ((cA 33), 10, .inl (fun _ => 0))), (ad 34, .inl ((cA 34), 10, .inl (fun _ => 0))), (ad 35, .inl ((cA 35), 10, .inl (fun _ => 0))), (ad 36, .inl ((cA 36), 120, .inl (fun _ => 0))), (ad 37, .inl ((cA 37), 120, .inl (fun _ => 0))), (ad 38, .inr (4, [.int 0, .ref (ad 39), .ref (ad 40), .ref (ad 41), .ref (ad 42), .ref (ad 43), .int 0, .ref (ad 44), .int 0, .ref (ad 45), .int 0])), (ad 39, .inl ((cA 39), 10, .inl (fun _ => 0))), (ad 40, .inl ((cA 40), 10, .inl (fun _ => 0))), (ad 41, .inl ((cA 41), 10, .inl (fun _ => 0))), (ad 42, .inl ((cA 42), 10, .inl (fun _ => 0))), (ad 43, .inl ((cA 43), 10, .inl (fun _ => 0))), (ad 44, .inl ((cA 44), 120, .inl (fun _ => 0))), (ad 45, .inl ((cA 45), 120, .inl (fun _ => 0))), (ad 46, .inr (7, [.ref (ad 47), .ref (ad 48), .int 0, .ref (ad 49), .ref (ad 50), .ref (ad 51), .int 0, .ref (ad 52), .ref (ad 53), .int 0, .ref (ad 54), .ref (ad 55), .ref (ad 56), .ref (ad 57), .int 0, .int 0, .ref (ad 58), .ref (ad 59), .int (-1), .ref (ad 60), .ref (ad 61), .ref (ad 62), .ref (ad 63), .int 0, .int 0, .ref (ad 64), .int 0, .ref (ad 65), .ref (ad 66), .int 0, .int 0, .int 0, .int 0, .ref (ad 67), .int 0, .int 0, .ref (ad 68)])), (ad 47, .inl ((cA 47), 8, .inl (fun _ => 0))), (ad 48, .inl ((cA 48), 8, .inl (fun _ => 0))), (ad 49, .inl ((cA 49), 20, .inl (fun _ => 0))), (ad 50, .inl ((cA 50), 20, .inl (fun _ => 0))), (ad 51, .inl ((cA 51), 20, .inl (fun _ => 0))), (ad 52, .inl ((cA 52), 8, .inl (upd (upd (upd (upd (upd (upd (upd (upd (fun _ => 0) 0 (-1)) 1 (-1)) 2 (-1)) 3 (-1)) 4 (-1)) 5 (-1)) 6 (-1)) 7 (-1)))), (ad 53, .inl ((cA 53), 120, .inl (fun _ => 0))), (ad 54, .inl ((cA 54), 240, .inl (fun _ => 0))), (ad 55, .inl ((cA 55), 240, .inl (fun _ => 0))), (ad 56, .inl ((cA 56), 240, .inl (fun _ => 0))), (ad 57, .inl ((cA 57), 240, .inl (fun _ => 0))), (ad 58, .inl ((cA 58), 8, .inl (fun _ => 0))), (ad 59, .inl ((cA 59), 8, .inl (upd (upd (upd (upd (upd (upd (upd (upd (fun _ => 0) 0 (-1)) 1 (-1)) 2 (-1)) 3 (-1)) 4 (-1)) 5 (-1)) 6 (-1)) 7 (-1)))), (ad 60, .inl ((cA 60), 8, .inl (fun _ => 0))), (ad 61, .inl ((cA 61), 4, .inl (fun _ => 0))), (ad 62, .inl ((cA 62), 8, .inl (fun _ => 0))), (ad 63, .inl ((cA 63), 8, .inl (fun _ => 0))), (ad 64, .inl ((cA 64), 10, .inl (fun _ => 0))), (ad 65, .inl ((cA 65), 64, .inl (fun _ => 0))), (ad 66, .inl ((cA 66), 64, .inl (fun _ => 0))), (ad 67, .inl ((cA 67), 120, .inl (fun _ => 0))), (ad 68, .inl ((cA 68), 120, .inl (fun _ => 0)))]
theorem og_ws0 (ad : Nat → Nat) (cA : Nat → ClassId) : om_ws ad cA om_M0 = og_wcl ad cA := by
  unfold om_ws og_wcl
  rw [og_rg69]
  simp only [List.map_cons, List.map_nil, og_c0, og_c1, og_c2, og_c3, og_c4, og_c5, og_c6, og_c7, og_c8, og_c9, og_c10, og_c11, og_c12, og_c13, og_c14, og_c15, og_c16, og_c17, og_c18, og_c19, og_c20, og_c21, og_c22, og_c23, og_c24, og_c25, og_c26, og_c27, og_c28, og_c29, og_c30, og_c31, og_c32, og_c33, og_c34, og_c35, og_c36, og_c37, og_c38, og_c39, og_c40, og_c41, og_c42, og_c43, og_c44, og_c45, og_c46, og_c47, og_c48, og_c49, og_c50, og_c51, og_c52, og_c53, og_c54, og_c55, og_c56, og_c57, og_c58, og_c59, og_c60, og_c61, og_c62, og_c63, og_c64, og_c65, og_c66, og_c67, og_c68]
