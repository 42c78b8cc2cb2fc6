/-- the members of a set, in order -/
def qml (m : Nat) : List Nat := (List.range 5).filter fun t => qhas m t
def qsub (e : Nat → Nat → Int) (m : Nat) : Nat → Nat → Int := fun i j => e ((qml m).getD i 0) ((qml m).getD j 0)
def qdet (a : Nat → Nat → Int) (n : Nat) : Int := match n with
  | 0 => 1
  | 1 => a 0 0
  | 2 => qm2 a 1 1
  | 3 => qm3 a 2 2
  | _ => qm4 a
set_option maxHeartbeats 1000000 in
theorem qdt_0 (e : Nat → Nat → Int) : qdt e 8 0 0 = qdet (qsub e 0) 0 := by
  have h : qml 0 = [] := by decide
  simp (decide := true) [qdt, qdl, qntz, qhas, qdet, qsub, h, qm2, qm3, qm4]
set_option maxHeartbeats 1000000 in
theorem qdt_1 (e : Nat → Nat → Int) : qdt e 8 1 1 = qdet (qsub e 1) 1 := by
  have h : qml 1 = [0] := by decide
  simp (decide := true) [qdt, qdl, qntz, qhas, qdet, qsub, h, qm2, qm3, qm4]
set_option maxHeartbeats 1000000 in
theorem qdt_2 (e : Nat → Nat → Int) : qdt e 8 2 2 = qdet (qsub e 2) 1 := by
  have h : qml 2 = [1] := by decide
  simp (decide := true) [qdt, qdl, qntz, qhas, qdet, qsub, h, qm2, qm3, qm4]
set_option maxHeartbeats 1000000 in
theorem qdt_3 (e : Nat → Nat → Int) : qdt e 8 3 3 = qdet (qsub e 3) 2 := by
  have h : qml 3 = [0, 1] := by decide
  simp (decide := true) [qdt, qdl, qntz, qhas, qdet, qsub, h, qm2, qm3, qm4]
  grind
set_option maxHeartbeats 1000000 in
theorem qdt_4 (e : Nat → Nat → Int) : qdt e 8 4 4 = qdet (qsub e 4) 1 := by
  have h : qml 4 = [2] := by decide
  simp (decide := true) [qdt, qdl, qntz, qhas, qdet, qsub, h, qm2, qm3, qm4]
set_option maxHeartbeats 1000000 in
theorem qdt_5 (e : Nat → Nat → Int) : qdt e 8 5 5 = qdet (qsub e 5) 2 := by
  have h : qml 5 = [0, 2] := by decide
  simp (decide := true) [qdt, qdl, qntz, qhas, qdet, qsub, h, qm2, qm3, qm4]
  grind
set_option maxHeartbeats 1000000 in
theorem qdt_6 (e : Nat → Nat → Int) : qdt e 8 6 6 = qdet (qsub e 6) 2 := by
  have h : qml 6 = [1, 2] := by decide
  simp (decide := true) [qdt, qdl, qntz, qhas, qdet, qsub, h, qm2, qm3, qm4]
  grind
set_option maxHeartbeats 1000000 in
theorem qdt_7 (e : Nat → Nat → Int) : qdt e 8 7 7 = qdet (qsub e 7) 3 := by
  have h : qml 7 = [0, 1, 2] := by decide
  simp (decide := true) [qdt, qdl, qntz, qhas, qdet, qsub, h, qm2, qm3, qm4]
  grind
