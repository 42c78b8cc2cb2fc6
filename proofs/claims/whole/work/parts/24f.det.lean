set_option maxHeartbeats 1000000 in
theorem qdt_15 (e : Nat → Nat → Int) : qdt e 8 15 15 = qdet (qsub e 15) 4 := by
  have h : qml 15 = [0, 1, 2, 3] := by decide
  simp (decide := true) [qdt, qdl, qntz, qhas, qdet, qsub, h, qm2, qm3, qm4]
  grind
set_option maxHeartbeats 1000000 in
theorem qdt_23 (e : Nat → Nat → Int) : qdt e 8 23 23 = qdet (qsub e 23) 4 := by
  have h : qml 23 = [0, 1, 2, 4] := by decide
  simp (decide := true) [qdt, qdl, qntz, qhas, qdet, qsub, h, qm2, qm3, qm4]
  grind
set_option maxHeartbeats 1000000 in
theorem qdt_27 (e : Nat → Nat → Int) : qdt e 8 27 27 = qdet (qsub e 27) 4 := by
  have h : qml 27 = [0, 1, 3, 4] := by decide
  simp (decide := true) [qdt, qdl, qntz, qhas, qdet, qsub, h, qm2, qm3, qm4]
  grind
set_option maxHeartbeats 1000000 in
theorem qdt_29 (e : Nat → Nat → Int) : qdt e 8 29 29 = qdet (qsub e 29) 4 := by
  have h : qml 29 = [0, 2, 3, 4] := by decide
  simp (decide := true) [qdt, qdl, qntz, qhas, qdet, qsub, h, qm2, qm3, qm4]
  grind
set_option maxHeartbeats 1000000 in
theorem qdt_30 (e : Nat → Nat → Int) : qdt e 8 30 30 = qdet (qsub e 30) 4 := by
  have h : qml 30 = [1, 2, 3, 4] := by decide
  simp (decide := true) [qdt, qdl, qntz, qhas, qdet, qsub, h, qm2, qm3, qm4]
  grind
