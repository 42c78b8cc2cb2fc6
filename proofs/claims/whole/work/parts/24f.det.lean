set_option maxHeartbeats 1000000 in
theorem qdt_15 (e : Nat → Nat → Int) : qdt e 8 15 15 = qdet (qsub e 15) 4 := by
  have h : qml 15 = [0, 1, 2, 3] := by decide
  simp (decide := true) [qdt, qdl, qntz, qhas, qdet, qsub, h, qm2, qm3, qm4]
  grind
