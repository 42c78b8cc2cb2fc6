set_option maxHeartbeats 1000000 in
theorem qdt_8 (e : Nat → Nat → Int) : qdt e 8 8 8 = qdet (qsub e 8) 1 := by
  have h : qml 8 = [3] := by decide
  simp (decide := true) [qdt, qdl, qntz, qhas, qdet, qsub, h, qm2, qm3, qm4]
set_option maxHeartbeats 1000000 in
theorem qdt_9 (e : Nat → Nat → Int) : qdt e 8 9 9 = qdet (qsub e 9) 2 := by
  have h : qml 9 = [0, 3] := by decide
  simp (decide := true) [qdt, qdl, qntz, qhas, qdet, qsub, h, qm2, qm3, qm4]
  grind
set_option maxHeartbeats 1000000 in
theorem qdt_10 (e : Nat → Nat → Int) : qdt e 8 10 10 = qdet (qsub e 10) 2 := by
  have h : qml 10 = [1, 3] := by decide
  simp (decide := true) [qdt, qdl, qntz, qhas, qdet, qsub, h, qm2, qm3, qm4]
  grind
set_option maxHeartbeats 1000000 in
theorem qdt_11 (e : Nat → Nat → Int) : qdt e 8 11 11 = qdet (qsub e 11) 3 := by
  have h : qml 11 = [0, 1, 3] := by decide
  simp (decide := true) [qdt, qdl, qntz, qhas, qdet, qsub, h, qm2, qm3, qm4]
  grind
set_option maxHeartbeats 1000000 in
theorem qdt_12 (e : Nat → Nat → Int) : qdt e 8 12 12 = qdet (qsub e 12) 2 := by
  have h : qml 12 = [2, 3] := by decide
  simp (decide := true) [qdt, qdl, qntz, qhas, qdet, qsub, h, qm2, qm3, qm4]
  grind
set_option maxHeartbeats 1000000 in
theorem qdt_13 (e : Nat → Nat → Int) : qdt e 8 13 13 = qdet (qsub e 13) 3 := by
  have h : qml 13 = [0, 2, 3] := by decide
  simp (decide := true) [qdt, qdl, qntz, qhas, qdet, qsub, h, qm2, qm3, qm4]
  grind
set_option maxHeartbeats 1000000 in
theorem qdt_14 (e : Nat → Nat → Int) : qdt e 8 14 14 = qdet (qsub e 14) 3 := by
  have h : qml 14 = [1, 2, 3] := by decide
  simp (decide := true) [qdt, qdl, qntz, qhas, qdet, qsub, h, qm2, qm3, qm4]
  grind
set_option maxHeartbeats 1000000 in
theorem qdt_16 (e : Nat → Nat → Int) : qdt e 8 16 16 = qdet (qsub e 16) 1 := by
  have h : qml 16 = [4] := by decide
  simp (decide := true) [qdt, qdl, qntz, qhas, qdet, qsub, h, qm2, qm3, qm4]
set_option maxHeartbeats 1000000 in
theorem qdt_17 (e : Nat → Nat → Int) : qdt e 8 17 17 = qdet (qsub e 17) 2 := by
  have h : qml 17 = [0, 4] := by decide
  simp (decide := true) [qdt, qdl, qntz, qhas, qdet, qsub, h, qm2, qm3, qm4]
  grind
set_option maxHeartbeats 1000000 in
theorem qdt_18 (e : Nat → Nat → Int) : qdt e 8 18 18 = qdet (qsub e 18) 2 := by
  have h : qml 18 = [1, 4] := by decide
  simp (decide := true) [qdt, qdl, qntz, qhas, qdet, qsub, h, qm2, qm3, qm4]
  grind
set_option maxHeartbeats 1000000 in
theorem qdt_19 (e : Nat → Nat → Int) : qdt e 8 19 19 = qdet (qsub e 19) 3 := by
  have h : qml 19 = [0, 1, 4] := by decide
  simp (decide := true) [qdt, qdl, qntz, qhas, qdet, qsub, h, qm2, qm3, qm4]
  grind
set_option maxHeartbeats 1000000 in
theorem qdt_20 (e : Nat → Nat → Int) : qdt e 8 20 20 = qdet (qsub e 20) 2 := by
  have h : qml 20 = [2, 4] := by decide
  simp (decide := true) [qdt, qdl, qntz, qhas, qdet, qsub, h, qm2, qm3, qm4]
  grind
set_option maxHeartbeats 1000000 in
theorem qdt_21 (e : Nat → Nat → Int) : qdt e 8 21 21 = qdet (qsub e 21) 3 := by
  have h : qml 21 = [0, 2, 4] := by decide
  simp (decide := true) [qdt, qdl, qntz, qhas, qdet, qsub, h, qm2, qm3, qm4]
  grind
set_option maxHeartbeats 1000000 in
theorem qdt_22 (e : Nat → Nat → Int) : qdt e 8 22 22 = qdet (qsub e 22) 3 := by
  have h : qml 22 = [1, 2, 4] := by decide
  simp (decide := true) [qdt, qdl, qntz, qhas, qdet, qsub, h, qm2, qm3, qm4]
  grind
set_option maxHeartbeats 1000000 in
theorem qdt_24 (e : Nat → Nat → Int) : qdt e 8 24 24 = qdet (qsub e 24) 2 := by
  have h : qml 24 = [3, 4] := by decide
  simp (decide := true) [qdt, qdl, qntz, qhas, qdet, qsub, h, qm2, qm3, qm4]
  grind
set_option maxHeartbeats 1000000 in
theorem qdt_25 (e : Nat → Nat → Int) : qdt e 8 25 25 = qdet (qsub e 25) 3 := by
  have h : qml 25 = [0, 3, 4] := by decide
  simp (decide := true) [qdt, qdl, qntz, qhas, qdet, qsub, h, qm2, qm3, qm4]
  grind
set_option maxHeartbeats 1000000 in
theorem qdt_26 (e : Nat → Nat → Int) : qdt e 8 26 26 = qdet (qsub e 26) 3 := by
  have h : qml 26 = [1, 3, 4] := by decide
  simp (decide := true) [qdt, qdl, qntz, qhas, qdet, qsub, h, qm2, qm3, qm4]
  grind
set_option maxHeartbeats 1000000 in
theorem qdt_28 (e : Nat → Nat → Int) : qdt e 8 28 28 = qdet (qsub e 28) 3 := by
  have h : qml 28 = [2, 3, 4] := by decide
  simp (decide := true) [qdt, qdl, qntz, qhas, qdet, qsub, h, qm2, qm3, qm4]
  grind
