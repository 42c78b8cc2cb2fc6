/-! ODDS: the reading, all of it -/
def rdA (d : qD) (F : Nat → Int64) (n : Int32) : Prop := n = nI (2 * qS d) ∧ rdF d F 0 ∧ rdF d F 1
theorem C_read {d : qD} {M : pm_M} (hd : qOK d) (hC : qC M d) (hT : qTo M d) {i l : Nat} (hi48 : i ≠ 48) {F : Nat → Int64} (hF : ∀ x, x < 40 → M.2 l x = F x) (hm : ¬ M.1 i 0 = -1) : ∃ M', gRead i l M = some (q2i (rdA d F (M.1 i 1)), M') ∧ M'.2 = M.2 ∧ (∀ b, b ≠ 48 → M'.1 b = M.1 b) ∧ (rdA d F (M.1 i 1) → ∀ c s, c < 2 → s < qS d → M'.1 48 (5 * c + s) = nI (rdS d F (5 * c + s))) := by
  have hS := hd.1
  unfold gRead
  rw [q_bd, b2i_f hm, if_neg (fun q => q rfl), hC.1, show (2 : Int32) * nI (qS d) = nI (2 * qS d) by rw [q2, nI_mul]]
  by_cases hn : M.1 i 1 = nI (2 * qS d)
  case neg =>
    rw [if_neg hn]
    exact ⟨M, by rw [q2i_f (fun q => hn q.1)], rfl, fun _ _ => rfl, fun q => absurd q.1 hn⟩
  rw [if_pos hn]
  refine q_fx (fun r => ∃ M', r = some (q2i (rdA d F (M.1 i 1)), M') ∧ M'.2 = M.2 ∧ (∀ b, b ≠ 48 → M'.1 b = M.1 b) ∧ (rdA d F (M.1 i 1) → ∀ c s, c < 2 → s < qS d → M'.1 48 (5 * c + s) = nI (rdS d F (5 * c + s)))) (fun c a (g : Int32 → pm_M → Option (Int32 × pm_M)) => g (nI c) a) (fun c a => rd48 d F M a c 0 ∧ ∀ c', c' < c → rdF d F c') 2 ?_ ?_ (n := 1000000) (a := M) (by omega) ⟨⟨rfl, fun _ _ => rfl, fun c' i' _ h => absurd h (by omega)⟩, fun c' h => absurd h (Nat.not_lt_zero c')⟩
  · rintro c a hc ⟨ha, hf⟩ g
    have e5 : a.1 5 c = nI (qP d c) := by rw [ha.2.1 5 (by decide), hC.2.2.2.2.1]
    rw [if_neg (by rw [q2, nI_le_iff (by omega) (by omega)]; omega), if_pos (by rw [nI_in_iff (by omega)]; exact hc), q_lt, nI_cl c (by omega), e5]
    rcases C_rd_in hd hC hT hF hc ha g with ⟨h1, a', h2, h3⟩ | ⟨h1, a', h2, h3⟩
    · right
      refine ⟨a', ⟨⟨h2.1, h2.2.1, fun c' i' hi' h => h2.2.2 c' i' hi' (by omega)⟩, fun c' hc' => ?_⟩, h3⟩
      by_cases q : c' = c
      · rw [q]; exact h1
      · exact hf c' (by omega)
    · left
      have hno : ¬ rdA d F (M.1 i 1) := fun q => by
        rcases (show c = 0 ∨ c = 1 by omega) with rfl | rfl
        · exact h1 q.2.1
        · exact h1 q.2.2
      exact ⟨a', by rw [q2i_f hno]; exact h3, h2.1, h2.2.1, fun q => absurd q hno⟩
  · rintro a ⟨ha, hf⟩ g
    rw [if_pos (by decide)]
    exact ⟨a, by rw [q2i_t ⟨hn, hf 0 (by omega), hf 1 (by omega)⟩], ha.1, ha.2.1, fun _ c s hc hs => ha.2.2 c s hs (by omega)⟩
def rd64 (d : qD) (F : Nat → Int64) (M a : pm_M) (c s : Nat) : Prop := a.2 = M.2 ∧ (∀ b, b ≠ 64 → a.1 b = M.1 b) ∧ ∀ c' i, i < qS d → c' < c ∨ (c' = c ∧ i < s) → a.1 64 (5 * c' + i) = nI (rdS d F (5 * c' + i))
theorem R_rd_in {d : qD} {M a : pm_M} (hd : qOK d) (hs : qsnd d) (hR : qR M d) (hD : ∀ c s, c < 2 → s < 5 → M.2 60 (5 * c + s) = nL (qdd d c s)) {j : Nat} (hj : j < 4) {F : Nat → Int64} (hF : ∀ x, x < 40 → M.2 80 (40 * j + x) = F x) {c : Nat} (hc : c < 2) (ha : rd64 d F M a c 0) (g1 : Int32 → pm_M → Option (Int32 × pm_M)) : (rdF d F c ∧ ∃ a', rd64 d F M a' c (qS d) ∧ (fun (a1 x3 : Int32) (M2 : pm_M) (x4 : Int32) => pm_loop (fun _ _ _ => none) (fun (g5 : Int32 → Int32 → pm_M → Option (Int32 × pm_M)) x7 x8 M6 => if (M6.1 49 1) ≤ x8 then (if x7 ≤ 0 then (pm_lt ((x3 + (1 : Int32))) fun x9 => g1 x9 M6) else (some ((0 : Int32), M6))) else (if pm_in ((((40 : Int32) * a1) + ((M6.1 49 1) * x3)) + x8) 160 then (pm_lt ((M6.2 80 ((((40 : Int32) * a1) + ((M6.1 49 1) * x3)) + x8).toNatClampNeg)) fun x10 => pm_bd (sR_in x10 (0 : Int64) (x7.toInt64) M6) fun v12 M11 => if v12 = 0 then (some ((0 : Int32), M11)) else (pm_jn (fun (M14 : pm_M) => if pm_in (((5 : Int32) * x3) + x8) 10 then (pm_lt (pm_sI M14 64 (((5 : Int32) * x3) + x8).toNatClampNeg (x10.toInt32)) fun M15 => pm_lt ((x7 - x10.toInt32)) fun x16 => pm_lt ((x8 + (1 : Int32))) fun x17 => g5 x16 x17 M15) else none) fun (j13 : pm_M → Option (Int32 × pm_M)) => if (lg_cmp x10 (0 : Int64)) ≤ 0 then (j13 M11) else (if pm_in (((5 : Int32) * x3) + x8) 10 then (if ¬ (lg_cmp (M11.2 60 (((5 : Int32) * x3) + x8).toNatClampNeg) (0 : Int64)) = 0 then (j13 M11) else (some ((0 : Int32), M11))) else none))) else none)) 1000000 x4 (0 : Int32) M2) (nI j) (nI c) a (nI (qP d c)) = g1 (nI (c + 1)) a') ∨ (¬ rdF d F c ∧ ∃ a', rd64 d F M a' 0 0 ∧ (fun (a1 x3 : Int32) (M2 : pm_M) (x4 : Int32) => pm_loop (fun _ _ _ => none) (fun (g5 : Int32 → Int32 → pm_M → Option (Int32 × pm_M)) x7 x8 M6 => if (M6.1 49 1) ≤ x8 then (if x7 ≤ 0 then (pm_lt ((x3 + (1 : Int32))) fun x9 => g1 x9 M6) else (some ((0 : Int32), M6))) else (if pm_in ((((40 : Int32) * a1) + ((M6.1 49 1) * x3)) + x8) 160 then (pm_lt ((M6.2 80 ((((40 : Int32) * a1) + ((M6.1 49 1) * x3)) + x8).toNatClampNeg)) fun x10 => pm_bd (sR_in x10 (0 : Int64) (x7.toInt64) M6) fun v12 M11 => if v12 = 0 then (some ((0 : Int32), M11)) else (pm_jn (fun (M14 : pm_M) => if pm_in (((5 : Int32) * x3) + x8) 10 then (pm_lt (pm_sI M14 64 (((5 : Int32) * x3) + x8).toNatClampNeg (x10.toInt32)) fun M15 => pm_lt ((x7 - x10.toInt32)) fun x16 => pm_lt ((x8 + (1 : Int32))) fun x17 => g5 x16 x17 M15) else none) fun (j13 : pm_M → Option (Int32 × pm_M)) => if (lg_cmp x10 (0 : Int64)) ≤ 0 then (j13 M11) else (if pm_in (((5 : Int32) * x3) + x8) 10 then (if ¬ (lg_cmp (M11.2 60 (((5 : Int32) * x3) + x8).toNatClampNeg) (0 : Int64)) = 0 then (j13 M11) else (some ((0 : Int32), M11))) else none))) else none)) 1000000 x4 (0 : Int32) M2) (nI j) (nI c) a (nI (qP d c)) = some ((0 : Int32), a')) := by
  have hS := hd.1
  have hP := hd.2.2.2.2.2.1 c
  dsimp only
  refine q_fx (fun r => (rdF d F c ∧ ∃ a', rd64 d F M a' c (qS d) ∧ r = g1 (nI (c + 1)) a') ∨ (¬ rdF d F c ∧ ∃ a', rd64 d F M a' 0 0 ∧ r = some ((0 : Int32), a'))) (fun i a (g : Int32 → Int32 → pm_M → Option (Int32 × pm_M)) => g (nI (qP d c - qsu (rdS d F) c i)) (nI i) a) (fun i a => rd64 d F M a c i ∧ (∀ j, j < i → rdO d F c j) ∧ qsu (rdS d F) c i ≤ qP d c) (qS d) ?_ ?_ (n := 1000000) (a := a) (by omega) ⟨ha, fun j hj => absurd hj (Nat.not_lt_zero j), Nat.zero_le _⟩
  · rintro i a hi ⟨⟨a1, a2, a3⟩, ho, hq⟩ g
    have hb : qS d * c + i < 40 := by have : qS d * c ≤ 5 * 1 := Nat.mul_le_mul hS (by omega); omega
    have hin160 : pm_in (nI (40 * j + (qS d * c + i))) 160 := by
      rw [nI_in_iff (by omega)]
      omega
    have hin10 : pm_in (nI (5 * c + i)) 10 := by rw [nI_in_iff (by omega)]; omega
    rw [a2 49 (by decide), hR.1, if_neg (by rw [nI_le_iff (by omega) (by omega)]; omega), nI_mul, q40, qI_add, Nat.add_assoc, if_pos hin160, nI_cl _ (by omega), a1, hF _ hb, q_lt, R_in, q_bd]
    have hat := rdS_at d F c (show i < 5 by omega)
    have hs1 : qsu (rdS d F) c (i + 1) = qsu (rdS d F) c i + rdS d F (5 * c + i) := qsu_s _ _ _
    have hbad : ¬ rdO d F c i → ∃ a', rd64 d F M a' 0 0 ∧ some ((0 : Int32), a) = some ((0 : Int32), a') := fun _ => ⟨a, ⟨a1, a2, fun c' i' _ h => absurd h (by omega)⟩, rfl⟩
    rcases it3 (F (qS d * c + i)) (show qP d c - qsu (rdS d F) c i ≤ 8 by omega) with v1 | ⟨v1, v2, v3⟩ | ⟨m, m1, m2, m3⟩
    · have hno : ¬ rdO d F c i := fun q => by
        have := q.1
        rw [Int64.lt_iff_toInt_lt, Int64.toInt_zero] at v1
        omega
      left; right
      rw [b2i_f (fun q => absurd v1 (Int64.not_lt.mpr q.1)), if_pos rfl]
      exact ⟨fun q => hno (q.1 i hi), hbad hno⟩
    · have hno : ¬ rdO d F c i := fun q => by
        have := q.2.1
        omega
      left; right
      rw [nI_toL (by omega), b2i_f (fun q => v2 q.2), if_pos rfl]
      exact ⟨fun q => hno (q.1 i hi), hbad hno⟩
    · have hn0 : 0 ≤ nL m := by
        rw [Int64.le_iff_toInt_le, nL_toInt (by omega), Int64.toInt_zero]
        omega
      have hle : nL m ≤ nL (qP d c - qsu (rdS d F) c i) := by
        rw [Int64.le_iff_toInt_le, nL_toInt (by omega), nL_toInt (by omega)]
        omega
      have hm : rdS d F (5 * c + i) = m := by rw [hat, m3]; rfl
      rw [m2, nI_toL (by omega), b2i_t ⟨hn0, hle⟩, if_neg (by decide)]
      simp only [cmp_lt, cmp_le, cmp_eq]
      have hstep : (rdS d F (5 * c + i) = 0 ∨ qdd d c i ≠ 0) → ∀ J : pm_M → Option (Int32 × pm_M), J = (fun (M14 : pm_M) => if pm_in (((5 : Int32) * nI c) + nI i) 10 then (pm_lt (pm_sI M14 64 (((5 : Int32) * nI c) + nI i).toNatClampNeg ((nL m).toInt32)) fun M15 => pm_lt ((nI (qP d c - qsu (rdS d F) c i) - (nL m).toInt32)) fun x16 => pm_lt ((nI i + (1 : Int32))) fun x17 => g x16 x17 M15) else none) → ∃ a', (rd64 d F M a' c (i + 1) ∧ (∀ j, j < i + 1 → rdO d F c j) ∧ qsu (rdS d F) c (i + 1) ≤ qP d c) ∧ J a = g (nI (qP d c - qsu (rdS d F) c (i + 1))) (nI (i + 1)) a' := by
        intro hz J hJ
        refine ⟨pm_sI a 64 (5 * c + i) (nI m), ⟨⟨a1, fun b hb => by rw [sI_1, if_neg hb, a2 b hb], fun c' i' hi' h => ?_⟩, fun j hj => ?_, by omega⟩, ?_⟩
        · rw [sI_1, if_pos rfl]
          unfold upd
          by_cases z : 5 * c' + i' = 5 * c + i
          · rw [if_pos z, z, hm]
          · rw [if_neg z]
            exact a3 c' i' hi' (by omega)
        · by_cases z : j = i
          · rw [z]
            exact ⟨by rw [m3]; omega, by omega, hz⟩
          · exact ho j (by omega)
        · rw [hJ]
          dsimp only
          rw [qcs, if_pos hin10, q_lt, q_lt, q_lt, nI_cl _ (by omega), nL_32 (by omega), nI_sub (by omega), ← nI_succ, show qP d c - qsu (rdS d F) c i - m = qP d c - qsu (rdS d F) c (i + 1) by omega]
      rw [q_jn]
      by_cases z0 : m = 0
      · right
        rw [if_pos (show nL m ≤ 0 by rw [z0]; decide)]
        exact hstep (Or.inl (by rw [hm]; exact z0)) _ rfl
      · have hnle : ¬ nL m ≤ 0 := by
          rw [Int64.le_iff_toInt_le, nL_toInt (by omega), Int64.toInt_zero]
          omega
        have hvb := qdd_20 hd hs c i hc
        have hz : nL (qdd d c i) = 0 ↔ qdd d c i = 0 := by
          constructor
          · intro q
            have := nL_toInt (show qdd d c i < 2 ^ 63 by omega)
            rw [q, Int64.toInt_zero] at this
            omega
          · intro q
            rw [q]
            rfl
        have e60 : a.2 60 (5 * c + i) = nL (qdd d c i) := by rw [a1]; exact hD c i hc (by omega)
        have e60' : a.2 60 (((5 : Int32) * nI c) + nI i).toNatClampNeg = nL (qdd d c i) := by rw [qcs, nI_cl _ (by omega)]; exact e60
        rw [if_neg hnle, if_pos (show pm_in (((5 : Int32) * nI c) + nI i) 10 by rw [qcs]; exact hin10)]
        by_cases w : qdd d c i = 0
        · have hno : ¬ rdO d F c i := fun q => by
            rcases q.2.2 with q | q
            · omega
            · exact q w
          left; right
          rw [if_neg (show ¬ ¬ a.2 60 (((5 : Int32) * nI c) + nI i).toNatClampNeg = 0 from fun q => q (e60'.trans (hz.mpr w)))]
          exact ⟨fun q => hno (q.1 i hi), hbad hno⟩
        · right
          rw [if_pos (show ¬ a.2 60 (((5 : Int32) * nI c) + nI i).toNatClampNeg = 0 from fun q => w (hz.mp (e60'.symm.trans q)))]
          exact hstep (Or.inr w) _ rfl
  · rintro a ⟨⟨a1, a2, a3⟩, ho, hq⟩ g
    rw [a2 49 (by decide), hR.1, if_pos (Int32.le_refl _)]
    by_cases z : qsu (rdS d F) c (qS d) = qP d c
    · left
      rw [if_pos (show nI (qP d c - qsu (rdS d F) c (qS d)) ≤ 0 by rw [z, Nat.sub_self]; decide), q_lt, ← nI_succ]
      exact ⟨⟨ho, z⟩, a, ⟨a1, a2, a3⟩, rfl⟩
    · right
      rw [if_neg (fun q => by rw [q0, nI_le_iff (by omega) (by omega)] at q; omega)]
      exact ⟨fun q => z q.2, a, ⟨a1, a2, fun c' i' _ h => absurd h (by omega)⟩, rfl⟩
theorem R_read {d : qD} {M : pm_M} (hd : qOK d) (hsn : qsnd d) (hR : qR M d) (hD : ∀ c s, c < 2 → s < 5 → M.2 60 (5 * c + s) = nL (qdd d c s)) {j : Nat} (hj : j < 4) {F : Nat → Int64} (hF : ∀ x, x < 40 → M.2 80 (40 * j + x) = F x) : ∃ M', sR_readsState (nI j) M = some (q2i (rdA d F (M.1 79 j)), M') ∧ M'.2 = M.2 ∧ (∀ b, b ≠ 64 → M'.1 b = M.1 b) ∧ (rdA d F (M.1 79 j) → ∀ c s, c < 2 → s < qS d → M'.1 64 (5 * c + s) = nI (rdS d F (5 * c + s))) := by
  have hS := hd.1
  have hin : pm_in (nI j) 4 := by rw [nI_in_iff (by omega)]; exact hj
  unfold sR_readsState
  rw [if_pos hin, nI_cl j (by omega), hR.1, show (2 : Int32) * nI (qS d) = nI (2 * qS d) by rw [q2, nI_mul]]
  by_cases hn : M.1 79 j = nI (2 * qS d)
  case neg =>
    rw [if_neg hn]
    exact ⟨M, by rw [q2i_f (fun q => hn q.1)], rfl, fun _ _ => rfl, fun q => absurd q.1 hn⟩
  rw [if_pos hn]
  refine q_fx (fun r => ∃ M', r = some (q2i (rdA d F (M.1 79 j)), M') ∧ M'.2 = M.2 ∧ (∀ b, b ≠ 64 → M'.1 b = M.1 b) ∧ (rdA d F (M.1 79 j) → ∀ c s, c < 2 → s < qS d → M'.1 64 (5 * c + s) = nI (rdS d F (5 * c + s)))) (fun c a (g : Int32 → pm_M → Option (Int32 × pm_M)) => g (nI c) a) (fun c a => rd64 d F M a c 0 ∧ ∀ c', c' < c → rdF d F c') 2 ?_ ?_ (n := 1000000) (a := M) (by omega) ⟨⟨rfl, fun _ _ => rfl, fun c' i' _ h => absurd h (by omega)⟩, fun c' h => absurd h (Nat.not_lt_zero c')⟩
  · rintro c a hc ⟨ha, hf⟩ g
    have e5 : a.1 53 c = nI (qP d c) := by rw [ha.2.1 53 (by decide), hR.2.2.2.2.1]
    rw [if_neg (by rw [q2, nI_le_iff (by omega) (by omega)]; omega), if_pos (by rw [nI_in_iff (by omega)]; exact hc), q_lt, nI_cl c (by omega), e5]
    rcases R_rd_in hd hsn hR hD hj hF hc ha g with ⟨h1, a', h2, h3⟩ | ⟨h1, a', h2, h3⟩
    · right
      refine ⟨a', ⟨⟨h2.1, h2.2.1, fun c' i' hi' h => h2.2.2 c' i' hi' (by omega)⟩, fun c' hc' => ?_⟩, h3⟩
      by_cases q : c' = c
      · rw [q]; exact h1
      · exact hf c' (by omega)
    · left
      have hno : ¬ rdA d F (M.1 79 j) := fun q => by
        rcases (show c = 0 ∨ c = 1 by omega) with rfl | rfl
        · exact h1 q.2.1
        · exact h1 q.2.2
      exact ⟨a', by rw [q2i_f hno]; exact h3, h2.1, h2.2.1, fun q => absurd q hno⟩
  · rintro a ⟨ha, hf⟩ g
    rw [if_pos (by decide)]
    exact ⟨a, by rw [q2i_t ⟨hn, hf 0 (by omega), hf 1 (by omega)⟩], ha.1, ha.2.1, fun _ c s hc hs => ha.2.2 c s hs (by omega)⟩
