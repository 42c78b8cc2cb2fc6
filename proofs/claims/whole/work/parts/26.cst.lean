/-! CONSTANTS: factorials, choices, powers, heaps -/
def qfa : Nat → Nat
  | 0 => 1
  | n + 1 => (n + 1) * qfa n
def qch : Nat → Nat → Nat
  | _, 0 => 1
  | 0, _ + 1 => 0
  | n + 1, k + 1 => qch n k + qch n (k + 1)
def qhp (D : Nat → Nat → Nat) (K : Nat → Nat) (s a b : Nat) : Nat := D 0 s ^ a * D 1 s ^ b * (if K s = 3 then 1 else qfa (a + b))
/-- the sum of the first n -/
def qsm (f : Nat → Nat) : Nat → Nat
  | 0 => 0
  | n + 1 => qsm f n + f n
def qws2 (D : Nat → Nat → Nat) (K : Nat → Nat) (T : Nat → Nat → Nat) (s x y a b : Nat) : Nat := qch x a * qch y b * qhp D K s a b * T (x - a) (y - b)
def qgw (D : Nat → Nat → Nat) (K : Nat → Nat) (T : Nat → Nat → Nat) (s x y : Nat) : Nat := qsm (fun a => qsm (fun b => qws2 D K T s x y a b) (y + 1)) (x + 1)
def qcn (D : Nat → Nat → Nat) (K : Nat → Nat) (z : Nat) : Nat → Nat → Nat → Nat
  | 0 => fun x y => if x = 0 ∧ y = 0 then 1 else 0
  | m + 1 => fun x y => if m = z then qcn D K z m x y else qgw D K (qcn D K z m) m x y
theorem bi_fa : ∀ k, k < 9 → pm_FA k = nL (qfa k) := by decide +kernel
theorem bi_ch : ∀ n, n < 7 → ∀ k, k < n + 1 → pm_CH (7 * n + k) = nL (qch n k) := by decide +kernel
theorem bi_fd : ∀ n, n < 9 → ∀ k, k < n + 1 → qfa n / qfa k / qfa (n - k) = qch n k := by decide +kernel
theorem bi_fl : ∀ k, k < 9 → 0 < qfa k ∧ qfa k ≤ 40320 := by decide +kernel
theorem C_factorial {n : Nat} (h : n ≤ 8) (M : pm_M) : sC_factorial (nI n) M = some (nL (qfa n), M) := by
  unfold sC_factorial
  rw [if_neg (nI_nneg (by omega)), if_neg (by rw [q9, nI_le_iff (by omega) (by omega)]; omega), if_pos (by rw [nI_in_iff (by omega)]; omega), nI_clamp (by omega), bi_fa n (by omega)]
theorem C_choose {n k : Nat} (h : n ≤ 6) (hk : k ≤ n) (M : pm_M) : sC_choose (nI n) (nI k) M = some (nL (qch n k), M) := by
  unfold sC_choose
  have e : nI n * 7 + nI k = nI (7 * n + k) := by rw [show (7 : Int32) = nI 7 from rfl, nI_mul, qI_add, Nat.mul_comm]
  rw [if_neg (nI_nneg (by omega)), if_neg (by rw [q6, nI_lt_iff (by omega) (by omega)]; omega), if_neg (nI_nneg (by omega)), if_pos (by rw [nI_le_iff (by omega) (by omega)]; exact hk), e, if_pos (by rw [nI_in_iff (by omega)]; omega), nI_clamp (by omega), bi_ch n (by omega) k (by omega)]
theorem C_power (v n : Nat) (hn : n < 1000000) (M : pm_M) : sC_power (nL v) (nI n) M = some (nL (v ^ n), M) := by
  unfold sC_power
  refine q_for (fun i (g : Int64 → Int32 → pm_M → Option (Int64 × pm_M)) => g (nL (v ^ i)) (nI i) M) (N := n) ?_ ?_ hn
  · intro i hi g
    rw [if_neg (by rw [nI_le_iff (by omega) (by omega)]; omega), q_lt, q_lt, nL_mul, ← nI_succ, Nat.pow_succ]
  · intro g
    rw [if_pos (Int32.le_refl _)]
theorem R_power (v n : Nat) (hn : n < 1000000) (M : pm_M) : sR_power (nL v) (nI n) M = some (nL (v ^ n), M) := C_power v n hn M
/-- the reference's row of factorials -/
def qFa (M : pm_M) : Prop := ∀ k, k ≤ 8 → M.2 61 k = nL (qfa k)
theorem R_choose {M : pm_M} (hf : qFa M) {n k : Nat} (h : n ≤ 8) (hk : k ≤ n) : sR_choose (nI n) (nI k) M = some (nL (qch n k), M) := by
  have h1 : pm_in (nI n) 9 := by rw [nI_in_iff (by omega)]; omega
  have h2 : pm_in (nI k) 9 := by rw [nI_in_iff (by omega)]; omega
  have h3 : pm_in (nI (n - k)) 9 := by rw [nI_in_iff (by omega)]; omega
  have c1 : (nI n).toNatClampNeg = n := nI_clamp (by omega)
  have c2 : (nI k).toNatClampNeg = k := nI_clamp (by omega)
  have c3 : (nI (n - k)).toNatClampNeg = n - k := nI_clamp (by omega)
  have z1 := bi_fl n (by omega)
  have z2 := bi_fl k (by omega)
  have z3 := bi_fl (n - k) (by omega)
  have l1 : qfa n / qfa k ≤ qfa n := Nat.div_le_self _ _
  have d1 : ¬ nL (qfa k) = 0 := by rw [nL_0 (by omega)]; omega
  have d2 : ¬ nL (qfa (n - k)) = 0 := by rw [nL_0 (by omega)]; omega
  unfold sR_choose
  simp only [nI_sub hk, eq_true h1, eq_true h2, eq_true h3, c1, c2, c3, if_true, hf n h, hf k (by omega), hf (n - k) (by omega)]
  rw [if_pos d1, if_pos d2, nL_div (by omega) (by omega) (by omega), nL_div (by omega) (by omega) (by omega), bi_fd n (by omega) k (by omega)]
theorem q5s (s : Nat) : (5 : Int32) + nI s = nI (5 + s) := by rw [q5, qI_add]
theorem R_heap {d : qD} {M : pm_M} (hd : qOK d) (h : qR M d) (hf : qFa M) {D : Nat → Nat → Nat} {s a b : Nat} (hs : s < 5) (hD : ∀ c, c < 2 → M.2 60 (5 * c + s) = nL (D c s)) (hab : a + b ≤ 8) : sR_heap (nI s) (nI a) (nI b) M = some (nL (qhp D (qK d) s a b), M) := by
  have hK := hd.2.1 s
  have h1 : pm_in (nI s) 10 := by rw [nI_in_iff (by omega)]; omega
  have h2 : pm_in (nI (5 + s)) 10 := by rw [nI_in_iff (by omega)]; omega
  have h3 : pm_in (nI s) 5 := by rw [nI_in_iff (by omega)]; omega
  have h4 : pm_in (nI (a + b)) 9 := by rw [nI_in_iff (by omega)]; omega
  have c1 : (nI s).toNatClampNeg = s := nI_clamp (by omega)
  have c2 : (nI (5 + s)).toNatClampNeg = 5 + s := nI_clamp (by omega)
  have c3 : (nI (a + b)).toNatClampNeg = a + b := nI_clamp (by omega)
  have e0 : M.2 60 s = nL (D 0 s) := by have := hD 0 (by omega); rwa [Nat.mul_zero, Nat.zero_add] at this
  have e1 : M.2 60 (5 + s) = nL (D 1 s) := hD 1 (by omega)
  have ek : nI (qK d s) = 3 ↔ qK d s = 3 := by rw [q3, nI_inj (by omega) (by omega)]
  unfold sR_heap
  simp only [q5s, qI_add, eq_true h1, eq_true h2, eq_true h3, eq_true h4, c1, c2, c3, if_true]
  rw [e0, R_power _ _ (by omega), q_bd, e1, R_power _ _ (by omega), q_bd, h.2.1, hf _ hab, nL_mul]
  unfold qhp
  by_cases k : qK d s = 3
  · rw [if_neg (fun q => q (ek.mpr k)), if_pos k, Nat.mul_one, show (1 : Int64) = nL 1 from rfl, nL_mul, Nat.mul_one]
  · rw [if_pos (fun q => k (ek.mp q)), if_neg k, nL_mul]
theorem States_factorOf {d : qD} {M : pm_M} (hd : qOK d) {D : Nat → Nat → Nat} (h : qSt M d D) {s a b : Nat} (hs : s < qS d) (hab : a + b ≤ 8) : sStates_factorOf (nI s) (nI a) (nI b) M = some (nL (qhp D (qK d) s a b), M) := by
  have hS := hd.1
  have h1 : pm_in (nI s) 10 := by rw [nI_in_iff (by omega)]; omega
  have h2 : pm_in (nI (5 + s)) 10 := by rw [nI_in_iff (by omega)]; omega
  have h3 : pm_in (nI s) 5 := by rw [nI_in_iff (by omega)]; omega
  have c1 : (nI s).toNatClampNeg = s := nI_clamp (by omega)
  have c2 : (nI (5 + s)).toNatClampNeg = 5 + s := nI_clamp (by omega)
  have e0 : M.2 25 s = nL (D 0 s) := by have := h.2.2.2.2 0 s (by omega) hs; rwa [Nat.mul_zero, Nat.zero_add] at this
  have e1 : M.2 25 (5 + s) = nL (D 1 s) := h.2.2.2.2 1 s (by omega) hs
  unfold sStates_factorOf
  simp only [q5s, qI_add, eq_true h1, eq_true h2, eq_true h3, c1, c2, if_true]
  rw [e0, C_power _ _ (by omega), q_bd, e1, C_power _ _ (by omega), q_bd, q_lt, h.2.2.2.1 s hs, nL_mul]
  unfold qhp
  by_cases k : qK d s = 3
  · rw [if_pos k, b2i_t k, if_neg (by decide), Nat.mul_one]
  · rw [if_neg k, b2i_f k, if_pos rfl, C_factorial hab, q_bd, nL_mul]
/-- no more than rows of longs have changed -/
def qfL (l : List Nat) (M M' : pm_M) : Prop := M'.1 = M.1 ∧ ∀ b, b ∉ l → M'.2 b = M.2 b
theorem qfL_rf {l : List Nat} {M : pm_M} : qfL l M M := ⟨rfl, fun _ _ => rfl⟩
theorem qfL_tr {l : List Nat} {M M1 M2 : pm_M} (h1 : qfL l M M1) (h2 : qfL l M1 M2) : qfL l M M2 := ⟨h2.1.trans h1.1, fun b hb => (h2.2 b hb).trans (h1.2 b hb)⟩
theorem qfL_sub {l l' : List Nat} {M M' : pm_M} (h : qfL l M M') (hl : ∀ x ∈ l, x ∈ l') : qfL l' M M' := ⟨h.1, fun b hb => h.2 b (fun q => hb (hl b q))⟩
theorem qfL_u {l : List Nat} {M : pm_M} {a : Nat} {f : Nat → Int64} (h : a ∈ l) : qfL l M (mu_L M a f) := ⟨rfl, fun b hb => uL_0 _ _ _ _ (fun q => hb (q ▸ h))⟩
theorem qfL_s {l : List Nat} {M : pm_M} {a k : Nat} {v : Int64} (h : a ∈ l) : qfL l M (pm_sL M a k v) := by rw [sL_u]; exact qfL_u h
theorem sL_at (M : pm_M) (a k : Nat) (v : Int64) : (pm_sL M a k v).2 a k = v := by rw [sL_2, if_pos rfl, updL_at]
theorem sL_ne (M : pm_M) (a k j : Nat) (v : Int64) (h : j ≠ k) : (pm_sL M a k v).2 a j = M.2 a j := by
  rw [sL_2, if_pos rfl]
  unfold vp_updL
  rw [if_neg h]
theorem qSt_L {d : qD} {M M' : pm_M} {D : Nat → Nat → Nat} {l : List Nat} (h : qSt M d D) (e : qfL l M M') (hl : 25 ∉ l) : qSt M' d D := qSt_of h (fun k _ => by rw [e.1]) (by rw [e.1]) (e.2 25 hl)
theorem q7s (x y : Nat) : nI x * (7 : Int32) + nI y = nI (7 * x + y) := by rw [show (7 : Int32) = nI 7 from rfl, nI_mul, qI_add, Nat.mul_comm]
theorem q7s' (x y : Nat) : (7 : Int32) * nI x + nI y = nI (7 * x + y) := by rw [show (7 : Int32) = nI 7 from rfl, nI_mul, qI_add]
/-- the factors of a station are filled -/
def qTF (N : pm_M) (D : Nat → Nat → Nat) (K : Nat → Nat) (s n0 n1 : Nat) : Prop := ∀ a b, a ≤ n0 → b ≤ n1 → N.2 27 (7 * a + b) = nL (qhp D K s a b)
theorem States_fillFactors {d : qD} {M : pm_M} (hd : qOK d) {D : Nat → Nat → Nat} (h : qSt M d D) {s n0 n1 : Nat} (hs : s < qS d) (h0 : n0 ≤ 6) (h1 : n1 ≤ 6) (h8 : n0 + n1 ≤ 8) : ∃ M', sStates_fillFactors (nI s) (nI n0) (nI n1) M = some M' ∧ qfL [27] M M' ∧ qTF M' D (qK d) s n0 n1 := by
  unfold sStates_fillFactors
  refine q_fz (fun o => ∃ M', o = some M' ∧ qfL [27] M M' ∧ qTF M' D (qK d) s n0 n1) (fun i N (g : Int32 → pm_M → Option pm_M) => g (nI i) N) (fun i N => qfL [27] M N ∧ ∀ a b, a < i → b ≤ n1 → N.2 27 (7 * a + b) = nL (qhp D (qK d) s a b)) (n0 + 1) ?_ ?_ (by omega) ⟨qfL_rf, fun a b ha => absurd ha (Nat.not_lt_zero a)⟩
  · rintro i N hi ⟨n1', n2⟩ g
    rw [if_neg (by rw [nI_lt_iff (by omega) (by omega)]; omega)]
    refine q_fz (fun o => ∃ a', (qfL [27] M a' ∧ ∀ a b, a < i + 1 → b ≤ n1 → a'.2 27 (7 * a + b) = nL (qhp D (qK d) s a b)) ∧ o = g (nI (i + 1)) a') (fun j L (g : Int32 → pm_M → Option pm_M) => g (nI j) L) (fun j L => qfL [27] M L ∧ (∀ a b, a < i → b ≤ n1 → L.2 27 (7 * a + b) = nL (qhp D (qK d) s a b)) ∧ ∀ b, b < j → L.2 27 (7 * i + b) = nL (qhp D (qK d) s i b)) (n1 + 1) ?_ ?_ (by omega) ⟨n1', n2, fun b hb => absurd hb (Nat.not_lt_zero b)⟩
    · rintro j L hj ⟨l1, l2, l3⟩ g4
      have hin : pm_in (nI (7 * i + j)) 49 := by rw [nI_in_iff (by omega)]; omega
      have hck : (nI (7 * i + j)).toNatClampNeg = 7 * i + j := nI_clamp (by omega)
      rw [if_neg (by rw [nI_lt_iff (by omega) (by omega)]; omega), States_factorOf hd (qSt_L h l1 (by decide)) hs (by omega), q_bd, q7s, if_pos hin, hck, q_lt, q_lt, ← nI_succ]
      refine ⟨_, ?_, rfl⟩
      refine ⟨qfL_tr l1 (qfL_s (by decide)), fun a b ha hb => ?_, fun b hb => ?_⟩
      · rw [sL_ne _ _ _ _ _ (by omega)]
        exact l2 a b ha hb
      · by_cases q : b = j
        · rw [q, sL_at]
        · rw [sL_ne _ _ _ _ _ (by omega)]
          exact l3 b (by omega)
    · rintro L ⟨l1, l2, l3⟩ g4
      rw [if_pos (by rw [nI_lt_iff (by omega) (by omega)]; omega), q_lt, ← nI_succ]
      refine ⟨L, ⟨l1, fun a b ha hb => ?_⟩, rfl⟩
      by_cases q : a = i
      · rw [q]; exact l3 b (by omega)
      · exact l2 a b (by omega) hb
  · rintro N ⟨n1', n2⟩ g
    rw [if_pos (by rw [nI_lt_iff (by omega) (by omega)]; omega)]
    exact ⟨N, rfl, n1', fun a b ha hb => n2 a b (by omega) hb⟩
theorem nL_mul0 {a b : Nat} (h : nL b = 0) : nL (a * b) = 0 := by rw [← nL_mul, h, Int64.mul_zero]
theorem States_waysTimes {N : pm_M} {D : Nat → Nat → Nat} {K : Nat → Nat} {T : Nat → Nat → Nat} {s x y a b : Nat} (hx : x ≤ 6) (hy : y ≤ 6) (ha : a ≤ x) (hb : b ≤ y) (hF : N.2 27 (7 * a + b) = nL (qhp D K s a b)) (hT : N.2 26 (7 * (x - a) + (y - b)) = nL (T (x - a) (y - b))) : sStates_waysTimes (nI x) (nI y) (nI a) (nI b) N = some (nL (qws2 D K T s x y a b), N) := by
  have e : (nI x - nI a) * (7 : Int32) + nI y - nI b = nI (7 * (x - a) + (y - b)) := by
    rw [nI_sub ha, q7s, nI_sub (by omega)]
    congr 1
    omega
  have h1 : pm_in (nI (7 * (x - a) + (y - b))) 49 := by rw [nI_in_iff (by omega)]; omega
  have h2 : pm_in (nI (7 * a + b)) 49 := by rw [nI_in_iff (by omega)]; omega
  have c1 : (nI (7 * (x - a) + (y - b))).toNatClampNeg = 7 * (x - a) + (y - b) := nI_clamp (by omega)
  have c2 : (nI (7 * a + b)).toNatClampNeg = 7 * a + b := nI_clamp (by omega)
  unfold sStates_waysTimes
  simp only [e, q7s, eq_true h1, eq_true h2, c1, c2, if_true]
  rw [q_lt, hT]
  unfold qws2
  by_cases z : nL (T (x - a) (y - b)) = 0
  · rw [if_neg (fun q => q ((cmp_eq _ _).mpr z)), nL_mul0 z]
  · rw [if_pos (fun q => z ((cmp_eq _ _).mp q)), C_choose hx ha, q_bd, C_choose hy hb, q_bd, hF, nL_mul, nL_mul, nL_mul]
/-- a loop that comes through the states N .. 0 -/
theorem q_dz {α β ρ : Type} {bot : β} {F : β → β} (Z : Option ρ → Prop) (ap : Nat → α → β → Option ρ) (P : Nat → α → Prop) (hs : ∀ j a, P (j + 1) a → ∀ g, ∃ a', P j a' ∧ ap (j + 1) a (F g) = ap j a' g) (he : ∀ a, P 0 a → ∀ g, Z (ap 0 a (F g))) : ∀ {N n : Nat} {a : α}, N < n → P N a → Z (ap N a (pm_loop bot F n))
  | 0, 0, _, h, _ => by omega
  | 0, n + 1, a, _, h0 => by
    rw [q_lp]
    exact he a h0 _
  | N + 1, 0, _, h, _ => by omega
  | N + 1, n + 1, a, hn, h0 => by
    rw [q_lp]
    obtain ⟨a', h1, h2⟩ := hs N a h0 (pm_loop bot F n)
    rw [h2]
    exact q_dz Z ap P hs he (by omega) h1
theorem hI_dn {j : Nat} (h : j < 100) : hI (j + 1) + (-1 : Int32) = hI j := by
  cases j with
  | zero => rfl
  | succ k =>
    show nI (k + 1) + (-1 : Int32) = nI k
    rw [nI_succ, show (-1 : Int32) = -(1 : Int32) from rfl, ← Int32.sub_eq_add_neg, Int32.add_sub_cancel]
theorem States_addStation {M : pm_M} {D : Nat → Nat → Nat} {K : Nat → Nat} {T : Nat → Nat → Nat} {s n0 n1 : Nat} (h0 : n0 ≤ 6) (h1 : n1 ≤ 6) (hF : qTF M D K s n0 n1) (hT : ∀ x y, x ≤ n0 → y ≤ n1 → M.2 26 (7 * x + y) = nL (T x y)) : ∃ M', sStates_addStation (nI n0) (nI n1) M = some M' ∧ qfL [26] M M' ∧ ∀ x y, x ≤ n0 → y ≤ n1 → M'.2 26 (7 * x + y) = nL (qgw D K T s x y) := by
  unfold sStates_addStation
  refine q_dz (fun o => ∃ M', o = some M' ∧ qfL [26] M M' ∧ ∀ x y, x ≤ n0 → y ≤ n1 → M'.2 26 (7 * x + y) = nL (qgw D K T s x y)) (fun j N (g : Int32 → pm_M → Option pm_M) => g (hI j) N) (fun j N => j ≤ n0 + 1 ∧ qfL [26] M N ∧ (∀ x y, x < j → y ≤ n1 → N.2 26 (7 * x + y) = nL (T x y)) ∧ ∀ x y, j ≤ x → x ≤ n0 → y ≤ n1 → N.2 26 (7 * x + y) = nL (qgw D K T s x y)) ?_ ?_ (N := n0 + 1) (by omega) ⟨Nat.le_refl _, qfL_rf, fun x y hx hy => hT x y (by omega) hy, fun x y hx hx2 => absurd hx (by omega)⟩
  · rintro x N ⟨hj, m1, m2, m3⟩ g
    have hx0 : x ≤ 6 := by omega
    rw [show hI (x + 1) = nI x from rfl, if_neg (nI_nneg (by omega))]
    refine q_dz (fun o => ∃ a', (x ≤ n0 + 1 ∧ qfL [26] M a' ∧ (∀ x' y, x' < x → y ≤ n1 → a'.2 26 (7 * x' + y) = nL (T x' y)) ∧ ∀ x' y, x ≤ x' → x' ≤ n0 → y ≤ n1 → a'.2 26 (7 * x' + y) = nL (qgw D K T s x' y)) ∧ o = g (hI x) a') (fun j L (g : Int32 → pm_M → Option pm_M) => g (hI j) L) (fun j L => j ≤ n1 + 1 ∧ qfL [26] M L ∧ (∀ x' y, x' < x ∨ (x' = x ∧ y < j) → y ≤ n1 → L.2 26 (7 * x' + y) = nL (T x' y)) ∧ ∀ x' y, x < x' ∨ (x' = x ∧ j ≤ y) → x' ≤ n0 → y ≤ n1 → L.2 26 (7 * x' + y) = nL (qgw D K T s x' y)) ?_ ?_ (N := n1 + 1) (by omega) ⟨Nat.le_refl _, m1, fun x' y hx hy => m2 x' y (by omega) hy, fun x' y hx hx2 hy => m3 x' y (by omega) hx2 hy⟩
    · rintro y L ⟨hjy, l1, l2, l3⟩ g4
      have hy0 : y ≤ 6 := by omega
      have hin : pm_in (nI (7 * x + y)) 49 := by rw [nI_in_iff (by omega)]; omega
      have hck : (nI (7 * x + y)).toNatClampNeg = 7 * x + y := nI_clamp (by omega)
      rw [show hI (y + 1) = nI y from rfl, if_neg (nI_nneg (by omega))]
      refine ⟨pm_sL L 26 (7 * x + y) (nL (qgw D K T s x y)), ⟨by omega, qfL_tr l1 (qfL_s (by decide)), fun x' y' hx hy => ?_, fun x' y' hx hx2 hy => ?_⟩, ?_⟩
      · rw [sL_ne _ _ _ _ _ (by omega)]
        exact l2 x' y' (by omega) hy
      · by_cases q : x' = x ∧ y' = y
        · rw [q.1, q.2, sL_at]
        · rw [sL_ne _ _ _ _ _ (by omega)]
          exact l3 x' y' (by omega) hx2 hy
      · refine q_for (fun a (g : Int64 → Int32 → pm_M → Option pm_M) => g (nL (qsm (fun a => qsm (fun b => qws2 D K T s x y a b) (y + 1)) a)) (nI a) L) (N := x + 1) ?_ ?_ (by omega)
        · intro a ha g8
          rw [if_neg (by rw [nI_lt_iff (by omega) (by omega)]; omega)]
          rw [show qsm (fun a => qsm (fun b => qws2 D K T s x y a b) (y + 1)) (a + 1) = qsm (fun a => qsm (fun b => qws2 D K T s x y a b) (y + 1)) a + qsm (fun b => qws2 D K T s x y a b) (y + 1) from rfl]
          generalize qsm (fun a => qsm (fun b => qws2 D K T s x y a b) (y + 1)) a = S0
          rw [show nL S0 = nL (S0 + qsm (fun b => qws2 D K T s x y a b) 0) from rfl]
          refine q_for (fun b (g : Int64 → Int32 → pm_M → Option pm_M) => g (nL (S0 + qsm (fun b => qws2 D K T s x y a b) b)) (nI b) L) (N := y + 1) ?_ ?_ (by omega)
          · intro b hb g14
            rw [if_neg (by rw [nI_lt_iff (by omega) (by omega)]; omega), States_waysTimes (D := D) (K := K) (T := T) (s := s) hx0 hy0 (by omega) (by omega) (by rw [l1.2 27 (by decide)]; exact hF a b (by omega) (by omega)) (l2 _ _ (by omega) (by omega)), q_bd, q_lt, q_lt, nL_add, ← nI_succ, Nat.add_assoc]
            rfl
          · intro g14
            rw [if_pos (by rw [nI_lt_iff (by omega) (by omega)]; omega), q_lt, ← nI_succ]
        · intro g8
          rw [if_pos (by rw [nI_lt_iff (by omega) (by omega)]; omega), q7s, if_pos hin, hck, q_lt, q_lt, show nI y + (-1 : Int32) = hI y from hI_dn (j := y) (by omega)]
          rfl
    · rintro L ⟨-, l1, l2, l3⟩ g4
      rw [show hI 0 = (-1 : Int32) from rfl, if_pos (by decide), q_lt, show nI x + (-1 : Int32) = hI x from hI_dn (j := x) (by omega)]
      exact ⟨L, ⟨by omega, l1, fun x' y hx hy => l2 x' y (Or.inl hx) hy, fun x' y hx hx2 hy => l3 x' y (by omega) hx2 hy⟩, rfl⟩
  · rintro N ⟨-, m1, m2, m3⟩ g
    rw [show hI 0 = (-1 : Int32) from rfl, if_pos (by decide)]
    exact ⟨N, rfl, m1, fun x y hx hy => m3 x y (Nat.zero_le _) hx hy⟩
