/-! SWIFT: the net with a time one less -/
def qlk (d : qD) (c s : Nat) : Nat := if qK d s = 0 then s else 5 * c + s
def qlo (d : qD) (c s : Nat) : qD := (qS d, qK d, fun k => if k = qlk d c s then qT d k - 1 else qT d k, qH d, qP d, qW d)
/-- visits hang on stations, homes and routes alone -/
theorem qws_cg {d e : qD} (hW : qW d = qW e) (c s : Nat) : ∀ t, qws d c s t = qws e c s t
  | 0 => rfl
  | t + 1 => by
    show qws d c s t + qw d c s t = qws e c s t + qw e c s t
    rw [qws_cg hW c s t]
    unfold qw
    rw [hW]
theorem qwt_cg {d e : qD} (hS : qS d = qS e) (hW : qW d = qW e) (c s : Nat) : qwt d c s = qwt e c s := by
  unfold qwt
  rw [hS, qws_cg hW]
theorem qlds_cg {d e : qD} (hW : qW d = qW e) (c s : Nat) : ∀ t, qlds d c s t = qlds e c s t
  | 0 => rfl
  | t + 1 => by
    show (if qw d c s t = 0 then qlds d c s t else qlds d c s t ||| 2 ^ t) = (if qw e c s t = 0 then qlds e c s t else qlds e c s t ||| 2 ^ t)
    rw [qlds_cg hW c s t]
    unfold qw
    rw [hW]
theorem qE_cg {d e : qD} (hS : qS d = qS e) (hW : qW d = qW e) (c s t : Nat) : qE d c s t = qE e c s t := by
  unfold qE qld
  rw [hS, qlds_cg hW]
theorem qpt_cg {d e : qD} (hS : qS d = qS e) (hW : qW d = qW e) (c : Nat) : ∀ n s t, qpt d c n s t = qpt e c n s t
  | 0, s, t => qE_cg hS hW c s t
  | n + 1, s, t => by
    show (∃ m, qE d c s m ∧ qpt d c n m t) = (∃ m, qE e c s m ∧ qpt e c n m t)
    simp only [qE_cg hS hW, qpt_cg hS hW c n]
theorem qRp_cg {d e : qD} (hS : qS d = qS e) (hW : qW d = qW e) (c s t : Nat) : qRp d c s t = qRp e c s t := by
  unfold qRp
  simp only [qpt_cg hS hW]
theorem qin_cg {d e : qD} (hS : qS d = qS e) (hH : qH d = qH e) (hW : qW d = qW e) (c t : Nat) : qin d c t = qin e c t := by
  unfold qin
  simp only [qRp_cg hS hW, hH]
theorem qgo_cg {d e : qD} (hS : qS d = qS e) (hH : qH d = qH e) (hW : qW d = qW e) (c : Nat) : qgo d c = qgo e c := by
  unfold qgo
  simp only [qRp_cg hS hW, qin_cg hS hH hW, hH]
theorem qrc_cg {d e : qD} (hS : qS d = qS e) (hH : qH d = qH e) (hW : qW d = qW e) (c : Nat) : qrc d c = qrc e c := by
  unfold qrc
  congr 1
  funext t
  exact qin_cg hS hH hW c t
theorem qen_cg {d e : qD} (hS : qS d = qS e) (hW : qW d = qW e) (c : Nat) : qen d c = qen e c := by
  funext s t
  unfold qen
  rw [qwt_cg hS hW]
  unfold qw
  rw [hW]
theorem qrw_cg {d e : qD} (hS : qS d = qS e) (hH : qH d = qH e) (hW : qW d = qW e) (c s : Nat) : qrw d c s = qrw e c s := by
  unfold qrw qtr qms
  rw [qgo_cg hS hH hW, qin_cg hS hH hW, qen_cg hS hW, qrc_cg hS hH hW, qwt_cg hS hW]
theorem qgc_cg {d e : qD} (hS : qS d = qS e) (hH : qH d = qH e) (hW : qW d = qW e) (c : Nat) : ∀ n, qgc d c n = qgc e c n
  | 0 => rfl
  | n + 1 => by
    show Nat.gcd (qgc d c n) (qrw d c n) = Nat.gcd (qgc e c n) (qrw e c n)
    rw [qgc_cg hS hH hW c n, qrw_cg hS hH hW]
theorem qlo_vi (d : qD) (c s c' s' : Nat) : qvi (qlo d c s) c' s' = qvi d c' s' := by
  unfold qvi
  rw [qrw_cg (d := qlo d c s) (e := d) rfl rfl rfl, qgc_cg (d := qlo d c s) (e := d) rfl rfl rfl]
  rfl
theorem qlo_go (d : qD) (c s c' : Nat) : qgo (qlo d c s) c' = qgo d c' := qgo_cg (d := qlo d c s) (e := d) rfl rfl rfl c'
theorem qlo_tm {d : qD} {c s c' s' : Nat} (hc : c < 2) (hc' : c' < 2) (hs : s < 5) (hs' : s' < 5) : qtm (qlo d c s) c' s' = if s' = s ∧ (c' = c ∨ qK d s = 0) then qtm d c' s' - 1 else qtm d c' s' := by
  unfold qtm
  show (if qK d s' = 0 then (if s' = qlk d c s then qT d s' - 1 else qT d s') else (if 5 * c' + s' = qlk d c s then qT d (5 * c' + s') - 1 else qT d (5 * c' + s'))) = _
  unfold qlk
  by_cases h : s' = s
  · subst h
    by_cases k : qK d s' = 0
    · rw [if_pos k, if_pos k, if_pos rfl, if_pos ⟨rfl, Or.inr k⟩, if_pos k]
    · rw [if_neg k, if_neg k, if_neg k]
      by_cases e : c' = c
      · rw [if_pos (by omega), if_pos ⟨rfl, Or.inl e⟩]
      · rw [if_neg (by omega), if_neg (fun q => q.2.elim e k)]
  · rw [if_neg (show ¬ (s' = s ∧ (c' = c ∨ qK d s = 0)) from fun q => h q.1)]
    by_cases k' : qK d s' = 0
    · rw [if_pos k', if_pos k', if_neg]
      split <;> omega
    · rw [if_neg k', if_neg k', if_neg]
      split <;> omega
theorem qlo_dd {d : qD} {c s c' s' : Nat} (hc : c < 2) (hc' : c' < 2) (hs : s < 5) (hs' : s' < 5) : qdd (qlo d c s) c' s' = if s' = s ∧ (c' = c ∨ qK d s = 0) then qdd d c' s' - qvi d c' s' else qdd d c' s' := by
  unfold qdd qde
  rw [qlo_vi, qlo_tm hc hc' hs hs']
  show (if qP d c' = 0 then _ else _) = _
  by_cases p : qP d c' = 0
  · rw [if_pos p, if_pos p, Nat.zero_sub]
    split <;> rfl
  · rw [if_neg p, if_neg p]
    by_cases h : s' = s ∧ (c' = c ∨ qK d s = 0)
    · rw [if_pos h, if_pos h, Nat.mul_sub, Nat.mul_one]
    · rw [if_neg h, if_neg h]
theorem qlo_ok {d : qD} (hd : qOK d) {c s : Nat} (hc : c < 2) (hs : s < qS d) (h2 : 2 ≤ qtm d c s) : qOK (qlo d c s) := by
  obtain ⟨h1, h3, h4, h5, h6, h7, h8, h9, h10⟩ := hd
  have hk : 2 ≤ qT d (qlk d c s) := by
    unfold qtm at h2
    unfold qlk
    by_cases k : qK d s = 0
    · rw [if_pos k] at h2 ⊢; exact h2
    · rw [if_neg k] at h2 ⊢; exact h2
  refine ⟨h1, h3, fun k => ?_, fun c' s' hc' hs' => ?_, h6, h7, h8, h9, h10⟩
  · show (if k = qlk d c s then qT d k - 1 else qT d k) ≤ 9
    have := h4 k
    split <;> omega
  · show 1 ≤ (if 5 * c' + s' = qlk d c s then qT d (5 * c' + s') - 1 else qT d (5 * c' + s'))
    by_cases k : 5 * c' + s' = qlk d c s
    · rw [if_pos k, k]; omega
    · rw [if_neg k]; exact h5 c' s' hc' hs'
theorem qlo_snd {d : qD} (hd : qOK d) (h : qsnd d) {c s : Nat} (hc : c < 2) (hs : s < qS d) : qsnd (qlo d c s) := by
  have hS := hd.1
  have key : ∀ c', c' < 2 → qft (qlo d c s) c' := by
    intro c' hc'
    rcases qsnd_c h hc' with q | q
    · exact Or.inl q
    · refine Or.inr ⟨by rw [qlo_go]; exact q.1, fun s' hs' => ?_⟩
      have h1 := q.2 s' hs'
      have hs'5 : s' < qS d := hs'
      unfold qde at h1 ⊢
      rw [qlo_vi, qlo_tm hc hc' (by omega) (by omega)]
      refine Nat.le_trans (Nat.mul_le_mul_left _ ?_) h1
      split <;> omega
  exact ⟨key 0 (by omega), key 1 (by omega)⟩
theorem iL_lt0 {z : Int} (h1 : -(2 ^ 63) ≤ z) (h2 : z < 2 ^ 63) : (0 : Int64) < iL z ↔ 0 < z := by
  rw [Int64.lt_iff_toInt_lt, iL_toInt h1 h2, Int64.toInt_zero]
theorem nL_tsub {a b : Nat} (ha : a < 2 ^ 62) (hb : b < 2 ^ 62) : (if (0 : Int64) < nL a - nL b then nL a - nL b else (0 : Int64)) = nL (a - b) := by
  have e : nL a - nL b = iL ((a : Int) - (b : Int)) := by rw [← iL_nat, ← iL_nat, iL_sub]
  rw [e]
  by_cases h : b < a
  · rw [if_pos ((iL_lt0 (by omega) (by omega)).mpr (by omega)), ← iL_nat]
    congr 1
    omega
  · rw [if_neg (fun q => by rw [iL_lt0 (by omega) (by omega)] at q; omega), show a - b = 0 by omega]
    rfl
theorem States_lessen {M : pm_M} {d : qD} {D : Nat → Nat → Nat} (h : qSt M d D) {c s v : Nat} (hc : c < 2) (hsS : s < qS d) (hS : qS d ≤ 5) (hD : D c s < 2 ^ 62) (hv : v < 2 ^ 62) : sStates_lessen (nI c) (nI s) (nL v) M = some (pm_sL M 25 (5 * c + s) (nL (D c s - v))) := by
  have hin : pm_in (nI (5 * c + s)) 10 := by rw [nI_in_iff (by omega)]; omega
  have hck : (nI (5 * c + s)).toNatClampNeg = 5 * c + s := nI_clamp (by omega)
  unfold sStates_lessen
  simp only [qcs', eq_true hin, hck, if_true, q_lt]
  rw [h.2.2.2.2 c s hc hsS, nL_tsub hD hv]
theorem C_hasten {M : pm_M} {d : qD} (hd : qOK d) (hC : qC M d) (hT : qTo M d) (hsn : qsnd d) {c s : Nat} (hc : c < 2) (hsS : s < qS d) : ∃ M', sC_hasten (nI c) (nI s) M = some M' ∧ (∀ b, b ≠ 23 → b ≠ 24 → M'.1 b = M.1 b) ∧ (∀ b, b ≠ 25 → M'.2 b = M.2 b) ∧ qSt M' (qlo d c s) (qdd (qlo d c s)) := by
  have hS := hd.1
  obtain ⟨M1, e1, f1, f2, -, t1⟩ := States_load hd hC hT
  unfold sC_hasten
  rw [e1, q_bv]
  have hin5 : pm_in (nI s) 5 := by rw [nI_in_iff (by omega)]; omega
  have hck : (nI s).toNatClampNeg = s := nI_clamp (by omega)
  have hK := hd.2.1 s
  have t1' : qSt M1 d (fun c' s' => if c' < 0 then qdd (qlo d c s) c' s' else qdd d c' s') := by
    simp only [Nat.not_lt_zero, if_false]
    exact t1
  refine q_fz (fun o => ∃ M', o = some M' ∧ (∀ b, b ≠ 23 → b ≠ 24 → M'.1 b = M.1 b) ∧ (∀ b, b ≠ 25 → M'.2 b = M.2 b) ∧ qSt M' (qlo d c s) (qdd (qlo d c s))) (fun e N (g : Int32 → pm_M → Option pm_M) => g (nI e) N) (fun e N => N.1 = M1.1 ∧ (∀ b, b ≠ 25 → N.2 b = M.2 b) ∧ qSt N d (fun c' s' => if c' < e then qdd (qlo d c s) c' s' else qdd d c' s')) 2 ?_ ?_ (n := 1000000) (by omega) (a := M1) ⟨rfl, f2, t1'⟩
  · rintro e N he ⟨n1, n2, n3⟩ g
    have hCN : qC N d := qC_of hC (fun b hb => by rw [n1, f1 b (by omega) (by omega)])
    have hTN : qTo N d := qTo_of hT (fun b hb hb2 => by rw [n1, f1 b (by omega) (by omega)]) (fun b hb hb2 => n2 b (by omega))
    rw [if_neg (by rw [q2, nI_le_iff (by omega) (by omega)]; omega)]
    have hDe := qdd_20 hd hsn e s he
    have hve := qvi_le hd he s
    let Y : Option pm_M → Prop := fun o => ∃ a' : pm_M, (a'.1 = M1.1 ∧ (∀ b, b ≠ 25 → a'.2 b = M.2 b) ∧ qSt a' d (fun c' s' => if c' < e + 1 then qdd (qlo d c s) c' s' else qdd d c' s')) ∧ o = g (nI (e + 1)) a'
    have yes : (e = c ∨ qK d s = 0) → Y (pm_bd (sTours_visitsOf (nI e) (nI s) N) fun v10 M9 => pm_bv (sStates_lessen (nI e) (nI s) v10 M9) fun M11 => pm_lt (nI e + (1 : Int32)) fun x12 => g x12 M11) := by
      intro also
      rw [Tours_visitsOf hTN he hsS hS, q_bd, States_lessen n3 he hsS hS (by show (if e < e then _ else qdd d e s) < _; rw [if_neg (by omega)]; omega) (by omega), q_bv, q_lt, ← nI_succ]
      refine ⟨_, ⟨?_, ?_, ?_⟩, rfl⟩
      · exact n1
      · intro b hb
        rw [sL_2, if_neg hb]
        exact n2 b hb
      · refine ⟨n3.1, n3.2.1, n3.2.2.1, n3.2.2.2.1, fun c' s' hc' hs' => ?_⟩
        dsimp only
        by_cases q : c' = e ∧ s' = s
        · rw [q.1, q.2, sL_at, if_neg (show ¬ e < e by omega), if_pos (show e < e + 1 by omega), qlo_dd hc he (by omega) (by omega), if_pos ⟨rfl, also⟩]
        · rw [sL_ne _ _ _ _ _ (by omega), n3.2.2.2.2 c' s' hc' hs']
          dsimp only
          by_cases u : c' < e
          · rw [if_pos u, if_pos (by omega)]
          · rw [if_neg u]
            by_cases w : c' = e
            · have hss : s' ≠ s := fun z => q ⟨w, z⟩
              rw [if_pos (by omega), qlo_dd hc hc' (by omega) (by omega), if_neg (fun z => hss z.1)]
            · rw [if_neg (by omega)]
    have no : ¬ (e = c ∨ qK d s = 0) → Y (pm_lt (nI e + (1 : Int32)) fun x8 => g x8 N) := by
      intro also
      rw [q_lt, ← nI_succ]
      refine ⟨N, ⟨n1, n2, n3.1, n3.2.1, n3.2.2.1, n3.2.2.2.1, fun c' s' hc' hs' => ?_⟩, rfl⟩
      rw [n3.2.2.2.2 c' s' hc' hs']
      dsimp only
      by_cases u : c' < e
      · rw [if_pos u, if_pos (by omega)]
      · rw [if_neg u]
        by_cases w : c' = e
        · rw [if_pos (by omega), qlo_dd hc hc' (by omega) (by omega), w, if_neg (fun z => also z.2)]
        · rw [if_neg (by omega)]
    have hec : nI e = nI c ↔ e = c := nI_inj (by omega) (by omega)
    have hk0 : nI (qK d s) = 0 ↔ qK d s = 0 := by rw [q0, nI_inj (by omega) (by omega)]
    refine q_jk Y (fun (j5 : Int32 → pm_M → Option pm_M) => ((e = c ∨ qK d s = 0) → Y (j5 1 N)) ∧ (¬ (e = c ∨ qK d s = 0) → Y (j5 0 N))) ⟨fun z => yes z, fun z => no z⟩ ?_
    rintro j5 ⟨y1, y0⟩
    rw [q_jn]
    by_cases q : e = c
    · rw [if_pos (hec.mpr q)]
      exact y1 (Or.inl q)
    · rw [if_neg (fun z => q (hec.mp z)), if_pos hin5, hck, hCN.2.1]
      by_cases k : qK d s = 0
      · rw [if_neg (fun z => z (hk0.mpr k))]
        exact y1 (Or.inr k)
      · rw [if_pos (fun z => k (hk0.mp z))]
        exact y0 (fun z => z.elim q k)
  · rintro N ⟨n1, n2, n3⟩ g
    rw [if_pos (by decide)]
    refine ⟨N, rfl, fun b hb hb2 => by rw [n1, f1 b hb hb2], n2, n3.1, n3.2.1, n3.2.2.1, n3.2.2.2.1, fun c' s' hc' hs' => ?_⟩
    have := n3.2.2.2.2 c' s' hc' hs'
    dsimp only at this
    rw [if_pos hc'] at this
    exact this
