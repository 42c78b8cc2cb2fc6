/-! IN TRUTH: draws and goals -/
def qsd (y : Int32) : Int32 := y * (1103515245 : Int32) + (12345 : Int32)
def qup (y : Int32) : Nat := (y.toUInt32 >>> ((16 : Int32).toUInt32 &&& Int32.toUInt32 31)).toNat
theorem qup_lt (y : Int32) : qup y < 65536 := by
  unfold qup
  rw [UInt32.toNat_shiftRight]
  have h := y.toUInt32.toNat_lt
  have e : ((16 : Int32).toUInt32 &&& Int32.toUInt32 31).toNat % 32 = 16 := by decide
  rw [e, Nat.shiftRight_eq_div_pow]
  omega
theorem qup_nI (y : Int32) : (y.toUInt32 >>> ((16 : Int32).toUInt32 &&& Int32.toUInt32 31)).toInt32 = nI (qup y) := by
  unfold qup
  generalize y.toUInt32 >>> ((16 : Int32).toUInt32 &&& Int32.toUInt32 31) = u
  show _ = Int32.ofNat u.toNat
  conv => lhs; rw [← UInt32.ofNat_toNat (x := u)]
  rfl
theorem nI_div {a b : Nat} (ha : a < 2 ^ 31) (hb : b < 2 ^ 31) (h0 : 0 < b) : nI a / nI b = nI (a / b) := by
  apply Int32.toInt_inj.mp
  have hq : a / b < 2 ^ 31 := Nat.lt_of_le_of_lt (Nat.div_le_self _ _) ha
  have hne : nI b ≠ -1 := nI_m1 hb
  rw [Int32.toInt_div_of_ne_right _ _ hne, nI_toInt ha, nI_toInt hb, nI_toInt hq]
  exact Int.ofNat_tdiv a b
theorem nI_rem {a b : Nat} (ha : a < 2 ^ 31) (hb : b < 2 ^ 31) (h0 : 0 < b) : nI a - nI a / nI b * nI b = nI (a % b) := by
  rw [nI_div ha hb h0, nI_mul, nI_sub (Nat.div_mul_le_self a b)]
  congr 1
  have := Nat.div_add_mod a b
  rw [Nat.mul_comm] at this
  omega
/-- the draw below w -/
def qdr (y : Int32) (w : Nat) : Nat := qup (qsd y) % w
def qgf (d : qD) (c s v : Nat) : Nat → Nat → Nat
  | 0, _ => s
  | k + 1, t => if qws d c s (t + 1) ≤ v then qgf d c s v k (t + 1) else t
theorem qgf_s (d : qD) (c s v k t : Nat) : qgf d c s v (k + 1) t = if qws d c s (t + 1) ≤ v then qgf d c s v k (t + 1) else t := rfl
theorem qgf_in {d : qD} (hd : qOK d) {c s v : Nat} (hc : c < 2) (hs : s < 5) (hi : qin d c s) : ∀ k t, t + k = qS d → qws d c s t ≤ v → qin d c (qgf d c s v k t)
  | 0, _, _, _ => hi
  | k + 1, t, h, hv => by
    have hS := hd.1
    rw [qgf_s]
    by_cases q : qws d c s (t + 1) ≤ v
    · rw [if_pos q]
      exact qgf_in hd hc hs hi k (t + 1) (by omega) q
    · rw [if_neg q]
      have e : qws d c s (t + 1) = qws d c s t + qw d c s t := rfl
      exact qin_E hi (qE_of hd hc hs (by omega) (by omega))
def qgl (d : qD) (c s v : Nat) : Nat := qgf d c s v (qS d) 0
theorem qgl_in {d : qD} (hd : qOK d) {c s : Nat} (v : Nat) (hc : c < 2) (hs : s < 5) (hi : qin d c s) : qin d c (qgl d c s v) := qgf_in hd hc hs hi _ _ (Nat.zero_add _) (Nat.zero_le _)
theorem Truth_drawGoal {d : qD} {M : pm_M} (hd : qOK d) (hC : qC M d) {x s : Nat} (h2 : M.1 30 2 = nI (qP d 0)) (hx : x < 8) (hs : s < 5) (h33 : M.1 33 x = nI s) (hw : 0 < qwt d (xcl (qP d 0) x) s) : sTruth_drawGoal (nI x) M = some (nI (qgl d (xcl (qP d 0) x) s (qdr (M.1 30 4) (qwt d (xcl (qP d 0) x) s))), pm_sI M 30 4 (qsd (M.1 30 4))) := by
  have hS := hd.1
  have hP := hd.2.2.2.2.2.1 0
  have hc := xcl_2 (qP d 0) x
  have hcl := Truth_classOf (M := M) (n0 := qP d 0) (x := x) h2 (by omega) (by omega)
  generalize xcl (qP d 0) x = c at *
  have hwl := qwt_le hd c s
  have hup := qup_lt (qsd (M.1 30 4))
  have h30 : ∀ v, (pm_sI M 30 4 v).1 30 4 = v := fun v => by rw [sI_1, if_pos rfl, upd_at]
  have hd1 : sTruth_draw (nI (qwt d c s)) M = some (nI (qdr (M.1 30 4) (qwt d c s)), pm_sI M 30 4 (qsd (M.1 30 4))) := by
    unfold sTruth_draw
    rw [q_lt, h30, if_neg (by rw [q0, nI_le_iff (by omega) (by omega)]; omega), if_pos (by rw [q0, nI_inj (by omega) (by omega)]; omega)]
    rw [show M.1 30 4 * (1103515245 : Int32) + (12345 : Int32) = qsd (M.1 30 4) from rfl, qup_nI, nI_rem (by omega) (by omega) hw]
    rfl
  have hCN : qC (pm_sI M 30 4 (qsd (M.1 30 4))) d := qC_of hC (fun b hb => by rw [sI_1, if_neg (by omega)])
  unfold sTruth_drawGoal
  rw [hcl, q_bd, if_pos (by rw [nI_in_iff (by omega)]; exact hx), nI_cl x (by omega), h33, q_lt, Net_weightsFrom hd hC hc hs, q_bd, hd1, q_bd]
  generalize hv : qdr (M.1 30 4) (qwt d c s) = v
  have hvl : v < 65536 := by rw [← hv]; unfold qdr; exact Nat.lt_of_le_of_lt (Nat.mod_le _ _) hup
  generalize pm_sI M 30 4 (qsd (M.1 30 4)) = N at hCN
  unfold qgl
  refine q_wh (fun t (g : Int32 → Int32 → pm_M → Option (Int32 × pm_M)) => g (nI (qws d c s t)) (nI t) N) (fun t => t ≤ qS d ∧ qgf d c s v (qS d - t) t = qgf d c s v (qS d) 0) (fun t => qS d - t) ?_ 1000000 0 ⟨Nat.zero_le _, by rw [Nat.sub_zero]⟩ (by omega)
  rintro t ⟨ht, hq⟩
  by_cases e : t = qS d
  · left
    intro g
    rw [hCN.1, e, if_pos (Int32.le_refl _)]
    rw [e, Nat.sub_self] at hq
    rw [← hq]
    rfl
  · have hw9 := qw_le hd c s t
    have hws := qws_le hd c s t
    rw [show qS d - t = (qS d - (t + 1)) + 1 by omega, qgf_s] at hq
    by_cases q : qws d c s (t + 1) ≤ v
    · right
      rw [if_pos q] at hq
      refine ⟨t + 1, ⟨by omega, hq⟩, by omega, fun g => ?_⟩
      rw [hCN.1, if_neg (by rw [nI_le_iff (by omega) (by omega)]; omega), Net_weightOf hCN hc hs (by omega), q_bd, qI_add, q_lt, show qws d c s t + qw d c s t = qws d c s (t + 1) from rfl, if_pos (by rw [nI_le_iff (by have : qws d c s (t + 1) = qws d c s t + qw d c s t := rfl; omega) (by omega)]; exact q), q_lt, ← nI_succ]
    · left
      intro g
      rw [if_neg q] at hq
      rw [hCN.1, if_neg (by rw [nI_le_iff (by omega) (by omega)]; omega), Net_weightOf hCN hc hs (by omega), q_bd, qI_add, q_lt, show qws d c s t + qw d c s t = qws d c s (t + 1) from rfl, if_neg (by rw [nI_le_iff (by have : qws d c s (t + 1) = qws d c s t + qw d c s t := rfl; omega) (by omega)]; exact q), ← hq]
theorem R_leads {d : qD} {M : pm_M} (hd : qOK d) (hR : qR M d) {c s : Nat} (hc : c < 2) (hs : s < 5) (hw : 0 < qwt d c s) : sR_leads (nI c) (nI s) M = some (nI (qgl d c s (qdr (M.1 49 28) (qwt d c s))), pm_sI M 49 28 (qsd (M.1 49 28))) := by
  have hS := hd.1
  have hwl := qwt_le hd c s
  have hup := qup_lt (qsd (M.1 49 28))
  have h30 : ∀ v, (pm_sI M 49 28 v).1 49 28 = v := fun v => by rw [sI_1, if_pos rfl, upd_at]
  have hd1 : sR_drawn (nI (qwt d c s)) M = some (nI (qdr (M.1 49 28) (qwt d c s)), pm_sI M 49 28 (qsd (M.1 49 28))) := by
    unfold sR_drawn
    rw [q_lt, h30, if_pos (by rw [q0, nI_inj (by omega) (by omega)]; omega)]
    rw [show M.1 49 28 * (1103515245 : Int32) + (12345 : Int32) = qsd (M.1 49 28) from rfl, qup_nI, nI_rem (by omega) (by omega) hw]
    rfl
  have hRN : qR (pm_sI M 49 28 (qsd (M.1 49 28))) d := qR_of hR (by rw [sI_1, if_pos rfl]; unfold upd; rw [if_neg (by decide)]) (fun b h1 h2 => by rw [sI_1, if_neg (by omega)])
  unfold sR_leads
  rw [R_weights hd hR hc hs, q_bd, hd1, q_bd]
  generalize hv : qdr (M.1 49 28) (qwt d c s) = v
  have hvl : v < 65536 := by rw [← hv]; unfold qdr; exact Nat.lt_of_le_of_lt (Nat.mod_le _ _) hup
  generalize pm_sI M 49 28 (qsd (M.1 49 28)) = N at hRN
  unfold qgl
  refine q_wh (fun t (g : Int32 → Int32 → pm_M → Option (Int32 × pm_M)) => g (nI (qws d c s t)) (nI t) N) (fun t => t ≤ qS d ∧ qgf d c s v (qS d - t) t = qgf d c s v (qS d) 0) (fun t => qS d - t) ?_ 1000000 0 ⟨Nat.zero_le _, by rw [Nat.sub_zero]⟩ (by omega)
  rintro t ⟨ht, hq⟩
  by_cases e : t = qS d
  · left
    intro g
    rw [hRN.1, e, if_pos (Int32.le_refl _)]
    rw [e, Nat.sub_self] at hq
    rw [← hq]
    rfl
  · have hw9 := qw_le hd c s t
    have hws := qws_le hd c s t
    have hin : pm_in (nI (25 * c + 5 * s + t)) 50 := by rw [nI_in_iff (by omega)]; omega
    rw [show qS d - t = (qS d - (t + 1)) + 1 by omega, qgf_s] at hq
    by_cases q : qws d c s (t + 1) ≤ v
    · right
      rw [if_pos q] at hq
      refine ⟨t + 1, ⟨by omega, hq⟩, by omega, fun g => ?_⟩
      rw [hRN.1, if_neg (by rw [nI_le_iff (by omega) (by omega)]; omega), R_routeAt, q_bd, if_pos hin, nI_cl _ (by omega), hRN.2.2.2.2.2, qI_add, q_lt, show qws d c s t + qW d (25 * c + 5 * s + t) = qws d c s (t + 1) from rfl, if_pos (by rw [nI_le_iff (by have : qws d c s (t + 1) = qws d c s t + qw d c s t := rfl; omega) (by omega)]; exact q), q_lt, ← nI_succ]
    · left
      intro g
      rw [if_neg q] at hq
      rw [hRN.1, if_neg (by rw [nI_le_iff (by omega) (by omega)]; omega), R_routeAt, q_bd, if_pos hin, nI_cl _ (by omega), hRN.2.2.2.2.2, qI_add, q_lt, show qws d c s t + qW d (25 * c + 5 * s + t) = qws d c s (t + 1) from rfl, if_neg (by rw [nI_le_iff (by have : qws d c s (t + 1) = qws d c s t + qw d c s t := rfl; omega) (by omega)]; exact q), ← hq]
