set_option maxRecDepth 100000 in
theorem pm_okL0 : (decide ((pm_me 209).2.2.1 ≤ 30) && plainName (pm_me 209).1.cls) = true := by decide +kernel
abbrev pm_okLf (l : List (Nat × pm_E)) : Bool := l.all fun q => pm_chE R_law 4 code q.1 q.2
set_option maxRecDepth 100000 in
theorem pm_okL_0 : ((pm_T209.drop 0).take 8).all pm_okLf = true := by decide +kernel
set_option maxRecDepth 100000 in
theorem pm_okL_8 : ((pm_T209.drop 8).take 8).all pm_okLf = true := by decide +kernel
set_option maxRecDepth 100000 in
theorem pm_okL_16 : ((pm_T209.drop 16).take 8).all pm_okLf = true := by decide +kernel
set_option maxRecDepth 100000 in
theorem pm_okL_24 : ((pm_T209.drop 24).take 8).all pm_okLf = true := by decide +kernel
set_option maxRecDepth 100000 in
theorem pm_okL_32 : ((pm_T209.drop 32).take 8).all pm_okLf = true := by decide +kernel
set_option maxRecDepth 100000 in
theorem pm_okL_40 : ((pm_T209.drop 40).take 8).all pm_okLf = true := by decide +kernel
set_option maxRecDepth 100000 in
theorem pm_okL_48 : ((pm_T209.drop 48).take 8).all pm_okLf = true := by decide +kernel
set_option maxRecDepth 100000 in
theorem pm_okL_56 : ((pm_T209.drop 56).take 8).all pm_okLf = true := by decide +kernel
set_option maxRecDepth 100000 in
theorem pm_okL_64 : ((pm_T209.drop 64).take 8).all pm_okLf = true := by decide +kernel
set_option maxRecDepth 100000 in
theorem pm_okL_72 : ((pm_T209.drop 72).take 8).all pm_okLf = true := by decide +kernel
set_option maxRecDepth 100000 in
theorem pm_okL_80 : ((pm_T209.drop 80).take 8).all pm_okLf = true := by decide +kernel
set_option maxRecDepth 100000 in
theorem pm_okL_88 : ((pm_T209.drop 88).take 8).all pm_okLf = true := by decide +kernel
set_option maxRecDepth 100000 in
theorem pm_okL_96 : ((pm_T209.drop 96).take 8).all pm_okLf = true := by decide +kernel
theorem pm_okLe : pm_T209.drop 104 = [] := by decide +kernel
theorem pm_okLs {l : List (List (Nat × pm_E))} {f : List (Nat × pm_E) → Bool} {a n : Nat} (h1 : ((l.drop a).take n).all f = true) (h2 : (l.drop (a + n)).all f = true) : (l.drop a).all f = true := by
  rw [← List.take_append_drop n (l.drop a), List.all_append, h1, List.drop_drop, h2]
  rfl
theorem pm_okL : pm_chM 209 = true := by
  have h : (pm_T209.drop 0).all pm_okLf = true := pm_okLs pm_okL_0 (pm_okLs pm_okL_8 (pm_okLs pm_okL_16 (pm_okLs pm_okL_24 (pm_okLs pm_okL_32 (pm_okLs pm_okL_40 (pm_okLs pm_okL_48 (pm_okLs pm_okL_56 (pm_okLs pm_okL_64 (pm_okLs pm_okL_72 (pm_okLs pm_okL_80 (pm_okLs pm_okL_88 (pm_okLs pm_okL_96 (by rw [pm_okLe]; rfl)))))))))))))
  have h0 := pm_okL0
  unfold pm_chM
  rw [h0, Bool.true_and]
  exact h
theorem pm_lal {ad : Nat → Nat} {x0 y0 b : Nat} {ls : Array Slot} (a0 : ad 0 = x0) (a49 : ad 49 = y0) (a102 : ad 102 = b) (hl : lv_has ls 4 [(2, .ref y0), (1, .ref x0), (0, .ref b)]) (i : Nat) (v : Value) (hv : ([some (.ref 102), some (.ref 0), some (.ref 49), none] : pm_L).getD i none = some v) : ls[i]? = some (.val (pm_cv ad v)) := by
  match i, hv with
  | 0, hv => cases hv; show _ = some (Slot.val (.ref (ad 102))); rw [a102]; exact lv_at hl 2 rfl
  | 1, hv => cases hv; show _ = some (Slot.val (.ref (ad 0))); rw [a0]; exact lv_at hl 1 rfl
  | 2, hv => cases hv; show _ = some (Slot.val (.ref (ad 49))); rw [a49]; exact lv_at hl 0 rfl
  | 3, hv => cases hv
  | k + 4, hv => simp at hv
theorem pm_end {p : Program} {e : Env} {s : State} {m : MethodId} {below : List Frame} {meth : Method} {c : Code} (l : Launch) {b L : Nat} {xs : Nat → Int32} (C0 : lw_At p s m meth c b L xs) (hall : ∀ mid, mid + 1 < pm_MT.length → pm_chM mid = true) {M M' : pm_M} (hlaw : sLaw_law L xs M = some (1, M')) {A : Nat → Prop} (hAs : ∀ q, A q → s.heap.size ≤ q) (hnA : ∀ a : Nat, a < s.heap.size → ¬ A a) (hA : ∀ q : Nat, s.heap.size ≤ q → A q) (hts : ∀ w ∈ pm_Ws, w.before #[Value.ref b] s = true) (hnest2 : ∀ w ∈ pm_nests, va_Nw w s) {D : va_G} {cA : Nat → ClassId} {ad : Nat → Nat} (hK : va_K D vwCl (pm_ty cA) s) (hZ : pm_Zs ad A s s.heap) (a102 : ad 102 = b)
    {cells slots : Nat} (hce : cells ≤ 600000) (hsl : slots ≤ 7302250) {H : Heap} {locs : List Loc} {ls : Array Slot} (hP : va_P D vwCl (pm_W ad cA M) H) (hD : va_D A (pm_W ad cA M)) (hS : va_S A s.heap H locs) (hl : pm_hl ad 4 [some (.ref 102), some (.ref 0), some (.ref 49), none] ls) :
    W p l e room_1 s m #[Value.ref b] below meth c H locs cells slots (lw_Z below #[Value.ref b] s) (F0 m 16 ls []) := by
  obtain ⟨hx, hb, hr, hml, hown, htsA, hX, hbl, hlocks, hgv⟩ := id C0
  obtain ⟨n, σ, hR, hRet⟩ := sLaw_law_ok L xs M _ hlaw
  have hmax : ∀ mid, mid + 1 < pm_MT.length → (pm_me mid).2.2.1 ≤ 30 := by
    intro mid h
    have := hall mid h
    unfold pm_chM at this
    simp only [Bool.and_eq_true, decide_eq_true_eq] at this
    exact this.1.1
  have hT : ∀ pc e, pm_lk pm_T209 pc = some e → pm_chE R_law 4 code pc e = true := pm_chM_T pm_okL
  have C1 : pm_Cx p room_1 s m #[Value.ref b] c cells slots R_law code 4 30 (some (L, xs)) D ad cA A :=
    ⟨hx, hb, hml, hown, hts, hnest2, hK, hZ, hA, ⟨Nat.le_of_ble_eq_true rfl, Nat.le_of_ble_eq_true rfl, hce, hsl⟩, fun L' xs' h => by cases h; rw [a102]; exact ⟨hX, hbl, hnA b hbl⟩⟩
  refine pm_rch_ok C1 (pm_met l hall 30) (pm_Ev_1000 30) hmax hT n _ σ hR ?_ H locs ls hP hD hS hl
  intro H2 locs2 ls2 hP2 hD2 hS2 hl2
  obtain ⟨e0, he0, -, hre⟩ := hRet
  have hc0 := hT _ _ he0
  obtain ⟨ins, ln, aux, vv⟩ := e0
  unfold pm_chE at hc0
  rw [Bool.and_eq_true, decide_eq_true_eq] at hc0
  obtain ⟨hd, hc1⟩ := hc0
  unfold pm_RetE at hre
  dsimp only at hre hd hc1
  split at hre
  · obtain ⟨x, hst, hv, hret⟩ := hre
    have hn : ln = 1 := by simpa using hc1
    subst hn
    have hx1 : (1 : Int32) = x := by
      have h9 : some (Value.int 1) = some (Value.int x) := hv
      cases h9
      rfl
    subst hx1
    rw [hst]
    refine va_forget (fun q hq => hAs _ (hS2.2.2 q hq)) ?_
    refine W.widen (k := 600000) (n := 7302250) hce hsl ?_
    exact lw_ret hx hb hr hlocks hd
  · obtain ⟨x, -, hv, -⟩ := hre
    have h9 : some (Value.int 1) = some (Value.long x) := hv
    cases h9
  · obtain ⟨-, hv, -⟩ := hre
    have h9 : some (Value.int 1) = none := hv
    cases h9
  · exact hre.elim
