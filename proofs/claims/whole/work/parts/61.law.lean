/-! THE LAW, from the start -/
def qd0 : qD := (0, fun _ => 0, fun _ => 0, fun c => if c < 2 then 0 else 1, fun _ => 0, fun _ => 0)
theorem qd0_ok : qOK qd0 := by
  refine ⟨Nat.zero_le _, fun _ => Nat.zero_le _, fun _ => Nat.zero_le _, fun c s _ hs => absurd hs (Nat.not_lt_zero s), fun c hc => ?_, fun _ => Nat.zero_le _, Nat.zero_le _, fun _ => Nat.zero_le _, fun c s t _ _ _ h => absurd rfl h⟩
  show (if c < 2 then 0 else 1) ≤ 0
  rw [if_pos hc]
  exact Nat.le_refl 0
theorem h0_hI (c : Nat) : upd (upd ((fun _ => 0)) 0 (-1)) 1 (-1) c = hI (if c < 2 then 0 else 1) := by
  unfold upd
  by_cases h1 : c = 1
  · rw [if_pos h1, h1]; rfl
  rw [if_neg h1]
  by_cases h0 : c = 0
  · rw [if_pos h0, h0]; rfl
  rw [if_neg h0, if_neg (by omega)]
  rfl
theorem qd0_in (c t : Nat) (hc : c < 2) : ¬ qin qd0 c t := by
  rintro ⟨h, e, -⟩
  have e' : (if c < 2 then 0 else 1) = h + 1 := e
  rw [if_pos hc] at e'
  omega
theorem qd0_go {c : Nat} (hc : c < 2) : ¬ qgo qd0 c := by
  rintro ⟨h, e, -⟩
  have e' : (if c < 2 then 0 else 1) = h + 1 := e
  rw [if_pos hc] at e'
  omega
theorem qInv_0 : qInv 0 pm_M0 := by
  refine ⟨qd0, ⟨qd0_ok, ⟨rfl, fun _ => rfl, fun _ => rfl, h0_hI, fun _ => rfl, fun _ => rfl⟩, ⟨rfl, fun _ => rfl, fun _ => rfl, h0_hI, fun _ => rfl, fun _ => rfl⟩, fun c hc => ⟨?_, ?_, ?_, fun s hs => absurd hs (Nat.not_lt_zero s)⟩, ⟨rfl, rfl, rfl, fun s hs => absurd hs (Nat.not_lt_zero s), fun c s _ hs => absurd hs (Nat.not_lt_zero s)⟩, ?_⟩, Or.inl rfl, fun c _ => rfl, Or.inl ⟨rfl, rfl⟩, ⟨rfl, Or.inl ⟨rfl, rfl, rfl, rfl, rfl, fun k _ => ⟨rfl, rfl⟩, fun k _ => ⟨rfl, rfl⟩⟩⟩, ⟨0, fun _ => 0, Nat.zero_le _, rfl, rfl, fun k hk => absurd hk (Nat.not_lt_zero k)⟩, fun j hj => ?_⟩
  · have e : qrc qd0 c = 0 := by
      unfold qrc
      refine (qset_eq (show 0 < 32 by omega) (fun t ht => ⟨fun q => ?_, fun q => absurd q (qd0_in c t hc)⟩)).symm
      have : ∀ t, t < 5 → ¬ qhas 0 t = true := by decide
      exact absurd q (this t ht)
    rw [e]
    rfl
  · rw [q2i_f (qd0_go hc)]
    rfl
  · rw [q2i_t (show qft qd0 c from Or.inl rfl)]
    rcases (show c = 0 ∨ c = 1 by omega) with rfl | rfl <;> rfl
  · intro k hk
    rcases (show k = 0 ∨ k = 1 ∨ k = 2 ∨ k = 3 ∨ k = 4 ∨ k = 5 ∨ k = 6 ∨ k = 7 ∨ k = 8 by omega) with rfl | rfl | rfl | rfl | rfl | rfl | rfl | rfl | rfl <;> decide
  · rcases (show j = 0 ∨ j = 1 ∨ j = 2 ∨ j = 3 by omega) with rfl | rfl | rfl | rfl <;> exact ⟨0, by omega, rfl, rfl, rfl, Or.inl rfl, fun k _ => rfl⟩
theorem law_all {L : Nat} (hL : L ≤ 3584) (xs : Nat → Int32) : ∃ M', sLaw_law L xs pm_M0 = some (1, M') := by
  rw [lw_loop]
  refine q_fz (fun r => ∃ M', r = some ((1 : Int32), M')) (fun i a (g : Int32 → pm_M → Option (Int32 × pm_M)) => g (nI (7 * i)) a) (fun i a => qInv i a) (L / 7) ?_ ?_ (n := 1000000) (a := pm_M0) (by omega) qInv_0
  · intro i a hi ha g
    obtain ⟨M', h1, h2⟩ := lw_step (xs := xs) (i := 7 * i) ha (by omega) hL (by omega) g
    exact ⟨M', h1, h2⟩
  · intro a ha g
    refine ⟨a, ?_⟩
    unfold lwB
    rw [if_pos ((lw_lt (by omega) (by omega)).mpr (by omega))]
