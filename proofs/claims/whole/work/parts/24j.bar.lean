/-! the cells' filling -/
theorem qC_u {d : qD} {M : pm_M} (h : qC M d) (f : Nat → Int32) (g : Nat → Int64) : qC (mu_L (mu_I M 21 f) 22 g) d := h
def qot (m : Nat) (F : Nat → Int32) : Nat → (Nat → Int32) × Nat
  | 0 => (F, 0)
  | t + 1 => if qhas m t = true then (upd (qot m F t).1 (qot m F t).2 (nI t), (qot m F t).2 + 1) else qot m F t
theorem qot_ok (m : Nat) (F : Nat → Int32) : ∀ t, (qot m F t).2 = ((List.range t).filter fun k => qhas m k).length ∧ ∀ p, p < ((List.range t).filter fun k => qhas m k).length → (qot m F t).1 p = nI (((List.range t).filter fun k => qhas m k).getD p 0)
  | 0 => ⟨rfl, fun p h => absurd h (Nat.not_lt_zero p)⟩
  | t + 1 => by
    obtain ⟨h1, h2⟩ := qot_ok m F t
    rw [List.range_succ, List.filter_append]
    unfold qot
    by_cases hb : qhas m t = true
    · rw [if_pos hb]
      have e : (List.filter (fun k => qhas m k) [t]) = [t] := by simp [hb]
      rw [e]
      refine ⟨by rw [List.length_append, h1]; rfl, ?_⟩
      intro p hp
      rw [List.length_append] at hp
      have hp' : p < ((List.range t).filter fun k => qhas m k).length + 1 := hp
      show upd (qot m F t).1 (qot m F t).2 (nI t) p = _
      unfold upd
      by_cases q : p = (qot m F t).2
      · rw [if_pos q, q, h1]
        simp [List.getD]
      · rw [if_neg q, h2 p (by omega)]
        have : p < ((List.range t).filter fun k => qhas m k).length := by omega
        simp [List.getD, List.getElem?_append_left this]
    · rw [if_neg hb]
      have e : (List.filter (fun k => qhas m k) [t]) = [] := by simp [hb]
      rw [e, List.append_nil]
      exact ⟨h1, h2⟩
theorem qml_lt : ∀ m, m < 32 → ∀ p, p < (qml m).length → (qml m).getD p 0 < 5 := by decide +kernel
theorem qml_len : ∀ m, m < 31 → (qml m).length ≤ 4 := by decide +kernel
theorem qot_le (m : Nat) (F : Nat → Int32) : ∀ t, (qot m F t).2 ≤ t
  | 0 => Nat.le_refl _
  | t + 1 => by
    have := qot_le m F t
    unfold qot
    split
    · show (qot m F t).2 + 1 ≤ _; omega
    · omega
/-- beyond the stations a set has no member -/
theorem qot_S (m : Nat) (F : Nat → Int32) {S : Nat} : ∀ j, (∀ k, k < S + j → qhas m k = true → k < S) → qot m F (S + j) = qot m F S
  | 0, _ => rfl
  | j + 1, h => by
    show (if qhas m (S + j) = true then _ else _) = _
    rw [if_neg (fun q => by have := h (S + j) (by omega) q; omega)]
    exact qot_S m F j (fun k hk => h k (by omega))
