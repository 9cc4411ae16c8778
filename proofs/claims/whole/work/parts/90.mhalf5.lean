/-! ===== mathematics: halves, the totals of the lower units ===== -/
theorem low_ex {P : Nat → Bool} {i : Int} (h0 : 0 ≤ i) : ∀ n, i < (cn P n : Nat) → fi (fun k => P k && ((cn P k : Nat) : Int) == i) n < n
  | 0, h => by
    have : (cn P 0 : Nat) = 0 := rfl
    omega
  | n + 1, h => by
    rw [fi_lt_s]
    rw [cn_s] at h
    by_cases c : i < (cn P n : Nat)
    · exact Or.inl (low_ex h0 n c)
    · refine Or.inr ?_
      cases q : P n
      · rw [q] at h
        have : ((b1 false : Nat) : Int) = 0 := rfl
        omega
      · rw [q] at h
        have e : ((b1 true : Nat) : Int) = 1 := rfl
        have : ((cn P n : Nat) : Int) = i := by omega
        rw [this]
        simp
/-- the total of the i-th lower unit -/
def hvT (g : Og) (u i : Nat) : Nat := if lowA (gU g) u i < 24 then su (gM g (lowA (gU g) u i)) 64 else 0
section HY
variable {m : am_m} {r : am_rr} {s : Sx} {u : Nat}
theorem hvT_le (h : IG (xG s)) (i : Nat) : hvT (xG s) u i ≤ 15358464 := by
  unfold hvT
  have := h.su (lowA (gU (xG s)) u i)
  split <;> omega
theorem low_i {i : Nat} (h : i < lowC (gU (xG s)) u) : lowA (gU (xG s)) u i < 24 ∧ gU (xG s) (lowA (gU (xG s)) u i) = (u : Int) ∧ lowI (gU (xG s)) u i = (lowA (gU (xG s)) u i : Int) ∧ hvT (xG s) u i = su (gM (xG s) (lowA (gU (xG s)) u i)) 64 := by
  have q : lowA (gU (xG s)) u i < 24 := low_ex (P := fun k => gU (xG s) k == (u : Int)) (by omega) 24 (by show (i : Int) < (lowC (gU (xG s)) u : Nat); omega)
  refine ⟨q, ?_, if_pos q, if_pos q⟩
  have y := fi_is (fun k => (gU (xG s) k == (u : Int)) && ((cn (fun k => gU (xG s) k == (u : Int)) k : Nat) : Int) == (i : Int)) 24 q
  rw [Bool.and_eq_true] at y
  exact eq_of_beq y.1
theorem l_X9_halves_41 {x1 x2 y2 : Int32} {L : Nat} {k : Int32 → am_m → Option (Int32 × am_m)} (h : GS m r s) (hu : u < 24) (hu2 : gU (xG s) u ≠ -2) (hL : L ≤ lowC (gU (xG s)) u) (h12 : L ≤ 12) : ∃ m', GS m' r s ∧ (∀ b, b < 3261 → m' b = m b) ∧ m_X9_halves_41 x1 x2 (am_i u) y2 (am_i (L : Int)) k am_F (am_i 0) (am_i 0) m = k (am_i (su (hvT (xG s) u) L : Nat)) m' := by
  refine Exists.elim (lo_inv (fun n j (t : Int32 × am_m) => m_X9_halves_41 x1 x2 (am_i u) y2 (am_i (L : Int)) k n t.1 (am_i (j : Int)) t.2) (fun j t => t.1 = am_i (su (hvT (xG s) u) j : Nat) ∧ GS t.2 r s ∧ ∀ b, b < 3261 → t.2 b = m b) 0 L (fun t => k t.1 t.2) (n := am_F) (s0 := (am_i 0, m)) ⟨rfl, h, fun _ _ => rfl⟩ (by omega) (am_Fv (by omega)) (fun n j t _ hj A => ?_) (fun n t A => ?_)) (fun t T => ⟨t.2, T.1.2.1, T.1.2.2, T.2.trans (by rw [T.1.1])⟩)
  · obtain ⟨a1, a2, a3⟩ := A
    obtain ⟨g1, g2, g3, g4⟩ := low_i (s := s) (u := u) (i := j) (by omega)
    obtain ⟨m1, e1, f1, _⟩ := s_X9_allOf (a2.xm g1) g1
    show ∃ s' : Int32 × am_m, m_X9_halves_41 _ _ _ _ _ _ (n + 1) t.1 _ t.2 = m_X9_halves_41 _ _ _ _ _ _ n s'.1 _ s'.2 ∧ (s'.1 = am_i ((su (hvT (xG s) u) j + hvT (xG s) u j : Nat) : Int) ∧ _)
    rw [m_X9_halves_41, if_neg (by rw [i_le (by omega) (by omega) (by omega) (by omega)]; omega), s_X9_below a2.tm a2.tr hu hu2 (by omega) (by omega), g3, Option.bind_some, e1, Option.bind_some, a1, nj]
    exact ⟨(am_i (su (hvT (xG s) u) j : Nat) + am_i (su (gM (xG s) (lowA (gU (xG s)) u j)) 64 : Nat), m1), rfl, by rw [i_add, g4]; rfl, a2.sc1 (fun b hb => f1 b (by unfold Scr at hb; omega)), fun b hb => by show m1 b = m b; rw [f1 b (by omega)]; exact a3 b hb⟩
  · show m_X9_halves_41 _ _ _ _ _ _ (n + 1) t.1 _ t.2 = _
    rw [m_X9_halves_41, if_pos (by rw [i_le (by omega) (by omega) (by omega) (by omega)]; omega)]
end HY
