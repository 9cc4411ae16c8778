/-! ===== mathematics, 13: above ===== -/
section MAB
variable {m : am_m} {o : Nat} {up : Nat → Int} {d : Nat → Nat}
/-- what lies so far above -/
def abI (up : Nat → Int) (d : Nat → Nat) (x k : Int) : Int := if thr up x = true ∧ 0 ≤ k ∧ k ≤ d x.toNat then an up x.toNat k.toNat else -1
theorem s_X8_above {x k : Int} (h : TC m 4 up) (hT : Tr up d) (h1 : -2147483648 ≤ x) (h2 : x ≤ 2147483647) (h3 : -2147483648 ≤ k) (h4 : k ≤ 2147483647) : m_X8_above m (am_i x) (am_i k) = some (am_i (abI up d x k)) := by
  unfold m_X8_above abI
  rw [s_X1_isThere h hT h1 h2]
  cases c1 : thr up x
  · rw [Option.bind_some, if_pos (by rw [b1F]; decide), if_neg (fun e => by cases e.1)]
  obtain ⟨u, hu, rfl, hu2⟩ := thr_i c1
  have hd := hT.2.2.2.1 u
  rw [Option.bind_some, if_neg (by rw [b1T]; decide), Int.toNat_natCast]
  by_cases c2 : k < 0
  · rw [if_pos (by rw [i_zero, i_lt h3 h4 (by omega) (by omega)]; exact c2), if_neg (fun e => by omega)]
  rw [if_neg (by rw [i_zero, i_lt h3 h4 (by omega) (by omega)]; exact c2)]
  obtain ⟨q, rfl⟩ : ∃ q : Nat, k = q := ⟨k.toNat, by omega⟩
  rw [Int.toNat_natCast]
  by_cases c3 : q ≤ 12
  · rw [if_pos (by rw [i_le h3 h4 (by omega) (by omega)]; omega)]
    by_cases c4 : q ≤ d u
    · rw [if_pos ⟨rfl, by omega, by omega⟩]
      refine lo_go (fun n j s => m_X8_above_28 (am_i u) (am_i q) m (am_i q) (fun u8 => some u8) n s (am_i (j : Int))) (fun j => am_i (an up u j)) 0 q rfl (Nat.zero_le _) (am_Fv (by omega)) (fun n j _ hj => ?_) (fun n => ?_)
      · obtain ⟨p, g1, g2, g3, g4⟩ := hT.anc hu hu2 j (by omega)
        show m_X8_above_28 (am_i u) (am_i q) m (am_i q) _ (n + 1) (am_i (an up u j)) _ = m_X8_above_28 (am_i u) (am_i q) m (am_i q) _ n (am_i (an up u (j + 1))) _
        rw [m_X8_above_28, Tr.nx g2, g2, if_neg (by rw [i_le (by omega) (by omega) (by omega) (by omega)]; omega), if_neg (by rw [i_eq (by omega) (by omega) (by omega) (by omega)]; omega), s_X1_upperOf h hT g1 g3, Option.bind_some, i_add]
        rfl
      · show m_X8_above_28 (am_i u) (am_i q) m (am_i q) _ (n + 1) (am_i (an up u q)) _ = _
        rw [m_X8_above_28, if_pos (by rw [i_le (by omega) (by omega) (by omega) (by omega)]; omega)]
    · rw [if_neg (fun e => c4 (by omega))]
      refine lo_go (fun n j s => m_X8_above_28 (am_i u) (am_i q) m (am_i q) (fun u8 => some u8) n s (am_i (j : Int))) (fun j => am_i (an up u j)) 0 (d u + 1) rfl (Nat.zero_le _) (am_Fv (by omega)) (fun n j _ hj => ?_) (fun n => ?_)
      · obtain ⟨p, g1, g2, g3, g4⟩ := hT.anc hu hu2 j (by omega)
        show m_X8_above_28 (am_i u) (am_i q) m (am_i q) _ (n + 1) (am_i (an up u j)) _ = m_X8_above_28 (am_i u) (am_i q) m (am_i q) _ n (am_i (an up u (j + 1))) _
        rw [m_X8_above_28, Tr.nx g2, g2, if_neg (by rw [i_le (by omega) (by omega) (by omega) (by omega)]; omega), if_neg (by rw [i_eq (by omega) (by omega) (by omega) (by omega)]; omega), s_X1_upperOf h hT g1 g3, Option.bind_some, i_add]
        rfl
      · show m_X8_above_28 (am_i u) (am_i q) m (am_i q) _ (n + 1) (am_i (an up u (d u + 1))) _ = _
        rw [m_X8_above_28, hT.end hu hu2]
        split
        · rfl
        · rw [if_pos rfl]
  · rw [if_neg (by rw [i_le h3 h4 (by omega) (by omega)]; omega), if_neg (fun e => by omega)]
theorem s_X9_above {x k : Int} (h : TM m up) (hT : Tr up d) (h1 : -2147483648 ≤ x) (h2 : x ≤ 2147483647) (h3 : -2147483648 ≤ k) (h4 : k ≤ 2147483647) : m_X9_above m (am_i x) (am_i k) = some (am_i (abI up d x k)) := by
  unfold m_X9_above abI
  rw [s_X9_isUnit h h1 h2]
  cases c1 : thr up x
  · rw [Option.bind_some, if_pos (by rw [b1F]; decide), if_neg (fun e => by cases e.1)]
  obtain ⟨u, hu, rfl, hu2⟩ := thr_i c1
  have hd := hT.2.2.2.1 u
  rw [Option.bind_some, if_neg (by rw [b1T]; decide), Int.toNat_natCast]
  by_cases c2 : k < 0
  · rw [if_neg (by rw [i_zero, i_le (by omega) (by omega) h3 h4]; omega), if_neg (fun e => by omega)]
  rw [if_pos (by rw [i_zero, i_le (by omega) (by omega) h3 h4]; omega)]
  obtain ⟨q, rfl⟩ : ∃ q : Nat, k = q := ⟨k.toNat, by omega⟩
  rw [Int.toNat_natCast]
  by_cases c4 : q ≤ d u
  · rw [if_pos ⟨rfl, by omega, by omega⟩]
    refine lo_go (fun n j s => m_X9_above_19 (am_i u) (am_i q) m (am_i q) (fun u7 => some u7) n s (am_i (j : Int))) (fun j => am_i (an up u j)) 0 q rfl (Nat.zero_le _) (am_Fv (by omega)) (fun n j _ hj => ?_) (fun n => ?_)
    · obtain ⟨p, g1, g2, g3, g4⟩ := hT.anc hu hu2 j (by omega)
      show m_X9_above_19 (am_i u) (am_i q) m (am_i q) _ (n + 1) (am_i (an up u j)) _ = m_X9_above_19 (am_i u) (am_i q) m (am_i q) _ n (am_i (an up u (j + 1))) _
      rw [m_X9_above_19, Tr.nx g2, g2, if_neg (by rw [i_le (by omega) (by omega) (by omega) (by omega)]; omega), if_neg (by rw [i_eq (by omega) (by omega) (by omega) (by omega)]; omega), i_add, i_ibt (by omega) (by omega) (by omega), cond_true, i_ix (by omega) (by omega), ix_ab, h.2 p g1 g3, i_add]
      rfl
    · show m_X9_above_19 (am_i u) (am_i q) m (am_i q) _ (n + 1) (am_i (an up u q)) _ = _
      rw [m_X9_above_19, if_pos (by rw [i_le (by omega) (by omega) (by omega) (by omega)]; omega)]
  · rw [if_neg (fun e => c4 (by omega))]
    refine lo_go (fun n j s => m_X9_above_19 (am_i u) (am_i q) m (am_i q) (fun u7 => some u7) n s (am_i (j : Int))) (fun j => am_i (an up u j)) 0 (d u + 1) rfl (Nat.zero_le _) (am_Fv (by omega)) (fun n j _ hj => ?_) (fun n => ?_)
    · obtain ⟨p, g1, g2, g3, g4⟩ := hT.anc hu hu2 j (by omega)
      show m_X9_above_19 (am_i u) (am_i q) m (am_i q) _ (n + 1) (am_i (an up u j)) _ = m_X9_above_19 (am_i u) (am_i q) m (am_i q) _ n (am_i (an up u (j + 1))) _
      rw [m_X9_above_19, Tr.nx g2, g2, if_neg (by rw [i_le (by omega) (by omega) (by omega) (by omega)]; omega), if_neg (by rw [i_eq (by omega) (by omega) (by omega) (by omega)]; omega), i_add, i_ibt (by omega) (by omega) (by omega), cond_true, i_ix (by omega) (by omega), ix_ab, h.2 p g1 g3, i_add]
      rfl
    · show m_X9_above_19 (am_i u) (am_i q) m (am_i q) _ (n + 1) (am_i (an up u (d u + 1))) _ = _
      rw [m_X9_above_19, hT.end hu hu2]
      split
      · rfl
      · rw [if_pos rfl]
end MAB
