section RE
variable {m : am_m} {r : am_rr} {s : Sx}
theorem q_recode (h : GS m r s) (a b : Int32) : ∃ y m1 m2, m_X8_recode m r a b = some (y, m1) ∧ m_X9_recode m1 a b = some (y, m2) ∧ Good m2 r := by
  obtain ⟨x, h1, h2, rfl⟩ := i_any a
  obtain ⟨y, h3, h4, rfl⟩ := i_any b
  by_cases c1 : 0 ≤ x ∧ x ≤ 63
  · by_cases c2 : 0 ≤ y ∧ y ≤ 63
    · obtain ⟨c, rfl⟩ : ∃ c : Nat, x = c := ⟨x.toNat, by omega⟩
      obtain ⟨t, rfl⟩ : ∃ t : Nat, y = t := ⟨y.toNat, by omega⟩
      have hc : c < 64 := by omega
      have ht : t < 64 := by omega
      by_cases c3 : c = t
      · refine ⟨am_i (-1), m, m, ?_, ?_, h.g⟩
        · unfold m_X8_recode
          rw [s_c8 h1 h2, if_pos c1, Option.bind_some, if_neg (by decide), s_c8 h3 h4, if_pos c2, Option.bind_some, if_neg (by decide), if_neg (fun y => y (by rw [c3]))]
        · unfold m_X9_recode
          rw [s_c9 h1 h2, if_pos c1, Option.bind_some, if_neg (by decide), s_c9 h3 h4, if_pos c2, Option.bind_some, if_neg (by decide), if_neg (fun y => y (by rw [c3]))]
      · have c3' : ¬ am_i (c : Int) = am_i (t : Int) := by rw [i_eq (by omega) (by omega) (by omega) (by omega)]; omega
        by_cases c4 : fi (rcP (xG s) c t) 24 < 24
        · refine ⟨am_i (-1), m, m, ?_, ?_, h.g⟩
          · unfold m_X8_recode
            rw [s_c8 h1 h2, if_pos c1, Option.bind_some, if_neg (by decide), s_c8 h3 h4, if_pos c2, Option.bind_some, if_neg (by decide), if_pos c3', l_X8_recode_26 h.2.1.1 h.ig hc ht, if_pos c4]
          · unfold m_X9_recode
            rw [s_c9 h1 h2, if_pos c1, Option.bind_some, if_neg (by decide), s_c9 h3 h4, if_pos c2, Option.bind_some, if_neg (by decide), if_pos c3', l_X9_recode_26 h.2.2.1.1 h.ig hc ht, if_pos c4]
        · by_cases c5 : su (fun k => gO (xG s) k c) 24 = 0
          · refine ⟨am_i (-1), m, m, ?_, ?_, h.g⟩
            · unfold m_X8_recode
              rw [s_c8 h1 h2, if_pos c1, Option.bind_some, if_neg (by decide), s_c8 h3 h4, if_pos c2, Option.bind_some, if_neg (by decide), if_pos c3', l_X8_recode_26 h.2.1.1 h.ig hc ht, if_neg c4, c5, if_neg (fun y => y rfl)]
            · unfold m_X9_recode
              rw [s_c9 h1 h2, if_pos c1, Option.bind_some, if_neg (by decide), s_c9 h3 h4, if_pos c2, Option.bind_some, if_neg (by decide), if_pos c3', l_X9_recode_26 h.2.2.1.1 h.ig hc ht, if_neg c4, if_pos c5, if_neg (fun y => y rfl)]
          · have hb : ∀ k, k < 24 → 0 < gO (xG s) k c → gO (xG s) k t + gO (xG s) k c ≤ 9999 := fun k hk hk0 => by
              have q := fi_no (rcP (xG s) c t) 24 k (by have := fi_le (rcP (xG s) c t) 24; omega)
              unfold rcP at q
              cases z : thr (gU (xG s)) (k : Int)
              · have := rc_abs (c := c) h.ig hk z
                omega
              · rw [z, Bool.true_and, decide_eq_true hk0, Bool.true_and] at q
                have := of_decide_eq_false q
                omega
            have hG := rcG_I h.ig hb
            have sb : su (fun k => gO (xG s) k c) 24 ≤ 9999 * 24 := by
              have := su_b (f := fun k => gO (xG s) k c) (fun k => h.ig.2.1 k c) 24
              omega
            obtain ⟨m1, e1, f1, hP, hG1, hB1⟩ := keep8 h
            obtain ⟨m2, f2, o2, hB2, e2⟩ := l_X8_recode_121 (x1 := am_i c) (x2 := am_i t) (y3 := am_i (su (fun k => gO (xG s) k c) 24 : Nat)) (k := fun m25 => (m_X0_tally m25 2970 (am_i 10) (am_i (su (fun k => gO (xG s) k c) 24 : Nat))).bind fun q26 => some (am_i (su (fun k => gO (xG s) k c) 24 : Nat), q26)) hG1 hB1 h.1 (fun j hj => (hG j hj).1) hc ht c3
            obtain ⟨m3, e3, f3, hB3⟩ := s_X0_tally (w := 10) (x := am_i (su (fun k => gO (xG s) k c) 24 : Nat)) hB2 (by decide)
            have o3 := o2.kept h.1 og4 (fun b b1 b2 => f3 b (by omega)) (r' := r) rfl
            have F13 : ∀ b, ¬ (5 ≤ b ∧ b < 58) → ¬ (2970 ≤ b ∧ b < 2976) → m3 b = m1 b := fun b b1 b3 => by
              rw [f3 b b3, f2 b (by omega)]
            have F8 : ∀ b, ¬ (498 ≤ b ∧ b < 2970) → ¬ (5 ≤ b ∧ b < 58) → ¬ (2970 ≤ b ∧ b < 2976) → m3 b = m b := fun b b0 b1 b3 => by
              rw [F13 b b1 b3]; exact f1 b b0
            have ms : MS m3 s := h.2.2.1.kept (fun b b1 _ => F8 b (by omega) (by omega) (by omega))
            obtain ⟨k1, g1, p1, p1', hP9, w1⟩ := keep9 ms h.2.2.2
            have ms1 : OM k1 3262 0 (xG s) := ms.1.kept (fun i _ => by rw [w1])
            have hBk : BM k1 3262 (xB s) := ms.2.1.copy (fun i _ _ => by rw [w1])
            obtain ⟨k2, p2, q2, hBk2, g2⟩ := l_X9_recode_117 (x1 := am_i c) (x2 := am_i t) (k := fun u27 m28 => (m_X9_counts m28 (am_i 10) u27).bind fun q29 => some (u27, q29)) ms1 hBk (fun j hj => ⟨(hG j hj).1, (hG j hj).2.1 j (Nat.le_refl j)⟩) hc ht c3
            obtain ⟨k3, g3, p3, hBk3⟩ := s_X9_counts (w := 10) (x := am_i (su (fun k => gO (xG s) k c) 24 : Nat)) hBk2 (by decide)
            have NB : ∀ b, b ≠ 3262 → b ≠ 3266 → b ≠ 3267 → k3 b = k1 b := fun b z1 z2 z3 => by
              rw [p3.1 b z1, p2 b (by omega)]
            refine ⟨am_i (su (fun k => gO (xG s) k c) 24 : Nat), m3, k3, ?_, ?_, act_end h (G := rcG (xG s) c t 24) (B := bkAdd (rcB (xB s) (xG s) c t 24) 10 (am_i (su (fun k => gO (xG s) k c) 24 : Nat))) o3 hB3 (hP.kept h.1 (by omega) (fun b b1 b2 => F13 b (by omega) (by omega)) (fun _ _ => rfl)) (fun b hb => F8 b (by omega) (by omega) (by omega)) (q2.fk p3) hBk3 (hP9.kept (by rw [NB 3261 (by decide) (by decide) (by decide)]) (NB 3265 (by decide) (by decide) (by decide))) (fun b hb => by rw [NB b (by omega) (by omega) (by omega)]; exact p1 b (fun z => by unfold F5 at z; omega)) (fun b hb => by rw [NB b (by omega) (by omega) (by omega), p1 b (fun z => by unfold F5 at z; omega)]; exact F8 b (by omega) (by omega) (by omega)) (fun j hj => by rw [NB 3261 (by decide) (by decide) (by decide), p1' j hj, F8 3261 (by omega) (by omega) (by omega)]) (hG 24 (Nat.le_refl _)).1 (bkAdd_IB (rcB_IB h.2.2.2.2.1 24))⟩
            · unfold m_X8_recode
              rw [s_c8 h1 h2, if_pos c1, Option.bind_some, if_neg (by decide), s_c8 h3 h4, if_pos c2, Option.bind_some, if_neg (by decide), if_pos c3', l_X8_recode_26 h.2.1.1 h.ig hc ht, if_neg c4, if_pos (by rw [i_zero, i_eq (by omega) (by omega) (by omega) (by omega)]; omega), e1, Option.bind_some, e2, show m_X0_tally m2 2970 (am_i 10) _ = some m3 from e3]
              rfl
            · unfold m_X9_recode
              rw [s_c9 h1 h2, if_pos c1, Option.bind_some, if_neg (by decide), s_c9 h3 h4, if_pos c2, Option.bind_some, if_neg (by decide), if_pos c3', l_X9_recode_26 ms.1 h.ig hc ht, if_neg c4, if_neg c5, if_pos (by decide), g1, Option.bind_some, g2, show m_X9_counts k2 (am_i 10) _ = some k3 from g3]
              rfl
    · refine ⟨am_i (-1), m, m, ?_, ?_, h.g⟩
      · unfold m_X8_recode
        rw [s_c8 h1 h2, if_pos c1, Option.bind_some, if_neg (by decide), s_c8 h3 h4, if_neg c2]
        rfl
      · unfold m_X9_recode
        rw [s_c9 h1 h2, if_pos c1, Option.bind_some, if_neg (by decide), s_c9 h3 h4, if_neg c2]
        rfl
  · refine ⟨am_i (-1), m, m, ?_, ?_, h.g⟩
    · unfold m_X8_recode
      rw [s_c8 h1 h2, if_neg c1]
      rfl
    · unfold m_X9_recode
      rw [s_c9 h1 h2, if_neg c1]
      rfl
end RE
