/-! ===== mathematics: give, the call ===== -/
section GJ
variable {m : am_m} {r : am_rr} {s : Sx}
theorem com_le (f g : Nat → Nat) : com f g ≤ 448 := by
  have q : ∀ n, su (fun l => cn (fun i => sp f l i && sp g l i) (2 ^ (6 - l))) n ≤ 64 * n := by
    intro n
    induction n with
    | zero => exact Nat.le_refl _
    | succ n ih =>
      rw [su_s]
      have a := cn_le (fun i => sp f n i && sp g n i) (2 ^ (6 - n))
      have b : 2 ^ (6 - n) ≤ 2 ^ 6 := Nat.pow_le_pow_right (by decide) (by omega)
      have c : (2 : Nat) ^ 6 = 64 := rfl
      omega
  exact q 7
theorem q_give (h : GS m r s) (a b c d : Int32) : ∃ y m1 m2, m_X8_give m r a b c d = some (y, m1) ∧ m_X9_give m1 a b c d = some (y, m2) ∧ Good m2 r := by
  obtain ⟨x, h1, h2, rfl⟩ := i_any a
  obtain ⟨y, h3, h4, rfl⟩ := i_any b
  obtain ⟨z, h5, h6, rfl⟩ := i_any c
  obtain ⟨w, h7, h8, rfl⟩ := i_any d
  cases c1 : thr (gU (xG s)) x
  · refine ⟨am_i (-1), m, m, ?_, ?_, h.g⟩
    · unfold m_X8_give
      rw [s_t8 h h1 h2, c1]
      rfl
    · unfold m_X9_give
      rw [s_t9 h h1 h2, c1]
      rfl
  cases c2 : thr (gU (xG s)) y
  · refine ⟨am_i (-1), m, m, ?_, ?_, h.g⟩
    · unfold m_X8_give
      rw [s_t8 h h1 h2, c1, Option.bind_some, if_neg (by decide), s_t8 h h3 h4, c2]
      rfl
    · unfold m_X9_give
      rw [s_t9 h h1 h2, c1, Option.bind_some, if_neg (by decide), s_t9 h h3 h4, c2]
      rfl
  obtain ⟨u, hu, rfl, hu2⟩ := thr_i c1
  obtain ⟨v, hv, rfl, hv2⟩ := thr_i c2
  by_cases c3 : u = v
  · refine ⟨am_i (-1), m, m, ?_, ?_, h.g⟩
    · unfold m_X8_give
      rw [s_t8 h h1 h2, c1, Option.bind_some, if_neg (by decide), s_t8 h h3 h4, c2, Option.bind_some, if_neg (by decide), if_pos (by rw [c3])]
    · unfold m_X9_give
      rw [s_t9 h h1 h2, c1, Option.bind_some, if_neg (by decide), s_t9 h h3 h4, c2, Option.bind_some, if_neg (by decide), if_pos (by rw [c3])]
  have c3' : ¬ am_i (u : Int) = am_i (v : Int) := by rw [i_eq (by omega) (by omega) (by omega) (by omega)]; omega
  by_cases c4 : 0 ≤ z ∧ z ≤ w ∧ w ≤ 63
  · obtain ⟨l, rfl⟩ : ∃ l : Nat, z = l := ⟨z.toNat, by omega⟩
    obtain ⟨t, rfl⟩ : ∃ t : Nat, w = t := ⟨w.toNat, by omega⟩
    have hl : l ≤ t := by omega
    have ht : t < 64 := by omega
    have ix : am_ix (am_i (u : Int)) = u := i_ixn (by omega)
    have iy : am_ix (am_i (v : Int)) = v := i_ixn (by omega)
    have bx : am_ib (am_i (u : Int)) 24 = true := i_ibt (by omega) (by omega) (by omega)
    have bY : am_ib (am_i (v : Int)) 24 = true := i_ibt (by omega) (by omega) (by omega)
    cases c5 : ftB (gO (xG s) u) (gO (xG s) v) l (t + 1 - l)
    · refine ⟨am_i (-1), m, m, ?_, ?_, h.g⟩
      · unfold m_X8_give
        rw [s_t8 h h1 h2, c1, Option.bind_some, if_neg (by decide), s_t8 h h3 h4, c2, Option.bind_some, if_neg (by decide), if_neg c3', s_p8 h5 h6 h7 h8, if_pos c4, Option.bind_some, if_pos (by decide), bx, cond_true, bY, cond_true, ix, iy, s_X5_fits (h.wc hu) (h.wc hv) hl ht, c5]
        rfl
      · unfold m_X9_give
        rw [s_t9 h h1 h2, c1, Option.bind_some, if_neg (by decide), s_t9 h h3 h4, c2, Option.bind_some, if_neg (by decide), if_neg c3', s_c9 h5 h6, if_pos (by omega), Option.bind_some, if_neg (by decide), s_c9 h7 h8, if_pos (by omega), Option.bind_some, if_neg (by decide), if_neg (by rw [i_lt (by omega) (by omega) (by omega) (by omega)]; omega), s_X9_canTake hu hv (h.wm hu) (h.wm hv) hl ht, c5]
        rfl
    · obtain ⟨zb, ez, hz⟩ := bitsOf_bit (m := m) hl ht
      -- the class
      obtain ⟨m1, e1, f1, hP, hG1, hB1⟩ := keep8 h
      have ez1 : m_X6_bitsOf m1 (am_i l) (am_i t) = some zb := ez
      obtain ⟨m2, e2, f2, hB2⟩ := s_X0_parted (x := am_i (com (fIn (gO (xG s) u) l t) (fOut (gO (xG s) u) l t) : Nat)) hB1
      have hG2 : OC m2 r 4 (xG s) := hG1.kept h.1 og4 (fun b b1 b2 => f2 b (by omega)) rfl
      obtain ⟨m3, e3, f3, hB3⟩ := s_X0_merged (x := am_i (com (fIn (gO (xG s) u) l t) (gO (xG s) v) : Nat)) hB2
      have hG3 : OC m3 r 4 (xG s) := hG2.kept h.1 og4 (fun b b1 b2 => f3 b (by omega)) rfl
      have ep := s_X5_pour (a := aW 4 u) (b := aW 4 v) (by unfold aW; omega) (hG3.own h.ig hu) (hG3.own h.ig hv) hl ht
      have o4 := poM_ow hG3 h.1 hu hv c3 hl ht
      have pF : ∀ b, ¬ (8 ≤ b ∧ b < 32) → poM m3 (aW 4 u) (aW 4 v) (gO (xG s) u) (gO (xG s) v) l (t + 1 - l) b = m3 b := fun b hb => poM_F b (fun e => hb (by unfold aW at e; omega))
      generalize poM m3 (aW 4 u) (aW 4 v) (gO (xG s) u) (gO (xG s) v) l (t + 1 - l) = m4 at ep o4 pF
      obtain ⟨m5, e5, f5, o5⟩ := s_st8 o4 h.tr h.1 og4 hu hu2
      obtain ⟨m6, e6, f6, o6⟩ := s_st8 o5 h.tr h.1 og4 hv hv2
      rw [su_fIn64 hl ht] at ep
      have hB6 : BC m6 2970 _ := hB3.kept (fun b b1 b2 => by rw [f6 b (by unfold aS; omega), f5 b (by unfold aS; omega), pF b (by omega)])
      obtain ⟨m7, e7, f7, hB7⟩ := s_X0_tally (w := 8) (x := am_i (su (fIn (gO (xG s) u) l t) 64 : Nat)) hB6 (by decide)
      have o7 := o6.kept h.1 og4 (fun b b1 b2 => f7 b (by omega)) (r' := r) rfl
      have F47 : ∀ b, ¬ (8 ≤ b ∧ b < 32) → b ≠ 6 → ¬ (2970 ≤ b ∧ b < 2976) → m7 b = m1 b := fun b b1 b2 b3 => by
        rw [f7 b b3, f6 b (by unfold aS; omega), f5 b (by unfold aS; omega), pF b b1, f3 b b3, f2 b b3]
      have F8 : ∀ b, ¬ (498 ≤ b ∧ b < 2970) → ¬ (8 ≤ b ∧ b < 32) → b ≠ 6 → ¬ (2970 ≤ b ∧ b < 2976) → m7 b = m b := fun b b0 b1 b2 b3 => by
        rw [F47 b b1 b2 b3]; exact f1 b b0
      -- the reference
      have ms : MS m7 s := h.2.2.1.kept (fun b b1 _ => F8 b (by omega) (by omega) (by omega) (by omega))
      obtain ⟨k1, g1, p1, p1', hP9, w1⟩ := keep9 ms h.2.2.2
      have hw1 : RowW k1 (72 + 64 * u) (gO (xG s) u) := ⟨fun c hc => by rw [w1]; exact (ms.1.own h.ig hu).1 c hc, (ms.1.own h.ig hu).2⟩
      obtain ⟨g2, r6, r7⟩ := s_X9_parted (l := l) (h := t) hw1 (by omega) (by omega) ht
      have nb2 : ∀ b, b ≠ 3266 → b ≠ 3267 → prM k1 (gO (xG s) u) l t 64 b = k1 b := fun b q1 q2 => prM_ne q1 q2
      generalize prM k1 (gO (xG s) u) l t 64 = k2 at g2 r6 r7 nb2
      have hBk : BM k2 3262 (xB s) := ms.2.1.copy (fun i _ _ => by rw [nb2 3262 (by decide) (by decide), w1])
      obtain ⟨k3, g3, p3, hB1'⟩ := s_X9_counts (w := 1) (x := am_i (com (fIn (gO (xG s) u) l t) (fOut (gO (xG s) u) l t) : Nat)) hBk (by decide)
      obtain ⟨k4, g4, p4, hB2'⟩ := s_X9_counts (w := 3) (x := am_i 1) hB1' (by decide)
      obtain ⟨k5, g5, p5, hB3'⟩ := s_X9_counts (w := 8) (x := am_i (su (fIn (gO (xG s) u) l t) 64 : Nat)) hB2' (by decide)
      have pp : FK k2 k5 := (p3.trans p4).trans p5
      have w5 : ∀ i, i < 15456 → k5 3262 i = m7 3262 i := fun i hi => by rw [pp.2 i hi, nb2 3262 (by decide) (by decide), w1]
      have ms5 : OM k5 3262 0 (xG s) := ms.1.kept (fun i hi => by rw [w5 _ (by omega)])
      obtain ⟨k6, g6, p6, o8, hB5'⟩ := s_X9_takes (l := l) (t := t) ms5 h.ig hu hv c3 hB3' (by omega) ht
      rw [bkAdd_comm (w := 8) (v := 0) (by decide), bkAdd_comm (w := 8) (v := 2) (by decide)] at hB5'
      obtain ⟨k7, g7, p7, p7', o9⟩ := s_st9 o8 h.tr hu hu2
      obtain ⟨k8, g8, p8, p8', o10⟩ := s_st9 o9 h.tr hv hv2
      have NB : ∀ b, b ≠ 3262 → b ≠ 3266 → b ≠ 3267 → k8 b = k1 b := fun b q1 q2 q3 => by
        rw [p8 b q1, p7 b q1, p6 b (by omega), pp.1 b q1, nb2 b q2 q3]
      refine ⟨am_i (su (fIn (gO (xG s) u) l t) 64 : Nat), m7, k8, ?_, ?_, act_end h (G := ogO (ogS (ogS (xG s) (stU (xG s) u)) (stU (ogS (xG s) (stU (xG s) u)) v)) (gvO (gO (xG s)) u v l t)) (B := bkAdd (bkAdd (bkAdd (bkAdd (bkAdd (xB s) 1 (am_i (com (fIn (gO (xG s) u) l t) (fOut (gO (xG s) u) l t) : Nat))) 3 (am_i 1)) 0 (am_i (com (fIn (gO (xG s) u) l t) (gO (xG s) v) : Nat))) 2 (am_i 1)) 8 (am_i (su (fIn (gO (xG s) u) l t) 64 : Nat))) o7 hB7 (hP.kept h.1 (by omega) (fun b b1 b2 => F47 b (by omega) (by omega) (by omega)) (fun _ _ => rfl)) (fun b hb => F8 b (by omega) (by omega) (by omega) (by omega)) o10 (hB5'.copy (fun i i1 i2 => by rw [p8' i (by omega), p7' i (by omega)])) (hP9.kept (by rw [NB 3261 (by decide) (by decide) (by decide)]) (NB 3265 (by decide) (by decide) (by decide))) (fun b hb => by rw [NB b (by omega) (by omega) (by omega)]; exact p1 b (fun z => by unfold F5 at z; omega)) (fun b hb => by rw [NB b (by omega) (by omega) (by omega), p1 b (fun z => by unfold F5 at z; omega)]; exact F8 b (by omega) (by omega) (by omega) (by omega)) (fun j hj => by rw [NB 3261 (by decide) (by decide) (by decide), p1' j hj, F8 3261 (by omega) (by omega) (by omega) (by omega)]) (h.ig.two hu hu2 hv hv2 (gvO_9 c3 h.ig.2.1 hl c5) (fun k q1 q2 c => gvO_o q2 q1)) h.2.2.2.2.1⟩
      · unfold m_X8_give
        rw [s_t8 h h1 h2, c1, Option.bind_some, if_neg (by decide), s_t8 h h3 h4, c2, Option.bind_some, if_neg (by decide), if_neg c3', s_p8 h5 h6 h7 h8, if_pos c4, Option.bind_some, if_pos (by decide), bx, cond_true, bY, cond_true, ix, iy, s_X5_fits (h.wc hu) (h.wc hv) hl ht, c5, Option.bind_some, if_pos (by decide), e1, Option.bind_some, s_X6_maskOf (hG1.own h.ig hu), Option.bind_some, ez1, Option.bind_some, s_X6_common (Bm_in hz) (Bm_out hz (Or.inl rfl)), Option.bind_some, show m_X0_parted m1 2970 _ = some m2 from e2, Option.bind_some, s_X6_maskOf (hG2.own h.ig hv), Option.bind_some, s_X6_common (Bm_in hz) (Bm_mk _), Option.bind_some, show m_X0_merged m2 2970 _ = some m3 from e3, Option.bind_some, ep, Option.bind_some, e5, Option.bind_some, e6, Option.bind_some, show m_X0_tally m6 2970 (am_i 8) _ = some m7 from e7]
        rfl
      · unfold m_X9_give
        rw [s_X9_isUnit ms.1.TM h1 h2, c1, Option.bind_some, if_neg (by decide), s_X9_isUnit ms.1.TM h3 h4, c2, Option.bind_some, if_neg (by decide), if_neg c3', s_c9 h5 h6, if_pos (by omega), Option.bind_some, if_neg (by decide), s_c9 h7 h8, if_pos (by omega), Option.bind_some, if_neg (by decide), if_neg (by rw [i_lt (by omega) (by omega) (by omega) (by omega)]; omega), s_X9_canTake hu hv (ms.1.own h.ig hu) (ms.1.own h.ig hv) hl ht, c5, Option.bind_some, if_pos (by decide), g1, Option.bind_some]
        unfold m_X9_ownAt
        have ea : am_i 72 + am_i 64 * am_i (u : Int) = am_i ((72 + 64 * u : Nat) : Int) := by rw [i_mul, i_add]; rfl
        have bc : (com (fIn (gO (xG s) u) l t) (gO (xG s) v) : Nat) ≤ 448 := com_le _ _
        rw [Option.bind_some, ea, g2, Option.bind_some, s_X9_all r6, Option.bind_some, show m_X9_counts k2 (am_i 1) _ = some k3 from g3, Option.bind_some, show m_X9_counts k3 (am_i 3) _ = some k4 from g4, Option.bind_some, show m_X9_counts k4 (am_i 8) _ = some k5 from g5, Option.bind_some, g6, Option.bind_some, g7, Option.bind_some, g8, Option.bind_some, if_pos (by rw [i_zero, i_le (by omega) (by omega) (by omega) (by omega)]; omega)]
  · refine ⟨am_i (-1), m, m, ?_, ?_, h.g⟩
    · unfold m_X8_give
      rw [s_t8 h h1 h2, c1, Option.bind_some, if_neg (by decide), s_t8 h h3 h4, c2, Option.bind_some, if_neg (by decide), if_neg c3', s_p8 h5 h6 h7 h8, if_neg c4]
      rfl
    · unfold m_X9_give
      rw [s_t9 h h1 h2, c1, Option.bind_some, if_neg (by decide), s_t9 h h3 h4, c2, Option.bind_some, if_neg (by decide), if_neg c3', s_c9 h5 h6]
      by_cases d1 : 0 ≤ z ∧ z ≤ 63
      · rw [if_pos d1, Option.bind_some, if_neg (by decide), s_c9 h7 h8]
        by_cases d2 : 0 ≤ w ∧ w ≤ 63
        · rw [if_pos d2, Option.bind_some, if_neg (by decide), if_pos (by rw [i_lt (by omega) (by omega) (by omega) (by omega)]; omega)]
        · rw [if_neg d2]; rfl
      · rw [if_neg d1]; rfl
end GJ
