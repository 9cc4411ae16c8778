/-! ===== mathematics: recode, the call ===== -/
section RD
variable {m : am_m} {r : am_rr} {s : Sx} {g : Og} {c t : Nat} {b : Bk}
theorem nj (j : Nat) : am_i (j : Int) + am_i 1 = am_i ((j + 1 : Nat) : Int) := by rw [i_add]; rfl
/-- a unit that can't be put -/
def rcP (g : Og) (c t : Nat) (j : Nat) : Bool := thr (gU g) (j : Int) && (decide (0 < gO g j c) && decide (9999 < gO g j t + gO g j c))
theorem rc_abs (hI : IG g) {j : Nat} (hj : j < 24) (h : thr (gU g) (j : Int) = false) : gO g j c = 0 := by
  refine (hI.2.2.2.2.2.2.1 j hj ?_).2.2.1 c
  by_cases q : gU g j = -2
  · exact q
  · rw [thr_t hj q] at h; cases h
theorem l_X8_recode_26 {x1 x2 : Int32} {k : Int32 → Option (Int32 × am_m)} (h : OC m r 4 g) (hI : IG g) (hc : c < 64) (ht : t < 64) : m_X8_recode_26 x1 x2 m r (am_i c) (am_i t) k am_F (am_i 0) (am_i 0) = if fi (rcP g c t) 24 < 24 then some (am_i (-1), m) else k (am_i (su (fun k => gO g k c) 24 : Nat)) := by
  refine lo_seek2 (fun n j (z : Int32) => m_X8_recode_26 x1 x2 m r (am_i c) (am_i t) k n z (am_i (j : Int))) (fun j => am_i (su (fun k => gO g k c) j : Nat)) 24 (rcP g c t) (fun _ => some (am_i (-1), m)) _ (n := am_F) (s0 := am_i 0) rfl (am_Fv (by omega)) (fun n j hj hp => ?_) (fun n j hj _ hp => ?_) (fun n _ => rfl)
  · have hp := hp j (Nat.le_refl j)
    show m_X8_recode_26 _ _ _ _ _ _ _ (n + 1) _ _ = m_X8_recode_26 _ _ _ _ _ _ _ n (am_i ((su (fun k => gO g k c) j + gO g j c : Nat) : Int)) _
    rw [m_X8_recode_26, if_neg (by rw [i_le (by omega) (by omega) (by omega) (by omega)]; omega), s_X1_isThere h.1 hI.1 (by omega) (by omega), Option.bind_some, nj]
    cases z : thr (gU g) (j : Int)
    · rw [if_neg (by decide), rc_abs hI hj z]; rfl
    · have e1 := h.2.2.1 j hj c hc
      have e2 := h.2.2.1 j hj t ht
      have b1 := hI.2.1 j c
      have b2 := hI.2.1 j t
      rw [if_pos (by decide), i_ibt (by omega) (by omega) (by omega), i_ibt (by omega) (by omega) (by omega), i_ibt (by omega) (by omega) (by omega), cond_true, cond_true, i_ixn (by omega), i_ixn (by omega), i_ixn (by omega), e1, e2]
      by_cases q : gO g j c = 0
      · rw [if_pos (by rw [i_zero, i_le (by omega) (by omega) (by omega) (by omega)]; omega), i_add]; rfl
      · rw [if_neg (by rw [i_zero, i_le (by omega) (by omega) (by omega) (by omega)]; omega), cond_true, cond_true, i_add, i_add, if_pos]
        · rfl
        · rw [i_le (by omega) (by omega) (by omega) (by omega)]
          unfold rcP at hp
          rw [z, Bool.true_and, decide_eq_true (show 0 < gO g j c by omega), Bool.true_and] at hp
          have := of_decide_eq_false hp
          omega
  · unfold rcP at hp
    rw [Bool.and_eq_true, Bool.and_eq_true] at hp
    obtain ⟨z, q, q2⟩ := hp
    have q := of_decide_eq_true q
    have q2 := of_decide_eq_true q2
    have e1 := h.2.2.1 j hj c hc
    have e2 := h.2.2.1 j hj t ht
    have b1 := hI.2.1 j c
    have b2 := hI.2.1 j t
    show m_X8_recode_26 _ _ _ _ _ _ _ (n + 1) _ _ = _
    rw [m_X8_recode_26, if_neg (by rw [i_le (by omega) (by omega) (by omega) (by omega)]; omega), s_X1_isThere h.1 hI.1 (by omega) (by omega), Option.bind_some, z, if_pos (by decide), i_ibt (by omega) (by omega) (by omega), i_ibt (by omega) (by omega) (by omega), i_ibt (by omega) (by omega) (by omega), cond_true, cond_true, i_ixn (by omega), i_ixn (by omega), i_ixn (by omega), e1, e2, if_neg (by rw [i_zero, i_le (by omega) (by omega) (by omega) (by omega)]; omega), cond_true, cond_true, i_add, if_neg (by rw [i_le (by omega) (by omega) (by omega) (by omega)]; omega)]
theorem l_X9_recode_26 {x1 x2 : Int32} {k : Int32 → Option (Int32 × am_m)} (h : OM m 3262 0 g) (hI : IG g) (hc : c < 64) (ht : t < 64) : m_X9_recode_26 x1 x2 m (am_i c) (am_i t) k am_F (am_i 0) (am_i 0) = if fi (rcP g c t) 24 < 24 then some (am_i (-1), m) else k (am_i (if su (fun k => gO g k c) 24 = 0 then 0 else 1)) := by
  refine lo_seek2 (fun n j (z : Int32) => m_X9_recode_26 x1 x2 m (am_i c) (am_i t) k n z (am_i (j : Int))) (fun j => am_i (if su (fun k => gO g k c) j = 0 then 0 else 1)) 24 (rcP g c t) (fun _ => some (am_i (-1), m)) _ (n := am_F) (s0 := am_i 0) rfl (am_Fv (by omega)) (fun n j hj hp => ?_) (fun n j hj _ hp => ?_) (fun n _ => rfl)
  · have hp := hp j (Nat.le_refl j)
    show m_X9_recode_26 _ _ _ _ _ _ (n + 1) _ _ = m_X9_recode_26 _ _ _ _ _ _ n (am_i (if su (fun k => gO g k c) j + gO g j c = 0 then 0 else 1)) _
    rw [m_X9_recode_26, if_neg (by rw [i_le (by omega) (by omega) (by omega) (by omega)]; omega), s_X9_isUnit h.TM (by omega) (by omega), Option.bind_some, nj]
    cases z : thr (gU g) (j : Int)
    · rw [if_pos (by decide), rc_abs hI hj z]; rfl
    · have hw := h.own hI hj
      have e1 := hw.1 c hc
      have e2 := hw.1 t ht
      have b1 := hI.2.1 j c
      have b2 := hI.2.1 j t
      have ea : am_i 72 + am_i 64 * am_i (j : Int) = am_i ((72 + 64 * j : Nat) : Int) := by rw [i_mul, i_add]; rfl
      have xc : am_ix (am_i ((72 + 64 * j : Nat) : Int) + am_i (c : Int)) = 72 + 64 * j + c := by rw [i_add, i_ix (by omega) (by omega)]; omega
      have yc : am_ib (am_i ((72 + 64 * j : Nat) : Int) + am_i (c : Int)) 15517 = true := by rw [i_add, i_ibt (by omega) (by omega) (by omega)]
      have xt : am_ix (am_i ((72 + 64 * j : Nat) : Int) + am_i (t : Int)) = 72 + 64 * j + t := by rw [i_add, i_ix (by omega) (by omega)]; omega
      have yt : am_ib (am_i ((72 + 64 * j : Nat) : Int) + am_i (t : Int)) 15517 = true := by rw [i_add, i_ibt (by omega) (by omega) (by omega)]
      unfold m_X9_ownAt
      rw [if_neg (by decide), Option.bind_some, ea, yc, cond_true, xc, e1]
      by_cases q : gO g j c = 0
      · rw [if_neg (fun y => y (by rw [q]; rfl)), q]; rfl
      · rw [if_pos (by rw [i_zero, i_eq (by omega) (by omega) (by omega) (by omega)]; omega), Option.bind_some, yc, cond_true, Option.bind_some, yt, cond_true, xc, xt, e1, e2, i_add, if_pos, if_neg (show ¬ su (fun k => gO g k c) j + gO g j c = 0 by omega)]
        rw [i_le (by omega) (by omega) (by omega) (by omega)]
        unfold rcP at hp
        rw [z, Bool.true_and, decide_eq_true (show 0 < gO g j c by omega), Bool.true_and] at hp
        have := of_decide_eq_false hp
        omega
  · unfold rcP at hp
    rw [Bool.and_eq_true, Bool.and_eq_true] at hp
    obtain ⟨z, q, q2⟩ := hp
    have q := of_decide_eq_true q
    have q2 := of_decide_eq_true q2
    have hw := h.own hI hj
    have e1 := hw.1 c hc
    have e2 := hw.1 t ht
    have b1 := hI.2.1 j c
    have b2 := hI.2.1 j t
    have ea : am_i 72 + am_i 64 * am_i (j : Int) = am_i ((72 + 64 * j : Nat) : Int) := by rw [i_mul, i_add]; rfl
    have xc : am_ix (am_i ((72 + 64 * j : Nat) : Int) + am_i (c : Int)) = 72 + 64 * j + c := by rw [i_add, i_ix (by omega) (by omega)]; omega
    have yc : am_ib (am_i ((72 + 64 * j : Nat) : Int) + am_i (c : Int)) 15517 = true := by rw [i_add, i_ibt (by omega) (by omega) (by omega)]
    have xt : am_ix (am_i ((72 + 64 * j : Nat) : Int) + am_i (t : Int)) = 72 + 64 * j + t := by rw [i_add, i_ix (by omega) (by omega)]; omega
    have yt : am_ib (am_i ((72 + 64 * j : Nat) : Int) + am_i (t : Int)) 15517 = true := by rw [i_add, i_ibt (by omega) (by omega) (by omega)]
    show m_X9_recode_26 _ _ _ _ _ _ (n + 1) _ _ = _
    unfold m_X9_recode_26 m_X9_ownAt
    rw [if_neg (by rw [i_le (by omega) (by omega) (by omega) (by omega)]; omega), s_X9_isUnit h.TM (by omega) (by omega), Option.bind_some, z, if_neg (by decide), Option.bind_some, ea, yc, cond_true, xc, e1, if_pos (by rw [i_zero, i_eq (by omega) (by omega) (by omega) (by omega)]; omega), Option.bind_some, yc, cond_true, Option.bind_some, yt, cond_true, xc, xt, e1, e2, i_add, if_neg (by rw [i_le (by omega) (by omega) (by omega) (by omega)]; omega)]
theorem rcG_no {j : Nat} (q : ¬ 0 < gO (rcG g c t j) j c) : rcG g c t (j + 1) = rcG g c t j ∧ rcB b g c t (j + 1) = rcB b g c t j := ⟨if_neg q, if_neg q⟩
theorem rcG_yes {j : Nat} (q : 0 < gO (rcG g c t j) j c) : rcG g c t (j + 1) = ogS (ogO (rcG g c t j) (rc1 (gO (rcG g c t j)) j c t)) (stU (rcG g c t j) j) ∧ rcB b g c t (j + 1) = rcK (rcB b g c t j) (gO (rcG g c t j) j) c t := ⟨if_pos q, if_pos q⟩
theorem l_X8_recode_121 {x1 x2 y3 : Int32} {k : am_m → Option (Int32 × am_m)} (h : OC m r 4 g) (hB : BC m 2970 b) (hR : RI r) (hG : ∀ j, j ≤ 24 → IG (rcG g c t j)) (hc : c < 64) (ht : t < 64) (hct : c ≠ t) : ∃ m', Fr (fun b => (5 ≤ b ∧ b < 58) ∨ (2970 ≤ b ∧ b < 2976)) m m' ∧ OC m' r 4 (rcG g c t 24) ∧ BC m' 2970 (rcB b g c t 24) ∧ m_X8_recode_121 x1 x2 r (am_i c) (am_i t) y3 k am_F (am_i 0) m = k m' := by
  refine Exists.elim (lo_inv (fun n j (q : am_m) => m_X8_recode_121 x1 x2 r (am_i c) (am_i t) y3 k n (am_i (j : Int)) q) (fun j q => Fr (fun b => (5 ≤ b ∧ b < 58) ∨ (2970 ≤ b ∧ b < 2976)) m q ∧ OC q r 4 (rcG g c t j) ∧ BC q 2970 (rcB b g c t j)) 0 24 k (n := am_F) (s0 := m) ⟨Fr.refl _ _, h, hB⟩ (by omega) (am_Fv (by omega)) (fun n j q _ hj hq => ?_) (fun n q hq => rfl)) (fun q hq => ⟨q, hq.1.1, hq.1.2.1, hq.1.2.2, hq.2⟩)
  obtain ⟨i1, i2, i3⟩ := hq
  have hI := hG j (by omega)
  have e1 := i2.2.2.1 j hj c hc
  have b1 := hI.2.1 j c
  show ∃ s', m_X8_recode_121 x1 x2 r (am_i c) (am_i t) y3 k (n + 1) (am_i (j : Int)) q = m_X8_recode_121 x1 x2 r (am_i c) (am_i t) y3 k n (am_i ((j + 1 : Nat) : Int)) s' ∧ _
  rw [m_X8_recode_121, if_neg (by rw [i_le (by omega) (by omega) (by omega) (by omega)]; omega), s_X1_isThere i2.1 hI.1 (by omega) (by omega), Option.bind_some, nj]
  cases z : thr (gU (rcG g c t j)) (j : Int)
  · have q0 := rc_abs (c := c) hI hj z
    obtain ⟨z1, z2⟩ := rcG_no (g := g) (c := c) (t := t) (b := b) (j := j) (by omega)
    exact ⟨q, if_pos (by decide), i1, by rw [z1]; exact i2, by rw [z2]; exact i3⟩
  · rw [if_neg (by decide), i_ibt (by omega) (by omega) (by omega), i_ibt (by omega) (by omega) (by omega), cond_true, cond_true, i_ixn (by omega), i_ixn (by omega), e1]
    by_cases q0 : 0 < gO (rcG g c t j) j c
    · obtain ⟨k', hk', ek, hk2⟩ := thr_i z
      have ek' : j = k' := by omega
      subst ek'
      obtain ⟨z1, z2⟩ := rcG_yes (g := g) (c := c) (t := t) (b := b) (j := j) q0
      obtain ⟨q', r1, r2, r3, r4⟩ := s_X8_recodeOwn i2 hI hR i3 hj hk2 hc ht hct q0
      rw [if_neg (by rw [i_zero, i_le (by omega) (by omega) (by omega) (by omega)]; omega), r1, Option.bind_some]
      exact ⟨q', rfl, i1.trans r2, by rw [z1]; exact r3, by rw [z2]; exact r4⟩
    · obtain ⟨z1, z2⟩ := rcG_no (g := g) (c := c) (t := t) (b := b) (j := j) q0
      rw [if_pos (by rw [i_zero, i_le (by omega) (by omega) (by omega) (by omega)]; omega)]
      exact ⟨q, rfl, i1, by rw [z1]; exact i2, by rw [z2]; exact i3⟩
theorem l_X9_recode_117 {x1 x2 : Int32} {k : Int32 → am_m → Option (Int32 × am_m)} (h : OM m 3262 0 g) (hB : BM m 3262 b) (hG : ∀ j, j ≤ 24 → IG (rcG g c t j) ∧ gO (rcG g c t j) j = gO g j) (hc : c < 64) (ht : t < 64) (hct : c ≠ t) : ∃ m', Fr (fun b => b = 3262 ∨ b = 3266 ∨ b = 3267) m m' ∧ OM m' 3262 0 (rcG g c t 24) ∧ BM m' 3262 (rcB b g c t 24) ∧ m_X9_recode_117 x1 x2 (am_i c) (am_i t) k am_F (am_i 0) (am_i 0) m = k (am_i (su (fun k => gO g k c) 24 : Nat)) m' := by
  refine Exists.elim (lo_inv (fun n j (q : Int32 × am_m) => m_X9_recode_117 x1 x2 (am_i c) (am_i t) k n q.1 (am_i (j : Int)) q.2) (fun j q => q.1 = am_i (su (fun k => gO g k c) j : Nat) ∧ Fr (fun b => b = 3262 ∨ b = 3266 ∨ b = 3267) m q.2 ∧ OM q.2 3262 0 (rcG g c t j) ∧ BM q.2 3262 (rcB b g c t j)) 0 24 (fun q => k q.1 q.2) (n := am_F) (s0 := (am_i 0, m)) ⟨rfl, Fr.refl _ _, h, hB⟩ (by omega) (am_Fv (by omega)) (fun n j q _ hj hq => ?_) (fun n q hq => rfl)) (fun q hq => ⟨q.2, hq.1.2.1, hq.1.2.2.1, hq.1.2.2.2, hq.2.trans (by rw [hq.1.1])⟩)
  obtain ⟨i0, i1, i2, i3⟩ := hq
  obtain ⟨hI, hO⟩ := hG j (by omega)
  have hw := i2.own hI hj
  have e1 := hw.1 c hc
  have bb1 := hI.2.1 j c
  have ea : am_i 72 + am_i 64 * am_i (j : Int) = am_i ((72 + 64 * j : Nat) : Int) := by rw [i_mul, i_add]; rfl
  have xc : am_ix (am_i ((72 + 64 * j : Nat) : Int) + am_i (c : Int)) = 72 + 64 * j + c := by rw [i_add, i_ix (by omega) (by omega)]; omega
  have yc : am_ib (am_i ((72 + 64 * j : Nat) : Int) + am_i (c : Int)) 15517 = true := by rw [i_add, i_ibt (by omega) (by omega) (by omega)]
  show ∃ s' : Int32 × am_m, m_X9_recode_117 x1 x2 (am_i c) (am_i t) k (n + 1) q.1 (am_i (j : Int)) q.2 = m_X9_recode_117 x1 x2 (am_i c) (am_i t) k n s'.1 (am_i ((j + 1 : Nat) : Int)) s'.2 ∧ (s'.1 = am_i ((su (fun k => gO g k c) j + gO g j c : Nat) : Int) ∧ _)
  rw [m_X9_recode_117]
  unfold m_X9_ownAt
  rw [if_neg (by rw [i_le (by omega) (by omega) (by omega) (by omega)]; omega), s_X9_isUnit i2.TM (by omega) (by omega), Option.bind_some, nj]
  cases z : thr (gU (rcG g c t j)) (j : Int)
  · have q0 := rc_abs (c := c) hI hj z
    obtain ⟨z1, z2⟩ := rcG_no (g := g) (c := c) (t := t) (b := b) (j := j) (by omega)
    rw [hO] at q0
    rw [if_pos (show am_i (b1 false : Nat) = 0 by decide)]
    exact ⟨q, rfl, by rw [q0, Nat.add_zero]; exact i0, i1, by rw [z1]; exact i2, by rw [z2]; exact i3⟩
  · rw [if_neg (by decide), Option.bind_some, ea, yc, cond_true, xc, e1]
    by_cases q0 : 0 < gO (rcG g c t j) j c
    · obtain ⟨k', hk', ek, hk2⟩ := thr_i z
      have ek' : j = k' := by omega
      subst ek'
      obtain ⟨z1, z2⟩ := rcG_yes (g := g) (c := c) (t := t) (b := b) (j := j) q0
      obtain ⟨q', r1, r2, r3, r4⟩ := s_X9_recodes i2 hI i3 hj hk2 hc ht hct
      rw [if_neg (by rw [i_zero, i_le (by omega) (by omega) (by omega) (by omega)]; omega), r1, Option.bind_some]
      exact ⟨(q.1 + am_i (gO (rcG g c t j) j c : Int), q'), rfl, by rw [i0, hO, i_add]; rfl, i1.trans r2, by rw [z1]; exact r3, by rw [z2]; exact r4⟩
    · obtain ⟨z1, z2⟩ := rcG_no (g := g) (c := c) (t := t) (b := b) (j := j) q0
      rw [hO] at q0
      rw [if_pos (by rw [i_zero, i_le (by omega) (by omega) (by omega) (by omega), hO]; omega)]
      exact ⟨q, rfl, by rw [show gO g j c = 0 by omega, Nat.add_zero]; exact i0, i1, by rw [z1]; exact i2, by rw [z2]; exact i3⟩
theorem rcB_IB (h : IB b) : ∀ j, IB (rcB b g c t j)
  | 0 => h
  | j + 1 => by
    show IB (if 0 < gO (rcG g c t j) j c then rcK (rcB b g c t j) (gO (rcG g c t j) j) c t else rcB b g c t j)
    split
    · exact rcB_IB h j
    · exact rcB_IB h j
end RD
