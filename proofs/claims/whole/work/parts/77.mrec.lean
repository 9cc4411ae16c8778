/-! ===== mathematics: recode ===== -/
/-- a row with n at t alone -/
def oneR (t n : Nat) (e : Nat) : Nat := if e = t then n else 0
/-- unit u's own of c put to t -/
def rc1 (ow : Nat → Nat → Nat) (u c t : Nat) : Nat → Nat → Nat := fun k e => if k = u then (if e = t then ow u t + ow u c else if e = c then 0 else ow u e) else ow k e
theorem Bm_span {z : Int64} {f : Nat → Nat} {c : Nat} (hf : 0 < f c) (hz : ∀ e, e < 64 → (jn z).testBit e = decide (c ≤ e ∧ e ≤ c)) : Bm 0 (fIn f c c) z := by
  intro e he
  rw [hz e he]
  show _ = (decide (e % 2 ^ 0 = 0) && decide (0 < fIn f c c (e / 2 ^ 0)))
  rw [Nat.pow_zero, Nat.div_one, Nat.mod_one]
  show _ = (true && _)
  rw [Bool.true_and]
  unfold fIn
  by_cases q : c ≤ e ∧ e ≤ c
  · have : e = c := by omega
    rw [if_pos q, decide_eq_true q, this, decide_eq_true hf]
  · rw [if_neg q, decide_eq_false q]; rfl
theorem Bm_one {z : Int64} {t n : Nat} (hn : 0 < n) (hz : ∀ e, e < 64 → (jn z).testBit e = decide (t ≤ e ∧ e ≤ t)) : Bm 0 (oneR t n) z := by
  intro e he
  rw [hz e he]
  show _ = (decide (e % 2 ^ 0 = 0) && decide (0 < oneR t n (e / 2 ^ 0)))
  rw [Nat.pow_zero, Nat.div_one, Nat.mod_one]
  show _ = (true && _)
  rw [Bool.true_and]
  unfold oneR
  by_cases q : e = t
  · rw [if_pos q, decide_eq_true (show t ≤ e ∧ e ≤ t by omega), decide_eq_true hn]
  · rw [if_neg q, decide_eq_false (show ¬ (t ≤ e ∧ e ≤ t) by omega)]; rfl
section RC
variable {m : am_m} {r : am_rr} {s : Sx} {g : Og} {u c t : Nat} {k : Bk}
/-- what is counted when a unit's own is put to another category -/
def rcK (k : Bk) (f : Nat → Nat) (c t : Nat) : Bk := bkAdd (bkAdd (bkAdd (bkAdd k 1 (am_i (com (fIn f c c) (fOut f c c) : Nat))) 3 (am_i 1)) 0 (am_i (com (oneR t (f c)) (fOut f c c) : Nat))) 2 (am_i 1)
theorem s_X8_recodeOwn (h : OC m r 4 g) (hI : IG g) (hR : RI r) (hB : BC m 2970 k) (hu : u < 24) (hu2 : gU g u ≠ -2) (hc : c < 64) (ht : t < 64) (hct : c ≠ t) (hn : 0 < gO g u c) : ∃ m', m_X8_recodeOwn m (am_i u) (am_i c) (am_i t) = some m' ∧ Fr (fun b => (5 ≤ b ∧ b < 58) ∨ (2970 ≤ b ∧ b < 2976)) m m' ∧ OC m' r 4 (ogS (ogO g (rc1 (gO g) u c t)) (stU g u)) ∧ BC m' 2970 (rcK k (gO g u) c t) := by
  obtain ⟨z, ez, hz⟩ := bitsOf_bit (m := m) (Nat.le_refl c) hc
  have hw := h.own hI hu
  obtain ⟨m1, e1, f1, hB1⟩ := s_X0_parted (x := am_i (com (fIn (gO g u) c c) (fOut (gO g u) c c) : Nat)) hB
  obtain ⟨z2, ez2, hz2⟩ := bitsOf_bit (m := m1) (Nat.le_refl t) ht
  obtain ⟨m2, e2, f2, hB2⟩ := s_X0_merged (x := am_i (com (oneR t (gO g u c)) (fOut (gO g u) c c) : Nat)) hB1
  have o2 : OC m2 r 4 g := (h.kept hR og4 (fun b b1 b2 => f1 b (by omega)) (r' := r) rfl).kept hR og4 (fun b b1 b2 => f2 b (by omega)) rfl
  have hw2 := o2.own hI hu
  have o3 : OC (am_si (am_si m2 (aW 4 u) t (am_i (gO g u t : Int) + am_i (gO g u c : Int))) (aW 4 u) c (am_i 0)) r 4 (ogO g (rc1 (gO g) u c t)) := by
    refine o2.ow hR og4 (((Fr.refl _ _).si2 ⟨by unfold aW; omega, by unfold aW; omega⟩).si2 ⟨by unfold aW; omega, by unfold aW; omega⟩) (fun j hj e he => ?_)
    rw [m_si, m_si]
    show _ = am_i ((if j = u then (if e = t then gO g u t + gO g u c else if e = c then 0 else gO g u e) else gO g j e : Nat) : Int)
    by_cases q : j = u
    · rw [if_pos q, q]
      by_cases q1 : e = c
      · rw [if_pos ⟨rfl, q1⟩, if_neg (fun y => hct (q1.symm.trans y)), if_pos q1]; rfl
      · rw [if_neg (fun y => q1 y.2), if_neg q1]
        by_cases q2 : e = t
        · rw [if_pos ⟨rfl, q2⟩, if_pos q2, i_add]; rfl
        · rw [if_neg (fun y => q2 y.2), if_neg q2]; exact hw2.1 e he
    · rw [if_neg (fun y => q (by have := y.1; unfold aW at this; omega)), if_neg (fun y => q (by have := y.1; unfold aW at this; omega)), if_neg q]
      exact o2.2.2.1 j hj e he
  obtain ⟨m4, e4, f4, o4⟩ := s_st8 o3 hI.1 hR og4 hu hu2
  refine ⟨m4, ?_, fun b hb => ?_, o4, hB2.kept (fun b b1 b2 => by rw [f4 b (by unfold aS; omega), si_ne (by unfold aW; omega), si_ne (by unfold aW; omega)])⟩
  · unfold m_X8_recodeOwn
    rw [i_ibt (by omega) (by omega) (by omega), cond_true, i_ixn (by omega), ez, Option.bind_some, s_X6_maskOf hw, Option.bind_some, s_X6_common (Bm_span hn hz) (Bm_out hz (Or.inr rfl)), Option.bind_some, show m_X0_parted m 2970 _ = some m1 from e1, Option.bind_some, ez2, Option.bind_some, s_X6_common (Bm_one hn hz2) (Bm_out hz (Or.inr rfl)), Option.bind_some, show m_X0_merged m1 2970 _ = some m2 from e2, Option.bind_some, i_ibt (by omega) (by omega) (by omega), i_ibt (by omega) (by omega) (by omega), i_ixn (by omega), i_ixn (by omega)]
    simp only [cond_true, am_letF]
    rw [hw2.1 t ht, hw2.1 c hc, e4]
    rfl
  · rw [f4 b (by unfold aS; omega), si_ne (by unfold aW; omega), si_ne (by unfold aW; omega), f2 b (by omega), f1 b (by omega)]
theorem s_X9_recodes (h : OM m 3262 0 g) (hI : IG g) (hB : BM m 3262 k) (hu : u < 24) (hu2 : gU g u ≠ -2) (hc : c < 64) (ht : t < 64) (hct : c ≠ t) : ∃ m', m_X9_recodes m (am_i u) (am_i c) (am_i t) = some (am_i (gO g u c), m') ∧ Fr (fun b => b = 3262 ∨ b = 3266 ∨ b = 3267) m m' ∧ OM m' 3262 0 (ogS (ogO g (rc1 (gO g) u c t)) (stU g u)) ∧ BM m' 3262 (rcK k (gO g u) c t) := by
  have hw := h.own hI hu
  obtain ⟨g2, r6, r7⟩ := s_X9_parted (l := c) (h := c) hw (by omega) hc hc
  have nb2 : ∀ b, b ≠ 3266 → b ≠ 3267 → prM m (gO g u) c c 64 b = m b := fun b q1 q2 => prM_ne q1 q2
  generalize prM m (gO g u) c c 64 = k2 at g2 r6 r7 nb2
  have w2 : k2 3262 = m 3262 := nb2 3262 (by decide) (by decide)
  have hB2 : BM k2 3262 k := hB.copy (fun i _ _ => by rw [w2])
  obtain ⟨k3, g3, p3, hB3⟩ := s_X9_counts (w := 1) (x := am_i (com (fIn (gO g u) c c) (fOut (gO g u) c c) : Nat)) hB2 (by decide)
  obtain ⟨k4, g4, p4, hB4⟩ := s_X9_counts (w := 3) (x := am_i 1) hB3 (by decide)
  have pp : FK k2 k4 := p3.trans p4
  have ec : k2 3266 c = am_i (gO g u c : Int) := by
    rw [r6.1 c hc]
    unfold fIn
    rw [if_pos (by omega)]
  have R6 : Row (am_si (am_si k4 3266 c (am_i 0)) 3266 t (am_i (gO g u c : Int))) 3266 (oneR t (gO g u c)) := ⟨fun e he => by
    rw [m_si, m_si]
    unfold oneR
    by_cases q : e = t
    · rw [if_pos ⟨rfl, q⟩, if_pos q]
    · rw [if_neg (fun y => q y.2), if_neg q]
      by_cases q2 : e = c
      · rw [if_pos ⟨rfl, q2⟩]; rfl
      · rw [if_neg (fun y => q2 y.2), pp.1 3266 (by decide), r6.1 e he]
        unfold fIn
        rw [if_neg (by omega)], fun e => by
    unfold oneR
    have := hw.2 c
    split <;> omega⟩
  have R7 : Row (am_si (am_si k4 3266 c (am_i 0)) 3266 t (am_i (gO g u c : Int))) 3267 (fOut (gO g u) c c) := ⟨fun e he => by rw [si_ne (by decide), si_ne (by decide), pp.1 3267 (by decide)]; exact r7.1 e he, r7.2⟩
  have w5 : am_si (am_si k4 3266 c (am_i 0)) 3266 t (am_i (gO g u c : Int)) 3262 = k4 3262 := by rw [si_ne (by decide), si_ne (by decide)]
  have n5 : ∀ b, b ≠ 3262 → b ≠ 3266 → b ≠ 3267 → am_si (am_si k4 3266 c (am_i 0)) 3266 t (am_i (gO g u c : Int)) b = m b := fun b q1 q2 q3 => by rw [si_ne q2, si_ne q2, pp.1 b q1, nb2 b q2 q3]
  have o5 : OM (am_si (am_si k4 3266 c (am_i 0)) 3266 t (am_i (gO g u c : Int))) 3262 0 g := h.kept (fun i hi => by rw [w5, pp.2 _ (by omega), w2])
  have hB5 : BM (am_si (am_si k4 3266 c (am_i 0)) 3266 t (am_i (gO g u c : Int))) 3262 _ := hB4.copy (fun i _ _ => by rw [w5])
  obtain ⟨k5, ek5⟩ : ∃ k5, k5 = am_si (am_si k4 3266 c (am_i 0)) 3266 t (am_i (gO g u c : Int)) := ⟨_, rfl⟩
  rw [← ek5] at R6 R7 w5 o5 hB5
  obtain ⟨k6, g6, p6, hB6⟩ := s_X9_counts (w := 0) (x := am_i (com (oneR t (gO g u c)) (fOut (gO g u) c c) : Nat)) hB5 (by decide)
  obtain ⟨k7, g7, p7, hB7⟩ := s_X9_counts (w := 2) (x := am_i 1) hB6 (by decide)
  have o7 : OM k7 3262 0 g := (o5.fk p6).fk p7
  have hw7 := o7.own hI hu
  have o8 : OM (am_si (am_si k7 3262 (72 + 64 * u + c) (am_i 0)) 3262 (72 + 64 * u + t) (am_i (gO g u t : Int) + am_i (gO g u c : Int))) 3262 0 (ogO g (rc1 (gO g) u c t)) := by
    refine o7.ow (fun i hi => by rw [si_o (by omega), si_o (by omega)]) (fun j hj e he => ?_)
    rw [m_si, m_si]
    show _ = am_i ((if j = u then (if e = t then gO g u t + gO g u c else if e = c then 0 else gO g u e) else gO g j e : Nat) : Int)
    by_cases q : j = u
    · rw [if_pos q, q]
      by_cases q2 : e = t
      · rw [if_pos ⟨rfl, by omega⟩, if_pos q2, i_add]; rfl
      · rw [if_neg (fun y => q2 (by have := y.2; omega)), if_neg q2]
        by_cases q1 : e = c
        · rw [if_pos ⟨rfl, by omega⟩, if_pos q1]; rfl
        · rw [if_neg (fun y => q1 (by have := y.2; omega)), if_neg q1]; exact hw7.1 e he
    · rw [if_neg (fun y => q (by have := y.2; omega)), if_neg (fun y => q (by have := y.2; omega)), if_neg q]
      have := o7.2.2.2.1 j hj e he
      rwa [Nat.zero_add] at this
  obtain ⟨k9, g9, p9, p9', o9⟩ := s_st9 o8 hI.1 hu hu2
  have ea : am_i 72 + am_i 64 * am_i (u : Int) = am_i ((72 + 64 * u : Nat) : Int) := by rw [i_mul, i_add]; rfl
  have xc : am_ix (am_i ((72 + 64 * u : Nat) : Int) + am_i (c : Int)) = 72 + 64 * u + c := by rw [i_add, i_ix (by omega) (by omega)]; omega
  have yc : am_ib (am_i ((72 + 64 * u : Nat) : Int) + am_i (c : Int)) 15517 = true := by rw [i_add, i_ibt (by omega) (by omega) (by omega)]
  have xt : am_ix (am_i ((72 + 64 * u : Nat) : Int) + am_i (t : Int)) = 72 + 64 * u + t := by rw [i_add, i_ix (by omega) (by omega)]; omega
  have yt : am_ib (am_i ((72 + 64 * u : Nat) : Int) + am_i (t : Int)) 15517 = true := by rw [i_add, i_ibt (by omega) (by omega) (by omega)]
  have bc : am_ib (am_i (c : Int)) 64 = true := i_ibt (by omega) (by omega) (by omega)
  have bt : am_ib (am_i (t : Int)) 64 = true := i_ibt (by omega) (by omega) (by omega)
  have ic : am_ix (am_i (c : Int)) = c := i_ixn (by omega)
  have it : am_ix (am_i (t : Int)) = t := i_ixn (by omega)
  refine ⟨k9, ?_, fun b hb => ?_, o9, hB7.copy (fun i i1 i2 => by rw [p9' i (by omega), si_o (by omega), si_o (by omega)])⟩
  · unfold m_X9_recodes m_X9_ownAt
    have ec' : (am_i (com (fIn (gO g u) c c) (fOut (gO g u) c c) : Nat), k2).2 3266 c = am_i (gO g u c : Int) := ec
    rw [Option.bind_some, ea, g2, Option.bind_some, bc, cond_true, show m_X9_counts k2 (am_i 1) _ = some k3 from g3, Option.bind_some, show m_X9_counts k3 (am_i 3) _ = some k4 from g4, Option.bind_some, cond_true, am_letF, bt, cond_true, am_letF, ic, it, ec', ← ek5, s_X9_common R6 R7, Option.bind_some, show m_X9_counts k5 (am_i 0) _ = some k6 from g6, Option.bind_some, show m_X9_counts k6 (am_i 2) _ = some k7 from g7, Option.bind_some, Option.bind_some, yc, cond_true, am_letF, Option.bind_some, yt, cond_true, cond_true, am_letF, xc, xt]
    rw [si_o (show 72 + 64 * u + t ≠ 72 + 64 * u + c by omega), hw7.1 t ht, g9, Option.bind_some]
  · rw [p9 b (fun e => hb (Or.inl e)), si_ne (fun e => hb (Or.inl e)), si_ne (fun e => hb (Or.inl e)), p7.1 b (fun e => hb (Or.inl e)), p6.1 b (fun e => hb (Or.inl e)), ek5]
    exact n5 b (fun e => hb (Or.inl e)) (fun e => hb (Or.inr (Or.inl e))) (fun e => hb (Or.inr (Or.inr e)))
/-- the state after the units below j are done -/
def rcG (g : Og) (c t : Nat) : Nat → Og
  | 0 => g
  | j + 1 => if 0 < gO (rcG g c t j) j c then ogS (ogO (rcG g c t j) (rc1 (gO (rcG g c t j)) j c t)) (stU (rcG g c t j) j) else rcG g c t j
def rcB (k : Bk) (g : Og) (c t : Nat) : Nat → Bk
  | 0 => k
  | j + 1 => if 0 < gO (rcG g c t j) j c then rcK (rcB k g c t j) (gO (rcG g c t j) j) c t else rcB k g c t j
theorem rc1_9 {ow : Nat → Nat → Nat} (h9 : ∀ k c, ow k c ≤ 9999) (hb : ow u t + ow u c ≤ 9999) (k e : Nat) : rc1 ow u c t k e ≤ 9999 := by
  unfold rc1
  by_cases q : k = u
  · rw [if_pos q]
    have := h9 u e
    split
    · exact hb
    · split <;> omega
  · rw [if_neg q]; exact h9 k e
theorem rcG_I (hI : IG g) (hb : ∀ k, k < 24 → 0 < gO g k c → gO g k t + gO g k c ≤ 9999) : ∀ j, j ≤ 24 → IG (rcG g c t j) ∧ (∀ k, j ≤ k → gO (rcG g c t j) k = gO g k) ∧ gU (rcG g c t j) = gU g ∧ gD (rcG g c t j) = gD g := by
  intro j
  induction j with
  | zero => exact fun _ => ⟨hI, fun _ _ => rfl, rfl, rfl⟩
  | succ j ih =>
    intro hj
    obtain ⟨i1, i2, i3, i4⟩ := ih (by omega)
    have ej := i2 j (Nat.le_refl j)
    have es : rcG g c t (j + 1) = if 0 < gO (rcG g c t j) j c then ogS (ogO (rcG g c t j) (rc1 (gO (rcG g c t j)) j c t)) (stU (rcG g c t j) j) else rcG g c t j := rfl
    by_cases q : 0 < gO (rcG g c t j) j c
    · rw [es, if_pos q]
      have hu2 : gU (rcG g c t j) j ≠ -2 := fun e => by
        have := (i1.2.2.2.2.2.2.1 j (by omega) e).2.2.1 c
        omega
      refine ⟨?_, fun k hk => ?_, i3, i4⟩
      · refine i1.one (by omega) hu2 (rc1_9 i1.2.1 ?_) (fun k hk c => if_neg hk)
        rw [ej] at q ⊢
        exact hb j (by omega) q
      · rw [← i2 k (by omega)]
        funext e
        exact if_neg (show ¬ k = j by omega)
    · rw [es, if_neg q]
      exact ⟨i1, fun k hk => i2 k (by omega), i3, i4⟩
end RC
