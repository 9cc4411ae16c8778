/-! ===== mathematics: seats ===== -/
/-- a row that holds t -/
def rwS (m : am_m) (a : Nat) (t : Nat → Int32) : am_m := fun b i => if b = a ∧ i < 64 then t i else m b i
def upS (t : Nat → Int32) (k : Nat) (x : Int32) : Nat → Int32 := fun c => if c = k then x else t c
section MS1
variable {m : am_m} {r : am_rr} {s : Sx} {a u : Nat} {t : Nat → Int32} {f : Nat → Nat}
theorem rwS_ne {b : Nat} (h : b ≠ a) : rwS m a t b = m b := by
  funext i
  exact if_neg (fun e => h e.1)
theorem rwS_at {i : Nat} (h : i < 64) : rwS m a t a i = t i := if_pos ⟨rfl, h⟩
theorem rwS_si {k : Nat} {x : Int32} (hk : k < 64) : am_si (rwS m a t) a k x = rwS m a (upS t k x) := by
  funext b i
  rw [m_si]
  show (if b = a ∧ i = k then x else if b = a ∧ i < 64 then t i else m b i) = if b = a ∧ i < 64 then (if i = k then x else t i) else m b i
  by_cases e : b = a ∧ i = k
  · rw [if_pos e, if_pos ⟨e.1, by omega⟩, if_pos e.2]
  · rw [if_neg e]
    by_cases e2 : b = a ∧ i < 64
    · rw [if_pos e2, if_pos e2, if_neg (fun z => e ⟨e2.1, z⟩)]
    · rw [if_neg e2, if_neg e2]
theorem rwS_rw {t' : Nat → Int32} : rwS (rwS m a t) a t' = rwS m a t' := by
  funext b i
  show (if b = a ∧ i < 64 then t' i else if b = a ∧ i < 64 then t i else m b i) = if b = a ∧ i < 64 then t' i else m b i
  by_cases e : b = a ∧ i < 64
  · rw [if_pos e, if_pos e]
  · rw [if_neg e, if_neg e, if_neg e]
theorem rwS_F : Fr (fun b => b = a) m (rwS m a t) := fun b hb => rwS_ne hb
theorem s_fill {x : Int32} : m_J7_fill_53178 m a 64 x = some (rwS m a (fun _ => x)) := by
  unfold m_J7_fill_53178
  refine lo_go (fun n j (s : am_m) => m_J7_fill_53178_5 a 64 x x (Int32.ofNat 64) (fun m4 => some m4) n (am_i (j : Int)) s) (fun j => fun b i => if b = a ∧ i < j then x else m b i) 0 64 (n := am_F) (s0 := m) (by funext b i; exact (if_neg (fun e => Nat.not_lt_zero _ e.2)).symm) (by omega) (am_Fv (by omega)) (fun n j _ hj => ?_) (fun n => rfl)
  show m_J7_fill_53178_5 a 64 x x (Int32.ofNat 64) _ (n + 1) _ _ = _
  rw [m_J7_fill_53178_5, show Int32.ofNat 64 = am_i 64 from by decide, if_neg (by rw [i_le (by omega) (by omega) (by omega) (by omega)]; omega), i_ibt (by omega) (by omega) (by omega), cond_true, am_letF, i_ixn (by omega), i_add]
  congr 1
  funext b i
  rw [m_si]
  by_cases e : b = a ∧ i = j
  · rw [if_pos e, if_pos ⟨e.1, by omega⟩]
  · rw [if_neg e]
    by_cases e2 : b = a ∧ i < j
    · rw [if_pos e2, if_pos ⟨e2.1, by omega⟩]
    · rw [if_neg e2, if_neg (fun e3 => e2 ⟨e3.1, by have : i ≠ j := fun z => e ⟨e3.1, z⟩; omega⟩)]
/-- b has its seat ahead of c -/
def stW (f : Nat → Nat) (t : Nat → Int32) (b c : Nat) : Prop := lg_cmp ((am_i (f c : Int)).toInt64 * (t b + am_i 1).toInt64) ((am_i (f b : Int)).toInt64 * (t c + am_i 1).toInt64) ≤ 0
noncomputable def nsB (f : Nat → Nat) (t : Nat → Int32) : Nat → Int
  | 0 => -1
  | j + 1 => if 0 < f j then (if nsB f t j = -1 then (j : Int) else by classical exact if stW f t (nsB f t j).toNat j then nsB f t j else (j : Int)) else nsB f t j
theorem nsB_r (f : Nat → Nat) (t : Nat → Int32) : ∀ j, nsB f t j = -1 ∨ ∃ b : Nat, b < j ∧ nsB f t j = b := by
  intro j
  induction j with
  | zero => exact Or.inl rfl
  | succ j ih =>
    unfold nsB
    split
    · refine Or.inr ?_
      rcases ih with h | ⟨b, h1, h2⟩
      · rw [if_pos h]
        exact ⟨j, by omega, rfl⟩
      · rw [h2, if_neg (by omega)]
        split
        · exact ⟨b, by omega, rfl⟩
        · exact ⟨j, by omega, rfl⟩
    · rcases ih with h | ⟨b, h1, h2⟩
      · exact Or.inl h
      · exact Or.inr ⟨b, by omega, h2⟩
theorem nsB_s (f : Nat → Nat) (t : Nat → Int32) (j : Nat) : nsB f t (j + 1) = if 0 < f j then (if nsB f t j = -1 then (j : Int) else by classical exact if stW f t (nsB f t j).toNat j then nsB f t j else (j : Int)) else nsB f t j := rfl
theorem s_X5_nextSeat {b : Nat} (h : Row m a f) (ht : ∀ c, c < 64 → m b c = t c) : m_X5_nextSeat m a b = some (am_i (nsB f t 64)) := by
  unfold m_X5_nextSeat
  refine lo_go (fun n j (z : Int32) => m_X5_nextSeat_4 a b m (fun u10 => some u10) n z (am_i (j : Int))) (fun j => am_i (nsB f t j)) 0 64 rfl (by omega) (am_Fv (by omega)) (fun n j _ hj => ?_) (fun n => rfl)
  show m_X5_nextSeat_4 a b m _ (n + 1) (am_i (nsB f t j)) _ = m_X5_nextSeat_4 a b m _ n (am_i (nsB f t (j + 1))) _
  have hB := nsB_r f t j
  rw [nsB_s, m_X5_nextSeat_4]
  have b1' := h.2 j
  have e1 := h.1 j hj
  have e2 := ht j hj
  generalize nsB f t j = B at hB ⊢
  by_cases c0 : 0 < f j
  · rw [if_pos c0]
    rcases hB with rfl | ⟨q, hq, rfl⟩
    · rw [if_pos rfl]
      (simp (disch := first | assumption | omega) only [i_add, i_sub, i_mul, i_lt, i_le, i_eq, i_ibt, i_ixn, i_ix, i_zero, am_letF, cond_true, cond_false, Option.bind_some, ↓reduceIte, m_si, m_sc, true_and, and_true, not_true_eq_false, not_false_eq_true, i_gtF, i_leT, i_geF, i_ltT, Int32.zero_add, Int.toNat_natCast, ix_own, ix_sum, ix_ver, ix_th, ix_ab, ix_st, ix_vm, ix_lim, ix_lim1, ix_lim2, ix_lim3, Int.toNat_zero, i_neF, i_eqT, b1T, b1F, e1] <;> rfl)
    · have e3 := h.1 q (by omega)
      have e4 := ht q (by omega)
      rw [if_neg (show ¬ (q : Int) = -1 by omega), Int.toNat_natCast]
      by_cases c1 : stW f t q j
      · rw [if_pos c1]
        unfold stW at c1
        simp (disch := first | assumption | omega) only [i_add, i_sub, i_mul, i_lt, i_le, i_eq, i_ibt, i_ixn, i_ix, i_zero, am_letF, cond_true, cond_false, Option.bind_some, ↓reduceIte, m_si, m_sc, true_and, and_true, not_true_eq_false, not_false_eq_true, i_gtF, i_leT, i_geF, i_ltT, Int32.zero_add, Int.toNat_natCast, ix_own, ix_sum, ix_ver, ix_th, ix_ab, ix_st, ix_vm, ix_lim, ix_lim1, ix_lim2, ix_lim3, Int.toNat_zero, i_neF, i_eqT, b1T, b1F, e1]
        rw [e2, e3, e4, if_pos (by rw [i_zero] at c1; exact c1)]
        rfl
      · rw [if_neg c1]
        unfold stW at c1
        simp (disch := first | assumption | omega) only [i_add, i_sub, i_mul, i_lt, i_le, i_eq, i_ibt, i_ixn, i_ix, i_zero, am_letF, cond_true, cond_false, Option.bind_some, ↓reduceIte, m_si, m_sc, true_and, and_true, not_true_eq_false, not_false_eq_true, i_gtF, i_leT, i_geF, i_ltT, Int32.zero_add, Int.toNat_natCast, ix_own, ix_sum, ix_ver, ix_th, ix_ab, ix_st, ix_vm, ix_lim, ix_lim1, ix_lim2, ix_lim3, Int.toNat_zero, i_neF, i_eqT, b1T, b1F, e1]
        rw [e2, e3, e4, if_neg (by rw [i_zero] at c1; exact c1)]
        rfl
  · rw [if_neg c0]
    (simp (disch := first | assumption | omega) only [i_add, i_sub, i_mul, i_lt, i_le, i_eq, i_ibt, i_ixn, i_ix, i_zero, am_letF, cond_true, cond_false, Option.bind_some, ↓reduceIte, m_si, m_sc, true_and, and_true, not_true_eq_false, not_false_eq_true, i_gtF, i_leT, i_geF, i_ltT, Int32.zero_add, Int.toNat_natCast, ix_own, ix_sum, ix_ver, ix_th, ix_ab, ix_st, ix_vm, ix_lim, ix_lim1, ix_lim2, ix_lim3, Int.toNat_zero, i_neF, i_eqT, b1T, b1F, e1] <;> rfl)
theorem l_X9_seats_4 {k : Int32 → Option am_m} (h : RowW m (1608 + 64 * u) f) (hu : u < 24) (ht : ∀ c, c < 64 → m 3269 c = t c) : m_X9_seats_4 (am_i u) m (am_i u) k am_F (am_i (-1)) (am_i 0) = k (am_i (nsB f t 64)) := by
  refine lo_go (fun n j (z : Int32) => m_X9_seats_4 (am_i u) m (am_i u) k n z (am_i (j : Int))) (fun j => am_i (nsB f t j)) 0 64 rfl (by omega) (am_Fv (by omega)) (fun n j _ hj => ?_) (fun n => rfl)
  show m_X9_seats_4 _ m _ k (n + 1) (am_i (nsB f t j)) _ = m_X9_seats_4 _ m _ k n (am_i (nsB f t (j + 1))) _
  have hB := nsB_r f t j
  rw [nsB_s, m_X9_seats_4]
  unfold m_X9_sumAt
  have b1' := h.2 j
  have e1 := h.1 j hj
  have e2 := ht j hj
  have q1 : (lg_cmp (am_i (f j : Int)).toInt64 (Int64.ofNat 0) = 0) = ((f j : Int) = 0) := by
    rw [j_of (by omega) (by omega), j_0, j_eq0 (by omega) (by omega) (by omega) (by omega)]
  have p1 : am_ix (am_i 1608 + am_i 64 * am_i (u : Int) + am_i (j : Int)) = 1608 + 64 * u + j := by rw [i_mul, i_add, i_add, i_ix (by omega) (by omega)]; omega
  have p2 : am_ib (am_i 1608 + am_i 64 * am_i (u : Int) + am_i (j : Int)) 15517 = true := by rw [i_mul, i_add, i_add, i_ibt (by omega) (by omega) (by omega)]
  rw [if_neg (by rw [i_le (by omega) (by omega) (by omega) (by omega)]; omega), Option.bind_some, p2, cond_true, p1, e1]
  generalize nsB f t j = B at hB ⊢
  by_cases c0 : 0 < f j
  · rw [if_pos c0, if_pos (by rw [q1]; omega)]
    rcases hB with rfl | ⟨q, hq, rfl⟩
    · rw [if_pos rfl, if_pos rfl, i_add]
      rfl
    · have e3 := h.1 q (by omega)
      have e4 := ht q (by omega)
      have p3 : am_ix (am_i 1608 + am_i 64 * am_i (u : Int) + am_i (q : Int)) = 1608 + 64 * u + q := by rw [i_mul, i_add, i_add, i_ix (by omega) (by omega)]; omega
      have p4 : am_ib (am_i 1608 + am_i 64 * am_i (u : Int) + am_i (q : Int)) 15517 = true := by rw [i_mul, i_add, i_add, i_ibt (by omega) (by omega) (by omega)]
      rw [if_neg (by rw [i_eq (by omega) (by omega) (by omega) (by omega)]; omega), i_ibt (by omega) (by omega) (by omega), cond_true, Option.bind_some, p4, cond_true, p3, e3, i_ibt (by omega) (by omega) (by omega), cond_true, i_ixn (by omega), i_ixn (by omega), e2, e4, if_neg (show ¬ (q : Int) = -1 by omega), Int.toNat_natCast, i_add]
      by_cases c1 : stW f t q j
      · rw [if_pos c1, if_pos (show lg_cmp _ _ ≤ 0 from c1)]
        rfl
      · rw [if_neg c1, if_neg (show ¬ lg_cmp _ _ ≤ 0 from c1)]
        rfl
  · rw [if_neg c0, if_neg (by rw [q1]; omega), i_add]
    rfl
/-- the seats when k are dealt out -/
noncomputable def stS (f : Nat → Nat) : Nat → Nat → Int32
  | 0 => fun _ => am_i 0
  | k + 1 => if nsB f (stS f k) 64 = -1 then stS f k else upS (stS f k) (nsB f (stS f k) 64).toNat (stS f k (nsB f (stS f k) 64).toNat + am_i 1)
theorem stS_end {k : Nat} (h : nsB f (stS f k) 64 = -1) : ∀ d, stS f (k + d) = stS f k := by
  intro d
  induction d with
  | zero => rfl
  | succ d ih =>
    show (if nsB f (stS f (k + d)) 64 = -1 then stS f (k + d) else _) = _
    rw [ih, if_pos h]
theorem l_X8_seats_42 {n : Nat} {x1 x2 x3 y3 : Int32} {k : am_m → Option (Int32 × am_m)} (h : GS m r s) (hu : u < 24) (hn : n ≤ 200) : m_X8_seats_42 x1 x2 x3 (am_i u) (am_i n) y3 k am_F (am_i 0) (rwS m 3013 (fun _ => am_i 0)) = k (rwS m 3013 (stS (gM (xG s) u) n)) := by
  refine (lo_seek (fun z j (q : am_m) => m_X8_seats_42 x1 x2 x3 (am_i u) (am_i n) y3 k z (am_i (j : Int)) q) (fun j => rwS m 3013 (stS (gM (xG s) u) j)) n (fun j => nsB (gM (xG s) u) (stS (gM (xG s) u) j) 64 == -1) (fun _ => k (rwS m 3013 (stS (gM (xG s) u) n))) (k (rwS m 3013 (stS (gM (xG s) u) n))) (n := am_F) (s0 := rwS m 3013 (fun _ => am_i 0)) rfl (am_Fv (by omega)) ?_ ?_ ?_).trans (by split <;> rfl)
  · intro z j hj hp
    have hp : ¬ nsB (gM (xG s) u) (stS (gM (xG s) u) j) 64 = -1 := by simpa using hp
    have k1 : GS (rwS m 3013 (stS (gM (xG s) u) j)) r s := h.sc1 (rwS_F.mono (fun b hb => by rw [hb]; unfold Scr; omega))
    have q := s_X5_nextSeat (t := stS (gM (xG s) u) j) (b := 3013) (k1.xc hu) (fun c hc => rwS_at hc)
    rcases nsB_r (gM (xG s) u) (stS (gM (xG s) u) j) 64 with w | ⟨b, hb, w⟩
    · exact absurd w hp
    · have e : stS (gM (xG s) u) (j + 1) = upS (stS (gM (xG s) u) j) b (stS (gM (xG s) u) j b + am_i 1) := by
        show (if nsB (gM (xG s) u) (stS (gM (xG s) u) j) 64 = -1 then _ else _) = _
        rw [if_neg hp, w, Int.toNat_natCast]
      show m_X8_seats_42 x1 x2 x3 _ _ y3 k (z + 1) _ _ = m_X8_seats_42 x1 x2 x3 _ _ y3 k z _ (rwS m 3013 (stS (gM (xG s) u) (j + 1)))
      rw [e, m_X8_seats_42, if_neg (by rw [i_le (by omega) (by omega) (by omega) (by omega)]; omega), i_ibt (by omega) (by omega) (by omega), cond_true, i_ixn (by omega), q, Option.bind_some, w, if_pos (by rw [i_eq (by omega) (by omega) (by omega) (by omega)]; omega), i_ibt (by omega) (by omega) (by omega), cond_true, cond_true, am_letF, i_ixn (by omega), rwS_at hb, rwS_si hb, i_add]
      rfl
  · intro z j hj hp
    have hp : nsB (gM (xG s) u) (stS (gM (xG s) u) j) 64 = -1 := by simpa using hp
    have k1 : GS (rwS m 3013 (stS (gM (xG s) u) j)) r s := h.sc1 (rwS_F.mono (fun b hb => by rw [hb]; unfold Scr; omega))
    have q := s_X5_nextSeat (t := stS (gM (xG s) u) j) (b := 3013) (k1.xc hu) (fun c hc => rwS_at hc)
    have e := stS_end hp (n - j)
    rw [show j + (n - j) = n by omega] at e
    show m_X8_seats_42 x1 x2 x3 _ _ y3 k (z + 1) _ _ = _
    rw [m_X8_seats_42, if_neg (by rw [i_le (by omega) (by omega) (by omega) (by omega)]; omega), i_ibt (by omega) (by omega) (by omega), cond_true, i_ixn (by omega), q, Option.bind_some, hp, if_neg (fun z => z rfl), e]
  · intro z
    show m_X8_seats_42 x1 x2 x3 _ _ y3 k (z + 1) _ _ = _
    rw [m_X8_seats_42, if_pos (by rw [i_le (by omega) (by omega) (by omega) (by omega)]; omega)]
theorem l_X9_seats__55 {n : Nat} {x1 x2 x3 y3 : Int32} {k : am_m → Option (Int32 × am_m)} (h : GS m r s) (hu : u < 24) (hn : n ≤ 200) : m_X9_seats__55 x1 x2 x3 (am_i u) (am_i n) y3 k am_F (am_i 0) (rwS m 3269 (fun _ => am_i 0)) = k (rwS m 3269 (stS (gM (xG s) u) n)) := by
  refine lo_go (fun z j (q : am_m) => m_X9_seats__55 x1 x2 x3 (am_i u) (am_i n) y3 k z (am_i (j : Int)) q) (fun j => rwS m 3269 (stS (gM (xG s) u) j)) 0 n (n := am_F) (s0 := rwS m 3269 (fun _ => am_i 0)) rfl (by omega) (am_Fv (by omega)) (fun z j _ hj => ?_) (fun z => ?_)
  · have k1 : GS (rwS m 3269 (stS (gM (xG s) u) j)) r s := h.sc1 (rwS_F.mono (fun b hb => by rw [hb]; unfold Scr; omega))
    show m_X9_seats__55 x1 x2 x3 _ _ y3 k (z + 1) _ _ = m_X9_seats__55 x1 x2 x3 _ _ y3 k z _ (rwS m 3269 (if nsB (gM (xG s) u) (stS (gM (xG s) u) j) 64 = -1 then stS (gM (xG s) u) j else upS (stS (gM (xG s) u) j) (nsB (gM (xG s) u) (stS (gM (xG s) u) j) 64).toNat (stS (gM (xG s) u) j (nsB (gM (xG s) u) (stS (gM (xG s) u) j) 64).toNat + am_i 1)))
    rw [m_X9_seats__55, if_neg (by rw [i_le (by omega) (by omega) (by omega) (by omega)]; omega)]
    unfold m_X9_seats
    rw [l_X9_seats_4 (t := stS (gM (xG s) u) j) (k1.xm hu) hu (fun c hc => rwS_at hc)]
    rcases nsB_r (gM (xG s) u) (stS (gM (xG s) u) j) 64 with w | ⟨b, hb, w⟩
    · rw [w, if_pos rfl, if_pos rfl, Option.bind_some, i_add]
      rfl
    · rw [w, if_neg (by rw [i_eq (by omega) (by omega) (by omega) (by omega)]; omega), if_neg (show ¬ (b : Int) = -1 by omega), i_ibt (by omega) (by omega) (by omega), cond_true, cond_true, am_letF, i_ixn (by omega), rwS_at hb, rwS_si hb, Option.bind_some, Int.toNat_natCast, i_add]
      rfl
  · show m_X9_seats__55 x1 x2 x3 _ _ y3 k (z + 1) _ _ = _
    rw [m_X9_seats__55, if_pos (by rw [i_le (by omega) (by omega) (by omega) (by omega)]; omega)]
theorem l_X9_seats__31 {x1 x2 x3 y1 y2 y3 : Int32} {k : am_m → Option (Int32 × am_m)} : m_X9_seats__31 x1 x2 x3 y1 y2 y3 k am_F (am_i 0) m = k (rwS m 3269 (fun _ => am_i 0)) := by
  refine lo_go (fun n j (q : am_m) => m_X9_seats__31 x1 x2 x3 y1 y2 y3 k n (am_i (j : Int)) q) (fun j => fun b i => if b = 3269 ∧ i < j then am_i 0 else m b i) 0 64 (n := am_F) (s0 := m) (by funext b i; exact (if_neg (fun e => Nat.not_lt_zero _ e.2)).symm) (by omega) (am_Fv (by omega)) (fun n j _ hj => ?_) (fun n => rfl)
  show m_X9_seats__31 x1 x2 x3 y1 y2 y3 k (n + 1) _ _ = _
  rw [m_X9_seats__31, if_neg (by rw [i_le (by omega) (by omega) (by omega) (by omega)]; omega), i_ibt (by omega) (by omega) (by omega), cond_true, am_letF, i_ixn (by omega), i_add]
  congr 1
  funext b i
  rw [m_si]
  by_cases e : b = 3269 ∧ i = j
  · rw [if_pos e, if_pos ⟨e.1, by omega⟩]
  · rw [if_neg e]
    by_cases e2 : b = 3269 ∧ i < j
    · rw [if_pos e2, if_pos ⟨e2.1, by omega⟩]
    · rw [if_neg e2, if_neg (fun e3 => e2 ⟨e3.1, by have : i ≠ j := fun z => e ⟨e3.1, z⟩; omega⟩)]
theorem q_seats (h : GS m r s) (a b c : Int32) : ∃ y m1 m2, m_X8_seats m a b c = some (y, m1) ∧ m_X9_seats_ m1 a b c = some (y, m2) ∧ Good m2 r := by
  obtain ⟨x, h1, h2, rfl⟩ := i_any a
  obtain ⟨i, h3, h4, rfl⟩ := i_any b
  obtain ⟨w, h5, h6, rfl⟩ := i_any c
  cases c : thr (gU (xG s)) x
  · refine ⟨am_i (-1), m, m, ?_, ?_, h.g⟩
    · unfold m_X8_seats
      rw [s_t8 h h1 h2, c]
      rfl
    · unfold m_X9_seats_
      rw [s_t9 h h1 h2, c]
      rfl
  · obtain ⟨u, hu, rfl, hu2⟩ := thr_i c
    by_cases c1 : 0 ≤ i ∧ i ≤ 200
    · by_cases c2 : 0 ≤ w ∧ w ≤ 63
      · obtain ⟨n, rfl⟩ : ∃ n : Nat, i = n := ⟨i.toNat, by omega⟩
        obtain ⟨d, rfl⟩ : ∃ n : Nat, w = n := ⟨w.toNat, by omega⟩
        have k1 : GS (rwS m 3013 (stS (gM (xG s) u) n)) r s := h.sc1 (rwS_F.mono (fun b hb => by rw [hb]; unfold Scr; omega))
        have k2 : GS (rwS (rwS m 3013 (stS (gM (xG s) u) n)) 3269 (stS (gM (xG s) u) n)) r s := k1.sc1 (rwS_F.mono (fun b hb => by rw [hb]; unfold Scr; omega))
        refine ⟨stS (gM (xG s) u) n d, rwS m 3013 (stS (gM (xG s) u) n), rwS (rwS m 3013 (stS (gM (xG s) u) n)) 3269 (stS (gM (xG s) u) n), ?_, ?_, k2.g⟩
        · unfold m_X8_seats
          rw [s_t8 h h1 h2, c, Option.bind_some, if_neg (by decide), if_neg (by rw [i_zero, i_lt (by omega) (by omega) (by omega) (by omega)]; omega), if_neg (by rw [i_lt (by omega) (by omega) (by omega) (by omega)]; omega), s_c8 h5 h6, if_pos c2, Option.bind_some, if_pos (by decide), s_fill, Option.bind_some, l_X8_seats_42 h hu (by omega), i_ibt (by omega) (by omega) (by omega), cond_true, i_ixn (by omega), rwS_at (by omega)]
        · unfold m_X9_seats_
          rw [s_t9 k1 h1 h2, c, Option.bind_some, if_neg (by decide), s_X9_isIn h3 h4 (by decide) (by decide) (by decide) (by decide), if_pos c1, Option.bind_some, if_neg (by decide), s_c9 h5 h6, if_pos c2, Option.bind_some, if_pos (by decide), l_X9_seats__31, l_X9_seats__55 k1 hu (by omega), i_ibt (by omega) (by omega) (by omega), cond_true, i_ixn (by omega), rwS_at (by omega)]
      · refine ⟨am_i (-1), m, m, ?_, ?_, h.g⟩
        · unfold m_X8_seats
          rw [s_t8 h h1 h2, c, Option.bind_some, if_neg (by decide), if_neg (by rw [i_zero, i_lt (by omega) (by omega) (by omega) (by omega)]; omega), if_neg (by rw [i_lt (by omega) (by omega) (by omega) (by omega)]; omega), s_c8 h5 h6, if_neg c2, Option.bind_some, if_neg (by decide)]
        · unfold m_X9_seats_
          rw [s_t9 h h1 h2, c, Option.bind_some, if_neg (by decide), s_X9_isIn h3 h4 (by decide) (by decide) (by decide) (by decide), if_pos c1, Option.bind_some, if_neg (by decide), s_c9 h5 h6, if_neg c2, Option.bind_some, if_neg (by decide)]
    · refine ⟨am_i (-1), m, m, ?_, ?_, h.g⟩
      · unfold m_X8_seats
        rw [s_t8 h h1 h2, c, Option.bind_some, if_neg (by decide)]
        by_cases c3 : i < 0
        · rw [if_pos (by rw [i_zero, i_lt (by omega) (by omega) (by omega) (by omega)]; omega)]
        · rw [if_neg (by rw [i_zero, i_lt (by omega) (by omega) (by omega) (by omega)]; omega), if_pos (by rw [i_lt (by omega) (by omega) (by omega) (by omega)]; omega)]
      · unfold m_X9_seats_
        rw [s_t9 h h1 h2, c, Option.bind_some, if_neg (by decide), s_X9_isIn h3 h4 (by decide) (by decide) (by decide) (by decide), if_neg c1, Option.bind_some, if_pos (by decide)]
end MS1
