/-! ===== mathematics: text, the reference's signs and numbers ===== -/
/-- the reference's tape while it is read: place, fault, whether there is one -/
def TR (m : am_m) (T : Tp) (p : Nat) (k pl : Int) (w : Nat) : Prop := m 3261 9 = am_i T.1 ∧ (∀ i, i < T.1 → m 3268 i = am_i (sgn (T.2.1 i))) ∧ m 3261 11 = am_i k ∧ m 3261 12 = am_i pl ∧ m 3261 13 = am_i w ∧ m 3261 10 = am_i p ∧ p ≤ T.1
/-- only the cells of reading are other than they were -/
def FX (m m' : am_m) : Prop := (∀ b, b ≠ 3261 → m' b = m b) ∧ ∀ j, j < 10 ∨ 14 < j → m' 3261 j = m 3261 j
section T4
variable {m : am_m} {T : Tp} {p w : Nat} {k pl : Int}
theorem FX.refl (m : am_m) : FX m m := ⟨fun _ _ => rfl, fun _ _ => rfl⟩
theorem FX.trans {m1 m2 m3 : am_m} (h : FX m1 m2) (h2 : FX m2 m3) : FX m1 m3 := ⟨fun b hb => (h2.1 b hb).trans (h.1 b hb), fun j hj => (h2.2 j hj).trans (h.2 j hj)⟩
theorem FX.si {m1 m2 : am_m} (h : FX m1 m2) {j : Nat} {x : Int32} (hj : 10 ≤ j ∧ j ≤ 14) : FX m1 (am_si m2 3261 j x) := ⟨fun b hb => by rw [si_ne hb]; exact h.1 b hb, fun i hi => by rw [si_o (by omega)]; exact h.2 i hi⟩
theorem TR.go {q : Nat} (h : TR m T p k pl w) (hq : q ≤ T.1) : TR (am_si m 3261 10 (am_i q)) T q k pl w := ⟨by rw [si_o (by decide)]; exact h.1, fun i hi => by rw [si_ne (by decide)]; exact h.2.1 i hi, by rw [si_o (by decide)]; exact h.2.2.1, by rw [si_o (by decide)]; exact h.2.2.2.1, by rw [si_o (by decide)]; exact h.2.2.2.2.1, si_at, hq⟩
theorem TR.at14 {x : Int32} (h : TR m T p k pl w) : TR (am_si m 3261 14 x) T p k pl w := ⟨by rw [si_o (by decide)]; exact h.1, fun i hi => by rw [si_ne (by decide)]; exact h.2.1 i hi, by rw [si_o (by decide)]; exact h.2.2.1, by rw [si_o (by decide)]; exact h.2.2.2.1, by rw [si_o (by decide)]; exact h.2.2.2.2.1, by rw [si_o (by decide)]; exact h.2.2.2.2.2.1, h.2.2.2.2.2.2⟩
theorem TR.kept {m' : am_m} (h : TR m T p k pl w) (e : m' 3261 = m 3261) (e2 : m' 3268 = m 3268) : TR m' T p k pl w := by
  unfold TR
  rw [e, e2]
  exact h
theorem sgn_eq {b : Nat} {x : Int} (hb : b < 256) (h0 : 0 ≤ x) (hx : x ≤ 127) : sgn b = x ↔ (b : Int) = x := by
  unfold sgn
  split <;> omega
theorem sgn_b {b : Nat} (hb : b < 256) : -128 ≤ sgn b ∧ sgn b ≤ 127 := by
  unfold sgn
  split <;> omega
theorem sgn_dg {b : Nat} (hb : b < 256) : (48 ≤ sgn b ∧ sgn b ≤ 57) ↔ tdg (b : Int) = true := by
  unfold tdg
  rw [decide_eq_true_eq]
  unfold sgn
  split <;> omega
theorem tsg_tl {x : Int} (h : tsg T p = x) (hx : 0 ≤ x) : p < T.1 := by
  rcases Nat.lt_or_ge p T.1 with h2 | h2
  · exact h2
  · rw [tsg_e h2] at h; omega
theorem s_X9_isNext {x : Int} (hT : IT T) (h : TR m T p k pl w) (h0 : 0 ≤ x) (hx : x ≤ 127) : ∃ m', m_X9_isNext m (am_i x) = some (am_i (b1 (decide (tsg T (tsk T p) = x))), m') ∧ FX m m' ∧ TR m' T (tsk T p) k pl w ∧ m' 3261 14 = m 3261 14 := by
  have h4 := hT.1
  have hp := h.2.2.2.2.2.2
  unfold m_X9_isNext
  refine Exists.elim (lo_wh (fun n s => m_X9_isNext_0 (am_i x) (am_i x) (fun m5 => if (m5 3261 9) ≤ (m5 3261 10) then some ((am_i 0), m5) else bif am_ib (m5 3261 10) 400 then if ¬ (m5 3268 (am_ix (m5 3261 10))) = am_i x then some ((am_i 0), m5) else some ((am_i 1), m5) else none) n s) (fun j s => FX m s ∧ TR s T (p + j) k pl w ∧ s 3261 14 = m 3261 14) (tskP T p) 400 (fun m5 => if (m5 3261 9) ≤ (m5 3261 10) then some ((am_i 0), m5) else bif am_ib (m5 3261 10) 400 then if ¬ (m5 3268 (am_ix (m5 3261 10))) = am_i x then some ((am_i 0), m5) else some ((am_i 1), m5) else none) (n := am_F) (s0 := m) ⟨FX.refl m, h, rfl⟩ (tskP_t (by rw [tsg_e (by omega)]; decide)) (am_Fv (by omega)) (fun n j s hj hP A => ?_) (fun n j s hj hP A => ?_)) (fun t L => ?_)
  · obtain ⟨a1, a2, a3⟩ := A
    have q := tskP_f hP
    have hl : p + j < T.1 := tsg_tl q (by decide)
    rw [tsg_l hl] at q
    have hb := hT.2 (p + j)
    have eb : s 3268 (p + j) = am_i 32 := by rw [a2.2.1 _ hl, (sgn_eq hb (by decide) (by decide)).mpr q]
    refine ⟨am_si s 3261 10 (am_i ((p + j + 1 : Nat) : Int)), ?_, a1.si ⟨by decide, by decide⟩, a2.go (by omega), by rw [si_o (by decide)]; exact a3⟩
    show m_X9_isNext_0 _ _ _ (n + 1) s = _
    rw [m_X9_isNext_0, a2.1, a2.2.2.2.2.2.1, if_neg (by rw [i_le (by omega) (by omega) (by omega) (by omega)]; omega), i_ibt (by omega) (by omega) (by omega), cond_true, i_ixn (by omega), eb, if_neg (fun z => z rfl), am_letF, nj]
  · obtain ⟨a1, a2, a3⟩ := A
    have q := tskP_n hP
    have hl := a2.2.2.2.2.2.2
    show m_X9_isNext_0 _ _ _ (n + 1) s = _
    rw [m_X9_isNext_0]
    by_cases c : T.1 ≤ p + j
    · rw [if_pos (by rw [a2.1, a2.2.2.2.2.2.1, i_le (by omega) (by omega) (by omega) (by omega)]; omega)]
    · rw [tsg_l (by omega)] at q
      have hb := hT.2 (p + j)
      have hb2 := sgn_b hb
      have eb : s 3268 (p + j) = am_i (sgn (T.2.1 (p + j))) := a2.2.1 _ (by omega)
      have e4 : am_ix (s 3261 10) = p + j := by rw [a2.2.2.2.2.2.1, i_ixn (by omega)]
      have e5 : am_ib (s 3261 10) 400 = true := by rw [a2.2.2.2.2.2.1, i_ibt (by omega) (by omega) (by omega)]
      rw [if_neg (by rw [a2.1, a2.2.2.2.2.2.1, i_le (by omega) (by omega) (by omega) (by omega)]; omega), e5, cond_true, e4, if_pos (by rw [eb, i_eq (by omega) (by omega) (by omega) (by omega)]; exact fun z => q ((sgn_eq hb (by decide) (by decide)).mp z))]
  · obtain ⟨⟨a1, a2, a3⟩, e⟩ := L
    have a2 : TR t T (tsk T p) k pl w := a2
    have hl := tsk_le (T := T) hp
    refine ⟨t, e.trans ?_, a1, a2, a3⟩
    by_cases c : T.1 ≤ tsk T p
    · rw [if_pos (by rw [a2.1, a2.2.2.2.2.2.1, i_le (by omega) (by omega) (by omega) (by omega)]; omega), tsg_e c, decide_eq_false (by omega)]
      rfl
    · have hb := hT.2 (tsk T p)
      have hb2 := sgn_b hb
      have e4 : am_ix (t 3261 10) = tsk T p := by rw [a2.2.2.2.2.2.1, i_ixn (by omega)]
      have e5 : am_ib (t 3261 10) 400 = true := by rw [a2.2.2.2.2.2.1, i_ibt (by omega) (by omega) (by omega)]
      rw [if_neg (by rw [a2.1, a2.2.2.2.2.2.1, i_le (by omega) (by omega) (by omega) (by omega)]; omega), e5, cond_true, e4, a2.2.1 _ (by omega), tsg_l (by omega)]
      by_cases c2 : (T.2.1 (tsk T p) : Int) = x
      · rw [if_neg (fun z => z (by rw [(sgn_eq hb h0 hx).mpr c2])), decide_eq_true c2]
        rfl
      · rw [if_pos (by rw [i_eq (by omega) (by omega) (by omega) (by omega)]; exact fun z => c2 ((sgn_eq hb h0 hx).mp z)), decide_eq_false c2]
        rfl
theorem s_X9_isDigitNext (hT : IT T) (h : TR m T p k pl w) : ∃ m', m_X9_isDigitNext m = some (am_i (b1 (tdg (tsg T (tsk T p)))), m') ∧ FX m m' ∧ TR m' T (tsk T p) k pl w ∧ m' 3261 14 = m 3261 14 := by
  have h4 := hT.1
  have hp := h.2.2.2.2.2.2
  have hl := tsk_le (T := T) hp
  obtain ⟨m1, e1, f1, a2, a3⟩ := s_X9_isNext (x := 32) hT h (by decide) (by decide)
  refine ⟨m1, ?_, f1, a2, a3⟩
  unfold m_X9_isDigitNext
  rw [e1, Option.bind_some, decide_eq_false (tsk_is hT hp)]
  dsimp only
  rw [if_neg (show ¬ ¬ am_i (b1 false : Nat) = 0 by decide)]
  by_cases c : T.1 ≤ tsk T p
  · rw [if_pos (by rw [a2.1, a2.2.2.2.2.2.1, i_le (by omega) (by omega) (by omega) (by omega)]; omega), tsg_e c]
    rfl
  · have hb := hT.2 (tsk T p)
    have hb2 := sgn_b hb
    have e4 : am_ix (m1 3261 10) = tsk T p := by rw [a2.2.2.2.2.2.1, i_ixn (by omega)]
    have e5 : am_ib (m1 3261 10) 400 = true := by rw [a2.2.2.2.2.2.1, i_ibt (by omega) (by omega) (by omega)]
    rw [if_neg (by rw [a2.1, a2.2.2.2.2.2.1, i_le (by omega) (by omega) (by omega) (by omega)]; omega), e5, cond_true, e4, a2.2.1 _ (by omega), s_X9_isIn (by omega) (by omega) (by decide) (by decide) (by decide) (by decide), Option.bind_some, tsg_l (by omega)]
    by_cases c2 : tdg (T.2.1 (tsk T p) : Int) = true
    · rw [if_pos ((sgn_dg hb).mpr c2), if_neg (by decide), c2]
      rfl
    · rw [if_neg (fun z => c2 ((sgn_dg hb).mp z)), if_pos (by decide), Bool.eq_false_iff.mpr c2]
      rfl
theorem s_X9_wrong0 {x y : Int} (h : TR m T p k pl 0) : ∃ m', m_X9_wrong m (am_i x) (am_i y) = some m' ∧ FX m m' ∧ TR m' T p x y 1 := by
  unfold m_X9_wrong
  rw [if_pos (by rw [h.2.2.2.2.1]; decide), am_letF, am_letF, am_letF]
  exact ⟨_, rfl, (((FX.refl m).si ⟨by decide, by decide⟩).si ⟨by decide, by decide⟩).si ⟨by decide, by decide⟩, by rw [si_o (by decide), si_o (by decide), si_o (by decide)]; exact h.1, fun i hi => by rw [si_ne (by decide), si_ne (by decide), si_ne (by decide)]; exact h.2.1 i hi, by rw [si_o (by decide), si_at], si_at, by rw [si_o (by decide), si_o (by decide), si_at]; rfl, by rw [si_o (by decide), si_o (by decide), si_o (by decide)]; exact h.2.2.2.2.2.1, h.2.2.2.2.2.2⟩
theorem s_X9_wrong1 {x y : Int32} (h : TR m T p k pl 1) : m_X9_wrong m x y = some m := by
  unfold m_X9_wrong
  rw [if_neg (by rw [h.2.2.2.2.1]; decide)]
theorem s_X9_must0 {x : Int} (hT : IT T) (h : TR m T p k pl 0) (h0 : 0 ≤ x) (hx : x ≤ 127) : ∃ m', m_X9_must m (am_i x) = some m' ∧ FX m m' ∧ (tsg T (tsk T p) = x → tsk T p < T.1 ∧ TR m' T (tsk T p + 1) k pl 0) ∧ (tsg T (tsk T p) ≠ x → TR m' T (tsk T p) 1 (tsk T p) 1) := by
  have h4 := hT.1
  have hp := h.2.2.2.2.2.2
  have hl := tsk_le (T := T) hp
  obtain ⟨m1, e1, f1, a2, a3⟩ := s_X9_isNext (x := x) hT h h0 hx
  unfold m_X9_must
  rw [e1, Option.bind_some]
  dsimp only
  by_cases c : tsg T (tsk T p) = x
  · have hl2 := tsg_tl c h0
    rw [decide_eq_true c, if_neg (by decide), am_letF, a2.2.2.2.2.2.1, nj]
    exact ⟨_, rfl, f1.si ⟨by decide, by decide⟩, fun _ => ⟨hl2, a2.go (by omega)⟩, fun z => absurd c z⟩
  · obtain ⟨m2, e2, f2, b2⟩ := s_X9_wrong0 (x := 1) (y := tsk T p) a2
    rw [decide_eq_false c, if_pos (by decide), a2.2.2.2.2.2.1, e2, Option.bind_some]
    exact ⟨_, rfl, f1.trans f2, fun z => absurd z c, fun _ => b2⟩
theorem s_X9_must1 {x : Int} (hT : IT T) (h : TR m T p k pl 1) (h0 : 0 ≤ x) (hx : x ≤ 127) : ∃ m' p', m_X9_must m (am_i x) = some m' ∧ FX m m' ∧ TR m' T p' k pl 1 := by
  have h4 := hT.1
  have hp := h.2.2.2.2.2.2
  have hl := tsk_le (T := T) hp
  obtain ⟨m1, e1, f1, a2, a3⟩ := s_X9_isNext (x := x) hT h h0 hx
  unfold m_X9_must
  rw [e1, Option.bind_some]
  dsimp only
  by_cases c : tsg T (tsk T p) = x
  · have hl2 := tsg_tl c h0
    rw [decide_eq_true c, if_neg (by decide), am_letF, a2.2.2.2.2.2.1, nj]
    exact ⟨_, tsk T p + 1, rfl, f1.si ⟨by decide, by decide⟩, a2.go (by omega)⟩
  · rw [decide_eq_false c, if_pos (by decide), s_X9_wrong1 a2, Option.bind_some]
    exact ⟨_, tsk T p, rfl, f1, a2⟩
theorem s_X9_number1 {lo hi : Int32} (h : TR m T p k pl 1) : m_X9_number m lo hi = some (am_i 0, m) := by
  unfold m_X9_number
  rw [if_neg (by rw [h.2.2.2.2.1]; decide)]
theorem l_X9_number_38 {x1 x2 y1 y2 : Int32} {kk : Int32 → am_m → Option (Int32 × am_m)} (hT : IT T) (h : TR m T p k pl w) : ∃ m', FX m m' ∧ TR m' T (p + tnl T p) k pl w ∧ m' 3261 14 = m 3261 14 ∧ m_X9_number_38 x1 x2 y1 y2 kk am_F (am_i 0) m = kk (am_i (tav T p (tnl T p) : Nat)) m' := by
  have h4 := hT.1
  have hp := h.2.2.2.2.2.2
  refine Exists.elim (lo_wh (fun n (s : Int32 × am_m) => m_X9_number_38 x1 x2 y1 y2 kk n s.1 s.2) (fun j s => s.1 = am_i (tav T p j : Nat) ∧ FX m s.2 ∧ TR s.2 T (p + j) k pl w ∧ s.2 3261 14 = m 3261 14) (tnlP T p) 400 (fun s => kk s.1 s.2) (n := am_F) (s0 := (am_i 0, m)) ⟨rfl, FX.refl m, h, rfl⟩ (tnlP_t (by rw [tsg_e (by omega)]; rfl)) (am_Fv (by omega)) (fun n j s hj hP A => ?_) (fun n j s hj hP A => ?_)) (fun t L => ⟨t.2, L.1.2.1, L.1.2.2.1, L.1.2.2.2, L.2.trans (by rw [L.1.1]; rfl)⟩)
  · obtain ⟨z, s⟩ := s
    obtain ⟨a0, a1, a2, a3⟩ := A
    dsimp only at a0 a1 a2 a3
    have hd := tnlP_f hP
    have hl := tdg_l hd
    rw [tsg_l hl] at hd
    have hd2 := tdg_i hd
    have hb := hT.2 (p + j)
    have hs := (sgn_dg hb).mpr hd
    have hv := tav_le hT p j
    have eb : s 3268 (p + j) = am_i (T.2.1 (p + j)) := by rw [a2.2.1 _ hl]; exact congrArg am_i ((sgn_eq hb (by omega) (by omega)).mpr rfl)
    show ∃ s' : Int32 × am_m, m_X9_number_38 _ _ _ _ _ (n + 1) z s = m_X9_number_38 _ _ _ _ _ n s'.1 s'.2 ∧ _
    rw [m_X9_number_38, a2.1, a2.2.2.2.2.2.1, if_neg (by rw [i_le (by omega) (by omega) (by omega) (by omega)]; omega), i_ibt (by omega) (by omega) (by omega), cond_true, i_ixn (by omega), eb, s_X9_isIn (by omega) (by omega) (by decide) (by decide) (by decide) (by decide), if_pos hd2, Option.bind_some, if_neg (show ¬ am_i 1 = 0 by decide), a0, nj]
    by_cases c : tav T p j ≤ 9999
    · refine ⟨(am_i (tav T p (j + 1) : Nat), am_si s 3261 10 (am_i ((p + j + 1 : Nat) : Int))), ?_, rfl, a1.si ⟨by decide, by decide⟩, a2.go (by omega), (si_o (x := am_i ((p + j + 1 : Nat) : Int)) (show 14 ≠ 10 by decide)).trans a3⟩
      have ev : am_i 10 * am_i (tav T p j : Nat) + am_i (T.2.1 (p + j)) - am_i 48 = am_i (tav T p (j + 1) : Nat) := by
        rw [i_mul, i_add, i_sub]
        refine congrArg am_i ?_
        show _ = ((if tav T p j ≤ 9999 then 10 * tav T p j + (T.2.1 (p + j) - 48) else tav T p j : Nat) : Int)
        rw [if_pos c]
        omega
      rw [if_pos (by rw [i_le (by omega) (by omega) (by omega) (by omega)]; omega), cond_true, am_letF, ev]
    · refine ⟨(am_i (tav T p (j + 1) : Nat), am_si s 3261 10 (am_i ((p + j + 1 : Nat) : Int))), ?_, rfl, a1.si ⟨by decide, by decide⟩, a2.go (by omega), (si_o (x := am_i ((p + j + 1 : Nat) : Int)) (show 14 ≠ 10 by decide)).trans a3⟩
      have ev : tav T p (j + 1) = tav T p j := if_neg c
      rw [if_neg (by rw [i_le (by omega) (by omega) (by omega) (by omega)]; omega), am_letF, ev]
  · obtain ⟨z, s⟩ := s
    obtain ⟨a0, a1, a2, a3⟩ := A
    dsimp only at a0 a1 a2 a3
    have hd := tnlP_n hP
    have hl := a2.2.2.2.2.2.2
    show m_X9_number_38 _ _ _ _ _ (n + 1) z s = kk z s
    rw [m_X9_number_38]
    by_cases c : T.1 ≤ p + j
    · rw [if_pos (by rw [a2.1, a2.2.2.2.2.2.1, i_le (by omega) (by omega) (by omega) (by omega)]; omega)]
    · rw [tsg_l (by omega)] at hd
      have hb := hT.2 (p + j)
      have hb2 := sgn_b hb
      have eb : s 3268 (p + j) = am_i (sgn (T.2.1 (p + j))) := a2.2.1 _ (by omega)
      have e4 : am_ix (s 3261 10) = p + j := by rw [a2.2.2.2.2.2.1, i_ixn (by omega)]
      have e5 : am_ib (s 3261 10) 400 = true := by rw [a2.2.2.2.2.2.1, i_ibt (by omega) (by omega) (by omega)]
      have hn : ¬ (48 ≤ sgn (T.2.1 (p + j)) ∧ sgn (T.2.1 (p + j)) ≤ 57) := fun z => by rw [(sgn_dg hb).mp z] at hd; exact Bool.noConfusion hd
      rw [if_neg (by rw [a2.1, a2.2.2.2.2.2.1, i_le (by omega) (by omega) (by omega) (by omega)]; omega), e5, cond_true, e4, eb, s_X9_isIn (by omega) (by omega) (by decide) (by decide) (by decide) (by decide), if_neg hn, Option.bind_some, if_pos (by decide)]
theorem tnl_0 (h : tdg (tsg T p) = false) : tnl T p = 0 := by
  have := fi_at (P := tnlP T p) (n := 401) (k := 0) (tnlP_t (by rw [Nat.add_zero]; exact h))
  unfold tnl
  omega
theorem s_X9_number {lo hi : Int} (hT : IT T) (h : TR m T p 0 (-1) 0) (h0 : 0 ≤ lo) (h1 : lo ≤ 9999) (h2 : 0 ≤ hi) (h3 : hi ≤ 9999) : ∃ y m', m_X9_number m (am_i lo) (am_i hi) = some (y, m') ∧ FX m m' ∧ ((tdg (tsg T (tsk T p)) = false ∧ TR m' T (tsk T p) 1 (tsk T p) 1) ∨ (tdg (tsg T (tsk T p)) = true ∧ ((lo ≤ (tav T (tsk T p) (tnl T (tsk T p)) : Nat) ∧ ((tav T (tsk T p) (tnl T (tsk T p)) : Nat) : Int) ≤ hi ∧ y = am_i (tav T (tsk T p) (tnl T (tsk T p)) : Nat) ∧ TR m' T (tsk T p + tnl T (tsk T p)) 0 (-1) 0 ∧ m' 3261 14 = am_i (tsk T p : Nat)) ∨ (¬ (lo ≤ (tav T (tsk T p) (tnl T (tsk T p)) : Nat) ∧ ((tav T (tsk T p) (tnl T (tsk T p)) : Nat) : Int) ≤ hi) ∧ TR m' T (tsk T p + tnl T (tsk T p)) 2 (tsk T p) 1)))) := by
  have h4 := hT.1
  have hp := h.2.2.2.2.2.2
  have hl := tsk_le (T := T) hp
  obtain ⟨m1, e1, f1, a1, a14⟩ := s_X9_isDigitNext hT h
  unfold m_X9_number
  rw [if_pos (by rw [h.2.2.2.2.1]; decide), e1, Option.bind_some, am_letF]
  dsimp only
  have b1t : ¬ ((am_i (b1 true : Nat)) = 0) := by decide
  have b1f : ¬ ¬ ((am_i (b1 false : Nat)) = 0) := by decide
  rw [a1.2.2.2.2.2.1]
  have a2 : TR (am_si m1 3261 14 (am_i (tsk T p : Nat))) T (tsk T p) 0 (-1) 0 := a1.at14
  have f2 : FX m (am_si m1 3261 14 (am_i (tsk T p : Nat))) := f1.si ⟨by decide, by decide⟩
  have a3 : am_si m1 3261 14 (am_i (tsk T p : Nat)) 3261 14 = am_i (tsk T p : Nat) := si_at
  generalize am_si m1 3261 14 (am_i (tsk T p : Nat)) = m2 at a2 f2 a3 ⊢
  generalize tsk T p = q at hl a1 a2 a3 ⊢
  cases c : tdg (tsg T q)
  · obtain ⟨m3, e3, f3, a4⟩ := s_X9_wrong0 (x := 1) (y := q) a2
    rw [if_neg b1f, a2.2.2.2.2.2.1, e3, Option.bind_some]
    obtain ⟨m4, f4, a5, a6, e4⟩ := l_X9_number_38 (x1 := am_i lo) (x2 := am_i hi) (y1 := am_i lo) (y2 := am_i hi) (kk := fun u23 m24 => if ¬ (m24 3261 13) = 0 then if (m24 3261 13) = 0 then some (u23, m24) else some ((am_i 0), m24) else (m_X9_isIn m24 u23 (am_i lo) (am_i hi)).bind fun q27 => if ¬ q27 = 0 then if (m24 3261 13) = 0 then some (u23, m24) else some ((am_i 0), m24) else (m_X9_wrong m24 (am_i 2) (m24 3261 14)).bind fun q30 => if (q30 3261 13) = 0 then some (u23, q30) else some ((am_i 0), q30)) hT a4
    have w13 : ¬ m4 3261 13 = 0 := by rw [a5.2.2.2.2.1]; decide
    rw [e4, if_pos w13, if_neg w13]
    refine ⟨_, m4, rfl, (f2.trans f3).trans f4, Or.inl ⟨rfl, ?_⟩⟩
    rw [tnl_0 c, Nat.add_zero] at a5
    exact a5
  · rw [if_pos b1t]
    obtain ⟨m4, f4, a5, a6, e4⟩ := l_X9_number_38 (x1 := am_i lo) (x2 := am_i hi) (y1 := am_i lo) (y2 := am_i hi) (kk := fun u13 m14 => if ¬ (m14 3261 13) = 0 then if (m14 3261 13) = 0 then some (u13, m14) else some ((am_i 0), m14) else (m_X9_isIn m14 u13 (am_i lo) (am_i hi)).bind fun q17 => if ¬ q17 = 0 then if (m14 3261 13) = 0 then some (u13, m14) else some ((am_i 0), m14) else (m_X9_wrong m14 (am_i 2) (m14 3261 14)).bind fun q20 => if (q20 3261 13) = 0 then some (u13, q20) else some ((am_i 0), q20)) hT a2
    have w13 : m4 3261 13 = 0 := by rw [a5.2.2.2.2.1]; decide
    have hv := tav_le hT q (tnl T q)
    rw [e4, if_neg (fun z => z w13), s_X9_isIn (by omega) (by omega) (by omega) (by omega) (by omega) (by omega), Option.bind_some]
    by_cases c2 : lo ≤ (tav T q (tnl T q) : Nat) ∧ ((tav T q (tnl T q) : Nat) : Int) ≤ hi
    · rw [if_pos c2, if_pos (show ¬ am_i 1 = 0 by decide), if_pos w13]
      exact ⟨_, m4, rfl, f2.trans f4, Or.inr ⟨rfl, Or.inl ⟨c2.1, c2.2, rfl, a5, a6.trans a3⟩⟩⟩
    · rw [if_neg c2, if_neg (show ¬ ¬ am_i 0 = 0 by decide), a6, a3]
      obtain ⟨m5, e5, f5, a7⟩ := s_X9_wrong0 (x := 2) (y := q) a5
      have w135 : ¬ m5 3261 13 = 0 := by rw [a7.2.2.2.2.1]; decide
      rw [e5, Option.bind_some, if_neg w135]
      exact ⟨_, m5, rfl, (f2.trans f4).trans f5, Or.inr ⟨rfl, Or.inr ⟨c2, a7⟩⟩⟩
end T4
