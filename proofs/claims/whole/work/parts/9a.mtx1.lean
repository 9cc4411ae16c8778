/-! ===== mathematics: text, its signs and numbers, the class's reading ===== -/
theorem lo_wh {σ β : Type} (F : Nat → σ → Option β) (I : Nat → σ → Prop) (P : Nat → Bool) (N : Nat) (k : σ → Option β) {n : Nat} {s0 : σ} (h0 : I 0 s0) (hN : P N = true) (hn : N < n) (hs : ∀ n j s, j < N → P j = false → I j s → ∃ s', F (n + 1) s = F n s' ∧ I (j + 1) s') (he : ∀ n j s, j ≤ N → P j = true → I j s → F (n + 1) s = k s) : ∃ s, I (fi P (N + 1)) s ∧ F n s0 = k s := by
  have hlt : fi P (N + 1) ≤ N := by
    rcases Nat.lt_or_ge N (fi P (N + 1)) with h | h
    · have := fi_no P (N + 1) N h
      rw [hN] at this
      cases this
    · exact h
  exact lo_inv (fun n _ s => F n s) I 0 (fi P (N + 1)) k h0 (Nat.zero_le _) (by omega) (fun n j s _ hj hI => hs n j s (by omega) (fi_no P (N + 1) j hj) hI) (fun n s hI => he n _ s hlt (fi_is P (N + 1) (by omega)) hI)
/-- the sign at p, -1 behind the end -/
def tsg (T : Tp) (p : Nat) : Int := if p < T.1 then (T.2.1 p : Int) else -1
def tskP (T : Tp) (p j : Nat) : Bool := !decide (tsg T (p + j) = 32)
/-- the place behind the blanks -/
def tsk (T : Tp) (p : Nat) : Nat := p + fi (tskP T p) 401
def tdg (x : Int) : Bool := decide (48 ≤ x ∧ x ≤ 57)
def tnlP (T : Tp) (p j : Nat) : Bool := !tdg (tsg T (p + j))
/-- how many digits -/
def tnl (T : Tp) (p : Nat) : Nat := fi (tnlP T p) 401
/-- the number of the first j digits, as the reference has it -/
def tav (T : Tp) (p : Nat) : Nat → Nat
  | 0 => 0
  | j + 1 => if tav T p j ≤ 9999 then 10 * tav T p j + (T.2.1 (p + j) - 48) else tav T p j
/-- as the class has it -/
def tcv (T : Tp) (p : Nat) : Nat → Nat
  | 0 => 0
  | j + 1 => min (tcv T p j * 10 + (T.2.1 (p + j) - 48)) 1000000
section T1
variable {T : Tp} {p : Nat}
theorem tsg_e (h : T.1 ≤ p) : tsg T p = -1 := if_neg (by omega)
theorem tsg_l (h : p < T.1) : tsg T p = (T.2.1 p : Int) := if_pos h
theorem tsg_b (hT : IT T) (p : Nat) : -1 ≤ tsg T p ∧ tsg T p ≤ 255 := by
  unfold tsg
  have := hT.2 p
  split <;> omega
theorem fi_at {P : Nat → Bool} {n k : Nat} (h : P k = true) : fi P n ≤ k := by
  rcases Nat.lt_or_ge k (fi P n) with h2 | h2
  · have := fi_no P n k h2
    rw [h] at this
    cases this
  · exact h2
theorem tskP_t {j : Nat} (h : tsg T (p + j) ≠ 32) : tskP T p j = true := by
  unfold tskP
  rw [decide_eq_false h]
  rfl
theorem tskP_f {j : Nat} (h : tskP T p j = false) : tsg T (p + j) = 32 := by
  by_cases c : tsg T (p + j) = 32
  · exact c
  · rw [tskP_t c] at h
    cases h
theorem tskP_n {j : Nat} (h : tskP T p j = true) : tsg T (p + j) ≠ 32 := by
  intro c
  unfold tskP at h
  rw [decide_eq_true c] at h
  cases h
theorem tsk_ge : p ≤ tsk T p := Nat.le_add_right _ _
theorem tsk_le (hp : p ≤ T.1) : tsk T p ≤ T.1 := by
  have := fi_at (P := tskP T p) (n := 401) (k := T.1 - p) (tskP_t (by rw [tsg_e (by omega)]; decide))
  unfold tsk
  omega
theorem tsk_is (hT : IT T) (hp : p ≤ T.1) : tsg T (tsk T p) ≠ 32 := by
  have h1 := tsk_le hp
  have h2 := hT.1
  unfold tsk at h1
  exact tskP_n (fi_is (tskP T p) 401 (by omega))
theorem tsk_of (h : tsg T p ≠ 32) : tsk T p = p := by
  have := fi_at (P := tskP T p) (n := 401) (k := 0) (tskP_t h)
  unfold tsk
  omega
theorem tsk_tsk (hT : IT T) (hp : p ≤ T.1) : tsk T (tsk T p) = tsk T p := tsk_of (tsk_is hT hp)
theorem tnlP_n {j : Nat} (h : tnlP T p j = true) : tdg (tsg T (p + j)) = false := by
  unfold tnlP at h
  cases c : tdg (tsg T (p + j))
  · rfl
  · rw [c] at h; cases h
theorem tnlP_f {j : Nat} (h : tnlP T p j = false) : tdg (tsg T (p + j)) = true := by
  unfold tnlP at h
  cases c : tdg (tsg T (p + j))
  · rw [c] at h; cases h
  · rfl
theorem tnlP_t {j : Nat} (h : tdg (tsg T (p + j)) = false) : tnlP T p j = true := by
  unfold tnlP
  rw [h]
  rfl
theorem tdg_e : tdg (-1) = false := by decide
theorem tdg_i {x : Int} (h : tdg x = true) : 48 ≤ x ∧ x ≤ 57 := of_decide_eq_true h
theorem tdg_f {x : Int} (h : tdg x = false) : ¬ (48 ≤ x ∧ x ≤ 57) := of_decide_eq_false h
theorem tdg_l (h : tdg (tsg T p) = true) : p < T.1 := by
  rcases Nat.lt_or_ge p T.1 with h2 | h2
  · exact h2
  · rw [tsg_e h2] at h
    cases h
theorem tnl_le (hp : p ≤ T.1) : p + tnl T p ≤ T.1 := by
  have := fi_at (P := tnlP T p) (n := 401) (k := T.1 - p) (tnlP_t (by rw [tsg_e (by omega)]; rfl))
  unfold tnl
  omega
theorem tnl_1 (h : tdg (tsg T p) = true) : 1 ≤ tnl T p := by
  rcases Nat.lt_or_ge 0 (tnl T p) with h2 | h2
  · exact h2
  · have h3 : tnl T p = 0 := by omega
    have h4 := fi_is (tnlP T p) 401 (by show tnl T p < 401; omega)
    have h5 : tnlP T p (tnl T p) = true := h4
    rw [h3] at h5
    have := tnlP_n h5
    rw [Nat.add_zero, h] at this
    cases this
theorem tav_le (hT : IT T) (p : Nat) : ∀ j, tav T p j ≤ 100197 := by
  intro j
  induction j with
  | zero => exact Nat.zero_le _
  | succ j ih =>
    have := hT.2 (p + j)
    show (if tav T p j ≤ 9999 then 10 * tav T p j + (T.2.1 (p + j) - 48) else tav T p j) ≤ _
    split <;> omega
theorem tcv_le (T : Tp) (p : Nat) : ∀ j, tcv T p j ≤ 1000000 := by
  intro j
  induction j with
  | zero => exact Nat.zero_le _
  | succ j ih => exact Nat.min_le_right _ _
theorem tcv_av (p : Nat) : ∀ j, tcv T p j = tav T p j ∨ (9999 < tcv T p j ∧ 9999 < tav T p j) := by
  intro j
  induction j with
  | zero => exact Or.inl rfl
  | succ j ih =>
    show min (tcv T p j * 10 + (T.2.1 (p + j) - 48)) 1000000 = (if tav T p j ≤ 9999 then 10 * tav T p j + (T.2.1 (p + j) - 48) else tav T p j) ∨ (9999 < min (tcv T p j * 10 + (T.2.1 (p + j) - 48)) 1000000 ∧ 9999 < (if tav T p j ≤ 9999 then 10 * tav T p j + (T.2.1 (p + j) - 48) else tav T p j))
    by_cases c : tav T p j ≤ 9999
    · rw [if_pos c]
      rcases ih with h | h
      · rw [h]
        by_cases c2 : tav T p j * 10 + (T.2.1 (p + j) - 48) ≤ 1000000
        · exact Or.inl (by omega)
        · exact Or.inr (by omega)
      · omega
    · rw [if_neg c]
      exact Or.inr (by omega)
end T1
/-- the class's tape while it is read: place, fault -/
def TS (m : am_m) (T : Tp) (p : Nat) (k pl : Int) : Prop := m 2984 1 = am_i T.1 ∧ (∀ i, i < T.1 → m 2985 i = am_i (T.2.1 i)) ∧ m 2984 2 = am_i k ∧ m 2984 3 = am_i pl ∧ m 2984 4 = am_i p ∧ p ≤ T.1
section T2
variable {m : am_m} {T : Tp} {p : Nat} {k pl : Int}
theorem TS.go {q : Nat} (h : TS m T p k pl) (hq : q ≤ T.1) : TS (am_si m 2984 4 (am_i q)) T q k pl := ⟨by rw [si_o (by decide)]; exact h.1, fun i hi => by rw [si_ne (by decide)]; exact h.2.1 i hi, by rw [si_o (by decide)]; exact h.2.2.1, by rw [si_o (by decide)]; exact h.2.2.2.1, si_at, hq⟩
theorem TS.nb {c : Nat} {x : Int32} (h : TS m T p k pl) (hc : 5 ≤ c) : TS (am_si m 2984 c x) T p k pl := ⟨by rw [si_o (by omega)]; exact h.1, fun i hi => by rw [si_ne (by decide)]; exact h.2.1 i hi, by rw [si_o (by omega)]; exact h.2.2.1, by rw [si_o (by omega)]; exact h.2.2.2.1, by rw [si_o (by omega)]; exact h.2.2.2.2.1, h.2.2.2.2.2⟩
theorem TS.kept {m' : am_m} (h : TS m T p k pl) (e : m' 2984 = m 2984) (e2 : m' 2985 = m 2985) : TS m' T p k pl := by
  unfold TS
  rw [e, e2]
  exact h
theorem s_X7_refuse {x y : Int} (h : TS m T p k pl) : ∃ m', m_X7_refuse m (am_i x) (am_i y) = some (am_i 0, m') ∧ Fr (fun b => b = 2984) m m' ∧ TS m' T p x y := by
  refine ⟨_, rfl, ((Fr.refl (fun b => b = 2984) m).si2 rfl).si2 rfl, ⟨by rw [si_o (by decide), si_o (by decide)]; exact h.1, fun i hi => by rw [si_ne (by decide), si_ne (by decide)]; exact h.2.1 i hi, by rw [si_o (by decide), si_at], si_at, by rw [si_o (by decide), si_o (by decide)]; exact h.2.2.2.2.1, h.2.2.2.2.2⟩⟩
theorem s_X7_isDigit {x : Int} (h1 : -1 ≤ x) (h2 : x ≤ 255) : m_X7_isDigit m (am_i x) = some (am_i (b1 (tdg x))) := by
  unfold m_X7_isDigit
  by_cases c1 : x < 48
  · rw [if_pos (by rw [i_lt (by omega) (by omega) (by omega) (by omega)]; exact c1), show tdg x = false from decide_eq_false (by omega)]
    rfl
  · rw [if_neg (by rw [i_lt (by omega) (by omega) (by omega) (by omega)]; exact c1)]
    by_cases c2 : 57 < x
    · rw [if_pos (by rw [i_lt (by omega) (by omega) (by omega) (by omega)]; exact c2), show tdg x = false from decide_eq_false (by omega)]
      rfl
    · rw [if_neg (by rw [i_lt (by omega) (by omega) (by omega) (by omega)]; exact c2), show tdg x = true from decide_eq_true (by omega)]
      rfl
theorem s_X7_nextSign (hT : IT T) (h : TS m T p k pl) : ∃ m', m_X7_nextSign m = some (am_i (tsg T (tsk T p)), m') ∧ Fr (fun b => b = 2984) m m' ∧ TS m' T (tsk T p) k pl := by
  have h4 := hT.1
  have hp := h.2.2.2.2.2
  unfold m_X7_nextSign
  refine Exists.elim (lo_wh (fun n s => m_X7_nextSign_0 (fun m6 => if (m6 2984 1) ≤ (m6 2984 4) then some ((am_i (-1)), m6) else if (am_i 400) ≤ (m6 2984 4) then some ((am_i (-1)), m6) else bif am_ib (m6 2984 4) 400 then some ((m6 2985 (am_ix (m6 2984 4))), m6) else none) n s) (fun j s => Fr (fun b => b = 2984) m s ∧ TS s T (p + j) k pl) (tskP T p) 400 (fun m6 => if (m6 2984 1) ≤ (m6 2984 4) then some ((am_i (-1)), m6) else if (am_i 400) ≤ (m6 2984 4) then some ((am_i (-1)), m6) else bif am_ib (m6 2984 4) 400 then some ((m6 2985 (am_ix (m6 2984 4))), m6) else none) (n := am_F) (s0 := m) ⟨Fr.refl _ _, h⟩ (tskP_t (by rw [tsg_e (by omega)]; decide)) (am_Fv (by omega)) (fun n j s hj hP A => ?_) (fun n j s hj hP A => ?_)) (fun t L => ?_)
  · obtain ⟨a1, a2⟩ := A
    have q := tskP_f hP
    have hl : p + j < T.1 := by
      rcases Nat.lt_or_ge (p + j) T.1 with h2 | h2
      · exact h2
      · rw [tsg_e h2] at q; cases q
    rw [tsg_l hl] at q
    have eb : s 2985 (p + j) = am_i 32 := by rw [a2.2.1 _ hl]; exact congrArg am_i q
    refine ⟨am_si s 2984 4 (am_i ((p + j + 1 : Nat) : Int)), ?_, a1.si2 rfl, a2.go (by omega)⟩
    show m_X7_nextSign_0 _ (n + 1) s = _
    rw [m_X7_nextSign_0, a2.1, a2.2.2.2.2.1, if_neg (by rw [i_le (by omega) (by omega) (by omega) (by omega)]; omega), if_neg (by rw [i_le (by omega) (by omega) (by omega) (by omega)]; omega), i_ibt (by omega) (by omega) (by omega), cond_true, i_ixn (by omega), eb, if_neg (fun z => z rfl), am_letF, nj]
  · obtain ⟨a1, a2⟩ := A
    have q := tskP_n hP
    have hl := a2.2.2.2.2.2
    show m_X7_nextSign_0 _ (n + 1) s = _
    rw [m_X7_nextSign_0]
    by_cases c : T.1 ≤ p + j
    · rw [if_pos (by rw [a2.1, a2.2.2.2.2.1, i_le (by omega) (by omega) (by omega) (by omega)]; omega)]
    · rw [tsg_l (by omega)] at q
      have hb := hT.2 (p + j)
      have eb : s 2985 (p + j) = am_i (T.2.1 (p + j)) := a2.2.1 _ (by omega)
      have e4 : am_ix (s 2984 4) = p + j := by rw [a2.2.2.2.2.1, i_ixn (by omega)]
      have e5 : am_ib (s 2984 4) 400 = true := by rw [a2.2.2.2.2.1, i_ibt (by omega) (by omega) (by omega)]
      rw [if_neg (by rw [a2.1, a2.2.2.2.2.1, i_le (by omega) (by omega) (by omega) (by omega)]; omega), if_neg (by rw [a2.2.2.2.2.1, i_le (by omega) (by omega) (by omega) (by omega)]; omega), e5, cond_true, e4, if_pos (by rw [eb, i_eq (by omega) (by omega) (by omega) (by omega)]; exact q)]
  · obtain ⟨⟨a1, a2⟩, e⟩ := L
    have a2 : TS t T (tsk T p) k pl := a2
    have hl := tsk_le (T := T) hp
    refine ⟨t, e.trans ?_, a1, a2⟩
    by_cases c : T.1 ≤ tsk T p
    · rw [if_pos (by rw [a2.1, a2.2.2.2.2.1, i_le (by omega) (by omega) (by omega) (by omega)]; omega), tsg_e c]
    · have e4 : am_ix (t 2984 4) = tsk T p := by rw [a2.2.2.2.2.1, i_ixn (by omega)]
      have e5 : am_ib (t 2984 4) 400 = true := by rw [a2.2.2.2.2.1, i_ibt (by omega) (by omega) (by omega)]
      rw [if_neg (by rw [a2.1, a2.2.2.2.2.1, i_le (by omega) (by omega) (by omega) (by omega)]; omega), if_neg (by rw [a2.2.2.2.2.1, i_le (by omega) (by omega) (by omega) (by omega)]; omega), e5, cond_true, e4, a2.2.1 _ (by omega), tsg_l (by omega)]
theorem min_i {a b : Int} (h1 : -2147483648 ≤ a) (h2 : a ≤ 2147483647) (h3 : -2147483648 ≤ b) (h4 : b ≤ 2147483647) : am_mn (am_i a) (am_i b) = am_i (if b < a then b else a) := by
  unfold am_mn
  by_cases c : b < a
  · rw [if_pos (by rw [i_lt h3 h4 h1 h2]; exact c), if_pos c]
  · rw [if_neg (by rw [i_lt h3 h4 h1 h2]; exact c), if_neg c]
theorem s_X7_readNumber (hT : IT T) (h : TS m T p k pl) : ∃ m', m_X7_readNumber m = some (am_i (b1 (tdg (tsg T (tsk T p)))), m') ∧ Fr (fun b => b = 2984) m m' ∧ (tdg (tsg T (tsk T p)) = false → TS m' T (tsk T p) 1 (tsk T p)) ∧ (tdg (tsg T (tsk T p)) = true → TS m' T (tsk T p + tnl T (tsk T p)) k pl ∧ m' 2984 5 = am_i (tcv T (tsk T p) (tnl T (tsk T p)) : Nat) ∧ m' 2984 6 = am_i (tsk T p : Nat)) := by
  have h4 := hT.1
  have hp := h.2.2.2.2.2
  obtain ⟨m1, e1, f1, h1⟩ := s_X7_nextSign hT h
  have hb := tsg_b hT (tsk T p)
  have hl := tsk_le (T := T) hp
  unfold m_X7_readNumber
  rw [e1, Option.bind_some]
  dsimp only
  rw [s_X7_isDigit hb.1 hb.2, Option.bind_some]
  cases c : tdg (tsg T (tsk T p))
  · obtain ⟨m2, e2, f2, h2⟩ := s_X7_refuse (x := 1) (y := tsk T p) h1
    rw [if_neg (by decide), h1.2.2.2.2.1, e2, Option.bind_some]
    exact ⟨m2, rfl, f1.trans f2, fun _ => h2, fun z => Bool.noConfusion z⟩
  · rw [if_pos (by decide), am_letF, am_letF, h1.2.2.2.2.1]
    have h2 : TS (am_si (am_si m1 2984 6 (am_i (tsk T p : Nat))) 2984 5 (am_i 0)) T (tsk T p) k pl := (h1.nb (by decide)).nb (by decide)
    have f2 : Fr (fun b => b = 2984) m (am_si (am_si m1 2984 6 (am_i (tsk T p : Nat))) 2984 5 (am_i 0)) := (f1.si2 rfl).si2 rfl
    have v6 : am_si (am_si m1 2984 6 (am_i (tsk T p : Nat))) 2984 5 (am_i 0) 2984 6 = am_i (tsk T p : Nat) := by rw [si_o (by decide), si_at]
    have v5 : am_si (am_si m1 2984 6 (am_i (tsk T p : Nat))) 2984 5 (am_i 0) 2984 5 = am_i 0 := si_at
    generalize am_si (am_si m1 2984 6 (am_i (tsk T p : Nat))) 2984 5 (am_i 0) = m2 at h2 f2 v6 v5 ⊢
    generalize tsk T p = q at hb hl c h2 v6 ⊢
    refine Exists.elim (lo_wh (fun n s => m_X7_readNumber_33 (fun m14 => some ((am_i 1), m14)) n s) (fun j s => Fr (fun b => b = 2984) m s ∧ TS s T (q + j) k pl ∧ s 2984 5 = am_i (tcv T q j : Nat) ∧ s 2984 6 = am_i q) (tnlP T q) 400 (fun m14 => some ((am_i 1), m14)) (n := am_F) (s0 := m2) ⟨f2, h2, v5, v6⟩ (tnlP_t (by rw [tsg_e (by omega)]; rfl)) (am_Fv (by omega)) (fun n j s hj hP A => ?_) (fun n j s hj hP A => ?_)) (fun t L => ⟨t, L.2, L.1.1, fun z => Bool.noConfusion z, fun _ => ⟨L.1.2.1, L.1.2.2.1, L.1.2.2.2⟩⟩)
    · obtain ⟨a1, a2, a3, a5⟩ := A
      have hd := tnlP_f hP
      have hl2 := tdg_l hd
      rw [tsg_l hl2] at hd
      have hd2 := tdg_i hd
      have eb : s 2985 (q + j) = am_i (T.2.1 (q + j)) := a2.2.1 _ hl2
      have cb := tcv_le T q j
      refine ⟨am_si (am_si s 2984 5 (am_i (tcv T q (j + 1) : Nat))) 2984 4 (am_i ((q + j + 1 : Nat) : Int)), ?_, (a1.si2 rfl).si2 rfl, (a2.nb (by decide)).go (by omega), by rw [si_o (by decide), si_at], by rw [si_o (by decide), si_o (by decide)]; exact a5⟩
      have ev : am_mn (am_i (tcv T q j : Nat) * am_i 10 + am_i (T.2.1 (q + j)) - am_i 48) (am_i 1000000) = am_i (tcv T q (j + 1) : Nat) := by
        rw [i_mul, i_add, i_sub, min_i (by omega) (by omega) (by omega) (by omega)]
        refine congrArg am_i ?_
        show _ = ((min (tcv T q j * 10 + (T.2.1 (q + j) - 48)) 1000000 : Nat) : Int)
        split <;> omega
      show m_X7_readNumber_33 _ (n + 1) s = _
      rw [m_X7_readNumber_33, a2.1, a2.2.2.2.2.1, if_neg (by rw [i_le (by omega) (by omega) (by omega) (by omega)]; omega), if_neg (by rw [i_le (by omega) (by omega) (by omega) (by omega)]; omega), i_ibt (by omega) (by omega) (by omega), cond_true, i_ixn (by omega), eb, s_X7_isDigit (by omega) (by omega), hd, Option.bind_some, if_neg (by decide), cond_true, a3, ev, am_letF, am_letF, si_o (by decide), a2.2.2.2.2.1, nj]
    · obtain ⟨a1, a2, a3, a5⟩ := A
      have hd := tnlP_n hP
      have hl2 := a2.2.2.2.2.2
      show m_X7_readNumber_33 _ (n + 1) s = _
      rw [m_X7_readNumber_33]
      by_cases c : T.1 ≤ q + j
      · rw [if_pos (by rw [a2.1, a2.2.2.2.2.1, i_le (by omega) (by omega) (by omega) (by omega)]; omega)]
      · rw [tsg_l (by omega)] at hd
        have hb2 := hT.2 (q + j)
        have eb : s 2985 (q + j) = am_i (T.2.1 (q + j)) := a2.2.1 _ (by omega)
        have e4 : am_ix (s 2984 4) = q + j := by rw [a2.2.2.2.2.1, i_ixn (by omega)]
        have e5 : am_ib (s 2984 4) 400 = true := by rw [a2.2.2.2.2.1, i_ibt (by omega) (by omega) (by omega)]
        rw [if_neg (by rw [a2.1, a2.2.2.2.2.1, i_le (by omega) (by omega) (by omega) (by omega)]; omega), if_neg (by rw [a2.2.2.2.2.1, i_le (by omega) (by omega) (by omega) (by omega)]; omega), e5, cond_true, e4, eb, s_X7_isDigit (by omega) (by omega), hd, Option.bind_some, if_pos (by decide)]
theorem s_X7_takeSign {x : Int} (hT : IT T) (h : TS m T p k pl) (h0 : 0 ≤ x) (hx : x ≤ 255) : ∃ m', m_X7_takeSign m (am_i x) = some (am_i (b1 (decide (tsg T (tsk T p) = x))), m') ∧ Fr (fun b => b = 2984) m m' ∧ (tsg T (tsk T p) ≠ x → TS m' T (tsk T p) 1 (tsk T p)) ∧ (tsg T (tsk T p) = x → tsk T p < T.1 ∧ TS m' T (tsk T p + 1) k pl) := by
  have h4 := hT.1
  have hp := h.2.2.2.2.2
  obtain ⟨m1, e1, f1, h1⟩ := s_X7_nextSign hT h
  have hb := tsg_b hT (tsk T p)
  have hl := tsk_le (T := T) hp
  unfold m_X7_takeSign
  rw [e1, Option.bind_some]
  dsimp only
  by_cases c : tsg T (tsk T p) = x
  · have hl2 : tsk T p < T.1 := by
      rcases Nat.lt_or_ge (tsk T p) T.1 with h2 | h2
      · exact h2
      · rw [tsg_e h2] at c; omega
    rw [if_pos (by rw [c]), decide_eq_true c, am_letF, h1.2.2.2.2.1, nj]
    exact ⟨_, rfl, f1.si2 rfl, fun z => absurd c z, fun _ => ⟨hl2, h1.go (by omega)⟩⟩
  · obtain ⟨m2, e2, f2, h2⟩ := s_X7_refuse (x := 1) (y := tsk T p) h1
    rw [if_neg (by rw [i_eq (by omega) (by omega) (by omega) (by omega)]; exact c), decide_eq_false c, h1.2.2.2.2.1, e2, Option.bind_some]
    exact ⟨m2, rfl, f1.trans f2, fun _ => h2, fun z => absurd z c⟩
end T2
