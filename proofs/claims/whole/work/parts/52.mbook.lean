/-! ===== mathematics: the book: counts, limits, state ===== -/
/-- counts; how many limits, their units, lows, highs, mosts; state -/
abbrev Bk : Type := (Nat → Int32) × Nat × (Nat → Nat) × (Nat → Nat) × (Nat → Nat) × (Nat → Nat) × Int32
def bkC (k : Bk) : Nat → Int32 := k.1
def bkN (k : Bk) : Nat := k.2.1
def bkU (k : Bk) : Nat → Nat := k.2.2.1
def bkL (k : Bk) : Nat → Nat := k.2.2.2.1
def bkH (k : Bk) : Nat → Nat := k.2.2.2.2.1
def bkM (k : Bk) : Nat → Nat := k.2.2.2.2.2.1
def bkD (k : Bk) : Int32 := k.2.2.2.2.2.2
def IB (k : Bk) : Prop := bkN k ≤ 12 ∧ ∀ i, i < bkN k → bkU k i < 24 ∧ bkL k i ≤ bkH k i ∧ bkH k i < 64 ∧ bkM k i ≤ 999999
def BC (m : am_m) (b : Nat) (k : Bk) : Prop := (∀ i, i < 11 → m (aB b 0) i = bkC k i) ∧ m b 5 = am_i (bkN k) ∧ (∀ i, i < bkN k → i < 12 → m (aB b 1) i = am_i (bkU k i) ∧ m (aB b 2) i = am_i (bkL k i) ∧ m (aB b 3) i = am_i (bkH k i) ∧ m (aB b 4) i = am_i (bkM k i)) ∧ m b 6 = bkD k
def BM (m : am_m) (a : Nat) (k : Bk) : Prop := (∀ i, i < 11 → m a (15456 + i) = bkC k i) ∧ m a 15467 = am_i (bkN k) ∧ (∀ i, i < bkN k → i < 12 → m a (15468 + 4 * i) = am_i (bkU k i) ∧ m a (15468 + 4 * i + 1) = am_i (bkL k i) ∧ m a (15468 + 4 * i + 2) = am_i (bkH k i) ∧ m a (15468 + 4 * i + 3) = am_i (bkM k i)) ∧ m a 15516 = bkD k
def bkAdd (k : Bk) (w : Nat) (x : Int32) : Bk := ((fun i => if i = w then bkC k i + x else bkC k i), k.2)
def bkSt (k : Bk) (x : Int32) : Bk := (k.1, k.2.1, k.2.2.1, k.2.2.2.1, k.2.2.2.2.1, k.2.2.2.2.2.1, x)
/-- two changes of one count are one -/
theorem bkAdd_IB {k : Bk} {w : Nat} {x : Int32} (h : IB k) : IB (bkAdd k w x) := h
theorem bkSt_IB {k : Bk} {x : Int32} (h : IB k) : IB (bkSt k x) := h
section BO
variable {m : am_m} {k : Bk} {b : Nat}
theorem BC.kept {m' : am_m} (h : BC m b k) (e : ∀ a, b ≤ a → a < b + 6 → m' a = m a) : BC m' b k := by
  refine ⟨fun i hi => ?_, ?_, fun i hi hi2 => ?_, ?_⟩
  · rw [e _ (by unfold aB; omega) (by unfold aB; omega)]; exact h.1 i hi
  · rw [e _ (by omega) (by omega)]; exact h.2.1
  · rw [e (aB b 1) (by unfold aB; omega) (by unfold aB; omega), e (aB b 2) (by unfold aB; omega) (by unfold aB; omega), e (aB b 3) (by unfold aB; omega) (by unfold aB; omega), e (aB b 4) (by unfold aB; omega) (by unfold aB; omega)]; exact h.2.2.1 i hi hi2
  · rw [e _ (by omega) (by omega)]; exact h.2.2.2
theorem BM.copy {m' : am_m} {a c : Nat} (h : BM m a k) (e : ∀ i, 15456 ≤ i → i < 15517 → m' c i = m a i) : BM m' c k := by
  refine ⟨fun i hi => ?_, ?_, fun i hi hi2 => ?_, ?_⟩
  · rw [e _ (by omega) (by omega)]; exact h.1 i hi
  · rw [e _ (by omega) (by omega)]; exact h.2.1
  · rw [e (15468 + 4 * i) (by omega) (by omega), e (15468 + 4 * i + 1) (by omega) (by omega), e (15468 + 4 * i + 2) (by omega) (by omega), e (15468 + 4 * i + 3) (by omega) (by omega)]; exact h.2.2.1 i hi hi2
  · rw [e _ (by omega) (by omega)]; exact h.2.2.2
theorem s_X0_tally {w : Nat} {x : Int32} (h : BC m b k) (hw : w < 11) : ∃ m', m_X0_tally m b (am_i w) x = some m' ∧ Fr (fun a => b ≤ a ∧ a < b + 6) m m' ∧ BC m' b (bkAdd k w x) := by
  refine ⟨am_si m (aB b 0) w (m (aB b 0) w + x), ?_, (Fr.refl _ _).si2 ⟨by unfold aB; omega, by unfold aB; omega⟩, ⟨fun i hi => ?_, ?_, fun i hi hi2 => ?_, ?_⟩⟩
  · unfold m_X0_tally
    rw [if_neg (by rw [i_zero, i_lt (by omega) (by omega) (by omega) (by omega)]; omega), if_neg (by rw [i_le (by omega) (by omega) (by omega) (by omega)]; omega), i_ibt (by omega) (by omega) (by omega), cond_true, cond_true, am_letF, i_ixn (by omega)]
  · show _ = if i = w then bkC k i + x else bkC k i
    by_cases e : i = w
    · rw [if_pos e, e, si_at, h.1 w hw]
    · rw [if_neg e, si_o e, h.1 i hi]
  · rw [si_ne (by unfold aB; omega)]; exact h.2.1
  · rw [si_ne (by unfold aB; omega), si_ne (by unfold aB; omega), si_ne (by unfold aB; omega), si_ne (by unfold aB; omega)]; exact h.2.2.1 i hi hi2
  · rw [si_ne (by unfold aB; omega)]; exact h.2.2.2
/-- only counts, limits and state are other than they were -/
def FK (m m' : am_m) : Prop := Fr (fun b => b = 3262) m m' ∧ ∀ i, i < 15456 → m' 3262 i = m 3262 i
theorem FK.trans {m' m2 : am_m} (h : FK m m') (h2 : FK m' m2) : FK m m2 := ⟨h.1.trans h2.1, fun i hi => (h2.2 i hi).trans (h.2 i hi)⟩
theorem OM.fk {m' : am_m} {g : Og} (h : OM m 3262 0 g) (f : FK m m') : OM m' 3262 0 g := h.kept (fun i hi => f.2 _ (by omega))
theorem s_X9_counts {w : Nat} {x : Int32} (h : BM m 3262 k) (hw : w < 11) : ∃ m', m_X9_counts m (am_i w) x = some m' ∧ FK m m' ∧ BM m' 3262 (bkAdd k w x) := by
  refine ⟨am_si m 3262 (15456 + w) (m 3262 (15456 + w) + x), ?_, ⟨(Fr.refl _ _).si2 rfl, fun i hi => si_o (by omega)⟩, ⟨fun i hi => ?_, ?_, fun i hi hi2 => ?_, ?_⟩⟩
  · unfold m_X9_counts
    rw [i_add, i_ibt (by omega) (by omega) (by omega), cond_true, cond_true, am_letF, i_ix (by omega) (by omega), show ((15456 : Int) + (w : Int)).toNat = 15456 + w by omega]
  · show _ = if i = w then bkC k i + x else bkC k i
    by_cases e : i = w
    · rw [if_pos e, e, si_at, h.1 w hw]
    · rw [if_neg e, si_o (by omega), h.1 i hi]
  · rw [si_o (by omega)]; exact h.2.1
  · rw [si_o (by omega), si_o (by omega), si_o (by omega), si_o (by omega)]; exact h.2.2.1 i hi hi2
  · rw [si_o (by omega)]; exact h.2.2.2
theorem s_X0_merged {x : Int32} (h : BC m b k) : ∃ m', m_X0_merged m b x = some m' ∧ Fr (fun a => b ≤ a ∧ a < b + 6) m m' ∧ BC m' b (bkAdd (bkAdd k 0 x) 2 (am_i 1)) := by
  obtain ⟨m1, e1, f1, h1⟩ := s_X0_tally (w := 0) (x := x) h (by decide)
  obtain ⟨m2, e2, f2, h2⟩ := s_X0_tally (w := 2) (x := am_i 1) h1 (by decide)
  refine ⟨m2, ?_, f1.trans f2, h2⟩
  unfold m_X0_merged
  rw [show am_i 0 = am_i ((0 : Nat) : Int) from rfl, e1, Option.bind_some, show am_i 2 = am_i ((2 : Nat) : Int) from rfl, e2]
  rfl
theorem s_X0_parted {x : Int32} (h : BC m b k) : ∃ m', m_X0_parted m b x = some m' ∧ Fr (fun a => b ≤ a ∧ a < b + 6) m m' ∧ BC m' b (bkAdd (bkAdd k 1 x) 3 (am_i 1)) := by
  obtain ⟨m1, e1, f1, h1⟩ := s_X0_tally (w := 1) (x := x) h (by decide)
  obtain ⟨m2, e2, f2, h2⟩ := s_X0_tally (w := 3) (x := am_i 1) h1 (by decide)
  refine ⟨m2, ?_, f1.trans f2, h2⟩
  unfold m_X0_parted
  rw [show m_X0_tally m b (am_i 1) x = some m1 from e1, Option.bind_some, show m_X0_tally m1 b (am_i 3) (am_i 1) = some m2 from e2]
  rfl
theorem cb11 : am_cb2 (am_i 0) (am_i 0) (am_i 11) 11 11 = true := by decide
theorem cb12 : am_cb2 (am_i 0) (am_i 0) (am_i 12) 12 12 = true := by decide
theorem x11 : am_ix (am_i 11) = 11 := by decide
theorem x12 : am_ix (am_i 12) = 12 := by decide
theorem s_X0_takeOver {c : Nat} (h : BC m c k) (hb : am_bk b) (hc : am_bk c) (hbc : b ≠ c) : ∃ m', m_X0_takeOver m b c = some m' ∧ Fr (fun a => b ≤ a ∧ a < b + 6) m m' ∧ BC m' b k := by
  have sep : b + 6 ≤ c ∨ c + 6 ≤ b := by rcases hb with rfl | rfl <;> rcases hc with rfl | rfl <;> omega
  unfold m_X0_takeOver
  rw [cb11, cond_true, am_letF, cb12, cond_true, am_letF, cond_true, am_letF, cond_true, am_letF, cond_true, am_letF, am_letF, am_letF, x0, x11, x12]
  generalize e1 : am_sc m (aB c 0) 0 (aB b 0) 0 11 = m1
  generalize e2 : am_sc m1 (aB c 1) 0 (aB b 1) 0 12 = m2
  generalize e3 : am_sc m2 (aB c 2) 0 (aB b 2) 0 12 = m3
  generalize e4 : am_sc m3 (aB c 3) 0 (aB b 3) 0 12 = m4
  generalize e5 : am_sc m4 (aB c 4) 0 (aB b 4) 0 12 = m5
  generalize e6 : am_si m5 b 5 (m5 c 5) = m6
  have n1 : ∀ a, a ≠ aB b 0 → m1 a = m a := fun a ha => by rw [← e1, sc_ne ha]
  have n2 : ∀ a, a ≠ aB b 1 → m2 a = m1 a := fun a ha => by rw [← e2, sc_ne ha]
  have n3 : ∀ a, a ≠ aB b 2 → m3 a = m2 a := fun a ha => by rw [← e3, sc_ne ha]
  have n4 : ∀ a, a ≠ aB b 3 → m4 a = m3 a := fun a ha => by rw [← e4, sc_ne ha]
  have n5 : ∀ a, a ≠ aB b 4 → m5 a = m4 a := fun a ha => by rw [← e5, sc_ne ha]
  have n6 : ∀ a, a ≠ b → m6 a = m5 a := fun a ha => by rw [← e6, si_ne ha]
  have n7 : ∀ a, a ≠ b → am_si m6 b 6 (m6 c 6) a = m6 a := fun a ha => si_ne ha
  unfold aB at *
  refine ⟨_, rfl, fun a ha => ?_, ⟨fun i hi => ?_, ?_, fun i hi hi2 => ⟨?_, ?_, ?_, ?_⟩, ?_⟩⟩
  · rw [n7 a (by omega), n6 a (by omega), n5 a (by omega), n4 a (by omega), n3 a (by omega), n2 a (by omega), n1 a (by omega)]
  · show _ = _
    unfold aB
    rw [n7 _ (by omega), n6 _ (by omega), n5 _ (by omega), n4 _ (by omega), n3 _ (by omega), n2 _ (by omega), ← e1, sc_at hi]
    exact h.1 i hi
  · rw [si_o (by decide), ← e6, si_at, n5 _ (by omega), n4 _ (by omega), n3 _ (by omega), n2 _ (by omega), n1 _ (by omega)]
    exact h.2.1
  · unfold aB
    rw [n7 _ (by omega), n6 _ (by omega), n5 _ (by omega), n4 _ (by omega), n3 _ (by omega), ← e2, sc_at hi2, n1 _ (by omega)]
    exact (h.2.2.1 i hi hi2).1
  · unfold aB
    rw [n7 _ (by omega), n6 _ (by omega), n5 _ (by omega), n4 _ (by omega), ← e3, sc_at hi2, n2 _ (by omega), n1 _ (by omega)]
    exact (h.2.2.1 i hi hi2).2.1
  · unfold aB
    rw [n7 _ (by omega), n6 _ (by omega), n5 _ (by omega), ← e4, sc_at hi2, n3 _ (by omega), n2 _ (by omega), n1 _ (by omega)]
    exact (h.2.2.1 i hi hi2).2.2.1
  · unfold aB
    rw [n7 _ (by omega), n6 _ (by omega), ← e5, sc_at hi2, n4 _ (by omega), n3 _ (by omega), n2 _ (by omega), n1 _ (by omega)]
    exact (h.2.2.1 i hi hi2).2.2.2
  · rw [si_at, n6 _ (by omega), n5 _ (by omega), n4 _ (by omega), n3 _ (by omega), n2 _ (by omega), n1 _ (by omega)]
    exact h.2.2.2
end BO
