/-! ===== mathematics: halves, the choices ===== -/
/-- the lowest bit -/
def tz (c : Nat) : Nat := fi (fun i => c.testBit i) 12
def tzO (c t i : Nat) : Bool := ((decide (t ≤ i) || (!(c.testBit i) && (c - 1).testBit i)) && (!(decide (i = t)) || !((c - 1).testBit i))) && (decide (i ≤ t) || (c.testBit i == (c - 1).testBit i))
def tzC (c : Nat) : Bool := decide (c = 0) || (decide (tz c < 12) && (c.testBit (tz c) && decide (fi (fun i => !(tzO c (tz c) i)) 12 = 12)))
theorem tz_c : ∀ a, a < 64 → ∀ b, b < 64 → tzC (64 * a + b) = true := by decide +kernel
theorem tzO_i {c t i : Nat} (h : tzO c t i = true) : (i < t → c.testBit i = false ∧ (c - 1).testBit i = true) ∧ (i = t → (c - 1).testBit i = false) ∧ (t < i → c.testBit i = (c - 1).testBit i) := by
  unfold tzO at h
  rw [Bool.and_eq_true, Bool.and_eq_true] at h
  obtain ⟨⟨h1, h2⟩, h3⟩ := h
  refine ⟨fun q => ?_, fun q => ?_, fun q => ?_⟩
  · rw [decide_eq_false (show ¬ t ≤ i by omega), Bool.false_or, Bool.and_eq_true] at h1
    refine ⟨?_, h1.2⟩
    have g1 := h1.1
    cases z : c.testBit i
    · rfl
    · rw [z] at g1; cases g1
  · rw [decide_eq_true q] at h2
    cases z : (c - 1).testBit i
    · rfl
    · rw [z] at h2; cases h2
  · rw [decide_eq_false (show ¬ i ≤ t by omega), Bool.false_or] at h3
    exact eq_of_beq h3
theorem tz_i {c : Nat} (hc : c < 4096) (h0 : 0 < c) : tz c < 12 ∧ c.testBit (tz c) = true ∧ ∀ i, i < 12 → (i < tz c → c.testBit i = false ∧ (c - 1).testBit i = true) ∧ (i = tz c → (c - 1).testBit i = false) ∧ (tz c < i → c.testBit i = (c - 1).testBit i) := by
  have q := tz_c (c / 64) (by omega) (c % 64) (by omega)
  rw [show 64 * (c / 64) + c % 64 = c by omega] at q
  unfold tzC at q
  rw [decide_eq_false (show ¬ c = 0 by omega), Bool.false_or, Bool.and_eq_true, Bool.and_eq_true] at q
  obtain ⟨q1, q2, q3⟩ := q
  have q3 := of_decide_eq_true q3
  refine ⟨of_decide_eq_true q1, q2, fun i hi => tzO_i ?_⟩
  have := fi_no (fun i => !(tzO c (tz c) i)) 12 i (by omega)
  cases z : tzO c (tz c) i
  · have this : (!(tzO c (tz c) i)) = false := this
    rw [z] at this; cases this
  · rfl
theorem tz_n : ∀ a, a < 64 → ∀ b, b < 64 → 0 < 64 * a + b → am_i ((64 * a + b : Nat) : Int) &&& -am_i ((64 * a + b : Nat) : Int) = am_i ((2 ^ tz (64 * a + b) : Nat) : Int) := by decide +kernel
theorem tz_p : ∀ t : Nat, t < 12 → m_J6_bitCount_0f7a4 (fun _ _ => am_i 0) (am_i ((2 ^ t : Nat) : Int) - am_i 1) = some (am_i (t : Int)) := by decide +kernel
theorem s_low {m : am_m} {c : Nat} (hc : c < 4096) (h0 : 0 < c) : m_J6_bitCount_0f7a4 m ((am_i (c : Int) &&& -am_i (c : Int)) - am_i 1) = some (am_i (tz c : Int)) := by
  have q := tz_n (c / 64) (by omega) (c % 64) (by omega) (by omega)
  rw [show 64 * (c / 64) + c % 64 = c by omega] at q
  rw [q]
  exact tz_p (tz c) (tz_i hc h0).1
/-- what a choice has of a number -/
def hvV (v : Nat → Nat) (c i : Nat) : Nat := if c.testBit i = true then v i else 0
def hvS (v : Nat → Nat) (c n : Nat) : Nat := su (hvV v c) n
theorem hvS_s {v : Nat → Nat} {c : Nat} (hc : c < 4096) (h0 : 0 < c) : ∀ n, n ≤ 12 → hvS v c n + su v (min n (tz c)) = hvS v (c - 1) n + if tz c < n then v (tz c) else 0 := by
  obtain ⟨t1, t2, t3⟩ := tz_i hc h0
  intro n
  induction n with
  | zero => intro _; rw [if_neg (Nat.not_lt_zero _), Nat.zero_min]; rfl
  | succ n ih =>
    intro hn
    have ih := ih (by omega)
    obtain ⟨g1, g2, g3⟩ := t3 n (by omega)
    show su (hvV v c) n + hvV v c n + su v (min (n + 1) (tz c)) = su (hvV v (c - 1)) n + hvV v (c - 1) n + if tz c < n + 1 then v (tz c) else 0
    have ih : su (hvV v c) n + su v (min n (tz c)) = su (hvV v (c - 1)) n + if tz c < n then v (tz c) else 0 := ih
    unfold hvV
    unfold hvV at ih
    by_cases c1 : n < tz c
    · rw [(g1 c1).1, (g1 c1).2, if_neg (by decide), if_pos rfl, if_neg (by omega), show min (n + 1) (tz c) = n + 1 by omega, su_s]
      rw [if_neg (by omega), show min n (tz c) = n by omega] at ih
      omega
    · by_cases c2 : n = tz c
      · rw [g2 c2, c2, t2, if_pos rfl, if_neg (by decide), if_pos (by omega), show min (tz c + 1) (tz c) = tz c by omega]
        rw [c2, if_neg (Nat.lt_irrefl _), show min (tz c) (tz c) = tz c by omega] at ih
        omega
      · rw [g3 (by omega), if_pos (show tz c < n + 1 by omega), show min (n + 1) (tz c) = tz c by omega]
        rw [if_pos (show tz c < n by omega), show min n (tz c) = tz c by omega] at ih
        omega
theorem tz_lt {c n : Nat} (hc : c < 2 ^ n) (hn : n ≤ 12) (h0 : 0 < c) : tz c < n := by
  have h : 2 ^ n ≤ 2 ^ 12 := Nat.pow_le_pow_right (by decide) hn
  obtain ⟨t1, t2, _⟩ := tz_i (c := c) (by have : (2 : Nat) ^ 12 = 4096 := rfl; omega) h0
  by_cases q : tz c < n
  · exact q
  · have := Nat.testBit_lt_two_pow (Nat.lt_of_lt_of_le hc (Nat.pow_le_pow_right (by decide) (show n ≤ tz c by omega)))
    rw [t2] at this
    cases this
