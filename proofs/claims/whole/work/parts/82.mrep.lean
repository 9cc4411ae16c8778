/-! ===== mathematics: the report, signs and numbers ===== -/
/-- one sign more -/
def rA (q : Rp) (x : Int) : Rp := (q.1 + 1, fun i => if i = q.1 then x else q.2 i)
/-- a number more -/
def rNf : Nat → Rp → Nat → Rp
  | 0, q, _ => q
  | f + 1, q, n => if n ≤ 9 then rA q (48 + (n % 10 : Nat)) else rA (rNf f q (n / 10)) (48 + (n % 10 : Nat))
def rN (q : Rp) (n : Nat) : Rp := rNf 20 q n
theorem rNf_more {q : Rp} : ∀ f n, 0 < f → n < 10 ^ f → rNf (f + 1) q n = rNf f q n := by
  intro f
  induction f with
  | zero => intro n h; exact absurd h (Nat.lt_irrefl 0)
  | succ f ih =>
    intro n _ hn
    show (if n ≤ 9 then rA q (48 + (n % 10 : Nat)) else rA (rNf (f + 1) q (n / 10)) (48 + (n % 10 : Nat))) = if n ≤ 9 then rA q (48 + (n % 10 : Nat)) else rA (rNf f q (n / 10)) (48 + (n % 10 : Nat))
    by_cases c : n ≤ 9
    · rw [if_pos c, if_pos c]
    · rw [if_neg c, if_neg c]
      cases f with
      | zero => exact absurd hn (by show ¬ n < 10; omega)
      | succ f =>
        rw [ih (n / 10) (by omega) (by rw [Nat.pow_succ] at hn; omega)]
theorem rNf_any {q : Rp} {f n : Nat} (hf : 0 < f) (hn : n < 10 ^ f) : ∀ d, rNf (f + d) q n = rNf f q n
  | 0 => rfl
  | d + 1 => by
    rw [← rNf_any hf hn d]
    exact rNf_more (f + d) n (by omega) (Nat.lt_of_lt_of_le hn (Nat.pow_le_pow_right (by decide) (by omega)))
theorem rNf_len {q : Rp} : ∀ f n, (rNf f q n).1 ≤ q.1 + f
  | 0, _ => Nat.le_refl _
  | f + 1, n => by
    show (if n ≤ 9 then rA q (48 + (n % 10 : Nat)) else rA (rNf f q (n / 10)) (48 + (n % 10 : Nat))).1 ≤ q.1 + (f + 1)
    split
    · show q.1 + 1 ≤ _
      omega
    · show (rNf f q (n / 10)).1 + 1 ≤ _
      have := rNf_len (q := q) f (n / 10)
      omega
theorem rN_len {q : Rp} {f n : Nat} (hf : 0 < f) (hf2 : f ≤ 20) (hn : n < 10 ^ f) : (rN q n).1 ≤ q.1 + f := by
  have e := rNf_any (q := q) hf hn (20 - f)
  rw [show f + (20 - f) = 20 by omega] at e
  unfold rN
  rw [e]
  exact rNf_len f n
theorem rNf_ge {q : Rp} : ∀ f n, q.1 ≤ (rNf f q n).1
  | 0, _ => Nat.le_refl _
  | f + 1, n => by
    show q.1 ≤ (if n ≤ 9 then rA q (48 + (n % 10 : Nat)) else rA (rNf f q (n / 10)) (48 + (n % 10 : Nat))).1
    split
    · show q.1 ≤ q.1 + 1
      omega
    · show q.1 ≤ (rNf f q (n / 10)).1 + 1
      have := rNf_ge (q := q) f (n / 10)
      omega
/-- by its last digit -/
theorem rN_e {q : Rp} {n : Nat} (hn : n ≤ 2147483647) : rN q n = if n ≤ 9 then rA q (48 + (n % 10 : Nat)) else rA (rN q (n / 10)) (48 + (n % 10 : Nat)) := by
  have e := rNf_any (q := q) (f := 12) (by decide) (Nat.lt_of_le_of_lt hn (by decide)) 8
  have e1 := rNf_any (q := q) (f := 11) (n := n / 10) (by decide) (Nat.lt_of_le_of_lt (show n / 10 ≤ 2147483647 by omega) (by decide)) 9
  show rNf (12 + 8) q n = if n ≤ 9 then rA q (48 + (n % 10 : Nat)) else rA (rNf (11 + 9) q (n / 10)) (48 + (n % 10 : Nat))
  rw [e, e1]
  rfl
section RPq
variable {m : am_m} {q : Rp} {x : Int} {n : Nat}
def F6 (b : Nat) : Prop := b = 2986 ∨ b = 2987
theorem s_put (h : RPC m q) (hq : q.1 < 64) : ∃ m', m_X3_put m (am_i x) = some m' ∧ Fr F6 m m' ∧ RPC m' (rA q x) := by
  unfold m_X3_put
  rw [h.1, if_pos (by rw [i_lt (by omega) (by omega) (by omega) (by omega)]; omega), i_ibt (by omega) (by omega) (by omega), cond_true, am_letF, i_ixn (by omega), si_ne (by decide), h.1, am_letF, i_add]
  refine ⟨_, rfl, fun b hb => ?_, ?_, fun i hi hi2 => ?_⟩
  · rw [si_ne (fun e => hb (Or.inl e)), si_ne (fun e => hb (Or.inr e))]
  · rw [si_at]; rfl
  · rw [si_ne (by decide), m_si]
    show _ = am_i (if i = q.1 then x else q.2 i)
    by_cases c : i = q.1
    · rw [if_pos ⟨rfl, c⟩, if_pos c]
    · rw [if_neg (fun e => c e.2), if_neg c]
      have hi' : i < q.1 + 1 := hi
      exact h.2 i (by omega) hi2
def F7 (m m' : am_m) : Prop := (∀ b, b ≠ 3261 → b ≠ 3271 → m' b = m b) ∧ ∀ j, j ≠ 18 → m' 3261 j = m 3261 j
theorem F7.trans {m m1 m2 : am_m} (h : F7 m m1) (h2 : F7 m1 m2) : F7 m m2 := ⟨fun b b1 b2 => (h2.1 b b1 b2).trans (h.1 b b1 b2), fun j hj => (h2.2 j hj).trans (h.2 j hj)⟩
theorem F7.refl {m : am_m} : F7 m m := ⟨fun _ _ _ => rfl, fun _ _ => rfl⟩
theorem s_says (h : RPM m q) (hq : q.1 < 64) : ∃ m', m_X9_says m (am_i x) = some m' ∧ F7 m m' ∧ RPM m' (rA q x) := by
  unfold m_X9_says
  rw [h.1, i_ibt (by omega) (by omega) (by omega), cond_true, am_letF, i_ixn (by omega), si_ne (by decide), h.1, am_letF, i_add]
  refine ⟨_, rfl, ⟨fun b b1 b2 => ?_, fun j hj => ?_⟩, ?_, fun i hi hi2 => ?_⟩
  · rw [si_ne b1, si_ne b2]
  · rw [si_o hj, si_ne (by decide)]
  · rw [si_at]; rfl
  · rw [si_ne (by decide), m_si]
    show _ = am_i (if i = q.1 then x else q.2 i)
    by_cases c : i = q.1
    · rw [if_pos ⟨rfl, c⟩, if_pos c]
    · rw [if_neg (fun e => c e.2), if_neg c]
      have hi' : i < q.1 + 1 := hi
      exact h.2 i (by omega) hi2
theorem i_dig (hn : n ≤ 2147483647) : am_i 48 + (am_i (n : Int) - am_i (n : Int) / am_i 10 * am_i 10) = am_i (48 + (n % 10 : Nat)) := by
  rw [show am_i (n : Int) - am_i (n : Int) / am_i 10 * am_i 10 = am_i ((n % 10 : Nat) : Int) from i_modn (l := 10) hn (by decide) (by decide), i_add]
theorem s_saysNumber : ∀ (f : Nat) (n : Nat) {m : am_m}, 0 < f → n < 10 ^ f → n ≤ 2147483647 → RPM m q → (rNf f q n).1 ≤ 64 → ∃ m', m_X9_saysNumber f m (am_i (n : Int)) = some m' ∧ F7 m m' ∧ RPM m' (rNf f q n) := by
  intro f
  induction f with
  | zero => intro n m h; exact absurd h (Nat.lt_irrefl 0)
  | succ f ih =>
    intro n m _ hn hn2 h hl
    have er : rNf (f + 1) q n = if n ≤ 9 then rA q (48 + (n % 10 : Nat)) else rA (rNf f q (n / 10)) (48 + (n % 10 : Nat)) := rfl
    show ∃ m', (if am_i (n : Int) ≤ am_i 9 then (m_X9_says m (am_i 48 + (am_i (n : Int) - am_i (n : Int) / am_i 10 * am_i 10))).bind fun q2 => some q2 else (m_X9_saysNumber f m (am_i (n : Int) / am_i 10)).bind fun q3 => (m_X9_says q3 (am_i 48 + (am_i (n : Int) - am_i (n : Int) / am_i 10 * am_i 10))).bind fun q4 => some q4) = some m' ∧ _
    rw [i_dig hn2]
    by_cases c : n ≤ 9
    · rw [er, if_pos c] at hl ⊢
      rw [if_pos (by rw [i_le (by omega) (by omega) (by omega) (by omega)]; omega)]
      have hl' : q.1 + 1 ≤ 64 := hl
      obtain ⟨m1, e1, f1, h1⟩ := s_says (x := 48 + (n % 10 : Nat)) h (by omega)
      exact ⟨m1, by rw [e1]; rfl, f1, h1⟩
    · rw [er, if_neg c] at hl ⊢
      rw [if_neg (by rw [i_le (by omega) (by omega) (by omega) (by omega)]; omega)]
      have hl' : (rNf f q (n / 10)).1 + 1 ≤ 64 := hl
      have hf : 0 < f := by
        cases f with
        | zero => exact absurd hn (by show ¬ n < 10; omega)
        | succ f => omega
      obtain ⟨m1, e1, f1, h1⟩ := ih (n / 10) hf (by rw [Nat.pow_succ] at hn; omega) (by omega) h (by omega)
      obtain ⟨m2, e2, f2, h2⟩ := s_says (x := 48 + (n % 10 : Nat)) h1 (by omega)
      refine ⟨m2, ?_, f1.trans f2, h2⟩
      rw [show am_i (n : Int) / am_i 10 = am_i ((n / 10 : Nat) : Int) from i_div (a := (n : Int)) (b := 10) (by omega) (by omega) (by omega) (by omega), e1, Option.bind_some, e2, Option.bind_some]
end RPq
