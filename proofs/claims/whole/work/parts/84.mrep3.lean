/-! ===== mathematics: the report's leaders ===== -/
theorem cn_pig {P : Nat → Bool} {R : Nat → Nat} {n i : Nat} (h1 : ∀ c, c < n → P c = true → R c < i) (h2 : ∀ a b, a < n → b < n → P a = true → P b = true → R a = R b → a = b) : cn P n ≤ i := by
  have e : ∀ c, c < n → b1 (P c) = su (fun j => b1 (P c && (R c == j))) i := fun c hc => by
    cases q : P c
    · exact (su_0 (fun j _ => rfl)).symm
    · rw [su_one (k := R c) (h1 c hc q) (fun j _ hj => by
        show b1 (true && (R c == j)) = 0
        rw [Bool.true_and, show (R c == j) = false from by simpa using fun e => hj e.symm]; rfl)]
      show b1 true = b1 (true && (R c == R c))
      rw [Bool.true_and, show (R c == R c) = true from by simp]
  unfold cn
  rw [su_congr n e, su_swap]
  have q := su_le (f := fun j => su (fun c => b1 (P c && (R c == j))) n) (B := 1) i (fun j _ => by
    by_cases ex : ∃ c0, c0 < n ∧ P c0 = true ∧ R c0 = j
    · obtain ⟨c0, g1, g2, g3⟩ := ex
      show su (fun c => b1 (P c && (R c == j))) n ≤ 1
      rw [su_one (k := c0) g1 (fun c hc hn => by
        show b1 (P c && (R c == j)) = 0
        cases q : P c
        · rfl
        · rw [Bool.true_and, show (R c == j) = false from by simpa using fun e => hn (h2 c c0 hc g1 q g2 (by omega))]; rfl)]
      exact b1_le _
    · show su (fun c => b1 (P c && (R c == j))) n ≤ 1
      rw [su_0 (fun c hc => by
        show b1 (P c && (R c == j)) = 0
        cases q : P c
        · rfl
        · rw [Bool.true_and, show (R c == j) = false from by simpa using fun e => ex ⟨c, hc, q, e⟩]; rfl)]
      exact Nat.zero_le _)
  omega
theorem ld_some {f : Nat → Nat} {i : Nat} (h : i < pos f) : ldI f (i : Int) ≠ -1 := fun e => by
  have k := ld_key i e
  have p : pos f ≤ i := cn_pig (R := rk f) (fun c hc q => k c hc (of_decide_eq_true q)) (fun a b ha hb p1 p2 e => rk_inj ha hb (of_decide_eq_true p1) (of_decide_eq_true p2) e)
  omega
/-- the report after j leaders -/
def rpS (f : Nat → Nat) (q : Rp) : Nat → Rp
  | 0 => q
  | j + 1 => rN (rA (rN (rA (rpS f q j) 32) (ldA f (j : Int))) 120) (f (ldA f (j : Int)))
theorem rpS_len {f : Nat → Nat} {q : Rp} (hf : ∀ c, f c ≤ 239976) : ∀ j, j ≤ pos f → (rpS f q j).1 ≤ q.1 + 10 * j
  | 0, _ => Nat.le_refl _
  | j + 1, h => by
    have ih := rpS_len (q := q) hf j (by omega)
    obtain ⟨b, g1, g2, g3, g4, g5⟩ := ldI_is (ld_some (f := f) (i := j) (by omega))
    have l1 := rN_len (q := rA (rpS f q j) 32) (f := 2) (n := ldA f (j : Int)) (by decide) (by decide) (by rw [g5]; omega)
    have l2 := rN_len (q := rA (rN (rA (rpS f q j) 32) (ldA f (j : Int))) 120) (f := 6) (n := f (ldA f (j : Int))) (by decide) (by decide) (by have := hf (ldA f (j : Int)); omega)
    have x1 : (rA (rpS f q j) 32).1 = (rpS f q j).1 + 1 := rfl
    have x2 : (rA (rN (rA (rpS f q j) 32) (ldA f (j : Int))) 120).1 = (rN (rA (rpS f q j) 32) (ldA f (j : Int))).1 + 1 := rfl
    show (rN (rA (rN (rA (rpS f q j) 32) (ldA f (j : Int))) 120) (f (ldA f (j : Int)))).1 ≤ _
    omega
section RPt
variable {m : am_m} {q : Rp} {f : Nat → Nat}
theorem l_X3_tell_22 {a : Nat} {x1 : Int32} {k : am_m → Option am_m} (h : Row m a f) (ha : a < 2986) (hf : ∀ c, f c ≤ 239976) (hR : RPC m q) (hq : q.1 ≤ 3) : ∃ m', m_X3_tell_22 x1 a (am_i (pos f : Nat)) k am_F (am_i 0) m = k m' ∧ Fr F6 m m' ∧ RPC m' (rpS f q (min (pos f) 5)) := by
  have p64 : pos f ≤ 64 := cn_le _ _
  refine Exists.elim (lo_inv (fun n j (t : am_m) => m_X3_tell_22 x1 a (am_i (pos f : Nat)) k n (am_i (j : Int)) t) (fun j t => Fr F6 m t ∧ RPC t (rpS f q j)) 0 (min (pos f) 5) k (n := am_F) (s0 := m) ⟨Fr.refl _ _, hR⟩ (by omega) (am_Fv (by omega)) (fun n j t _ hj A => ?_) (fun n t A => ?_)) (fun t L => ⟨t, L.2, L.1.1, L.1.2⟩)
  · obtain ⟨a1, a2⟩ := A
    obtain ⟨b, g1, g2, g3, g4, g5⟩ := ldI_is (ld_some (f := f) (i := j) (by omega))
    have rt : Row t a f := ⟨fun c hc => by rw [a1 a (by unfold F6; omega)]; exact h.1 c hc, h.2⟩
    have len := rpS_len (q := q) hf j (by omega)
    have l1 := rN_len (q := rA (rpS f q j) 32) (f := 2) (n := b) (by decide) (by decide) (by omega)
    have x1' : (rA (rpS f q j) 32).1 = (rpS f q j).1 + 1 := rfl
    have x2' : (rA (rN (rA (rpS f q j) 32) b) 120).1 = (rN (rA (rpS f q j) 32) b).1 + 1 := rfl
    obtain ⟨m1, e1, f1, h1⟩ := s_put (x := 32) a2 (by omega)
    obtain ⟨m2, e2, f2, h2⟩ := s_putNumber (f := 2) (n := b) (by decide) (by decide) (by omega) h1 (by omega)
    obtain ⟨m3, e3, f3, h3⟩ := s_put (x := 120) h2 (by omega)
    have fb := hf b
    obtain ⟨m4, e4, f4, h4⟩ := s_putNumber (f := 6) (n := f b) (by decide) (by decide) (by omega) h3 (by omega)
    have na : ¬ F6 a := by unfold F6; omega
    have v3 : m3 a b = am_i (f b : Int) := by rw [f3 a na, f2 a na, f1 a na]; exact rt.1 b g1
    show ∃ s', m_X3_tell_22 _ _ _ _ (n + 1) _ t = m_X3_tell_22 _ _ _ _ n _ s' ∧ _
    rw [m_X3_tell_22, if_neg (by rw [i_le (by omega) (by omega) (by omega) (by omega)]; omega), if_neg (by rw [i_le (by omega) (by omega) (by omega) (by omega)]; omega), s_X5_leaderAt rt (by omega) (by omega), g4, Option.bind_some, if_pos (by rw [i_eq (by omega) (by omega) (by omega) (by omega)]; omega), e1, Option.bind_some, e2, Option.bind_some, e3, Option.bind_some, i_ibt (by omega) (by omega) (by omega), cond_true, i_ixn (by omega), v3, e4, Option.bind_some, nj]
    refine ⟨m4, rfl, ((a1.trans f1).trans f2).trans (f3.trans f4), ?_⟩
    show RPC m4 (rN (rA (rN (rA (rpS f q j) 32) (ldA f (j : Int))) 120) (f (ldA f (j : Int))))
    rw [g5]
    exact h4
  · show m_X3_tell_22 _ _ _ _ (n + 1) (am_i ((min (pos f) 5 : Nat) : Int)) t = _
    rw [m_X3_tell_22]
    by_cases c : pos f ≤ 5
    · rw [if_pos (by rw [i_le (by omega) (by omega) (by omega) (by omega)]; omega)]
    · rw [if_neg (by rw [i_le (by omega) (by omega) (by omega) (by omega)]; omega), if_pos (by rw [i_le (by omega) (by omega) (by omega) (by omega)]; omega)]
theorem l_X9_report_49 {u : Nat} {x1 : Int32} {k : am_m → Option (Int32 × am_m)} (h : RowW m (1608 + 64 * u) f) (hu : u < 24) (hf : ∀ c, f c ≤ 239976) (hR : RPM m q) (hq : q.1 ≤ 3) : ∃ m', m_X9_report_49 x1 (am_i u) (am_i (pos f : Nat)) k am_F (am_i 0) m = k m' ∧ F7 m m' ∧ RPM m' (rpS f q (min (pos f) 5)) := by
  have p64 : pos f ≤ 64 := cn_le _ _
  refine Exists.elim (lo_inv (fun n j (t : am_m) => m_X9_report_49 x1 (am_i u) (am_i (pos f : Nat)) k n (am_i (j : Int)) t) (fun j t => F7 m t ∧ RPM t (rpS f q j)) 0 (min (pos f) 5) k (n := am_F) (s0 := m) ⟨F7.refl, hR⟩ (by omega) (am_Fv (by omega)) (fun n j t _ hj A => ?_) (fun n t A => ?_)) (fun t L => ⟨t, L.2, L.1.1, L.1.2⟩)
  · obtain ⟨a1, a2⟩ := A
    obtain ⟨b, g1, g2, g3, g4, g5⟩ := ldI_is (ld_some (f := f) (i := j) (by omega))
    have rt : RowW t (1608 + 64 * u) f := ⟨fun c hc => by rw [a1.1 3262 (by decide) (by decide)]; exact h.1 c hc, h.2⟩
    have len := rpS_len (q := q) hf j (by omega)
    have l1 := rN_len (q := rA (rpS f q j) 32) (f := 2) (n := b) (by decide) (by decide) (by omega)
    have x1' : (rA (rpS f q j) 32).1 = (rpS f q j).1 + 1 := rfl
    have x2' : (rA (rN (rA (rpS f q j) 32) b) 120).1 = (rN (rA (rpS f q j) 32) b).1 + 1 := rfl
    obtain ⟨m1, e1, f1, h1⟩ := s_says (x := 32) a2 (by omega)
    obtain ⟨m2, e2, f2, h2⟩ := s_sayN (f := 2) (n := b) (by decide) (by decide) (by omega) h1 (by omega)
    obtain ⟨m3, e3, f3, h3⟩ := s_says (x := 120) h2 (by omega)
    have fb := hf b
    obtain ⟨m4, e4, f4, h4⟩ := s_sayN (f := 6) (n := f b) (by decide) (by decide) (by omega) h3 (by omega)
    have v3 : m3 3262 (1608 + 64 * u + b) = am_i (f b : Int) := by rw [f3.1 3262 (by decide) (by decide), f2.1 3262 (by decide) (by decide), f1.1 3262 (by decide) (by decide)]; exact rt.1 b g1
    have ea : am_i 1608 + am_i 64 * am_i (u : Int) = am_i ((1608 + 64 * u : Nat) : Int) := by rw [i_mul, i_add]; rfl
    have xb : am_ix (am_i ((1608 + 64 * u : Nat) : Int) + am_i (b : Int)) = 1608 + 64 * u + b := by rw [i_add, i_ix (by omega) (by omega)]; omega
    have yb : am_ib (am_i ((1608 + 64 * u : Nat) : Int) + am_i (b : Int)) 15517 = true := by rw [i_add, i_ibt (by omega) (by omega) (by omega)]
    show ∃ s', m_X9_report_49 _ _ _ _ (n + 1) _ t = m_X9_report_49 _ _ _ _ n _ s' ∧ _
    rw [m_X9_report_49, if_neg (by rw [i_le (by omega) (by omega) (by omega) (by omega)]; omega), if_neg (by rw [i_le (by omega) (by omega) (by omega) (by omega)]; omega), s_X9_leaderOf rt hu (by omega) (by omega), g4, Option.bind_some, e1, Option.bind_some, e2, Option.bind_some, e3, Option.bind_some]
    unfold m_X9_sumAt
    rw [Option.bind_some, ea, yb, cond_true, xb, v3, e4, Option.bind_some, nj]
    refine ⟨m4, rfl, ((a1.trans f1).trans f2).trans (f3.trans f4), ?_⟩
    show RPM m4 (rN (rA (rN (rA (rpS f q j) 32) (ldA f (j : Int))) 120) (f (ldA f (j : Int))))
    rw [g5]
    exact h4
  · show m_X9_report_49 _ _ _ _ (n + 1) (am_i ((min (pos f) 5 : Nat) : Int)) t = _
    rw [m_X9_report_49]
    by_cases c : pos f ≤ 5
    · rw [if_pos (by rw [i_le (by omega) (by omega) (by omega) (by omega)]; omega)]
    · rw [if_neg (by rw [i_le (by omega) (by omega) (by omega) (by omega)]; omega), if_pos (by rw [i_le (by omega) (by omega) (by omega) (by omega)]; omega)]
end RPt
