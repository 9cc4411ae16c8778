/-! ===== mathematics: the whole state of both ===== -/
abbrev Tp : Type := Nat × (Nat → Nat) × Int × Int
def sgn (b : Nat) : Int := if b < 128 then (b : Int) else (b : Int) - 256
def TPC (m : am_m) (t : Tp) : Prop := m 2984 1 = am_i t.1 ∧ (∀ i, i < t.1 → i < 400 → m 2985 i = am_i (t.2.1 i)) ∧ m 2984 2 = am_i t.2.2.1 ∧ m 2984 3 = am_i t.2.2.2
def TPM (m : am_m) (t : Tp) : Prop := m 3261 9 = am_i t.1 ∧ (∀ i, i < t.1 → i < 400 → m 3268 i = am_i (sgn (t.2.1 i))) ∧ m 3261 11 = am_i t.2.2.1 ∧ m 3261 12 = am_i t.2.2.2
def IT (t : Tp) : Prop := t.1 ≤ 400 ∧ ∀ i, t.2.1 i < 256
abbrev Rp : Type := Nat × (Nat → Int)
def RPC (m : am_m) (q : Rp) : Prop := m 2986 1 = am_i q.1 ∧ ∀ i, i < q.1 → i < 64 → m 2987 i = am_i (q.2 i)
def RPM (m : am_m) (q : Rp) : Prop := m 3261 18 = am_i q.1 ∧ ∀ i, i < q.1 → i < 64 → m 3271 i = am_i (q.2 i)
/-- now, book, how much was kept, what was, whether there is an image, its organisation and book, tape, report -/
abbrev Sx : Type := Og × Bk × Nat × (Nat → Og) × Nat × Og × Bk × Tp × Rp
def xG (s : Sx) : Og := s.1
def xB (s : Sx) : Bk := s.2.1
def xN (s : Sx) : Nat := s.2.2.1
def xH (s : Sx) : Nat → Og := s.2.2.2.1
def xF (s : Sx) : Nat := s.2.2.2.2.1
def xI (s : Sx) : Og := s.2.2.2.2.2.1
def xJ (s : Sx) : Bk := s.2.2.2.2.2.2.1
def xT (s : Sx) : Tp := s.2.2.2.2.2.2.2.1
def xR (s : Sx) : Rp := s.2.2.2.2.2.2.2.2
def CS (m : am_m) (r : am_rr) (s : Sx) : Prop := OC m r 4 (xG s) ∧ BC m 2970 (xB s) ∧ PC m r (xN s) (xH s) ∧ (m 3 11 = am_i (xF s) ∧ (xF s = 1 → OC m r 3014 (xI s) ∧ BC m 2976 (xJ s))) ∧ TPC m (xT s) ∧ RPC m (xR s)
def MS (m : am_m) (s : Sx) : Prop := OM m 3262 0 (xG s) ∧ BM m 3262 (xB s) ∧ PM m (xN s) (xH s) ∧ (m 3261 5 = am_i (xF s) ∧ (xF s = 1 → OM m 3264 0 (xI s) ∧ BM m 3264 (xJ s))) ∧ TPM m (xT s) ∧ RPM m (xR s)
def IS (s : Sx) : Prop := IG (xG s) ∧ IB (xB s) ∧ (xN s ≤ 10 ∧ ∀ i, i < xN s → IG (xH s i)) ∧ (xF s ≤ 1 ∧ (xF s = 1 → IG (xI s) ∧ IB (xJ s))) ∧ IT (xT s) ∧ (xR s).1 ≤ 64
def GS (m : am_m) (r : am_rr) (s : Sx) : Prop := RI r ∧ CS m r s ∧ MS m s ∧ IS s
def Good (m : am_m) (r : am_rr) : Prop := ∃ s, GS m r s
/-- cells that hold nothing from one call to the next -/
def Scr (b : Nat) : Prop := (251 ≤ b ∧ b < 498) ∨ b = 2982 ∨ b = 2983 ∨ (2988 ≤ b ∧ b < 3014) ∨ b = 3263 ∨ b = 3266 ∨ b = 3267 ∨ b = 3269 ∨ b = 3270 ∨ b = 3272
section SS
variable {m m' : am_m} {r r' : am_rr} {s : Sx}
theorem TPC.kept {t : Tp} (h : TPC m t) (e : ∀ b, 2984 ≤ b → b < 2986 → m' b = m b) : TPC m' t := by
  unfold TPC
  rw [e 2984 (by decide) (by decide), e 2985 (by decide) (by decide)]
  exact h
theorem RPC.kept {t : Rp} (h : RPC m t) (e : ∀ b, 2986 ≤ b → b < 2988 → m' b = m b) : RPC m' t := by
  unfold RPC
  rw [e 2986 (by decide) (by decide), e 2987 (by decide) (by decide)]
  exact h
theorem PM.kept {n : Nat} {h : Nat → Og} (H : PM m n h) (e : m' 3261 4 = m 3261 4) (e2 : m' 3265 = m 3265) : PM m' n h := ⟨by rw [e]; exact H.1, fun i hi => (H.2 i hi).kept (fun j _ => by rw [e2])⟩
theorem CS.kept (h : CS m r s) (hI : IS s) (hR : RI r) (e : ∀ b, b < 3261 → ¬ Scr b → m' b = m b) (er : ∀ b, b ≠ 305 → r' b = r b) : CS m' r' s := by
  refine ⟨h.1.kept hR og4 (fun b b1 b2 => e b (by omega) (by unfold Scr; omega)) (er _ (by decide)), h.2.1.kept (fun b b1 b2 => e b (by omega) (by unfold Scr; omega)), h.2.2.1.kept hR hI.2.2.1.1 (fun b b1 b2 => e b (by omega) (by unfold Scr; omega)) (fun i hi => er _ (by omega)), ⟨by rw [e 3 (by decide) (by unfold Scr; omega)]; exact h.2.2.2.1.1, fun hf => ⟨(h.2.2.2.1.2 hf).1.kept hR og3014 (fun b b1 b2 => e b (by omega) (by unfold Scr; omega)) (er _ (by decide)), (h.2.2.2.1.2 hf).2.kept (fun b b1 b2 => e b (by omega) (by unfold Scr; omega))⟩⟩, h.2.2.2.2.1.kept (fun b b1 b2 => e b (by omega) (by unfold Scr; omega)), h.2.2.2.2.2.kept (fun b b1 b2 => e b (by omega) (by unfold Scr; omega))⟩
theorem MS.kept (h : MS m s) (e : ∀ b, 3261 ≤ b → ¬ Scr b → m' b = m b) : MS m' s := by
  have a1 := e 3261 (by decide) (by unfold Scr; omega)
  have a2 := e 3262 (by decide) (by unfold Scr; omega)
  have a3 := e 3264 (by decide) (by unfold Scr; omega)
  have a4 := e 3265 (by decide) (by unfold Scr; omega)
  have a5 := e 3268 (by decide) (by unfold Scr; omega)
  have a6 := e 3271 (by decide) (by unfold Scr; omega)
  refine ⟨h.1.kept (fun i _ => by rw [a2]), h.2.1.copy (fun i _ _ => by rw [a2]), h.2.2.1.kept (by rw [a1]) a4, ⟨by rw [a1]; exact h.2.2.2.1.1, fun hf => ⟨(h.2.2.2.1.2 hf).1.kept (fun i _ => by rw [a3]), (h.2.2.2.1.2 hf).2.copy (fun i _ _ => by rw [a3])⟩⟩, ?_, ?_⟩
  · unfold TPM
    rw [a1, a5]
    exact h.2.2.2.2.1
  · unfold RPM
    rw [a1, a6]
    exact h.2.2.2.2.2
theorem GS.sc1 (h : GS m r s) (f : Fr Scr m m') : GS m' r s := ⟨h.1, h.2.1.kept h.2.2.2 h.1 (fun b _ hb => f b hb) (fun _ _ => rfl), h.2.2.1.kept (fun b _ hb => f b hb), h.2.2.2⟩
theorem GS.sc2 (h : GS m r s) (hR : RI r') (er : ∀ b, b ≠ 305 → r' b = r b) (f : Fr Scr m m') : GS m' r' s := ⟨hR, h.2.1.kept h.2.2.2 h.1 (fun b _ hb => f b hb) er, h.2.2.1.kept (fun b _ hb => f b hb), h.2.2.2⟩
/-- the class's part done, then the reference's -/
theorem GS.both {m1 m2 : am_m} {s s' : Sx} (hR : RI r') (hc : CS m1 r' s') (hm : MS m2 s') (hI : IS s') (f : ∀ b, b < 3261 → m2 b = m1 b) : Good m2 r' := ⟨s', hR, hc.kept hI hR (fun b hb _ => f b hb) (fun _ _ => rfl), hm, hI⟩
theorem GS.g (h : GS m r s) : Good m r := ⟨s, h⟩
theorem i_any (a : Int32) : ∃ x : Int, -2147483648 ≤ x ∧ x ≤ 2147483647 ∧ a = am_i x := ⟨a.toInt, by have := Int32.le_toInt a; simpa using this, by have := Int32.toInt_lt a; omega, (i_of a).symm⟩
theorem GS.tc (h : GS m r s) : TC m 4 (gU (xG s)) := h.2.1.1.1
theorem GS.tm (h : GS m r s) : TM m (gU (xG s)) := h.2.2.1.1.TM
theorem GS.tr (h : GS m r s) : Tr (gU (xG s)) (gD (xG s)) := h.2.2.2.1.1
theorem GS.ig (h : GS m r s) : IG (xG s) := h.2.2.2.1
theorem GS.xc (h : GS m r s) {u : Nat} (hu : u < 24) : Row m (aX 4 u) (gM (xG s) u) := h.2.1.1.sum h.ig hu
theorem GS.wc (h : GS m r s) {u : Nat} (hu : u < 24) : Row m (aW 4 u) (gO (xG s) u) := h.2.1.1.own h.ig hu
theorem GS.xm (h : GS m r s) {u : Nat} (hu : u < 24) : RowW m (1608 + 64 * u) (gM (xG s) u) := h.2.2.1.1.sum h.ig hu
theorem GS.wm (h : GS m r s) {u : Nat} (hu : u < 24) : RowW m (72 + 64 * u) (gO (xG s) u) := h.2.2.1.1.own h.ig hu
end SS
def Hz (N : Nat) (z3 : Int32) : Prop := am_ib (z3 + am_i 1) N = true ∧ am_ib (z3 + am_i 2) N = true ∧ am_ib (z3 + am_i 3) N = true ∧ am_ib (z3 + am_i 4) N = true ∧ am_ib (z3 + am_i 5) N = true
section CL
variable {m : am_m} {r : am_rr} {s : Sx}
/-- what is there or not -/
theorem s_t8 {x : Int} (h : GS m r s) (h1 : -2147483648 ≤ x) (h2 : x ≤ 2147483647) : m_X1_isThere m 4 (am_i x) = some (am_i (b1 (thr (gU (xG s)) x))) := s_X1_isThere h.tc h.tr h1 h2
theorem s_t9 {x : Int} (h : GS m r s) (h1 : -2147483648 ≤ x) (h2 : x ≤ 2147483647) : m_X9_isUnit m (am_i x) = some (am_i (b1 (thr (gU (xG s)) x))) := s_X9_isUnit h.tm h1 h2
theorem s_c8 {x : Int} (h1 : -2147483648 ≤ x) (h2 : x ≤ 2147483647) : m_X8_isCategory m (am_i x) = some (am_i (if 0 ≤ x ∧ x ≤ 63 then 1 else 0)) := by
  unfold m_X8_isCategory
  by_cases c1 : x < 0
  · rw [if_neg (show ¬ (0 ≤ x ∧ x ≤ 63) by omega)]
    simp (disch := first | assumption | omega) only [i_add, i_sub, i_mul, i_lt, i_le, i_eq, i_ibt, i_ixn, i_ix, i_zero, am_letF, cond_true, cond_false, Option.bind_some, ↓reduceIte, m_si, m_sc, true_and, and_true, not_true_eq_false, not_false_eq_true, i_gtF, i_leT, i_geF, i_ltT, Int32.zero_add, Int.toNat_natCast, ix_own, ix_sum, ix_ver, ix_th, ix_ab, ix_st, ix_vm, ix_lim, ix_lim1, ix_lim2, ix_lim3, Int.toNat_zero, i_neF, i_eqT, b1T, b1F]
  · by_cases c2 : 64 ≤ x
    · rw [if_neg (show ¬ (0 ≤ x ∧ x ≤ 63) by omega)]
      simp (disch := first | assumption | omega) only [i_add, i_sub, i_mul, i_lt, i_le, i_eq, i_ibt, i_ixn, i_ix, i_zero, am_letF, cond_true, cond_false, Option.bind_some, ↓reduceIte, m_si, m_sc, true_and, and_true, not_true_eq_false, not_false_eq_true, i_gtF, i_leT, i_geF, i_ltT, Int32.zero_add, Int.toNat_natCast, ix_own, ix_sum, ix_ver, ix_th, ix_ab, ix_st, ix_vm, ix_lim, ix_lim1, ix_lim2, ix_lim3, Int.toNat_zero, i_neF, i_eqT, b1T, b1F]
    · rw [if_pos (show (0 ≤ x ∧ x ≤ 63) by omega)]
      simp (disch := first | assumption | omega) only [i_add, i_sub, i_mul, i_lt, i_le, i_eq, i_ibt, i_ixn, i_ix, i_zero, am_letF, cond_true, cond_false, Option.bind_some, ↓reduceIte, m_si, m_sc, true_and, and_true, not_true_eq_false, not_false_eq_true, i_gtF, i_leT, i_geF, i_ltT, Int32.zero_add, Int.toNat_natCast, ix_own, ix_sum, ix_ver, ix_th, ix_ab, ix_st, ix_vm, ix_lim, ix_lim1, ix_lim2, ix_lim3, Int.toNat_zero, i_neF, i_eqT, b1T, b1F]
theorem s_c9 {x : Int} (h1 : -2147483648 ≤ x) (h2 : x ≤ 2147483647) : m_X9_isCategory m (am_i x) = some (am_i (if 0 ≤ x ∧ x ≤ 63 then 1 else 0)) := by
  unfold m_X9_isCategory
  rw [s_X9_isIn h1 h2 (by decide) (by decide) (by decide) (by decide), Option.bind_some]
  by_cases c : 0 ≤ x ∧ x ≤ 63
  · rw [if_pos c]; rfl
  · rw [if_neg c]; rfl
/-! a first few calls -/
theorem q_versions (h : GS m r s) (a : Int32) : ∃ y, m_X8_versions m a = some y ∧ m_X9_versions m a = some y := by
  obtain ⟨x, h1, h2, rfl⟩ := i_any a
  unfold m_X8_versions m_X9_versions
  rw [s_t8 h h1 h2, s_t9 h h1 h2]
  cases c : thr (gU (xG s)) x
  · exact ⟨_, rfl, rfl⟩
  · obtain ⟨u, hu, rfl, hu2⟩ := thr_i c
    have e1 := h.2.1.1.2.2.2.2.1 u hu
    have e2 := h.2.2.1.1.2.2.2.2.2.1 u hu
    refine ⟨am_i (gC (xG s) u), ?_, ?_⟩
    · simp (disch := first | assumption | omega) only [i_add, i_sub, i_mul, i_lt, i_le, i_eq, i_ibt, i_ixn, i_ix, i_zero, am_letF, cond_true, cond_false, Option.bind_some, ↓reduceIte, m_si, m_sc, true_and, and_true, not_true_eq_false, not_false_eq_true, i_gtF, i_leT, i_geF, i_ltT, Int32.zero_add, Int.toNat_natCast, ix_own, ix_sum, ix_ver, ix_th, ix_ab, ix_st, ix_vm, ix_lim, ix_lim1, ix_lim2, ix_lim3, Int.toNat_zero, i_neF, i_eqT, b1T, b1F, e1]
    · rw [Nat.zero_add] at e2
      simp (disch := first | assumption | omega) only [i_add, i_sub, i_mul, i_lt, i_le, i_eq, i_ibt, i_ixn, i_ix, i_zero, am_letF, cond_true, cond_false, Option.bind_some, ↓reduceIte, m_si, m_sc, true_and, and_true, not_true_eq_false, not_false_eq_true, i_gtF, i_leT, i_geF, i_ltT, Int32.zero_add, Int.toNat_natCast, ix_own, ix_sum, ix_ver, ix_th, ix_ab, ix_st, ix_vm, ix_lim, ix_lim1, ix_lim2, ix_lim3, Int.toNat_zero, i_neF, i_eqT, b1T, b1F, e2]
end CL
