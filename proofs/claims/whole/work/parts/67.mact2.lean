/-! ===== mathematics: state, end, feed, undo, image, limit ===== -/
section A2
variable {m m' : am_m} {r r' : am_rr} {s : Sx}
/-- the tape or the report alone are other than they were -/
theorem CS.updT (h : CS m r s) (hI : IS s) (hR : RI r) {T : Tp} {R : Rp} (hT : TPC m' T) (hP : RPC m' R) (e : ∀ b, b < 3261 → b ≠ 2984 → b ≠ 2985 → b ≠ 2986 → b ≠ 2987 → ¬ Scr b → m' b = m b) : CS m' r (xG s, xB s, xN s, xH s, xF s, xI s, xJ s, T, R) :=
  ⟨h.1.kept hR og4 (fun b b1 b2 => e b (by omega) (by omega) (by omega) (by omega) (by omega) (by unfold Scr; omega)) rfl, h.2.1.kept (fun b b1 b2 => e b (by omega) (by omega) (by omega) (by omega) (by omega) (by unfold Scr; omega)), h.2.2.1.kept hR hI.2.2.1.1 (fun b b1 b2 => e b (by omega) (by omega) (by omega) (by omega) (by omega) (by unfold Scr; omega)) (fun _ _ => rfl), ⟨by show m' 3 11 = am_i (xF s); rw [e 3 (by omega) (by omega) (by omega) (by omega) (by omega) (by unfold Scr; omega)]; exact h.2.2.2.1.1, fun hf => ⟨(h.2.2.2.1.2 hf).1.kept hR og3014 (fun b b1 b2 => e b (by omega) (by omega) (by omega) (by omega) (by omega) (by unfold Scr; omega)) rfl, (h.2.2.2.1.2 hf).2.kept (fun b b1 b2 => e b (by omega) (by omega) (by omega) (by omega) (by omega) (by unfold Scr; omega))⟩⟩, hT, hP⟩
theorem MS.updT (h : MS m s) {T : Tp} {R : Rp} (hT : TPM m' T) (hP : RPM m' R) (e : ∀ b, b = 3262 ∨ b = 3264 ∨ b = 3265 → m' b = m b) (e4 : m' 3261 4 = m 3261 4) (e5 : m' 3261 5 = m 3261 5) : MS m' (xG s, xB s, xN s, xH s, xF s, xI s, xJ s, T, R) := by
  have a2 := e 3262 (by omega)
  have a3 := e 3264 (by omega)
  have a4 := e 3265 (by omega)
  exact ⟨h.1.kept (fun i _ => by rw [a2]), h.2.1.copy (fun i _ _ => by rw [a2]), h.2.2.1.kept e4 a4, ⟨by show m' 3261 5 = am_i (xF s); rw [e5]; exact h.2.2.2.1.1, fun hf => ⟨(h.2.2.2.1.2 hf).1.kept (fun i _ => by rw [a3]), (h.2.2.2.1.2 hf).2.copy (fun i _ _ => by rw [a3])⟩⟩, hT, hP⟩
/-- the book alone is other than it was -/
theorem book_end {m2 m4 : am_m} {B : Bk} (h : GS m r s) (hB : BC m2 2970 B) (f8 : ∀ b, ¬ (2970 ≤ b ∧ b < 2976) → m2 b = m b) (hB9 : BM m4 3262 B) (f9 : ∀ b, b ≠ 3262 → m4 b = m2 b) (f9' : ∀ i, i < 15456 → m4 3262 i = m 3262 i) (hK : IB B) : Good m4 r := by
  refine GS.both (s := s) (s' := (xG s, B, xN s, xH s, xF s, xI s, xJ s, xT s, xR s)) (m1 := m2) h.1 (h.2.1.upd h.1 (h.2.1.1.kept h.1 og4 (fun b b1 b2 => f8 b (by omega)) rfl) hB (h.2.1.2.2.1.kept h.1 h.2.2.2.2.2.1.1 (fun b b1 b2 => f8 b (by omega)) (fun _ _ => rfl)) (fun b hb => f8 b (by omega)) rfl) ?_ ⟨h.2.2.2.1, hK, h.2.2.2.2.2⟩ (fun b hb => f9 b (by omega))
  refine h.2.2.1.upd (h.2.2.1.1.kept (fun i hi => f9' _ (by omega))) hB9 (h.2.2.1.2.2.1.kept (by rw [f9 _ (by decide), f8 _ (by omega)]) (by rw [f9 _ (by decide), f8 _ (by omega)])) (fun b hb => by rw [f9 _ (by omega), f8 _ (by omega)]) (fun j _ => by rw [f9 _ (by omega), f8 _ (by omega)])
theorem q_state (h : GS m r s) (a : Int32) : ∃ y m1 m2, m_X8_state m a = some (y, m1) ∧ m_X9_state m1 a = some (y, m2) ∧ Good m2 r := by
  obtain ⟨b1', b2, b3, b4⟩ := h.2.1.2.1
  obtain ⟨d1, d2, d3, d4⟩ := h.2.2.1.2.1
  refine ⟨bkD (xB s), am_si m 2970 6 a, am_si (am_si m 2970 6 a) 3262 15516 a, ?_, ?_, book_end (m2 := am_si m 2970 6 a) (B := bkSt (xB s) a) h ⟨fun i hi => ?_, ?_, fun i hi hi2 => ?_, ?_⟩ (fun b hb => si_ne (by omega)) ⟨fun i hi => ?_, ?_, fun i hi hi2 => ?_, ?_⟩ (fun b hb => si_ne hb) (fun i hi => ?_) h.2.2.2.2.1⟩
  · unfold m_X8_state
    rw [am_letF, b4]
  · unfold m_X9_state
    rw [show am_ib (am_i 15516) 15517 = true by decide, cond_true, cond_true, am_letF, show am_ix (am_i 15516) = 15516 by decide, si_ne (show 3262 ≠ 2970 by decide), d4]
  · rw [si_ne (by unfold aB; omega)]; exact b1' i hi
  · rw [si_o (by decide)]; exact b2
  · rw [si_ne (by unfold aB; omega), si_ne (by unfold aB; omega), si_ne (by unfold aB; omega), si_ne (by unfold aB; omega)]; exact b3 i hi hi2
  · rw [si_at]; rfl
  · rw [si_o (by omega), si_ne (by decide)]; exact d1 i hi
  · rw [si_o (by omega), si_ne (by decide)]; exact d2
  · rw [si_o (by omega), si_o (by omega), si_o (by omega), si_o (by omega), si_ne (by decide)]; exact d3 i hi hi2
  · rw [si_at]; rfl
  · rw [si_o (by omega), si_ne (by decide)]
theorem q_end (h : GS m r s) (a : Int32) : ∃ y m1 m2, m_X8_end m a = some (y, m1) ∧ m_X9_end m1 a = some (y, m2) ∧ Good m2 r := by
  obtain ⟨x, h1, h2, rfl⟩ := i_any a
  obtain ⟨t1, t2, t3, t4⟩ := h.2.1.2.2.2.2.1
  obtain ⟨u1, u2, u3, u4⟩ := h.2.2.1.2.2.2.2.1
  have hn := h.2.2.2.2.2.2.2.1.1
  by_cases c : 0 ≤ x ∧ x ≤ ((xT s).1 : Int)
  · obtain ⟨n, rfl⟩ : ∃ n : Nat, x = n := ⟨x.toNat, by omega⟩
    have cs : CS (am_si m 2984 1 (am_i n)) r (xG s, xB s, xN s, xH s, xF s, xI s, xJ s, (n, (xT s).2.1, (xT s).2.2.1, (xT s).2.2.2), xR s) := by
      refine h.2.1.updT h.2.2.2 h.1 ⟨si_at, fun i hi hi2 => ?_, ?_, ?_⟩ (h.2.1.2.2.2.2.2.kept (fun b b1 b2 => si_ne (by omega))) (fun b _ b2 _ _ _ _ => si_ne b2)
      · rw [si_ne (by decide)]; exact t2 i (by show i < (xT s).1; have : i < n := hi; omega) hi2
      · rw [si_o (by decide)]; exact t3
      · rw [si_o (by decide)]; exact t4
    have ms : MS (am_si (am_si m 2984 1 (am_i n)) 3261 9 (am_i n)) (xG s, xB s, xN s, xH s, xF s, xI s, xJ s, (n, (xT s).2.1, (xT s).2.2.1, (xT s).2.2.2), xR s) := by
      refine h.2.2.1.updT ⟨si_at, fun i hi hi2 => ?_, ?_, ?_⟩ ⟨?_, fun i hi hi2 => ?_⟩ (fun b hb => by rw [si_ne (by omega), si_ne (by omega)]) ?_ ?_
      · rw [si_ne (by decide), si_ne (by decide)]; exact u2 i (by show i < (xT s).1; have : i < n := hi; omega) hi2
      · rw [si_o (by decide), si_ne (by decide)]; exact u3
      · rw [si_o (by decide), si_ne (by decide)]; exact u4
      · rw [si_o (by decide), si_ne (by decide)]; exact h.2.2.1.2.2.2.2.2.1
      · rw [si_ne (by decide), si_ne (by decide)]; exact h.2.2.1.2.2.2.2.2.2 i hi hi2
      · rw [si_o (by decide), si_ne (by decide)]
      · rw [si_o (by decide), si_ne (by decide)]
    refine ⟨am_i 1, am_si m 2984 1 (am_i n), am_si (am_si m 2984 1 (am_i n)) 3261 9 (am_i n), ?_, ?_, GS.both (s := s) h.1 cs ms ⟨h.2.2.2.1, h.2.2.2.2.1, h.2.2.2.2.2.1, h.2.2.2.2.2.2.1, ⟨by show n ≤ 400; omega, h.2.2.2.2.2.2.2.1.2⟩, h.2.2.2.2.2.2.2.2⟩ (fun b hb => si_ne (by omega))⟩
    · unfold m_X8_end m_X7_cut
      rw [t1, if_neg (by rw [i_zero, i_lt (by omega) (by omega) (by omega) (by omega)]; omega), if_pos (by rw [i_le (by omega) (by omega) (by omega) (by omega)]; omega)]
      rfl
    · unfold m_X9_end
      rw [si_ne (by decide), u1, s_X9_isIn h1 h2 (by decide) (by decide) (by omega) (by omega), if_pos c]
      rfl
  · refine ⟨am_i 0, m, m, ?_, ?_, h.g⟩
    · unfold m_X8_end m_X7_cut
      rw [t1]
      by_cases c2 : x < 0
      · rw [if_pos (by rw [i_zero, i_lt (by omega) (by omega) (by omega) (by omega)]; omega)]
        rfl
      · rw [if_neg (by rw [i_zero, i_lt (by omega) (by omega) (by omega) (by omega)]; omega), if_neg (by rw [i_le (by omega) (by omega) (by omega) (by omega)]; omega)]
        rfl
    · unfold m_X9_end
      rw [u1, s_X9_isIn h1 h2 (by decide) (by decide) (by omega) (by omega), if_neg c]
      rfl
/-! feed -/
theorem by_dec : ∀ b : Nat, b < 256 → am_by ((am_i (b : Int)).toInt8.toInt32) = am_i (sgn b) := by decide +kernel
theorem by_is (x : Int32) : am_by (x.toInt8.toInt32) = am_i (sgn (iN x % 256)) := by
  rw [← by_dec (iN x % 256) (Nat.mod_lt _ (by decide))]
  congr 2
  apply Int8.toBitVec_inj.mp
  apply BitVec.eq_of_toNat_eq
  have h1 : (am_i ((iN x % 256 : Nat) : Int)).toBitVec.toNat = iN x % 256 := iN_i (by omega)
  rw [Int32.toBitVec_toInt8, Int32.toBitVec_toInt8, BitVec.signExtend_eq_setWidth_of_le _ (by decide), BitVec.signExtend_eq_setWidth_of_le _ (by decide), BitVec.toNat_setWidth, BitVec.toNat_setWidth, h1]
  show iN x % 2 ^ 8 = _
  omega
theorem and255 (x : Int32) : x &&& am_i 255 = am_i ((iN x % 256 : Nat) : Int) := by
  apply iN_inj
  have hl : iN x % 256 < 256 := Nat.mod_lt _ (by decide)
  rw [iN_and, show iN (am_i 255) = 2 ^ 8 - 1 by decide +kernel, Nat.and_two_pow_sub_one_eq_mod, iN_i (by omega)]
/-- the byte of a number at a shift -/
def byK (x : Int32) (j : Nat) : Nat := iN (iS x (am_i ((24 : Int) - 8 * (j : Int)))) % 256
/-- four bytes more -/
def tp4 (t : Tp) (x : Int32) : Tp := (t.1 + 4, fun i => if i < t.1 then t.2.1 i else byK x (i - t.1), t.2.2.1, t.2.2.2)
/-- j bytes of a number more -/
def tpj (t : Tp) (x : Int32) (j : Nat) : Tp := (t.1 + j, fun i => if i < t.1 then t.2.1 i else byK x (i - t.1), t.2.2.1, t.2.2.2)
theorem l_put8 {t : Tp} {x : Int32} (h : TPC m t) (hn : t.1 + 4 ≤ 400) : ∃ m1, m_X7_putNumber m x = some m1 ∧ Fr (fun b => b = 2984 ∨ b = 2985) m m1 ∧ TPC m1 (tp4 t x) := by
  unfold m_X7_putNumber
  refine Exists.elim (lo_inv (fun n j (q : am_m) => m_X7_putNumber_3 x x (fun m6 => some m6) n (am_i ((24 : Int) - 8 * (j : Int))) q) (fun j q => Fr (fun b => b = 2984 ∨ b = 2985) m q ∧ TPC q (tpj t x j)) 0 4 (fun q => some q) (s0 := m) (n := am_F) ⟨Fr.refl _ _, h.1, fun i hi hi2 => ?_, h.2.2⟩ (by omega) (am_Fv (by omega)) (fun n j q _ hj a => ?_) (fun n q a => ?_)) (fun q L => ?_)
  · show m 2985 i = am_i ((if i < t.1 then t.2.1 i else byK x (i - t.1) : Nat) : Int)
    have hi : i < t.1 + 0 := hi
    rw [if_pos (by omega)]
    exact h.2.1 i (by omega) hi2
  · obtain ⟨a1, a2, a3, a4⟩ := a
    have a2 : q 2984 1 = am_i ((t.1 + j : Nat) : Int) := a2
    have e : ((x.toUInt32 >>> ((am_i ((24 : Int) - 8 * (j : Int))).toUInt32 &&& Int32.toUInt32 31)).toInt32) &&& am_i 255 = am_i (byK x j : Nat) := and255 _
    refine ⟨am_si (am_si q 2985 (t.1 + j) (am_i (byK x j : Nat))) 2984 1 (am_i ((t.1 + j + 1 : Nat) : Int)), ?_, (a1.si2 (Or.inr rfl)).si2 (Or.inl rfl), si_at, fun i hi hi2 => ?_, ?_⟩
    · show m_X7_putNumber_3 x x _ (n + 1) _ q = _
      have e24 : am_i ((24 : Int) - 8 * (j : Int)) + am_i (-8) = am_i ((24 : Int) - 8 * ((j + 1 : Nat) : Int)) := by rw [i_add]; congr 1; omega
      have el : am_i ((t.1 + j : Nat) : Int) + am_i 1 = am_i ((t.1 + j + 1 : Nat) : Int) := by rw [i_add]; rfl
      rw [m_X7_putNumber_3, if_neg (by rw [i_zero, i_lt (by omega) (by omega) (by omega) (by omega)]; omega), a2, if_neg (by rw [i_le (by omega) (by omega) (by omega) (by omega)]; omega), i_ibt (by omega) (by omega) (by omega), cond_true, am_letF, am_letF, i_ixn (by omega), e, si_ne (show 2984 ≠ 2985 by decide), a2, e24, el]
    · rw [si_ne (by decide), m_si]
      show _ = am_i ((if i < t.1 then t.2.1 i else byK x (i - t.1) : Nat) : Int)
      have hi : i < t.1 + (j + 1) := hi
      by_cases z : i = t.1 + j
      · rw [if_pos ⟨rfl, z⟩, if_neg (by omega), z, show t.1 + j - t.1 = j by omega]
      · rw [if_neg (fun w => z w.2)]
        exact a3 i (by show i < t.1 + j; omega) hi2
    · rw [si_o (by decide), si_o (by decide), si_ne (by decide)]
      exact a4
  · show m_X7_putNumber_3 x x _ (n + 1) _ q = _
    rw [m_X7_putNumber_3, if_pos (by decide)]
  · obtain ⟨⟨a1, a2⟩, a3⟩ := L
    exact ⟨q, a3, a1, a2⟩
theorem l_put9 {t : Tp} {x : Int32} (h : TPM m t) (hn : t.1 + 4 ≤ 400) : ∃ m1, m_X9_comes_ m x = some m1 ∧ Fr (fun b => b = 3261 ∨ b = 3268) m m1 ∧ (∀ j, j ≠ 9 → m1 3261 j = m 3261 j) ∧ TPM m1 (tp4 t x) := by
  unfold m_X9_comes_
  refine Exists.elim (lo_inv (fun n j (q : am_m) => m_X9_comes__3 x x (fun m6 => some m6) n (am_i ((24 : Int) - 8 * (j : Int))) q) (fun j q => Fr (fun b => b = 3261 ∨ b = 3268) m q ∧ (∀ j, j ≠ 9 → q 3261 j = m 3261 j) ∧ TPM q (tpj t x j)) 0 4 (fun q => some q) (s0 := m) (n := am_F) ⟨Fr.refl _ _, fun _ _ => rfl, h.1, fun i hi hi2 => ?_, h.2.2⟩ (by omega) (am_Fv (by omega)) (fun n j q _ hj a => ?_) (fun n q a => ?_)) (fun q L => ?_)
  · show m 3268 i = am_i (sgn (if i < t.1 then t.2.1 i else byK x (i - t.1)))
    have hi : i < t.1 + 0 := hi
    rw [if_pos (by omega)]
    exact h.2.1 i (by omega) hi2
  · obtain ⟨a1, a0, a2, a3, a4⟩ := a
    have a2 : q 3261 9 = am_i ((t.1 + j : Nat) : Int) := a2
    have e : am_by (((x.toUInt32 >>> ((am_i ((24 : Int) - 8 * (j : Int))).toUInt32 &&& Int32.toUInt32 31)).toInt32).toInt8.toInt32) = am_i (sgn (byK x j)) := by_is _
    refine ⟨am_si (am_si q 3268 (t.1 + j) (am_i (sgn (byK x j)))) 3261 9 (am_i ((t.1 + j + 1 : Nat) : Int)), ?_, (a1.si2 (Or.inr rfl)).si2 (Or.inl rfl), fun i hi => by rw [si_o hi, si_ne (by decide)]; exact a0 i hi, si_at, fun i hi hi2 => ?_, ?_⟩
    · show m_X9_comes__3 x x _ (n + 1) _ q = _
      have e24 : am_i ((24 : Int) - 8 * (j : Int)) + am_i (-8) = am_i ((24 : Int) - 8 * ((j + 1 : Nat) : Int)) := by rw [i_add]; congr 1; omega
      have el : am_i ((t.1 + j : Nat) : Int) + am_i 1 = am_i ((t.1 + j + 1 : Nat) : Int) := by rw [i_add]; rfl
      rw [m_X9_comes__3, if_neg (by rw [i_zero, i_lt (by omega) (by omega) (by omega) (by omega)]; omega), a2, i_ibt (by omega) (by omega) (by omega), cond_true, am_letF, am_letF, i_ixn (by omega), e, si_ne (show 3261 ≠ 3268 by decide), a2, e24, el]
    · rw [si_ne (by decide), m_si]
      show _ = am_i (sgn (if i < t.1 then t.2.1 i else byK x (i - t.1)))
      have hi : i < t.1 + (j + 1) := hi
      by_cases z : i = t.1 + j
      · rw [if_pos ⟨rfl, z⟩, if_neg (by omega), z, show t.1 + j - t.1 = j by omega]
      · rw [if_neg (fun w => z w.2)]
        exact a3 i (by show i < t.1 + j; omega) hi2
    · rw [si_o (by decide), si_o (by decide), si_ne (by decide)]
      exact a4
  · show m_X9_comes__3 x x _ (n + 1) _ q = _
    rw [m_X9_comes__3, if_pos (by decide)]
  · obtain ⟨⟨a1, a0, a2⟩, a3⟩ := L
    exact ⟨q, a3, a1, a0, a2⟩
theorem tp4_IT {t : Tp} {x : Int32} (h : IT t) (hn : t.1 + 4 ≤ 400) : IT (tp4 t x) := ⟨hn, fun i => by
  show (if i < t.1 then t.2.1 i else byK x (i - t.1)) < 256
  split
  · exact h.2 i
  · exact Nat.mod_lt _ (by decide)⟩
theorem q_feed (h : GS m r s) (a b c d e : Int32) : ∃ y m1 m2, m_X8_feed m a b c d e = some (y, m1) ∧ m_X9_feed m1 a b c d e = some (y, m2) ∧ Good m2 r := by
  have hT8 := h.2.1.2.2.2.2.1
  have hT9 := h.2.2.1.2.2.2.2.1
  have hn := h.2.2.2.2.2.2.2.1
  have hn1 := hn.1
  by_cases z : (xT s).1 + 20 ≤ 400
  · generalize hT : xT s = T at *
    obtain ⟨m1, e1, f1, t1⟩ := l_put8 (x := a) hT8 (by omega)
    obtain ⟨m2, e2, f2, t2⟩ := l_put8 (x := b) t1 (by show T.1 + 4 + 4 ≤ 400; omega)
    obtain ⟨m3, e3, f3, t3⟩ := l_put8 (x := c) t2 (by show T.1 + 4 + 4 + 4 ≤ 400; omega)
    obtain ⟨m4, e4, f4, t4⟩ := l_put8 (x := d) t3 (by show T.1 + 4 + 4 + 4 + 4 ≤ 400; omega)
    obtain ⟨m5, e5, f5, t5⟩ := l_put8 (x := e) t4 (by show T.1 + 4 + 4 + 4 + 4 + 4 ≤ 400; omega)
    have F := (((f1.trans f2).trans f3).trans f4).trans f5
    have cs : CS m5 r (xG s, xB s, xN s, xH s, xF s, xI s, xJ s, tp4 (tp4 (tp4 (tp4 (tp4 T a) b) c) d) e, xR s) := h.2.1.updT h.2.2.2 h.1 t5 (h.2.1.2.2.2.2.2.kept (fun b b1 b2 => F b (by omega))) (fun b _ b2 b3 _ _ _ => F b (by omega))
    have ms : MS m5 s := h.2.2.1.kept (fun b b1 _ => F b (by omega))
    have hT9' : TPM m5 T := by
      have := ms.2.2.2.2.1
      rwa [hT] at this
    obtain ⟨n1, g1, k1, w1, v1⟩ := l_put9 (x := a) hT9' (by omega)
    obtain ⟨n2, g2, k2, w2, v2⟩ := l_put9 (x := b) v1 (by show T.1 + 4 + 4 ≤ 400; omega)
    obtain ⟨n3, g3, k3, w3, v3⟩ := l_put9 (x := c) v2 (by show T.1 + 4 + 4 + 4 ≤ 400; omega)
    obtain ⟨n4, g4, k4, w4, v4⟩ := l_put9 (x := d) v3 (by show T.1 + 4 + 4 + 4 + 4 ≤ 400; omega)
    obtain ⟨n5, g5, k5, w5, v5⟩ := l_put9 (x := e) v4 (by show T.1 + 4 + 4 + 4 + 4 + 4 ≤ 400; omega)
    have K := (((k1.trans k2).trans k3).trans k4).trans k5
    have W : ∀ j, j ≠ 9 → n5 3261 j = m5 3261 j := fun j hj => by rw [w5 j hj, w4 j hj, w3 j hj, w2 j hj, w1 j hj]
    have ms5 : MS n5 (xG s, xB s, xN s, xH s, xF s, xI s, xJ s, tp4 (tp4 (tp4 (tp4 (tp4 T a) b) c) d) e, xR s) := by
      refine ms.updT v5 ⟨by rw [W 18 (by decide)]; exact ms.2.2.2.2.2.1, fun i hi hi2 => by rw [K 3271 (by omega)]; exact ms.2.2.2.2.2.2 i hi hi2⟩ (fun b hb => K b (by omega)) (W 4 (by decide)) (W 5 (by decide))
    refine ⟨am_i ((T.1 + 4 + 4 + 4 + 4 + 4 : Nat) : Int), m5, n5, ?_, ?_, GS.both (s := s) h.1 cs ms5 ⟨h.2.2.2.1, h.2.2.2.2.1, h.2.2.2.2.2.1, h.2.2.2.2.2.2.1, tp4_IT (tp4_IT (tp4_IT (tp4_IT (tp4_IT hn (by omega)) (by show T.1 + 4 + 4 ≤ 400; omega)) (by show T.1 + 4 + 4 + 4 ≤ 400; omega)) (by show T.1 + 4 + 4 + 4 + 4 ≤ 400; omega)) (by show T.1 + 4 + 4 + 4 + 4 + 4 ≤ 400; omega), h.2.2.2.2.2.2.2.2⟩ (fun b hb => K b (by omega))⟩
    · unfold m_X8_feed m_X7_hasRoom
      rw [hT8.1, i_add, if_neg (by rw [i_lt (by omega) (by omega) (by omega) (by omega)]; omega), Option.bind_some, if_pos (by decide), e1, Option.bind_some, e2, Option.bind_some, e3, Option.bind_some, e4, Option.bind_some, e5, Option.bind_some, t5.1]
      rfl
    · unfold m_X9_feed
      rw [hT9'.1, i_add, if_pos (by rw [i_le (by omega) (by omega) (by omega) (by omega)]; omega), g1, Option.bind_some, g2, Option.bind_some, g3, Option.bind_some, g4, Option.bind_some, g5, Option.bind_some, v5.1]
      rfl
  · refine ⟨am_i (-1), m, m, ?_, ?_, h.g⟩
    · unfold m_X8_feed m_X7_hasRoom
      rw [hT8.1, i_add, if_pos (by rw [i_lt (by omega) (by omega) (by omega) (by omega)]; omega)]
      rfl
    · unfold m_X9_feed
      rw [hT9.1, i_add, if_neg (by rw [i_le (by omega) (by omega) (by omega) (by omega)]; omega)]
/-! undo -/
theorem q_undo (h : GS m r s) : ∃ y m1 m2, m_X8_undo m r = some (y, m1) ∧ m_X9_undo m1 = some (y, m2) ∧ Good m2 r := by
  have hn := h.2.2.2.2.2.1.1
  have hP9 := h.2.2.1.2.2.1
  cases hN : xN s with
  | zero =>
    refine ⟨am_i (-1), m, m, ?_, ?_, h.g⟩
    · have := h.2.1.2.2.1
      rw [hN] at this
      unfold m_X8_undo
      rw [s_X2_takeBack0 this]
      rfl
    · unfold m_X9_undo
      rw [hP9.1, hN, if_neg (by decide)]
  | succ n =>
    have hP8 := h.2.1.2.2.1
    rw [hN] at hP8
    have hIG := h.2.2.2.2.2.1.2 n (by omega)
    obtain ⟨m1, e1, f1, g1, p1⟩ := s_X2_takeBack hP8 (by omega) h.1 hIG
    have hB1 : BC m1 2970 (xB s) := h.2.1.2.1.kept (fun b b1 b2 => f1 b (by omega))
    obtain ⟨m2, e2, f2, hB2⟩ := s_X0_tally (w := 9) (x := am_i 1) hB1 (by decide)
    have F8 : ∀ b, ¬ (4 < b ∧ b < 251) → b ≠ 498 → ¬ (2970 ≤ b ∧ b < 2976) → m2 b = m b := fun b b1 b2 b3 => by rw [f2 b b3, f1 b (by omega)]
    have cs : CS m2 r (xH s n, bkAdd (xB s) 9 (am_i 1), n, xH s, xF s, xI s, xJ s, xT s, xR s) := h.2.1.upd h.1 (g1.kept h.1 og4 (fun b b1 b2 => f2 b (by omega)) rfl) hB2 (p1.kept h.1 (by omega) (fun b b1 b2 => f2 b (by omega)) (fun _ _ => rfl)) (fun b hb => F8 b (by omega) (by omega) (by omega)) rfl
    have ms : MS m2 s := h.2.2.1.kept (fun b b1 _ => F8 b (by omega) (by omega) (by omega))
    have q4 : m2 3261 4 = am_i ((n + 1 : Nat) : Int) := by rw [ms.2.2.1.1, hN]
    have q4' : am_si m2 3261 4 (am_i (n : Int)) 3261 4 = am_i (n : Int) := si_at
    have hB3 : BM (am_sc (am_si m2 3261 4 (am_i (n : Int))) 3265 (15456 * n) 3262 0 15456) 3262 (xB s) := ms.2.1.copy (fun i i1 i2 => by rw [sc_out (by omega), si_ne (by decide)])
    obtain ⟨m4, e4, f4, hB4⟩ := s_X9_counts (w := 9) (x := am_i 1) hB3 (by decide)
    have hG4 : OM m4 3262 0 (xH s n) := by
      have hh := ms.2.2.1.2 n (by omega)
      refine OM.fk ?_ f4
      refine hh.copy (fun i hi => ?_)
      rw [sc_in hi, si_ne (by decide)]
    have F9 : ∀ b, b ≠ 3261 → b ≠ 3262 → m4 b = m2 b := fun b b1 b2 => by rw [f4.1 b b2, sc_ne b2, si_ne b1]
    have F9' : ∀ j, j ≠ 4 → m4 3261 j = m2 3261 j := fun j hj => by rw [f4.1 3261 (by decide), sc_ne (by decide), si_o hj]
    have ms4 : MS m4 (xH s n, bkAdd (xB s) 9 (am_i 1), n, xH s, xF s, xI s, xJ s, xT s, xR s) := by
      refine ms.upd hG4 hB4 ⟨?_, fun i hi => ?_⟩ (fun b hb => F9 b (by omega) (by omega)) F9'
      · rw [f4.1 3261 (by decide), sc_ne (by decide), si_at]
      · exact (ms.2.2.1.2 i (by omega)).kept (fun j _ => by rw [F9 3265 (by decide) (by decide)])
    refine ⟨am_i (n : Int), m2, m4, ?_, ?_, GS.both (s := s) h.1 cs ms4 ⟨hIG, h.2.2.2.2.1, ⟨by show n ≤ 10; omega, fun i hi => h.2.2.2.2.2.1.2 i (by have : i < n := hi; omega)⟩, h.2.2.2.2.2.2⟩ (fun b hb => F9 b (by omega) (by omega))⟩
    · unfold m_X8_undo
      have : m2 498 2 = am_i (n : Int) := by rw [f2 498 (by decide)]; exact p1.1
      rw [e1, Option.bind_some]
      show (if ¬ am_i 1 = 0 then (m_X0_tally m1 2970 (am_i 9) (am_i 1)).bind fun q3 => some (q3 498 2, q3) else _) = _
      rw [if_pos (by decide), show m_X0_tally m1 2970 (am_i 9) (am_i 1) = some m2 from e2, Option.bind_some, this]
    · unfold m_X9_undo
      have : m4 3261 4 = am_i (n : Int) := by rw [f4.1 3261 (by decide), sc_ne (by decide), si_at]
      rw [q4, if_pos (by rw [i_zero, i_eq (by omega) (by omega) (by omega) (by omega)]; omega), i_sub, show ((n + 1 : Nat) : Int) - 1 = (n : Int) by omega, am_letF, l_X9_undo_21 q4' (by omega), show m_X9_counts (am_sc (am_si m2 3261 4 (am_i (n : Int))) 3265 (15456 * n) 3262 0 15456) (am_i 9) (am_i 1) = some m4 from e4, Option.bind_some, this]
/-! image -/
theorem l_X9_image1 {k : am_m → Option (Int32 × am_m)} : m_X9_image_15 (am_i 1) (am_i 1) k am_F (am_i 0) m = k (am_sc m 3262 0 3264 0 15517) := by
  refine lo_go (fun n j (q : am_m) => m_X9_image_15 (am_i 1) (am_i 1) k n (am_i (j : Int)) q) (fun j => am_sc m 3262 0 3264 0 j) 0 15517 sc_0.symm (by omega) (am_Fv (by omega)) (fun z j _ hj => ?_) (fun n => rfl)
  show m_X9_image_15 _ _ k (z + 1) _ _ = _
  have e2 := sc_s (m := m) (a := 3262) (b := 3264) (sp := 0) (dp := 0) (j := j) (by decide)
  rw [Nat.zero_add] at e2
  rw [m_X9_image_15, if_neg (by rw [i_le (by omega) (by omega) (by omega) (by omega)]; omega), if_neg (by decide), i_ibt (by omega) (by omega) (by omega), cond_true, cond_true, am_letF, i_ixn (by omega), e2, i_add]
  rfl
theorem l_X9_image0 {k : am_m → Option (Int32 × am_m)} : m_X9_image_15 (am_i 0) (am_i 0) k am_F (am_i 0) m = k (am_sc m 3264 0 3262 0 15517) := by
  refine lo_go (fun n j (q : am_m) => m_X9_image_15 (am_i 0) (am_i 0) k n (am_i (j : Int)) q) (fun j => am_sc m 3264 0 3262 0 j) 0 15517 sc_0.symm (by omega) (am_Fv (by omega)) (fun z j _ hj => ?_) (fun n => rfl)
  show m_X9_image_15 _ _ k (z + 1) _ _ = _
  have e2 := sc_s (m := m) (a := 3264) (b := 3262) (sp := 0) (dp := 0) (j := j) (by decide)
  rw [Nat.zero_add] at e2
  rw [m_X9_image_15, if_neg (by rw [i_le (by omega) (by omega) (by omega) (by omega)]; omega), if_pos (by decide), i_ibt (by omega) (by omega) (by omega), cond_true, cond_true, am_letF, i_ixn (by omega), e2, i_add]
  rfl
theorem q_image1 (h : GS m r s) : ∃ y m1 m2, m_X8_image m r (am_i 1) = some (y, m1) ∧ m_X9_image m1 (am_i 1) = some (y, m2) ∧ Good m2 r := by
  obtain ⟨m1, e1, f1, g1⟩ := s_X1_takeOver (o := 3014) (o1 := 4) og3014 og4 (by decide) h.1 h.2.1.1 h.ig
  have hB1 : BC m1 2970 (xB s) := h.2.1.2.1.kept (fun b b1 b2 => f1 b (by omega))
  obtain ⟨m2, e2, f2, hB2⟩ := s_X0_takeOver hB1 bk2976 bk2970 (by decide)
  have F8 : ∀ b, ¬ (3014 < b ∧ b < 3261) → ¬ (2976 ≤ b ∧ b < 2982) → b ≠ 3 → am_si m2 3 11 (am_i 1) b = m b := fun b b1 b2 b3 => by rw [si_ne b3, f2 b b2, f1 b (by omega)]
  have cs : CS (am_si m2 3 11 (am_i 1)) r (xG s, xB s, xN s, xH s, 1, xG s, xB s, xT s, xR s) := by
    refine ⟨h.2.1.1.kept h.1 og4 (fun b b1 b2 => F8 b (by omega) (by omega) (by omega)) rfl, h.2.1.2.1.kept (fun b b1 b2 => F8 b (by omega) (by omega) (by omega)), h.2.1.2.2.1.kept h.1 h.2.2.2.2.2.1.1 (fun b b1 b2 => F8 b (by omega) (by omega) (by omega)) (fun _ _ => rfl), ⟨si_at, fun _ => ⟨g1.kept h.1 og3014 (fun b b1 b2 => ?_) rfl, hB2.kept (fun b b1 b2 => si_ne (by omega))⟩⟩, h.2.1.2.2.2.2.1.kept (fun b b1 b2 => F8 b (by omega) (by omega) (by omega)), h.2.1.2.2.2.2.2.kept (fun b b1 b2 => F8 b (by omega) (by omega) (by omega))⟩
    rw [si_ne (by omega), f2 b (by omega)]
  have ms : MS (am_si m2 3 11 (am_i 1)) s := h.2.2.1.kept (fun b b1 _ => F8 b (by omega) (by omega) (by omega))
  generalize hM : am_si m2 3 11 (am_i 1) = M at cs ms
  have ms2 : MS (am_si (am_sc M 3262 0 3264 0 15517) 3261 5 (am_i 1)) (xG s, xB s, xN s, xH s, 1, xG s, xB s, xT s, xR s) := by
    have nb : ∀ b, b ≠ 3261 → b ≠ 3264 → am_si (am_sc M 3262 0 3264 0 15517) 3261 5 (am_i 1) b = M b := fun b b1 b2 => by rw [si_ne b1, sc_ne b2]
    have nb' : ∀ j, j ≠ 5 → am_si (am_sc M 3262 0 3264 0 15517) 3261 5 (am_i 1) 3261 j = M 3261 j := fun j hj => by rw [si_o hj, sc_ne (by decide)]
    refine ⟨ms.1.kept (fun i _ => by rw [nb 3262 (by decide) (by decide)]), ms.2.1.copy (fun i _ _ => by rw [nb 3262 (by decide) (by decide)]), ms.2.2.1.kept (nb' 4 (by decide)) (nb 3265 (by decide) (by decide)), ⟨si_at, fun _ => ⟨ms.1.copy (fun i hi => ?_), ms.2.1.copy (fun i i1 i2 => ?_)⟩⟩, ?_, ?_⟩
    · rw [si_ne (by decide), sc_at (by omega)]
    · rw [si_ne (by decide), sc_at (by omega)]
    · show TPM _ (xT s)
      unfold TPM
      rw [nb' 9 (by decide), nb' 11 (by decide), nb' 12 (by decide), nb 3268 (by decide) (by decide)]
      exact ms.2.2.2.2.1
    · show RPM _ (xR s)
      unfold RPM
      rw [nb' 18 (by decide), nb 3271 (by decide) (by decide)]
      exact ms.2.2.2.2.2
  refine ⟨am_i 1, M, _, ?_, ?_, GS.both (s := s) h.1 cs ms2 ⟨h.2.2.2.1, h.2.2.2.2.1, h.2.2.2.2.2.1, ⟨Nat.le_refl 1, fun _ => ⟨h.2.2.2.1, h.2.2.2.2.1⟩⟩, h.2.2.2.2.2.2.2⟩ (fun b hb => by rw [si_ne (by omega), sc_ne (by omega)])⟩
  · unfold m_X8_image
    rw [if_neg (by decide), e1, Option.bind_some, e2, Option.bind_some, am_letF, hM]
  · unfold m_X9_image
    rw [if_pos (by decide), l_X9_image1, if_pos (by decide), am_letF]
theorem q_image0 (h : GS m r s) : ∃ y m1 m2, m_X8_image m r (am_i 0) = some (y, m1) ∧ m_X9_image m1 (am_i 0) = some (y, m2) ∧ Good m2 r := by
  have hf := h.2.2.2.2.2.2.1.1
  by_cases c : xF s = 1
  · have hi := h.2.1.2.2.2.1.2 c
    have hI := h.2.2.2.2.2.2.1.2 c
    obtain ⟨m1, e1, f1, g1⟩ := s_X1_takeOver (o := 4) (o1 := 3014) og4 og3014 (by decide) h.1 hi.1 hI.1
    have hB1 : BC m1 2976 (xJ s) := hi.2.kept (fun b b1 b2 => f1 b (by omega))
    obtain ⟨m2, e2, f2, hB2⟩ := s_X0_takeOver hB1 bk2970 bk2976 (by decide)
    have F8 : ∀ b, ¬ (4 < b ∧ b < 251) → ¬ (2970 ≤ b ∧ b < 2976) → b ≠ 498 → am_si m2 498 2 (am_i 0) b = m b := fun b b1 b2 b3 => by rw [si_ne b3, f2 b b2, f1 b (by omega)]
    have cs : CS (am_si m2 498 2 (am_i 0)) r (xI s, xJ s, 0, xH s, xF s, xI s, xJ s, xT s, xR s) := by
      refine h.2.1.upd h.1 (g1.kept h.1 og4 (fun b b1 b2 => by rw [si_ne (by omega), f2 b (by omega)]) rfl) (hB2.kept (fun b b1 b2 => si_ne (by omega))) ?_ (fun b hb => F8 b (by omega) (by omega) (by omega)) rfl
      obtain ⟨p1, p, hp, p2, p3⟩ := h.2.1.2.2.1
      refine ⟨si_at, p, hp, ?_, fun i hi => absurd hi (Nat.not_lt_zero _)⟩
      rw [si_o (by decide), f2 498 (by decide), f1 498 (by omega)]
      exact p2
    have ms : MS (am_si m2 498 2 (am_i 0)) s := h.2.2.1.kept (fun b b1 _ => F8 b (by omega) (by omega) (by omega))
    generalize hM : am_si m2 498 2 (am_i 0) = M at cs ms
    have hi9 := ms.2.2.2.1.2 c
    have ms2 : MS (am_si (am_si (am_sc M 3264 0 3262 0 15517) 3261 4 (am_i 0)) 3261 5 (am_i 1)) (xI s, xJ s, 0, xH s, xF s, xI s, xJ s, xT s, xR s) := by
      have nb : ∀ b, b ≠ 3261 → b ≠ 3262 → am_si (am_si (am_sc M 3264 0 3262 0 15517) 3261 4 (am_i 0)) 3261 5 (am_i 1) b = M b := fun b b1 b2 => by rw [si_ne b1, si_ne b1, sc_ne b2]
      refine ms.upd (hi9.1.copy (fun i hi => ?_)) (hi9.2.copy (fun i i1 i2 => ?_)) ⟨?_, fun i hi => absurd hi (Nat.not_lt_zero _)⟩ (fun b hb => nb b (by omega) (by omega)) (fun j hj => ?_)
      · rw [si_ne (by decide), si_ne (by decide), Nat.zero_add, sc_at (by omega)]
      · rw [si_ne (by decide), si_ne (by decide), sc_at (by omega)]
      · rw [si_o (by decide), si_at]
        rfl
      · by_cases j5 : j = 5
        · rw [j5, si_at, ms.2.2.2.1.1, c]
          rfl
        · rw [si_o j5, si_o hj, sc_ne (by decide)]
    refine ⟨am_i 1, M, _, ?_, ?_, GS.both (s := s) h.1 cs ms2 ⟨hI.1, hI.2, ⟨Nat.zero_le 10, fun i hi => absurd hi (Nat.not_lt_zero _)⟩, h.2.2.2.2.2.2⟩ (fun b hb => by rw [si_ne (by omega), si_ne (by omega), sc_ne (by omega)])⟩
    · unfold m_X8_image m_X2_forget
      rw [if_pos (by decide), h.2.1.2.2.2.1.1, c, if_pos (by decide), e1, Option.bind_some, e2, Option.bind_some, am_letF, Option.bind_some, hM]
    · unfold m_X9_image
      rw [if_neg (by decide), ms.2.2.2.1.1, c, if_pos (by decide), l_X9_image0, if_neg (by decide), am_letF, am_letF]
  · refine ⟨am_i 0, m, m, ?_, ?_, h.g⟩
    · unfold m_X8_image
      rw [if_pos (by decide), h.2.1.2.2.2.1.1, show xF s = 0 by omega, if_neg (by decide)]
    · unfold m_X9_image
      rw [if_neg (by decide), h.2.2.1.2.2.2.1.1, show xF s = 0 by omega, if_neg (by decide)]
end A2
