/-! ===== mathematics: spans, what two rows have in common ===== -/
/-- whether a span of 2^l categories holds something -/
def sp (f : Nat → Nat) : Nat → Nat → Bool
  | 0, i => decide (0 < f i)
  | l + 1, i => sp f l (2 * i) || sp f l (2 * i + 1)
/-- how many spans two rows both have -/
def com (f g : Nat → Nat) : Nat := su (fun l => cn (fun i => sp f l i && sp g l i) (2 ^ (6 - l))) 7
theorem sp_ex (f : Nat → Nat) : ∀ l i, sp f l i = true ↔ ∃ j, j < 2 ^ l ∧ 0 < f (2 ^ l * i + j) := by
  intro l
  induction l with
  | zero =>
    intro i
    refine ⟨fun h => ⟨0, by decide, ?_⟩, ?_⟩
    · have := of_decide_eq_true h
      rw [Nat.pow_zero, Nat.one_mul]; exact this
    · rintro ⟨j, h1, h2⟩
      have e : j = 0 := by rw [Nat.pow_zero] at h1; omega
      rw [e, Nat.pow_zero, Nat.one_mul] at h2
      exact decide_eq_true h2
  | succ l ih =>
    intro i
    have e1 : 2 ^ (l + 1) = 2 * 2 ^ l := by rw [Nat.pow_succ]; omega
    have e2 : 2 * 2 ^ l * i = 2 ^ l * (2 * i) := by rw [Nat.mul_assoc, Nat.mul_left_comm]
    have e3 : 2 ^ l * (2 * i + 1) = 2 ^ l * (2 * i) + 2 ^ l := Nat.mul_succ _ _
    show (sp f l (2 * i) || sp f l (2 * i + 1)) = true ↔ _
    rw [Bool.or_eq_true, ih, ih, e1]
    generalize 2 ^ l = w at *
    constructor
    · rintro (⟨j, h1, h2⟩ | ⟨j, h1, h2⟩)
      · exact ⟨j, by omega, by rw [e2]; exact h2⟩
      · exact ⟨w + j, by omega, by rw [e2, show w * (2 * i) + (w + j) = w * (2 * i) + w + j by omega, ← e3]; exact h2⟩
    · rintro ⟨j, h1, h2⟩
      rw [e2] at h2
      by_cases hj : j < w
      · exact Or.inl ⟨j, hj, h2⟩
      · refine Or.inr ⟨j - w, by omega, ?_⟩
        rw [e3, show w * (2 * i) + w + (j - w) = w * (2 * i) + j by omega]
        exact h2
theorem su_blk (F : Nat → Nat) (w : Nat) : ∀ N, su F (w * N) = su (fun i => su (fun j => F (w * i + j)) w) N := by
  intro N
  induction N with
  | zero => rfl
  | succ N ih => rw [Nat.mul_succ, su_cat, ih]; rfl
theorem su_pick {w N : Nat} (Q : Nat → Bool) (hw : 0 < w) : su (fun c => b1 (decide (c % w = 0) && Q (c / w))) (w * N) = cn Q N := by
  rw [su_blk]
  refine su_congr N (fun i hi => ?_)
  rw [su_one (k := 0) hw]
  · show b1 (decide ((w * i + 0) % w = 0) && Q ((w * i + 0) / w)) = _
    rw [Nat.add_zero, Nat.mul_mod_right, Nat.mul_div_cancel_left _ hw]
    rfl
  · intro j hj hj0
    show b1 (decide ((w * i + j) % w = 0) && Q ((w * i + j) / w)) = _
    rw [Nat.mul_add_mod, Nat.mod_eq_of_lt hj, decide_eq_false hj0]
    rfl
/-- the set x has level l of the row f -/
def Bm (l : Nat) (f : Nat → Nat) (x : Int64) : Prop := ∀ c, c < 64 → (jn x).testBit c = (decide (c % 2 ^ l = 0) && sp f l (c / 2 ^ l))
def nxM (x : Int64) (j : Nat) : Int64 := (x ||| uS x ((am_i 1) <<< ((am_i (j : Int) - am_i 1) &&& 31))) &&& am_lm j
def lvM (x : Int64) : Nat → Int64
  | 0 => x
  | l + 1 => nxM (lvM x l) (l + 1)
theorem lm_bit : ∀ l, l < 7 → ∀ c, c < 64 → (jn (am_lm l)).testBit c = decide (c % 2 ^ l = 0) := by decide +kernel
theorem nx_sh : ∀ j : Nat, j < 6 → ((((am_i 1) <<< ((am_i ((j + 1 : Nat) : Int) - am_i 1) &&& 31)).toInt64.toUInt64 &&& Int64.toUInt64 63).toBitVec % 64 = BitVec.ofNat 64 (2 ^ j)) := by decide +kernel
theorem Bm_s {f : Nat → Nat} {x : Int64} {l : Nat} (hl : l < 6) (h : Bm l f x) : Bm (l + 1) f (nxM x (l + 1)) := by
  intro c hc
  have hs : (2 : Nat) ^ l < 64 := Nat.lt_of_le_of_lt (Nat.pow_le_pow_right (by decide) (Nat.le_of_lt_succ hl)) (by decide)
  unfold nxM
  rw [jn_and, jn_or, jn_uS (nx_sh l hl) hs, Nat.testBit_and, Nat.testBit_or, Nat.testBit_div_two_pow, lm_bit (l + 1) (by omega) c hc]
  have e1 : 2 ^ (l + 1) = 2 * 2 ^ l := by rw [Nat.pow_succ]; omega
  have hw : 0 < 2 ^ l := Nat.pow_pos (by decide)
  by_cases c1 : c % 2 ^ (l + 1) = 0
  · rw [decide_eq_true c1, Bool.and_true, Bool.true_and]
    obtain ⟨i, hi⟩ : ∃ i, c = 2 ^ l * (2 * i) := ⟨c / 2 ^ (l + 1), by
      have := Nat.div_add_mod c (2 ^ (l + 1))
      rw [c1, Nat.add_zero] at this
      rw [← Nat.mul_assoc, Nat.mul_comm (2 ^ l) 2, ← e1]; exact this.symm⟩
    have hc2 : 2 ^ l + c < 64 := by
      have d1 : 64 = 2 ^ (l + 1) * 2 ^ (5 - l) := by rw [← Nat.pow_add, show l + 1 + (5 - l) = 6 by omega]
      have d2 : 2 ^ (l + 1) * (c / 2 ^ (l + 1)) = c := by
        have := Nat.div_add_mod c (2 ^ (l + 1))
        omega
      have d3 : c / 2 ^ (l + 1) < 2 ^ (5 - l) := Nat.div_lt_of_lt_mul (by rw [← d1]; exact hc)
      have d4 : 2 ^ (l + 1) * (c / 2 ^ (l + 1) + 1) ≤ 2 ^ (l + 1) * 2 ^ (5 - l) := Nat.mul_le_mul_left _ d3
      rw [Nat.mul_succ, ← d1, d2] at d4
      omega
    rw [h c hc, Nat.add_comm c (2 ^ l), h _ hc2]
    have f1 : c % 2 ^ l = 0 := by rw [hi, Nat.mul_mod_right]
    have f2 : c / 2 ^ l = 2 * i := by rw [hi, Nat.mul_div_cancel_left _ hw]
    have f3 : (2 ^ l + c) % 2 ^ l = 0 := by rw [Nat.add_mod_left, f1]
    have f4 : (2 ^ l + c) / 2 ^ l = 2 * i + 1 := by rw [Nat.add_div_left _ hw, f2]
    have f5 : c / 2 ^ (l + 1) = i := by
      rw [hi, ← Nat.mul_assoc, Nat.mul_comm (2 ^ l) 2, ← e1, Nat.mul_div_cancel_left _ (by omega)]
    rw [f1, f2, f3, f4, f5]
    simp only [decide_true, Bool.true_and]
    rfl
  · rw [decide_eq_false c1, Bool.and_false, Bool.false_and]
theorem Bm_pop {f g : Nat → Nat} {x y : Int64} {l : Nat} (hl : l < 7) (h : Bm l f x) (h2 : Bm l g y) : pop (jn (x &&& y)) = cn (fun i => sp f l i && sp g l i) (2 ^ (6 - l)) := by
  have e : 64 = 2 ^ l * 2 ^ (6 - l) := by rw [← Nat.pow_add, show l + (6 - l) = 6 by omega]
  rw [← su_pick (fun i => sp f l i && sp g l i) (Nat.pow_pos (by decide) : 0 < 2 ^ l), ← e]
  unfold pop
  refine su_congr 64 (fun c hc => ?_)
  show b1 _ = b1 _
  rw [jn_and, Nat.testBit_and, h c hc, h2 c hc]
  by_cases c1 : c % 2 ^ l = 0
  · rw [decide_eq_true c1]; simp only [Bool.true_and]
  · rw [decide_eq_false c1]; simp only [Bool.false_and]
section MCO
variable {m : am_m} {a b : Nat} {f g : Nat → Nat}
theorem Bm_mk (f : Nat → Nat) : Bm 0 f (mkL f 64) := fun c hc => by
  rw [mkL_bit f 64 (by omega), Nat.pow_zero, Nat.mod_one, Nat.div_one, decide_eq_true hc]
  rfl
theorem s_X6_common {x y : Int64} (h : Bm 0 f x) (h2 : Bm 0 g y) : m_X6_common m x y = some (am_i (com f g : Nat)) := by
  have H : ∀ l, l < 7 → Bm l f (lvM x l) ∧ Bm l g (lvM y l) := by
    intro l
    induction l with
    | zero => intro _; exact ⟨h, h2⟩
    | succ l ih => intro hl; exact ⟨Bm_s (by omega) (ih (by omega)).1, Bm_s (by omega) (ih (by omega)).2⟩
  unfold m_X6_common
  refine lo_go (fun n j s => m_X6_common_12 x y m (fun u7 => some u7) n s (lvM x (j - 1)) (lvM y (j - 1)) (am_i (j : Int))) (fun j => am_i (su (fun l => cn (fun i => sp f l i && sp g l i) (2 ^ (6 - l))) j : Nat)) 0 7 rfl (by omega) (am_Fv (by omega)) (fun n j _ hj => ?_) (fun n => ?_)
  · show m_X6_common_12 x y m (fun u7 => some u7) (n + 1) _ _ _ _ = _
    rw [m_X6_common_12, if_neg (by rw [i_le (by omega) (by omega) (by omega) (by omega)]; omega)]
    match j, hj with
    | 0, _ =>
      rw [if_pos (by decide), s_bitCount, Option.bind_some, Bm_pop (by omega) (H 0 (by omega)).1 (H 0 (by omega)).2, i_add]
      rfl
    | t + 1, hj =>
      rw [if_neg (by rw [i_zero, i_le (by omega) (by omega) (by omega) (by omega)]; omega), i_ibt (by omega) (by omega) (by omega), cond_true, cond_true, i_ixn (by omega)]
      have e1 : t + 1 - 1 = t := by omega
      rw [e1]
      show (m_J13_bitCount_95d88 m (nxM (lvM x t) (t + 1) &&& nxM (lvM y t) (t + 1))).bind (fun q6 => m_X6_common_12 x y m (fun u7 => some u7) n (_ + q6) (nxM (lvM x t) (t + 1)) (nxM (lvM y t) (t + 1)) _) = _
      rw [s_bitCount, Option.bind_some, show pop (jn (nxM (lvM x t) (t + 1) &&& nxM (lvM y t) (t + 1))) = _ from Bm_pop hj (H (t + 1) hj).1 (H (t + 1) hj).2, i_add, i_add]
      rfl
  · rfl
theorem s_X6_nodesOf {x : Int64} (h : Bm 0 f x) : m_X6_nodesOf m x = some (am_i (com f f : Nat)) := by
  unfold m_X6_nodesOf
  rw [s_X6_common h h]
  rfl
theorem s_X9_holds {w l i : Nat} (h : Row m a f) (hw : w = 2 ^ l) (hb : w * i + w ≤ 64) : m_X9_holds m a (am_i (w * i : Nat)) (am_i w) = some (am_i (b1 (sp f l i))) := by
  unfold m_X9_holds
  refine (lo_seek (fun n j s => m_X9_holds_2 a (am_i (w * i : Nat)) (am_i w) m (am_i (w * i : Nat)) (am_i w) (some (am_i 0)) n s) (fun j => am_i ((w * i + j : Nat) : Int)) w (fun j => decide (0 < f (w * i + j))) (fun _ => some (am_i 1)) (some (am_i 0)) rfl (am_Fv (by omega)) ?_ ?_ ?_).trans ?_
  · intro n j hj hp
    have b1 := h.2 (w * i + j)
    have hp' := of_decide_eq_false hp
    show m_X9_holds_2 a _ _ m _ _ (some (am_i 0)) (n + 1) _ = _
    rw [m_X9_holds_2]
    simp (disch := first | assumption | omega) only [i_add, i_sub, i_mul, i_lt, i_le, i_eq, i_ibt, i_ixn, i_ix, i_zero, am_letF, cond_true, cond_false, Option.bind_some, ↓reduceIte, m_si, m_sc, true_and, and_true, not_true_eq_false, not_false_eq_true, i_gtF, i_leT, i_geF, i_ltT, Int32.zero_add, Int.toNat_natCast, ix_own, ix_sum, ix_ver, ix_th, ix_ab, ix_st, ix_vm, ix_lim, ix_lim1, ix_lim2, ix_lim3, Int.toNat_zero, i_neF, i_eqT, b1T, b1F, h.1]
    congr 2
  · intro n j hj hp
    have b1 := h.2 (w * i + j)
    have hp' := of_decide_eq_true hp
    show m_X9_holds_2 a _ _ m _ _ (some (am_i 0)) (n + 1) _ = _
    rw [m_X9_holds_2]
    simp (disch := first | assumption | omega) only [i_add, i_sub, i_mul, i_lt, i_le, i_eq, i_ibt, i_ixn, i_ix, i_zero, am_letF, cond_true, cond_false, Option.bind_some, ↓reduceIte, m_si, m_sc, true_and, and_true, not_true_eq_false, not_false_eq_true, i_gtF, i_leT, i_geF, i_ltT, Int32.zero_add, Int.toNat_natCast, ix_own, ix_sum, ix_ver, ix_th, ix_ab, ix_st, ix_vm, ix_lim, ix_lim1, ix_lim2, ix_lim3, Int.toNat_zero, i_neF, i_eqT, b1T, b1F, h.1]
  · intro n
    show m_X9_holds_2 a _ _ m _ _ (some (am_i 0)) (n + 1) _ = _
    rw [m_X9_holds_2]
    simp (disch := first | assumption | omega) only [i_add, i_sub, i_mul, i_lt, i_le, i_eq, i_ibt, i_ixn, i_ix, i_zero, am_letF, cond_true, cond_false, Option.bind_some, ↓reduceIte, m_si, m_sc, true_and, and_true, not_true_eq_false, not_false_eq_true, i_gtF, i_leT, i_geF, i_ltT, Int32.zero_add, Int.toNat_natCast, ix_own, ix_sum, ix_ver, ix_th, ix_ab, ix_st, ix_vm, ix_lim, ix_lim1, ix_lim2, ix_lim3, Int.toNat_zero, i_neF, i_eqT, b1T, b1F]
  · by_cases c : sp f l i = true
    · obtain ⟨j, h1, h2⟩ := (sp_ex f l i).mp c
      rw [← hw] at h1 h2
      rw [c, if_pos]
      · rfl
      · rcases Nat.lt_or_ge (fi (fun j => decide (0 < f (w * i + j))) w) w with q | q
        · exact q
        · have := fi_no (fun j => decide (0 < f (w * i + j))) w j (by omega)
          exact absurd h2 (of_decide_eq_false this)
    · rw [Bool.eq_false_iff.mpr c, if_neg]
      · rfl
      · intro q
        have := of_decide_eq_true (fi_is _ w q)
        refine c ((sp_ex f l i).mpr ⟨_, by rw [← hw]; exact q, by rw [← hw]; exact this⟩)
theorem l_X9_common_12 {w N l z : Nat} {k : Int32 → Option Int32} (h : Row m a f) (h2 : Row m b g) (hw : w = 2 ^ l) (hN : w * N = 64) (hN2 : N ≤ 64) (hw2 : w ≤ 64) : m_X9_common_12 a b m (am_i w) k am_F (am_i z) (am_i 0) = k (am_i ((z + cn (fun i => sp f l i && sp g l i) N : Nat) : Int)) := by
  refine lo_go (fun n j (s : Int32) => m_X9_common_12 a b m (am_i w) k n s (am_i (w * j : Nat))) (fun j => am_i ((z + cn (fun i => sp f l i && sp g l i) j : Nat) : Int)) 0 N rfl (by omega) (am_Fv (by omega)) (fun n j _ hj => ?_) (fun n => ?_)
  · show m_X9_common_12 a b m (am_i w) k (n + 1) _ _ = _
    have hb : w * (j + 1) ≤ w * N := Nat.mul_le_mul_left w hj
    rw [hN, Nat.mul_succ] at hb
    have hc : 0 < w := by rw [hw]; exact Nat.pow_pos (by decide)
    rw [m_X9_common_12, if_neg (by rw [i_le (by omega) (by omega) (by omega) (by omega)]; omega), s_X9_holds h hw hb, s_X9_holds h2 hw hb, Option.bind_some, Option.bind_some, i_add, i_add, i_add]
    have e : am_i (((w * j : Nat) : Int) + (w : Int)) = am_i ((w * (j + 1) : Nat) : Int) := by congr 1
    rw [e]
    show _ = m_X9_common_12 a b m (am_i w) k n (am_i ((z + (cn _ j + b1 (sp f l j && sp g l j)) : Nat) : Int)) _
    cases sp f l j <;> cases sp g l j <;> rfl
  · show m_X9_common_12 a b m (am_i w) k (n + 1) _ (am_i (w * N : Nat)) = _
    rw [m_X9_common_12, hN, if_pos (by decide)]
def wdt (j : Nat) : Nat := if j < 7 then 2 ^ (6 - j) else 0
theorem wdt_s : ∀ j, j < 7 → am_i (wdt j : Nat) / am_i 2 = am_i (wdt (j + 1) : Nat) := by decide +kernel
theorem wdt_c : ∀ j, j < 7 → ¬ am_i (wdt j : Nat) ≤ 0 := by decide +kernel
theorem s_X9_common (h : Row m a f) (h2 : Row m b g) : m_X9_common m a b = some (am_i (com f g : Nat)) := by
  unfold m_X9_common
  refine (lo_go (fun n j (s : Int32) => m_X9_common_5 a b m (fun u8 => some u8) n s (am_i (wdt j : Nat))) (fun j => am_i (su (fun t => cn (fun i => sp f (6 - t) i && sp g (6 - t) i) (2 ^ t)) j : Nat)) 0 7 rfl (by omega) (am_Fv (by omega)) (fun n j _ hj => ?_) (fun n => rfl)).trans ?_
  · show m_X9_common_5 a b m (fun u8 => some u8) (n + 1) _ _ = _
    have e1 : wdt j = 2 ^ (6 - j) := if_pos hj
    have e2 : wdt j * 2 ^ j = 64 := by rw [e1, ← Nat.pow_add, show 6 - j + j = 6 by omega]
    have e3 : 2 ^ j ≤ 2 ^ 6 := Nat.pow_le_pow_right (by decide) (by omega)
    have e4 : wdt j ≤ 2 ^ 6 := by rw [e1]; exact Nat.pow_le_pow_right (by decide) (by omega)
    rw [m_X9_common_5, if_neg (wdt_c j hj), l_X9_common_12 h h2 e1 e2 e3 e4, wdt_s j hj]
    rfl
  · unfold com
    refine congrArg (fun z : Nat => some (am_i (z : Int))) ?_
    simp only [su, Nat.reduceSub]
    omega
theorem s_X9_nodes (h : Row m a f) : m_X9_nodes m a = some (am_i (com f f : Nat)) := by
  unfold m_X9_nodes
  rw [s_X9_common h h]
  rfl
end MCO
