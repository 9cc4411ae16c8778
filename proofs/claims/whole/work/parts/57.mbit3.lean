/-! ===== mathematics: bits of an int counted; sets of units ===== -/
def iN (x : Int32) : Nat := x.toBitVec.toNat
theorem iN_lt (x : Int32) : iN x < 4294967296 := x.toBitVec.isLt
def iS (x : Int32) (k : Int32) : Int32 := (x.toUInt32 >>> (k.toUInt32 &&& Int32.toUInt32 31)).toInt32
theorem iN_iS {x : Int32} {k : Int32} {s : Nat} (hk : (k.toUInt32 &&& Int32.toUInt32 31).toBitVec % 32 = BitVec.ofNat 32 s) (hs : s < 32) : iN (iS x k) = iN x / 2 ^ s := by
  show (x.toUInt32 >>> (k.toUInt32 &&& Int32.toUInt32 31)).toBitVec.toNat = _
  rw [UInt32.toBitVec_shiftRight, hk, BitVec.ushiftRight_eq', BitVec.toNat_ushiftRight, BitVec.toNat_ofNat, Nat.mod_eq_of_lt (by omega), Nat.shiftRight_eq_div_pow]
  rfl
theorem iN_and (x y : Int32) : iN (x &&& y) = iN x &&& iN y := by
  unfold iN
  rw [Int32.toBitVec_and, BitVec.toNat_and]
theorem iN_or (x y : Int32) : iN (x ||| y) = iN x ||| iN y := by
  unfold iN
  rw [Int32.toBitVec_or, BitVec.toNat_or]
theorem iN_add {x y : Int32} (h : iN x + iN y < 4294967296) : iN (x + y) = iN x + iN y := by
  unfold iN at h ⊢
  rw [Int32.toBitVec_add, BitVec.toNat_add]
  exact Nat.mod_eq_of_lt h
theorem iN_sub {x y : Int32} (h : iN y ≤ iN x) : iN (x - y) = iN x - iN y := by
  unfold iN at h ⊢
  rw [Int32.toBitVec_sub, BitVec.toNat_sub_of_le h]
theorem iN_inj {x y : Int32} (h : iN x = iN y) : x = y := by
  apply Int32.toBitVec_inj.mp
  exact BitVec.eq_of_toNat_eq h
theorem iN_i {n : Nat} (h : n < 2147483648) : iN (am_i (n : Int)) = n := by
  unfold iN am_i
  rw [Int32.toBitVec_ofInt, BitVec.toNat_ofInt]
  omega
def bd1 (x : Int32) : Int32 := x - (iS x (am_i 1) &&& am_i 1431655765)
def bd2 (x : Int32) : Int32 := (x &&& am_i 858993459) + (iS x (am_i 2) &&& am_i 858993459)
def bd3 (x : Int32) : Int32 := (x + iS x (am_i 4)) &&& am_i 252645135
def bd4 (x : Int32) : Int32 := x + iS x (am_i 8)
def bd5 (x : Int32) : Int32 := x + iS x (am_i 16)
theorem bd_def (m : am_m) (x : Int32) : m_J6_bitCount_0f7a4 m x = some (bd5 (bd4 (bd3 (bd2 (bd1 x)))) &&& am_i 63) := by
  unfold m_J6_bitCount_0f7a4 bd5 bd4 bd3 bd2 bd1 iS
  rfl
theorem By_divs4 {f : Nat → Nat} (hf : ∀ i, f i < 256) (hz : ∀ i, 4 ≤ i → f i = 0) : ∀ j, By f 4 0 / 256 ^ j = By f 4 j := by
  intro j
  induction j with
  | zero => rw [Nat.pow_zero, Nat.div_one]
  | succ j ih =>
    rw [Nat.pow_succ, ← Nat.div_div_eq_div_mul, ih]
    have h1 : By f 4 j = f j + 256 * By f 3 (j + 1) := rfl
    have h2 : By f 4 (j + 1) = By f 3 (j + 1) := By_end (n := 3) (hz _ (by omega))
    have := hf j
    omega
theorem By_stage4 {f : Nat → Nat} {B : Nat} (j : Nat) (hf : ∀ i, f i ≤ B) (hB : B < 128) (hz : ∀ i, 4 ≤ i → f i = 0) : By f 4 0 + By f 4 0 / 256 ^ j = By (fun i => f i + f (i + j)) 4 0 := by
  rw [By_divs4 (fun i => by have := hf i; omega) hz, show By f 4 j = By f 4 (0 + j) by rw [Nat.zero_add], By_sh, By_add]
def popi (x : Nat) : Nat := su (fun c => b1 (x.testBit c)) 32
theorem s_bitCounti {m : am_m} {x : Int32} : m_J6_bitCount_0f7a4 m x = some (am_i (popi (iN x) : Nat)) := by
  rw [bd_def]
  have hx := iN_lt x
  have e0 : iN x = By (byt (iN x)) 4 0 := by
    rw [By_byt, Nat.pow_zero, Nat.div_one]
    exact (Nat.mod_eq_of_lt hx).symm
  generalize hb : byt (iN x) = b at e0
  have hb1 : ∀ i, b i < 256 := fun i => by rw [← hb]; exact byt_lt _ i
  have c1 : iN (am_i 1431655765) = Cn 0x55 4 := by decide +kernel
  have c2 : iN (am_i 858993459) = Cn 0x33 4 := by decide +kernel
  have c3 : iN (am_i 252645135) = Cn 0x0f 4 := by decide +kernel
  have e1 : iN (bd1 x) = By (fun i => t1 (b i)) 4 0 := by
    unfold bd1
    have u1 : iN (iS x (am_i 1)) = iN x / 2 := iN_iS (s := 1) (by decide +kernel) (by decide)
    rw [iN_sub (by rw [iN_and, u1]; exact Nat.le_trans Nat.and_le_left (Nat.div_le_self _ _)), iN_and, u1, c1, e0, st1 hb1]
  have hb2 : ∀ i, t1 (b i) < 256 := fun i => (dec8 _ (hb1 i)).2.2.2
  have hb3 : ∀ i, t2 (t1 (b i)) ≤ 68 ∧ t2 (t1 (b i)) % 16 ≤ 4 := fun i => ⟨(dec8 _ (hb1 i)).2.1, (dec8 _ (hb1 i)).2.2.1⟩
  have e2 : iN (bd2 (bd1 x)) = By (fun i => t2 (t1 (b i))) 4 0 := by
    unfold bd2
    have u1 : iN (iS (bd1 x) (am_i 2)) = iN (bd1 x) / 4 := iN_iS (s := 2) (by decide +kernel) (by decide)
    have h1 := st2 hb2 4 0
    have h2 := By_lt (b := fun i => t2 (t1 (b i))) (fun i => by have := (hb3 i).1; omega) 4 0
    have h3 : (iN (bd1 x &&& am_i 858993459) + iN (iS (bd1 x) (am_i 2) &&& am_i 858993459)) = By (fun i => t2 (t1 (b i))) 4 0 := by
      rw [iN_and, iN_and, u1, c2, e1]
      exact h1
    rw [iN_add (by rw [h3]; exact h2)]
    exact h3
  have e3 : iN (bd3 (bd2 (bd1 x))) = By (fun i => t3 (t2 (t1 (b i)))) 4 0 := by
    unfold bd3
    have u1 : iN (iS (bd2 (bd1 x)) (am_i 4)) = iN (bd2 (bd1 x)) / 16 := iN_iS (s := 4) (by decide +kernel) (by decide)
    have h2 : By (fun i => t2 (t1 (b i))) 4 0 < 128 * 256 ^ 3 := by
      have h3 : By (fun i => t2 (t1 (b i))) 4 0 ≤ By (fun _ => 68) 4 0 := by
        have : ∀ n k, By (fun i => t2 (t1 (b i))) n k ≤ By (fun _ => 68) n k := by
          intro n
          induction n with
          | zero => intro k; exact Nat.le_refl _
          | succ n ih =>
            intro k
            have h1 := (hb3 k).1
            have h2 := ih (k + 1)
            show t2 (t1 (b k)) + 256 * _ ≤ 68 + 256 * _
            omega
        exact this 4 0
      exact Nat.lt_of_le_of_lt h3 (by decide +kernel)
    rw [iN_and, iN_add (by rw [u1, e2]; omega), u1, c3, e2]
    exact st3 hb3 4 0
  have hs8 : ∀ i, t3 (t2 (t1 (b i))) = pop8 (b i) := fun i => (dec8 _ (hb1 i)).1
  generalize hs : (fun i => t3 (t2 (t1 (b i)))) = s0 at e3
  have g1 : ∀ i, s0 i = pop8 (byt (iN x) i) := fun i => by rw [← hs, hb]; exact hs8 i
  have g2 : ∀ i, s0 i ≤ 8 := fun i => by rw [g1]; exact pop8_le _
  have g3 : ∀ i, 4 ≤ i → s0 i = 0 := fun i hi => by
    rw [g1]
    have : byt (iN x) i = 0 := by
      unfold byt
      rw [Nat.div_eq_of_lt (Nat.lt_of_lt_of_le hx (show 256 ^ 4 ≤ 256 ^ i from Nat.pow_le_pow_right (by decide) hi))]
    rw [this]
    decide
  have e4 : iN (bd4 (bd3 (bd2 (bd1 x)))) = By (fun i => s0 i + s0 (i + 1)) 4 0 := by
    unfold bd4
    have u1 : iN (iS (bd3 (bd2 (bd1 x))) (am_i 8)) = iN (bd3 (bd2 (bd1 x))) / 256 := iN_iS (s := 8) (by decide +kernel) (by decide)
    have h := By_stage4 (f := s0) (B := 8) 1 g2 (by decide) g3
    have h2 := By_lt (b := fun i => s0 i + s0 (i + 1)) (fun i => by have := g2 i; have := g2 (i + 1); omega) 4 0
    rw [iN_add (by rw [u1, e3]; rw [Nat.pow_one] at h; rw [h]; exact h2), u1, e3]
    rw [Nat.pow_one] at h
    exact h
  generalize hs1 : (fun i => s0 i + s0 (i + 1)) = s1 at e4
  have k2 : ∀ i, s1 i ≤ 16 := fun i => by rw [← hs1]; show s0 i + s0 (i + 1) ≤ 16; have := g2 i; have := g2 (i + 1); omega
  have k3 : ∀ i, 4 ≤ i → s1 i = 0 := fun i hi => by rw [← hs1]; show s0 i + s0 (i + 1) = 0; rw [g3 i hi, g3 (i + 1) (by omega)]
  have e5 : iN (bd5 (bd4 (bd3 (bd2 (bd1 x))))) = By (fun i => s1 i + s1 (i + 2)) 4 0 := by
    unfold bd5
    have u1 : iN (iS (bd4 (bd3 (bd2 (bd1 x)))) (am_i 16)) = iN (bd4 (bd3 (bd2 (bd1 x)))) / 256 ^ 2 := iN_iS (s := 16) (by decide +kernel) (by decide)
    have h := By_stage4 (f := s1) (B := 16) 2 k2 (by decide) k3
    have h2 := By_lt (b := fun i => s1 i + s1 (i + 2)) (fun i => by have := k2 i; have := k2 (i + 2); omega) 4 0
    rw [iN_add (by rw [u1, e4, h]; exact h2), u1, e4]
    exact h
  have e7 : s1 0 + s1 2 = popi (iN x) := by
    have h := pop_byt (iN x) 4
    have hp : su (fun c => b1 ((iN x).testBit c)) (8 * 4) = popi (iN x) := rfl
    rw [hp] at h
    rw [← h, ← hs1]
    show (s0 0 + s0 1) + (s0 2 + s0 3) = 0 + pop8 (byt (iN x) 0) + pop8 (byt (iN x) 1) + pop8 (byt (iN x) 2) + pop8 (byt (iN x) 3)
    rw [g1 0, g1 1, g1 2, g1 3]
    omega
  have e8 : iN (bd5 (bd4 (bd3 (bd2 (bd1 x))))) % 64 = popi (iN x) := by
    have h1 : By (fun i => s1 i + s1 (i + 2)) 4 0 = (s1 0 + s1 2) + 256 * By (fun i => s1 i + s1 (i + 2)) 3 1 := rfl
    have := k2 0
    have := k2 2
    rw [e5, h1, ← e7]
    omega
  congr 1
  apply iN_inj
  have hl : iN (bd5 (bd4 (bd3 (bd2 (bd1 x))))) % 64 < 64 := Nat.mod_lt _ (by decide)
  rw [iN_and, show iN (am_i 63) = 2 ^ 6 - 1 by decide +kernel, Nat.and_two_pow_sub_one_eq_mod, iN_i (by omega)]
  exact e8
theorem sh_bit : ∀ j : Nat, j < 31 → iN ((am_i 1) <<< (am_i (j : Int) &&& 31)) = 2 ^ j := by decide +kernel
theorem stL_bit (P : Nat → Bool) : ∀ n, n ≤ 31 → ∀ c, (iN (stL P n)).testBit c = (decide (c < n) && P c) := by
  intro n
  induction n with
  | zero =>
    intro _ c
    have : iN (stL P 0) = 0 := by show iN (am_i 0) = 0; decide
    rw [this, Nat.zero_testBit]
    simp
  | succ n ih =>
    intro hn c
    have h1 := ih (by omega) c
    show (iN (if P n = true then stL P n ||| ((am_i 1) <<< (am_i (n : Int) &&& 31)) else stL P n)).testBit c = _
    by_cases hp : P n = true
    · rw [if_pos hp, iN_or, Nat.testBit_or, h1, sh_bit n (by omega), Nat.testBit_two_pow]
      by_cases c1 : c = n
      · rw [c1, hp]; simp
      · have e : (c < n) = (c < n + 1) := by apply propext; omega
        rw [decide_eq_false (show ¬ n = c from fun z => c1 z.symm), Bool.or_false]
        simp only [e]
    · rw [if_neg hp, h1]
      by_cases c1 : c = n
      · rw [c1, Bool.eq_false_iff.mpr hp]; simp
      · have e : (c < n) = (c < n + 1) := by apply propext; omega
        simp only [e]
theorem popi_stL (P : Nat → Bool) : popi (iN (stL P 24)) = cn P 24 := by
  unfold popi
  rw [show (32 : Nat) = 24 + 8 from rfl, su_cat]
  have h2 : su (fun j => b1 ((iN (stL P 24)).testBit (24 + j))) 8 = 0 := su_0 (fun c hc => by
    rw [stL_bit P 24 (by omega), decide_eq_false (show ¬ 24 + c < 24 by omega)]
    rfl)
  rw [h2, Nat.add_zero]
  refine su_congr 24 (fun c hc => ?_)
  rw [stL_bit P 24 (by omega), decide_eq_true hc]
  rfl
section SE
variable {m : am_m} {o : Nat} {up : Nat → Int} {d : Nat → Nat}
theorem s_X1_thereSet (h : TC m o up) (hT : Tr up d) : m_X1_thereSet m o = some (stL (fun k => thr up (k : Int)) 24) := by
  unfold m_X1_thereSet
  refine lo_go (fun n j (t : Int32) => m_X1_thereSet_4 o m (fun u4 => some u4) n t (am_i (j : Int))) (fun j => stL (fun k => thr up (k : Int)) j) 0 24 rfl (by omega) (am_Fv (by omega)) (fun n j _ hj => ?_) (fun n => rfl)
  show m_X1_thereSet_4 o m _ (n + 1) _ _ = m_X1_thereSet_4 o m _ n (if thr up (j : Int) = true then stL (fun k => thr up (k : Int)) j ||| ((am_i 1) <<< (am_i (j : Int) &&& 31)) else stL (fun k => thr up (k : Int)) j) _
  rw [m_X1_thereSet_4, s_X1_isThere h hT (by omega) (by omega)]
  cases c : thr up (j : Int)
  · rw [if_neg (show ¬ false = true by decide)]
    (simp (disch := first | assumption | omega) only [i_add, i_sub, i_mul, i_lt, i_le, i_eq, i_ibt, i_ixn, i_ix, i_zero, am_letF, cond_true, cond_false, Option.bind_some, ↓reduceIte, m_si, m_sc, true_and, and_true, not_true_eq_false, not_false_eq_true, i_gtF, i_leT, i_geF, i_ltT, Int32.zero_add, Int.toNat_natCast, ix_own, ix_sum, ix_ver, ix_th, ix_ab, ix_st, ix_vm, ix_lim, ix_lim1, ix_lim2, ix_lim3, Int.toNat_zero, i_neF, i_eqT, b1T, b1F] <;> rfl)
  · rw [if_pos (show true = true from rfl)]
    (simp (disch := first | assumption | omega) only [i_add, i_sub, i_mul, i_lt, i_le, i_eq, i_ibt, i_ixn, i_ix, i_zero, am_letF, cond_true, cond_false, Option.bind_some, ↓reduceIte, m_si, m_sc, true_and, and_true, not_true_eq_false, not_false_eq_true, i_gtF, i_leT, i_geF, i_ltT, Int32.zero_add, Int.toNat_natCast, ix_own, ix_sum, ix_ver, ix_th, ix_ab, ix_st, ix_vm, ix_lim, ix_lim1, ix_lim2, ix_lim3, Int.toNat_zero, i_neF, i_eqT, b1T, b1F] <;> rfl)
theorem sh_i1 : ∀ j : Nat, j < 31 → (am_i 0) <<< (am_i (j : Int) &&& 31) = am_i 0 := by decide +kernel
theorem s_X9_there (h : TM m up) : m_X9_there m = some (stL (fun k => thr up (k : Int)) 24) := by
  unfold m_X9_there
  refine lo_go (fun n j (t : Int32) => m_X9_there_4 m (fun u3 => some u3) n t (am_i (j : Int))) (fun j => stL (fun k => thr up (k : Int)) j) 0 24 rfl (by omega) (am_Fv (by omega)) (fun n j _ hj => ?_) (fun n => rfl)
  show m_X9_there_4 m _ (n + 1) _ _ = m_X9_there_4 m _ n (if thr up (j : Int) = true then stL (fun k => thr up (k : Int)) j ||| ((am_i 1) <<< (am_i (j : Int) &&& 31)) else stL (fun k => thr up (k : Int)) j) _
  have h1 := h.1 j hj
  by_cases c : up j = -2
  · rw [if_pos c] at h1
    rw [if_neg (show ¬ thr up (j : Int) = true by rw [thr_f c]; decide), m_X9_there_4]
    simp (disch := first | assumption | omega) only [i_add, i_sub, i_mul, i_lt, i_le, i_eq, i_ibt, i_ixn, i_ix, i_zero, am_letF, cond_true, cond_false, Option.bind_some, ↓reduceIte, m_si, m_sc, true_and, and_true, not_true_eq_false, not_false_eq_true, i_gtF, i_leT, i_geF, i_ltT, Int32.zero_add, Int.toNat_natCast, ix_own, ix_sum, ix_ver, ix_th, ix_ab, ix_st, ix_vm, ix_lim, ix_lim1, ix_lim2, ix_lim3, Int.toNat_zero, i_neF, i_eqT, b1T, b1F, h1]
    rw [sh_i1 j (by omega), or_0]
    rfl
  · rw [if_neg c] at h1
    rw [if_pos (thr_t hj c), m_X9_there_4]
    (simp (disch := first | assumption | omega) only [i_add, i_sub, i_mul, i_lt, i_le, i_eq, i_ibt, i_ixn, i_ix, i_zero, am_letF, cond_true, cond_false, Option.bind_some, ↓reduceIte, m_si, m_sc, true_and, and_true, not_true_eq_false, not_false_eq_true, i_gtF, i_leT, i_geF, i_ltT, Int32.zero_add, Int.toNat_natCast, ix_own, ix_sum, ix_ver, ix_th, ix_ab, ix_st, ix_vm, ix_lim, ix_lim1, ix_lim2, ix_lim3, Int.toNat_zero, i_neF, i_eqT, b1T, b1F, h1] <;> rfl)
/-- there and stale -/
def slP (up : Nat → Int) (st : Nat → Nat) (k : Nat) : Bool := thr up (k : Int) && decide (st k = 1)
theorem s_X1_staleSet {st : Nat → Nat} (h : TC m o up) (hT : Tr up d) (hS : ∀ u, u < 24 → m (aS o) u = am_i (st u)) (hS2 : ∀ u, st u ≤ 1) : m_X1_staleSet m o = some (stL (slP up st) 24) := by
  unfold m_X1_staleSet
  refine lo_go (fun n j (t : Int32) => m_X1_staleSet_4 o m (fun u4 => some u4) n t (am_i (j : Int))) (fun j => stL (slP up st) j) 0 24 rfl (by omega) (am_Fv (by omega)) (fun n j _ hj => ?_) (fun n => rfl)
  show m_X1_staleSet_4 o m _ (n + 1) _ _ = m_X1_staleSet_4 o m _ n (if slP up st j = true then stL (slP up st) j ||| ((am_i 1) <<< (am_i (j : Int) &&& 31)) else stL (slP up st) j) _
  have h1 := hS j hj
  have h2 := hS2 j
  rw [m_X1_staleSet_4, s_X1_isThere h hT (by omega) (by omega)]
  cases c : thr up (j : Int)
  · rw [if_neg (show ¬ slP up st j = true by unfold slP; rw [c]; simp)]
    (simp (disch := first | assumption | omega) only [i_add, i_sub, i_mul, i_lt, i_le, i_eq, i_ibt, i_ixn, i_ix, i_zero, am_letF, cond_true, cond_false, Option.bind_some, ↓reduceIte, m_si, m_sc, true_and, and_true, not_true_eq_false, not_false_eq_true, i_gtF, i_leT, i_geF, i_ltT, Int32.zero_add, Int.toNat_natCast, ix_own, ix_sum, ix_ver, ix_th, ix_ab, ix_st, ix_vm, ix_lim, ix_lim1, ix_lim2, ix_lim3, Int.toNat_zero, i_neF, i_eqT, b1T, b1F] <;> rfl)
  · by_cases c2 : st j = 1
    · rw [if_pos (show slP up st j = true by unfold slP; rw [c]; simp [c2])]
      (simp (disch := first | assumption | omega) only [i_add, i_sub, i_mul, i_lt, i_le, i_eq, i_ibt, i_ixn, i_ix, i_zero, am_letF, cond_true, cond_false, Option.bind_some, ↓reduceIte, m_si, m_sc, true_and, and_true, not_true_eq_false, not_false_eq_true, i_gtF, i_leT, i_geF, i_ltT, Int32.zero_add, Int.toNat_natCast, ix_own, ix_sum, ix_ver, ix_th, ix_ab, ix_st, ix_vm, ix_lim, ix_lim1, ix_lim2, ix_lim3, Int.toNat_zero, i_neF, i_eqT, b1T, b1F, h1] <;> rfl)
    · rw [if_neg (show ¬ slP up st j = true by unfold slP; rw [c]; simp [c2])]
      (simp (disch := first | assumption | omega) only [i_add, i_sub, i_mul, i_lt, i_le, i_eq, i_ibt, i_ixn, i_ix, i_zero, am_letF, cond_true, cond_false, Option.bind_some, ↓reduceIte, m_si, m_sc, true_and, and_true, not_true_eq_false, not_false_eq_true, i_gtF, i_leT, i_geF, i_ltT, Int32.zero_add, Int.toNat_natCast, ix_own, ix_sum, ix_ver, ix_th, ix_ab, ix_st, ix_vm, ix_lim, ix_lim1, ix_lim2, ix_lim3, Int.toNat_zero, i_neF, i_eqT, b1T, b1F, h1] <;> rfl)
theorem s_X9_staleOnes {st : Nat → Nat} (h : TM m up) (hS : ∀ u, u < 24 → m 3262 (48 + u) = am_i (st u)) (hS2 : ∀ u, st u ≤ 1) : m_X9_staleOnes m = some (stL (slP up st) 24) := by
  unfold m_X9_staleOnes
  refine lo_go (fun n j (t : Int32) => m_X9_staleOnes_4 m (fun u4 => some u4) n t (am_i (j : Int))) (fun j => stL (slP up st) j) 0 24 rfl (by omega) (am_Fv (by omega)) (fun n j _ hj => ?_) (fun n => rfl)
  show m_X9_staleOnes_4 m _ (n + 1) _ _ = m_X9_staleOnes_4 m _ n (if slP up st j = true then stL (slP up st) j ||| ((am_i 1) <<< (am_i (j : Int) &&& 31)) else stL (slP up st) j) _
  have h1 := hS j hj
  have h2 := hS2 j
  have h3 := h.1 j hj
  rw [m_X9_staleOnes_4]
  by_cases c : up j = -2
  · rw [if_pos c] at h3
    rw [if_neg (show ¬ slP up st j = true by unfold slP; rw [thr_f c]; simp)]
    simp (disch := first | assumption | omega) only [i_add, i_sub, i_mul, i_lt, i_le, i_eq, i_ibt, i_ixn, i_ix, i_zero, am_letF, cond_true, cond_false, Option.bind_some, ↓reduceIte, m_si, m_sc, true_and, and_true, not_true_eq_false, not_false_eq_true, i_gtF, i_leT, i_geF, i_ltT, Int32.zero_add, Int.toNat_natCast, ix_own, ix_sum, ix_ver, ix_th, ix_ab, ix_st, ix_vm, ix_lim, ix_lim1, ix_lim2, ix_lim3, Int.toNat_zero, i_neF, i_eqT, b1T, b1F, h3]
    rw [or_0]
    rfl
  · rw [if_neg c] at h3
    by_cases c2 : st j = 1
    · rw [if_pos (show slP up st j = true by unfold slP; rw [thr_t hj c]; simp [c2])]
      (simp (disch := first | assumption | omega) only [i_add, i_sub, i_mul, i_lt, i_le, i_eq, i_ibt, i_ixn, i_ix, i_zero, am_letF, cond_true, cond_false, Option.bind_some, ↓reduceIte, m_si, m_sc, true_and, and_true, not_true_eq_false, not_false_eq_true, i_gtF, i_leT, i_geF, i_ltT, Int32.zero_add, Int.toNat_natCast, ix_own, ix_sum, ix_ver, ix_th, ix_ab, ix_st, ix_vm, ix_lim, ix_lim1, ix_lim2, ix_lim3, Int.toNat_zero, i_neF, i_eqT, b1T, b1F, h3, h1] <;> rfl)
    · rw [if_neg (show ¬ slP up st j = true by unfold slP; rw [thr_t hj c]; simp [c2])]
      simp (disch := first | assumption | omega) only [i_add, i_sub, i_mul, i_lt, i_le, i_eq, i_ibt, i_ixn, i_ix, i_zero, am_letF, cond_true, cond_false, Option.bind_some, ↓reduceIte, m_si, m_sc, true_and, and_true, not_true_eq_false, not_false_eq_true, i_gtF, i_leT, i_geF, i_ltT, Int32.zero_add, Int.toNat_natCast, ix_own, ix_sum, ix_ver, ix_th, ix_ab, ix_st, ix_vm, ix_lim, ix_lim1, ix_lim2, ix_lim3, Int.toNat_zero, i_neF, i_eqT, b1T, b1F, h3, h1]
      rw [or_0]
      rfl
end SE
