/-! ===== mathematics, 15: bits counted, the answer ===== -/
def jn (x : Int64) : Nat := x.toBitVec.toNat
theorem jn_lt (x : Int64) : jn x < 18446744073709551616 := x.toBitVec.isLt
theorem jn_uS {x : Int64} {k : Int32} {s : Nat} (hk : (k.toInt64.toUInt64 &&& Int64.toUInt64 63).toBitVec % 64 = BitVec.ofNat 64 s) (hs : s < 64) : jn (uS x k) = jn x / 2 ^ s := by
  show (x.toUInt64 >>> (k.toInt64.toUInt64 &&& Int64.toUInt64 63)).toBitVec.toNat = _
  rw [UInt64.toBitVec_shiftRight, hk, BitVec.ushiftRight_eq', BitVec.toNat_ushiftRight, BitVec.toNat_ofNat, Nat.mod_eq_of_lt (by omega), Nat.shiftRight_eq_div_pow]
  rfl
theorem jn_and (x y : Int64) : jn (x &&& y) = jn x &&& jn y := by
  unfold jn
  rw [Int64.toBitVec_and, BitVec.toNat_and]
theorem jn_add {x y : Int64} (h : jn x + jn y < 18446744073709551616) : jn (x + y) = jn x + jn y := by
  unfold jn at h ⊢
  rw [Int64.toBitVec_add, BitVec.toNat_add]
  exact Nat.mod_eq_of_lt h
theorem jn_sub {x y : Int64} (h : jn y ≤ jn x) : jn (x - y) = jn x - jn y := by
  unfold jn at h ⊢
  rw [Int64.toBitVec_sub, BitVec.toNat_sub_of_le h]
theorem By_divs {f : Nat → Nat} (hf : ∀ i, f i < 256) (hz : ∀ i, 8 ≤ i → f i = 0) : ∀ j, By f 8 0 / 256 ^ j = By f 8 j := by
  intro j
  induction j with
  | zero => rw [Nat.pow_zero, Nat.div_one]
  | succ j ih =>
    rw [Nat.pow_succ, ← Nat.div_div_eq_div_mul, ih]
    have h1 : By f 8 j = f j + 256 * By f 7 (j + 1) := rfl
    have h2 : By f 8 (j + 1) = By f 7 (j + 1) := By_end (n := 7) (hz _ (by omega))
    have := hf j
    omega
theorem By_stage {f : Nat → Nat} {B : Nat} (j : Nat) (hf : ∀ i, f i ≤ B) (hB : B < 128) (hz : ∀ i, 8 ≤ i → f i = 0) : By f 8 0 + By f 8 0 / 256 ^ j = By (fun i => f i + f (i + j)) 8 0 := by
  rw [By_divs (fun i => by have := hf i; omega) hz, show By f 8 j = By f 8 (0 + j) by rw [Nat.zero_add], By_sh, By_add]
theorem jn_low (x : Int64) : x.toInt32 &&& am_i 127 = am_i ((jn x % 128 : Nat) : Int) := by
  apply Int32.toBitVec_inj.mp
  rw [Int32.toBitVec_and, Int64.toBitVec_toInt32]
  apply BitVec.eq_of_toNat_eq
  rw [BitVec.toNat_and, BitVec.signExtend_eq_setWidth_of_le _ (by decide), BitVec.toNat_setWidth]
  have h1 : (am_i 127).toBitVec.toNat = 2 ^ 7 - 1 := by decide
  rw [h1, Nat.and_two_pow_sub_one_eq_mod]
  have h2 : jn x % 128 < 128 := Nat.mod_lt _ (by decide)
  unfold am_i
  rw [Int32.toBitVec_ofInt, BitVec.toNat_ofInt]
  show jn x % 2 ^ 32 % 2 ^ 7 = _
  omega
theorem pop8_le (y : Nat) : pop8 y ≤ 8 := su_b (f := fun j => b1 (y.testBit j)) (B := 1) (fun _ => by unfold b1; split <;> omega) 8
theorem s_bitCount {m : am_m} {x : Int64} : m_J13_bitCount_95d88 m x = some (am_i (pop (jn x) : Nat)) := by
  rw [bc_def]
  have hx := jn_lt x
  have e0 : jn x = By (byt (jn x)) 8 0 := by
    rw [By_byt, Nat.pow_zero, Nat.div_one]
    exact (Nat.mod_eq_of_lt hx).symm
  generalize hb : byt (jn x) = b at e0
  have hb1 : ∀ i, b i < 256 := fun i => by rw [← hb]; exact byt_lt _ i
  have c1 : jn (6148914691236517205 : Int64) = Cn 0x55 8 := by decide +kernel
  have c2 : jn (3689348814741910323 : Int64) = Cn 0x33 8 := by decide +kernel
  have c3 : jn (1085102592571150095 : Int64) = Cn 0x0f 8 := by decide +kernel
  have e1 : jn (bc1 x) = By (fun i => t1 (b i)) 8 0 := by
    unfold bc1
    have u1 : jn (uS x (am_i 1)) = jn x / 2 := jn_uS (s := 1) (by decide +kernel) (by decide)
    rw [jn_sub (by rw [jn_and, u1]; exact Nat.le_trans Nat.and_le_left (Nat.div_le_self _ _)), jn_and, u1, c1, e0, st1 hb1]
  have hb2 : ∀ i, t1 (b i) < 256 := fun i => (dec8 _ (hb1 i)).2.2.2
  have hb3 : ∀ i, t2 (t1 (b i)) ≤ 68 ∧ t2 (t1 (b i)) % 16 ≤ 4 := fun i => ⟨(dec8 _ (hb1 i)).2.1, (dec8 _ (hb1 i)).2.2.1⟩
  have e2 : jn (bc2 (bc1 x)) = By (fun i => t2 (t1 (b i))) 8 0 := by
    unfold bc2
    have u1 : jn (uS (bc1 x) (am_i 2)) = jn (bc1 x) / 4 := jn_uS (s := 2) (by decide +kernel) (by decide)
    have h1 := st2 hb2 8 0
    have h2 := By_lt (b := fun i => t2 (t1 (b i))) (fun i => by have := (hb3 i).1; omega) 8 0
    have h3 : (jn (bc1 x &&& 3689348814741910323) + jn (uS (bc1 x) (am_i 2) &&& 3689348814741910323)) = By (fun i => t2 (t1 (b i))) 8 0 := by
      rw [jn_and, jn_and, u1, c2, e1]
      exact h1
    rw [jn_add (by rw [h3]; exact h2)]
    exact h3
  have e3 : jn (bc3 (bc2 (bc1 x))) = By (fun i => t3 (t2 (t1 (b i)))) 8 0 := by
    unfold bc3
    have u1 : jn (uS (bc2 (bc1 x)) (am_i 4)) = jn (bc2 (bc1 x)) / 16 := jn_uS (s := 4) (by decide +kernel) (by decide)
    have h2 : By (fun i => t2 (t1 (b i))) 8 0 < 128 * 256 ^ 7 := by
      have h3 : By (fun i => t2 (t1 (b i))) 8 0 ≤ By (fun _ => 68) 8 0 := by
        have : ∀ n k, By (fun i => t2 (t1 (b i))) n k ≤ By (fun _ => 68) n k := by
          intro n
          induction n with
          | zero => intro k; exact Nat.le_refl _
          | succ n ih =>
            intro k
            have h1 := (hb3 k).1
            have h2 := ih (k + 1)
            show t2 (t1 (b k)) + 256 * _ ≤ 68 + 256 * _
            omega
        exact this 8 0
      exact Nat.lt_of_le_of_lt h3 (by decide +kernel)
    rw [jn_and, jn_add (by rw [u1, e2]; omega), u1, c3, e2]
    exact st3 hb3 8 0
  have hs8 : ∀ i, t3 (t2 (t1 (b i))) = pop8 (b i) := fun i => (dec8 _ (hb1 i)).1
  generalize hs : (fun i => t3 (t2 (t1 (b i)))) = s0 at e3
  have g1 : ∀ i, s0 i = pop8 (byt (jn x) i) := fun i => by rw [← hs, hb]; exact hs8 i
  have g2 : ∀ i, s0 i ≤ 8 := fun i => by rw [g1]; exact pop8_le _
  have g3 : ∀ i, 8 ≤ i → s0 i = 0 := fun i hi => by
    rw [g1]
    have : byt (jn x) i = 0 := by
      unfold byt
      rw [Nat.div_eq_of_lt (Nat.lt_of_lt_of_le hx (show 256 ^ 8 ≤ 256 ^ i from Nat.pow_le_pow_right (by decide) hi))]
    rw [this]
    decide
  have e4 : jn (bc4 (bc3 (bc2 (bc1 x)))) = By (fun i => s0 i + s0 (i + 1)) 8 0 := by
    unfold bc4
    have u1 : jn (uS (bc3 (bc2 (bc1 x))) (am_i 8)) = jn (bc3 (bc2 (bc1 x))) / 256 := jn_uS (s := 8) (by decide +kernel) (by decide)
    have h := By_stage (f := s0) (B := 8) 1 g2 (by decide) g3
    have h2 := By_lt (b := fun i => s0 i + s0 (i + 1)) (fun i => by have := g2 i; have := g2 (i + 1); omega) 8 0
    rw [jn_add (by rw [u1, e3]; rw [Nat.pow_one] at h; rw [h]; exact h2), u1, e3]
    rw [Nat.pow_one] at h
    exact h
  generalize hs1 : (fun i => s0 i + s0 (i + 1)) = s1 at e4
  have k2 : ∀ i, s1 i ≤ 16 := fun i => by rw [← hs1]; show s0 i + s0 (i + 1) ≤ 16; have := g2 i; have := g2 (i + 1); omega
  have k3 : ∀ i, 8 ≤ i → s1 i = 0 := fun i hi => by rw [← hs1]; show s0 i + s0 (i + 1) = 0; rw [g3 i hi, g3 (i + 1) (by omega)]
  have e5 : jn (bc5 (bc4 (bc3 (bc2 (bc1 x))))) = By (fun i => s1 i + s1 (i + 2)) 8 0 := by
    unfold bc5
    have u1 : jn (uS (bc4 (bc3 (bc2 (bc1 x)))) (am_i 16)) = jn (bc4 (bc3 (bc2 (bc1 x)))) / 256 ^ 2 := jn_uS (s := 16) (by decide +kernel) (by decide)
    have h := By_stage (f := s1) (B := 16) 2 k2 (by decide) k3
    have h2 := By_lt (b := fun i => s1 i + s1 (i + 2)) (fun i => by have := k2 i; have := k2 (i + 2); omega) 8 0
    rw [jn_add (by rw [u1, e4, h]; exact h2), u1, e4]
    exact h
  generalize hs2 : (fun i => s1 i + s1 (i + 2)) = s2 at e5
  have l2 : ∀ i, s2 i ≤ 32 := fun i => by rw [← hs2]; show s1 i + s1 (i + 2) ≤ 32; have := k2 i; have := k2 (i + 2); omega
  have l3 : ∀ i, 8 ≤ i → s2 i = 0 := fun i hi => by rw [← hs2]; show s1 i + s1 (i + 2) = 0; rw [k3 i hi, k3 (i + 2) (by omega)]
  have e6 : jn (bc6 (bc5 (bc4 (bc3 (bc2 (bc1 x)))))) = By (fun i => s2 i + s2 (i + 4)) 8 0 := by
    unfold bc6
    have u1 : jn (uS (bc5 (bc4 (bc3 (bc2 (bc1 x))))) (am_i 32)) = jn (bc5 (bc4 (bc3 (bc2 (bc1 x))))) / 256 ^ 4 := jn_uS (s := 32) (by decide +kernel) (by decide)
    have h := By_stage (f := s2) (B := 32) 4 l2 (by decide) l3
    have h2 := By_lt (b := fun i => s2 i + s2 (i + 4)) (fun i => by have := l2 i; have := l2 (i + 4); omega) 8 0
    rw [jn_add (by rw [u1, e5, h]; exact h2), u1, e5]
    exact h
  have e7 : s2 0 + s2 4 = pop (jn x) := by
    have h := pop_byt (jn x) 8
    rw [su8] at h
    have hp : su (fun c => b1 ((jn x).testBit c)) (8 * 8) = pop (jn x) := rfl
    rw [hp] at h
    rw [← h, ← hs2, ← hs1]
    show ((s0 0 + s0 1) + (s0 2 + s0 3)) + ((s0 4 + s0 5) + (s0 6 + s0 7)) = _
    rw [g1 0, g1 1, g1 2, g1 3, g1 4, g1 5, g1 6, g1 7]
    omega
  have e8 : jn (bc6 (bc5 (bc4 (bc3 (bc2 (bc1 x)))))) % 128 = pop (jn x) := by
    have h1 : By (fun i => s2 i + s2 (i + 4)) 8 0 = (s2 0 + s2 4) + 256 * By (fun i => s2 i + s2 (i + 4)) 7 1 := rfl
    have := l2 0
    have := l2 4
    rw [e6, h1, ← e7]
    omega
  rw [jn_low, e8]
