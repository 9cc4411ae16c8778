/-! ===== mathematics, 14: bits counted ===== -/
def uS (x : Int64) (k : Int32) : Int64 := (x.toUInt64 >>> (k.toInt64.toUInt64 &&& Int64.toUInt64 63)).toInt64
def bc1 (x : Int64) : Int64 := x - (uS x (am_i 1) &&& (6148914691236517205 : Int64))
def bc2 (x : Int64) : Int64 := (x &&& (3689348814741910323 : Int64)) + (uS x (am_i 2) &&& (3689348814741910323 : Int64))
def bc3 (x : Int64) : Int64 := (x + uS x (am_i 4)) &&& (1085102592571150095 : Int64)
def bc4 (x : Int64) : Int64 := x + uS x (am_i 8)
def bc5 (x : Int64) : Int64 := x + uS x (am_i 16)
def bc6 (x : Int64) : Int64 := x + uS x (am_i 32)
theorem bc_def (m : am_m) (x : Int64) : m_J13_bitCount_95d88 m x = some ((bc6 (bc5 (bc4 (bc3 (bc2 (bc1 x)))))).toInt32 &&& am_i 127) := by
  unfold m_J13_bitCount_95d88 bc6 bc5 bc4 bc3 bc2 bc1 uS
  rfl
/-- a number by its bytes from the k-th, n of them -/
def By (b : Nat → Nat) : Nat → Nat → Nat
  | 0, _ => 0
  | n + 1, k => b k + 256 * By b n (k + 1)
/-- a byte, n times -/
def Cn (c : Nat) : Nat → Nat
  | 0 => 0
  | n + 1 => c + 256 * Cn c n
theorem and_split (a A c C : Nat) (ha : a < 256) (hc : c < 256) : (a + 256 * A) &&& (c + 256 * C) = (a &&& c) + 256 * (A &&& C) := by
  have h1 : ((a + 256 * A) &&& (c + 256 * C)) % 2 ^ 8 = a &&& c := by
    rw [Nat.and_mod_two_pow]
    rw [show (a + 256 * A) % 2 ^ 8 = a by omega, show (c + 256 * C) % 2 ^ 8 = c by omega]
  have h2 : ((a + 256 * A) &&& (c + 256 * C)) / 2 ^ 8 = A &&& C := by
    rw [Nat.and_div_two_pow]
    rw [show (a + 256 * A) / 2 ^ 8 = A by omega, show (c + 256 * C) / 2 ^ 8 = C by omega]
  omega
def t1 (y : Nat) : Nat := y - ((y / 2) &&& 0x55)
def t2 (y : Nat) : Nat := (y &&& 0x33) + ((y / 4) &&& 0x33)
def t3 (y : Nat) : Nat := (y + y / 16) &&& 0x0f
theorem dec55 : ∀ l, l < 256 → ∀ z, z < 2 → ((l / 2 + 128 * z) &&& 0x55) = ((l / 2) &&& 0x55) := by decide +kernel
theorem dec33 : ∀ l, l < 256 → ∀ z, z < 4 → ((l / 4 + 64 * z) &&& 0x33) = ((l / 4) &&& 0x33) := by decide +kernel
theorem dec0f : ∀ l, l < 256 → ∀ z, z < 5 → ((l + l / 16 + 16 * z) &&& 0x0f) = ((l + l / 16) &&& 0x0f) := by decide +kernel
theorem st1 {b : Nat → Nat} (hb : ∀ i, b i < 256) : ∀ n k, By b n k - ((By b n k / 2) &&& Cn 0x55 n) = By (fun i => t1 (b i)) n k := by
  intro n
  induction n with
  | zero => intro k; simp [By, Cn]
  | succ n ih =>
    intro k
    show (b k + 256 * By b n (k + 1)) - (((b k + 256 * By b n (k + 1)) / 2) &&& (0x55 + 256 * Cn 0x55 n)) = t1 (b k) + 256 * By (fun i => t1 (b i)) n (k + 1)
    have hl := hb k
    rw [← ih (k + 1)]
    generalize By b n (k + 1) = h
    rw [show (b k + 256 * h) / 2 = (b k / 2 + 128 * (h % 2)) + 256 * (h / 2) by omega, and_split _ _ _ _ (by omega) (by decide), dec55 _ hl _ (Nat.mod_lt _ (by decide))]
    unfold t1
    have h1 : (b k / 2) &&& 0x55 ≤ b k / 2 := Nat.and_le_left
    have h2 : (h / 2) &&& Cn 0x55 n ≤ h / 2 := Nat.and_le_left
    omega
theorem st2 {b : Nat → Nat} (hb : ∀ i, b i < 256) : ∀ n k, (By b n k &&& Cn 0x33 n) + ((By b n k / 4) &&& Cn 0x33 n) = By (fun i => t2 (b i)) n k := by
  intro n
  induction n with
  | zero => intro k; simp [By, Cn]
  | succ n ih =>
    intro k
    show ((b k + 256 * By b n (k + 1)) &&& (0x33 + 256 * Cn 0x33 n)) + (((b k + 256 * By b n (k + 1)) / 4) &&& (0x33 + 256 * Cn 0x33 n)) = t2 (b k) + 256 * By (fun i => t2 (b i)) n (k + 1)
    have hl := hb k
    rw [← ih (k + 1)]
    generalize By b n (k + 1) = h
    rw [show (b k + 256 * h) / 4 = (b k / 4 + 64 * (h % 4)) + 256 * (h / 4) by omega, and_split _ _ _ _ (by omega) (by decide), and_split _ _ _ _ (by omega) (by decide), dec33 _ hl _ (Nat.mod_lt _ (by decide))]
    unfold t2
    omega
theorem By16 {b : Nat → Nat} (hb : ∀ i, b i ≤ 68 ∧ b i % 16 ≤ 4) (n k : Nat) : By b n k % 16 ≤ 4 := by
  cases n with
  | zero => exact Nat.zero_le _
  | succ n =>
    have h1 : By b (n + 1) k = b k + 256 * By b n (k + 1) := rfl
    have := (hb k).2
    rw [h1]
    omega
theorem st3 {b : Nat → Nat} (hb : ∀ i, b i ≤ 68 ∧ b i % 16 ≤ 4) : ∀ n k, (By b n k + By b n k / 16) &&& Cn 0x0f n = By (fun i => t3 (b i)) n k := by
  intro n
  induction n with
  | zero => intro k; simp [By, Cn]
  | succ n ih =>
    intro k
    show ((b k + 256 * By b n (k + 1)) + (b k + 256 * By b n (k + 1)) / 16) &&& (0x0f + 256 * Cn 0x0f n) = t3 (b k) + 256 * By (fun i => t3 (b i)) n (k + 1)
    have hl := hb k
    rw [← ih (k + 1)]
    have h16 := By16 hb n (k + 1)
    generalize By b n (k + 1) = h at h16 ⊢
    rw [show (b k + 256 * h) + (b k + 256 * h) / 16 = (b k + b k / 16 + 16 * (h % 16)) + 256 * (h + h / 16) by omega, and_split _ _ _ _ (by omega) (by decide), dec0f _ (by omega) _ (by omega)]
    rfl
theorem By_add {f g : Nat → Nat} : ∀ n k, By f n k + By g n k = By (fun i => f i + g i) n k := by
  intro n
  induction n with
  | zero => intro k; rfl
  | succ n ih =>
    intro k
    show (f k + 256 * By f n (k + 1)) + (g k + 256 * By g n (k + 1)) = (f k + g k) + 256 * By (fun i => f i + g i) n (k + 1)
    rw [← ih (k + 1)]
    omega
theorem By_sh {f : Nat → Nat} (j : Nat) : ∀ n k, By f n (k + j) = By (fun i => f (i + j)) n k := by
  intro n
  induction n with
  | zero => intro k; rfl
  | succ n ih =>
    intro k
    show f (k + j) + 256 * By f n (k + j + 1) = f (k + j) + 256 * By (fun i => f (i + j)) n (k + 1)
    rw [← ih (k + 1), show k + 1 + j = k + j + 1 by omega]
theorem By_end {f : Nat → Nat} {n k : Nat} (h : f (k + n) = 0) : By f (n + 1) k = By f n k := by
  induction n generalizing k with
  | zero =>
    show f k + 256 * 0 = 0
    have : f k = 0 := h
    omega
  | succ n ih =>
    show f k + 256 * By f (n + 1) (k + 1) = f k + 256 * By f n (k + 1)
    rw [ih (by rw [show k + 1 + n = k + (n + 1) by omega]; exact h)]
theorem By_div {f : Nat → Nat} (hf : ∀ i, f i < 256) (hz : ∀ i, 8 ≤ i → f i = 0) : By f 8 0 / 256 = By f 8 1 := by
  have h1 : By f 8 0 = f 0 + 256 * By f 7 1 := rfl
  have h2 : By f 8 1 = By f 7 1 := By_end (n := 7) (hz 8 (by omega))
  have := hf 0
  omega
theorem By_lt {b : Nat → Nat} (hb : ∀ i, b i < 256) : ∀ n k, By b n k < 256 ^ n := by
  intro n
  induction n with
  | zero => intro k; exact Nat.one_pos
  | succ n ih =>
    intro k
    have h1 : By b (n + 1) k = b k + 256 * By b n (k + 1) := rfl
    have h2 := ih (k + 1)
    have h3 := hb k
    rw [h1, Nat.pow_succ]
    omega
/-- a number's bytes -/
def byt (x i : Nat) : Nat := x / 256 ^ i % 256
theorem byt_lt (x i : Nat) : byt x i < 256 := Nat.mod_lt _ (by decide)
theorem By_byt (x : Nat) : ∀ n k, By (byt x) n k = x / 256 ^ k % 256 ^ n := by
  intro n
  induction n with
  | zero => intro k; rw [Nat.pow_zero, Nat.mod_one]; rfl
  | succ n ih =>
    intro k
    have h1 : By (byt x) (n + 1) k = byt x k + 256 * By (byt x) n (k + 1) := rfl
    rw [h1, ih (k + 1)]
    unfold byt
    rw [Nat.pow_succ 256 k, ← Nat.div_div_eq_div_mul, Nat.pow_succ, Nat.mul_comm (256 ^ n) 256, Nat.mod_mul]
def pop8 (y : Nat) : Nat := su (fun j => b1 (y.testBit j)) 8
theorem dec8 : ∀ y, y < 256 → t3 (t2 (t1 y)) = pop8 y ∧ t2 (t1 y) ≤ 68 ∧ t2 (t1 y) % 16 ≤ 4 ∧ t1 y < 256 := by decide +kernel
/-- how many bits are set -/
def pop (x : Nat) : Nat := su (fun c => b1 (x.testBit c)) 64
theorem su_cat (f : Nat → Nat) (n : Nat) : ∀ k, su f (n + k) = su f n + su (fun j => f (n + j)) k := by
  intro k
  induction k with
  | zero => rfl
  | succ k ih =>
    rw [← Nat.add_assoc, su_s, ih, su_s, Nat.add_assoc]
theorem byt_bit (x i j : Nat) (hj : j < 8) : (byt x i).testBit j = x.testBit (8 * i + j) := by
  unfold byt
  rw [show 256 = 2 ^ 8 from rfl, ← Nat.pow_mul, Nat.testBit_mod_two_pow, Nat.testBit_div_two_pow, decide_eq_true hj, Bool.true_and, Nat.add_comm]
theorem pop_byt (x : Nat) : ∀ n, su (fun i => pop8 (byt x i)) n = su (fun c => b1 (x.testBit c)) (8 * n) := by
  intro n
  induction n with
  | zero => rfl
  | succ n ih =>
    rw [su_s, ih, Nat.mul_succ, su_cat]
    congr 1
    unfold pop8
    refine su_congr 8 (fun j hj => ?_)
    show b1 ((byt x n).testBit j) = b1 (x.testBit (8 * n + j))
    rw [byt_bit _ _ _ hj]
theorem su8 (s : Nat → Nat) : su s 8 = s 0 + s 1 + s 2 + s 3 + s 4 + s 5 + s 6 + s 7 := by
  show 0 + s 0 + s 1 + s 2 + s 3 + s 4 + s 5 + s 6 + s 7 = _
  omega
