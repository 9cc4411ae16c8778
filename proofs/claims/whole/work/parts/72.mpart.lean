/-! ===== mathematics: parts of rows ===== -/
/-- the part of a row within a span, and the rest -/
def fIn (f : Nat → Nat) (l h : Nat) (c : Nat) : Nat := if l ≤ c ∧ c ≤ h then f c else 0
def fOut (f : Nat → Nat) (l h : Nat) (c : Nat) : Nat := if l ≤ c ∧ c ≤ h then 0 else f c
theorem jn_xor (x y : Int64) : jn (x ^^^ y) = jn x ^^^ jn y := by
  unfold jn
  rw [Int64.toBitVec_xor, BitVec.toNat_xor]
theorem sh_k : ∀ s : Nat, s < 64 → ((am_i (s : Int)).toInt64.toUInt64 &&& Int64.toUInt64 63).toBitVec % 64 = BitVec.ofNat 64 s := by decide +kernel
theorem sl_k : ∀ n : Nat, n < 64 → ((am_i (n : Int)).toInt64 &&& 63).toBitVec.smod 64 = BitVec.ofNat 64 n := by decide +kernel
theorem jn_sl (x : Int64) {n : Nat} (hn : n < 64) : jn (x <<< ((am_i (n : Int)).toInt64 &&& 63)) = jn x * 2 ^ n % 2 ^ 64 := by
  unfold jn
  rw [Int64.toBitVec_shiftLeft, sl_k n hn, BitVec.shiftLeft_eq', BitVec.toNat_shiftLeft, BitVec.toNat_ofNat, Nat.mod_eq_of_lt (show n < 2 ^ 64 by omega), Nat.shiftLeft_eq]
theorem jn_m1 : jn (-1 : Int64) = 2 ^ 64 - 1 := by decide
section PT
variable {m : am_m} {f g : Nat → Nat} {l h : Nat}
theorem bitsOf_bit (hl : l ≤ h) (hh : h < 64) : ∃ z, m_X6_bitsOf m (am_i l) (am_i h) = some z ∧ ∀ c, c < 64 → (jn z).testBit c = decide (l ≤ c ∧ c ≤ h) := by
  refine ⟨_, rfl, fun c hc => ?_⟩
  have e : am_i 63 - (am_i (h : Int) - am_i (l : Int)) = am_i ((63 - (h - l) : Nat) : Int) := by rw [i_sub, i_sub]; congr 1; omega
  rw [jn_sl _ (show l < 64 by omega), e]
  show ((jn (uS (-1 : Int64) (am_i ((63 - (h - l) : Nat) : Int)))) * 2 ^ l % 2 ^ 64).testBit c = _
  rw [jn_uS (sh_k (63 - (h - l)) (by omega)) (by omega), jn_m1, Nat.testBit_mod_two_pow, decide_eq_true hc, Bool.true_and, Nat.mul_comm, Nat.testBit_two_pow_mul, Nat.testBit_div_two_pow, Nat.testBit_two_pow_sub_one]
  by_cases c1 : l ≤ c
  · rw [decide_eq_true c1, Bool.true_and]
    congr 1
    apply propext
    omega
  · rw [decide_eq_false (show ¬ c ≥ l from c1), Bool.false_and, decide_eq_false (show ¬ (l ≤ c ∧ c ≤ h) from fun z => c1 z.1)]
theorem Bm_in {z : Int64} (hz : ∀ c, c < 64 → (jn z).testBit c = decide (l ≤ c ∧ c ≤ h)) : Bm 0 (fIn f l h) (mkL f 64 &&& z) := by
  intro c hc
  rw [jn_and, Nat.testBit_and, mkL_bit f 64 (by omega), hz c hc, decide_eq_true hc, Nat.pow_zero, Nat.mod_one, Nat.div_one, Bool.true_and]
  show (decide (0 < f c) && decide (l ≤ c ∧ c ≤ h)) = (decide (0 = 0) && decide (0 < fIn f l h c))
  unfold fIn
  by_cases q : l ≤ c ∧ c ≤ h
  · rw [if_pos q, decide_eq_true q, Bool.and_true]; rfl
  · rw [if_neg q, decide_eq_false q, Bool.and_false]; rfl
theorem Bm_out {z w : Int64} (hz : ∀ c, c < 64 → (jn z).testBit c = decide (l ≤ c ∧ c ≤ h)) (hw : w = mkL f 64 &&& z ∨ w = z) : Bm 0 (fOut f l h) (mkL f 64 &&& (w ^^^ (-1 : Int64))) := by
  intro c hc
  rw [jn_and, jn_xor, jn_m1, Nat.testBit_and, Nat.testBit_xor, Nat.testBit_two_pow_sub_one, mkL_bit f 64 (by omega), decide_eq_true hc, Nat.pow_zero, Nat.mod_one, Nat.div_one, Bool.true_and]
  show (decide (0 < f c) && ((jn w).testBit c ^^ true)) = (decide (0 = 0) && decide (0 < fOut f l h c))
  unfold fOut
  rcases hw with hw | hw <;> rw [hw]
  · rw [jn_and, Nat.testBit_and, mkL_bit f 64 (by omega), hz c hc, decide_eq_true hc, Bool.true_and]
    by_cases q : l ≤ c ∧ c ≤ h
    · rw [if_pos q, decide_eq_true q]
      cases decide (0 < f c) <;> rfl
    · rw [if_neg q, decide_eq_false q]
      cases decide (0 < f c) <;> rfl
  · rw [hz c hc]
    by_cases q : l ≤ c ∧ c ≤ h
    · rw [if_pos q, decide_eq_true q]
      cases decide (0 < f c) <;> rfl
    · rw [if_neg q, decide_eq_false q]
      cases decide (0 < f c) <;> rfl
/-- whether a part goes -/
def ftB (f g : Nat → Nat) (l n : Nat) : Bool := decide (¬ fi (fun j => decide (9999 < f (l + j) + g (l + j))) n < n)
theorem ftB_i {n : Nat} (h : ftB f g l n = true) : ∀ c, l ≤ c → c < l + n → f c + g c ≤ 9999 := by
  intro c h1 h2
  have q := of_decide_eq_true h
  have hle := fi_le (fun j => decide (9999 < f (l + j) + g (l + j))) n
  have := of_decide_eq_false (fi_no (fun j => decide (9999 < f (l + j) + g (l + j))) n (c - l) (by omega))
  rw [show l + (c - l) = c by omega] at this
  omega
theorem s_X5_fits {a b : Nat} (hf : Row m a f) (hg : Row m b g) (hl : l ≤ h) (hh : h < 64) : m_X5_fits m a (am_i l) (am_i h) b = some (am_i (b1 (ftB f g l (h + 1 - l)))) := by
  unfold m_X5_fits
  refine (lo_seek (fun n j (t : Int32) => m_X5_fits_3 a (am_i l) (am_i h) b m (am_i h) (some (am_i 1)) n t) (fun j => am_i ((l + j : Nat) : Int)) (h + 1 - l) (fun j => decide (9999 < f (l + j) + g (l + j))) (fun _ => some (am_i 0)) (some (am_i 1)) rfl (am_Fv (by omega)) ?_ ?_ ?_).trans ?_
  · intro n j hj hp
    have hp := of_decide_eq_false hp
    have e1 := hf.1 (l + j) (by omega)
    have e2 := hg.1 (l + j) (by omega)
    have b1' := hf.2 (l + j)
    have b2 := hg.2 (l + j)
    show m_X5_fits_3 a _ _ b m _ _ (n + 1) _ = _
    rw [m_X5_fits_3]
    (simp (disch := first | assumption | omega) only [i_add, i_sub, i_mul, i_lt, i_le, i_eq, i_ibt, i_ixn, i_ix, i_zero, am_letF, cond_true, cond_false, Option.bind_some, ↓reduceIte, m_si, m_sc, true_and, and_true, not_true_eq_false, not_false_eq_true, i_gtF, i_leT, i_geF, i_ltT, Int32.zero_add, Int.toNat_natCast, ix_own, ix_sum, ix_ver, ix_th, ix_ab, ix_st, ix_vm, ix_lim, ix_lim1, ix_lim2, ix_lim3, Int.toNat_zero, i_neF, i_eqT, b1T, b1F, e1, e2] <;> rfl)
  · intro n j hj hp
    have hp := of_decide_eq_true hp
    have e1 := hf.1 (l + j) (by omega)
    have e2 := hg.1 (l + j) (by omega)
    have b1' := hf.2 (l + j)
    have b2 := hg.2 (l + j)
    show m_X5_fits_3 a _ _ b m _ _ (n + 1) _ = _
    rw [m_X5_fits_3]
    (simp (disch := first | assumption | omega) only [i_add, i_sub, i_mul, i_lt, i_le, i_eq, i_ibt, i_ixn, i_ix, i_zero, am_letF, cond_true, cond_false, Option.bind_some, ↓reduceIte, m_si, m_sc, true_and, and_true, not_true_eq_false, not_false_eq_true, i_gtF, i_leT, i_geF, i_ltT, Int32.zero_add, Int.toNat_natCast, ix_own, ix_sum, ix_ver, ix_th, ix_ab, ix_st, ix_vm, ix_lim, ix_lim1, ix_lim2, ix_lim3, Int.toNat_zero, i_neF, i_eqT, b1T, b1F, e1, e2] <;> rfl)
  · intro n
    show m_X5_fits_3 a _ _ b m _ _ (n + 1) _ = _
    rw [m_X5_fits_3]
    simp (disch := first | assumption | omega) only [i_add, i_sub, i_mul, i_lt, i_le, i_eq, i_ibt, i_ixn, i_ix, i_zero, am_letF, cond_true, cond_false, Option.bind_some, ↓reduceIte, m_si, m_sc, true_and, and_true, not_true_eq_false, not_false_eq_true, i_gtF, i_leT, i_geF, i_ltT, Int32.zero_add, Int.toNat_natCast, ix_own, ix_sum, ix_ver, ix_th, ix_ab, ix_st, ix_vm, ix_lim, ix_lim1, ix_lim2, ix_lim3, Int.toNat_zero, i_neF, i_eqT, b1T, b1F]
  · unfold ftB
    by_cases c : fi (fun j => decide (9999 < f (l + j) + g (l + j))) (h + 1 - l) < h + 1 - l
    · rw [if_pos c, decide_eq_false (fun z => z c)]; rfl
    · rw [if_neg c, decide_eq_true c]; rfl
theorem s_X9_canTake {u v : Nat} (hu : u < 24) (hv : v < 24) (hf : RowW m (72 + 64 * u) f) (hg : RowW m (72 + 64 * v) g) (hl : l ≤ h) (hh : h < 64) : m_X9_canTake m (am_i u) (am_i v) (am_i l) (am_i h) = some (am_i (b1 (ftB f g l (h + 1 - l)))) := by
  unfold m_X9_canTake
  refine (lo_seek (fun n j (t : Int32) => m_X9_canTake_3 (am_i u) (am_i v) (am_i l) (am_i h) m (am_i u) (am_i v) (am_i h) (some (am_i 1)) n t) (fun j => am_i ((l + j : Nat) : Int)) (h + 1 - l) (fun j => decide (9999 < f (l + j) + g (l + j))) (fun _ => some (am_i 0)) (some (am_i 1)) rfl (am_Fv (by omega)) ?_ ?_ ?_).trans ?_
  · intro n j hj hp
    have hp := of_decide_eq_false hp
    have e1 := hf.1 (l + j) (by omega)
    have e2 := hg.1 (l + j) (by omega)
    have b1' := hf.2 (l + j)
    have b2 := hg.2 (l + j)
    show m_X9_canTake_3 _ _ _ _ m _ _ _ _ (n + 1) _ = _
    rw [m_X9_canTake_3]
    unfold m_X9_ownAt
    (simp (disch := first | assumption | omega) only [i_add, i_sub, i_mul, i_lt, i_le, i_eq, i_ibt, i_ixn, i_ix, i_zero, am_letF, cond_true, cond_false, Option.bind_some, ↓reduceIte, m_si, m_sc, true_and, and_true, not_true_eq_false, not_false_eq_true, i_gtF, i_leT, i_geF, i_ltT, Int32.zero_add, Int.toNat_natCast, ix_own, ix_sum, ix_ver, ix_th, ix_ab, ix_st, ix_vm, ix_lim, ix_lim1, ix_lim2, ix_lim3, Int.toNat_zero, i_neF, i_eqT, b1T, b1F, e1, e2] <;> rfl)
  · intro n j hj hp
    have hp := of_decide_eq_true hp
    have e1 := hf.1 (l + j) (by omega)
    have e2 := hg.1 (l + j) (by omega)
    have b1' := hf.2 (l + j)
    have b2 := hg.2 (l + j)
    show m_X9_canTake_3 _ _ _ _ m _ _ _ _ (n + 1) _ = _
    rw [m_X9_canTake_3]
    unfold m_X9_ownAt
    (simp (disch := first | assumption | omega) only [i_add, i_sub, i_mul, i_lt, i_le, i_eq, i_ibt, i_ixn, i_ix, i_zero, am_letF, cond_true, cond_false, Option.bind_some, ↓reduceIte, m_si, m_sc, true_and, and_true, not_true_eq_false, not_false_eq_true, i_gtF, i_leT, i_geF, i_ltT, Int32.zero_add, Int.toNat_natCast, ix_own, ix_sum, ix_ver, ix_th, ix_ab, ix_st, ix_vm, ix_lim, ix_lim1, ix_lim2, ix_lim3, Int.toNat_zero, i_neF, i_eqT, b1T, b1F, e1, e2] <;> rfl)
  · intro n
    show m_X9_canTake_3 _ _ _ _ m _ _ _ _ (n + 1) _ = _
    rw [m_X9_canTake_3]
    simp (disch := first | assumption | omega) only [i_add, i_sub, i_mul, i_lt, i_le, i_eq, i_ibt, i_ixn, i_ix, i_zero, am_letF, cond_true, cond_false, Option.bind_some, ↓reduceIte, m_si, m_sc, true_and, and_true, not_true_eq_false, not_false_eq_true, i_gtF, i_leT, i_geF, i_ltT, Int32.zero_add, Int.toNat_natCast, ix_own, ix_sum, ix_ver, ix_th, ix_ab, ix_st, ix_vm, ix_lim, ix_lim1, ix_lim2, ix_lim3, Int.toNat_zero, i_neF, i_eqT, b1T, b1F]
  · unfold ftB
    by_cases c : fi (fun j => decide (9999 < f (l + j) + g (l + j))) (h + 1 - l) < h + 1 - l
    · rw [if_pos c, decide_eq_false (fun z => z c)]; rfl
    · rw [if_neg c, decide_eq_true c]; rfl
/-- poured as far as j -/
def poM (m : am_m) (a b : Nat) (f g : Nat → Nat) (l j : Nat) : am_m := fun x i => if x = b ∧ l ≤ i ∧ i < l + j then am_i ((g i + f i : Nat) : Int) else if x = a ∧ l ≤ i ∧ i < l + j then am_i 0 else m x i
theorem poM_F {a b j : Nat} : Fr (fun x => x = a ∨ x = b) m (poM m a b f g l j) := fun x hx => by
  funext i
  show (if x = b ∧ _ then _ else if x = a ∧ _ then _ else m x i) = m x i
  rw [if_neg (fun e => hx (Or.inr e.1)), if_neg (fun e => hx (Or.inl e.1))]
theorem s_X5_pour {a b : Nat} (hab : a ≠ b) (hf : Row m a f) (hg : Row m b g) (hl : l ≤ h) (hh : h < 64) : m_X5_pour m a (am_i l) (am_i h) b = some (am_i ((su f (h + 1) : Nat) - (su f l : Nat) : Int), poM m a b f g l (h + 1 - l)) := by
  unfold m_X5_pour
  refine lo_go (fun n j (t : Int32 × am_m) => m_X5_pour_6 a (am_i l) (am_i h) b (am_i h) (fun u10 m11 => some (u10, m11)) n t.1 (am_i ((l + j : Nat) : Int)) t.2) (fun j => (am_i ((su f (l + j) : Nat) - (su f l : Nat) : Int), poM m a b f g l j)) 0 (h + 1 - l) (n := am_F) (s0 := (am_i 0, m)) ?_ (by omega) (am_Fv (by omega)) (fun n j _ hj => ?_) (fun n => ?_)
  · rw [Nat.add_zero, Int.sub_self]
    congr 1
    funext x i
    show m x i = if x = b ∧ l ≤ i ∧ i < l + 0 then _ else if x = a ∧ l ≤ i ∧ i < l + 0 then _ else m x i
    rw [if_neg (by omega), if_neg (by omega)]
  · show m_X5_pour_6 a _ _ b _ _ (n + 1) (am_i _) _ (poM m a b f g l j) = m_X5_pour_6 a _ _ b _ _ n (am_i (((su f (l + j) + f (l + j) : Nat) : Int) - (su f l : Nat))) _ (poM m a b f g l (j + 1))
    have e1 : poM m a b f g l j b (l + j) = am_i (g (l + j) : Int) := by
      show (if b = b ∧ l ≤ l + j ∧ l + j < l + j then _ else if b = a ∧ l ≤ l + j ∧ l + j < l + j then _ else m b (l + j)) = _
      rw [if_neg (by omega), if_neg (by omega)]
      exact hg.1 _ (by omega)
    have e2 : poM m a b f g l j a (l + j) = am_i (f (l + j) : Int) := by
      show (if a = b ∧ l ≤ l + j ∧ l + j < l + j then _ else if a = a ∧ l ≤ l + j ∧ l + j < l + j then _ else m a (l + j)) = _
      rw [if_neg (by omega), if_neg (by omega)]
      exact hf.1 _ (by omega)
    have e3 : am_si (am_si (poM m a b f g l j) b (l + j) (am_i (g (l + j) : Int) + am_i (f (l + j) : Int))) a (l + j) (am_i 0) = poM m a b f g l (j + 1) := by
      funext x i
      rw [m_si, m_si]
      show (if x = a ∧ i = l + j then am_i 0 else if x = b ∧ i = l + j then am_i (g (l + j) : Int) + am_i (f (l + j) : Int) else if x = b ∧ l ≤ i ∧ i < l + j then am_i ((g i + f i : Nat) : Int) else if x = a ∧ l ≤ i ∧ i < l + j then am_i 0 else m x i) = if x = b ∧ l ≤ i ∧ i < l + (j + 1) then am_i ((g i + f i : Nat) : Int) else if x = a ∧ l ≤ i ∧ i < l + (j + 1) then am_i 0 else m x i
      by_cases c1 : x = a ∧ i = l + j
      · rw [if_pos c1, if_neg (fun z => hab (c1.1.symm.trans z.1)), if_pos ⟨c1.1, by omega, by omega⟩]
      · rw [if_neg c1]
        by_cases c2 : x = b ∧ i = l + j
        · rw [if_pos c2, if_pos ⟨c2.1, by omega, by omega⟩, c2.2, i_add]; rfl
        · rw [if_neg c2]
          by_cases c3 : x = b ∧ l ≤ i ∧ i < l + j
          · rw [if_pos c3, if_pos ⟨c3.1, c3.2.1, by omega⟩]
          · rw [if_neg c3, if_neg (show ¬ (x = b ∧ l ≤ i ∧ i < l + (j + 1)) from fun z => c3 ⟨z.1, z.2.1, by have : ¬ i = l + j := fun y => c2 ⟨z.1, y⟩; omega⟩)]
            by_cases c4 : x = a ∧ l ≤ i ∧ i < l + j
            · rw [if_pos c4, if_pos ⟨c4.1, c4.2.1, by omega⟩]
            · rw [if_neg c4, if_neg (show ¬ (x = a ∧ l ≤ i ∧ i < l + (j + 1)) from fun z => c4 ⟨z.1, z.2.1, by have : ¬ i = l + j := fun y => c1 ⟨z.1, y⟩; omega⟩)]
    have e4 : am_i (((su f (l + j) : Nat) : Int) - (su f l : Nat)) + am_i (f (l + j) : Int) = am_i (((su f (l + j) + f (l + j) : Nat) : Int) - (su f l : Nat)) := by rw [i_add]; refine congrArg am_i ?_; omega
    have e5 : am_i ((l + j : Nat) : Int) + am_i 1 = am_i ((l + (j + 1) : Nat) : Int) := by rw [i_add]; rfl
    rw [m_X5_pour_6, if_neg (by rw [i_lt (by omega) (by omega) (by omega) (by omega)]; omega), if_neg (by rw [i_le (by omega) (by omega) (by omega) (by omega)]; omega), i_ibt (by omega) (by omega) (by omega)]
    simp only [cond_true, am_letF]
    rw [i_ixn (by omega), e1, e2, e3, e4, e5]
  · show m_X5_pour_6 a _ _ b _ _ (n + 1) _ _ _ = _
    rw [m_X5_pour_6, if_pos (by rw [i_lt (by omega) (by omega) (by omega) (by omega)]; omega), show l + (h + 1 - l) = h + 1 by omega]
/-- laid apart as far as j -/
def prM (m : am_m) (f : Nat → Nat) (l h j : Nat) : am_m := fun b i => if b = 3266 ∧ i < j then am_i (fIn f l h i : Nat) else if b = 3267 ∧ i < j then am_i (fOut f l h i : Nat) else m b i
theorem prM_ne {j b : Nat} (h1 : b ≠ 3266) (h2 : b ≠ 3267) : prM m f l h j b = m b := by
  funext i
  show (if b = 3266 ∧ _ then _ else if b = 3267 ∧ _ then _ else m b i) = m b i
  rw [if_neg (fun e => h1 e.1), if_neg (fun e => h2 e.1)]
theorem fIn_le (hf : ∀ c, f c ≤ 1000000) (c : Nat) : fIn f l h c ≤ 1000000 := by
  unfold fIn
  split
  · exact hf c
  · omega
theorem fOut_le (hf : ∀ c, f c ≤ 1000000) (c : Nat) : fOut f l h c ≤ 1000000 := by
  unfold fOut
  split
  · omega
  · exact hf c
theorem s_X9_parted {off : Nat} (hf : RowW m off f) (ho : off + 64 ≤ 15517) (hl : l < 64) (hh : h < 64) : m_X9_parted m (am_i off) (am_i l) (am_i h) = some (am_i (com (fIn f l h) (fOut f l h) : Nat), prM m f l h 64) ∧ Row (prM m f l h 64) 3266 (fIn f l h) ∧ Row (prM m f l h 64) 3267 (fOut f l h) := by
  have r1 : Row (prM m f l h 64) 3266 (fIn f l h) := ⟨fun c hc => if_pos ⟨rfl, hc⟩, fIn_le hf.2⟩
  have r2 : Row (prM m f l h 64) 3267 (fOut f l h) := ⟨fun c hc => by
    show (if 3267 = 3266 ∧ c < 64 then _ else if 3267 = 3267 ∧ c < 64 then am_i (fOut f l h c : Nat) else m 3267 c) = _
    rw [if_neg (by omega), if_pos ⟨rfl, hc⟩], fOut_le hf.2⟩
  refine ⟨?_, r1, r2⟩
  unfold m_X9_parted
  refine (lo_go (fun n j (q : am_m) => m_X9_parted_3 (am_i off) (am_i l) (am_i h) (am_i off) (am_i l) (am_i h) (fun m21 => (m_X9_common m21 3266 3267).bind fun q22 => some (q22, m21)) n (am_i (j : Int)) q) (fun j => prM m f l h j) 0 64 (k := (m_X9_common (prM m f l h 64) 3266 3267).bind fun q22 => some (q22, prM m f l h 64)) (n := am_F) (s0 := m) ?_ (by omega) (am_Fv (by omega)) (fun n j _ hj => ?_) (fun n => rfl)).trans ?_
  · funext b i
    show m b i = if b = 3266 ∧ i < 0 then _ else if b = 3267 ∧ i < 0 then _ else m b i
    rw [if_neg (by omega), if_neg (by omega)]
  · have e1 : prM m f l h j 3262 (off + j) = am_i (f j : Int) := by rw [prM_ne (by decide) (by decide)]; exact hf.1 j hj
    have x1 : am_ix (am_i (off : Int) + am_i (j : Int)) = off + j := by rw [i_add, i_ix (by omega) (by omega)]; omega
    have y1 : am_ib (am_i (off : Int) + am_i (j : Int)) 15517 = true := by rw [i_add, i_ibt (by omega) (by omega) (by omega)]
    have step : ∀ v w : Int32, v = am_i (fIn f l h j : Nat) → w = am_i (fOut f l h j : Nat) → am_si (am_si (prM m f l h j) 3266 j v) 3267 j w = prM m f l h (j + 1) := by
      intro v w ev ew
      rw [ev, ew]
      funext b i
      rw [m_si, m_si]
      show (if b = 3267 ∧ i = j then am_i (fOut f l h j : Nat) else if b = 3266 ∧ i = j then am_i (fIn f l h j : Nat) else if b = 3266 ∧ i < j then am_i (fIn f l h i : Nat) else if b = 3267 ∧ i < j then am_i (fOut f l h i : Nat) else m b i) = if b = 3266 ∧ i < j + 1 then am_i (fIn f l h i : Nat) else if b = 3267 ∧ i < j + 1 then am_i (fOut f l h i : Nat) else m b i
      by_cases c1 : b = 3267 ∧ i = j
      · rw [if_pos c1, if_neg (by omega), if_pos ⟨c1.1, by omega⟩, c1.2]
      · rw [if_neg c1]
        by_cases c2 : b = 3266 ∧ i = j
        · rw [if_pos c2, if_pos ⟨c2.1, by omega⟩, c2.2]
        · rw [if_neg c2]
          by_cases c3 : b = 3266 ∧ i < j
          · rw [if_pos c3, if_pos ⟨c3.1, by omega⟩]
          · rw [if_neg c3, if_neg (show ¬ (b = 3266 ∧ i < j + 1) from fun z => c3 ⟨z.1, by have : ¬ i = j := fun y => c2 ⟨z.1, y⟩; omega⟩)]
            by_cases c4 : b = 3267 ∧ i < j
            · rw [if_pos c4, if_pos ⟨c4.1, by omega⟩]
            · rw [if_neg c4, if_neg (show ¬ (b = 3267 ∧ i < j + 1) from fun z => c4 ⟨z.1, by have : ¬ i = j := fun y => c1 ⟨z.1, y⟩; omega⟩)]
    have e5 : am_i (j : Int) + am_i 1 = am_i ((j + 1 : Nat) : Int) := by rw [i_add]; rfl
    show m_X9_parted_3 _ _ _ _ _ _ _ (n + 1) _ _ = _
    rw [m_X9_parted_3, if_neg (by rw [i_le (by omega) (by omega) (by omega) (by omega)]; omega), s_X9_isIn (by omega) (by omega) (by omega) (by omega) (by omega) (by omega), Option.bind_some, i_ibt (by omega) (by omega) (by omega), x1, y1, i_ixn (by omega), e5]
    by_cases c : (l : Int) ≤ (j : Int) ∧ (j : Int) ≤ (h : Int)
    · have ev : fIn f l h j = f j := if_pos (by omega)
      have ew : fOut f l h j = 0 := if_pos (by omega)
      rw [if_pos c, if_neg (show ¬ am_i 1 = 0 by decide), cond_true, cond_true, am_letF, if_neg (show ¬ am_i 1 = 0 by decide), cond_true, am_letF, e1, step _ _ (by rw [ev]) (by rw [ew]; rfl)]
    · have ev : fIn f l h j = 0 := if_neg (by omega)
      have ew : fOut f l h j = f j := if_neg (by omega)
      rw [if_neg c, if_pos (show am_i 0 = 0 by decide), cond_true, am_letF, if_pos (show am_i 0 = 0 by decide), cond_true, cond_true, am_letF, si_ne (show 3262 ≠ 3266 by decide), e1, step _ _ (by rw [ev]; rfl) (by rw [ew])]
  · rw [s_X9_common r1 r2]
    rfl
/-- the reference's rows: own of u to v, a part, as far as j -/
def tkM (m : am_m) (u v : Nat) (f g w : Nat → Nat) (j : Nat) : am_m := fun b i => if b = 3262 ∧ 72 + 64 * v ≤ i ∧ i < 72 + 64 * v + j then am_i ((g (i - (72 + 64 * v)) + w (i - (72 + 64 * v)) : Nat) : Int) else if b = 3262 ∧ 72 + 64 * u ≤ i ∧ i < 72 + 64 * u + j then am_i ((f (i - (72 + 64 * u)) - w (i - (72 + 64 * u)) : Nat) : Int) else m b i
theorem tkM_ne {u v j b : Nat} {w : Nat → Nat} (h1 : b ≠ 3262) : tkM m u v f g w j b = m b := by
  funext i
  show (if b = 3262 ∧ _ then _ else if b = 3262 ∧ _ then _ else m b i) = m b i
  rw [if_neg (fun e => h1 e.1), if_neg (fun e => h1 e.1)]
theorem l_X9_takes_78 {u v : Nat} {w : Nat → Nat} {x1 x2 x3 x4 y5 : Int32} {k : am_m → Option (Int32 × am_m)} (hu : u < 24) (hv : v < 24) (huv : u ≠ v) (hf : RowW m (72 + 64 * u) f) (hg : RowW m (72 + 64 * v) g) (hw : Row m 3266 w) (hwf : ∀ c, w c ≤ f c) : m_X9_takes_78 x1 x2 x3 x4 (am_i u) (am_i v) y5 k am_F (am_i 0) m = k (tkM m u v f g w 64) := by
  refine lo_go (fun n j (q : am_m) => m_X9_takes_78 x1 x2 x3 x4 (am_i u) (am_i v) y5 k n (am_i (j : Int)) q) (fun j => tkM m u v f g w j) 0 64 (n := am_F) (s0 := m) ?_ (by omega) (am_Fv (by omega)) (fun n j _ hj => ?_) (fun n => rfl)
  · funext b i
    show m b i = if b = 3262 ∧ 72 + 64 * v ≤ i ∧ i < 72 + 64 * v + 0 then _ else if b = 3262 ∧ 72 + 64 * u ≤ i ∧ i < 72 + 64 * u + 0 then _ else m b i
    rw [if_neg (by omega), if_neg (by omega)]
  · have p1 : am_ix (am_i 72 + am_i 64 * am_i (u : Int) + am_i (j : Int)) = 72 + 64 * u + j := by rw [i_mul, i_add, i_add, i_ix (by omega) (by omega)]; omega
    have p2 : am_ib (am_i 72 + am_i 64 * am_i (u : Int) + am_i (j : Int)) 15517 = true := by rw [i_mul, i_add, i_add, i_ibt (by omega) (by omega) (by omega)]
    have p3 : am_ix (am_i 72 + am_i 64 * am_i (v : Int) + am_i (j : Int)) = 72 + 64 * v + j := by rw [i_mul, i_add, i_add, i_ix (by omega) (by omega)]; omega
    have p4 : am_ib (am_i 72 + am_i 64 * am_i (v : Int) + am_i (j : Int)) 15517 = true := by rw [i_mul, i_add, i_add, i_ibt (by omega) (by omega) (by omega)]
    have e1 : tkM m u v f g w j 3262 (72 + 64 * v + j) = am_i (g j : Int) := by
      show (if 3262 = 3262 ∧ 72 + 64 * v ≤ 72 + 64 * v + j ∧ 72 + 64 * v + j < 72 + 64 * v + j then _ else if 3262 = 3262 ∧ 72 + 64 * u ≤ 72 + 64 * v + j ∧ 72 + 64 * v + j < 72 + 64 * u + j then _ else m 3262 (72 + 64 * v + j)) = _
      rw [if_neg (by omega), if_neg (by omega)]
      exact hg.1 j hj
    have e2 : tkM m u v f g w j 3262 (72 + 64 * u + j) = am_i (f j : Int) := by
      show (if 3262 = 3262 ∧ 72 + 64 * v ≤ 72 + 64 * u + j ∧ 72 + 64 * u + j < 72 + 64 * v + j then _ else if 3262 = 3262 ∧ 72 + 64 * u ≤ 72 + 64 * u + j ∧ 72 + 64 * u + j < 72 + 64 * u + j then _ else m 3262 (72 + 64 * u + j)) = _
      rw [if_neg (by omega), if_neg (by omega)]
      exact hf.1 j hj
    have e3 : tkM m u v f g w j 3266 j = am_i (w j : Int) := by rw [tkM_ne (by decide)]; exact hw.1 j hj
    have hwj := hwf j
    have e4 : am_si (am_si (tkM m u v f g w j) 3262 (72 + 64 * v + j) (am_i (g j : Int) + am_i (w j : Int))) 3262 (72 + 64 * u + j) (am_i (f j : Int) - am_i (w j : Int)) = tkM m u v f g w (j + 1) := by
      funext b i
      rw [m_si, m_si]
      show (if b = 3262 ∧ i = 72 + 64 * u + j then am_i (f j : Int) - am_i (w j : Int) else if b = 3262 ∧ i = 72 + 64 * v + j then am_i (g j : Int) + am_i (w j : Int) else if b = 3262 ∧ 72 + 64 * v ≤ i ∧ i < 72 + 64 * v + j then am_i ((g (i - (72 + 64 * v)) + w (i - (72 + 64 * v)) : Nat) : Int) else if b = 3262 ∧ 72 + 64 * u ≤ i ∧ i < 72 + 64 * u + j then am_i ((f (i - (72 + 64 * u)) - w (i - (72 + 64 * u)) : Nat) : Int) else m b i) = if b = 3262 ∧ 72 + 64 * v ≤ i ∧ i < 72 + 64 * v + (j + 1) then am_i ((g (i - (72 + 64 * v)) + w (i - (72 + 64 * v)) : Nat) : Int) else if b = 3262 ∧ 72 + 64 * u ≤ i ∧ i < 72 + 64 * u + (j + 1) then am_i ((f (i - (72 + 64 * u)) - w (i - (72 + 64 * u)) : Nat) : Int) else m b i
      by_cases c1 : b = 3262 ∧ i = 72 + 64 * u + j
      · rw [if_pos c1, if_neg (by omega), if_pos ⟨c1.1, by omega, by omega⟩, show i - (72 + 64 * u) = j by omega, i_sub, show (f j : Int) - (w j : Int) = ((f j - w j : Nat) : Int) by omega]
      · rw [if_neg c1]
        by_cases c2 : b = 3262 ∧ i = 72 + 64 * v + j
        · rw [if_pos c2, if_pos ⟨c2.1, by omega, by omega⟩, show i - (72 + 64 * v) = j by omega, i_add]
          rfl
        · rw [if_neg c2]
          by_cases c3 : b = 3262 ∧ 72 + 64 * v ≤ i ∧ i < 72 + 64 * v + j
          · rw [if_pos c3, if_pos ⟨c3.1, c3.2.1, by omega⟩]
          · rw [if_neg c3, if_neg (show ¬ (b = 3262 ∧ 72 + 64 * v ≤ i ∧ i < 72 + 64 * v + (j + 1)) from fun z => c3 ⟨z.1, z.2.1, by have : ¬ i = 72 + 64 * v + j := fun y => c2 ⟨z.1, y⟩; omega⟩)]
            by_cases c4 : b = 3262 ∧ 72 + 64 * u ≤ i ∧ i < 72 + 64 * u + j
            · rw [if_pos c4, if_pos ⟨c4.1, c4.2.1, by omega⟩]
            · rw [if_neg c4, if_neg (show ¬ (b = 3262 ∧ 72 + 64 * u ≤ i ∧ i < 72 + 64 * u + (j + 1)) from fun z => c4 ⟨z.1, z.2.1, by have : ¬ i = 72 + 64 * u + j := fun y => c1 ⟨z.1, y⟩; omega⟩)]
    have e5 : am_i (j : Int) + am_i 1 = am_i ((j + 1 : Nat) : Int) := by rw [i_add]; rfl
    show m_X9_takes_78 _ _ _ _ _ _ _ _ (n + 1) _ _ = _
    rw [m_X9_takes_78, if_neg (by rw [i_le (by omega) (by omega) (by omega) (by omega)]; omega)]
    unfold m_X9_ownAt
    simp only [Option.bind_some, p1, p2, p3, p4, cond_true, am_letF, i_ibt (show (0 : Int) ≤ (j : Int) by omega) (show (j : Int) < (64 : Nat) by omega) (by decide)]
    rw [i_ixn (by omega), e1, e3, si_o (show 72 + 64 * u + j ≠ 72 + 64 * v + j by omega), e2, si_ne (show 3266 ≠ 3262 by decide), e3, e4, e5]
/-- the reference's row of a part -/
theorem l_X9_takes_3 {u : Nat} {x1 x2 x3 x4 y2 : Int32} {k : am_m → Option (Int32 × am_m)} (hu : u < 24) (hf : RowW m (72 + 64 * u) f) (hl : l < 64) (hh : h < 64) : m_X9_takes_3 x1 x2 x3 x4 (am_i u) y2 (am_i l) (am_i h) k am_F (am_i 0) m = k (rwS m 3266 (fun c => am_i (fIn f l h c : Nat))) := by
  refine lo_go (fun n j (q : am_m) => m_X9_takes_3 x1 x2 x3 x4 (am_i u) y2 (am_i l) (am_i h) k n (am_i (j : Int)) q) (fun j => fun b i => if b = 3266 ∧ i < j then am_i (fIn f l h i : Nat) else m b i) 0 64 (n := am_F) (s0 := m) (by funext b i; exact (if_neg (fun e => Nat.not_lt_zero _ e.2)).symm) (by omega) (am_Fv (by omega)) (fun n j _ hj => ?_) (fun n => rfl)
  have p3 : am_ix (am_i 72 + am_i 64 * am_i (u : Int) + am_i (j : Int)) = 72 + 64 * u + j := by rw [i_mul, i_add, i_add, i_ix (by omega) (by omega)]; omega
  have p4 : am_ib (am_i 72 + am_i 64 * am_i (u : Int) + am_i (j : Int)) 15517 = true := by rw [i_mul, i_add, i_add, i_ibt (by omega) (by omega) (by omega)]
  have step : am_si (fun b i => if b = 3266 ∧ i < j then am_i (fIn f l h i : Nat) else m b i) 3266 j (am_i (fIn f l h j : Nat)) = fun b i => if b = 3266 ∧ i < j + 1 then am_i (fIn f l h i : Nat) else m b i := by
    funext b i
    rw [m_si]
    by_cases e : b = 3266 ∧ i = j
    · rw [if_pos e, if_pos ⟨e.1, by omega⟩, e.2]
    · rw [if_neg e]
      by_cases e2 : b = 3266 ∧ i < j
      · rw [if_pos e2, if_pos ⟨e2.1, by omega⟩]
      · rw [if_neg e2, if_neg (fun e3 => e2 ⟨e3.1, by have : i ≠ j := fun z => e ⟨e3.1, z⟩; omega⟩)]
  have e5 : am_i (j : Int) + am_i 1 = am_i ((j + 1 : Nat) : Int) := by rw [i_add]; rfl
  have ef : (if (3262 : Nat) = 3266 ∧ 72 + 64 * u + j < j then am_i (fIn f l h (72 + 64 * u + j) : Nat) else m 3262 (72 + 64 * u + j)) = am_i (f j : Int) := by
    rw [if_neg (by omega)]
    exact hf.1 j hj
  show m_X9_takes_3 _ _ _ _ _ _ _ _ _ (n + 1) _ _ = _
  rw [m_X9_takes_3, if_neg (by rw [i_le (by omega) (by omega) (by omega) (by omega)]; omega), s_X9_isIn (by omega) (by omega) (by omega) (by omega) (by omega) (by omega), Option.bind_some, i_ibt (by omega) (by omega) (by omega), i_ixn (by omega), e5]
  unfold m_X9_ownAt
  by_cases c : (l : Int) ≤ (j : Int) ∧ (j : Int) ≤ (h : Int)
  · have ev : fIn f l h j = f j := if_pos (by omega)
    rw [if_pos c, if_neg (show ¬ am_i 1 = 0 by decide), Option.bind_some, p4, cond_true, cond_true, am_letF, p3]
    rw [ef, ← ev, step]
  · have ev : fIn f l h j = 0 := if_neg (by omega)
    rw [if_neg c, if_pos (show am_i 0 = 0 by decide), cond_true, am_letF]
    have e0 : am_i 0 = am_i (fIn f l h j : Nat) := by rw [ev]; rfl
    rw [e0, step]
end PT
