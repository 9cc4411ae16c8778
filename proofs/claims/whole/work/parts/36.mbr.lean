/-! ===== mathematics, 7: sums of branches ===== -/
/-- what of k goes into the sum of t's branch -/
def brP (up : Nat → Int) (d : Nat → Nat) (ow : Nat → Nat → Nat) (t c k : Nat) : Nat := if (thr up k && inB up d k t) = true then ow k c else 0
def br (up : Nat → Int) (d : Nat → Nat) (ow : Nat → Nat → Nat) (t c : Nat) : Nat := su (brP up d ow t c) 24
/-- the row at a filled as far as j -/
def fil (m : am_m) (a j : Nat) (f g : Nat → Nat) : am_m := fun b i => if b = a ∧ i < 64 then am_i (if i < j then f i else g i : Nat) else m b i
section MBR
variable {m : am_m} {o : Nat} {up : Nat → Int} {d : Nat → Nat} {ow : Nat → Nat → Nat}
theorem brP_le (hB : ∀ k c, ow k c ≤ 9999) (t c k : Nat) : brP up d ow t c k ≤ 9999 := by
  unfold brP
  have := hB k c
  split <;> omega
theorem br_le (hB : ∀ k c, ow k c ≤ 9999) (t c : Nat) : br up d ow t c ≤ 239976 := su_b (brP_le hB t c) 24
theorem fil_0 (a : Nat) (f g : Nat → Nat) (b i : Nat) : fil m a 0 f g b i = if b = a ∧ i < 64 then am_i (g i) else m b i := by
  unfold fil
  rw [if_neg (Nat.not_lt_zero i)]
theorem fil_64 (a : Nat) (f g g' : Nat → Nat) : fil m a 64 f g = fil m a 0 g' f := by
  funext b i
  unfold fil
  by_cases c : b = a ∧ i < 64
  · rw [if_pos c, if_pos c, if_pos c.2, if_neg (Nat.not_lt_zero i)]
  · rw [if_neg c, if_neg c]
theorem fil_ne {a j b : Nat} {f g : Nat → Nat} (h : b ≠ a) : fil m a j f g b = m b := by
  funext i
  exact if_neg (fun e => h e.1)
theorem fil_at {a j i : Nat} {f g : Nat → Nat} (h : i < 64) : fil m a j f g a i = am_i (if i < j then f i else g i : Nat) := if_pos ⟨rfl, h⟩
theorem fil_s {a j : Nat} {f g : Nat → Nat} (hj : j < 64) : am_si (fil m a j f g) a j (am_i (f j)) = fil m a (j + 1) f g := by
  funext b i
  rw [m_si]
  unfold fil
  by_cases e : b = a ∧ i = j
  · rw [if_pos e, if_pos ⟨e.1, by omega⟩, if_pos (by omega), e.2]
  · rw [if_neg e]
    by_cases e2 : b = a ∧ i < 64
    · rw [if_pos e2, if_pos e2]
      by_cases e3 : i < j
      · rw [if_pos e3, if_pos (by omega)]
      · rw [if_neg e3, if_neg (fun h => e ⟨e2.1, by omega⟩)]
    · rw [if_neg e2, if_neg e2]
theorem fil_Row {a : Nat} {f g : Nat → Nat} (h : ∀ c, f c ≤ 1000000) : Row (fil m a 64 f g) a f := ⟨fun c hc => by rw [fil_at hc, if_pos hc], h⟩
theorem fil_Fr {a j : Nat} {f g : Nat → Nat} : Fr (fun b => b = a) m (fil m a j f g) := fun b hb => fil_ne hb
theorem l_laysBranch_2 {x y : Int32} {a : Nat} {k : am_m → Option am_m} : m_X9_laysBranch_2 x a y k am_F (am_i 0) m = k (fun (b i : Nat) => if b = a ∧ i < 64 then am_i 0 else m b i) := by
  refine lo_go (fun n j s => m_X9_laysBranch_2 x a y k n (am_i (j : Int)) s) (fun j (b i : Nat) => if b = a ∧ i < j then am_i 0 else m b i) 0 64 (by funext b i; rw [if_neg (fun e => Nat.not_lt_zero _ e.2)]) (by omega) (am_Fv (by omega)) (fun n j _ hj => ?_) (fun n => rfl)
  show m_X9_laysBranch_2 x a y _ (n + 1) _ _ = _
  rw [m_X9_laysBranch_2]
  simp (disch := first | assumption | omega) only [i_add, i_sub, i_mul, i_lt, i_le, i_eq, i_ibt, i_ixn, i_ix, i_zero, am_letF, cond_true, cond_false, Option.bind_some, ↓reduceIte, m_si, m_sc, true_and, and_true, not_true_eq_false, not_false_eq_true, i_gtF, i_leT, i_geF, i_ltT, Int32.zero_add, Int.toNat_natCast, ix_own, ix_sum, ix_ver, ix_th, ix_ab, ix_st, ix_vm, ix_lim, ix_lim1, ix_lim2, ix_lim3, Int.toNat_zero, i_neF, i_eqT, b1T, b1F]
  congr 1
  funext b i
  rw [m_si]
  by_cases e : b = a ∧ i = j
  · rw [if_pos e, if_pos ⟨e.1, by omega⟩]
  · rw [if_neg e]
    by_cases e2 : b = a ∧ i < j
    · rw [if_pos e2, if_pos ⟨e2.1, by omega⟩]
    · rw [if_neg e2, if_neg (fun e3 => e2 ⟨e3.1, by have := fun h => e ⟨e3.1, h⟩; omega⟩)]
/-- one unit's own is added -/
theorem l_laysBranch_49 {x y : Int32} {a j : Nat} {f g : Nat → Nat} {k : am_m → Option am_m} (hW : RowW m (72 + 64 * j) f) (hj : j < 24) (ha : a ≠ 3262) : m_X9_laysBranch_49 x a y (am_i j) k am_F (am_i 0) (fil m a 0 (fun c => g c + f c) g) = k (fil m a 64 (fun c => g c + f c) g) := by
  refine lo_go (fun n l s => m_X9_laysBranch_49 x a y (am_i j) k n (am_i (l : Int)) s) (fun l => fil m a l (fun c => g c + f c) g) 0 64 rfl (by omega) (am_Fv (by omega)) (fun n l _ hl => ?_) (fun n => rfl)
  show m_X9_laysBranch_49 x a y _ _ (n + 1) _ _ = _
  have e1 : fil m a l (fun c => g c + f c) g 3262 (72 + 64 * j + l) = am_i (f l) := by rw [fil_ne (fun e => ha e.symm)]; exact hW.1 l hl
  have e2 : fil m a l (fun c => g c + f c) g a l = am_i (g l) := by rw [fil_at hl, if_neg (Nat.lt_irrefl l)]
  rw [m_X9_laysBranch_49]
  unfold m_X9_ownAt
  simp (disch := first | assumption | omega) only [i_add, i_sub, i_mul, i_lt, i_le, i_eq, i_ibt, i_ixn, i_ix, i_zero, am_letF, cond_true, cond_false, Option.bind_some, ↓reduceIte, m_si, m_sc, true_and, and_true, not_true_eq_false, not_false_eq_true, i_gtF, i_leT, i_geF, i_ltT, Int32.zero_add, Int.toNat_natCast, ix_own, ix_sum, ix_ver, ix_th, ix_ab, ix_st, ix_vm, ix_lim, ix_lim1, ix_lim2, ix_lim3, Int.toNat_zero, i_neF, i_eqT, b1T, b1F, e1, e2]
  rw [show (g l : Int) + (f l : Int) = ((g l + f l : Nat) : Int) by omega, fil_s (f := fun c => g c + f c) hl]
  rfl
theorem l_laysBranch_20 {t a : Nat} {k : am_m → Option am_m} (h : TM m up) (hT : Tr up d) (hW : ∀ k, k < 24 → RowW m (72 + 64 * k) (ow k)) (ht : t < 24) (ha : a ≠ 3262) (g0 : Nat → Nat) : m_X9_laysBranch_20 (am_i t) a (am_i t) k am_F (am_i 0) (fil m a 0 g0 (fun _ => 0)) = k (fil m a 0 g0 (br up d ow t)) := by
  refine lo_go (fun n j s => m_X9_laysBranch_20 (am_i t) a (am_i t) k n (am_i (j : Int)) s) (fun j => fil m a 0 g0 (fun c => su (brP up d ow t c) j)) 0 24 rfl (by omega) (am_Fv (by omega)) (fun n j _ hj => ?_) (fun n => rfl)
  show m_X9_laysBranch_20 (am_i t) a (am_i t) k (n + 1) _ _ = _
  have hK : TM (fil m a 0 g0 (fun c => su (brP up d ow t c) j)) up := h.kept (fun i hi => by rw [fil_ne (fun e => ha e.symm)])
  rw [m_X9_laysBranch_20, s_X9_isUnit hK (by omega) (by omega), if_neg (by rw [i_le (by omega) (by omega) (by omega) (by omega)]; omega)]
  by_cases c : up j = -2
  · rw [thr_f c, Option.bind_some, if_pos (by rw [b1F]; decide), i_add]
    have e : (fun c => su (brP up d ow t c) (j + 1)) = fun c => su (brP up d ow t c) j := by
      funext i
      rw [su_s]
      unfold brP
      rw [thr_f c]
      rfl
    rw [e]
    rfl
  · rw [thr_t hj c, Option.bind_some, if_neg (by rw [b1T]; decide), s_X9_isIn_ hK hT hj c (by omega) (by omega), Option.bind_some]
    cases e : inB up d j t
    · rw [if_neg (by rw [b1F]; decide), i_add]
      have e : (fun c => su (brP up d ow t c) (j + 1)) = fun c => su (brP up d ow t c) j := by
        funext i
        rw [su_s]
        unfold brP
        rw [thr_t hj c, e]
        rfl
      rw [e]
      rfl
    · rw [if_pos (by rw [b1T]; decide), i_add]
      have e1 : (fun c => su (brP up d ow t c) (j + 1)) = fun c => su (brP up d ow t c) j + ow j c := by
        funext i
        rw [su_s]
        unfold brP
        rw [thr_t hj c, e]
        rfl
      rw [e1]
      have hf : fil m a 0 g0 (fun c => su (brP up d ow t c) j) = fil m a 0 (fun c => su (brP up d ow t c) j + ow j c) (fun c => su (brP up d ow t c) j) := by
        funext b i
        rw [fil_0, fil_0]
      rw [hf, l_laysBranch_49 (hW j hj) hj ha, fil_64 (g' := g0)]
      rfl
theorem s_X9_laysBranch {t a : Nat} (h : TM m up) (hT : Tr up d) (hW : ∀ k, k < 24 → RowW m (72 + 64 * k) (ow k)) (hB : ∀ k c, ow k c ≤ 9999) (ht : t < 24) (ha : a ≠ 3262) : ∃ m', m_X9_laysBranch m (am_i t) a = some m' ∧ Fr (fun b => b = a) m m' ∧ Row m' a (br up d ow t) := by
  refine ⟨fil m a 0 (fun _ => 0) (br up d ow t), ?_, fil_Fr, ⟨fun c hc => ?_, fun c => ?_⟩⟩
  · unfold m_X9_laysBranch
    rw [l_laysBranch_2]
    have e : (fun (b i : Nat) => if b = a ∧ i < 64 then am_i 0 else m b i) = fil m a 0 (fun _ => 0) (fun _ => 0) := by
      funext b i
      rw [fil_0]
      rfl
    rw [e, l_laysBranch_20 h hT hW ht ha]
  · rw [fil_at hc, if_neg (Nat.not_lt_zero c)]
  · have := br_le (up := up) (d := d) hB t c
    omega
end MBR
