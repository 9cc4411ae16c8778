/-! ===== mathematics: rolling up, the reference's unit rolled up ===== -/
/-- the row at off of the reference, written as far as j -/
def wr (m : am_m) (off j : Nat) (f : Nat → Nat) : am_m := fun b i => if b = 3262 ∧ off ≤ i ∧ i < off + j then am_i (f (i - off) : Nat) else m b i
/-- the versions moved by one, the last first, j cells of them -/
def shV (m : am_m) (v j : Nat) : am_m := fun b i => if b = 3262 ∧ v + 512 - j ≤ i ∧ i < v + 512 then m 3262 (i - 64) else m b i
theorem ver_at {m : am_m} (u : Nat) : m_X9_versionAt m (am_i (u : Int)) (am_i 0) = some (am_i ((3168 + 64 * (8 * u) : Nat) : Int)) := by
  unfold m_X9_versionAt
  rw [i_mul, i_add, i_mul, i_add]
  refine congrArg (fun z => some (am_i z)) ?_
  omega
section RV
variable {m : am_m} {g : Og} {u : Nat} {f : Nat → Nat}
theorem wr_0 {off : Nat} : wr m off 0 f = m := by
  funext b i
  exact if_neg (fun e => by omega)
theorem wr_s {off j : Nat} : am_si (wr m off j f) 3262 (off + j) (am_i (f j : Nat)) = wr m off (j + 1) f := by
  funext b i
  rw [m_si]
  unfold wr
  by_cases e : b = 3262 ∧ i = off + j
  · rw [if_pos e, if_pos ⟨e.1, by omega, by omega⟩, show i - off = j by omega]
  · rw [if_neg e]
    by_cases e2 : b = 3262 ∧ off ≤ i ∧ i < off + j
    · rw [if_pos e2, if_pos ⟨e2.1, e2.2.1, by omega⟩]
    · rw [if_neg e2, if_neg (fun e3 => e2 ⟨e3.1, e3.2.1, by have : i ≠ off + j := fun y => e ⟨e3.1, y⟩; omega⟩)]
theorem wr_ne {off j b : Nat} (h : b ≠ 3262) : wr m off j f b = m b := by
  funext i
  exact if_neg (fun e => h e.1)
theorem wr_o {off j i : Nat} (h : i < off ∨ off + j ≤ i) : wr m off j f 3262 i = m 3262 i := if_neg (fun e => by omega)
theorem wr_at {off j i : Nat} (h : i < j) : wr m off j f 3262 (off + i) = am_i (f i : Nat) := by
  show (if 3262 = 3262 ∧ off ≤ off + i ∧ off + i < off + j then am_i (f (off + i - off) : Nat) else _) = _
  rw [if_pos ⟨rfl, by omega, by omega⟩, show off + i - off = i by omega]
theorem shV_ne {v j b : Nat} (h : b ≠ 3262) : shV m v j b = m b := by
  funext i
  exact if_neg (fun e => h e.1)
theorem shV_o {v j i : Nat} (h : i < v + 512 - j ∨ v + 512 ≤ i) : shV m v j 3262 i = m 3262 i := if_neg (fun e => by omega)
theorem l_X9_hasVersion_4 {x1 : Int32} {k : am_m → Option am_m} (hu : u < 24) : m_X9_hasVersion_4 x1 (am_i u) k am_F (am_i 511) m = k (shV m (3168 + 64 * (8 * u)) 448) := by
  rw [show am_i 511 = am_i ((511 : Int) - ((0 : Nat) : Int)) by rw [Int.natCast_zero, Int.sub_zero]]
  refine lo_go (fun n j (t : am_m) => m_X9_hasVersion_4 x1 (am_i u) k n (am_i ((511 : Int) - (j : Int))) t) (fun j => shV m (3168 + 64 * (8 * u)) j) 0 448 (n := am_F) (s0 := m) (by funext b i; exact (if_neg (fun e => by omega)).symm) (by omega) (am_Fv (by omega)) (fun n j _ hj => ?_) (fun n => ?_)
  · show m_X9_hasVersion_4 _ _ _ (n + 1) _ _ = _
    rw [m_X9_hasVersion_4, ver_at, Option.bind_some, Option.bind_some, i_add, i_sub, if_neg (by rw [i_lt (by omega) (by omega) (by omega) (by omega)]; omega), i_ibt (by omega) (by omega) (by omega), cond_true, i_ibt (by omega) (by omega) (by omega), cond_true, am_letF, i_ix (by omega) (by omega), i_ix (by omega) (by omega), i_add, show (511 : Int) - (j : Int) + -1 = (511 : Int) - ((j + 1 : Nat) : Int) by omega]
    congr 1
    rw [show (((3168 + 64 * (8 * u) : Nat) : Int) + (511 - (j : Int))).toNat = 3168 + 64 * (8 * u) + 511 - j by omega, show (((3168 + 64 * (8 * u) : Nat) : Int) + (511 - (j : Int)) - 64).toNat = 3168 + 64 * (8 * u) + 511 - j - 64 by omega, shV_o (by omega)]
    generalize 3168 + 64 * (8 * u) = v
    funext b i
    rw [m_si]
    unfold shV
    by_cases e : b = 3262 ∧ i = v + 511 - j
    · rw [if_pos e, if_pos ⟨e.1, by omega, by omega⟩, e.2]
    · rw [if_neg e]
      by_cases e2 : b = 3262 ∧ v + 512 - j ≤ i ∧ i < v + 512
      · rw [if_pos e2, if_pos ⟨e2.1, by omega, by omega⟩]
      · rw [if_neg e2, if_neg (fun e3 => e2 ⟨e3.1, by have : i ≠ v + 511 - j := fun y => e ⟨e3.1, y⟩; omega, by omega⟩)]
  · show m_X9_hasVersion_4 _ _ _ (n + 1) _ _ = _
    rw [m_X9_hasVersion_4, if_pos (by rw [i_lt (by omega) (by omega) (by omega) (by omega)]; omega)]
theorem l_X9_hasVersion_45 {x1 : Int32} {k : am_m → Option am_m} (hu : u < 24) (hf : ∀ c, c < 64 → m 3262 (1608 + 64 * u + c) = am_i (f c : Nat)) : m_X9_hasVersion_45 x1 (am_i u) k am_F (am_i 0) m = k (wr m (3168 + 64 * (8 * u)) 64 f) := by
  refine lo_go (fun n j (t : am_m) => m_X9_hasVersion_45 x1 (am_i u) k n (am_i (j : Int)) t) (fun j => wr m (3168 + 64 * (8 * u)) j f) 0 64 (n := am_F) (s0 := m) wr_0.symm (by omega) (am_Fv (by omega)) (fun n j _ hj => ?_) (fun n => rfl)
  show m_X9_hasVersion_45 _ _ _ (n + 1) _ _ = _
  rw [m_X9_hasVersion_45, ver_at, sum_at, Option.bind_some, Option.bind_some, nj, i_add, i_add, if_neg (by rw [i_le (by omega) (by omega) (by omega) (by omega)]; omega), i_ibt (by omega) (by omega) (by omega), cond_true, i_ibt (by omega) (by omega) (by omega), cond_true, am_letF, i_ix (by omega) (by omega), i_ix (by omega) (by omega), show (((1608 + 64 * u : Nat) : Int) + (j : Int)).toNat = 1608 + 64 * u + j by omega, show (((3168 + 64 * (8 * u) : Nat) : Int) + (j : Int)).toNat = 3168 + 64 * (8 * u) + j by omega, wr_o (by omega), hf j hj, wr_s]
theorem l_X9_rolls_165 {self : am_m → Int32 → Option (Int32 × am_m)} {x1 y2 : Int32} {k : am_m → Option (Int32 × am_m)} (hu : u < 24) (hf : Row m 3266 f) : m_X9_rolls_165 self x1 (am_i u) y2 k am_F (am_i 0) m = k (wr m (1608 + 64 * u) 64 f) := by
  refine lo_go (fun n j (t : am_m) => m_X9_rolls_165 self x1 (am_i u) y2 k n (am_i (j : Int)) t) (fun j => wr m (1608 + 64 * u) j f) 0 64 (n := am_F) (s0 := m) wr_0.symm (by omega) (am_Fv (by omega)) (fun n j _ hj => ?_) (fun n => rfl)
  show m_X9_rolls_165 _ _ _ _ _ (n + 1) _ _ = _
  rw [m_X9_rolls_165, sum_at, Option.bind_some, nj, i_add, if_neg (by rw [i_le (by omega) (by omega) (by omega) (by omega)]; omega), i_ibt (by omega) (by omega) (by omega), cond_true, i_ibt (by omega) (by omega) (by omega), cond_true, am_letF, i_ixn (by omega), i_ix (by omega) (by omega), show (((1608 + 64 * u : Nat) : Int) + (j : Int)).toNat = 1608 + 64 * u + j by omega, wr_ne (by decide), hf.1 j hj, wr_s]
theorem add8 : ∀ n : Nat, n < 8 → am_i n + am_i 1 = am_i (min (n + 1) 8 : Nat) := by decide +kernel
theorem s_X9_hasVersion (hI : IG g) (hu : u < 24) (hc : m 3262 (3144 + u) = am_i (gC g u)) (hf : ∀ c, c < 64 → m 3262 (1608 + 64 * u + c) = am_i (f c : Nat)) : ∃ m', m_X9_hasVersion m (am_i u) = some m' ∧ Fr (fun b => b = 3262) m m' ∧ m' 3262 (3144 + u) = am_i (min (gC g u + 1) 8 : Nat) ∧ (∀ c, c < 64 → m' 3262 (3168 + 64 * (8 * u) + c) = am_i (f c : Nat)) ∧ (∀ i, 64 ≤ i → i < 512 → m' 3262 (3168 + 64 * (8 * u) + i) = m 3262 (3168 + 64 * (8 * u) + i - 64)) ∧ ∀ i, i ≠ 3144 + u → i < 3168 + 64 * (8 * u) ∨ 3168 + 64 * (8 * u) + 512 ≤ i → m' 3262 i = m 3262 i := by
  have hC := hI.2.2.2.2.1 u
  have e0 : ∀ i, i < 3168 + 64 * (8 * u) ∨ 3168 + 64 * (8 * u) + 512 ≤ i → wr (shV m (3168 + 64 * (8 * u)) 448) (3168 + 64 * (8 * u)) 64 f 3262 i = m 3262 i := fun i hi => by rw [wr_o (by omega), shV_o (by omega)]
  have e1 : ∀ c, c < 64 → wr (shV m (3168 + 64 * (8 * u)) 448) (3168 + 64 * (8 * u)) 64 f 3262 (3168 + 64 * (8 * u) + c) = am_i (f c : Nat) := fun c hc => wr_at hc
  have e2 : ∀ i, 64 ≤ i → i < 512 → wr (shV m (3168 + 64 * (8 * u)) 448) (3168 + 64 * (8 * u)) 64 f 3262 (3168 + 64 * (8 * u) + i) = m 3262 (3168 + 64 * (8 * u) + i - 64) := fun i hi hi2 => by
    rw [wr_o (by omega)]
    exact if_pos ⟨rfl, by omega, by omega⟩
  have e3 : ∀ b, b ≠ 3262 → wr (shV m (3168 + 64 * (8 * u)) 448) (3168 + 64 * (8 * u)) 64 f b = m b := fun b hb => by rw [wr_ne hb, shV_ne hb]
  unfold m_X9_hasVersion
  rw [l_X9_hasVersion_4 hu, l_X9_hasVersion_45 (f := f) hu (fun c hc => by rw [shV_o (by omega)]; exact hf c hc)]
  generalize wr (shV m (3168 + 64 * (8 * u)) 448) (3168 + 64 * (8 * u)) 64 f = m1 at e0 e1 e2 e3 ⊢
  rw [i_add, i_ibt (by omega) (by omega) (by omega), cond_true, cond_true, cond_true, i_ix (by omega) (by omega), show ((3144 : Int) + (u : Int)).toNat = 3144 + u by omega, e0 _ (by omega), hc]
  by_cases c : 8 ≤ gC g u
  · rw [if_pos (by rw [i_le (by omega) (by omega) (by omega) (by omega)]; omega)]
    refine ⟨m1, rfl, e3, ?_, e1, e2, fun i _ hi => e0 i hi⟩
    rw [e0 _ (by omega), hc, show gC g u = 8 by omega]
    rfl
  · rw [if_neg (by rw [i_le (by omega) (by omega) (by omega) (by omega)]; omega), am_letF, add8 _ (by omega)]
    refine ⟨_, rfl, fun b hb => by rw [si_ne hb]; exact e3 b hb, si_at, fun c hc => ?_, fun i hi hi2 => ?_, fun i hi hi2 => ?_⟩
    · rw [si_o (by omega)]; exact e1 c hc
    · rw [si_o (by omega)]; exact e2 i hi hi2
    · rw [si_o hi]; exact e0 i hi2
theorem l_rl_end {self : am_m → Int32 → Option (Int32 × am_m)} {x1 y2 z : Int32} {K : Bk} {c n b : Nat} (h : OM m 3262 0 g) (hI : IG g) (hu : u < 24) (hf : Row m 3266 f) (hB : BM m 3262 (bkR K c n b)) : ∃ m', m_X9_rolls_165 self x1 (am_i u) y2 (fun m31 => bif am_ib (am_i 48 + am_i u) 15517 then am_let (am_si m31 3262 (am_ix (am_i 48 + am_i u)) (am_i 0)) (fun m33 => (m_X9_counts m33 (am_i 4) (am_i 1)).bind fun q34 => (m_X9_hasVersion q34 (am_i u)).bind fun q35 => some (z, q35)) else none) am_F (am_i 0) m = some (z, m') ∧ Fr (fun b => b = 3262) m m' ∧ OM m' 3262 0 (rlG g u f) ∧ BM m' 3262 (bkR K c n (b + 1)) := by
  have w0 : ∀ i, (i < 1608 + 64 * u ∨ 1608 + 64 * u + 64 ≤ i) → wr m (1608 + 64 * u) 64 f 3262 i = m 3262 i := fun i hi => wr_o hi
  have w1 : ∀ c, c < 64 → wr m (1608 + 64 * u) 64 f 3262 (1608 + 64 * u + c) = am_i (f c : Nat) := fun c hc => wr_at hc
  have w2 : ∀ b, b ≠ 3262 → wr m (1608 + 64 * u) 64 f b = m b := fun b hb => wr_ne hb
  rw [l_X9_rolls_165 hu hf, i_add, i_ibt (by omega) (by omega) (by omega), cond_true, am_letF, i_ix (by omega) (by omega), show ((48 : Int) + (u : Int)).toNat = 48 + u by omega]
  generalize wr m (1608 + 64 * u) 64 f = m1 at w0 w1 w2 ⊢
  have hB1 : BM (am_si m1 3262 (48 + u) (am_i 0)) 3262 (bkR K c n b) := hB.copy (fun i _ _ => by rw [si_o (by omega), w0 _ (by omega)])
  obtain ⟨m2, e2, f2, hB2⟩ := s_X9_counts (w := 4) (x := am_i ((1 : Nat) : Int)) hB1 (by decide)
  rw [bkR_4] at hB2
  have k2 : ∀ i, i < 15456 → i ≠ 48 + u → (i < 1608 + 64 * u ∨ 1608 + 64 * u + 64 ≤ i) → m2 3262 i = m 3262 i := fun i hi h1 h2 => by rw [f2.2 i hi, si_o h1, w0 i h2]
  have k3 : ∀ c, c < 64 → m2 3262 (1608 + 64 * u + c) = am_i (f c : Nat) := fun c hc => by rw [f2.2 _ (by omega), si_o (by omega)]; exact w1 c hc
  have k4 : m2 3262 (48 + u) = am_i 0 := by rw [f2.2 _ (by omega), si_at]
  have hcc := h.2.2.2.2.2.1 u hu
  rw [Nat.zero_add] at hcc
  obtain ⟨m3, e3, f3, g1, g2, g3, g4⟩ := s_X9_hasVersion (m := m2) hI hu (by rw [k2 _ (by omega) (by omega) (by omega)]; exact hcc) k3
  refine ⟨m3, ?_, fun b hb => by rw [f3 b hb, f2.1 b hb, si_ne hb, w2 b hb], ⟨fun k hk => ?_, fun k hk hk2 => ?_, fun k hk => ?_, fun k hk c hc => ?_, fun k hk c hc => ?_, fun k hk => ?_, fun k hk v hv hv2 c hc => ?_⟩, hB2.copy (fun i i1 i2 => g4 i (by omega) (by omega))⟩
  · rw [show m_X9_counts (am_si m1 3262 (48 + u) (am_i 0)) (am_i 4) (am_i 1) = some m2 from e2, Option.bind_some, e3, Option.bind_some]
  · have := h.1 k hk
    rw [Nat.zero_add] at this ⊢
    rw [g4 _ (by omega) (by omega), k2 _ (by omega) (by omega) (by omega)]
    exact this
  · have := h.2.1 k hk hk2
    rw [Nat.zero_add] at this ⊢
    rw [g4 _ (by omega) (by omega), k2 _ (by omega) (by omega) (by omega)]
    exact this
  · rw [Nat.zero_add, g4 _ (by omega) (by omega)]
    show _ = am_i ((if k = u then 0 else gS g k : Nat) : Int)
    by_cases e : k = u
    · rw [if_pos e, e]; exact k4
    · have := h.2.2.1 k hk
      rw [Nat.zero_add] at this
      rw [if_neg e, k2 _ (by omega) (by omega) (by omega)]
      exact this
  · have := h.2.2.2.1 k hk c hc
    rw [Nat.zero_add] at this ⊢
    rw [g4 _ (by omega) (by omega), k2 _ (by omega) (by omega) (by omega)]
    exact this
  · rw [Nat.zero_add, g4 _ (by omega) (by omega)]
    show _ = am_i (((if k = u then f else gM g k) c : Nat) : Int)
    by_cases e : k = u
    · rw [if_pos e, e]; exact k3 c hc
    · have := h.2.2.2.2.1 k hk c hc
      rw [Nat.zero_add] at this
      rw [if_neg e, k2 _ (by omega) (by omega) (by omega)]
      exact this
  · rw [Nat.zero_add]
    show _ = am_i ((if k = u then min (gC g u + 1) 8 else gC g k : Nat) : Int)
    by_cases e : k = u
    · rw [if_pos e, e]; exact g1
    · have := h.2.2.2.2.2.1 k hk
      rw [Nat.zero_add] at this
      rw [if_neg e, g4 _ (by omega) (by omega), k2 _ (by omega) (by omega) (by omega)]
      exact this
  · have hv1 : v < (if k = u then min (gC g u + 1) 8 else gC g k) := hv
    rw [Nat.zero_add]
    show _ = am_i (((if k = u then (if v = 0 then f else gV g u (v - 1)) else gV g k v) c : Nat) : Int)
    by_cases e : k = u
    · rw [if_pos e]
      rw [if_pos e] at hv1
      subst e
      by_cases e0 : v = 0
      · rw [if_pos e0, e0, Nat.add_zero]
        exact g2 c hc
      · have q := g3 (64 * v + c) (by omega) (by omega)
        have := h.2.2.2.2.2.2 k hu (v - 1) (by omega) (by omega) c hc
        rw [Nat.zero_add] at this
        rw [if_neg e0, show 3168 + 64 * (8 * k + v) + c = 3168 + 64 * (8 * k) + (64 * v + c) by omega, q, show 3168 + 64 * (8 * k) + (64 * v + c) - 64 = 3168 + 64 * (8 * k + (v - 1)) + c by omega, k2 _ (by omega) (by omega) (by omega)]
        exact this
    · rw [if_neg e]
      rw [if_neg e] at hv1
      have := h.2.2.2.2.2.2 k hk v hv1 hv2 c hc
      rw [Nat.zero_add] at this
      rw [g4 _ (by omega) (by omega), k2 _ (by omega) (by omega) (by omega)]
      exact this
end RV
