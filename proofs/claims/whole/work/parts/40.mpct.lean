/-! ===== mathematics, 11: percents ===== -/
/-- a number's quotient and its rest -/
def pcQ (f : Nat → Nat) (q : Int32) (c : Nat) : Int32 := ((am_i 100) * am_i (f c : Int)) / q
def pcR (f : Nat → Nat) (q : Int32) (c : Nat) : Int32 := ((am_i 100) * am_i (f c : Int)) - ((am_i 100) * am_i (f c : Int)) / q * q
/-- what is lacking of a hundred -/
def pcL (f : Nat → Nat) (q : Int32) : Nat → Int32
  | 0 => am_i 100
  | n + 1 => pcL f q n - pcQ f q n
/-- how many are ahead -/
def pcA (f : Nat → Nat) (q r x : Int32) : Nat → Int32
  | 0 => am_i 0
  | n + 1 => if r < pcR f q n then pcA f q r x n + am_i 1 else if ¬ pcR f q n = r then pcA f q r x n else if x ≤ am_i (n : Int) then pcA f q r x n else pcA f q r x n + am_i 1
def pcT (f : Nat → Nat) (c : Nat) : Int32 := if su f 64 = 0 then am_i 0 else if pcL f (am_i (su f 64 : Nat)) 64 ≤ pcA f (am_i (su f 64 : Nat)) (pcR f (am_i (su f 64 : Nat)) c) (am_i c) 64 then pcQ f (am_i (su f 64 : Nat)) c + am_i 0 else pcQ f (am_i (su f 64 : Nat)) c + am_i 1
theorem i_a0 (x : Int32) : x + am_i 0 = x := by rw [show am_i 0 = 0 from by decide, Int32.add_zero]
section MP
variable {m : am_m} {a u : Nat} {f : Nat → Nat}
theorem l_X5_percentOf_30 {x y q r : Int32} {k : Int32 → Int32 → Option Int32} (h : Row m a f) (hq : am_nz q = true) : m_X5_percentOf_30 a x m y q r k am_F (am_i 100) (am_i 0) (am_i 0) = k (pcL f q 64) (pcA f q r y 64) := by
  refine lo_go (fun n j (s : Int32 × Int32) => m_X5_percentOf_30 a x m y q r k n s.1 s.2 (am_i (j : Int))) (fun j => (pcL f q j, pcA f q r y j)) 0 64 (s0 := (am_i 100, am_i 0)) rfl (by omega) (am_Fv (by omega)) (fun n j _ hj => ?_) (fun n => rfl)
  show m_X5_percentOf_30 a x m y q r k (n + 1) (pcL f q j) (pcA f q r y j) _ = m_X5_percentOf_30 a x m y q r k n (pcL f q j - pcQ f q j) (if r < pcR f q j then pcA f q r y j + am_i 1 else if ¬ pcR f q j = r then pcA f q r y j else if y ≤ am_i (j : Int) then pcA f q r y j else pcA f q r y j + am_i 1) (am_i ((j + 1 : Nat) : Int))
  rw [m_X5_percentOf_30, if_neg (by rw [i_le (by omega) (by omega) (by omega) (by omega)]; omega), i_ibt (by omega) (by omega) (by omega), cond_true, hq, cond_true, cond_true, cond_true, i_ixn (by omega), h.1 j hj, i_add]
  unfold pcR pcQ
  split
  · rfl
  · split
    · rfl
    · split <;> rfl
theorem s_X5_percentOf {c : Nat} (h : Row m a f) (hc : c < 64) : m_X5_percentOf m a (am_i c) = some (pcT f c) := by
  unfold m_X5_percentOf pcT
  have b := su_b h.2 64
  rw [s_X5_allOf h, Option.bind_some]
  by_cases e : su f 64 = 0
  · rw [if_pos e, if_neg (by rw [i_zero, i_lt (by omega) (by omega) (by omega) (by omega)]; omega)]
  · have hq : am_nz (am_i (su f 64 : Nat)) = true := by
      unfold am_nz
      rw [decide_eq_true_eq, i_zero, i_eq (by omega) (by omega) (by omega) (by omega)]
      omega
    rw [if_neg e, if_pos (by rw [i_zero, i_lt (by omega) (by omega) (by omega) (by omega)]; omega), i_ibt (by omega) (by omega) (by omega), cond_true, hq, cond_true, i_ixn (by omega), h.1 c hc, l_X5_percentOf_30 h hq, cond_true, cond_true]
    unfold pcR pcQ
    split <;> rfl
theorem l_X9_percent_36 {x1 x2 y2 q : Int32} {k : Int32 → Option (Int32 × am_m)} (h : Row m 3266 f) (hq : am_nz q = true) : m_X9_percent_36 x1 x2 m y2 q k am_F (am_i 100) (am_i 0) = k (pcL f q 64) := by
  refine lo_go (fun n j s => m_X9_percent_36 x1 x2 m y2 q k n s (am_i (j : Int))) (fun j => pcL f q j) 0 64 rfl (by omega) (am_Fv (by omega)) (fun n j _ hj => ?_) (fun n => rfl)
  show m_X9_percent_36 x1 x2 m y2 q k (n + 1) _ _ = _
  rw [m_X9_percent_36, if_neg (by rw [i_le (by omega) (by omega) (by omega) (by omega)]; omega), i_ibt (by omega) (by omega) (by omega), cond_true, hq, cond_true, i_ixn (by omega), h.1 j hj, i_add]
  rfl
theorem l_X9_percent_85 {x1 x2 y2 q y4 r : Int32} {k : Int32 → Option (Int32 × am_m)} (h : Row m 3266 f) (hq : am_nz q = true) : m_X9_percent_85 x1 x2 m y2 q y4 r k am_F (am_i 0) (am_i 0) = k (pcA f q r y2 64) := by
  refine lo_go (fun n j s => m_X9_percent_85 x1 x2 m y2 q y4 r k n s (am_i (j : Int))) (fun j => pcA f q r y2 j) 0 64 rfl (by omega) (am_Fv (by omega)) (fun n j _ hj => ?_) (fun n => rfl)
  show m_X9_percent_85 x1 x2 m y2 q y4 r k (n + 1) (pcA f q r y2 j) _ = m_X9_percent_85 x1 x2 m y2 q y4 r k n (if r < pcR f q j then pcA f q r y2 j + am_i 1 else if ¬ pcR f q j = r then pcA f q r y2 j else if y2 ≤ am_i (j : Int) then pcA f q r y2 j else pcA f q r y2 j + am_i 1) (am_i ((j + 1 : Nat) : Int))
  rw [m_X9_percent_85, if_neg (by rw [i_le (by omega) (by omega) (by omega) (by omega)]; omega), i_ibt (by omega) (by omega) (by omega), cond_true, hq, cond_true, i_ixn (by omega), h.1 j hj, i_add, i_a0]
  unfold pcR
  split
  · rfl
  · split
    · rfl
    · split <;> rfl
theorem s_X9_percent {up : Nat → Int} {c : Nat} (ht : TM m up) (h : RowW m (1608 + 64 * u) f) (hu : u < 24) (hu2 : up u ≠ -2) (hc : c < 64) : ∃ m', m_X9_percent m (am_i u) (am_i c) = some (pcT f c, m') ∧ Fr (fun b => b = 3266) m m' := by
  obtain ⟨m', h1, h2, h3⟩ := s_X9_allOf h hu
  refine ⟨m', ?_, h2⟩
  unfold m_X9_percent pcT m_X9_isCategory
  have b := su_b h3.2 64
  rw [s_X9_isUnit ht (by omega) (by omega), thr_t hu hu2, Option.bind_some, if_neg (by rw [b1T]; decide), s_X9_isIn (by omega) (by omega) (by omega) (by omega) (by omega) (by omega), if_pos (by omega), Option.bind_some]
  rw [show am_b01 (am_i 1) = true by decide, cond_true, Option.bind_some, if_pos (by decide), h1, Option.bind_some]
  dsimp only
  by_cases e : su f 64 = 0
  · rw [if_pos e, if_neg (by rw [i_zero, i_eq (by omega) (by omega) (by omega) (by omega)]; omega)]
  · have hq : am_nz (am_i (su f 64 : Nat)) = true := by
      unfold am_nz
      rw [decide_eq_true_eq, i_zero, i_eq (by omega) (by omega) (by omega) (by omega)]
      omega
    rw [if_neg e, if_pos (by rw [i_zero, i_eq (by omega) (by omega) (by omega) (by omega)]; omega), l_X9_percent_36 h3 hq, i_ibt (by omega) (by omega) (by omega), cond_true, hq, cond_true, i_ixn (by omega), h3.1 c hc, l_X9_percent_85 h3 hq, cond_true, cond_true]
    unfold pcR pcQ
    split <;> rfl
end MP
