/-! ===== mathematics: states that change; drawn ===== -/
section UP
variable {m m' : am_m} {r r' : am_rr} {s : Sx} {G : Og} {B : Bk} {N : Nat} {H : Nat → Og}
theorem CS.upd (h : CS m r s) (hR : RI r) (hG : OC m' r' 4 G) (hB : BC m' 2970 B) (hP : PC m' r' N H) (e : ∀ b, (b = 3 ∨ (2976 ≤ b ∧ b < 2982) ∨ (2984 ≤ b ∧ b < 2988) ∨ (3014 ≤ b ∧ b < 3261)) → m' b = m b) (er : r' 3068 = r 3068) : CS m' r' (G, B, N, H, xF s, xI s, xJ s, xT s, xR s) :=
  ⟨hG, hB, hP, ⟨by show m' 3 11 = am_i (xF s); rw [e 3 (Or.inl rfl)]; exact h.2.2.2.1.1, fun hf => ⟨(h.2.2.2.1.2 hf).1.kept hR og3014 (fun b b1 b2 => e b (by omega)) er, (h.2.2.2.1.2 hf).2.kept (fun b b1 b2 => e b (by omega))⟩⟩, h.2.2.2.2.1.kept (fun b b1 b2 => e b (by omega)), h.2.2.2.2.2.kept (fun b b1 b2 => e b (by omega))⟩
theorem MS.upd (h : MS m s) (hG : OM m' 3262 0 G) (hB : BM m' 3262 B) (hP : PM m' N H) (e : ∀ b, (b = 3264 ∨ b = 3268 ∨ b = 3271) → m' b = m b) (e2 : ∀ j, j ≠ 4 → m' 3261 j = m 3261 j) : MS m' (G, B, N, H, xF s, xI s, xJ s, xT s, xR s) := by
  have a3 := e 3264 (by omega)
  have a5 := e 3268 (by omega)
  have a6 := e 3271 (by omega)
  refine ⟨hG, hB, hP, ⟨by show m' 3261 5 = am_i (xF s); rw [e2 5 (by decide)]; exact h.2.2.2.1.1, fun hf => ⟨(h.2.2.2.1.2 hf).1.kept (fun i _ => by rw [a3]), (h.2.2.2.1.2 hf).2.copy (fun i _ _ => by rw [a3])⟩⟩, ?_, ?_⟩
  · show TPM m' (xT s)
    unfold TPM
    rw [e2 9 (by decide), e2 11 (by decide), e2 12 (by decide), a5]
    exact h.2.2.2.2.1
  · show RPM m' (xR s)
    unfold RPM
    rw [e2 18 (by decide), a6]
    exact h.2.2.2.2.2
theorem i_modn {x l : Nat} (hx : x ≤ 2147483647) (hl : 0 < l) (hl2 : l ≤ 2147483647) : am_i (x : Int) - am_i (x : Int) / am_i (l : Int) * am_i (l : Int) = am_i ((x % l : Nat) : Int) := by
  rw [i_div (by omega) (by omega) (by omega) (by omega), i_mul, i_sub]
  refine congrArg am_i ?_
  have h1 := Nat.div_add_mod x l
  have h2 : ((x : Int) / (l : Int)) = ((x / l : Nat) : Int) := rfl
  rw [h2, ← Int.natCast_mul, Nat.mul_comm (x / l) l]
  omega
/-- the next state, and the rank that is drawn -/
def drD (D : Int32) : Int32 := am_i 1664525 * D + am_i 1013904223
def drK (D : Int32) (l : Nat) : Nat := iN D / 256 % l
theorem drK_e (D : Int32) {l : Nat} (hl : 0 < l) (hl2 : l ≤ 2147483647) : ((D.toUInt32 >>> ((am_i 8).toUInt32 &&& Int32.toUInt32 31)).toInt32) - ((D.toUInt32 >>> ((am_i 8).toUInt32 &&& Int32.toUInt32 31)).toInt32) / am_i (l : Int) * am_i (l : Int) = am_i (drK D l : Nat) := by
  have h1 : (D.toUInt32 >>> ((am_i 8).toUInt32 &&& Int32.toUInt32 31)).toInt32 = am_i ((iN D / 256 : Nat) : Int) := by
    apply iN_inj
    have h2 := iN_iS (x := D) (k := am_i 8) (s := 8) (by decide +kernel) (by decide)
    have h3 := iN_lt D
    rw [iN_i (by omega)]
    exact h2
  have h3 := iN_lt D
  rw [h1, i_modn (by omega) hl hl2]
  rfl
/-- what is drawn from, the state, the hits -/
def drS (c : Nat) (f0 : Nat → Nat) (D0 : Int32) : Nat → (Nat → Nat) × Int32 × Nat
  | 0 => (f0, D0, 0)
  | k + 1 => if su (drS c f0 D0 k).1 64 = 0 then drS c f0 D0 k else ((fun x => if x = cat (drS c f0 D0 k).1 (drK (drD (drS c f0 D0 k).2.1) (su (drS c f0 D0 k).1 64)) then (drS c f0 D0 k).1 x - 1 else (drS c f0 D0 k).1 x), drD (drS c f0 D0 k).2.1, (drS c f0 D0 k).2.2 + b1 (decide (cat (drS c f0 D0 k).1 (drK (drD (drS c f0 D0 k).2.1) (su (drS c f0 D0 k).1 64)) = c)))
theorem drS_s (c : Nat) (f0 : Nat → Nat) (D0 : Int32) (k : Nat) (h : ¬ su (drS c f0 D0 k).1 64 = 0) : drS c f0 D0 (k + 1) = ((fun x => if x = cat (drS c f0 D0 k).1 (drK (drD (drS c f0 D0 k).2.1) (su (drS c f0 D0 k).1 64)) then (drS c f0 D0 k).1 x - 1 else (drS c f0 D0 k).1 x), drD (drS c f0 D0 k).2.1, (drS c f0 D0 k).2.2 + b1 (decide (cat (drS c f0 D0 k).1 (drK (drD (drS c f0 D0 k).2.1) (su (drS c f0 D0 k).1 64)) = c))) := if_neg h
theorem drS_0 (c : Nat) (f0 : Nat → Nat) (D0 : Int32) : drS c f0 D0 0 = (f0, D0, 0) := rfl
theorem drS_end {c : Nat} {f0 : Nat → Nat} {D0 : Int32} {k : Nat} (h : su (drS c f0 D0 k).1 64 = 0) : ∀ d, drS c f0 D0 (k + d) = drS c f0 D0 k := by
  intro d
  induction d with
  | zero => rfl
  | succ d ih =>
    show (if su (drS c f0 D0 (k + d)).1 64 = 0 then drS c f0 D0 (k + d) else _) = _
    rw [ih, if_pos h]
theorem drS_le (c : Nat) (f0 : Nat → Nat) (D0 : Int32) : ∀ k x, (drS c f0 D0 k).1 x ≤ f0 x := by
  intro k
  induction k with
  | zero => intro x; exact Nat.le_refl _
  | succ k ih =>
    intro x
    have := ih x
    by_cases h : su (drS c f0 D0 k).1 64 = 0
    · show (if su (drS c f0 D0 k).1 64 = 0 then drS c f0 D0 k else _).1 x ≤ _
      rw [if_pos h]
      exact this
    · rw [drS_s c f0 D0 k h]
      show (if x = cat (drS c f0 D0 k).1 (drK (drD (drS c f0 D0 k).2.1) (su (drS c f0 D0 k).1 64)) then (drS c f0 D0 k).1 x - 1 else (drS c f0 D0 k).1 x) ≤ f0 x
      generalize (drS c f0 D0 k).1 x = y at this ⊢
      clear ih h
      split
      · exact Nat.le_trans (Nat.sub_le _ _) this
      · exact this
theorem cat_lt {f : Nat → Nat} {k : Nat} (h : k < su f 64) : cat f k < 64 ∧ su f (cat f k) ≤ k ∧ k < su f (cat f k + 1) := by
  have h1 : cat f k < 64 := by
    unfold cat
    rcases Nat.lt_or_ge (fi (fun c => decide (k < su f (c + 1))) 64) 64 with z | z
    · exact z
    · have := of_decide_eq_false (fi_no (fun c => decide (k < su f (c + 1))) 64 63 (by omega))
      exact absurd h this
  have h2 := of_decide_eq_true (fi_is (fun c => decide (k < su f (c + 1))) 64 h1)
  refine ⟨h1, ?_, h2⟩
  cases e : cat f k with
  | zero => exact Nat.zero_le _
  | succ t =>
    have := of_decide_eq_false (fi_no (fun c => decide (k < su f (c + 1))) 64 t (by unfold cat at e; omega))
    omega
theorem su_dec {f : Nat → Nat} {c n : Nat} (hc : c < n) (h : 0 < f c) : su (fun x => if x = c then f x - 1 else f x) n = su f n - 1 ∧ 0 < su f n := by
  have key : su f n = su (fun x => if x = c then f x - 1 else f x) n + 1 := by
    have e : su f n = su (fun x => (if x = c then f x - 1 else f x) + (if x = c then 1 else 0)) n := su_congr n (fun x _ => by
      show f x = (if x = c then f x - 1 else f x) + (if x = c then 1 else 0)
      by_cases z : x = c
      · rw [if_pos z, if_pos z, z]; omega
      · rw [if_neg z, if_neg z]; rfl)
    rw [e, su_add, su_one (f := fun x => if x = c then 1 else 0) hc (fun x _ hx => if_neg hx), if_pos rfl]
  omega
theorem rwS_id {a : Nat} {t : Nat → Int32} (h : ∀ c, c < 64 → m a c = t c) : rwS m a t = m := by
  funext b i
  show (if b = a ∧ i < 64 then t i else m b i) = m b i
  by_cases e : b = a ∧ i < 64
  · rw [if_pos e, e.1, h i e.2]
  · rw [if_neg e]
theorem si_id {a k : Nat} {x : Int32} (h : m a k = x) : am_si m a k x = m := by
  funext b i
  rw [m_si]
  by_cases e : b = a ∧ i = k
  · rw [if_pos e, e.1, e.2, h]
  · rw [if_neg e]
theorem si_si {a k : Nat} {x y : Int32} : am_si (am_si m a k x) a k y = am_si m a k y := by
  funext b i
  rw [m_si, m_si, m_si]
  by_cases e : b = a ∧ i = k
  · rw [if_pos e, if_pos e]
  · rw [if_neg e, if_neg e, if_neg e]
theorem rwS_comm {a b k : Nat} {t : Nat → Int32} {x : Int32} (h : a ≠ b) : am_si (rwS m a t) b k x = rwS (am_si m b k x) a t := by
  funext c i
  rw [m_si]
  show (if c = b ∧ i = k then x else if c = a ∧ i < 64 then t i else m c i) = if c = a ∧ i < 64 then t i else am_si m b k x c i
  rw [m_si]
  by_cases e : c = b ∧ i = k
  · rw [if_pos e, if_neg (fun z => h (z.1.symm.trans e.1)), if_pos e]
  · rw [if_neg e]
    by_cases e2 : c = a ∧ i < 64
    · rw [if_pos e2, if_pos e2]
    · rw [if_neg e2, if_neg e2, if_neg e]
/-- the class's memory while it draws -/
def dm8 (m : am_m) (q : (Nat → Nat) × Int32 × Nat) : am_m := rwS (am_si m 2970 6 q.2.1) 3013 (fun c => am_i (q.1 c : Int))
def dm9 (m : am_m) (q : (Nat → Nat) × Int32 × Nat) : am_m := rwS (am_si m 3262 15516 q.2.1) 3266 (fun c => am_i (q.1 c : Int))
theorem dm8_row {q : (Nat → Nat) × Int32 × Nat} (h : ∀ c, q.1 c ≤ 1000000) : Row (dm8 m q) 3013 q.1 := ⟨fun c hc => rwS_at hc, h⟩
theorem dm9_row {q : (Nat → Nat) × Int32 × Nat} (h : ∀ c, q.1 c ≤ 1000000) : Row (dm9 m q) 3266 q.1 := ⟨fun c hc => rwS_at hc, h⟩
theorem upS_dec {f : Nat → Nat} {c : Nat} (h : 0 < f c) : upS (fun x => am_i (f x : Int)) c (am_i (f c : Int) - am_i 1) = fun x => am_i ((if x = c then f x - 1 else f x : Nat) : Int) := by
  funext x
  show (if x = c then am_i (f c : Int) - am_i 1 else am_i (f x : Int)) = _
  by_cases e : x = c
  · rw [if_pos e, if_pos e, i_sub, e, show (f c : Int) - 1 = ((f c - 1 : Nat) : Int) by omega]
  · rw [if_neg e, if_neg e]
theorem l_dr8_step {n c j z : Nat} {f : Nat → Nat} {D : Int32} {t : Nat} {x1 x2 x3 : Int32} {k : Int32 → am_m → Option (Int32 × am_m)} (hj : j < n) (hn : n ≤ 50) (hc : c < 64) (hp : ¬ su f 64 = 0) (fl : ∀ x, f x ≤ 239976) (hb : su f 64 ≤ 64 * 239976) : m_X8_drawn_66 x1 x2 x3 (am_i n) (am_i c) k (z + 1) (am_i (su f 64 : Nat)) (am_i t) (am_i j) (dm8 m (f, D, t)) = m_X8_drawn_66 x1 x2 x3 (am_i n) (am_i c) k z (am_i (su (fun x => if x = cat f (drK (drD D) (su f 64)) then f x - 1 else f x) 64 : Nat)) (am_i ((t + b1 (decide (cat f (drK (drD D) (su f 64)) = c)) : Nat) : Int)) (am_i ((j + 1 : Nat) : Int)) (dm8 m ((fun x => if x = cat f (drK (drD D) (su f 64)) then f x - 1 else f x), drD D, t + b1 (decide (cat f (drK (drD D) (su f 64)) = c)))) := by
  generalize hL : su f 64 = L at hp hb ⊢
  have hk : drK (drD D) L < L := Nat.mod_lt _ (by omega)
  have eD : dm8 m (f, D, t) 2970 6 = D := by
    show rwS _ _ _ 2970 6 = D
    rw [rwS_ne (by decide), si_at]
  have eM : am_si (dm8 m (f, D, t)) 2970 6 (am_i 1664525 * D + am_i 1013904223) = dm8 m (f, drD D, t) := by
    show am_si (rwS _ _ _) _ _ _ = rwS _ _ _
    rw [rwS_comm (by decide), si_si]
    rfl
  have eD2 : dm8 m (f, drD D, t) 2970 6 = drD D := by
    show rwS _ _ _ 2970 6 = drD D
    rw [rwS_ne (by decide), si_at]
  have q1 : m_X0_drawOf (dm8 m (f, D, t)) 2970 (am_i L) = some (am_i (drK (drD D) L : Nat), dm8 m (f, drD D, t)) := by
    unfold m_X0_drawOf
    rw [eD, eM, am_letF, if_neg (by rw [i_zero, i_le (by omega) (by omega) (by omega) (by omega)]; omega), eD2, drK_e (drD D) (by omega) (by omega), show am_nz (am_i (L : Int)) = true from decide_eq_true (by rw [i_zero, i_eq (by omega) (by omega) (by omega) (by omega)]; omega)]
    rfl
  generalize drK (drD D) L = K at hk q1 ⊢
  obtain ⟨g1, g2, g3⟩ := cat_lt (f := f) (k := K) (by rw [hL]; exact hk)
  have g4 : 0 < f (cat f K) := by
    have := su_s (f := f) (cat f K)
    omega
  have d1 : su (fun x => if x = cat f K then f x - 1 else f x) 64 = L - 1 := by rw [(su_dec g1 g4).1, hL]
  have q2 := s_X5_categoryAt (r := (K : Int)) (dm8_row (m := m) (q := (f, drD D, t)) (fun c => Nat.le_trans (fl c) (by decide))) (by omega) (by omega)
  have eC : catI f (K : Int) = (cat f K : Int) := by
    unfold catI
    rw [if_pos (by omega), Int.toNat_natCast, if_pos g1]
  rw [show catI (f, drD D, t).1 (K : Int) = catI f (K : Int) from rfl, eC] at q2
  rw [m_X8_drawn_66, if_neg (by rw [i_le (by omega) (by omega) (by omega) (by omega)]; omega), if_neg (by rw [i_zero, i_le (by omega) (by omega) (by omega) (by omega)]; omega), q1, Option.bind_some, d1]
  dsimp only
  rw [q2, Option.bind_some]
  clear q1 q2 eC hk g2 g3 d1 eD eM eD2 hL
  generalize cat f K = C at g1 g4 ⊢
  have eR : dm8 m (f, drD D, t) 3013 C = am_i (f C : Int) := rwS_at g1
  have fC := fl C
  rw [if_pos (by rw [i_eq (by omega) (by omega) (by omega) (by omega)]; omega), i_ibt (by omega) (by omega) (by omega), cond_true, cond_true, am_letF, i_ixn (by omega), eR]
  have eW : am_si (dm8 m (f, drD D, t)) 3013 C (am_i (f C : Int) - am_i 1) = dm8 m ((fun x => if x = C then f x - 1 else f x), drD D, t + b1 (decide (C = c))) := by
    show am_si (rwS _ _ _) _ _ _ = rwS _ _ _
    rw [rwS_si g1, upS_dec g4]
  rw [eW, i_add, i_add, show (L : Int) + -1 = ((L - 1 : Nat) : Int) by omega]
  by_cases z : C = c
  · rw [decide_eq_true z, if_neg (by rw [z]; exact fun w => w rfl), i_add]
    rfl
  · rw [decide_eq_false z, if_pos (by rw [i_eq (by omega) (by omega) (by omega) (by omega)]; omega)]
    rfl
theorem l_X8_drawn_66 {n c : Nat} {f0 : Nat → Nat} {D0 : Int32} {x1 x2 x3 : Int32} {k : Int32 → am_m → Option (Int32 × am_m)} (hf : ∀ x, f0 x ≤ 239976) (hn : n ≤ 50) (hc : c < 64) : m_X8_drawn_66 x1 x2 x3 (am_i n) (am_i c) k am_F (am_i (su f0 64 : Nat)) (am_i 0) (am_i 0) (dm8 m (f0, D0, 0)) = k (am_i ((drS c f0 D0 n).2.2 : Nat)) (dm8 m (drS c f0 D0 n)) := by
  refine (lo_seek (fun z j (q : Int32 × Int32 × am_m) => m_X8_drawn_66 x1 x2 x3 (am_i n) (am_i c) k z q.1 q.2.1 (am_i (j : Int)) q.2.2) (fun j => (am_i (su (drS c f0 D0 j).1 64 : Nat), am_i ((drS c f0 D0 j).2.2 : Nat), dm8 m (drS c f0 D0 j))) n (fun j => decide (su (drS c f0 D0 j).1 64 = 0)) (fun _ => k (am_i ((drS c f0 D0 n).2.2 : Nat)) (dm8 m (drS c f0 D0 n))) (k (am_i ((drS c f0 D0 n).2.2 : Nat)) (dm8 m (drS c f0 D0 n))) (n := am_F) (s0 := (am_i (su f0 64 : Nat), am_i 0, dm8 m (f0, D0, 0))) (by rw [drS_0]; rfl) (am_Fv (by omega)) ?_ ?_ ?_).trans (by split <;> rfl)
  · intro z j hj hp
    have hp := of_decide_eq_false hp
    have fl : ∀ x, (drS c f0 D0 j).1 x ≤ 239976 := fun x => Nat.le_trans (drS_le c f0 D0 j x) (hf x)
    have hb := su_b fl 64
    show m_X8_drawn_66 x1 x2 x3 _ _ k (z + 1) (am_i (su (drS c f0 D0 j).1 64 : Nat)) (am_i ((drS c f0 D0 j).2.2 : Nat)) _ (dm8 m (drS c f0 D0 j)) = m_X8_drawn_66 x1 x2 x3 _ _ k z (am_i (su (drS c f0 D0 (j + 1)).1 64 : Nat)) (am_i ((drS c f0 D0 (j + 1)).2.2 : Nat)) _ (dm8 m (drS c f0 D0 (j + 1)))
    rw [drS_s c f0 D0 j hp]
    exact l_dr8_step hj hn hc hp fl hb
  · intro z j hj hp
    have hp := of_decide_eq_true hp
    have e := drS_end hp (n - j)
    rw [show j + (n - j) = n by omega] at e
    show m_X8_drawn_66 x1 x2 x3 _ _ k (z + 1) (am_i (su (drS c f0 D0 j).1 64 : Nat)) _ _ _ = _
    rw [m_X8_drawn_66, if_neg (by rw [i_le (by omega) (by omega) (by omega) (by omega)]; omega), hp, if_pos (by decide), e]
  · intro z
    show m_X8_drawn_66 x1 x2 x3 _ _ k (z + 1) _ _ _ _ = _
    rw [m_X8_drawn_66, if_pos (by rw [i_le (by omega) (by omega) (by omega) (by omega)]; omega)]
theorem l_X9_drawn_62 {f : Nat → Nat} {K : Nat} {x1 x2 x3 y2 y3 y4 y5 y6 : Int32} {k : Int32 → Option (Int32 × am_m)} (h : Row m 3266 f) (hK : K < su f 64) (hK2 : K ≤ 20000000) : m_X9_drawn_62 x1 x2 x3 m y2 y3 y4 y5 y6 k am_F (am_i K) (am_i 0) = k (am_i (cat f K : Nat)) := by
  obtain ⟨g1, g2, g3⟩ := cat_lt hK
  refine lo_go (fun n j (t : Int32) => m_X9_drawn_62 x1 x2 x3 m y2 y3 y4 y5 y6 k n t (am_i (j : Int))) (fun j => am_i ((K : Int) - (su f j : Nat))) 0 (cat f K) (by show _ = am_i ((K : Int) - ((0 : Nat) : Int)); rw [Int.natCast_zero, Int.sub_zero]) (by omega) (am_Fv (by omega)) (fun n j _ hj => ?_) (fun n => ?_)
  · have p := of_decide_eq_false (fi_no (fun c => decide (K < su f (c + 1))) 64 j hj)
    have e : su f (j + 1) = su f j + f j := rfl
    have b1' := h.2 j
    have e1 := h.1 j (by omega)
    have mo : su f (j + 1) ≤ su f (cat f K) := su_mono hj
    show m_X9_drawn_62 x1 x2 x3 m y2 y3 y4 y5 y6 k (n + 1) _ _ = _
    rw [m_X9_drawn_62]
    simp (disch := first | assumption | omega) only [i_add, i_sub, i_mul, i_lt, i_le, i_eq, i_ibt, i_ixn, i_ix, i_zero, am_letF, cond_true, cond_false, Option.bind_some, ↓reduceIte, m_si, m_sc, true_and, and_true, not_true_eq_false, not_false_eq_true, i_gtF, i_leT, i_geF, i_ltT, Int32.zero_add, Int.toNat_natCast, ix_own, ix_sum, ix_ver, ix_th, ix_ab, ix_st, ix_vm, ix_lim, ix_lim1, ix_lim2, ix_lim3, Int.toNat_zero, i_neF, i_eqT, b1T, b1F, e1]
    rw [su_i, show (K : Int) - (su f j : Nat) - (f j : Nat) = (K : Int) - (((su f j : Nat) : Int) + (f j : Nat)) by omega]
    rfl
  · have e : su f (cat f K + 1) = su f (cat f K) + f (cat f K) := rfl
    have b1' := h.2 (cat f K)
    have e1 := h.1 (cat f K) g1
    show m_X9_drawn_62 x1 x2 x3 m y2 y3 y4 y5 y6 k (n + 1) _ _ = _
    rw [m_X9_drawn_62]
    simp (disch := first | assumption | omega) only [i_add, i_sub, i_mul, i_lt, i_le, i_eq, i_ibt, i_ixn, i_ix, i_zero, am_letF, cond_true, cond_false, Option.bind_some, ↓reduceIte, m_si, m_sc, true_and, and_true, not_true_eq_false, not_false_eq_true, i_gtF, i_leT, i_geF, i_ltT, Int32.zero_add, Int.toNat_natCast, ix_own, ix_sum, ix_ver, ix_th, ix_ab, ix_st, ix_vm, ix_lim, ix_lim1, ix_lim2, ix_lim3, Int.toNat_zero, i_neF, i_eqT, b1T, b1F, e1]
theorem l_dr9_step {n c j z : Nat} {f : Nat → Nat} {D : Int32} {t : Nat} {x1 x2 x3 : Int32} {k : Int32 → am_m → Option (Int32 × am_m)} (hj : j < n) (hn : n ≤ 50) (hc : c < 64) (hp : ¬ su f 64 = 0) (fl : ∀ x, f x ≤ 239976) (hb : su f 64 ≤ 64 * 239976) : m_X9_drawn_40 x1 x2 x3 (am_i n) (am_i c) k (z + 1) (am_i (su f 64 : Nat)) (am_i t) (am_i j) (dm9 m (f, D, t)) = m_X9_drawn_40 x1 x2 x3 (am_i n) (am_i c) k z (am_i (su (fun x => if x = cat f (drK (drD D) (su f 64)) then f x - 1 else f x) 64 : Nat)) (am_i ((t + b1 (decide (cat f (drK (drD D) (su f 64)) = c)) : Nat) : Int)) (am_i ((j + 1 : Nat) : Int)) (dm9 m ((fun x => if x = cat f (drK (drD D) (su f 64)) then f x - 1 else f x), drD D, t + b1 (decide (cat f (drK (drD D) (su f 64)) = c)))) := by
  generalize hL : su f 64 = L at hp hb ⊢
  have hk : drK (drD D) L < L := Nat.mod_lt _ (by omega)
  have eD : dm9 m (f, D, t) 3262 15516 = D := by
    show rwS _ _ _ 3262 15516 = D
    rw [rwS_ne (by decide), si_at]
  have eM : am_si (dm9 m (f, D, t)) 3262 15516 (am_i 1664525 * D + am_i 1013904223) = dm9 m (f, drD D, t) := by
    show am_si (rwS _ _ _) _ _ _ = rwS _ _ _
    rw [rwS_comm (by decide), si_si]
    rfl
  have eD2 : dm9 m (f, drD D, t) 3262 15516 = drD D := by
    show rwS _ _ _ 3262 15516 = drD D
    rw [rwS_ne (by decide), si_at]
  have q1 : m_X9_draw (dm9 m (f, D, t)) (am_i L) = some (am_i (drK (drD D) L : Nat), dm9 m (f, drD D, t)) := by
    unfold m_X9_draw
    rw [show am_ib (am_i 15516) 15517 = true by decide, cond_true, cond_true, show am_ix (am_i 15516) = 15516 by decide, eD, eM, am_letF, cond_true, eD2, drK_e (drD D) (by omega) (by omega), show am_nz (am_i (L : Int)) = true from decide_eq_true (by rw [i_zero, i_eq (by omega) (by omega) (by omega) (by omega)]; omega)]
    rfl
  generalize drK (drD D) L = K at hk q1 ⊢
  obtain ⟨g1, g2, g3⟩ := cat_lt (f := f) (k := K) (by rw [hL]; exact hk)
  have g4 : 0 < f (cat f K) := by
    have := su_s (f := f) (cat f K)
    omega
  have d1 : su (fun x => if x = cat f K then f x - 1 else f x) 64 = L - 1 := by rw [(su_dec g1 g4).1, hL]
  rw [m_X9_drawn_40, if_neg (by rw [i_le (by omega) (by omega) (by omega) (by omega)]; omega), if_neg (by rw [i_zero, i_le (by omega) (by omega) (by omega) (by omega)]; omega), q1, Option.bind_some, d1]
  dsimp only
  rw [l_X9_drawn_62 (f := f) (dm9_row (m := m) (q := (f, drD D, t)) (fun c => Nat.le_trans (fl c) (by decide))) (by rw [hL]; exact hk) (by omega)]
  clear q1 hk g2 g3 d1 eD eM eD2 hL
  generalize cat f K = C at g1 g4 ⊢
  have eR : dm9 m (f, drD D, t) 3266 C = am_i (f C : Int) := rwS_at g1
  have fC := fl C
  rw [i_ibt (by omega) (by omega) (by omega), cond_true, cond_true, am_letF, i_ixn (by omega), eR]
  have eW : am_si (dm9 m (f, drD D, t)) 3266 C (am_i (f C : Int) - am_i 1) = dm9 m ((fun x => if x = C then f x - 1 else f x), drD D, t + b1 (decide (C = c))) := by
    show am_si (rwS _ _ _) _ _ _ = rwS _ _ _
    rw [rwS_si g1, upS_dec g4]
  rw [eW, i_add, i_add, i_add, i_add, show (L : Int) + -1 = ((L - 1 : Nat) : Int) by omega]
  by_cases z : C = c
  · rw [decide_eq_true z, if_neg (by rw [z]; exact fun w => w rfl)]
    rfl
  · rw [decide_eq_false z, if_pos (by rw [i_eq (by omega) (by omega) (by omega) (by omega)]; omega)]
    rfl
theorem l_X9_drawn_40 {n c : Nat} {f0 : Nat → Nat} {D0 : Int32} {x1 x2 x3 : Int32} {k : Int32 → am_m → Option (Int32 × am_m)} (hf : ∀ x, f0 x ≤ 239976) (hn : n ≤ 50) (hc : c < 64) : m_X9_drawn_40 x1 x2 x3 (am_i n) (am_i c) k am_F (am_i (su f0 64 : Nat)) (am_i 0) (am_i 0) (dm9 m (f0, D0, 0)) = k (am_i ((drS c f0 D0 n).2.2 : Nat)) (dm9 m (drS c f0 D0 n)) := by
  refine (lo_seek (fun z j (q : Int32 × Int32 × am_m) => m_X9_drawn_40 x1 x2 x3 (am_i n) (am_i c) k z q.1 q.2.1 (am_i (j : Int)) q.2.2) (fun j => (am_i (su (drS c f0 D0 j).1 64 : Nat), am_i ((drS c f0 D0 j).2.2 : Nat), dm9 m (drS c f0 D0 j))) n (fun j => decide (su (drS c f0 D0 j).1 64 = 0)) (fun _ => k (am_i ((drS c f0 D0 n).2.2 : Nat)) (dm9 m (drS c f0 D0 n))) (k (am_i ((drS c f0 D0 n).2.2 : Nat)) (dm9 m (drS c f0 D0 n))) (n := am_F) (s0 := (am_i (su f0 64 : Nat), am_i 0, dm9 m (f0, D0, 0))) (by rw [drS_0]; rfl) (am_Fv (by omega)) ?_ ?_ ?_).trans (by split <;> rfl)
  · intro z j hj hp
    have hp := of_decide_eq_false hp
    have fl : ∀ x, (drS c f0 D0 j).1 x ≤ 239976 := fun x => Nat.le_trans (drS_le c f0 D0 j x) (hf x)
    have hb := su_b fl 64
    show m_X9_drawn_40 x1 x2 x3 _ _ k (z + 1) (am_i (su (drS c f0 D0 j).1 64 : Nat)) (am_i ((drS c f0 D0 j).2.2 : Nat)) _ (dm9 m (drS c f0 D0 j)) = m_X9_drawn_40 x1 x2 x3 _ _ k z (am_i (su (drS c f0 D0 (j + 1)).1 64 : Nat)) (am_i ((drS c f0 D0 (j + 1)).2.2 : Nat)) _ (dm9 m (drS c f0 D0 (j + 1)))
    rw [drS_s c f0 D0 j hp]
    exact l_dr9_step hj hn hc hp fl hb
  · intro z j hj hp
    have hp := of_decide_eq_true hp
    have e := drS_end hp (n - j)
    rw [show j + (n - j) = n by omega] at e
    show m_X9_drawn_40 x1 x2 x3 _ _ k (z + 1) (am_i (su (drS c f0 D0 j).1 64 : Nat)) _ _ _ = _
    rw [m_X9_drawn_40, if_neg (by rw [i_le (by omega) (by omega) (by omega) (by omega)]; omega), hp, if_pos (by decide), e]
  · intro z
    show m_X9_drawn_40 x1 x2 x3 _ _ k (z + 1) _ _ _ _ = _
    rw [m_X9_drawn_40, if_pos (by rw [i_le (by omega) (by omega) (by omega) (by omega)]; omega)]
theorem q_drawn (h : GS m r s) (a b c : Int32) : ∃ y m1 m2, m_X8_drawn m a b c = some (y, m1) ∧ m_X9_drawn m1 a b c = some (y, m2) ∧ Good m2 r := by
  obtain ⟨x, h1, h2, rfl⟩ := i_any a
  obtain ⟨i, h3, h4, rfl⟩ := i_any b
  obtain ⟨w, h5, h6, rfl⟩ := i_any c
  cases c : thr (gU (xG s)) x
  · refine ⟨am_i (-1), m, m, ?_, ?_, h.g⟩
    · unfold m_X8_drawn
      rw [s_t8 h h1 h2, c]
      rfl
    · unfold m_X9_drawn
      rw [s_t9 h h1 h2, c]
      rfl
  · obtain ⟨u, hu, rfl, hu2⟩ := thr_i c
    by_cases c1 : 1 ≤ i ∧ i ≤ 50
    · by_cases c2 : 0 ≤ w ∧ w ≤ 63
      · obtain ⟨n, rfl⟩ : ∃ n : Nat, i = n := ⟨i.toNat, by omega⟩
        obtain ⟨d, rfl⟩ : ∃ n : Nat, w = n := ⟨w.toNat, by omega⟩
        have hf : ∀ x, gM (xG s) u x ≤ 239976 := h.ig.2.2.1 u
        -- the class's copy
        have e0 : am_sc m (aX 4 u) 0 3013 0 64 = dm8 m (gM (xG s) u, bkD (xB s), 0) := by
          show _ = rwS _ _ _
          rw [si_id h.2.1.2.1.2.2.2]
          funext b i
          rw [m_sc]
          show _ = if b = 3013 ∧ i < 64 then am_i (gM (xG s) u i : Int) else m b i
          by_cases z : b = 3013 ∧ i < 64
          · rw [if_pos z, if_pos ⟨z.1, by omega, by omega⟩, Nat.zero_add, Nat.sub_zero]
            exact (h.xc hu).1 i z.2
          · rw [if_neg z, if_neg (fun e => z ⟨e.1, by omega⟩)]
        generalize hQ : drS d (gM (xG s) u) (bkD (xB s)) n = Q
        have cs : CS (dm8 m Q) r (xG s, bkSt (xB s) Q.2.1, xN s, xH s, xF s, xI s, xJ s, xT s, xR s) := by
          have nb : ∀ b, b ≠ 3013 → b ≠ 2970 → dm8 m Q b = m b := fun b b1 b2 => by
            show rwS _ _ _ b = m b
            rw [rwS_ne b1, si_ne b2]
          refine h.2.1.upd h.1 (h.2.1.1.kept h.1 og4 (fun b b1 b2 => nb b (by omega) (by omega)) rfl) ?_ (h.2.1.2.2.1.kept h.1 h.2.2.2.2.2.1.1 (fun b b1 b2 => nb b (by omega) (by omega)) (fun _ _ => rfl)) (fun b hb => nb b (by omega) (by omega)) rfl
          obtain ⟨b1', b2, b3, b4⟩ := h.2.1.2.1
          refine ⟨fun i hi => ?_, ?_, fun i hi hi2 => ?_, ?_⟩
          · rw [nb _ (by unfold aB; omega) (by unfold aB; omega)]; exact b1' i hi
          · show rwS _ _ _ 2970 5 = _
            rw [rwS_ne (by decide), si_o (by decide)]
            exact b2
          · rw [nb _ (by unfold aB; omega) (by unfold aB; omega), nb _ (by unfold aB; omega) (by unfold aB; omega), nb _ (by unfold aB; omega) (by unfold aB; omega), nb _ (by unfold aB; omega) (by unfold aB; omega)]
            exact b3 i hi hi2
          · show rwS _ _ _ 2970 6 = _
            rw [rwS_ne (by decide), si_at]
            rfl
        have is2 : IS (xG s, bkSt (xB s) Q.2.1, xN s, xH s, xF s, xI s, xJ s, xT s, xR s) := h.2.2.2
        -- the reference, from the class's end
        have ms1 : MS (dm8 m Q) s := h.2.2.1.kept (fun b b1 _ => by show rwS _ _ _ b = m b; rw [rwS_ne (by omega), si_ne (by omega)])
        obtain ⟨m1, e1, f1, g1⟩ := s_X9_allOf (ms1.1.sum h.ig hu) hu
        have ms2 : MS m1 s := ms1.kept (fun b _ b2 => f1 b (fun z => b2 (by rw [z]; unfold Scr; omega)))
        have e2 : dm9 m1 (gM (xG s) u, bkD (xB s), 0) = m1 := by
          show rwS _ _ _ = m1
          rw [si_id ms2.2.1.2.2.2]
          exact rwS_id (fun c hc => g1.1 c hc)
        have nb9 : ∀ b, b ≠ 3266 → b ≠ 3262 → dm9 m1 Q b = m1 b := fun b b1 b2 => by
          show rwS _ _ _ b = m1 b
          rw [rwS_ne b1, si_ne b2]
        have nb9' : ∀ i, i ≠ 15516 → dm9 m1 Q 3262 i = m1 3262 i := fun i hi => by
          show rwS _ _ _ 3262 i = _
          rw [rwS_ne (by decide), si_o hi]
        have ms3 : MS (dm9 m1 Q) (xG s, bkSt (xB s) Q.2.1, xN s, xH s, xF s, xI s, xJ s, xT s, xR s) := by
          refine ms2.upd (ms2.1.kept (fun i hi => nb9' _ (by omega))) ?_ (ms2.2.2.1.kept (by rw [nb9 3261 (by decide) (by decide)]) (nb9 3265 (by decide) (by decide))) (fun b hb => nb9 b (by omega) (by omega)) (fun j _ => by rw [nb9 3261 (by decide) (by decide)])
          obtain ⟨b1', b2, b3, b4⟩ := ms2.2.1
          refine ⟨fun i hi => ?_, ?_, fun i hi hi2 => ?_, ?_⟩
          · rw [nb9' _ (by omega)]; exact b1' i hi
          · rw [nb9' _ (by omega)]; exact b2
          · rw [nb9' _ (by omega), nb9' _ (by omega), nb9' _ (by omega), nb9' _ (by omega)]
            exact b3 i hi hi2
          · show rwS _ _ _ 3262 15516 = _
            rw [rwS_ne (by decide), si_at]
            rfl
        refine ⟨am_i (Q.2.2 : Nat), dm8 m Q, dm9 m1 Q, ?_, ?_, GS.both (s := s) h.1 cs ms3 is2 (fun b hb => ?_)⟩
        · unfold m_X8_drawn
          have q1 := s_X5_allOf (dm8_row (m := m) (q := (gM (xG s) u, bkD (xB s), 0)) (fun c => Nat.le_trans (hf c) (by decide)))
          rw [s_t8 h h1 h2, c, Option.bind_some, if_neg (by decide), if_neg (by rw [i_lt (by omega) (by omega) (by omega) (by omega)]; omega), if_neg (by rw [i_lt (by omega) (by omega) (by omega) (by omega)]; omega), s_c8 h5 h6, if_pos c2, Option.bind_some, if_pos (by decide), i_ibt (by omega) (by omega) (by omega), cond_true, cb64, cond_true, am_letF, x0, x64, i_ixn (by omega), e0, q1, Option.bind_some, l_X8_drawn_66 hf (by omega) (by omega), hQ]
        · unfold m_X9_drawn
          rw [s_X9_isUnit ms1.1.TM h1 h2, c, Option.bind_some, if_neg (by decide), s_X9_isIn h3 h4 (by decide) (by decide) (by decide) (by decide), if_pos c1, Option.bind_some, if_neg (by decide), s_c9 h5 h6, if_pos c2, Option.bind_some, if_pos (by decide), e1, Option.bind_some]
          have L := l_X9_drawn_40 (m := m1) (n := n) (c := d) (f0 := gM (xG s) u) (D0 := bkD (xB s)) (x1 := am_i u) (x2 := am_i n) (x3 := am_i d) (k := fun u19 m20 => some (u19, m20)) hf (by omega) (by omega)
          rw [e2, hQ] at L
          exact L
        · rw [nb9 b (by omega) (by omega)]
          exact f1 b (by omega)
      · refine ⟨am_i (-1), m, m, ?_, ?_, h.g⟩
        · unfold m_X8_drawn
          rw [s_t8 h h1 h2, c, Option.bind_some, if_neg (by decide), if_neg (by rw [i_lt (by omega) (by omega) (by omega) (by omega)]; omega), if_neg (by rw [i_lt (by omega) (by omega) (by omega) (by omega)]; omega), s_c8 h5 h6, if_neg c2, Option.bind_some, if_neg (by decide)]
        · unfold m_X9_drawn
          rw [s_t9 h h1 h2, c, Option.bind_some, if_neg (by decide), s_X9_isIn h3 h4 (by decide) (by decide) (by decide) (by decide), if_pos c1, Option.bind_some, if_neg (by decide), s_c9 h5 h6, if_neg c2, Option.bind_some, if_neg (by decide)]
    · refine ⟨am_i (-1), m, m, ?_, ?_, h.g⟩
      · unfold m_X8_drawn
        rw [s_t8 h h1 h2, c, Option.bind_some, if_neg (by decide)]
        by_cases c3 : i < 1
        · rw [if_pos (by rw [i_lt (by omega) (by omega) (by omega) (by omega)]; omega)]
        · rw [if_neg (by rw [i_lt (by omega) (by omega) (by omega) (by omega)]; omega), if_pos (by rw [i_lt (by omega) (by omega) (by omega) (by omega)]; omega)]
      · unfold m_X9_drawn
        rw [s_t9 h h1 h2, c, Option.bind_some, if_neg (by decide), s_X9_isIn h3 h4 (by decide) (by decide) (by decide) (by decide), if_neg c1, Option.bind_some, if_pos (by decide)]
end UP
