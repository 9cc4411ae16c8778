/-! ===== mathematics, 1: numbers, loops, memory ===== -/
theorem i_toInt {n : Int} (h1 : -2147483648 ≤ n) (h2 : n ≤ 2147483647) : (am_i n).toInt = n := Int32.toInt_ofInt_of_le h1 (by omega)
theorem i_of (x : Int32) : am_i x.toInt = x := Int32.ofInt_toInt x
theorem i_add (a b : Int) : am_i a + am_i b = am_i (a + b) := (Int32.ofInt_add a b).symm
theorem i_sub (a b : Int) : am_i a - am_i b = am_i (a - b) := (Int32.ofInt_sub a b).symm
theorem i_mul (a b : Int) : am_i a * am_i b = am_i (a * b) := (Int32.ofInt_mul a b).symm
theorem i_neg (a : Int) : - am_i a = am_i (-a) := (Int32.ofInt_neg a).symm
theorem i_lt {a b : Int} (ha : -2147483648 ≤ a) (ha2 : a ≤ 2147483647) (hb : -2147483648 ≤ b) (hb2 : b ≤ 2147483647) : (am_i a < am_i b) = (a < b) := by
  apply propext
  rw [Int32.lt_iff_toInt_lt, i_toInt ha ha2, i_toInt hb hb2]
theorem i_le {a b : Int} (ha : -2147483648 ≤ a) (ha2 : a ≤ 2147483647) (hb : -2147483648 ≤ b) (hb2 : b ≤ 2147483647) : (am_i a ≤ am_i b) = (a ≤ b) := by
  apply propext
  rw [Int32.le_iff_toInt_le, i_toInt ha ha2, i_toInt hb hb2]
theorem i_eq {a b : Int} (ha : -2147483648 ≤ a) (ha2 : a ≤ 2147483647) (hb : -2147483648 ≤ b) (hb2 : b ≤ 2147483647) : (am_i a = am_i b) = (a = b) := by
  apply propext
  refine ⟨fun h => ?_, fun h => by rw [h]⟩
  have := congrArg Int32.toInt h
  rwa [i_toInt ha ha2, i_toInt hb hb2] at this
theorem i_zero : (0 : Int32) = am_i 0 := by decide
theorem i_ix {a : Int} (h1 : 0 ≤ a) (h2 : a ≤ 2147483647) : am_ix (am_i a) = a.toNat := by
  have e : (am_i a).toInt = a := i_toInt (by omega) h2
  have e2 : (am_ix (am_i a) : Int) = (am_i a).toInt := by
    refine (am_nn _ ?_).symm
    rw [i_zero, i_lt (by omega) h2 (by decide) (by decide)]
    omega
  omega
theorem i_ixn {k : Nat} (h : k ≤ 2147483647) : am_ix (am_i (k : Int)) = k := by
  rw [i_ix (by omega) (by omega)]
  omega
theorem i_ib {a : Int} {n : Nat} (h1 : -2147483648 ≤ a) (h2 : a ≤ 2147483647) : am_ib (am_i a) n = decide (0 ≤ a ∧ a < n) := by
  unfold am_ib
  rw [i_toInt h1 h2]
  simp [Bool.decide_and]
theorem i_ibt {a : Int} {n : Nat} (h1 : 0 ≤ a) (h2 : a < n) (h3 : n ≤ 2147483647) : am_ib (am_i a) n = true := by
  rw [i_ib (by omega) (by omega)]
  simp [h1, h2]
/-- a number that lies in a row -/
theorem i_in {x : Int32} {n : Nat} (h : am_ib x n = true) : ∃ k : Nat, k < n ∧ x = am_i k := by
  unfold am_ib at h
  rw [Bool.and_eq_true] at h
  have h1 := of_decide_eq_true h.1
  have h2 := of_decide_eq_true h.2
  refine ⟨x.toInt.toNat, by omega, ?_⟩
  rw [show ((x.toInt.toNat : Nat) : Int) = x.toInt by omega, i_of]
/-- either in a row or not -/
theorem i_cases (x : Int32) (n : Nat) (hn : n ≤ 2147483647) : (∃ k : Nat, k < n ∧ x = am_i k) ∨ (x < 0 ∨ am_i n ≤ x) := by
  by_cases h : am_ib x n = true
  · exact Or.inl (i_in h)
  · refine Or.inr ?_
    unfold am_ib at h
    rw [Bool.and_eq_true] at h
    rw [Int32.lt_iff_toInt_lt, Int32.le_iff_toInt_le, i_toInt (by omega) (by omega)]
    have e : (0 : Int32).toInt = 0 := by decide
    rw [e]
    by_cases h1 : 0 ≤ x.toInt
    · by_cases h2 : x.toInt < n
      · exact absurd ⟨decide_eq_true h1, decide_eq_true h2⟩ h
      · omega
    · omega
/-- a loop with its states known: n rounds are enough -/
theorem lo_run {σ β : Type} {F : Nat → Nat → σ → Option β} {S : Nat → σ} {N : Nat} {k : Option β} (hs : ∀ n j, j < N → F (n + 1) j (S j) = F n (j + 1) (S (j + 1))) (he : ∀ n, F (n + 1) N (S N) = k) : ∀ n z, z ≤ N → N - z < n → F n z (S z) = k := by
  intro n
  induction n with
  | zero => intro z _ h; omega
  | succ n ih =>
    intro z hz hn
    by_cases h : z = N
    · rw [h]; exact he n
    · rw [hs n z (by omega)]
      exact ih (z + 1) (by omega) (by omega)
theorem m_si (m : am_m) (a k : Nat) (x : Int32) (b j : Nat) : am_si m a k x b j = if b = a ∧ j = k then x else m b j := by
  unfold am_si am_up
  by_cases h : b = a
  · by_cases h2 : j = k
    · simp [h, h2]
    · simp [h, h2]
  · simp [h]
theorem m_sc (m : am_m) (src sp dst dp n : Nat) (b j : Nat) : am_sc m src sp dst dp n b j = if b = dst ∧ dp ≤ j ∧ j < dp + n then m src (sp + (j - dp)) else m b j := by
  unfold am_sc am_up va_cpy
  by_cases h : b = dst
  · simp [h]
  · simp [h]
theorem am_letF {α β : Type} (v : α) (k : α → Option β) : am_let v k = k v := rfl
/-- a row of the memory is f -/
def mR (m : am_m) (a off n : Nat) (f : Nat → Nat) : Prop := ∀ c, c < n → m a (off + c) = am_i (f c)
/-- the sum of the first n -/
def su (f : Nat → Nat) : Nat → Nat
  | 0 => 0
  | n + 1 => su f n + f n
theorem su_congr {f g : Nat → Nat} : ∀ n, (∀ c, c < n → f c = g c) → su f n = su g n := by
  intro n
  induction n with
  | zero => intro _; rfl
  | succ n ih => intro h; show _ + _ = _ + _; rw [ih (fun c hc => h c (by omega)), h n (by omega)]
theorem su_le {f : Nat → Nat} {B : Nat} : ∀ n, (∀ c, c < n → f c ≤ B) → su f n ≤ n * B := by
  intro n
  induction n with
  | zero => intro _; exact Nat.zero_le _
  | succ n ih => intro h; have h1 := ih (fun c hc => h c (by omega)); have h2 := h n (by omega); show su f n + f n ≤ _; rw [Nat.succ_mul]; omega
/-- the first below n that P holds of; n if none -/
def fi (P : Nat → Bool) : Nat → Nat
  | 0 => 0
  | n + 1 => if fi P n < n then fi P n else if P n then n else n + 1
theorem fi_le (P : Nat → Bool) : ∀ n, fi P n ≤ n := by
  intro n
  induction n with
  | zero => exact Nat.le_refl _
  | succ n ih => unfold fi; split; · omega
                 split <;> omega
theorem fi_no (P : Nat → Bool) : ∀ n j, j < fi P n → P j = false := by
  intro n
  induction n with
  | zero => intro j h; exact absurd h (Nat.not_lt_zero _)
  | succ n ih =>
    intro j h
    unfold fi at h
    split at h
    · exact ih j h
    · have hn : fi P n = n := by have := fi_le P n; omega
      split at h
      · exact ih j (by omega)
      · rename_i h2
        by_cases hj : j = n
        · rw [hj]; exact Bool.eq_false_iff.mpr h2
        · exact ih j (by omega)
theorem fi_is (P : Nat → Bool) : ∀ n, fi P n < n → P (fi P n) = true := by
  intro n
  induction n with
  | zero => intro h; exact absurd h (Nat.not_lt_zero _)
  | succ n ih =>
    intro h
    unfold fi at h ⊢
    split at h
    · rename_i h2
      rw [if_pos h2]; exact ih h2
    · rename_i h2
      rw [if_neg h2]
      split at h
      · rename_i h3
        rw [if_pos h3]; exact h3
      · omega
theorem fi_eq {P : Nat → Bool} {n k : Nat} (h1 : ∀ j, j < k → P j = false) (h2 : k < n → P k = true) (h3 : k ≤ n) : fi P n = k := by
  have a := fi_le P n
  rcases Nat.lt_trichotomy (fi P n) k with h | h | h
  · have := fi_is P n (by omega)
    rw [h1 _ h] at this
    cases this
  · exact h
  · have := fi_no P n k h
    rw [h2 (by omega)] at this
    cases this
theorem fi_congr {P Q : Nat → Bool} {n : Nat} (h : ∀ j, j < n → P j = Q j) : fi P n = fi Q n := by
  have a := fi_le Q n
  exact fi_eq (fun j hj => by rw [h j (by omega)]; exact fi_no Q n j hj) (fun hk => by rw [h _ hk]; exact fi_is Q n hk) a
/-- a loop that looks for the first -/
theorem lo_find {σ β : Type} {F : Nat → Nat → σ → Option β} {S : Nat → σ} {N : Nat} {P : Nat → Bool} {k : Option β} {e : Nat → Option β} (hs : ∀ n j, j < N → P j = false → F (n + 1) j (S j) = F n (j + 1) (S (j + 1))) (hf : ∀ n j, j < N → P j = true → F (n + 1) j (S j) = e j) (he : ∀ n, F (n + 1) N (S N) = k) : ∀ n, N < n → F n 0 (S 0) = if fi P N < N then e (fi P N) else k := by
  intro n hn
  have hle := fi_le P N
  by_cases h : fi P N < N
  · rw [if_pos h]
    exact lo_run (N := fi P N) (fun n j hj => hs n j (by omega) (fi_no P N j hj)) (fun n => hf n _ h (fi_is P N h)) n 0 (by omega) (by omega)
  · rw [if_neg h]
    have e : fi P N = N := by omega
    exact lo_run (N := N) (fun n j hj => hs n j hj (fi_no P N j (by omega))) he n 0 (by omega) (by omega)
theorem i_gtF {a b : Int} (h : ¬ a ≤ b) : (a ≤ b) = False := eq_false h
theorem i_leT {a b : Int} (h : a ≤ b) : (a ≤ b) = True := eq_true h
theorem i_geF {a b : Int} (h : ¬ a < b) : (a < b) = False := eq_false h
theorem i_ltT {a b : Int} (h : a < b) : (a < b) = True := eq_true h
/-- the same from a state that is the loop's first -/
theorem lo_go {σ β : Type} (F : Nat → Nat → σ → Option β) (S : Nat → σ) (z N : Nat) {k : Option β} {n : Nat} {s0 : σ} (h0 : s0 = S z) (hz : z ≤ N) (hn : N - z < n) (hs : ∀ n j, z ≤ j → j < N → F (n + 1) j (S j) = F n (j + 1) (S (j + 1))) (he : ∀ n, F (n + 1) N (S N) = k) : F n z s0 = k := by
  rw [h0]
  have H : ∀ n y, z ≤ y → y ≤ N → N - y < n → F n y (S y) = k := by
    intro n
    induction n with
    | zero => intro y _ _ h; omega
    | succ n ih =>
      intro y hzy hy hn
      by_cases h : y = N
      · rw [h]; exact he n
      · rw [hs n y hzy (by omega)]
        exact ih (y + 1) (by omega) (by omega) (by omega)
  exact H n z (Nat.le_refl _) hz hn
theorem am_Fv {n : Nat} (h : n < 1000000) : n < am_F := h
theorem su_b {f : Nat → Nat} {B : Nat} (h : ∀ c, f c ≤ B) (n : Nat) : su f n ≤ n * B := su_le n (fun c _ => h c)
theorem su_mono {f : Nat → Nat} {a b : Nat} (h : a ≤ b) : su f a ≤ su f b := by
  induction b with
  | zero => rw [Nat.le_zero.mp h]; exact Nat.le_refl _
  | succ b ih =>
    by_cases e : a = b + 1
    · rw [e]; exact Nat.le_refl _
    · exact Nat.le_trans (ih (by omega)) (Nat.le_add_right _ _)
theorem su_s {f : Nat → Nat} (n : Nat) : su f (n + 1) = su f n + f n := rfl
theorem su_i {f : Nat → Nat} (n : Nat) : ((su f (n + 1) : Nat) : Int) = (su f n : Nat) + (f n : Nat) := rfl
theorem i_abs {a : Int} (h1 : -2147483647 ≤ a) (h2 : a ≤ 2147483647) : am_ab (am_i a) = am_i (a.natAbs : Int) := by
  unfold am_ab
  rw [i_zero, i_sub]
  have e := i_le (a := 0) (b := a) (by decide) (by decide) (by omega) h2
  by_cases h : 0 ≤ a
  · rw [if_pos (by rw [e]; exact h)]; congr 1; omega
  · rw [if_neg (by rw [e]; exact h)]; congr 1; omega
/-- a row in the memory, its numbers bounded -/
def Row (m : am_m) (a : Nat) (f : Nat → Nat) : Prop := (∀ c, c < 64 → m a c = am_i (f c)) ∧ ∀ c, f c ≤ 1000000
/-- the same from a state that is the loop's first -/
theorem lo_seek {σ β : Type} (F : Nat → Nat → σ → Option β) (S : Nat → σ) (N : Nat) (P : Nat → Bool) (e : Nat → Option β) (k : Option β) {n : Nat} {s0 : σ} (h0 : s0 = S 0) (hn : N < n) (hs : ∀ n j, j < N → P j = false → F (n + 1) j (S j) = F n (j + 1) (S (j + 1))) (hf : ∀ n j, j < N → P j = true → F (n + 1) j (S j) = e j) (he : ∀ n, F (n + 1) N (S N) = k) : F n 0 s0 = if fi P N < N then e (fi P N) else k := by
  rw [h0]
  exact lo_find hs hf he n hn
theorem ix_own (u c : Nat) : ((72 : Int) + 64 * (u : Int) + (c : Int)).toNat = 72 + 64 * u + c := by omega
theorem ix_sum (u c : Nat) : ((1608 : Int) + 64 * (u : Int) + (c : Int)).toNat = 1608 + 64 * u + c := by omega
theorem ix_ver (u v c : Nat) : ((3168 : Int) + 64 * (8 * (u : Int) + (v : Int)) + (c : Int)).toNat = 3168 + 64 * (8 * u + v) + c := by omega
theorem ix_th (u : Nat) : ((0 : Int) + (u : Int)).toNat = u := by omega
theorem ix_ab (u : Nat) : ((24 : Int) + (u : Int)).toNat = 24 + u := by omega
theorem ix_st (u : Nat) : ((48 : Int) + (u : Int)).toNat = 48 + u := by omega
theorem ix_vm (u : Nat) : ((3144 : Int) + (u : Int)).toNat = 3144 + u := by omega
theorem ix_lim (k : Nat) : ((15468 : Int) + 4 * (k : Int)).toNat = 15468 + 4 * k := by omega
theorem ix_lim1 (k : Nat) : ((15468 : Int) + 4 * (k : Int) + 1).toNat = 15468 + 4 * k + 1 := by omega
theorem ix_lim2 (k : Nat) : ((15468 : Int) + 4 * (k : Int) + 2).toNat = 15468 + 4 * k + 2 := by omega
theorem ix_lim3 (k : Nat) : ((15468 : Int) + 4 * (k : Int) + 3).toNat = 15468 + 4 * k + 3 := by omega
/-- but for these cells all is as it was -/
def Fr (A : Nat → Prop) (m m' : am_m) : Prop := ∀ b, ¬ A b → m' b = m b
theorem Fr.refl (A : Nat → Prop) (m : am_m) : Fr A m m := fun _ _ => rfl
theorem Fr.trans {A : Nat → Prop} {m m' m2 : am_m} (h : Fr A m m') (h2 : Fr A m' m2) : Fr A m m2 := fun b hb => (h2 b hb).trans (h b hb)
theorem Fr.si {A : Nat → Prop} {m : am_m} {a k : Nat} {x : Int32} (h : A a) : Fr A m (am_si m a k x) := fun b hb => by
  funext j
  rw [m_si]
  refine if_neg ?_
  rintro ⟨rfl, _⟩
  exact hb h
theorem Fr.mono {A B : Nat → Prop} {m m' : am_m} (h : Fr A m m') (hAB : ∀ b, A b → B b) : Fr B m m' := fun b hb => h b (fun ha => hb (hAB b ha))
theorem Row.kept {m m' : am_m} {a : Nat} {f : Nat → Nat} {A : Nat → Prop} (h : Row m a f) (hF : Fr A m m') (ha : ¬ A a) : Row m' a f := ⟨fun c hc => by rw [hF a ha]; exact h.1 c hc, h.2⟩
/-- the model's row at a place -/
def RowW (m : am_m) (off : Nat) (f : Nat → Nat) : Prop := (∀ c, c < 64 → m 3262 (off + c) = am_i (f c)) ∧ ∀ c, f c ≤ 1000000
theorem RowW.kept {m m' : am_m} {off : Nat} {f : Nat → Nat} {A : Nat → Prop} (h : RowW m off f) (hF : Fr A m m') (ha : ¬ A 3262) : RowW m' off f := ⟨fun c hc => by rw [hF _ ha]; exact h.1 c hc, h.2⟩
theorem i_neF {a b : Int} (h : ¬ a = b) : (a = b) = False := eq_false h
theorem i_eqT {a b : Int} (h : a = b) : (a = b) = True := eq_true h
def b1 (b : Bool) : Nat := if b = true then 1 else 0
theorem b1T : ((b1 true : Nat) : Int) = 1 := Eq.trans rfl rfl
theorem b1F : ((b1 false : Nat) : Int) = 0 := Eq.trans rfl rfl
