/-! ===== mathematics: leaders, their ranks ===== -/
/-- d is in the row and leads c -/
def ahd (f : Nat → Nat) (d c : Nat) : Bool := decide (0 < f d ∧ (f c < f d ∨ (f d = f c ∧ d < c)))
def rk (f : Nat → Nat) (c : Nat) : Nat := cn (fun d => ahd f d c) 64
def ldA (f : Nat → Nat) (i : Int) : Nat := fi (fun c => decide (0 < f c) && ((rk f c : Nat) : Int) == i) 64
def ldI (f : Nat → Nat) (i : Int) : Int := if ldA f i < 64 then (ldA f i : Int) else -1
/-- the best of those that P holds of -/
def bsL (f : Nat → Nat) (P : Nat → Bool) : Nat → Int
  | 0 => -1
  | j + 1 => if P j = true then (if bsL f P j = -1 then (j : Int) else if f (bsL f P j).toNat < f j then (j : Int) else bsL f P j) else bsL f P j
/-- those behind L, all if it is none -/
def aft (f : Nat → Nat) (L : Int) (c : Nat) : Bool := decide (0 < f c) && (decide (L < 0) || decide (f c < f L.toNat ∨ f L.toNat = f c ∧ L.toNat < c))
theorem bsL_r (f : Nat → Nat) (P : Nat → Bool) : ∀ j, (bsL f P j = -1 ∧ ∀ c, c < j → P c = false) ∨ ∃ b : Nat, b < j ∧ bsL f P j = b ∧ P b = true ∧ ∀ c, c < j → P c = true → c ≠ b → (f c < f b ∨ f b = f c ∧ b < c) := by
  intro j
  induction j with
  | zero => exact Or.inl ⟨rfl, fun c h => absurd h (Nat.not_lt_zero _)⟩
  | succ j ih =>
    show ((if P j = true then (if bsL f P j = -1 then (j : Int) else if f (bsL f P j).toNat < f j then (j : Int) else bsL f P j) else bsL f P j) = -1 ∧ _) ∨ ∃ b : Nat, _ ∧ (if P j = true then (if bsL f P j = -1 then (j : Int) else if f (bsL f P j).toNat < f j then (j : Int) else bsL f P j) else bsL f P j) = _ ∧ _
    by_cases hp : P j = true
    · rw [if_pos hp]
      refine Or.inr ?_
      rcases ih with ⟨h1, h2⟩ | ⟨b, h1, h2, h3, h4⟩
      · rw [if_pos h1]
        refine ⟨j, by omega, rfl, hp, fun c hc hc2 hc3 => ?_⟩
        rw [h2 c (by omega)] at hc2
        cases hc2
      · rw [h2, if_neg (by omega), Int.toNat_natCast]
        by_cases hf : f b < f j
        · rw [if_pos hf]
          refine ⟨j, by omega, rfl, hp, fun c hc hc2 hc3 => ?_⟩
          by_cases e : c = b
          · rw [e]; exact Or.inl hf
          · have := h4 c (by omega) hc2 e
            omega
        · rw [if_neg hf]
          refine ⟨b, by omega, rfl, h3, fun c hc hc2 hc3 => ?_⟩
          by_cases e : c = j
          · rw [e]; omega
          · exact h4 c (by omega) hc2 hc3
    · rw [if_neg hp]
      rcases ih with ⟨h1, h2⟩ | ⟨b, h1, h2, h3, h4⟩
      · refine Or.inl ⟨h1, fun c hc => ?_⟩
        by_cases e : c = j
        · rw [e]; exact Bool.eq_false_iff.mpr hp
        · exact h2 c (by omega)
      · refine Or.inr ⟨b, by omega, h2, h3, fun c hc hc2 hc3 => ?_⟩
        by_cases e : c = j
        · rw [e] at hc2; exact absurd hc2 hp
        · exact h4 c (by omega) hc2 hc3
theorem bsL_b (f : Nat → Nat) (P : Nat → Bool) (j : Nat) : bsL f P j = -1 ∨ ∃ b : Nat, b < j ∧ bsL f P j = b := by
  rcases bsL_r f P j with ⟨h, _⟩ | ⟨b, h1, h2, _⟩
  · exact Or.inl h
  · exact Or.inr ⟨b, h1, h2⟩
theorem cn_mono {P Q : Nat → Bool} : ∀ n, (∀ k, k < n → P k = true → Q k = true) → cn P n ≤ cn Q n := by
  intro n
  induction n with
  | zero => intro _; exact Nat.le_refl _
  | succ n ih =>
    intro h
    have h1 := ih (fun k hk => h k (by omega))
    have h2 : b1 (P n) ≤ b1 (Q n) := by
      cases c : P n
      · exact Nat.zero_le _
      · rw [h n (by omega) c]; exact Nat.le_refl _
    show cn P n + b1 (P n) ≤ cn Q n + b1 (Q n)
    omega
/-- one more -/
theorem cn_one {P Q : Nat → Bool} {n k : Nat} (hk : k < n) (h : ∀ j, j < n → j ≠ k → P j = Q j) (h1 : P k = false) (h2 : Q k = true) : cn Q n = cn P n + 1 := by
  have e : cn Q n = su (fun j => b1 (P j) + b1 (decide (j = k))) n := su_congr n (fun j hj => by
    show b1 (Q j) = _
    by_cases c : j = k
    · rw [c, h1, h2]; simp [b1]
    · rw [h j hj c, decide_eq_false c]; rfl)
  rw [e, su_add, su_one (f := fun j => b1 (decide (j = k))) hk (fun c _ hc => by show b1 _ = 0; rw [decide_eq_false hc]; rfl)]
  simp [b1, cn]
theorem cn_lt {P Q : Nat → Bool} {n k : Nat} (hk : k < n) (h : ∀ j, j < n → P j = true → Q j = true) (h1 : P k = false) (h2 : Q k = true) : cn P n < cn Q n := by
  have e : cn (fun j => P j || decide (j = k)) n = cn P n + 1 := cn_one hk (fun j _ hj => by simp [hj]) h1 (by simp)
  have e2 : cn (fun j => P j || decide (j = k)) n ≤ cn Q n := cn_mono n (fun j hj hj2 => by
    rcases (Bool.or_eq_true _ _).mp hj2 with c | c
    · exact h j hj c
    · rw [of_decide_eq_true c]; exact h2)
  omega
section LD
variable {f : Nat → Nat}
theorem ahd_i {d c : Nat} : ahd f d c = true ↔ 0 < f d ∧ (f c < f d ∨ (f d = f c ∧ d < c)) := by unfold ahd; exact decide_eq_true_iff
theorem ahd_n (c : Nat) : ahd f c c = false := by
  apply Bool.eq_false_iff.mpr
  rw [Ne, ahd_i]
  omega
theorem rk_lt {b c : Nat} (hb : b < 64) (h : ahd f b c = true) : rk f b < rk f c := by
  refine cn_lt hb (fun j hj hj2 => ?_) (ahd_n b) h
  have a1 := ahd_i.mp hj2
  have a2 := ahd_i.mp h
  exact ahd_i.mpr (by omega)
theorem rk_inj {b c : Nat} (hb : b < 64) (hc : c < 64) (hb2 : 0 < f b) (hc2 : 0 < f c) (h : rk f b = rk f c) : b = c := by
  by_cases e : b = c
  · exact e
  · by_cases h2 : ahd f b c = true
    · have := rk_lt hb h2; omega
    · have h3 : ahd f c b = true := by
        rw [ahd_i] at h2 ⊢
        omega
      have := rk_lt hc h3; omega
theorem ldI_of {b : Nat} {i : Int} (hb : b < 64) (hb2 : 0 < f b) (h : ((rk f b : Nat) : Int) = i) : ldI f i = b := by
  have e : ldA f i = b := by
    refine fi_eq (fun j hj => ?_) (fun _ => ?_) (by omega)
    · show (decide (0 < f j) && ((rk f j : Nat) : Int) == i) = false
      apply Bool.eq_false_iff.mpr
      intro h2
      rw [Bool.and_eq_true] at h2
      have h3 := of_decide_eq_true h2.1
      have h4 : ((rk f j : Nat) : Int) = i := by simpa using h2.2
      have := rk_inj (f := f) (b := j) (c := b) (by omega) hb h3 hb2 (by omega)
      omega
    · show (decide (0 < f b) && ((rk f b : Nat) : Int) == i) = true
      simp [hb2, h]
  unfold ldI
  rw [e, if_pos hb]
theorem ldA_is {i : Int} (q : ldA f i < 64) : (decide (0 < f (ldA f i)) && ((rk f (ldA f i) : Nat) : Int) == i) = true := by
  unfold ldA at q ⊢
  exact fi_is (fun c => decide (0 < f c) && ((rk f c : Nat) : Int) == i) 64 q
theorem ldI_no {i : Int} (h : ∀ c, c < 64 → 0 < f c → ((rk f c : Nat) : Int) ≠ i) : ldI f i = -1 := by
  unfold ldI
  refine if_neg (fun q => ?_)
  have h1 := ldA_is q
  rw [Bool.and_eq_true] at h1
  exact h _ q (of_decide_eq_true h1.1) (by simpa using h1.2)
theorem ldI_is {i : Int} (h : ldI f i ≠ -1) : ∃ b, b < 64 ∧ 0 < f b ∧ ((rk f b : Nat) : Int) = i ∧ ldI f i = b ∧ ldA f i = b := by
  unfold ldI at h ⊢
  by_cases q : ldA f i < 64
  · have h1 := ldA_is q
    rw [Bool.and_eq_true] at h1
    exact ⟨ldA f i, q, of_decide_eq_true h1.1, by simpa using h1.2, if_pos q, rfl⟩
  · rw [if_neg q] at h
    exact absurd rfl h
theorem ldI_r (i : Int) : -1 ≤ ldI f i ∧ ldI f i < 64 := by
  unfold ldI
  split <;> omega
/-- the first of all -/
theorem ld_first : bsL f (aft f (-1)) 64 = ldI f 0 := by
  rcases bsL_r f (aft f (-1)) 64 with ⟨h1, h2⟩ | ⟨b, h1, h2, h3, h4⟩
  · rw [h1, ldI_no]
    intro c hc hc2
    have := h2 c hc
    unfold aft at this
    simp at this
    omega
  · rw [h2]
    have hb : 0 < f b := by unfold aft at h3; simp at h3; exact h3
    refine (ldI_of h1 hb ?_).symm
    have : rk f b = 0 := su_0 (fun d hd => by
      show b1 (ahd f d b) = 0
      have : ahd f d b = false := by
        apply Bool.eq_false_iff.mpr
        intro q
        have q2 := ahd_i.mp q
        by_cases e : d = b
        · rw [e] at q2; omega
        · have := h4 d hd (by unfold aft; simp; exact q2.1) e
          omega
      rw [this]; rfl)
    omega
/-- the next behind one -/
theorem ld_next {i : Int} (h : ldI f i ≠ -1) : bsL f (aft f (ldI f i)) 64 = ldI f (i + 1) := by
  obtain ⟨L, g1, g2, g3, g4, g5⟩ := ldI_is h
  have aI : ∀ c, aft f L c = true ↔ 0 < f c ∧ (f c < f L ∨ f L = f c ∧ L < c) := by
    intro c
    unfold aft
    rw [Bool.and_eq_true, Bool.or_eq_true, decide_eq_true_iff, decide_eq_true_iff, decide_eq_true_iff, Int.toNat_natCast]
    omega
  rw [g4]
  rcases bsL_r f (aft f L) 64 with ⟨h1, h2⟩ | ⟨b, h1, h2, h3, h4⟩
  · rw [h1, ldI_no]
    intro c hc hc2 hc3
    by_cases e : c = L
    · rw [e] at hc3; omega
    · have n : ¬ (aft f L c = true) := by rw [h2 c hc]; decide
      rw [aI] at n
      have : rk f c < rk f L := rk_lt hc (ahd_i.mpr (by omega))
      omega
  · rw [h2]
    have hb := (aI b).mp h3
    refine (ldI_of h1 hb.1 ?_).symm
    have : rk f b = rk f L + 1 := by
      refine cn_one g1 (fun d hd hd2 => ?_) (ahd_n L) (ahd_i.mpr ⟨g2, by omega⟩)
      show ahd f d L = ahd f d b
      by_cases q : ahd f d L = true
      · have q2 := ahd_i.mp q
        rw [q, ahd_i.mpr ⟨q2.1, by omega⟩]
      · rw [Bool.eq_false_iff.mpr q]
        refine (Bool.eq_false_iff.mpr (fun q2 => ?_)).symm
        have q3 := ahd_i.mp q2
        rw [ahd_i] at q
        by_cases e : d = b
        · rw [e] at q3; omega
        · have := h4 d hd ((aI d).mpr (by omega)) e
          omega
    omega
theorem ldI_neg {i : Int} (h : i < 0) : ldI f i = -1 := ldI_no (fun c _ _ => by omega)
/-- if there is none of this rank, all have less -/
theorem ld_key : ∀ i : Nat, ldI f (i : Int) = -1 → ∀ c, c < 64 → 0 < f c → rk f c < i := by
  intro i
  induction i with
  | zero =>
    intro h c hc hc2
    have e := ld_first (f := f)
    rw [show ((0 : Nat) : Int) = 0 from rfl] at h
    rw [h] at e
    rcases bsL_r f (aft f (-1)) 64 with ⟨h1, h2⟩ | ⟨b, h1, h2, _⟩
    · have n := h2 c hc
      unfold aft at n
      rw [decide_eq_true hc2] at n
      cases n
    · omega
  | succ k ih =>
    intro h c hc hc2
    by_cases q : ldI f (k : Int) = -1
    · have := ih q c hc hc2; omega
    · obtain ⟨L, g1, g2, g3, g4, g5⟩ := ldI_is q
      have e2 := ld_next q
      rw [show (k : Int) + 1 = ((k + 1 : Nat) : Int) from rfl, h, g4] at e2
      rcases bsL_r f (aft f L) 64 with ⟨h1, h2⟩ | ⟨b, h1, h2, _⟩
      · by_cases e3 : c = L
        · rw [e3]; omega
        · have n := h2 c hc
          have n3 : ahd f c L = true := by
            unfold aft at n
            rw [Int.toNat_natCast] at n
            have n2 : ¬ (f c < f L ∨ f L = f c ∧ L < c) := by
              intro z
              rw [decide_eq_true hc2, decide_eq_true z, Bool.or_true] at n
              cases n
            exact ahd_i.mpr (by omega)
          have := rk_lt hc n3
          omega
      · omega
/-- if there is none, there is none behind -/
theorem ldI_end {i j : Nat} (h : ldI f (i : Int) = -1) (hij : i ≤ j) : ldI f (j : Int) = -1 :=
  ldI_no (fun c hc hc2 => by have := ld_key i h c hc hc2; omega)
theorem ldI_64 {j : Int} (h : 64 ≤ j) : ldI f j = -1 := by
  refine ldI_no (fun c hc hc2 => ?_)
  have h1 : rk f c < cn (fun _ => true) 64 := cn_lt hc (fun _ _ _ => rfl) (ahd_n c) rfl
  have h2 := cn_le (fun _ => true) 64
  omega
/-- what the leader of this rank has -/
def lv (f : Nat → Nat) (i : Nat) : Nat := if ldA f i < 64 then f (ldA f i) else 0
theorem lv_su (i : Nat) : lv f i = su (fun c => if 0 < f c ∧ rk f c = i then f c else 0) 64 := by
  unfold lv
  by_cases q : ldI f (i : Int) = -1
  · have q2 : ¬ ldA f i < 64 := by
      intro z; unfold ldI at q; rw [if_pos z] at q; omega
    rw [if_neg q2, su_0]
    intro c hc
    refine if_neg (fun z => ?_)
    have := ldI_of (f := f) (i := (i : Int)) hc z.1 (by omega)
    omega
  · obtain ⟨L, g1, g2, g3, g4, g5⟩ := ldI_is q
    rw [g5, if_pos g1, su_one (k := L) g1]
    · exact (if_pos ⟨g2, by omega⟩).symm
    · intro c hc hcL
      refine if_neg (fun z => hcL ?_)
      exact rk_inj hc g1 z.1 g2 (by omega)
/-- the first k leaders have together what all of less rank have -/
theorem lv_all (k : Nat) : su (lv f) k = su (fun c => if 0 < f c ∧ rk f c < k then f c else 0) 64 := by
  rw [su_congr k (g := fun i => su (fun c => if 0 < f c ∧ rk f c = i then f c else 0) 64) (fun i _ => lv_su i), su_swap]
  refine su_congr 64 (fun c hc => ?_)
  by_cases h : 0 < f c ∧ rk f c < k
  · rw [if_pos h, su_one (k := rk f c) h.2 (fun i _ hi => if_neg (fun z => hi z.2.symm)), if_pos ⟨h.1, rfl⟩]
  · rw [if_neg h]
    exact su_0 (fun i hi => if_neg (fun z => h ⟨z.1, by omega⟩))
theorem lv_le (k : Nat) : su (lv f) k ≤ su f 64 := by
  rw [lv_all]
  have : ∀ n, su (fun c => if 0 < f c ∧ rk f c < k then f c else 0) n ≤ su f n := by
    intro n
    induction n with
    | zero => exact Nat.le_refl _
    | succ n ih =>
      show su _ n + (if 0 < f n ∧ rk f n < k then f n else 0) ≤ su f n + f n
      split <;> omega
  exact this 64
theorem lv_end {k : Nat} (h : ldI f (k : Int) = -1) : su (lv f) k = su f 64 := by
  rw [lv_all]
  refine su_congr 64 (fun c hc => ?_)
  by_cases h0 : f c = 0
  · rw [h0]; split <;> rfl
  · exact if_pos ⟨by omega, ld_key k h c hc (by omega)⟩
end LD
