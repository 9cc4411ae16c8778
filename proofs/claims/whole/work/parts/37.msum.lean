/-! ===== mathematics, 8: sums of branches by what lies right below ===== -/
theorem su_0 {f : Nat → Nat} {n : Nat} (h : ∀ c, c < n → f c = 0) : su f n = 0 := by
  induction n with
  | zero => rfl
  | succ n ih => rw [su_s, ih (fun c hc => h c (by omega)), h n (by omega)]
theorem su_add (f g : Nat → Nat) (n : Nat) : su (fun c => f c + g c) n = su f n + su g n := by
  induction n with
  | zero => rfl
  | succ n ih => rw [su_s, su_s, su_s, ih]; omega
theorem su_swap (f : Nat → Nat → Nat) (a b : Nat) : su (fun i => su (fun j => f i j) b) a = su (fun j => su (fun i => f i j) a) b := by
  induction a with
  | zero => exact (su_0 (fun _ _ => rfl)).symm
  | succ a ih =>
    rw [su_s, ih, ← su_add]
    rfl
/-- one alone counts -/
theorem su_one {f : Nat → Nat} {n k : Nat} (hk : k < n) (h : ∀ c, c < n → c ≠ k → f c = 0) : su f n = f k := by
  induction n with
  | zero => omega
  | succ n ih =>
    rw [su_s]
    by_cases e : k = n
    · rw [su_0 (fun c hc => h c (by omega) (by omega)), e, Nat.zero_add]
    · rw [ih (by omega) (fun c hc hn => h c (by omega) hn), h n (by omega) (fun e2 => e e2.symm), Nat.add_zero]
section MSUM
variable {up : Nat → Int} {d : Nat → Nat} {ow : Nat → Nat → Nat}
theorem inB_i {u t j : Nat} (h : an up u j = t) (hj : j ≤ d u) : inB up d u t = true := by
  unfold inB
  rw [decide_eq_true_eq]
  rcases Nat.lt_or_ge (fi (fun j => an up u j == (t : Int)) (d u + 1)) (d u + 1) with h2 | h2
  · exact h2
  · have h3 := fi_no (fun j => an up u j == (t : Int)) (d u + 1) j (by omega)
    simp only [h] at h3
    rw [beq_self_eq_true] at h3
    cases h3
theorem inB_e {u t : Nat} (hT : Tr up d) (hu : u < 24) (hu2 : up u ≠ -2) (h : inB up d u t = true) : ∃ j, j ≤ d u ∧ an up u j = t ∧ d u = d t + j := by
  unfold inB at h
  have h := of_decide_eq_true h
  have h2 := fi_is _ _ h
  have h2 := eq_of_beq h2
  obtain ⟨p, g1, g2, g3, g4⟩ := hT.anc hu hu2 _ (Nat.le_of_lt_succ h)
  rw [g2] at h2
  have e : p = t := by omega
  have e2 : d p = d t := by rw [e]
  exact ⟨_, Nat.le_of_lt_succ h, by rw [g2, e], by rw [← e2]; exact g4⟩
theorem inB_self (u : Nat) : inB up d u u = true := inB_i (j := 0) rfl (Nat.zero_le _)
/-- in the branch of t: t itself, or in the branch of one right below -/
theorem inB_low {k t : Nat} (hT : Tr up d) (hk : k < 24) (hk2 : up k ≠ -2) (h : inB up d k t = true) (hn : k ≠ t) : ∃ q, q < 24 ∧ up q = t ∧ inB up d k q = true ∧ ∀ q', q' < 24 → up q' = t → inB up d k q' = true → q' = q := by
  obtain ⟨j, h1, h2, h3⟩ := inB_e hT hk hk2 h
  have hj : j ≠ 0 := fun e => hn (by rw [e] at h2; have : (k : Int) = t := h2; omega)
  obtain ⟨q, g1, g2, g3, g4⟩ := hT.anc hk hk2 (j - 1) (by omega)
  have e : an up k j = up q := by
    have := Tr.nx g2
    rwa [show j - 1 + 1 = j by omega] at this
  refine ⟨q, g1, by rw [← e, h2], inB_i g2 (by omega), fun q' hq hq2 hq3 => ?_⟩
  obtain ⟨j', f1, f2, f3⟩ := inB_e hT hk hk2 hq3
  have hq' : up q' ≠ -2 := by omega
  rcases hT.up hq hq' with ⟨-, e2⟩ | ⟨-, p, p1, p2, p3, p4⟩
  · omega
  have hp : p = t := by omega
  have : j' = j - 1 := by rw [hp] at p4; omega
  rw [this, g2] at f2
  omega
theorem inB_up {k q t : Nat} (hT : Tr up d) (hk : k < 24) (hk2 : up k ≠ -2) (hq : q < 24) (hqt : up q = t) (h : inB up d k q = true) : inB up d k t = true ∧ k ≠ t := by
  obtain ⟨j', f1, f2, f3⟩ := inB_e hT hk hk2 h
  have hq' : up q ≠ -2 := by omega
  rcases hT.up hq hq' with ⟨-, e2⟩ | ⟨-, p, p1, p2, p3, p4⟩
  · omega
  have hp : p = t := by omega
  rw [hp] at p4
  refine ⟨inB_i (j := j' + 1) (by rw [Tr.nx f2, hqt]) (by omega), fun e => ?_⟩
  rw [e] at f3
  omega
/-- the sum of a branch: its own and the sums of what lies right below -/
theorem br_low {t : Nat} (hT : Tr up d) (ht : t < 24) (ht2 : up t ≠ -2) (c : Nat) : br up d ow t c = ow t c + su (fun q => if up q = t then br up d ow q c else 0) 24 := by
  have e : ∀ k, k < 24 → brP up d ow t c k = (if k = t then ow t c else 0) + su (fun q => if up q = t then brP up d ow q c k else 0) 24 := by
    intro k hk
    by_cases c0 : up k = -2
    · rw [if_neg (fun e => ht2 (by rw [← e]; exact c0)), su_0 (fun q _ => by split; (unfold brP; rw [thr_f c0]; rfl); rfl)]
      unfold brP
      rw [thr_f c0]
      rfl
    · by_cases c1 : k = t
      · rw [if_pos c1, su_0 (fun q hq => ?_)]
        · unfold brP
          rw [thr_t hk c0, c1, inB_self]
          rfl
        · by_cases c2 : up q = t
          · rw [if_pos c2]
            unfold brP
            cases e2 : inB up d k q
            · rw [Bool.and_false]; rfl
            · exact absurd c1 (inB_up hT hk c0 hq c2 e2).2
          · rw [if_neg c2]
      · rw [if_neg c1, Nat.zero_add]
        cases e2 : inB up d k t
        · rw [su_0 (fun q hq => ?_)]
          · unfold brP; rw [e2, Bool.and_false]; rfl
          · by_cases c2 : up q = t
            · rw [if_pos c2]
              unfold brP
              cases e3 : inB up d k q
              · rw [Bool.and_false]; rfl
              · rw [(inB_up hT hk c0 hq c2 e3).1] at e2; cases e2
            · rw [if_neg c2]
        · obtain ⟨q, q1, q2, q3, q4⟩ := inB_low hT hk c0 e2 c1
          rw [su_one q1 (fun q' hq' hn => ?_)]
          · show _ = if up q = t then _ else 0
            rw [if_pos q2]
            unfold brP
            rw [e2, q3]
          · show (if up q' = t then brP up d ow q' c k else 0) = 0
            by_cases c2 : up q' = t
            · rw [if_pos c2]
              unfold brP
              cases e3 : inB up d k q'
              · rw [Bool.and_false]; rfl
              · exact absurd (q4 q' hq' c2 e3) hn
            · rw [if_neg c2]
  unfold br
  rw [su_congr 24 e, su_add, su_one ht (fun k _ hn => if_neg hn), if_pos rfl, su_swap]
  congr 1
  refine su_congr 24 (fun q hq => ?_)
  by_cases c2 : up q = t
  · simp only [c2, if_true]
  · simp only [c2, if_false]
    exact su_0 (fun _ _ => rfl)
end MSUM
