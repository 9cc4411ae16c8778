/-! ===== mathematics: give ===== -/
theorem su_fIn {f : Nat → Nat} {l h : Nat} (hl : l ≤ h) : ∀ n, su (fIn f l h) n + su f (min n l) = su f (min n (h + 1))
  | 0 => rfl
  | n + 1 => by
    have ih := su_fIn (f := f) hl n
    rw [su_s]
    unfold fIn
    by_cases c1 : n < l
    · rw [if_neg (by omega), show min (n + 1) l = n + 1 by omega, show min (n + 1) (h + 1) = n + 1 by omega, su_s]
      rw [show min n l = n by omega, show min n (h + 1) = n by omega] at ih
      unfold fIn at ih
      omega
    · by_cases c2 : n ≤ h
      · rw [if_pos (by omega), show min (n + 1) l = l by omega, show min (n + 1) (h + 1) = n + 1 by omega, su_s]
        rw [show min n l = l by omega, show min n (h + 1) = n by omega] at ih
        unfold fIn at ih
        omega
      · rw [if_neg (by omega), show min (n + 1) l = l by omega, show min (n + 1) (h + 1) = h + 1 by omega]
        rw [show min n l = l by omega, show min n (h + 1) = h + 1 by omega] at ih
        unfold fIn at ih
        omega
theorem su_fIn64 {f : Nat → Nat} {l h : Nat} (hl : l ≤ h) (hh : h < 64) : ((su f (h + 1) : Nat) : Int) - (su f l : Nat) = (su (fIn f l h) 64 : Nat) := by
  have := su_fIn (f := f) hl 64
  rw [show min 64 l = l by omega, show min 64 (h + 1) = h + 1 by omega] at this
  omega
theorem bkAdd_comm {k : Bk} {w v : Nat} {x y : Int32} (h : w ≠ v) : bkAdd (bkAdd k w x) v y = bkAdd (bkAdd k v y) w x := by
  unfold bkAdd bkC
  refine congrArg (fun f => (f, k.2)) (funext fun i => ?_)
  show (if i = v then (if i = w then k.1 i + x else k.1 i) + y else if i = w then k.1 i + x else k.1 i) = if i = w then (if i = v then k.1 i + y else k.1 i) + x else if i = v then k.1 i + y else k.1 i
  by_cases c : i = v
  · rw [if_pos c, if_pos c, if_neg (fun e => h (e.symm.trans c)), if_neg (fun e => h (e.symm.trans c))]
  · rw [if_neg c, if_neg c]
section GI
variable {m : am_m} {r : am_rr} {s : Sx} {g : Og} {u v : Nat}
theorem IG.two (h : IG g) {ow : Nat → Nat → Nat} (hu : u < 24) (hu2 : gU g u ≠ -2) (hv : v < 24) (hv2 : gU g v ≠ -2) (h2 : ∀ k c, ow k c ≤ 9999) (h3 : ∀ k, k ≠ u → k ≠ v → ∀ c, ow k c = gO g k c) : IG (ogO (ogS (ogS g (stU g u)) (stU (ogS g (stU g u)) v)) ow) := by
  have h1 : IG (ogS g (stU g u)) := h.one (ow := gO g) hu hu2 h.2.1 (fun _ _ _ => rfl)
  refine h.gen (st := stU (ogS g (stU g u)) v) (stU_le h1 v) h2 (fun k hk hk2 => ⟨stU_abs h1 hv hv2 hk hk2, fun c => ?_⟩) (fun k hk hk2 hk3 => ?_)
  · rw [h3 k (fun e => hu2 (by rw [← e]; exact hk2)) (fun e => hv2 (by rw [← e]; exact hk2)) c]
    exact (h.2.2.2.2.2.2.1 k hk hk2).2.2.1 c
  · obtain ⟨q1, q2⟩ := stU_0 hk3
    obtain ⟨q3, q4⟩ := stU_0 (g := g) q1
    refine ⟨q3, fun w hw hw2 hw3 c => h3 w (fun e => ?_) (fun e => ?_) c⟩
    · rw [e] at hw3; exact q4 hw3
    · rw [e] at hw3; exact q2 hw3
/-- the own of each unit after a part of u's went to v -/
def gvO (ow : Nat → Nat → Nat) (u v l h : Nat) : Nat → Nat → Nat := fun k c => if k = v then ow v c + fIn (ow u) l h c else if k = u then ow u c - fIn (ow u) l h c else ow k c
theorem gvO_v {ow : Nat → Nat → Nat} {l h c : Nat} : gvO ow u v l h v c = ow v c + fIn (ow u) l h c := if_pos rfl
theorem gvO_u {ow : Nat → Nat → Nat} {l h c : Nat} (n : u ≠ v) : gvO ow u v l h u c = ow u c - fIn (ow u) l h c := by
  unfold gvO
  rw [if_neg n, if_pos rfl]
theorem gvO_o {ow : Nat → Nat → Nat} {l h c k : Nat} (n : k ≠ v) (n2 : k ≠ u) : gvO ow u v l h k c = ow k c := by
  unfold gvO
  rw [if_neg n, if_neg n2]
theorem poM_ow (h : OC m r 4 g) (hR : RI r) (hu : u < 24) (hv : v < 24) (n : u ≠ v) {l t : Nat} (hl : l ≤ t) (ht : t < 64) : OC (poM m (aW 4 u) (aW 4 v) (gO g u) (gO g v) l (t + 1 - l)) r 4 (ogO g (gvO (gO g) u v l t)) := by
  have nv : aW 4 v ≠ aW 4 u := by unfold aW; omega
  refine h.ow hR og4 (fun b hb => poM_F b (fun e => hb ?_)) (fun k hk c hc => ?_)
  · unfold aW at e; omega
  · show (if aW 4 k = aW 4 v ∧ l ≤ c ∧ c < l + (t + 1 - l) then am_i ((gO g v c + gO g u c : Nat) : Int) else if aW 4 k = aW 4 u ∧ l ≤ c ∧ c < l + (t + 1 - l) then am_i 0 else m (aW 4 k) c) = _
    by_cases c1 : k = v
    · rw [c1, gvO_v]
      unfold fIn
      by_cases c2 : l ≤ c ∧ c ≤ t
      · rw [if_pos ⟨rfl, c2.1, by omega⟩, if_pos c2]
      · rw [if_neg (by omega), if_neg (fun e => nv e.1), if_neg c2]
        exact h.2.2.1 v hv c hc
    · rw [if_neg (fun e => c1 (by have := e.1; unfold aW at this; omega))]
      by_cases c3 : k = u
      · rw [c3, gvO_u n]
        unfold fIn
        by_cases c2 : l ≤ c ∧ c ≤ t
        · rw [if_pos ⟨rfl, c2.1, by omega⟩, if_pos c2, Nat.sub_self]; rfl
        · rw [if_neg (by omega), if_neg c2]
          exact h.2.2.1 u hu c hc
      · rw [if_neg (fun e => c3 (by have := e.1; unfold aW at this; omega)), gvO_o c1 c3]
        exact h.2.2.1 k hk c hc
theorem tkM_ow (h : OM m 3262 0 g) (hu : u < 24) (hv : v < 24) (n : u ≠ v) {l t : Nat} : OM (tkM m u v (gO g u) (gO g v) (fIn (gO g u) l t) 64) 3262 0 (ogO g (gvO (gO g) u v l t)) := by
  refine h.ow (fun i hi => ?_) (fun k hk c hc => ?_)
  · show (if 3262 = 3262 ∧ 72 + 64 * v ≤ i ∧ i < 72 + 64 * v + 64 then _ else if 3262 = 3262 ∧ 72 + 64 * u ≤ i ∧ i < 72 + 64 * u + 64 then _ else m 3262 i) = _
    rw [if_neg (by omega), if_neg (by omega)]
  · show (if 3262 = 3262 ∧ 72 + 64 * v ≤ 72 + 64 * k + c ∧ 72 + 64 * k + c < 72 + 64 * v + 64 then am_i ((gO g v (72 + 64 * k + c - (72 + 64 * v)) + fIn (gO g u) l t (72 + 64 * k + c - (72 + 64 * v)) : Nat) : Int) else if 3262 = 3262 ∧ 72 + 64 * u ≤ 72 + 64 * k + c ∧ 72 + 64 * k + c < 72 + 64 * u + 64 then am_i ((gO g u (72 + 64 * k + c - (72 + 64 * u)) - fIn (gO g u) l t (72 + 64 * k + c - (72 + 64 * u)) : Nat) : Int) else m 3262 (72 + 64 * k + c)) = _
    by_cases c1 : k = v
    · rw [if_pos (by omega), c1, gvO_v, show 72 + 64 * v + c - (72 + 64 * v) = c by omega]
    · rw [if_neg (by omega)]
      by_cases c3 : k = u
      · rw [if_pos (by omega), c3, gvO_u n, show 72 + 64 * u + c - (72 + 64 * u) = c by omega]
      · rw [if_neg (by omega), gvO_o c1 c3]
        have := h.2.2.2.1 k hk c hc
        rwa [Nat.zero_add] at this
theorem fIn_le' {f : Nat → Nat} {l t c : Nat} : fIn f l t c ≤ f c := by
  unfold fIn
  split <;> omega
theorem gvO_9 {ow : Nat → Nat → Nat} {l t : Nat} (n : u ≠ v) (h : ∀ k c, ow k c ≤ 9999) (hl : l ≤ t) (hf : ftB (ow u) (ow v) l (t + 1 - l) = true) (k c : Nat) : gvO ow u v l t k c ≤ 9999 := by
  by_cases c1 : k = v
  · rw [c1, gvO_v]
    unfold fIn
    by_cases c2 : l ≤ c ∧ c ≤ t
    · rw [if_pos c2]
      have := ftB_i hf c c2.1 (by omega)
      omega
    · rw [if_neg c2]
      exact h v c
  · by_cases c3 : k = u
    · rw [c3, gvO_u n]
      have := h u c
      omega
    · rw [gvO_o c1 c3]; exact h k c
theorem s_X9_takes (h : OM m 3262 0 g) (hI : IG g) (hu : u < 24) (hv : v < 24) (n : u ≠ v) {l t : Nat} {B : Bk} (hB : BM m 3262 B) (hl : l < 64) (ht : t < 64) : ∃ m', m_X9_takes m (am_i u) (am_i v) (am_i l) (am_i t) = some (am_i (com (fIn (gO g u) l t) (gO g v) : Nat), m') ∧ Fr (fun b => b = 3262 ∨ b = 3266 ∨ b = 3267) m m' ∧ OM m' 3262 0 (ogO g (gvO (gO g) u v l t)) ∧ BM m' 3262 (bkAdd (bkAdd B 0 (am_i (com (fIn (gO g u) l t) (gO g v) : Nat))) 2 (am_i 1)) := by
  unfold m_X9_takes
  have hf := h.own hI hu
  have hg := h.own hI hv
  rw [l_X9_takes_3 hu hf hl ht]
  have nb1 : ∀ b, b ≠ 3266 → rwS m 3266 (fun c => am_i (fIn (gO g u) l t c : Nat)) b = m b := fun b hb => rwS_ne hb
  have r1 : Row (rwS m 3266 (fun c => am_i (fIn (gO g u) l t c : Nat))) 3266 (fIn (gO g u) l t) := ⟨fun c hc => rwS_at hc, fIn_le hf.2⟩
  generalize rwS m 3266 (fun c => am_i (fIn (gO g u) l t c : Nat)) = m1 at nb1 r1 ⊢
  have hg1 : RowW m1 (72 + 64 * v) (gO g v) := ⟨fun c hc => by rw [nb1 3262 (by decide)]; exact hg.1 c hc, hg.2⟩
  obtain ⟨m2, e2, f2, r2⟩ := s_X9_lays hg1 (by omega) (show 3267 ≠ 3262 by decide)
  have r1' : Row m2 3266 (fIn (gO g u) l t) := ⟨fun c hc => by rw [f2 3266 (by decide)]; exact r1.1 c hc, r1.2⟩
  have w2 : m2 3262 = m 3262 := by rw [f2 3262 (by decide), nb1 3262 (by decide)]
  have hf2 : RowW m2 (72 + 64 * u) (gO g u) := ⟨fun c hc => by rw [w2]; exact hf.1 c hc, hf.2⟩
  have hg2 : RowW m2 (72 + 64 * v) (gO g v) := ⟨fun c hc => by rw [w2]; exact hg.1 c hc, hg.2⟩
  have o2 : OM m2 3262 0 g := h.kept (fun i _ => by rw [w2])
  have o3 := tkM_ow (l := l) (t := t) o2 hu hv n
  have hB3 : BM (tkM m2 u v (gO g u) (gO g v) (fIn (gO g u) l t) 64) 3262 B := hB.copy (fun i i1 i2 => by
    show (if 3262 = 3262 ∧ 72 + 64 * v ≤ i ∧ i < 72 + 64 * v + 64 then _ else if 3262 = 3262 ∧ 72 + 64 * u ≤ i ∧ i < 72 + 64 * u + 64 then _ else m2 3262 i) = _
    rw [if_neg (by omega), if_neg (by omega), w2])
  obtain ⟨m4, e4, f4, hB4⟩ := s_X9_counts (w := 0) (x := am_i (com (fIn (gO g u) l t) (gO g v) : Nat)) hB3 (by decide)
  obtain ⟨m5, e5, f5, hB5⟩ := s_X9_counts (w := 2) (x := am_i 1) hB4 (by decide)
  refine ⟨m5, ?_, fun b hb => ?_, (o3.fk f4).fk f5, hB5⟩
  · have ea : am_i 72 + am_i 64 * am_i (v : Int) = am_i ((72 + 64 * v : Nat) : Int) := by rw [i_mul, i_add]; rfl
    unfold m_X9_ownAt
    rw [Option.bind_some, ea, e2, Option.bind_some, s_X9_common r1' r2, Option.bind_some, l_X9_takes_78 hu hv n hf2 hg2 r1' (fun c => fIn_le')]
    rw [show m_X9_counts (tkM m2 u v (gO g u) (gO g v) (fIn (gO g u) l t) 64) (am_i 0) _ = some m4 from e4, Option.bind_some, show m_X9_counts m4 (am_i 2) (am_i 1) = some m5 from e5, Option.bind_some]
  · rw [f5.1 b (fun e => hb (Or.inl e)), f4.1 b (fun e => hb (Or.inl e)), tkM_ne (fun e => hb (Or.inl e)), f2 b (fun e => hb (Or.inr (Or.inr e))), nb1 b (fun e => hb (Or.inr (Or.inl e)))]
end GI
