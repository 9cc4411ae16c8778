/-! ===== mathematics: acts, the pieces; add ===== -/
/-- an organisation with other stale ones, other own -/
def ogS (g : Og) (st : Nat → Nat) : Og := (gU g, gD g, st, gO g, gM g, gC g, gV g)
def ogO (g : Og) (ow : Nat → Nat → Nat) : Og := (gU g, gD g, gS g, ow, gM g, gC g, gV g)
/-- what is stale when u's sum lacks something -/
def stU (g : Og) (u : Nat) (k : Nat) : Nat := if inB (gU g) (gD g) u k = true then 1 else gS g k
def ow1 (ow : Nat → Nat → Nat) (u c x : Nat) : Nat → Nat → Nat := fun k e => if k = u ∧ e = c then x else ow k e
section AC
variable {m m' : am_m} {r : am_rr} {o : Nat} {g : Og}
theorem OC.st (h : OC m r o g) (hR : RI r) (ho : am_og o) {st : Nat → Nat} (f : Fr (fun b => b = aS o) m m') (hs : ∀ u, u < 24 → m' (aS o) u = am_i (st u)) : OC m' r o (ogS g st) := by
  refine ⟨fun u hu => ?_, hs, fun u hu c hc => ?_, fun u hu c hc => ?_, fun u hu => ?_, fun u hu v hv hv2 c hc => ?_⟩
  · rw [f _ (by unfold aU aS; omega)]; exact h.1 u hu
  · rw [f _ (by unfold aW aS; omega)]; exact h.2.2.1 u hu c hc
  · rw [f _ (by unfold aX aS; omega)]; exact h.2.2.2.1 u hu c hc
  · rw [f _ (by unfold aC aS; omega)]; exact h.2.2.2.2.1 u hu
  · have := vr_r hR ho (j := 8 * u + v) (by omega)
    rw [f _ (by unfold aS; omega)]; exact h.2.2.2.2.2 u hu v hv hv2 c hc
theorem OC.ow (h : OC m r o g) (hR : RI r) (ho : am_og o) {ow : Nat → Nat → Nat} (f : Fr (fun b => o + 4 ≤ b ∧ b < o + 28) m m') (hs : ∀ u, u < 24 → ∀ c, c < 64 → m' (aW o u) c = am_i (ow u c)) : OC m' r o (ogO g ow) := by
  refine ⟨fun u hu => ?_, fun u hu => ?_, hs, fun u hu c hc => ?_, fun u hu => ?_, fun u hu v hv hv2 c hc => ?_⟩
  · rw [f _ (by unfold aU; omega)]; exact h.1 u hu
  · rw [f _ (by unfold aS; omega)]; exact h.2.1 u hu
  · rw [f _ (by unfold aX; omega)]; exact h.2.2.2.1 u hu c hc
  · rw [f _ (by unfold aC; omega)]; exact h.2.2.2.2.1 u hu
  · have := vr_r hR ho (j := 8 * u + v) (by omega)
    rw [f _ (by omega)]; exact h.2.2.2.2.2 u hu v hv hv2 c hc
theorem s_st8 {u : Nat} (h : OC m r o g) (hT : Tr (gU g) (gD g)) (hR : RI r) (ho : am_og o) (hu : u < 24) (hu2 : gU g u ≠ -2) : ∃ m', m_X1_makeStale m o (am_i u) = some m' ∧ Fr (fun b => b = aS o) m m' ∧ OC m' r o (ogS g (stU g u)) := by
  obtain ⟨m', e, f, hs⟩ := s_X1_makeStale h.1 hT hu hu2
  refine ⟨m', e, f, h.st hR ho f (fun k hk => ?_)⟩
  rw [hs k hk]
  unfold stU
  by_cases c : inB (gU g) (gD g) u k = true
  · rw [if_pos c, if_pos c]; rfl
  · rw [if_neg c, if_neg c]; exact h.2.1 k hk
theorem OM.st (h : OM m 3262 0 g) {st : Nat → Nat} (f : ∀ i, i < 48 ∨ 72 ≤ i → m' 3262 i = m 3262 i) (hs : ∀ u, u < 24 → m' 3262 (48 + u) = am_i (st u)) : OM m' 3262 0 (ogS g st) := by
  refine ⟨fun u hu => ?_, fun u hu h2 => ?_, fun u hu => ?_, fun u hu c hc => ?_, fun u hu c hc => ?_, fun u hu => ?_, fun u hu v hv hv2 c hc => ?_⟩
  · rw [f _ (by omega)]; exact h.1 u hu
  · rw [f _ (by omega)]; exact h.2.1 u hu h2
  · rw [Nat.zero_add]; exact hs u hu
  · rw [f _ (by omega)]; exact h.2.2.2.1 u hu c hc
  · rw [f _ (by omega)]; exact h.2.2.2.2.1 u hu c hc
  · rw [f _ (by omega)]; exact h.2.2.2.2.2.1 u hu
  · rw [f _ (by omega)]; exact h.2.2.2.2.2.2 u hu v hv hv2 c hc
theorem OM.ow (h : OM m 3262 0 g) {ow : Nat → Nat → Nat} (f : ∀ i, i < 72 ∨ 1608 ≤ i → m' 3262 i = m 3262 i) (hs : ∀ u, u < 24 → ∀ c, c < 64 → m' 3262 (72 + 64 * u + c) = am_i (ow u c)) : OM m' 3262 0 (ogO g ow) := by
  refine ⟨fun u hu => ?_, fun u hu h2 => ?_, fun u hu => ?_, fun u hu c hc => ?_, fun u hu c hc => ?_, fun u hu => ?_, fun u hu v hv hv2 c hc => ?_⟩
  · rw [f _ (by omega)]; exact h.1 u hu
  · rw [f _ (by omega)]; exact h.2.1 u hu h2
  · rw [f _ (by omega)]; exact h.2.2.1 u hu
  · rw [Nat.zero_add]; exact hs u hu c hc
  · rw [f _ (by omega)]; exact h.2.2.2.2.1 u hu c hc
  · rw [f _ (by omega)]; exact h.2.2.2.2.2.1 u hu
  · rw [f _ (by omega)]; exact h.2.2.2.2.2.2 u hu v hv hv2 c hc
theorem s_st9 {u : Nat} (h : OM m 3262 0 g) (hT : Tr (gU g) (gD g)) (hu : u < 24) (hu2 : gU g u ≠ -2) : ∃ m', m_X9_isStaleFrom m (am_i u) = some m' ∧ Fr (fun b => b = 3262) m m' ∧ (∀ i, i < 48 ∨ 72 ≤ i → m' 3262 i = m 3262 i) ∧ OM m' 3262 0 (ogS g (stU g u)) := by
  obtain ⟨m', e, f, hs, hk⟩ := s_X9_isStaleFrom h.TM hT hu hu2
  refine ⟨m', e, f, hk, h.st hk (fun k hk2 => ?_)⟩
  rw [hs k hk2]
  unfold stU
  have h3 := h.2.2.1 k hk2
  rw [Nat.zero_add] at h3
  by_cases c : inB (gU g) (gD g) u k = true
  · rw [if_pos c, if_pos c]; rfl
  · rw [if_neg c, if_neg c]; exact h3
/-- own is other than it was: what isn't stale has its sum all the same -/
theorem IG.gen (h : IG g) {st : Nat → Nat} {ow : Nat → Nat → Nat} (h1 : ∀ u, st u ≤ 1) (h2 : ∀ u c, ow u c ≤ 9999) (h3 : ∀ u, u < 24 → gU g u = -2 → st u = 0 ∧ ∀ c, ow u c = 0) (h4 : ∀ u, u < 24 → gU g u ≠ -2 → st u = 0 → gS g u = 0 ∧ ∀ w, w < 24 → gU g w ≠ -2 → inB (gU g) (gD g) w u = true → ∀ c, ow w c = gO g w c) : IG (ogO (ogS g st) ow) := by
  refine ⟨h.1, h2, h.2.2.1, h1, h.2.2.2.2.1, h.2.2.2.2.2.1, fun u hu hu2 => ⟨(h3 u hu hu2).1, (h.2.2.2.2.2.2.1 u hu hu2).2.1, (h3 u hu hu2).2, (h.2.2.2.2.2.2.1 u hu hu2).2.2.2⟩, fun u hu hu2 hu3 c => ?_⟩
  obtain ⟨q1, q2⟩ := h4 u hu hu2 hu3
  have e := h.2.2.2.2.2.2.2 u hu hu2 q1 c
  show gM g u c = br (gU g) (gD g) ow u c
  rw [e]
  refine su_congr 24 (fun k hk => ?_)
  unfold brP
  by_cases z : (thr (gU g) (k : Int) && inB (gU g) (gD g) k u) = true
  · rw [if_pos z, if_pos z]
    rw [Bool.and_eq_true] at z
    obtain ⟨k', hk', ek, hk2⟩ := thr_i z.1
    have ek' : k = k' := by omega
    subst ek'
    exact (q2 k hk hk2 z.2 c).symm
  · rw [if_neg z, if_neg z]
theorem stU_le (h : IG g) (u k : Nat) : stU g u k ≤ 1 := by
  unfold stU
  have := h.2.2.2.1 k
  split <;> omega
/-- what isn't stale behind it wasn't, and u isn't in its branch -/
theorem stU_0 {u k : Nat} (h : stU g u k = 0) : gS g k = 0 ∧ ¬ inB (gU g) (gD g) u k = true := by
  unfold stU at h
  by_cases c : inB (gU g) (gD g) u k = true
  · rw [if_pos c] at h; cases h
  · rw [if_neg c] at h; exact ⟨h, c⟩
theorem stU_abs (h : IG g) {u k : Nat} (hu : u < 24) (hu2 : gU g u ≠ -2) (hk : k < 24) (hk2 : gU g k = -2) : stU g u k = 0 := by
  unfold stU
  rw [if_neg]
  · exact (h.2.2.2.2.2.2.1 k hk hk2).1
  · intro z
    exact (inB_d h.1 hu hu2 z).2.2 hk2
/-- one unit's own is other than it was, and it is stale -/
theorem IG.one (h : IG g) {u : Nat} {ow : Nat → Nat → Nat} (hu : u < 24) (hu2 : gU g u ≠ -2) (h2 : ∀ k c, ow k c ≤ 9999) (h3 : ∀ k, k ≠ u → ∀ c, ow k c = gO g k c) : IG (ogO (ogS g (stU g u)) ow) := by
  refine h.gen (stU_le h u) h2 (fun k hk hk2 => ⟨stU_abs h hu hu2 hk hk2, fun c => ?_⟩) (fun k hk hk2 hk3 => ⟨(stU_0 hk3).1, fun w hw hw2 hw3 c => ?_⟩)
  · rw [h3 k (fun e => hu2 (by rw [← e]; exact hk2)) c]
    exact (h.2.2.2.2.2.2.1 k hk hk2).2.2.1 c
  · refine h3 w (fun e => ?_) c
    rw [e] at hw3
    exact (stU_0 hk3).2 hw3
variable {s : Sx}
/-- the state with one more act kept -/
theorem keep8 (h : GS m r s) : ∃ m1, m_X2_keep m r 4 = some m1 ∧ Fr (fun b => 498 ≤ b ∧ b < 2970) m m1 ∧ PC m1 r (min (xN s + 1) 10) (pushH (xN s) (xH s) (xG s)) ∧ OC m1 r 4 (xG s) ∧ BC m1 2970 (xB s) := by
  obtain ⟨m1, e, f, hp⟩ := s_X2_keep h.2.1.2.2.1 h.2.2.2.2.2.1.1 h.1 h.2.1.1 h.ig
  exact ⟨m1, e, f, hp, h.2.1.1.kept h.1 og4 (fun b b1 b2 => f b (by omega)) rfl, h.2.1.2.1.kept (fun b b1 b2 => f b (by omega))⟩
theorem keep9 (h : MS m s) (hI : IS s) : ∃ m1, m_X9_remembers m = some m1 ∧ Fr F5 m m1 ∧ (∀ j, j ≠ 4 → m1 3261 j = m 3261 j) ∧ PM m1 (min (xN s + 1) 10) (pushH (xN s) (xH s) (xG s)) ∧ m1 3262 = m 3262 := by
  obtain ⟨m1, e, f, f2, hp⟩ := s_X9_remembers h.2.2.1 hI.2.2.1.1 h.1
  exact ⟨m1, e, f, f2, hp, f 3262 (fun z => by unfold F5 at z; omega)⟩
theorem IS.push (hI : IS s) {G : Og} {B : Bk} (hG : IG G) (hB : IB B) : IS (G, B, min (xN s + 1) 10, pushH (xN s) (xH s) (xG s), xF s, xI s, xJ s, xT s, xR s) := by
  refine ⟨hG, hB, ⟨by show min _ _ ≤ 10; omega, fun i hi => ?_⟩, hI.2.2.2⟩
  show IG (pushH (xN s) (xH s) (xG s) i)
  have hi : i < min (xN s + 1) 10 := hi
  have hn := hI.2.2.1.1
  unfold pushH
  by_cases c : xN s < 10
  · rw [if_pos c]
    by_cases e : i = xN s
    · simp only [e, if_true]; exact hI.1
    · simp only [e, if_false]; exact hI.2.2.1.2 i (by omega)
  · rw [if_neg c]
    by_cases e : i = 9
    · simp only [e, if_true]; exact hI.1
    · simp only [e, if_false]; exact hI.2.2.1.2 (i + 1) (by omega)
/-- an act's end: the class has come from m to m2, the reference from there to m4 -/
theorem act_end {m2 m4 : am_m} {G : Og} {B : Bk} (h : GS m r s) (hG : OC m2 r 4 G) (hB : BC m2 2970 B) (hP : PC m2 r (min (xN s + 1) 10) (pushH (xN s) (xH s) (xG s))) (f8 : ∀ b, (b = 3 ∨ (2976 ≤ b ∧ b < 2982) ∨ (2984 ≤ b ∧ b < 2988) ∨ (3014 ≤ b ∧ b < 3261)) → m2 b = m b) (hG9 : OM m4 3262 0 G) (hB9 : BM m4 3262 B) (hP9 : PM m4 (min (xN s + 1) 10) (pushH (xN s) (xH s) (xG s))) (f9 : ∀ b, b < 3261 → m4 b = m2 b) (f9' : ∀ b, (b = 3264 ∨ b = 3268 ∨ b = 3271) → m4 b = m b) (f9'' : ∀ j, j ≠ 4 → m4 3261 j = m 3261 j) (hI : IG G) (hK : IB B) : Good m4 r :=
  GS.both (s := s) h.1 (h.2.1.upd h.1 hG hB hP f8 rfl) (h.2.2.1.upd hG9 hB9 hP9 f9' f9'') (h.2.2.2.push hI hK) f9
theorem q_add (h : GS m r s) (a b c : Int32) : ∃ y m1 m2, m_X8_add m r a b c = some (y, m1) ∧ m_X9_add m1 a b c = some (y, m2) ∧ Good m2 r := by
  obtain ⟨x, h1, h2, rfl⟩ := i_any a
  obtain ⟨z, h3, h4, rfl⟩ := i_any b
  obtain ⟨w, h5, h6, rfl⟩ := i_any c
  cases c : thr (gU (xG s)) x
  · refine ⟨am_i (-1), m, m, ?_, ?_, h.g⟩
    · unfold m_X8_add
      rw [s_t8 h h1 h2, c]
      rfl
    · unfold m_X9_add
      rw [s_t9 h h1 h2, c]
      rfl
  · obtain ⟨u, hu, rfl, hu2⟩ := thr_i c
    by_cases c1 : 0 ≤ z ∧ z ≤ 63
    · obtain ⟨d, rfl⟩ : ∃ d : Nat, z = d := ⟨z.toNat, by omega⟩
      have ew := (h.wc hu).1 d (by omega)
      have ew9 := (h.wm hu).1 d (by omega)
      have hob := h.ig.2.1 u d
      have p3 : am_ix (am_i 72 + am_i 64 * am_i (u : Int) + am_i (d : Int)) = 72 + 64 * u + d := by rw [i_mul, i_add, i_add, i_ix (by omega) (by omega)]; omega
      have p4 : am_ib (am_i 72 + am_i 64 * am_i (u : Int) + am_i (d : Int)) 15517 = true := by rw [i_mul, i_add, i_add, i_ibt (by omega) (by omega) (by omega)]
      by_cases c2 : w ≠ 0 ∧ -9999 ≤ w ∧ w ≤ 9999 ∧ 0 ≤ (gO (xG s) u d : Int) + w ∧ (gO (xG s) u d : Int) + w ≤ 9999
      · obtain ⟨t, ht⟩ : ∃ t : Nat, (gO (xG s) u d : Int) + w = t := ⟨((gO (xG s) u d : Int) + w).toNat, by omega⟩
        -- the class
        obtain ⟨m1, e1, f1, hP, hG1, hB1⟩ := keep8 h
        have o1 : OC (am_si m1 (aW 4 u) d (am_i t)) r 4 (ogO (xG s) (ow1 (gO (xG s)) u d t)) := by
          refine hG1.ow h.1 og4 ((Fr.refl _ _).si2 ⟨by unfold aW; omega, by unfold aW; omega⟩) (fun k hk e he => ?_)
          rw [m_si]
          show _ = am_i ((if k = u ∧ e = d then t else gO (xG s) k e : Nat) : Int)
          by_cases q : k = u ∧ e = d
          · rw [if_pos q, if_pos ⟨by rw [q.1], q.2⟩]
          · rw [if_neg q, if_neg (fun y => q ⟨by have := y.1; unfold aW at this; omega, y.2⟩)]
            exact hG1.2.2.1 k hk e he
        obtain ⟨m2, e2, f2, o2⟩ := s_st8 o1 h.tr h.1 og4 hu hu2
        have F8 : ∀ b, ¬ (498 ≤ b ∧ b < 2970) → ¬ (8 ≤ b ∧ b < 32) → b ≠ 6 → m2 b = m b := fun b b1 b2 b3 => by
          rw [f2 b (by unfold aS; omega), si_ne (by unfold aW; omega)]
          exact f1 b b1
        -- the reference
        have ms : MS m2 s := h.2.2.1.kept (fun b b1 _ => F8 b (by omega) (by omega) (by omega))
        obtain ⟨m3, e3, f3, f3', hP3, w3⟩ := keep9 ms h.2.2.2
        have o3 : OM (am_si m3 3262 (72 + 64 * u + d) (am_i t)) 3262 0 (ogO (xG s) (ow1 (gO (xG s)) u d t)) := by
          have o3' : OM m3 3262 0 (xG s) := ms.1.kept (fun i _ => by rw [w3])
          refine o3'.ow (fun i hi => si_o (by omega)) (fun k hk e he => ?_)
          rw [m_si]
          show _ = am_i ((if k = u ∧ e = d then t else gO (xG s) k e : Nat) : Int)
          by_cases q : k = u ∧ e = d
          · rw [if_pos q, if_pos ⟨rfl, by rw [q.1, q.2]⟩]
          · rw [if_neg q, if_neg (fun y => q ⟨by have := y.2; omega, by have := y.2; omega⟩)]
            have := o3'.2.2.2.1 k hk e he
            rwa [Nat.zero_add] at this
        obtain ⟨m4, e4, f4, f4', o4⟩ := s_st9 o3 h.tr hu hu2
        have w4 : m4 3262 (72 + 64 * u + d) = am_i (t : Int) := by rw [f4' _ (by omega), si_at]
        have ew3 : m3 3262 (72 + 64 * u + d) = am_i (gO (xG s) u d : Int) := by rw [w3]; exact (ms.1.own h.ig hu).1 d (by omega)
        refine ⟨am_i t, m2, m4, ?_, ?_, act_end h (G := ogO (ogS (xG s) (stU (xG s) u)) (ow1 (gO (xG s)) u d t)) (B := xB s) o2 (hB1.kept (fun b b1 b2 => by rw [f2 b (by unfold aS; omega), si_ne (by unfold aW; omega)])) (hP.kept h.1 (by omega) (fun b b1 b2 => by rw [f2 b (by unfold aS; omega), si_ne (by unfold aW; omega)]) (fun _ _ => rfl)) (fun b hb => F8 b (by omega) (by omega) (by omega)) o4 ?_ ?_ ?_ ?_ ?_ ?_ h.2.2.2.2.1⟩
        · unfold m_X8_add
          rw [s_t8 h h1 h2, c, Option.bind_some, if_neg (by decide), s_c8 h3 h4, if_pos c1, Option.bind_some, if_pos (by decide), if_neg (by rw [i_zero, i_eq (by omega) (by omega) (by omega) (by omega)]; omega), if_neg (by rw [i_lt (by omega) (by omega) (by omega) (by omega)]; omega), if_pos (by rw [i_le (by omega) (by omega) (by omega) (by omega)]; omega), i_ibt (by omega) (by omega) (by omega), cond_true, i_ibt (by omega) (by omega) (by omega), cond_true, i_ixn (by omega), i_ixn (by omega), ew, i_add, ht, if_neg (by rw [i_zero, i_lt (by omega) (by omega) (by omega) (by omega)]; omega), if_pos (by rw [i_le (by omega) (by omega) (by omega) (by omega)]; omega), e1, Option.bind_some, cond_true, cond_true, am_letF, e2]
          rfl
        · unfold m_X9_add m_X9_ownAt
          rw [s_X9_isUnit ms.1.TM h1 h2, c, Option.bind_some, if_neg (by decide), s_c9 h3 h4, if_pos c1, Option.bind_some, if_neg (by decide), if_neg (by rw [i_zero, i_eq (by omega) (by omega) (by omega) (by omega)]; omega), s_X9_isIn h5 h6 (by decide) (by decide) (by decide) (by decide), if_pos (show -9999 ≤ w ∧ w ≤ 9999 from ⟨c2.2.1, c2.2.2.1⟩), Option.bind_some, if_pos (by decide), Option.bind_some, p4, cond_true, p3, (ms.1.own h.ig hu).1 d (by omega), i_add, ht, s_X9_isIn (by omega) (by omega) (by decide) (by decide) (by decide) (by decide), if_pos (show (0 : Int) ≤ (t : Int) ∧ (t : Int) ≤ 9999 by omega), Option.bind_some, if_pos (by decide), e3, Option.bind_some, cond_true, cond_true, am_letF, ew3, i_add, ht, e4, Option.bind_some, cond_true, w4]
        · exact ms.2.1.copy (fun i i1 i2 => by rw [f4' i (by omega), si_o (by omega), w3])
        · exact hP3.kept (by rw [f4 3261 (by decide), si_ne (by decide)]) (by rw [f4 3265 (by decide), si_ne (by decide)])
        · exact fun b hb => by rw [f4 b (by omega), si_ne (by omega)]; exact f3 b (fun z => by unfold F5 at z; omega)
        · exact fun b hb => by rw [f4 b (by omega), si_ne (by omega), f3 b (fun z => by unfold F5 at z; omega)]; exact F8 b (by omega) (by omega) (by omega)
        · exact fun j hj => by rw [f4 3261 (by decide), si_ne (by decide), f3' j hj, F8 3261 (by omega) (by omega) (by omega)]
        · exact h.ig.one hu hu2 (fun k e => by
            show (if k = u ∧ e = d then t else gO (xG s) k e) ≤ 9999
            split
            · omega
            · exact h.ig.2.1 k e) (fun k hk e => if_neg (fun q => hk q.1))
      · refine ⟨am_i (-1), m, m, ?_, ?_, h.g⟩
        · unfold m_X8_add
          rw [s_t8 h h1 h2, c, Option.bind_some, if_neg (by decide), s_c8 h3 h4, if_pos c1, Option.bind_some, if_pos (by decide)]
          by_cases d1 : w = 0
          · rw [if_pos (by rw [d1]; decide)]
          · rw [if_neg (by rw [i_zero, i_eq (by omega) (by omega) (by omega) (by omega)]; omega)]
            by_cases d2 : w < -9999
            · rw [if_pos (by rw [i_lt (by omega) (by omega) (by omega) (by omega)]; omega)]
            · rw [if_neg (by rw [i_lt (by omega) (by omega) (by omega) (by omega)]; omega)]
              by_cases d3 : w ≤ 9999
              · rw [if_pos (by rw [i_le (by omega) (by omega) (by omega) (by omega)]; omega), i_ibt (by omega) (by omega) (by omega), cond_true, i_ibt (by omega) (by omega) (by omega), cond_true, i_ixn (by omega), i_ixn (by omega), ew, i_add]
                by_cases d4 : (gO (xG s) u d : Int) + w < 0
                · rw [if_pos (by rw [i_zero, i_lt (by omega) (by omega) (by omega) (by omega)]; omega)]
                · rw [if_neg (by rw [i_zero, i_lt (by omega) (by omega) (by omega) (by omega)]; omega), if_neg (by rw [i_le (by omega) (by omega) (by omega) (by omega)]; omega)]
              · rw [if_neg (by rw [i_le (by omega) (by omega) (by omega) (by omega)]; omega)]
        · unfold m_X9_add m_X9_ownAt
          rw [s_t9 h h1 h2, c, Option.bind_some, if_neg (by decide), s_c9 h3 h4, if_pos c1, Option.bind_some, if_neg (by decide)]
          by_cases d1 : w = 0
          · rw [if_pos (by rw [d1]; decide)]
          · rw [if_neg (by rw [i_zero, i_eq (by omega) (by omega) (by omega) (by omega)]; omega), s_X9_isIn h5 h6 (by decide) (by decide) (by decide) (by decide)]
            by_cases d2 : -9999 ≤ w ∧ w ≤ 9999
            · rw [if_pos d2, Option.bind_some, if_pos (by decide), Option.bind_some, p4, cond_true, p3, ew9, i_add, s_X9_isIn (by omega) (by omega) (by decide) (by decide) (by decide) (by decide), if_neg (by omega), Option.bind_some, if_neg (by decide)]
            · rw [if_neg d2, Option.bind_some, if_neg (by decide)]
    · refine ⟨am_i (-1), m, m, ?_, ?_, h.g⟩
      · unfold m_X8_add
        rw [s_t8 h h1 h2, c, Option.bind_some, if_neg (by decide), s_c8 h3 h4, if_neg c1, Option.bind_some, if_neg (by decide)]
      · unfold m_X9_add
        rw [s_t9 h h1 h2, c, Option.bind_some, if_neg (by decide), s_c9 h3 h4, if_neg c1, Option.bind_some, if_pos (by decide)]
end AC
