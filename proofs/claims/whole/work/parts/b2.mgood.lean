/-! ===== the first state: what the constructors leave ===== -/
/-- the memory alike, but for the script -/
def me_e (h h2 : am_H) : Prop := ∀ b, b ≠ 1 → h.2.1 b = h2.2.1 b
theorem me_nx {h h2 : am_H} (e : me_e h h2) : me_e (am_nx h) (am_nx h2) := e
theorem me_mkr {h h2 : am_H} {N : Nat} (e : me_e h h2) : me_e (am_mkr h N) (am_mkr h2 N) := e
theorem me_ur {h h2 : am_H} {a k x : Nat} (e : me_e h h2) : me_e (am_ur h a k x) (am_ur h2 a k x) := e
theorem me_ui {h h2 : am_H} {a k : Nat} {x : Int32} (e : me_e h h2) : me_e (am_ui h a k x) (am_ui h2 a k x) := fun b hb => by
  show am_up h.2.1 a (am_up (h.2.1 a) k x) b = am_up h2.2.1 a (am_up (h2.2.1 a) k x) b
  by_cases c : b = a
  · rw [c, am_up_same, am_up_same, e a (by rw [← c]; exact hb)]
  · rw [am_up_ne _ _ c, am_up_ne _ _ c]
    exact e b hb
theorem me_fl {h h2 : am_H} {a k : Nat} {x : Int32} (e : me_e h h2) : me_e (am_fl h a k x) (am_fl h2 a k x) := fun b hb => by
  show am_up h.2.1 a (fun j => if j < k then x else h.2.1 a j) b = am_up h2.2.1 a (fun j => if j < k then x else h2.2.1 a j) b
  by_cases c : b = a
  · rw [c, am_up_same, am_up_same, e a (by rw [← c]; exact hb)]
  · rw [am_up_ne _ _ c, am_up_ne _ _ c]
    exact e b hb
theorem me_X1 {h h2 : am_H} {o : Nat} (e : me_e h h2) : me_e (c_X1_init h o) (c_X1_init h2 o) := by
  unfold c_X1_init
  repeat (with_reducible first | exact e | apply me_ui | apply me_fl | apply me_ur | apply me_nx | apply me_mkr)
theorem me_X0 {h h2 : am_H} {o : Nat} (e : me_e h h2) : me_e (c_X0_init h o) (c_X0_init h2 o) := by
  unfold c_X0_init
  repeat (with_reducible first | exact e | apply me_ui | apply me_fl | apply me_ur | apply me_nx | apply me_mkr)
theorem me_X3 {h h2 : am_H} (e : me_e h h2) : me_e (c_X3_init h) (c_X3_init h2) := by
  unfold c_X3_init
  repeat (with_reducible first | exact e | apply me_ui | apply me_fl | apply me_ur | apply me_nx | apply me_mkr)
theorem me_X4 {h h2 : am_H} (e : me_e h h2) : me_e (c_X4_init h) (c_X4_init h2) := by
  unfold c_X4_init
  repeat (with_reducible first | exact e | apply me_ui | apply me_fl | apply me_ur | apply me_nx | apply me_mkr)
theorem me_X7 {h h2 : am_H} (e : me_e h h2) : me_e (c_X7_init h) (c_X7_init h2) := by
  unfold c_X7_init
  repeat (with_reducible first | exact e | apply me_ui | apply me_fl | apply me_ur | apply me_nx | apply me_mkr)
theorem me_X2 {h h2 : am_H} (e : me_e h h2) : me_e (c_X2_init h) (c_X2_init h2) := by
  unfold c_X2_init
  repeat (with_reducible first | exact e | apply me_ui | apply me_fl | apply me_ur | apply me_nx | apply me_mkr | apply me_X1)
theorem me_X8 {h h2 : am_H} (e : me_e h h2) : me_e (c_X8_init h) (c_X8_init h2) := by
  unfold c_X8_init
  repeat (with_reducible first | exact e | apply me_ui | apply me_fl | apply me_ur | apply me_nx | apply me_mkr | apply me_X1 | apply me_X0 | apply me_X2 | apply me_X3 | apply me_X4 | apply me_X7)
theorem me_X9 {h h2 : am_H} (e : me_e h h2) : me_e (c_X9_init h) (c_X9_init h2) := by
  unfold c_X9_init
  repeat (with_reducible first | exact e | apply me_ui | apply me_fl | apply me_ur | apply me_nx | apply me_mkr)
/-- the memory behind the constructors -/
def m9 : am_m := (c_X9_init (am_nx (c_X8_init (am_nx am_z0)))).2.1
theorem m9_of (xs : Nat → Int32) (b : Nat) (hb : b ≠ 1) : (c_X9_init (am_nx (c_X8_init (am_nx (am_h0 xs))))).2.1 b = m9 b := by
  have e0 : me_e (am_h0 xs) am_z0 := fun b hb => funext fun j => if_neg hb
  exact (me_X9 (me_nx (me_X8 (me_nx e0)))) b hb
/-- nothing was written at a -/
def fz (h : am_H) (a : Nat) : Prop := ∀ i, h.2.1 a i = am_i 0
theorem fz_nx {h : am_H} {a : Nat} (e : fz h a) : fz (am_nx h) a := e
theorem fz_mkr {h : am_H} {a N : Nat} (e : fz h a) : fz (am_mkr h N) a := e
theorem fz_ur {h : am_H} {a b k x : Nat} (e : fz h a) : fz (am_ur h b k x) a := e
theorem fz_ui {h : am_H} {a b k : Nat} {x : Int32} (hn : a ≠ b) (e : fz h a) : fz (am_ui h b k x) a := fun i => by
  show am_up h.2.1 b (am_up (h.2.1 b) k x) a i = _
  rw [am_up_ne _ _ hn]
  exact e i
theorem fz_fl {h : am_H} {a b k : Nat} {x : Int32} (hn : a ≠ b) (e : fz h a) : fz (am_fl h b k x) a := fun i => by
  show am_up h.2.1 b _ a i = _
  rw [am_up_ne _ _ hn]
  exact e i
theorem fz_X1 {h : am_H} {a o : Nat} (hn : a ≠ o + 1) (e : fz h a) : fz (c_X1_init h o) a := by
  unfold c_X1_init
  repeat (with_reducible first | exact e | refine fz_ui hn ?_ | refine fz_fl hn ?_ | apply fz_ur | apply fz_nx | apply fz_mkr)
theorem fz_X0 {h : am_H} {a o : Nat} (hn : a ≠ o) (e : fz h a) : fz (c_X0_init h o) a := by
  unfold c_X0_init
  repeat (with_reducible first | exact e | refine fz_ui hn ?_ | refine fz_fl hn ?_ | apply fz_ur | apply fz_nx | apply fz_mkr)
theorem fz_X3 {h : am_H} {a : Nat} (hn : a ≠ 2986) (e : fz h a) : fz (c_X3_init h) a := by
  unfold c_X3_init
  repeat (with_reducible first | exact e | refine fz_ui hn ?_ | apply fz_ur | apply fz_nx | apply fz_mkr)
theorem fz_X4 {h : am_H} {a : Nat} (hn : a ≠ 2982) (e : fz h a) : fz (c_X4_init h) a := by
  unfold c_X4_init
  repeat (with_reducible first | exact e | refine fz_ui hn ?_ | apply fz_ur | apply fz_nx | apply fz_mkr)
theorem fz_X7 {h : am_H} {a : Nat} (hn : a ≠ 2984) (e : fz h a) : fz (c_X7_init h) a := by
  unfold c_X7_init
  repeat (with_reducible first | exact e | refine fz_ui hn ?_ | apply fz_ur | apply fz_nx | apply fz_mkr)
theorem fz_X2 {h : am_H} {a : Nat} (hn : a ≠ 498) (h0 : a ≠ 500 + 1) (h1 : a ≠ 747 + 1) (h2 : a ≠ 994 + 1) (h3 : a ≠ 1241 + 1) (h4 : a ≠ 1488 + 1) (h5 : a ≠ 1735 + 1) (h6 : a ≠ 1982 + 1) (h7 : a ≠ 2229 + 1) (h8 : a ≠ 2476 + 1) (h9 : a ≠ 2723 + 1) (e : fz h a) : fz (c_X2_init h) a := by
  unfold c_X2_init
  repeat (with_reducible first | exact e | refine fz_ui hn ?_ | apply fz_ur | apply fz_nx | apply fz_mkr | refine fz_X1 h0 ?_ | refine fz_X1 h1 ?_ | refine fz_X1 h2 ?_ | refine fz_X1 h3 ?_ | refine fz_X1 h4 ?_ | refine fz_X1 h5 ?_ | refine fz_X1 h6 ?_ | refine fz_X1 h7 ?_ | refine fz_X1 h8 ?_ | refine fz_X1 h9 ?_)
theorem fz_8 : fz (c_X8_init (am_nx am_z0)) 3262 := by
  have e : fz am_z0 3262 := fun _ => rfl
  have n1 : (3262 : Nat) ≠ 3 := by decide
  have n2 : (3262 : Nat) ≠ 3014 + 1 := by decide
  have n3 : (3262 : Nat) ≠ 2976 := by decide
  have n4 : (3262 : Nat) ≠ 2970 := by decide
  have n5 : (3262 : Nat) ≠ 251 + 1 := by decide
  have n6 : (3262 : Nat) ≠ 4 + 1 := by decide
  unfold c_X8_init
  repeat (with_reducible first | exact e | refine fz_ui n1 ?_ | apply fz_ur | apply fz_nx | apply fz_mkr | refine fz_X1 n2 ?_ | refine fz_X3 (by decide) ?_ | refine fz_X7 (by decide) ?_ | refine fz_X4 (by decide) ?_ | refine fz_X0 n3 ?_ | refine fz_X0 n4 ?_ | refine fz_X2 (by decide) (by decide) (by decide) (by decide) (by decide) (by decide) (by decide) (by decide) (by decide) (by decide) (by decide) ?_ | refine fz_X1 n5 ?_ | refine fz_X1 n6 ?_)
theorem m9_62 (i : Nat) : m9 3262 i = if i = 24 then am_i (-1) else if i = 0 then am_i 1 else am_i 0 := by
  have e := fz_8
  have n1 : (3262 : Nat) ≠ 3261 := by decide
  unfold m9 c_X9_init
  generalize c_X8_init (am_nx am_z0) = h8 at e ⊢
  have e2 : ∀ H : am_H, fz H 3262 → (am_ui (am_ui H 3262 0 (am_i 1)) 3262 24 (am_i (-1))).2.1 3262 i = if i = 24 then am_i (-1) else if i = 0 then am_i 1 else am_i 0 := fun H hH => by
    show am_up (am_up H.2.1 3262 (am_up (H.2.1 3262) 0 (am_i 1))) 3262 (am_up (am_up H.2.1 3262 (am_up (H.2.1 3262) 0 (am_i 1)) 3262) 24 (am_i (-1))) 3262 i = _
    rw [am_up_same, am_up_same]
    show (if i = 24 then am_i (-1) else if i = 0 then am_i 1 else H.2.1 3262 i) = _
    rw [hH i]
  refine e2 _ ?_
  repeat (with_reducible first | exact e | refine fz_ui n1 ?_ | apply fz_ur | apply fz_nx | apply fz_mkr)
theorem s9_U : ∀ u, u < 24 → m9 5 u = am_i (if u = 0 then -1 else -2) := by decide +kernel
theorem s9_S : ∀ u, u < 24 → m9 6 u = am_i 0 := by decide +kernel
theorem s9_W : ∀ u, u < 24 → ∀ c, c < 64 → m9 (8 + u) c = am_i 0 := by decide +kernel
theorem s9_X : ∀ u, u < 24 → ∀ c, c < 64 → m9 (33 + u) c = am_i 0 := by decide +kernel
theorem s9_C : ∀ u, u < 24 → m9 57 u = am_i 0 := by decide +kernel
theorem s9_B : (∀ i, i < 11 → m9 2971 i = am_i 0) ∧ m9 2970 5 = am_i 0 ∧ m9 2970 6 = am_i 0 := by decide +kernel
theorem s9_o : m9 498 2 = am_i 0 ∧ m9 498 1 = am_i 0 ∧ m9 3 11 = am_i 0 ∧ m9 2984 1 = am_i 0 ∧ m9 2984 2 = am_i 0 ∧ m9 2984 3 = am_i (-1) ∧ m9 2986 1 = am_i 0 := by decide +kernel
theorem s9_m : m9 3261 4 = am_i 0 ∧ m9 3261 5 = am_i 0 ∧ m9 3261 9 = am_i 0 ∧ m9 3261 11 = am_i 0 ∧ m9 3261 12 = am_i (-1) ∧ m9 3261 18 = am_i 0 := by decide +kernel
theorem ri_9 : RI am_r9 := ⟨am_lay9, fun o ho i j hi hj e => by
  have h := (lay_o o ho).2.2.2.2.2.2.2.2
  rw [h i hi, h j hj] at e
  omega⟩
def bk0 : Bk := ((fun _ => am_i 0), 0, (fun _ => 0), (fun _ => 0), (fun _ => 0), (fun _ => 0), am_i 0)
def sx0 : Sx := (tg0, bk0, 0, (fun _ => tg0), 0, tg0, bk0, (0, (fun _ => 0), 0, -1), (0, fun _ => 0))
theorem gs_9 {M : am_m} (hM : ∀ b, b ≠ 1 → M b = m9 b) : GS M am_r9 sx0 := by
  have f : ∀ b i, b ≠ 1 → M b i = m9 b i := fun b i hb => by rw [hM b hb]
  have e : ∀ i, M 3262 i = if i = 24 then am_i (-1) else if i = 0 then am_i 1 else am_i 0 := fun i => (f 3262 i (by decide)).trans (m9_62 i)
  have z : ∀ i, i ≠ 24 → i ≠ 0 → M 3262 i = am_i 0 := fun i h1 h2 => by rw [e, if_neg h1, if_neg h2]
  have vac : ∀ {P : Nat → Prop}, ∀ i, i < 0 → P i := fun {P} i hi => absurd hi (Nat.not_lt_zero i)
  have c1 : OC M am_r9 4 tg0 := ⟨fun u hu => (f 5 u (by decide)).trans (s9_U u hu), fun u hu => (f 6 u (by decide)).trans (s9_S u hu), fun u hu c hc => (f (8 + u) c (by omega)).trans (s9_W u hu c hc), fun u hu c hc => (f (33 + u) c (by omega)).trans (s9_X u hu c hc), fun u hu => (f 57 u (by decide)).trans (s9_C u hu), fun u hu v hv => absurd hv (Nat.not_lt_zero v)⟩
  have c2 : BC M 2970 bk0 := ⟨fun i hi => (f 2971 i (by decide)).trans (s9_B.1 i hi), (f 2970 5 (by decide)).trans s9_B.2.1, fun i hi => absurd hi (Nat.not_lt_zero i), (f 2970 6 (by decide)).trans s9_B.2.2⟩
  have c3 : PC M am_r9 0 (fun _ => tg0) := ⟨(f 498 2 (by decide)).trans s9_o.1, 0, by decide, (f 498 1 (by decide)).trans s9_o.2.1, fun i hi => absurd hi (Nat.not_lt_zero i)⟩
  have c4 : M 3 11 = am_i ((0 : Nat) : Int) := (f 3 11 (by decide)).trans s9_o.2.2.1
  have c5 : TPC M (0, (fun _ => 0), 0, -1) := ⟨(f 2984 1 (by decide)).trans s9_o.2.2.2.1, fun i hi => absurd hi (Nat.not_lt_zero i), (f 2984 2 (by decide)).trans s9_o.2.2.2.2.1, (f 2984 3 (by decide)).trans s9_o.2.2.2.2.2.1⟩
  have c6 : RPC M (0, fun _ => 0) := ⟨(f 2986 1 (by decide)).trans s9_o.2.2.2.2.2.2, fun i hi => absurd hi (Nat.not_lt_zero i)⟩
  have no : ∀ {P : Prop}, (0 : Nat) = 1 → P := fun h => absurd h (by decide)
  have d2 : BM M 3262 bk0 := ⟨fun i hi => z _ (by omega) (by omega), z _ (by decide) (by decide), fun i hi => absurd hi (Nat.not_lt_zero i), z _ (by decide) (by decide)⟩
  have d3 : PM M 0 (fun _ => tg0) := ⟨(f 3261 4 (by decide)).trans s9_m.1, fun i hi => absurd hi (Nat.not_lt_zero i)⟩
  have d4 : M 3261 5 = am_i ((0 : Nat) : Int) := (f 3261 5 (by decide)).trans s9_m.2.1
  have d5 : TPM M (0, (fun _ => 0), 0, -1) := ⟨(f 3261 9 (by decide)).trans s9_m.2.2.1, fun i hi => absurd hi (Nat.not_lt_zero i), (f 3261 11 (by decide)).trans s9_m.2.2.2.1, (f 3261 12 (by decide)).trans s9_m.2.2.2.2.1⟩
  have d6 : RPM M (0, fun _ => 0) := ⟨(f 3261 18 (by decide)).trans s9_m.2.2.2.2.2, fun i hi => absurd hi (Nat.not_lt_zero i)⟩
  have i1 : IB bk0 := ⟨Nat.zero_le _, fun i hi => absurd hi (Nat.not_lt_zero i)⟩
  refine ⟨ri_9, ⟨c1, c2, c3, ⟨c4, no⟩, c5, c6⟩, ⟨⟨fun u hu => ?_, fun u hu h2 => ?_, fun u hu => ?_, fun u hu c hc => ?_, fun u hu c hc => ?_, fun u hu => ?_, fun u hu v hv => absurd hv (Nat.not_lt_zero v)⟩, d2, d3, ⟨d4, no⟩, d5, d6⟩, ⟨tg0_IG, i1, ⟨Nat.zero_le _, fun i hi => absurd hi (Nat.not_lt_zero i)⟩, ⟨Nat.zero_le _, no⟩, ⟨Nat.zero_le _, fun i => show (0 : Nat) < 256 by decide⟩, Nat.zero_le _⟩⟩
  · rw [Nat.zero_add]
    show M 3262 u = am_i (if (if u = 0 then (-1 : Int) else -2) = -2 then 0 else 1)
    by_cases c : u = 0
    · rw [if_pos c, if_neg (by decide), c, e, if_neg (by decide), if_pos rfl]
    · rw [if_neg c, if_pos rfl]
      exact z u (by omega) c
  · rw [Nat.zero_add]
    have h2 : (if u = 0 then (-1 : Int) else -2) ≠ -2 := h2
    have c : u = 0 := by
      by_cases c : u = 0
      · exact c
      · rw [if_neg c] at h2; exact absurd rfl h2
    show _ = am_i (if u = 0 then (-1 : Int) else -2)
    rw [if_pos c, c, e, if_pos rfl]
  · rw [Nat.zero_add]; exact z _ (by omega) (by omega)
  · rw [Nat.zero_add]; exact z _ (by omega) (by omega)
  · rw [Nat.zero_add]; exact z _ (by omega) (by omega)
  · rw [Nat.zero_add]; exact z _ (by omega) (by omega)
theorem good_9 (xs : Nat → Int32) : Good (c_X9_init (am_nx (c_X8_init (am_nx (am_h0 xs))))).2.1 am_r9 := ⟨sx0, gs_9 (m9_of xs)⟩
theorem op_math_ok : op_math := fun N xs hN => loop_ok hN am_F 0 _ _ (good_9 xs) (by omega) (by unfold am_F; omega)
