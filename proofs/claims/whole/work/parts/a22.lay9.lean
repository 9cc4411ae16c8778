/-! ===== the layout behind the constructors ===== -/
def rr_e (h h2 : am_H) : Prop := h.1 = h2.1 ∧ h.2.2 = h2.2.2
theorem rr_nx {h h2 : am_H} (e : rr_e h h2) : rr_e (am_nx h) (am_nx h2) := ⟨by show h.1 + 1 = h2.1 + 1; rw [e.1], e.2⟩
theorem rr_mkr {h h2 : am_H} {N : Nat} (e : rr_e h h2) : rr_e (am_mkr h N) (am_mkr h2 N) := by
  obtain ⟨n, m, r⟩ := h
  obtain ⟨n2, m2, r2⟩ := h2
  obtain ⟨e1, e2⟩ := e
  cases e1
  cases e2
  exact ⟨rfl, rfl⟩
theorem rr_ur {h h2 : am_H} {a k x : Nat} (e : rr_e h h2) : rr_e (am_ur h a k x) (am_ur h2 a k x) := by
  obtain ⟨n, m, r⟩ := h
  obtain ⟨n2, m2, r2⟩ := h2
  obtain ⟨e1, e2⟩ := e
  cases e1
  cases e2
  exact ⟨rfl, rfl⟩
theorem rr_ui {h h2 : am_H} {a k : Nat} {x : Int32} (e : rr_e h h2) : rr_e (am_ui h a k x) (am_ui h2 a k x) := e
theorem rr_fl {h h2 : am_H} {a k : Nat} {x : Int32} (e : rr_e h h2) : rr_e (am_fl h a k x) (am_fl h2 a k x) := e
theorem rr_X1 {h h2 : am_H} {o : Nat} (e : rr_e h h2) : rr_e (c_X1_init h o) (c_X1_init h2 o) := by
  unfold c_X1_init
  repeat (with_reducible first | exact e | apply rr_ui | apply rr_fl | apply rr_ur | apply rr_nx | apply rr_mkr)
theorem rr_X0 {h h2 : am_H} {o : Nat} (e : rr_e h h2) : rr_e (c_X0_init h o) (c_X0_init h2 o) := by
  unfold c_X0_init
  repeat (with_reducible first | exact e | apply rr_ui | apply rr_fl | apply rr_ur | apply rr_nx | apply rr_mkr)
theorem rr_X3 {h h2 : am_H} (e : rr_e h h2) : rr_e (c_X3_init h) (c_X3_init h2) := by
  unfold c_X3_init
  repeat (with_reducible first | exact e | apply rr_ui | apply rr_fl | apply rr_ur | apply rr_nx | apply rr_mkr)
theorem rr_X4 {h h2 : am_H} (e : rr_e h h2) : rr_e (c_X4_init h) (c_X4_init h2) := by
  unfold c_X4_init
  repeat (with_reducible first | exact e | apply rr_ui | apply rr_fl | apply rr_ur | apply rr_nx | apply rr_mkr)
theorem rr_X7 {h h2 : am_H} (e : rr_e h h2) : rr_e (c_X7_init h) (c_X7_init h2) := by
  unfold c_X7_init
  repeat (with_reducible first | exact e | apply rr_ui | apply rr_fl | apply rr_ur | apply rr_nx | apply rr_mkr)
theorem rr_X2 {h h2 : am_H} (e : rr_e h h2) : rr_e (c_X2_init h) (c_X2_init h2) := by
  unfold c_X2_init
  repeat (with_reducible first | exact e | apply rr_ui | apply rr_fl | apply rr_ur | apply rr_nx | apply rr_mkr | apply rr_X1)
theorem rr_X8 {h h2 : am_H} (e : rr_e h h2) : rr_e (c_X8_init h) (c_X8_init h2) := by
  unfold c_X8_init
  repeat (with_reducible first | exact e | apply rr_ui | apply rr_fl | apply rr_ur | apply rr_nx | apply rr_mkr | apply rr_X1 | apply rr_X0 | apply rr_X2 | apply rr_X3 | apply rr_X4 | apply rr_X7)
theorem rr_X9 {h h2 : am_H} (e : rr_e h h2) : rr_e (c_X9_init h) (c_X9_init h2) := by
  unfold c_X9_init
  repeat (with_reducible first | exact e | apply rr_ui | apply rr_fl | apply rr_ur | apply rr_nx | apply rr_mkr)
def am_z0 : am_H := (3, fun _ _ => 0, fun _ _ => 0)
/-- the references behind the constructors -/
def am_r9 : am_rr := (c_X9_init (am_nx (c_X8_init (am_nx am_z0)))).2.2
theorem am_r9_of {m : Nat → Nat → Int32} : (c_X9_init (am_nx (c_X8_init (am_nx (3, m, fun _ _ => 0))))).2.2 = am_r9 := by
  have e0 : rr_e (3, m, fun _ _ => 0) am_z0 := ⟨rfl, rfl⟩
  have e1 := (rr_X9 (rr_nx (rr_X8 (rr_nx e0)))).2
  unfold am_r9
  exact e1
theorem lay_1 : ∀ q ∈ am_lays, am_r9 q.1 q.2.1 = q.2.2 := by decide +kernel
theorem lay_2 : ∀ u, u < 24 → am_r9 2988 u = aR u := by decide +kernel
theorem lay_3 : ∀ i, i < 10 → am_r9 499 i = 500 + 247 * i := by decide +kernel
theorem lay_4 : ∀ b ∈ ([2970, 2976] : List Nat), ∀ k, k < 5 → am_r9 b k = aB b k := by decide +kernel
def am_l9 (o : Nat) : Prop := am_r9 o 0 = aU o ∧ am_r9 o 1 = aS o ∧ am_r9 o 2 = o + 3 ∧ am_r9 o 3 = o + 28 ∧ am_r9 o 4 = aC o ∧ am_r9 o 5 = o + 54 ∧ (∀ u, u < 24 → am_r9 (o + 3) u = aW o u) ∧ (∀ u, u < 24 → am_r9 (o + 28) u = aX o u) ∧ ∀ j, j < 192 → am_r9 (o + 54) j = o + 55 + j
set_option maxRecDepth 100000 in
theorem lay_o4 : am_l9 4 := by unfold am_l9; decide +kernel
set_option maxRecDepth 100000 in
theorem lay_o251 : am_l9 251 := by unfold am_l9; decide +kernel
set_option maxRecDepth 100000 in
theorem lay_o3014 : am_l9 3014 := by unfold am_l9; decide +kernel
set_option maxRecDepth 100000 in
theorem lay_o500 : am_l9 500 := by unfold am_l9; decide +kernel
set_option maxRecDepth 100000 in
theorem lay_o747 : am_l9 747 := by unfold am_l9; decide +kernel
set_option maxRecDepth 100000 in
theorem lay_o994 : am_l9 994 := by unfold am_l9; decide +kernel
set_option maxRecDepth 100000 in
theorem lay_o1241 : am_l9 1241 := by unfold am_l9; decide +kernel
set_option maxRecDepth 100000 in
theorem lay_o1488 : am_l9 1488 := by unfold am_l9; decide +kernel
set_option maxRecDepth 100000 in
theorem lay_o1735 : am_l9 1735 := by unfold am_l9; decide +kernel
set_option maxRecDepth 100000 in
theorem lay_o1982 : am_l9 1982 := by unfold am_l9; decide +kernel
set_option maxRecDepth 100000 in
theorem lay_o2229 : am_l9 2229 := by unfold am_l9; decide +kernel
set_option maxRecDepth 100000 in
theorem lay_o2476 : am_l9 2476 := by unfold am_l9; decide +kernel
set_option maxRecDepth 100000 in
theorem lay_o2723 : am_l9 2723 := by unfold am_l9; decide +kernel
theorem lay_o (o : Nat) (h : am_og o) : am_l9 o := by
  rcases h with rfl | rfl | rfl | ⟨i, hi, rfl⟩
  · exact lay_o4
  · exact lay_o251
  · exact lay_o3014
  · match i, hi with
    | 0, _ => exact lay_o500
    | 1, _ => exact lay_o747
    | 2, _ => exact lay_o994
    | 3, _ => exact lay_o1241
    | 4, _ => exact lay_o1488
    | 5, _ => exact lay_o1735
    | 6, _ => exact lay_o1982
    | 7, _ => exact lay_o2229
    | 8, _ => exact lay_o2476
    | 9, _ => exact lay_o2723
    | i + 10, h9 => omega
theorem am_lay9 : am_Lay am_r9 := by
  refine ⟨lay_1, lay_2, lay_3, fun b hb => ?_, fun o ho => ?_⟩
  · exact lay_4 b (by rcases hb with rfl | rfl <;> simp)
  · obtain ⟨h1, h2, h3, h4, h5, h6, h7, h8, h9⟩ := lay_o o ho
    exact ⟨h1, h2, h3, h4, h5, h6, h7, h8, fun j hj => ⟨j, hj, h9 j hj⟩⟩
