/-! ===== the walks, 6 ===== -/
set_option maxRecDepth 100000 in
set_option maxHeartbeats 4000000 in
theorem x_X9_seats__31 {G : am_G} {x1 : Int32} {x2 : Int32} {x3 : Int32} {r : am_rr} {y1 : Int32} {y2 : Int32} {y3 : Int32} {res : Int32 × am_m} {k : am_m → Option (Int32 × am_m)} (hL : am_Lay r) : ∀ (n : Nat) (z4 : Int32) (m : am_m), m_X9_seats__31 x1 x2 x3 y1 y2 y3 k n z4 m = some res → (∀ (m1 : am_m), k m1 = some res → am_W G mt_X9_seats_ 3 (some (.int res.1)) (am_hh res.2 r) 52 [(0, .ref 3261), (1, .int y1), (2, .int y2), (3, .int y3)] [] (am_hh m1 r)) → am_W G mt_X9_seats_ 3 (some (.int res.1)) (am_hh res.2 r) 31 [(0, .ref 3261), (1, .int y1), (2, .int y2), (3, .int y3), (4, .int z4)] [] (am_hh m r) := by
  intro n
  induction n with
  | zero => intro z4 m hm K; cases hm
  | succ n ih =>
    intro z4 m hm K
    unfold m_X9_seats__31 at hm
    refine am_steps ck_X9_seats_ 2 (pc' := 35) (lv' := [(0, .ref 3261), (1, .int y1), (2, .int y2), (3, .int y3), (4, .int z4)]) (st' := [.int (am_i 64), .int z4]) rfl ?_
    refine am_icmp (tgt := 52) (am_fd ck_X9_seats_ (pc := 35) rfl) rfl (fun hc7 => ?_) (fun hc7 => ?_)
    · replace hm := am_it hm hc7
      refine am_subp [0, 1, 2, 3] rfl ?_
      exact K _ hm
    · replace hm := am_if hm hc7
      refine am_steps ck_X9_seats_ 1 (pc' := 39) (lv' := [(0, .ref 3261), (1, .int y1), (2, .int y2), (3, .int y3), (4, .int z4)]) (st' := [.ref 3261]) rfl ?_
      refine ms_getr (ci := 7) (k := 15) (v := 3269) (am_fd ck_X9_seats_ (pc := 39) rfl) tw_890 kc_3261 rfl (ly_3261_15 hL) kc_3269 ?_
      refine am_steps ck_X9_seats_ 2 (pc' := 45) (lv' := [(0, .ref 3261), (1, .int y1), (2, .int y2), (3, .int y3), (4, .int z4)]) (st' := [.int (am_i 0), .int z4, .ref 3269]) rfl ?_
      obtain ⟨hb8, hm⟩ := am_gE hm
      refine ms_iast (n := 64) (am_fd ck_X9_seats_ (pc := 45) rfl) kc_3269 hb8 (fun m9 em9 => ?_)
      replace hm := am_letE em9 hm
      refine am_steps ck_X9_seats_ 2 (pc' := 31) (lv' := [(4, .int (z4 + am_i 1)), (0, .ref 3261), (1, .int y1), (2, .int y2), (3, .int y3)]) (st' := []) rfl ?_
      refine am_subp [1, 2, 3, 4, 0] rfl ?_
      exact ih _ _ hm K
set_option maxRecDepth 100000 in
set_option maxHeartbeats 4000000 in
theorem x_X9_seats__55 {G : am_G} {x1 : Int32} {x2 : Int32} {x3 : Int32} {r : am_rr} {y1 : Int32} {y2 : Int32} {y3 : Int32} {res : Int32 × am_m} {k : am_m → Option (Int32 × am_m)} (hL : am_Lay r) : ∀ (n : Nat) (z4 : Int32) (m : am_m), m_X9_seats__55 x1 x2 x3 y1 y2 y3 k n z4 m = some res → (∀ (m1 : am_m), k m1 = some res → am_W G mt_X9_seats_ 3 (some (.int res.1)) (am_hh res.2 r) 72 [(0, .ref 3261), (3, .int y3)] [] (am_hh m1 r)) → am_W G mt_X9_seats_ 3 (some (.int res.1)) (am_hh res.2 r) 55 [(0, .ref 3261), (1, .int y1), (2, .int y2), (3, .int y3), (4, .int z4)] [] (am_hh m r) := by
  intro n
  induction n with
  | zero => intro z4 m hm K; cases hm
  | succ n ih =>
    intro z4 m hm K
    unfold m_X9_seats__55 at hm
    refine am_steps ck_X9_seats_ 2 (pc' := 58) (lv' := [(0, .ref 3261), (1, .int y1), (2, .int y2), (3, .int y3), (4, .int z4)]) (st' := [.int y2, .int z4]) rfl ?_
    refine am_icmp (tgt := 72) (am_fd ck_X9_seats_ (pc := 58) rfl) rfl (fun hc11 => ?_) (fun hc11 => ?_)
    · replace hm := am_it hm hc11
      refine am_subp [0, 3] rfl ?_
      exact K _ hm
    · replace hm := am_if hm hc11
      refine am_steps ck_X9_seats_ 2 (pc' := 63) (lv' := [(0, .ref 3261), (1, .int y1), (2, .int y2), (3, .int y3), (4, .int z4)]) (st' := [.int y1, .ref 3261]) rfl ?_
      obtain ⟨q12, hq12, hm⟩ := am_bE hm
      refine ms_callVv (M2 := mt_X9_seats) (d2 := 2) (ci := 7) [.int y1] (am_fd ck_X9_seats_ (pc := 63) rfl) ok_X9_seats tw_1239 tw_1241 ts_68 (by decide) kc_3261 (Nat.le_of_ble_eq_true rfl) (Nat.le_of_ble_eq_true rfl) (x_X9_seats hL hq12) ?_
      refine am_steps ck_X9_seats_ 2 (pc' := 55) (lv' := [(4, .int (z4 + am_i 1)), (0, .ref 3261), (1, .int y1), (2, .int y2), (3, .int y3)]) (st' := []) rfl ?_
      refine am_subp [1, 2, 3, 4, 0] rfl ?_
      exact ih _ _ hm K
set_option maxRecDepth 100000 in
set_option maxHeartbeats 4000000 in
theorem x_X9_seats_ {G : am_G} {m : am_m} {r : am_rr} {x1 : Int32} {x2 : Int32} {x3 : Int32} {res : Int32 × am_m} (hL : am_Lay r) (hm : m_X9_seats_ m x1 x2 x3 = some res) : am_Met G mt_X9_seats_ 3 [.ref 3261, .int x1, .int x2, .int x3] (am_hh m r) (some (.int res.1)) (am_hh res.2 r) := by
  refine am_of (by decide) (Nat.le_of_ble_eq_true rfl) ?_
  unfold m_X9_seats_ at hm
  show am_W G mt_X9_seats_ 3 _ _ 0 [(0, .ref 3261), (1, .int x1), (2, .int x2), (3, .int x3)] [] (am_hh m r)
  refine am_steps ck_X9_seats_ 2 (pc' := 2) (lv' := [(0, .ref 3261), (1, .int x1), (2, .int x2), (3, .int x3)]) (st' := [.int x1, .ref 3261]) rfl ?_
  obtain ⟨q1, hq1, hm⟩ := am_bE hm
  refine ms_callV (M2 := mt_X9_isUnit) (d2 := 2) (ci := 7) [.int x1] (am_fd ck_X9_seats_ (pc := 2) rfl) ok_X9_isUnit tw_949 tw_951 ts_28 (by decide) kc_3261 (Nat.le_of_ble_eq_true rfl) (Nat.le_of_ble_eq_true rfl) (x_X9_isUnit hL hq1) ?_
  refine am_ifc (tgt := 26) (am_fd ck_X9_seats_ (pc := 5) rfl) rfl (fun hc2 => ?_) (fun hc2 => ?_)
  · replace hm := am_it hm hc2
    refine am_steps ck_X9_seats_ 1 (pc' := 27) (lv' := [(0, .ref 3261), (1, .int x1), (2, .int x2), (3, .int x3)]) (st' := [.int (am_i (-1))]) rfl ?_
    cases hm
    exact am_end (am_fd ck_X9_seats_ (pc := 27) rfl) am_rI rfl rfl
  · replace hm := am_if hm hc2
    refine am_steps ck_X9_seats_ 3 (pc' := 13) (lv' := [(0, .ref 3261), (1, .int x1), (2, .int x2), (3, .int x3)]) (st' := [.int (am_i 200), .int (am_i 0), .int x2]) rfl ?_
    obtain ⟨q3, hq3, hm⟩ := am_bE hm
    refine ms_callS (M2 := mt_X9_isIn) (d2 := 1) [.int x2, .int (am_i 0), .int (am_i 200)] (am_fd ck_X9_seats_ (pc := 13) rfl) ok_X9_isIn tw_953 tw_954 (Nat.le_of_ble_eq_true rfl) (Nat.le_of_ble_eq_true rfl) (x_X9_isIn hL hq3) ?_
    refine am_ifc (tgt := 26) (am_fd ck_X9_seats_ (pc := 16) rfl) rfl (fun hc4 => ?_) (fun hc4 => ?_)
    · replace hm := am_it hm hc4
      refine am_steps ck_X9_seats_ 1 (pc' := 27) (lv' := [(0, .ref 3261), (1, .int x1), (2, .int x2), (3, .int x3)]) (st' := [.int (am_i (-1))]) rfl ?_
      cases hm
      exact am_end (am_fd ck_X9_seats_ (pc := 27) rfl) am_rI rfl rfl
    · replace hm := am_if hm hc4
      refine am_steps ck_X9_seats_ 1 (pc' := 20) (lv' := [(0, .ref 3261), (1, .int x1), (2, .int x2), (3, .int x3)]) (st' := [.int x3]) rfl ?_
      obtain ⟨q5, hq5, hm⟩ := am_bE hm
      refine ms_callS (M2 := mt_X9_isCategory) (d2 := 2) [.int x3] (am_fd ck_X9_seats_ (pc := 20) rfl) ok_X9_isCategory tw_956 tw_957 (Nat.le_of_ble_eq_true rfl) (Nat.le_of_ble_eq_true rfl) (x_X9_isCategory hL hq5) ?_
      refine am_ifc (tgt := 28) (am_fd ck_X9_seats_ (pc := 23) rfl) rfl (fun hc6 => ?_) (fun hc6 => ?_)
      · replace hm := am_it hm hc6
        refine am_steps ck_X9_seats_ 2 (pc' := 31) (lv' := [(4, .int (am_i 0)), (0, .ref 3261), (1, .int x1), (2, .int x2), (3, .int x3)]) (st' := []) rfl ?_
        refine am_subp [1, 2, 3, 4, 0] rfl ?_
        refine x_X9_seats__31 hL am_F _ _ hm (fun m10 hm => ?_)
        refine am_steps ck_X9_seats_ 2 (pc' := 55) (lv' := [(4, .int (am_i 0)), (0, .ref 3261), (1, .int x1), (2, .int x2), (3, .int x3)]) (st' := []) rfl ?_
        refine am_subp [1, 2, 3, 4, 0] rfl ?_
        refine x_X9_seats__55 hL am_F _ _ hm (fun m13 hm => ?_)
        refine am_steps ck_X9_seats_ 1 (pc' := 73) (lv' := [(0, .ref 3261), (3, .int x3)]) (st' := [.ref 3261]) rfl ?_
        refine ms_getr (ci := 7) (k := 15) (v := 3269) (am_fd ck_X9_seats_ (pc := 73) rfl) tw_890 kc_3261 rfl (ly_3261_15 hL) kc_3269 ?_
        refine am_steps ck_X9_seats_ 1 (pc' := 77) (lv' := [(0, .ref 3261), (3, .int x3)]) (st' := [.int x3, .ref 3269]) rfl ?_
        obtain ⟨hb14, hm⟩ := am_gE hm
        refine ms_iald (n := 64) (am_fd ck_X9_seats_ (pc := 77) rfl) kc_3269 hb14 ?_
        cases hm
        exact am_end (am_fd ck_X9_seats_ (pc := 78) rfl) am_rI rfl rfl
      · replace hm := am_if hm hc6
        refine am_steps ck_X9_seats_ 1 (pc' := 27) (lv' := [(0, .ref 3261), (1, .int x1), (2, .int x2), (3, .int x3)]) (st' := [.int (am_i (-1))]) rfl ?_
        cases hm
        exact am_end (am_fd ck_X9_seats_ (pc := 27) rfl) am_rI rfl rfl
set_option maxRecDepth 100000 in
set_option maxHeartbeats 4000000 in
theorem x_X9_unlike_4 {G : am_G} {a1 : Nat} {a2 : Nat} {m : am_m} {r : am_rr} {res : Int32} {k : Int32 → Option (Int32)} (hL : am_Lay r) (ha1 : am_k a1 11 64) (ha2 : am_k a2 11 64) : ∀ (n : Nat) (z2 : Int32) (z3 : Int32), m_X9_unlike_4 a1 a2 m k n z2 z3 = some res → (∀ (u2 : Int32), k u2 = some res → am_W G mt_X9_unlike 1 (some (.int res)) (am_hh m r) 45 [(2, .int u2)] [] (am_hh m r)) → am_W G mt_X9_unlike 1 (some (.int res)) (am_hh m r) 4 [(0, .ref a1), (1, .ref a2), (2, .int z2), (3, .int z3)] [] (am_hh m r) := by
  intro n
  induction n with
  | zero => intro z2 z3 hm K; cases hm
  | succ n ih =>
    intro z2 z3 hm K
    unfold m_X9_unlike_4 at hm
    refine am_steps ck_X9_unlike 2 (pc' := 7) (lv' := [(0, .ref a1), (1, .ref a2), (2, .int z2), (3, .int z3)]) (st' := [.int (am_i 64), .int z3]) rfl ?_
    refine am_icmp (tgt := 45) (am_fd ck_X9_unlike (pc := 7) rfl) rfl (fun hc1 => ?_) (fun hc1 => ?_)
    · replace hm := am_it hm hc1
      refine am_subp [2] rfl ?_
      exact K _ hm
    · replace hm := am_if hm hc1
      refine am_steps ck_X9_unlike 3 (pc' := 13) (lv' := [(0, .ref a1), (1, .ref a2), (2, .int z2), (3, .int z3)]) (st' := [.int z3, .ref a1, .int z2]) rfl ?_
      obtain ⟨hb2, hm⟩ := am_gE hm
      refine ms_iald (n := 64) (am_fd ck_X9_unlike (pc := 13) rfl) ha1 hb2 ?_
      refine am_steps ck_X9_unlike 2 (pc' := 16) (lv' := [(0, .ref a1), (1, .ref a2), (2, .int z2), (3, .int z3)]) (st' := [.int z3, .ref a2, .int (m a1 (am_ix z3)), .int z2]) rfl ?_
      obtain ⟨hb3, hm⟩ := am_gE hm
      refine ms_iald (n := 64) (am_fd ck_X9_unlike (pc := 16) rfl) ha2 hb3 ?_
      refine am_icmp (tgt := 30) (am_fd ck_X9_unlike (pc := 17) rfl) rfl (fun hc4 => ?_) (fun hc4 => ?_)
      · replace hm := am_it hm hc4
        refine am_steps ck_X9_unlike 2 (pc' := 32) (lv' := [(0, .ref a1), (1, .ref a2), (2, .int z2), (3, .int z3)]) (st' := [.int z3, .ref a2, .int z2]) rfl ?_
        obtain ⟨hb5, hm⟩ := am_gE hm
        refine ms_iald (n := 64) (am_fd ck_X9_unlike (pc := 32) rfl) ha2 hb5 ?_
        refine am_steps ck_X9_unlike 2 (pc' := 35) (lv' := [(0, .ref a1), (1, .ref a2), (2, .int z2), (3, .int z3)]) (st' := [.int z3, .ref a1, .int (m a2 (am_ix z3)), .int z2]) rfl ?_
        obtain ⟨hb6, hm⟩ := am_gE hm
        refine ms_iald (n := 64) (am_fd ck_X9_unlike (pc := 35) rfl) ha1 hb6 ?_
        refine am_steps ck_X9_unlike 5 (pc' := 4) (lv' := [(3, .int (z3 + am_i 1)), (2, .int (z2 + ((m a2 (am_ix z3)) - (m a1 (am_ix z3))))), (0, .ref a1), (1, .ref a2)]) (st' := []) rfl ?_
        refine am_subp [2, 3, 1, 0] rfl ?_
        exact ih _ _ hm K
      · replace hm := am_if hm hc4
        refine am_steps ck_X9_unlike 2 (pc' := 22) (lv' := [(0, .ref a1), (1, .ref a2), (2, .int z2), (3, .int z3)]) (st' := [.int z3, .ref a1, .int z2]) rfl ?_
        obtain ⟨hb7, hm⟩ := am_gE hm
        refine ms_iald (n := 64) (am_fd ck_X9_unlike (pc := 22) rfl) ha1 hb7 ?_
        refine am_steps ck_X9_unlike 2 (pc' := 25) (lv' := [(0, .ref a1), (1, .ref a2), (2, .int z2), (3, .int z3)]) (st' := [.int z3, .ref a2, .int (m a1 (am_ix z3)), .int z2]) rfl ?_
        obtain ⟨hb8, hm⟩ := am_gE hm
        refine ms_iald (n := 64) (am_fd ck_X9_unlike (pc := 25) rfl) ha2 hb8 ?_
        refine am_steps ck_X9_unlike 6 (pc' := 4) (lv' := [(3, .int (z3 + am_i 1)), (2, .int (z2 + ((m a1 (am_ix z3)) - (m a2 (am_ix z3))))), (0, .ref a1), (1, .ref a2)]) (st' := []) rfl ?_
        refine am_subp [2, 3, 1, 0] rfl ?_
        exact ih _ _ hm K
set_option maxRecDepth 100000 in
set_option maxHeartbeats 4000000 in
theorem x_X9_unlike {G : am_G} {m : am_m} {r : am_rr} {a1 : Nat} {a2 : Nat} {res : Int32} (hL : am_Lay r) (ha1 : am_k a1 11 64) (ha2 : am_k a2 11 64) (hm : m_X9_unlike m a1 a2 = some res) : am_Met G mt_X9_unlike 1 [.ref a1, .ref a2] (am_hh m r) (some (.int res)) (am_hh m r) := by
  refine am_of (by decide) (Nat.le_of_ble_eq_true rfl) ?_
  unfold m_X9_unlike at hm
  show am_W G mt_X9_unlike 1 _ _ 0 [(0, .ref a1), (1, .ref a2)] [] (am_hh m r)
  refine am_steps ck_X9_unlike 4 (pc' := 4) (lv' := [(3, .int (am_i 0)), (2, .int (am_i 0)), (0, .ref a1), (1, .ref a2)]) (st' := []) rfl ?_
  refine am_subp [2, 3, 1, 0] rfl ?_
  refine x_X9_unlike_4 hL ha1 ha2 am_F _ _ hm (fun u9 hm => ?_)
  refine am_steps ck_X9_unlike 1 (pc' := 46) (lv' := [(2, .int u9)]) (st' := [.int u9]) rfl ?_
  cases hm
  exact am_end (am_fd ck_X9_unlike (pc := 46) rfl) am_rI rfl rfl
set_option maxRecDepth 100000 in
set_option maxHeartbeats 4000000 in
theorem x_X9_versions {G : am_G} {m : am_m} {r : am_rr} {x1 : Int32} {res : Int32} (hL : am_Lay r) (hm : m_X9_versions m x1 = some res) : am_Met G mt_X9_versions 3 [.ref 3261, .int x1] (am_hh m r) (some (.int res)) (am_hh m r) := by
  refine am_of (by decide) (Nat.le_of_ble_eq_true rfl) ?_
  unfold m_X9_versions at hm
  show am_W G mt_X9_versions 3 _ _ 0 [(0, .ref 3261), (1, .int x1)] [] (am_hh m r)
  refine am_steps ck_X9_versions 2 (pc' := 2) (lv' := [(0, .ref 3261), (1, .int x1)]) (st' := [.int x1, .ref 3261]) rfl ?_
  obtain ⟨q1, hq1, hm⟩ := am_bE hm
  refine ms_callV (M2 := mt_X9_isUnit) (d2 := 2) (ci := 7) [.int x1] (am_fd ck_X9_versions (pc := 2) rfl) ok_X9_isUnit tw_949 tw_951 ts_28 (by decide) kc_3261 (Nat.le_of_ble_eq_true rfl) (Nat.le_of_ble_eq_true rfl) (x_X9_isUnit hL hq1) ?_
  refine am_ifc (tgt := 21) (am_fd ck_X9_versions (pc := 5) rfl) rfl (fun hc2 => ?_) (fun hc2 => ?_)
  · replace hm := am_it hm hc2
    refine am_steps ck_X9_versions 1 (pc' := 22) (lv' := [(0, .ref 3261), (1, .int x1)]) (st' := [.int (am_i (-1))]) rfl ?_
    cases hm
    exact am_end (am_fd ck_X9_versions (pc := 22) rfl) am_rI rfl rfl
  · replace hm := am_if hm hc2
    refine am_steps ck_X9_versions 1 (pc' := 9) (lv' := [(0, .ref 3261), (1, .int x1)]) (st' := [.ref 3261]) rfl ?_
    refine ms_getr (ci := 7) (k := 0) (v := 3262) (am_fd ck_X9_versions (pc := 9) rfl) tw_875 kc_3261 rfl (ly_3261_0 hL) kc_3262 ?_
    refine am_steps ck_X9_versions 3 (pc' := 17) (lv' := [(0, .ref 3261), (1, .int x1)]) (st' := [.int ((am_i 3144) + x1), .ref 3262]) rfl ?_
    obtain ⟨hb3, hm⟩ := am_gE hm
    refine ms_iald (n := 15517) (am_fd ck_X9_versions (pc := 17) rfl) kc_3262 hb3 ?_
    refine am_steps ck_X9_versions 1 (pc' := 22) (lv' := [(0, .ref 3261), (1, .int x1)]) (st' := [.int (m 3262 (am_ix ((am_i 3144) + x1)))]) rfl ?_
    cases hm
    exact am_end (am_fd ck_X9_versions (pc := 22) rfl) am_rI rfl rfl
set_option maxRecDepth 100000 in
set_option maxHeartbeats 4000000 in
theorem x_X9_was {G : am_G} {m : am_m} {r : am_rr} {x1 : Int32} {x2 : Int32} {x3 : Int32} {res : Int32} (hL : am_Lay r) (hm : m_X9_was m x1 x2 x3 = some res) : am_Met G mt_X9_was 3 [.ref 3261, .int x1, .int x2, .int x3] (am_hh m r) (some (.int res)) (am_hh m r) := by
  refine am_of (by decide) (Nat.le_of_ble_eq_true rfl) ?_
  unfold m_X9_was at hm
  show am_W G mt_X9_was 3 _ _ 0 [(0, .ref 3261), (1, .int x1), (2, .int x2), (3, .int x3)] [] (am_hh m r)
  refine am_steps ck_X9_was 2 (pc' := 2) (lv' := [(0, .ref 3261), (1, .int x1), (2, .int x2), (3, .int x3)]) (st' := [.int x1, .ref 3261]) rfl ?_
  obtain ⟨q1, hq1, hm⟩ := am_bE hm
  refine ms_callV (M2 := mt_X9_isUnit) (d2 := 2) (ci := 7) [.int x1] (am_fd ck_X9_was (pc := 2) rfl) ok_X9_isUnit tw_949 tw_951 ts_28 (by decide) kc_3261 (Nat.le_of_ble_eq_true rfl) (Nat.le_of_ble_eq_true rfl) (x_X9_isUnit hL hq1) ?_
  refine am_ifc (tgt := 50) (am_fd ck_X9_was (pc := 5) rfl) rfl (fun hc2 => ?_) (fun hc2 => ?_)
  · replace hm := am_it hm hc2
    refine am_steps ck_X9_was 1 (pc' := 51) (lv' := [(0, .ref 3261), (1, .int x1), (2, .int x2), (3, .int x3)]) (st' := [.int (am_i (-1))]) rfl ?_
    cases hm
    exact am_end (am_fd ck_X9_was (pc := 51) rfl) am_rI rfl rfl
  · replace hm := am_if hm hc2
    refine am_steps ck_X9_was 3 (pc' := 11) (lv' := [(0, .ref 3261), (1, .int x1), (2, .int x2), (3, .int x3)]) (st' := [.ref 3261, .int (am_i 0), .int x2]) rfl ?_
    refine ms_getr (ci := 7) (k := 0) (v := 3262) (am_fd ck_X9_was (pc := 11) rfl) tw_875 kc_3261 rfl (ly_3261_0 hL) kc_3262 ?_
    refine am_steps ck_X9_was 3 (pc' := 19) (lv' := [(0, .ref 3261), (1, .int x1), (2, .int x2), (3, .int x3)]) (st' := [.int ((am_i 3144) + x1), .ref 3262, .int (am_i 0), .int x2]) rfl ?_
    obtain ⟨hb3, hm⟩ := am_gE hm
    refine ms_iald (n := 15517) (am_fd ck_X9_was (pc := 19) rfl) kc_3262 hb3 ?_
    refine am_steps ck_X9_was 2 (pc' := 22) (lv' := [(0, .ref 3261), (1, .int x1), (2, .int x2), (3, .int x3)]) (st' := [.int ((m 3262 (am_ix ((am_i 3144) + x1))) - (am_i 1)), .int (am_i 0), .int x2]) rfl ?_
    obtain ⟨q4, hq4, hm⟩ := am_bE hm
    refine ms_callS (M2 := mt_X9_isIn) (d2 := 1) [.int x2, .int (am_i 0), .int ((m 3262 (am_ix ((am_i 3144) + x1))) - (am_i 1))] (am_fd ck_X9_was (pc := 22) rfl) ok_X9_isIn tw_953 tw_954 (Nat.le_of_ble_eq_true rfl) (Nat.le_of_ble_eq_true rfl) (x_X9_isIn hL hq4) ?_
    refine am_ifc (tgt := 50) (am_fd ck_X9_was (pc := 25) rfl) rfl (fun hc5 => ?_) (fun hc5 => ?_)
    · replace hm := am_it hm hc5
      refine am_steps ck_X9_was 1 (pc' := 51) (lv' := [(0, .ref 3261), (1, .int x1), (2, .int x2), (3, .int x3)]) (st' := [.int (am_i (-1))]) rfl ?_
      cases hm
      exact am_end (am_fd ck_X9_was (pc := 51) rfl) am_rI rfl rfl
    · replace hm := am_if hm hc5
      refine am_steps ck_X9_was 1 (pc' := 29) (lv' := [(0, .ref 3261), (1, .int x1), (2, .int x2), (3, .int x3)]) (st' := [.int x3]) rfl ?_
      obtain ⟨q6, hq6, hm⟩ := am_bE hm
      refine ms_callS (M2 := mt_X9_isCategory) (d2 := 2) [.int x3] (am_fd ck_X9_was (pc := 29) rfl) ok_X9_isCategory tw_956 tw_957 (Nat.le_of_ble_eq_true rfl) (Nat.le_of_ble_eq_true rfl) (x_X9_isCategory hL hq6) ?_
      refine am_ifc (tgt := 50) (am_fd ck_X9_was (pc := 32) rfl) rfl (fun hc7 => ?_) (fun hc7 => ?_)
      · replace hm := am_it hm hc7
        refine am_steps ck_X9_was 1 (pc' := 51) (lv' := [(0, .ref 3261), (1, .int x1), (2, .int x2), (3, .int x3)]) (st' := [.int (am_i (-1))]) rfl ?_
        cases hm
        exact am_end (am_fd ck_X9_was (pc := 51) rfl) am_rI rfl rfl
      · replace hm := am_if hm hc7
        refine am_steps ck_X9_was 1 (pc' := 36) (lv' := [(0, .ref 3261), (1, .int x1), (2, .int x2), (3, .int x3)]) (st' := [.ref 3261]) rfl ?_
        refine ms_getr (ci := 7) (k := 0) (v := 3262) (am_fd ck_X9_was (pc := 36) rfl) tw_875 kc_3261 rfl (ly_3261_0 hL) kc_3262 ?_
        refine am_steps ck_X9_was 2 (pc' := 41) (lv' := [(0, .ref 3261), (1, .int x1), (2, .int x2), (3, .int x3)]) (st' := [.int x2, .int x1, .ref 3262]) rfl ?_
        obtain ⟨q8, hq8, hm⟩ := am_bE hm
        refine ms_callS (M2 := mt_X9_versionAt) (d2 := 1) [.int x1, .int x2] (am_fd ck_X9_was (pc := 41) rfl) ok_X9_versionAt tw_1073 tw_1074 (Nat.le_of_ble_eq_true rfl) (Nat.le_of_ble_eq_true rfl) (x_X9_versionAt hL hq8) ?_
        refine am_steps ck_X9_was 2 (pc' := 46) (lv' := [(0, .ref 3261), (1, .int x1), (2, .int x2), (3, .int x3)]) (st' := [.int (q8 + x3), .ref 3262]) rfl ?_
        obtain ⟨hb9, hm⟩ := am_gE hm
        refine ms_iald (n := 15517) (am_fd ck_X9_was (pc := 46) rfl) kc_3262 hb9 ?_
        refine am_steps ck_X9_was 1 (pc' := 51) (lv' := [(0, .ref 3261), (1, .int x1), (2, .int x2), (3, .int x3)]) (st' := [.int (m 3262 (am_ix (q8 + x3)))]) rfl ?_
        cases hm
        exact am_end (am_fd ck_X9_was (pc := 51) rfl) am_rI rfl rfl
set_option maxRecDepth 100000 in
set_option maxHeartbeats 4000000 in
theorem x_X9_grew_52 {G : am_G} {x1 : Int32} {x2 : Int32} {x3 : Int32} {r : am_rr} {y1 : Int32} {y2 : Int32} {y3 : Int32} {res : Int32 × am_m} {k : Int32 → Int32 → Int32 → am_m → Option (Int32 × am_m)} (hL : am_Lay r) : ∀ (n : Nat) (z4 : Int32) (z5 : Int32) (z6 : Int32) (z7 : Int32) (m : am_m), m_X9_grew_52 x1 x2 x3 y1 y2 y3 k n z4 z5 z6 z7 m = some res → (∀ (u4 : Int32) (u5 : Int32) (u6 : Int32) (m1 : am_m), k u4 u5 u6 m1 = some res → am_W G mt_X9_grew 3 (some (.int res.1)) (am_hh res.2 r) 171 [(0, .ref 3261), (3, .int y3), (4, .int u4), (5, .int u5), (6, .int u6)] [] (am_hh m1 r)) → am_W G mt_X9_grew 3 (some (.int res.1)) (am_hh res.2 r) 52 [(0, .ref 3261), (1, .int y1), (2, .int y2), (3, .int y3), (4, .int z4), (5, .int z5), (6, .int z6), (7, .int z7)] [] (am_hh m r) := by
  intro n
  induction n with
  | zero => intro z4 z5 z6 z7 m hm K; cases hm
  | succ n ih =>
    intro z4 z5 z6 z7 m hm K
    unfold m_X9_grew_52 at hm
    refine am_steps ck_X9_grew 2 (pc' := 56) (lv' := [(0, .ref 3261), (1, .int y1), (2, .int y2), (3, .int y3), (4, .int z4), (5, .int z5), (6, .int z6), (7, .int z7)]) (st' := [.int (am_i 64), .int z7]) rfl ?_
    refine am_icmp (tgt := 171) (am_fd ck_X9_grew (pc := 56) rfl) rfl (fun hc8 => ?_) (fun hc8 => ?_)
    · replace hm := am_it hm hc8
      refine am_subp [0, 3, 4, 5, 6] rfl ?_
      exact K _ _ _ _ hm
    · replace hm := am_if hm hc8
      refine am_steps ck_X9_grew 1 (pc' := 60) (lv' := [(0, .ref 3261), (1, .int y1), (2, .int y2), (3, .int y3), (4, .int z4), (5, .int z5), (6, .int z6), (7, .int z7)]) (st' := [.ref 3261]) rfl ?_
      refine ms_getr (ci := 7) (k := 6) (v := 3266) (am_fd ck_X9_grew (pc := 60) rfl) tw_881 kc_3261 rfl (ly_3261_6 hL) kc_3266 ?_
      refine am_steps ck_X9_grew 2 (pc' := 66) (lv' := [(0, .ref 3261), (1, .int y1), (2, .int y2), (3, .int y3), (4, .int z4), (5, .int z5), (6, .int z6), (7, .int z7)]) (st' := [.ref 3261, .int z7, .ref 3266]) rfl ?_
      refine ms_getr (ci := 7) (k := 0) (v := 3262) (am_fd ck_X9_grew (pc := 66) rfl) tw_875 kc_3261 rfl (ly_3261_0 hL) kc_3262 ?_
      refine am_steps ck_X9_grew 2 (pc' := 71) (lv' := [(0, .ref 3261), (1, .int y1), (2, .int y2), (3, .int y3), (4, .int z4), (5, .int z5), (6, .int z6), (7, .int z7)]) (st' := [.int (am_i 0), .int y1, .ref 3262, .int z7, .ref 3266]) rfl ?_
      obtain ⟨q9, hq9, hm⟩ := am_bE hm
      refine ms_callS (M2 := mt_X9_versionAt) (d2 := 1) [.int y1, .int (am_i 0)] (am_fd ck_X9_grew (pc := 71) rfl) ok_X9_versionAt tw_1073 tw_1074 (Nat.le_of_ble_eq_true rfl) (Nat.le_of_ble_eq_true rfl) (x_X9_versionAt hL hq9) ?_
      refine am_steps ck_X9_grew 2 (pc' := 77) (lv' := [(0, .ref 3261), (1, .int y1), (2, .int y2), (3, .int y3), (4, .int z4), (5, .int z5), (6, .int z6), (7, .int z7)]) (st' := [.int (q9 + z7), .ref 3262, .int z7, .ref 3266]) rfl ?_
      obtain ⟨hb10, hm⟩ := am_gE hm
      refine ms_iald (n := 15517) (am_fd ck_X9_grew (pc := 77) rfl) kc_3262 hb10 ?_
      refine am_steps ck_X9_grew 1 (pc' := 79) (lv' := [(0, .ref 3261), (1, .int y1), (2, .int y2), (3, .int y3), (4, .int z4), (5, .int z5), (6, .int z6), (7, .int z7)]) (st' := [.ref 3261, .int (m 3262 (am_ix (q9 + z7))), .int z7, .ref 3266]) rfl ?_
      refine ms_getr (ci := 7) (k := 0) (v := 3262) (am_fd ck_X9_grew (pc := 79) rfl) tw_875 kc_3261 rfl (ly_3261_0 hL) kc_3262 ?_
      refine am_steps ck_X9_grew 2 (pc' := 84) (lv' := [(0, .ref 3261), (1, .int y1), (2, .int y2), (3, .int y3), (4, .int z4), (5, .int z5), (6, .int z6), (7, .int z7)]) (st' := [.int y2, .int y1, .ref 3262, .int (m 3262 (am_ix (q9 + z7))), .int z7, .ref 3266]) rfl ?_
      obtain ⟨q11, hq11, hm⟩ := am_bE hm
      refine ms_callS (M2 := mt_X9_versionAt) (d2 := 1) [.int y1, .int y2] (am_fd ck_X9_grew (pc := 84) rfl) ok_X9_versionAt tw_1073 tw_1074 (Nat.le_of_ble_eq_true rfl) (Nat.le_of_ble_eq_true rfl) (x_X9_versionAt hL hq11) ?_
      refine am_steps ck_X9_grew 2 (pc' := 90) (lv' := [(0, .ref 3261), (1, .int y1), (2, .int y2), (3, .int y3), (4, .int z4), (5, .int z5), (6, .int z6), (7, .int z7)]) (st' := [.int (q11 + z7), .ref 3262, .int (m 3262 (am_ix (q9 + z7))), .int z7, .ref 3266]) rfl ?_
      obtain ⟨hb12, hm⟩ := am_gE hm
      refine ms_iald (n := 15517) (am_fd ck_X9_grew (pc := 90) rfl) kc_3262 hb12 ?_
      refine am_steps ck_X9_grew 1 (pc' := 92) (lv' := [(0, .ref 3261), (1, .int y1), (2, .int y2), (3, .int y3), (4, .int z4), (5, .int z5), (6, .int z6), (7, .int z7)]) (st' := [.int ((m 3262 (am_ix (q9 + z7))) - (m 3262 (am_ix (q11 + z7)))), .int z7, .ref 3266]) rfl ?_
      obtain ⟨hb13, hm⟩ := am_gE hm
      refine ms_iast (n := 64) (am_fd ck_X9_grew (pc := 92) rfl) kc_3266 hb13 (fun m14 em14 => ?_)
      replace hm := am_letE em14 hm
      refine am_steps ck_X9_grew 1 (pc' := 94) (lv' := [(0, .ref 3261), (1, .int y1), (2, .int y2), (3, .int y3), (4, .int z4), (5, .int z5), (6, .int z6), (7, .int z7)]) (st' := [.ref 3261]) rfl ?_
      refine ms_getr (ci := 7) (k := 6) (v := 3266) (am_fd ck_X9_grew (pc := 94) rfl) tw_881 kc_3261 rfl (ly_3261_6 hL) kc_3266 ?_
      refine am_steps ck_X9_grew 1 (pc' := 99) (lv' := [(0, .ref 3261), (1, .int y1), (2, .int y2), (3, .int y3), (4, .int z4), (5, .int z5), (6, .int z6), (7, .int z7)]) (st' := [.int z7, .ref 3266]) rfl ?_
      obtain ⟨hb15, hm⟩ := am_gE hm
      refine ms_iald (n := 64) (am_fd ck_X9_grew (pc := 99) rfl) kc_3266 hb15 ?_
      refine am_steps ck_X9_grew 1 (pc' := 101) (lv' := [(0, .ref 3261), (1, .int y1), (2, .int y2), (3, .int y3), (4, .int z4), (5, .int z5), (6, .int z6), (7, .int z7)]) (st' := [.ref 3261, .int (m14 3266 (am_ix z7))]) rfl ?_
      refine ms_getr (ci := 7) (k := 6) (v := 3266) (am_fd ck_X9_grew (pc := 101) rfl) tw_881 kc_3261 rfl (ly_3261_6 hL) kc_3266 ?_
      refine am_steps ck_X9_grew 1 (pc' := 106) (lv' := [(0, .ref 3261), (1, .int y1), (2, .int y2), (3, .int y3), (4, .int z4), (5, .int z5), (6, .int z6), (7, .int z7)]) (st' := [.int z4, .ref 3266, .int (m14 3266 (am_ix z7))]) rfl ?_
      obtain ⟨hb16, hm⟩ := am_gE hm
      refine ms_iald (n := 64) (am_fd ck_X9_grew (pc := 106) rfl) kc_3266 hb16 ?_
      refine am_icmp (tgt := 115) (am_fd ck_X9_grew (pc := 107) rfl) rfl (fun hc17 => ?_) (fun hc17 => ?_)
      · replace hm := am_it hm hc17
        refine am_steps ck_X9_grew 3 (pc' := 120) (lv' := [(4, .int z4), (0, .ref 3261), (1, .int y1), (2, .int y2), (3, .int y3), (5, .int z5), (6, .int z6), (7, .int z7)]) (st' := [.ref 3261]) rfl ?_
        refine ms_getr (ci := 7) (k := 6) (v := 3266) (am_fd ck_X9_grew (pc := 120) rfl) tw_881 kc_3261 rfl (ly_3261_6 hL) kc_3266 ?_
        refine am_steps ck_X9_grew 1 (pc' := 125) (lv' := [(4, .int z4), (0, .ref 3261), (1, .int y1), (2, .int y2), (3, .int y3), (5, .int z5), (6, .int z6), (7, .int z7)]) (st' := [.int z7, .ref 3266]) rfl ?_
        obtain ⟨hb18, hm⟩ := am_gE hm
        refine ms_iald (n := 64) (am_fd ck_X9_grew (pc := 125) rfl) kc_3266 hb18 ?_
        refine am_steps ck_X9_grew 1 (pc' := 127) (lv' := [(4, .int z4), (0, .ref 3261), (1, .int y1), (2, .int y2), (3, .int y3), (5, .int z5), (6, .int z6), (7, .int z7)]) (st' := [.ref 3261, .int (m14 3266 (am_ix z7))]) rfl ?_
        refine ms_getr (ci := 7) (k := 6) (v := 3266) (am_fd ck_X9_grew (pc := 127) rfl) tw_881 kc_3261 rfl (ly_3261_6 hL) kc_3266 ?_
        refine am_steps ck_X9_grew 1 (pc' := 132) (lv' := [(4, .int z4), (0, .ref 3261), (1, .int y1), (2, .int y2), (3, .int y3), (5, .int z5), (6, .int z6), (7, .int z7)]) (st' := [.int z5, .ref 3266, .int (m14 3266 (am_ix z7))]) rfl ?_
        obtain ⟨hb19, hm⟩ := am_gE hm
        refine ms_iald (n := 64) (am_fd ck_X9_grew (pc := 132) rfl) kc_3266 hb19 ?_
        refine am_icmp (tgt := 141) (am_fd ck_X9_grew (pc := 133) rfl) rfl (fun hc20 => ?_) (fun hc20 => ?_)
        · replace hm := am_it hm hc20
          refine am_steps ck_X9_grew 4 (pc' := 148) (lv' := [(5, .int z5), (4, .int z4), (0, .ref 3261), (1, .int y1), (2, .int y2), (3, .int y3), (6, .int z6), (7, .int z7)]) (st' := [.ref 3261, .int z6]) rfl ?_
          refine ms_getr (ci := 7) (k := 6) (v := 3266) (am_fd ck_X9_grew (pc := 148) rfl) tw_881 kc_3261 rfl (ly_3261_6 hL) kc_3266 ?_
          refine am_steps ck_X9_grew 1 (pc' := 153) (lv' := [(5, .int z5), (4, .int z4), (0, .ref 3261), (1, .int y1), (2, .int y2), (3, .int y3), (6, .int z6), (7, .int z7)]) (st' := [.int z7, .ref 3266, .int z6]) rfl ?_
          obtain ⟨hb21, hm⟩ := am_gE hm
          refine ms_iald (n := 64) (am_fd ck_X9_grew (pc := 153) rfl) kc_3266 hb21 ?_
          refine am_ifc (tgt := 161) (am_fd ck_X9_grew (pc := 154) rfl) rfl (fun hc22 => ?_) (fun hc22 => ?_)
          · replace hm := am_it hm hc22
            refine am_steps ck_X9_grew 5 (pc' := 52) (lv' := [(7, .int (z7 + am_i 1)), (6, .int (z6 + (am_i 0))), (5, .int z5), (4, .int z4), (0, .ref 3261), (1, .int y1), (2, .int y2), (3, .int y3)]) (st' := []) rfl ?_
            refine am_subp [4, 5, 6, 7, 3, 2, 1, 0] rfl ?_
            exact ih _ _ _ _ _ hm K
          · replace hm := am_if hm hc22
            refine am_steps ck_X9_grew 6 (pc' := 52) (lv' := [(7, .int (z7 + am_i 1)), (6, .int (z6 + (am_i 1))), (5, .int z5), (4, .int z4), (0, .ref 3261), (1, .int y1), (2, .int y2), (3, .int y3)]) (st' := []) rfl ?_
            refine am_subp [4, 5, 6, 7, 3, 2, 1, 0] rfl ?_
            exact ih _ _ _ _ _ hm K
        · replace hm := am_if hm hc20
          refine am_steps ck_X9_grew 5 (pc' := 148) (lv' := [(5, .int z7), (4, .int z4), (0, .ref 3261), (1, .int y1), (2, .int y2), (3, .int y3), (6, .int z6), (7, .int z7)]) (st' := [.ref 3261, .int z6]) rfl ?_
          refine ms_getr (ci := 7) (k := 6) (v := 3266) (am_fd ck_X9_grew (pc := 148) rfl) tw_881 kc_3261 rfl (ly_3261_6 hL) kc_3266 ?_
          refine am_steps ck_X9_grew 1 (pc' := 153) (lv' := [(5, .int z7), (4, .int z4), (0, .ref 3261), (1, .int y1), (2, .int y2), (3, .int y3), (6, .int z6), (7, .int z7)]) (st' := [.int z7, .ref 3266, .int z6]) rfl ?_
          obtain ⟨hb23, hm⟩ := am_gE hm
          refine ms_iald (n := 64) (am_fd ck_X9_grew (pc := 153) rfl) kc_3266 hb23 ?_
          refine am_ifc (tgt := 161) (am_fd ck_X9_grew (pc := 154) rfl) rfl (fun hc24 => ?_) (fun hc24 => ?_)
          · replace hm := am_it hm hc24
            refine am_steps ck_X9_grew 5 (pc' := 52) (lv' := [(7, .int (z7 + am_i 1)), (6, .int (z6 + (am_i 0))), (5, .int z7), (4, .int z4), (0, .ref 3261), (1, .int y1), (2, .int y2), (3, .int y3)]) (st' := []) rfl ?_
            refine am_subp [4, 5, 6, 7, 3, 2, 1, 0] rfl ?_
            exact ih _ _ _ _ _ hm K
          · replace hm := am_if hm hc24
            refine am_steps ck_X9_grew 6 (pc' := 52) (lv' := [(7, .int (z7 + am_i 1)), (6, .int (z6 + (am_i 1))), (5, .int z7), (4, .int z4), (0, .ref 3261), (1, .int y1), (2, .int y2), (3, .int y3)]) (st' := []) rfl ?_
            refine am_subp [4, 5, 6, 7, 3, 2, 1, 0] rfl ?_
            exact ih _ _ _ _ _ hm K
      · replace hm := am_if hm hc17
        refine am_steps ck_X9_grew 4 (pc' := 120) (lv' := [(4, .int z7), (0, .ref 3261), (1, .int y1), (2, .int y2), (3, .int y3), (5, .int z5), (6, .int z6), (7, .int z7)]) (st' := [.ref 3261]) rfl ?_
        refine ms_getr (ci := 7) (k := 6) (v := 3266) (am_fd ck_X9_grew (pc := 120) rfl) tw_881 kc_3261 rfl (ly_3261_6 hL) kc_3266 ?_
        refine am_steps ck_X9_grew 1 (pc' := 125) (lv' := [(4, .int z7), (0, .ref 3261), (1, .int y1), (2, .int y2), (3, .int y3), (5, .int z5), (6, .int z6), (7, .int z7)]) (st' := [.int z7, .ref 3266]) rfl ?_
        obtain ⟨hb25, hm⟩ := am_gE hm
        refine ms_iald (n := 64) (am_fd ck_X9_grew (pc := 125) rfl) kc_3266 hb25 ?_
        refine am_steps ck_X9_grew 1 (pc' := 127) (lv' := [(4, .int z7), (0, .ref 3261), (1, .int y1), (2, .int y2), (3, .int y3), (5, .int z5), (6, .int z6), (7, .int z7)]) (st' := [.ref 3261, .int (m14 3266 (am_ix z7))]) rfl ?_
        refine ms_getr (ci := 7) (k := 6) (v := 3266) (am_fd ck_X9_grew (pc := 127) rfl) tw_881 kc_3261 rfl (ly_3261_6 hL) kc_3266 ?_
        refine am_steps ck_X9_grew 1 (pc' := 132) (lv' := [(4, .int z7), (0, .ref 3261), (1, .int y1), (2, .int y2), (3, .int y3), (5, .int z5), (6, .int z6), (7, .int z7)]) (st' := [.int z5, .ref 3266, .int (m14 3266 (am_ix z7))]) rfl ?_
        obtain ⟨hb26, hm⟩ := am_gE hm
        refine ms_iald (n := 64) (am_fd ck_X9_grew (pc := 132) rfl) kc_3266 hb26 ?_
        refine am_icmp (tgt := 141) (am_fd ck_X9_grew (pc := 133) rfl) rfl (fun hc27 => ?_) (fun hc27 => ?_)
        · replace hm := am_it hm hc27
          refine am_steps ck_X9_grew 4 (pc' := 148) (lv' := [(5, .int z5), (4, .int z7), (0, .ref 3261), (1, .int y1), (2, .int y2), (3, .int y3), (6, .int z6), (7, .int z7)]) (st' := [.ref 3261, .int z6]) rfl ?_
          refine ms_getr (ci := 7) (k := 6) (v := 3266) (am_fd ck_X9_grew (pc := 148) rfl) tw_881 kc_3261 rfl (ly_3261_6 hL) kc_3266 ?_
          refine am_steps ck_X9_grew 1 (pc' := 153) (lv' := [(5, .int z5), (4, .int z7), (0, .ref 3261), (1, .int y1), (2, .int y2), (3, .int y3), (6, .int z6), (7, .int z7)]) (st' := [.int z7, .ref 3266, .int z6]) rfl ?_
          obtain ⟨hb28, hm⟩ := am_gE hm
          refine ms_iald (n := 64) (am_fd ck_X9_grew (pc := 153) rfl) kc_3266 hb28 ?_
          refine am_ifc (tgt := 161) (am_fd ck_X9_grew (pc := 154) rfl) rfl (fun hc29 => ?_) (fun hc29 => ?_)
          · replace hm := am_it hm hc29
            refine am_steps ck_X9_grew 5 (pc' := 52) (lv' := [(7, .int (z7 + am_i 1)), (6, .int (z6 + (am_i 0))), (5, .int z5), (4, .int z7), (0, .ref 3261), (1, .int y1), (2, .int y2), (3, .int y3)]) (st' := []) rfl ?_
            refine am_subp [4, 5, 6, 7, 3, 2, 1, 0] rfl ?_
            exact ih _ _ _ _ _ hm K
          · replace hm := am_if hm hc29
            refine am_steps ck_X9_grew 6 (pc' := 52) (lv' := [(7, .int (z7 + am_i 1)), (6, .int (z6 + (am_i 1))), (5, .int z5), (4, .int z7), (0, .ref 3261), (1, .int y1), (2, .int y2), (3, .int y3)]) (st' := []) rfl ?_
            refine am_subp [4, 5, 6, 7, 3, 2, 1, 0] rfl ?_
            exact ih _ _ _ _ _ hm K
        · replace hm := am_if hm hc27
          refine am_steps ck_X9_grew 5 (pc' := 148) (lv' := [(5, .int z7), (4, .int z7), (0, .ref 3261), (1, .int y1), (2, .int y2), (3, .int y3), (6, .int z6), (7, .int z7)]) (st' := [.ref 3261, .int z6]) rfl ?_
          refine ms_getr (ci := 7) (k := 6) (v := 3266) (am_fd ck_X9_grew (pc := 148) rfl) tw_881 kc_3261 rfl (ly_3261_6 hL) kc_3266 ?_
          refine am_steps ck_X9_grew 1 (pc' := 153) (lv' := [(5, .int z7), (4, .int z7), (0, .ref 3261), (1, .int y1), (2, .int y2), (3, .int y3), (6, .int z6), (7, .int z7)]) (st' := [.int z7, .ref 3266, .int z6]) rfl ?_
          obtain ⟨hb30, hm⟩ := am_gE hm
          refine ms_iald (n := 64) (am_fd ck_X9_grew (pc := 153) rfl) kc_3266 hb30 ?_
          refine am_ifc (tgt := 161) (am_fd ck_X9_grew (pc := 154) rfl) rfl (fun hc31 => ?_) (fun hc31 => ?_)
          · replace hm := am_it hm hc31
            refine am_steps ck_X9_grew 5 (pc' := 52) (lv' := [(7, .int (z7 + am_i 1)), (6, .int (z6 + (am_i 0))), (5, .int z7), (4, .int z7), (0, .ref 3261), (1, .int y1), (2, .int y2), (3, .int y3)]) (st' := []) rfl ?_
            refine am_subp [4, 5, 6, 7, 3, 2, 1, 0] rfl ?_
            exact ih _ _ _ _ _ hm K
          · replace hm := am_if hm hc31
            refine am_steps ck_X9_grew 6 (pc' := 52) (lv' := [(7, .int (z7 + am_i 1)), (6, .int (z6 + (am_i 1))), (5, .int z7), (4, .int z7), (0, .ref 3261), (1, .int y1), (2, .int y2), (3, .int y3)]) (st' := []) rfl ?_
            refine am_subp [4, 5, 6, 7, 3, 2, 1, 0] rfl ?_
            exact ih _ _ _ _ _ hm K
set_option maxRecDepth 100000 in
set_option maxHeartbeats 4000000 in
theorem x_X9_grew {G : am_G} {m : am_m} {r : am_rr} {x1 : Int32} {x2 : Int32} {x3 : Int32} {res : Int32 × am_m} (hL : am_Lay r) (hm : m_X9_grew m x1 x2 x3 = some res) : am_Met G mt_X9_grew 3 [.ref 3261, .int x1, .int x2, .int x3] (am_hh m r) (some (.int res.1)) (am_hh res.2 r) := by
  refine am_of (by decide) (Nat.le_of_ble_eq_true rfl) ?_
  unfold m_X9_grew at hm
  show am_W G mt_X9_grew 3 _ _ 0 [(0, .ref 3261), (1, .int x1), (2, .int x2), (3, .int x3)] [] (am_hh m r)
  refine am_steps ck_X9_grew 2 (pc' := 2) (lv' := [(0, .ref 3261), (1, .int x1), (2, .int x2), (3, .int x3)]) (st' := [.int x1, .ref 3261]) rfl ?_
  obtain ⟨q1, hq1, hm⟩ := am_bE hm
  refine ms_callV (M2 := mt_X9_isUnit) (d2 := 2) (ci := 7) [.int x1] (am_fd ck_X9_grew (pc := 2) rfl) ok_X9_isUnit tw_949 tw_951 ts_28 (by decide) kc_3261 (Nat.le_of_ble_eq_true rfl) (Nat.le_of_ble_eq_true rfl) (x_X9_isUnit hL hq1) ?_
  refine am_ifc (tgt := 37) (am_fd ck_X9_grew (pc := 5) rfl) rfl (fun hc2 => ?_) (fun hc2 => ?_)
  · replace hm := am_it hm hc2
    refine am_ldc (am_fd ck_X9_grew (pc := 37) rfl) tw_1255 ?_
    cases hm
    exact am_end (am_fd ck_X9_grew (pc := 39) rfl) am_rI rfl rfl
  · replace hm := am_if hm hc2
    refine am_steps ck_X9_grew 3 (pc' := 11) (lv' := [(0, .ref 3261), (1, .int x1), (2, .int x2), (3, .int x3)]) (st' := [.ref 3261, .int (am_i 1), .int x2]) rfl ?_
    refine ms_getr (ci := 7) (k := 0) (v := 3262) (am_fd ck_X9_grew (pc := 11) rfl) tw_875 kc_3261 rfl (ly_3261_0 hL) kc_3262 ?_
    refine am_steps ck_X9_grew 3 (pc' := 19) (lv' := [(0, .ref 3261), (1, .int x1), (2, .int x2), (3, .int x3)]) (st' := [.int ((am_i 3144) + x1), .ref 3262, .int (am_i 1), .int x2]) rfl ?_
    obtain ⟨hb3, hm⟩ := am_gE hm
    refine ms_iald (n := 15517) (am_fd ck_X9_grew (pc := 19) rfl) kc_3262 hb3 ?_
    refine am_steps ck_X9_grew 2 (pc' := 22) (lv' := [(0, .ref 3261), (1, .int x1), (2, .int x2), (3, .int x3)]) (st' := [.int ((m 3262 (am_ix ((am_i 3144) + x1))) - (am_i 1)), .int (am_i 1), .int x2]) rfl ?_
    obtain ⟨q4, hq4, hm⟩ := am_bE hm
    refine ms_callS (M2 := mt_X9_isIn) (d2 := 1) [.int x2, .int (am_i 1), .int ((m 3262 (am_ix ((am_i 3144) + x1))) - (am_i 1))] (am_fd ck_X9_grew (pc := 22) rfl) ok_X9_isIn tw_953 tw_954 (Nat.le_of_ble_eq_true rfl) (Nat.le_of_ble_eq_true rfl) (x_X9_isIn hL hq4) ?_
    refine am_ifc (tgt := 37) (am_fd ck_X9_grew (pc := 25) rfl) rfl (fun hc5 => ?_) (fun hc5 => ?_)
    · replace hm := am_it hm hc5
      refine am_ldc (am_fd ck_X9_grew (pc := 37) rfl) tw_1255 ?_
      cases hm
      exact am_end (am_fd ck_X9_grew (pc := 39) rfl) am_rI rfl rfl
    · replace hm := am_if hm hc5
      refine am_steps ck_X9_grew 3 (pc' := 31) (lv' := [(0, .ref 3261), (1, .int x1), (2, .int x2), (3, .int x3)]) (st' := [.int (am_i 4), .int (am_i 0), .int x3]) rfl ?_
      obtain ⟨q6, hq6, hm⟩ := am_bE hm
      refine ms_callS (M2 := mt_X9_isIn) (d2 := 1) [.int x3, .int (am_i 0), .int (am_i 4)] (am_fd ck_X9_grew (pc := 31) rfl) ok_X9_isIn tw_953 tw_954 (Nat.le_of_ble_eq_true rfl) (Nat.le_of_ble_eq_true rfl) (x_X9_isIn hL hq6) ?_
      refine am_ifc (tgt := 40) (am_fd ck_X9_grew (pc := 34) rfl) rfl (fun hc7 => ?_) (fun hc7 => ?_)
      · replace hm := am_it hm hc7
        refine am_steps ck_X9_grew 8 (pc' := 52) (lv' := [(7, .int (am_i 0)), (6, .int (am_i 0)), (5, .int (am_i 0)), (4, .int (am_i 0)), (0, .ref 3261), (1, .int x1), (2, .int x2), (3, .int x3)]) (st' := []) rfl ?_
        refine am_subp [4, 5, 6, 7, 3, 2, 1, 0] rfl ?_
        refine x_X9_grew_52 hL am_F _ _ _ _ _ hm (fun u32 u33 u34 m35 hm => ?_)
        refine am_steps ck_X9_grew 1 (pc' := 172) (lv' := [(0, .ref 3261), (3, .int x3), (4, .int u32), (5, .int u33), (6, .int u34)]) (st' := [.int x3]) rfl ?_
        refine am_ifc (tgt := 180) (am_fd ck_X9_grew (pc := 172) rfl) rfl (fun hc36 => ?_) (fun hc36 => ?_)
        · replace hm := am_it hm hc36
          refine am_steps ck_X9_grew 2 (pc' := 182) (lv' := [(0, .ref 3261), (3, .int x3), (4, .int u32), (5, .int u33), (6, .int u34)]) (st' := [.int (am_i 1), .int x3]) rfl ?_
          refine am_icmp (tgt := 195) (am_fd ck_X9_grew (pc := 182) rfl) rfl (fun hc37 => ?_) (fun hc37 => ?_)
          · replace hm := am_it hm hc37
            refine am_steps ck_X9_grew 2 (pc' := 197) (lv' := [(0, .ref 3261), (3, .int x3), (4, .int u32), (5, .int u33), (6, .int u34)]) (st' := [.int (am_i 2), .int x3]) rfl ?_
            refine am_icmp (tgt := 205) (am_fd ck_X9_grew (pc := 197) rfl) rfl (fun hc38 => ?_) (fun hc38 => ?_)
            · replace hm := am_it hm hc38
              refine am_steps ck_X9_grew 2 (pc' := 207) (lv' := [(0, .ref 3261), (3, .int x3), (4, .int u32), (5, .int u33), (6, .int u34)]) (st' := [.int (am_i 3), .int x3]) rfl ?_
              refine am_icmp (tgt := 221) (am_fd ck_X9_grew (pc := 207) rfl) rfl (fun hc39 => ?_) (fun hc39 => ?_)
              · replace hm := am_it hm hc39
                refine am_steps ck_X9_grew 1 (pc' := 223) (lv' := [(0, .ref 3261), (3, .int x3), (4, .int u32), (5, .int u33), (6, .int u34)]) (st' := [.int u34]) rfl ?_
                cases hm
                exact am_end (am_fd ck_X9_grew (pc := 223) rfl) am_rI rfl rfl
              · replace hm := am_if hm hc39
                refine am_steps ck_X9_grew 1 (pc' := 211) (lv' := [(0, .ref 3261), (3, .int x3), (4, .int u32), (5, .int u33), (6, .int u34)]) (st' := [.ref 3261]) rfl ?_
                refine ms_getr (ci := 7) (k := 6) (v := 3266) (am_fd ck_X9_grew (pc := 211) rfl) tw_881 kc_3261 rfl (ly_3261_6 hL) kc_3266 ?_
                refine am_steps ck_X9_grew 1 (pc' := 216) (lv' := [(0, .ref 3261), (3, .int x3), (4, .int u32), (5, .int u33), (6, .int u34)]) (st' := [.int u33, .ref 3266]) rfl ?_
                obtain ⟨hb40, hm⟩ := am_gE hm
                refine ms_iald (n := 64) (am_fd ck_X9_grew (pc := 216) rfl) kc_3266 hb40 ?_
                refine am_steps ck_X9_grew 2 (pc' := 223) (lv' := [(0, .ref 3261), (3, .int x3), (4, .int u32), (5, .int u33), (6, .int u34)]) (st' := [.int (-(m35 3266 (am_ix u33)))]) rfl ?_
                cases hm
                exact am_end (am_fd ck_X9_grew (pc := 223) rfl) am_rI rfl rfl
            · replace hm := am_if hm hc38
              refine am_steps ck_X9_grew 2 (pc' := 223) (lv' := [(0, .ref 3261), (3, .int x3), (4, .int u32), (5, .int u33), (6, .int u34)]) (st' := [.int u33]) rfl ?_
              cases hm
              exact am_end (am_fd ck_X9_grew (pc := 223) rfl) am_rI rfl rfl
          · replace hm := am_if hm hc37
            refine am_steps ck_X9_grew 1 (pc' := 186) (lv' := [(0, .ref 3261), (3, .int x3), (4, .int u32), (5, .int u33), (6, .int u34)]) (st' := [.ref 3261]) rfl ?_
            refine ms_getr (ci := 7) (k := 6) (v := 3266) (am_fd ck_X9_grew (pc := 186) rfl) tw_881 kc_3261 rfl (ly_3261_6 hL) kc_3266 ?_
            refine am_steps ck_X9_grew 1 (pc' := 191) (lv' := [(0, .ref 3261), (3, .int x3), (4, .int u32), (5, .int u33), (6, .int u34)]) (st' := [.int u32, .ref 3266]) rfl ?_
            obtain ⟨hb41, hm⟩ := am_gE hm
            refine ms_iald (n := 64) (am_fd ck_X9_grew (pc := 191) rfl) kc_3266 hb41 ?_
            refine am_steps ck_X9_grew 1 (pc' := 223) (lv' := [(0, .ref 3261), (3, .int x3), (4, .int u32), (5, .int u33), (6, .int u34)]) (st' := [.int (m35 3266 (am_ix u32))]) rfl ?_
            cases hm
            exact am_end (am_fd ck_X9_grew (pc := 223) rfl) am_rI rfl rfl
        · replace hm := am_if hm hc36
          refine am_steps ck_X9_grew 2 (pc' := 223) (lv' := [(0, .ref 3261), (3, .int x3), (4, .int u32), (5, .int u33), (6, .int u34)]) (st' := [.int u32]) rfl ?_
          cases hm
          exact am_end (am_fd ck_X9_grew (pc := 223) rfl) am_rI rfl rfl
      · replace hm := am_if hm hc7
        refine am_ldc (am_fd ck_X9_grew (pc := 37) rfl) tw_1255 ?_
        cases hm
        exact am_end (am_fd ck_X9_grew (pc := 39) rfl) am_rI rfl rfl
set_option maxRecDepth 100000 in
set_option maxHeartbeats 4000000 in
theorem x_X9_halves_41 {G : am_G} {x1 : Int32} {x2 : Int32} {r : am_rr} {y1 : Int32} {y2 : Int32} {y3 : Int32} {res : Int32 × am_m} {k : Int32 → am_m → Option (Int32 × am_m)} (hL : am_Lay r) : ∀ (n : Nat) (z4 : Int32) (z5 : Int32) (m : am_m), m_X9_halves_41 x1 x2 y1 y2 y3 k n z4 z5 m = some res → (∀ (u4 : Int32) (m1 : am_m), k u4 m1 = some res → am_W G mt_X9_halves 4 (some (.int res.1)) (am_hh res.2 r) 69 [(0, .ref 3261), (1, .int y1), (2, .int y2), (3, .int y3), (4, .int u4)] [] (am_hh m1 r)) → am_W G mt_X9_halves 4 (some (.int res.1)) (am_hh res.2 r) 41 [(0, .ref 3261), (1, .int y1), (2, .int y2), (3, .int y3), (4, .int z4), (5, .int z5)] [] (am_hh m r) := by
  intro n
  induction n with
  | zero => intro z4 z5 m hm K; cases hm
  | succ n ih =>
    intro z4 z5 m hm K
    unfold m_X9_halves_41 at hm
    refine am_steps ck_X9_halves 2 (pc' := 44) (lv' := [(0, .ref 3261), (1, .int y1), (2, .int y2), (3, .int y3), (4, .int z4), (5, .int z5)]) (st' := [.int y3, .int z5]) rfl ?_
    refine am_icmp (tgt := 69) (am_fd ck_X9_halves (pc := 44) rfl) rfl (fun hc8 => ?_) (fun hc8 => ?_)
    · replace hm := am_it hm hc8
      refine am_subp [0, 1, 2, 3, 4] rfl ?_
      exact K _ _ hm
    · replace hm := am_if hm hc8
      refine am_steps ck_X9_halves 5 (pc' := 54) (lv' := [(0, .ref 3261), (1, .int y1), (2, .int y2), (3, .int y3), (4, .int z4), (5, .int z5)]) (st' := [.int z5, .int y1, .ref 3261, .ref 3261, .int z4]) rfl ?_
      obtain ⟨q9, hq9, hm⟩ := am_bE hm
      refine ms_callV (M2 := mt_X9_below) (d2 := 3) (ci := 7) [.int y1, .int z5] (am_fd ck_X9_halves (pc := 54) rfl) ok_X9_below tw_1260 tw_1178 tw_1179 (by decide) kc_3261 (Nat.le_of_ble_eq_true rfl) (Nat.le_of_ble_eq_true rfl) (x_X9_below hL hq9) ?_
      obtain ⟨q10, hq10, hm⟩ := am_bE hm
      refine ms_callV (M2 := mt_X9_allOf) (d2 := 2) (ci := 7) [.int q9] (am_fd ck_X9_halves (pc := 57) rfl) ok_X9_allOf tw_1221 tw_1223 ts_67 (by decide) kc_3261 (Nat.le_of_ble_eq_true rfl) (Nat.le_of_ble_eq_true rfl) (x_X9_allOf hL hq10) ?_
      refine am_steps ck_X9_halves 4 (pc' := 41) (lv' := [(5, .int (z5 + am_i 1)), (4, .int (z4 + q10.1)), (0, .ref 3261), (1, .int y1), (2, .int y2), (3, .int y3)]) (st' := []) rfl ?_
      refine am_subp [2, 3, 4, 5, 1, 0] rfl ?_
      exact ih _ _ _ hm K
set_option maxRecDepth 100000 in
set_option maxHeartbeats 4000000 in
theorem x_X9_halves_72 {G : am_G} {x1 : Int32} {x2 : Int32} {r : am_rr} {y1 : Int32} {y2 : Int32} {y3 : Int32} {y4 : Int32} {res : Int32 × am_m} {k : am_m → Option (Int32 × am_m)} (hL : am_Lay r) : ∀ (n : Nat) (z5 : Int32) (m : am_m), m_X9_halves_72 x1 x2 y1 y2 y3 y4 k n z5 m = some res → (∀ (m1 : am_m), k m1 = some res → am_W G mt_X9_halves 4 (some (.int res.1)) (am_hh res.2 r) 102 [(0, .ref 3261), (1, .int y1), (2, .int y2), (3, .int y3), (4, .int y4)] [] (am_hh m1 r)) → am_W G mt_X9_halves 4 (some (.int res.1)) (am_hh res.2 r) 72 [(0, .ref 3261), (1, .int y1), (2, .int y2), (3, .int y3), (4, .int y4), (5, .int z5)] [] (am_hh m r) := by
  intro n
  induction n with
  | zero => intro z5 m hm K; cases hm
  | succ n ih =>
    intro z5 m hm K
    unfold m_X9_halves_72 at hm
    refine am_steps ck_X9_halves 2 (pc' := 75) (lv' := [(0, .ref 3261), (1, .int y1), (2, .int y2), (3, .int y3), (4, .int y4), (5, .int z5)]) (st' := [.int y3, .int z5]) rfl ?_
    refine am_icmp (tgt := 102) (am_fd ck_X9_halves (pc := 75) rfl) rfl (fun hc13 => ?_) (fun hc13 => ?_)
    · replace hm := am_it hm hc13
      refine am_subp [0, 1, 2, 3, 4] rfl ?_
      exact K _ hm
    · replace hm := am_if hm hc13
      refine am_steps ck_X9_halves 1 (pc' := 79) (lv' := [(0, .ref 3261), (1, .int y1), (2, .int y2), (3, .int y3), (4, .int y4), (5, .int z5)]) (st' := [.ref 3261]) rfl ?_
      refine ms_getr (ci := 7) (k := 15) (v := 3269) (am_fd ck_X9_halves (pc := 79) rfl) tw_890 kc_3261 rfl (ly_3261_15 hL) kc_3269 ?_
      refine am_steps ck_X9_halves 5 (pc' := 89) (lv' := [(0, .ref 3261), (1, .int y1), (2, .int y2), (3, .int y3), (4, .int y4), (5, .int z5)]) (st' := [.int z5, .int y1, .ref 3261, .ref 3261, .int z5, .ref 3269]) rfl ?_
      obtain ⟨q14, hq14, hm⟩ := am_bE hm
      refine ms_callV (M2 := mt_X9_below) (d2 := 3) (ci := 7) [.int y1, .int z5] (am_fd ck_X9_halves (pc := 89) rfl) ok_X9_below tw_1260 tw_1178 tw_1179 (by decide) kc_3261 (Nat.le_of_ble_eq_true rfl) (Nat.le_of_ble_eq_true rfl) (x_X9_below hL hq14) ?_
      obtain ⟨q15, hq15, hm⟩ := am_bE hm
      refine ms_callV (M2 := mt_X9_allOf) (d2 := 2) (ci := 7) [.int q14] (am_fd ck_X9_halves (pc := 92) rfl) ok_X9_allOf tw_1221 tw_1223 ts_67 (by decide) kc_3261 (Nat.le_of_ble_eq_true rfl) (Nat.le_of_ble_eq_true rfl) (x_X9_allOf hL hq15) ?_
      obtain ⟨hb16, hm⟩ := am_gE hm
      refine ms_iast (n := 64) (am_fd ck_X9_halves (pc := 95) rfl) kc_3269 hb16 (fun m17 em17 => ?_)
      replace hm := am_letE em17 hm
      refine am_steps ck_X9_halves 2 (pc' := 72) (lv' := [(5, .int (z5 + am_i 1)), (0, .ref 3261), (1, .int y1), (2, .int y2), (3, .int y3), (4, .int y4)]) (st' := []) rfl ?_
      refine am_subp [1, 2, 3, 4, 5, 0] rfl ?_
      exact ih _ _ hm K
set_option maxRecDepth 100000 in
set_option maxHeartbeats 4000000 in
theorem x_X9_halves_126 {G : am_G} {x1 : Int32} {x2 : Int32} {m : am_m} {r : am_rr} {y1 : Int32} {y2 : Int32} {y3 : Int32} {y4 : Int32} {y5 : Int32} {y6 : Int32} {y7 : Int32} {res : Int32 × am_m} {k : Int32 → Option (Int32 × am_m)} (hL : am_Lay r) : ∀ (n : Nat) (z8 : Int32) (z9 : Int32), m_X9_halves_126 x1 x2 m y1 y2 y3 y4 y5 y6 y7 k n z8 z9 = some res → (∀ (u8 : Int32), k u8 = some res → am_W G mt_X9_halves 4 (some (.int res.1)) (am_hh res.2 r) 158 [(0, .ref 3261), (1, .int y1), (2, .int y2), (3, .int y3), (4, .int y4), (5, .int y5), (6, .int y6), (7, .int y7), (8, .int u8)] [] (am_hh m r)) → am_W G mt_X9_halves 4 (some (.int res.1)) (am_hh res.2 r) 126 [(0, .ref 3261), (1, .int y1), (2, .int y2), (3, .int y3), (4, .int y4), (5, .int y5), (6, .int y6), (7, .int y7), (8, .int z8), (9, .int z9)] [] (am_hh m r) := by
  intro n
  induction n with
  | zero => intro z8 z9 hm K; cases hm
  | succ n ih =>
    intro z8 z9 hm K
    unfold m_X9_halves_126 at hm
    refine am_steps ck_X9_halves 2 (pc' := 129) (lv' := [(0, .ref 3261), (1, .int y1), (2, .int y2), (3, .int y3), (4, .int y4), (5, .int y5), (6, .int y6), (7, .int y7), (8, .int z8), (9, .int z9)]) (st' := [.int y3, .int z9]) rfl ?_
    refine am_icmp (tgt := 158) (am_fd ck_X9_halves (pc := 129) rfl) rfl (fun hc20 => ?_) (fun hc20 => ?_)
    · replace hm := am_it hm hc20
      refine am_subp [0, 1, 2, 3, 4, 5, 6, 7, 8] rfl ?_
      exact K _ hm
    · replace hm := am_if hm hc20
      refine am_steps ck_X9_halves 7 (pc' := 142) (lv' := [(0, .ref 3261), (1, .int y1), (2, .int y2), (3, .int y3), (4, .int y4), (5, .int y5), (6, .int y6), (7, .int y7), (8, .int z8), (9, .int z9)]) (st' := [.ref 3261, .int ((y7 >>> (z9 &&& 31)) &&& (am_i 1)), .int z8]) rfl ?_
      refine ms_getr (ci := 7) (k := 15) (v := 3269) (am_fd ck_X9_halves (pc := 142) rfl) tw_890 kc_3261 rfl (ly_3261_15 hL) kc_3269 ?_
      refine am_steps ck_X9_halves 1 (pc' := 147) (lv' := [(0, .ref 3261), (1, .int y1), (2, .int y2), (3, .int y3), (4, .int y4), (5, .int y5), (6, .int y6), (7, .int y7), (8, .int z8), (9, .int z9)]) (st' := [.int z9, .ref 3269, .int ((y7 >>> (z9 &&& 31)) &&& (am_i 1)), .int z8]) rfl ?_
      obtain ⟨hb21, hm⟩ := am_gE hm
      refine ms_iald (n := 64) (am_fd ck_X9_halves (pc := 147) rfl) kc_3269 hb21 ?_
      refine am_steps ck_X9_halves 5 (pc' := 126) (lv' := [(9, .int (z9 + am_i 1)), (8, .int (z8 + (((y7 >>> (z9 &&& 31)) &&& (am_i 1)) * (m 3269 (am_ix z9))))), (0, .ref 3261), (1, .int y1), (2, .int y2), (3, .int y3), (4, .int y4), (5, .int y5), (6, .int y6), (7, .int y7)]) (st' := []) rfl ?_
      refine am_subp [2, 3, 4, 5, 6, 7, 8, 9, 1, 0] rfl ?_
      exact ih _ _ hm K
set_option maxRecDepth 100000 in
set_option maxHeartbeats 4000000 in
theorem x_X9_halves_112 {G : am_G} {x1 : Int32} {x2 : Int32} {m : am_m} {r : am_rr} {y1 : Int32} {y2 : Int32} {y3 : Int32} {y4 : Int32} {res : Int32 × am_m} {k : Int32 → Int32 → Option (Int32 × am_m)} (hL : am_Lay r) : ∀ (n : Nat) (z5 : Int32) (z6 : Int32) (z7 : Int32), m_X9_halves_112 x1 x2 m y1 y2 y3 y4 k n z5 z6 z7 = some res → (∀ (u5 : Int32) (u6 : Int32), k u5 u6 = some res → am_W G mt_X9_halves 4 (some (.int res.1)) (am_hh res.2 r) 210 [(0, .ref 3261), (1, .int y1), (2, .int y2), (3, .int y3), (5, .int u5), (6, .int u6)] [] (am_hh m r)) → am_W G mt_X9_halves 4 (some (.int res.1)) (am_hh res.2 r) 112 [(0, .ref 3261), (1, .int y1), (2, .int y2), (3, .int y3), (4, .int y4), (5, .int z5), (6, .int z6), (7, .int z7)] [] (am_hh m r) := by
  intro n
  induction n with
  | zero => intro z5 z6 z7 hm K; cases hm
  | succ n ih =>
    intro z5 z6 z7 hm K
    unfold m_X9_halves_112 at hm
    refine am_steps ck_X9_halves 4 (pc' := 117) (lv' := [(0, .ref 3261), (1, .int y1), (2, .int y2), (3, .int y3), (4, .int y4), (5, .int z5), (6, .int z6), (7, .int z7)]) (st' := [.int ((am_i 1) <<< (y3 &&& 31)), .int z7]) rfl ?_
    refine am_icmp (tgt := 210) (am_fd ck_X9_halves (pc := 117) rfl) rfl (fun hc19 => ?_) (fun hc19 => ?_)
    · replace hm := am_it hm hc19
      refine am_subp [0, 1, 2, 3, 5, 6] rfl ?_
      exact K _ _ hm
    · replace hm := am_if hm hc19
      refine am_steps ck_X9_halves 4 (pc' := 126) (lv' := [(9, .int (am_i 0)), (8, .int (am_i 0)), (0, .ref 3261), (1, .int y1), (2, .int y2), (3, .int y3), (4, .int y4), (5, .int z5), (6, .int z6), (7, .int z7)]) (st' := []) rfl ?_
      refine am_subp [2, 3, 4, 5, 6, 7, 8, 9, 1, 0] rfl ?_
      refine x_X9_halves_126 hL am_F _ _ hm (fun u22 hm => ?_)
      refine am_steps ck_X9_halves 4 (pc' := 164) (lv' := [(0, .ref 3261), (1, .int y1), (2, .int y2), (3, .int y3), (4, .int y4), (5, .int z5), (6, .int z6), (7, .int z7), (8, .int u22)]) (st' := [.int y4, .int ((am_i 2) * u22)]) rfl ?_
      refine am_icmp (tgt := 177) (am_fd ck_X9_halves (pc := 164) rfl) rfl (fun hc23 => ?_) (fun hc23 => ?_)
      · replace hm := am_it hm hc23
        refine am_steps ck_X9_halves 8 (pc' := 190) (lv' := [(9, .int (y4 - ((am_i 2) * u22))), (0, .ref 3261), (1, .int y1), (2, .int y2), (3, .int y3), (4, .int y4), (5, .int z5), (6, .int z6), (7, .int z7), (8, .int u22)]) (st' := [.int z6, .int (y4 - ((am_i 2) * u22))]) rfl ?_
        refine am_icmp (tgt := 196) (am_fd ck_X9_halves (pc := 190) rfl) rfl (fun hc24 => ?_) (fun hc24 => ?_)
        · replace hm := am_it hm hc24
          refine am_steps ck_X9_halves 6 (pc' := 112) (lv' := [(7, .int (z7 + am_i 1)), (6, .int (y4 - ((am_i 2) * u22))), (5, .int z7), (9, .int (y4 - ((am_i 2) * u22))), (0, .ref 3261), (1, .int y1), (2, .int y2), (3, .int y3), (4, .int y4), (8, .int u22)]) (st' := []) rfl ?_
          refine am_subp [4, 5, 6, 7, 8, 2, 1, 0] rfl ?_
          exact ih _ _ _ hm K
        · replace hm := am_if hm hc24
          refine am_steps ck_X9_halves 3 (pc' := 112) (lv' := [(7, .int (z7 + am_i 1)), (9, .int (y4 - ((am_i 2) * u22))), (0, .ref 3261), (1, .int y1), (2, .int y2), (3, .int y3), (4, .int y4), (5, .int z5), (6, .int z6), (8, .int u22)]) (st' := []) rfl ?_
          refine am_subp [2, 3, 4, 5, 6, 7, 8, 0] rfl ?_
          exact ih _ _ _ hm K
      · replace hm := am_if hm hc23
        refine am_steps ck_X9_halves 9 (pc' := 190) (lv' := [(9, .int (((am_i 2) * u22) - y4)), (0, .ref 3261), (1, .int y1), (2, .int y2), (3, .int y3), (4, .int y4), (5, .int z5), (6, .int z6), (7, .int z7), (8, .int u22)]) (st' := [.int z6, .int (((am_i 2) * u22) - y4)]) rfl ?_
        refine am_icmp (tgt := 196) (am_fd ck_X9_halves (pc := 190) rfl) rfl (fun hc25 => ?_) (fun hc25 => ?_)
        · replace hm := am_it hm hc25
          refine am_steps ck_X9_halves 6 (pc' := 112) (lv' := [(7, .int (z7 + am_i 1)), (6, .int (((am_i 2) * u22) - y4)), (5, .int z7), (9, .int (((am_i 2) * u22) - y4)), (0, .ref 3261), (1, .int y1), (2, .int y2), (3, .int y3), (4, .int y4), (8, .int u22)]) (st' := []) rfl ?_
          refine am_subp [4, 5, 6, 7, 8, 2, 1, 0] rfl ?_
          exact ih _ _ _ hm K
        · replace hm := am_if hm hc25
          refine am_steps ck_X9_halves 3 (pc' := 112) (lv' := [(7, .int (z7 + am_i 1)), (9, .int (((am_i 2) * u22) - y4)), (0, .ref 3261), (1, .int y1), (2, .int y2), (3, .int y3), (4, .int y4), (5, .int z5), (6, .int z6), (8, .int u22)]) (st' := []) rfl ?_
          refine am_subp [2, 3, 4, 5, 6, 7, 8, 0] rfl ?_
          exact ih _ _ _ hm K
set_option maxRecDepth 100000 in
set_option maxHeartbeats 4000000 in
theorem x_X9_halves_216 {G : am_G} {x1 : Int32} {x2 : Int32} {m : am_m} {r : am_rr} {y1 : Int32} {y2 : Int32} {y3 : Int32} {y5 : Int32} {y6 : Int32} {res : Int32 × am_m} {k : Int32 → Option (Int32 × am_m)} (hL : am_Lay r) : ∀ (n : Nat) (z7 : Int32) (z8 : Int32), m_X9_halves_216 x1 x2 m y1 y2 y3 y5 y6 k n z7 z8 = some res → (∀ (u7 : Int32), k u7 = some res → am_W G mt_X9_halves 4 (some (.int res.1)) (am_hh res.2 r) 248 [(2, .int y2), (6, .int y6), (7, .int u7)] [] (am_hh m r)) → am_W G mt_X9_halves 4 (some (.int res.1)) (am_hh res.2 r) 216 [(0, .ref 3261), (1, .int y1), (2, .int y2), (3, .int y3), (5, .int y5), (6, .int y6), (7, .int z7), (8, .int z8)] [] (am_hh m r) := by
  intro n
  induction n with
  | zero => intro z7 z8 hm K; cases hm
  | succ n ih =>
    intro z7 z8 hm K
    unfold m_X9_halves_216 at hm
    refine am_steps ck_X9_halves 2 (pc' := 219) (lv' := [(0, .ref 3261), (1, .int y1), (2, .int y2), (3, .int y3), (5, .int y5), (6, .int y6), (7, .int z7), (8, .int z8)]) (st' := [.int y3, .int z8]) rfl ?_
    refine am_icmp (tgt := 248) (am_fd ck_X9_halves (pc := 219) rfl) rfl (fun hc28 => ?_) (fun hc28 => ?_)
    · replace hm := am_it hm hc28
      refine am_subp [2, 5, 6] rfl ?_
      exact K _ hm
    · replace hm := am_if hm hc28
      refine am_steps ck_X9_halves 9 (pc' := 235) (lv' := [(0, .ref 3261), (1, .int y1), (2, .int y2), (3, .int y3), (5, .int y5), (6, .int y6), (7, .int z7), (8, .int z8)]) (st' := [.int z8, .int y1, .ref 3261, .int ((y5 >>> (z8 &&& 31)) &&& (am_i 1)), .int z7]) rfl ?_
      obtain ⟨q29, hq29, hm⟩ := am_bE hm
      refine ms_callV (M2 := mt_X9_below) (d2 := 3) (ci := 7) [.int y1, .int z8] (am_fd ck_X9_halves (pc := 235) rfl) ok_X9_below tw_1260 tw_1178 tw_1179 (by decide) kc_3261 (Nat.le_of_ble_eq_true rfl) (Nat.le_of_ble_eq_true rfl) (x_X9_below hL hq29) ?_
      refine am_steps ck_X9_halves 5 (pc' := 216) (lv' := [(8, .int (z8 + am_i 1)), (7, .int (z7 ||| (((y5 >>> (z8 &&& 31)) &&& (am_i 1)) <<< (q29 &&& 31)))), (0, .ref 3261), (1, .int y1), (2, .int y2), (3, .int y3), (5, .int y5), (6, .int y6)]) (st' := []) rfl ?_
      refine am_subp [2, 3, 4, 5, 6, 7, 1, 0] rfl ?_
      exact ih _ _ hm K
set_option maxRecDepth 100000 in
set_option maxHeartbeats 4000000 in
theorem x_X9_halves {G : am_G} {m : am_m} {r : am_rr} {x1 : Int32} {x2 : Int32} {res : Int32 × am_m} (hL : am_Lay r) (hm : m_X9_halves m x1 x2 = some res) : am_Met G mt_X9_halves 4 [.ref 3261, .int x1, .int x2] (am_hh m r) (some (.int res.1)) (am_hh res.2 r) := by
  refine am_of (by decide) (Nat.le_of_ble_eq_true rfl) ?_
  unfold m_X9_halves at hm
  show am_W G mt_X9_halves 4 _ _ 0 [(0, .ref 3261), (1, .int x1), (2, .int x2)] [] (am_hh m r)
  refine am_steps ck_X9_halves 2 (pc' := 2) (lv' := [(0, .ref 3261), (1, .int x1), (2, .int x2)]) (st' := [.int x1, .ref 3261]) rfl ?_
  obtain ⟨q1, hq1, hm⟩ := am_bE hm
  refine ms_callV (M2 := mt_X9_isUnit) (d2 := 2) (ci := 7) [.int x1] (am_fd ck_X9_halves (pc := 2) rfl) ok_X9_isUnit tw_949 tw_951 ts_28 (by decide) kc_3261 (Nat.le_of_ble_eq_true rfl) (Nat.le_of_ble_eq_true rfl) (x_X9_isUnit hL hq1) ?_
  refine am_ifc (tgt := 27) (am_fd ck_X9_halves (pc := 5) rfl) rfl (fun hc2 => ?_) (fun hc2 => ?_)
  · replace hm := am_it hm hc2
    refine am_steps ck_X9_halves 1 (pc' := 28) (lv' := [(0, .ref 3261), (1, .int x1), (2, .int x2)]) (st' := [.int (am_i (-1))]) rfl ?_
    cases hm
    exact am_end (am_fd ck_X9_halves (pc := 28) rfl) am_rI rfl rfl
  · replace hm := am_if hm hc2
    refine am_steps ck_X9_halves 2 (pc' := 10) (lv' := [(0, .ref 3261), (1, .int x1), (2, .int x2)]) (st' := [.int x1, .ref 3261]) rfl ?_
    obtain ⟨q3, hq3, hm⟩ := am_bE hm
    refine ms_callV (M2 := mt_X9_belowMany) (d2 := 3) (ci := 7) [.int x1] (am_fd ck_X9_halves (pc := 10) rfl) ok_X9_belowMany tw_989 tw_991 ts_33 (by decide) kc_3261 (Nat.le_of_ble_eq_true rfl) (Nat.le_of_ble_eq_true rfl) (x_X9_belowMany hL hq3) ?_
    refine am_steps ck_X9_halves 1 (pc' := 15) (lv' := [(0, .ref 3261), (1, .int x1), (2, .int x2)]) (st' := [.int (am_i 12), .int q3]) rfl ?_
    refine am_icmp (tgt := 27) (am_fd ck_X9_halves (pc := 15) rfl) rfl (fun hc4 => ?_) (fun hc4 => ?_)
    · replace hm := am_it hm hc4
      refine am_steps ck_X9_halves 1 (pc' := 28) (lv' := [(0, .ref 3261), (1, .int x1), (2, .int x2)]) (st' := [.int (am_i (-1))]) rfl ?_
      cases hm
      exact am_end (am_fd ck_X9_halves (pc := 28) rfl) am_rI rfl rfl
    · replace hm := am_if hm hc4
      refine am_steps ck_X9_halves 3 (pc' := 21) (lv' := [(0, .ref 3261), (1, .int x1), (2, .int x2)]) (st' := [.int (am_i 1), .int (am_i 0), .int x2]) rfl ?_
      obtain ⟨q5, hq5, hm⟩ := am_bE hm
      refine ms_callS (M2 := mt_X9_isIn) (d2 := 1) [.int x2, .int (am_i 0), .int (am_i 1)] (am_fd ck_X9_halves (pc := 21) rfl) ok_X9_isIn tw_953 tw_954 (Nat.le_of_ble_eq_true rfl) (Nat.le_of_ble_eq_true rfl) (x_X9_isIn hL hq5) ?_
      refine am_ifc (tgt := 29) (am_fd ck_X9_halves (pc := 24) rfl) rfl (fun hc6 => ?_) (fun hc6 => ?_)
      · replace hm := am_it hm hc6
        refine am_steps ck_X9_halves 2 (pc' := 31) (lv' := [(0, .ref 3261), (1, .int x1), (2, .int x2)]) (st' := [.int x1, .ref 3261]) rfl ?_
        obtain ⟨q7, hq7, hm⟩ := am_bE hm
        refine ms_callV (M2 := mt_X9_belowMany) (d2 := 3) (ci := 7) [.int x1] (am_fd ck_X9_halves (pc := 31) rfl) ok_X9_belowMany tw_989 tw_991 ts_33 (by decide) kc_3261 (Nat.le_of_ble_eq_true rfl) (Nat.le_of_ble_eq_true rfl) (x_X9_belowMany hL hq7) ?_
        refine am_steps ck_X9_halves 5 (pc' := 41) (lv' := [(5, .int (am_i 0)), (4, .int (am_i 0)), (3, .int q7), (0, .ref 3261), (1, .int x1), (2, .int x2)]) (st' := []) rfl ?_
        refine am_subp [3, 4, 5, 2, 1, 0] rfl ?_
        refine x_X9_halves_41 hL am_F _ _ _ hm (fun u11 m12 hm => ?_)
        refine am_steps ck_X9_halves 2 (pc' := 72) (lv' := [(5, .int (am_i 0)), (0, .ref 3261), (1, .int x1), (2, .int x2), (3, .int q7), (4, .int u11)]) (st' := []) rfl ?_
        refine am_subp [1, 2, 3, 4, 5, 0] rfl ?_
        refine x_X9_halves_72 hL am_F _ _ hm (fun m18 hm => ?_)
        refine am_steps ck_X9_halves 6 (pc' := 112) (lv' := [(7, .int (am_i 1)), (6, .int u11), (5, .int (am_i 0)), (0, .ref 3261), (1, .int x1), (2, .int x2), (3, .int q7), (4, .int u11)]) (st' := []) rfl ?_
        refine am_subp [3, 4, 5, 6, 7, 2, 1, 0] rfl ?_
        refine x_X9_halves_112 hL am_F _ _ _ hm (fun u26 u27 hm => ?_)
        refine am_steps ck_X9_halves 4 (pc' := 216) (lv' := [(8, .int (am_i 0)), (7, .int (am_i 0)), (0, .ref 3261), (1, .int x1), (2, .int x2), (3, .int q7), (5, .int u26), (6, .int u27)]) (st' := []) rfl ?_
        refine am_subp [2, 3, 4, 5, 6, 7, 1, 0] rfl ?_
        refine x_X9_halves_216 hL am_F _ _ hm (fun u30 hm => ?_)
        refine am_steps ck_X9_halves 1 (pc' := 249) (lv' := [(2, .int x2), (6, .int u27), (7, .int u30)]) (st' := [.int x2]) rfl ?_
        refine am_ifc (tgt := 257) (am_fd ck_X9_halves (pc := 249) rfl) rfl (fun hc31 => ?_) (fun hc31 => ?_)
        · replace hm := am_it hm hc31
          refine am_steps ck_X9_halves 1 (pc' := 259) (lv' := [(2, .int x2), (6, .int u27), (7, .int u30)]) (st' := [.int u27]) rfl ?_
          cases hm
          exact am_end (am_fd ck_X9_halves (pc := 259) rfl) am_rI rfl rfl
        · replace hm := am_if hm hc31
          refine am_steps ck_X9_halves 2 (pc' := 259) (lv' := [(2, .int x2), (6, .int u27), (7, .int u30)]) (st' := [.int u30]) rfl ?_
          cases hm
          exact am_end (am_fd ck_X9_halves (pc := 259) rfl) am_rI rfl rfl
      · replace hm := am_if hm hc6
        refine am_steps ck_X9_halves 1 (pc' := 28) (lv' := [(0, .ref 3261), (1, .int x1), (2, .int x2)]) (st' := [.int (am_i (-1))]) rfl ?_
        cases hm
        exact am_end (am_fd ck_X9_halves (pc := 28) rfl) am_rI rfl rfl
set_option maxRecDepth 100000 in
set_option maxHeartbeats 4000000 in
theorem x_X9_isBetween {G : am_G} {m : am_m} {r : am_rr} {x1 : Int32} {x2 : Int32} {x3 : Int32} {res : Int32} (hL : am_Lay r) (hm : m_X9_isBetween m x1 x2 x3 = some res) : am_Met G mt_X9_isBetween 4 [.ref 3261, .int x1, .int x2, .int x3] (am_hh m r) (some (.int res)) (am_hh m r) := by
  refine am_of (by decide) (Nat.le_of_ble_eq_true rfl) ?_
  unfold m_X9_isBetween at hm
  show am_W G mt_X9_isBetween 4 _ _ 0 [(0, .ref 3261), (1, .int x1), (2, .int x2), (3, .int x3)] [] (am_hh m r)
  refine am_steps ck_X9_isBetween 5 (pc' := 5) (lv' := [(0, .ref 3261), (1, .int x1), (2, .int x2), (3, .int x3)]) (st' := [.int x3, .int x2, .ref 3261, .int x1, .ref 3261]) rfl ?_
  obtain ⟨q1, hq1, hm⟩ := am_bE hm
  refine ms_callV (M2 := mt_X9_both) (d2 := 3) (ci := 7) [.int x2, .int x3] (am_fd ck_X9_isBetween (pc := 5) rfl) ok_X9_both tw_1269 tw_1186 tw_1187 (by decide) kc_3261 (Nat.le_of_ble_eq_true rfl) (Nat.le_of_ble_eq_true rfl) (x_X9_both hL hq1) ?_
  obtain ⟨q2, hq2, hm⟩ := am_bE hm
  refine ms_callV (M2 := mt_X9_isIn_) (d2 := 1) (ci := 7) [.int x1, .int q1] (am_fd ck_X9_isBetween (pc := 8) rfl) ok_X9_isIn_ tw_1019 tw_1021 ts_38 (by decide) kc_3261 (Nat.le_of_ble_eq_true rfl) (Nat.le_of_ble_eq_true rfl) (x_X9_isIn_ hL hq2) ?_
  refine am_ifc (tgt := 36) (am_fd ck_X9_isBetween (pc := 11) rfl) rfl (fun hc3 => ?_) (fun hc3 => ?_)
  · replace hm := am_it hm hc3
    refine am_steps ck_X9_isBetween 1 (pc' := 37) (lv' := [(0, .ref 3261), (1, .int x1), (2, .int x2), (3, .int x3)]) (st' := [.int (am_i 0)]) rfl ?_
    cases hm
    exact am_end (am_fd ck_X9_isBetween (pc := 37) rfl) am_rZ0 rfl rfl
  · replace hm := am_if hm hc3
    refine am_steps ck_X9_isBetween 3 (pc' := 17) (lv' := [(0, .ref 3261), (1, .int x1), (2, .int x2), (3, .int x3)]) (st' := [.int x1, .int x2, .ref 3261]) rfl ?_
    obtain ⟨q4, hq4, hm⟩ := am_bE hm
    refine ms_callV (M2 := mt_X9_isIn_) (d2 := 1) (ci := 7) [.int x2, .int x1] (am_fd ck_X9_isBetween (pc := 17) rfl) ok_X9_isIn_ tw_1019 tw_1021 ts_38 (by decide) kc_3261 (Nat.le_of_ble_eq_true rfl) (Nat.le_of_ble_eq_true rfl) (x_X9_isIn_ hL hq4) ?_
    refine am_ifc (tgt := 32) (am_fd ck_X9_isBetween (pc := 20) rfl) rfl (fun hc5 => ?_) (fun hc5 => ?_)
    · replace hm := am_it hm hc5
      refine am_steps ck_X9_isBetween 2 (pc' := 37) (lv' := [(0, .ref 3261), (1, .int x1), (2, .int x2), (3, .int x3)]) (st' := [.int (am_i 1)]) rfl ?_
      cases hm
      exact am_end (am_fd ck_X9_isBetween (pc := 37) rfl) am_rZ1 rfl rfl
    · replace hm := am_if hm hc5
      refine am_steps ck_X9_isBetween 3 (pc' := 26) (lv' := [(0, .ref 3261), (1, .int x1), (2, .int x2), (3, .int x3)]) (st' := [.int x1, .int x3, .ref 3261]) rfl ?_
      obtain ⟨q6, hq6, hm⟩ := am_bE hm
      refine ms_callV (M2 := mt_X9_isIn_) (d2 := 1) (ci := 7) [.int x3, .int x1] (am_fd ck_X9_isBetween (pc := 26) rfl) ok_X9_isIn_ tw_1019 tw_1021 ts_38 (by decide) kc_3261 (Nat.le_of_ble_eq_true rfl) (Nat.le_of_ble_eq_true rfl) (x_X9_isIn_ hL hq6) ?_
      refine am_ifc (tgt := 36) (am_fd ck_X9_isBetween (pc := 29) rfl) rfl (fun hc7 => ?_) (fun hc7 => ?_)
      · replace hm := am_it hm hc7
        refine am_steps ck_X9_isBetween 1 (pc' := 37) (lv' := [(0, .ref 3261), (1, .int x1), (2, .int x2), (3, .int x3)]) (st' := [.int (am_i 0)]) rfl ?_
        cases hm
        exact am_end (am_fd ck_X9_isBetween (pc := 37) rfl) am_rZ0 rfl rfl
      · replace hm := am_if hm hc7
        refine am_steps ck_X9_isBetween 2 (pc' := 37) (lv' := [(0, .ref 3261), (1, .int x1), (2, .int x2), (3, .int x3)]) (st' := [.int (am_i 1)]) rfl ?_
        cases hm
        exact am_end (am_fd ck_X9_isBetween (pc := 37) rfl) am_rZ1 rfl rfl
set_option maxRecDepth 100000 in
set_option maxHeartbeats 4000000 in
theorem x_X9_chain_69 {G : am_G} {x1 : Int32} {x2 : Int32} {x3 : Int32} {m : am_m} {r : am_rr} {y1 : Int32} {y2 : Int32} {y3 : Int32} {y5 : Int32} {res : Int32} {k : Int32 → Option (Int32)} (hL : am_Lay r) : ∀ (n : Nat) (z4 : Int32) (z6 : Int32), m_X9_chain_69 x1 x2 x3 m y1 y2 y3 y5 k n z4 z6 = some res → (∀ (u4 : Int32), k u4 = some res → am_W G mt_X9_chain 5 (some (.int res)) (am_hh m r) 115 [(0, .ref 3261), (1, .int y1), (2, .int y2), (3, .int y3), (4, .int u4), (5, .int y5)] [] (am_hh m r)) → am_W G mt_X9_chain 5 (some (.int res)) (am_hh m r) 69 [(0, .ref 3261), (1, .int y1), (2, .int y2), (3, .int y3), (4, .int z4), (5, .int y5), (6, .int z6)] [] (am_hh m r) := by
  intro n
  induction n with
  | zero => intro z4 z6 hm K; cases hm
  | succ n ih =>
    intro z4 z6 hm K
    unfold m_X9_chain_69 at hm
    refine am_steps ck_X9_chain 2 (pc' := 73) (lv' := [(0, .ref 3261), (1, .int y1), (2, .int y2), (3, .int y3), (4, .int z4), (5, .int y5), (6, .int z6)]) (st' := [.int (am_i 64), .int z6]) rfl ?_
    refine am_icmp (tgt := 115) (am_fd ck_X9_chain (pc := 73) rfl) rfl (fun hc11 => ?_) (fun hc11 => ?_)
    · replace hm := am_it hm hc11
      refine am_subp [0, 1, 2, 3, 4, 5] rfl ?_
      exact K _ hm
    · replace hm := am_if hm hc11
      refine am_steps ck_X9_chain 3 (pc' := 80) (lv' := [(0, .ref 3261), (1, .int y1), (2, .int y2), (3, .int y3), (4, .int z4), (5, .int y5), (6, .int z6)]) (st' := [.int (am_i (-1)), .int y3, .int z4]) rfl ?_
      refine am_icmp (tgt := 89) (am_fd ck_X9_chain (pc := 80) rfl) rfl (fun hc12 => ?_) (fun hc12 => ?_)
      · replace hm := am_it hm hc12
        refine am_steps ck_X9_chain 1 (pc' := 90) (lv' := [(0, .ref 3261), (1, .int y1), (2, .int y2), (3, .int y3), (4, .int z4), (5, .int y5), (6, .int z6)]) (st' := [.ref 3261, .int z4]) rfl ?_
        refine ms_getr (ci := 7) (k := 0) (v := 3262) (am_fd ck_X9_chain (pc := 90) rfl) tw_875 kc_3261 rfl (ly_3261_0 hL) kc_3262 ?_
        refine am_steps ck_X9_chain 1 (pc' := 95) (lv' := [(0, .ref 3261), (1, .int y1), (2, .int y2), (3, .int y3), (4, .int z4), (5, .int y5), (6, .int z6)]) (st' := [.int y5, .ref 3262, .int z4]) rfl ?_
        obtain ⟨q13, hq13, hm⟩ := am_bE hm
        refine ms_callS (M2 := mt_X9_ownAt) (d2 := 1) [.int y5] (am_fd ck_X9_chain (pc := 95) rfl) ok_X9_ownAt tw_959 tw_960 (Nat.le_of_ble_eq_true rfl) (Nat.le_of_ble_eq_true rfl) (x_X9_ownAt hL hq13) ?_
        refine am_steps ck_X9_chain 2 (pc' := 101) (lv' := [(0, .ref 3261), (1, .int y1), (2, .int y2), (3, .int y3), (4, .int z4), (5, .int y5), (6, .int z6)]) (st' := [.int (q13 + z6), .ref 3262, .int z4]) rfl ?_
        obtain ⟨hb14, hm⟩ := am_gE hm
        refine ms_iald (n := 15517) (am_fd ck_X9_chain (pc := 101) rfl) kc_3262 hb14 ?_
        refine am_steps ck_X9_chain 5 (pc' := 69) (lv' := [(6, .int (z6 + am_i 1)), (4, .int (z4 + (m 3262 (am_ix (q13 + z6))))), (0, .ref 3261), (1, .int y1), (2, .int y2), (3, .int y3), (5, .int y5)]) (st' := []) rfl ?_
        refine am_subp [2, 3, 4, 5, 1, 6, 0] rfl ?_
        exact ih _ _ hm K
      · replace hm := am_if hm hc12
        refine am_steps ck_X9_chain 2 (pc' := 86) (lv' := [(0, .ref 3261), (1, .int y1), (2, .int y2), (3, .int y3), (4, .int z4), (5, .int y5), (6, .int z6)]) (st' := [.int z6, .int y3, .int z4]) rfl ?_
        refine am_icmp (tgt := 105) (am_fd ck_X9_chain (pc := 86) rfl) rfl (fun hc15 => ?_) (fun hc15 => ?_)
        · replace hm := am_it hm hc15
          refine am_steps ck_X9_chain 5 (pc' := 69) (lv' := [(6, .int (z6 + am_i 1)), (4, .int (z4 + (am_i 0))), (0, .ref 3261), (1, .int y1), (2, .int y2), (3, .int y3), (5, .int y5)]) (st' := []) rfl ?_
          refine am_subp [2, 3, 4, 5, 1, 6, 0] rfl ?_
          exact ih _ _ hm K
        · replace hm := am_if hm hc15
          refine am_steps ck_X9_chain 1 (pc' := 90) (lv' := [(0, .ref 3261), (1, .int y1), (2, .int y2), (3, .int y3), (4, .int z4), (5, .int y5), (6, .int z6)]) (st' := [.ref 3261, .int z4]) rfl ?_
          refine ms_getr (ci := 7) (k := 0) (v := 3262) (am_fd ck_X9_chain (pc := 90) rfl) tw_875 kc_3261 rfl (ly_3261_0 hL) kc_3262 ?_
          refine am_steps ck_X9_chain 1 (pc' := 95) (lv' := [(0, .ref 3261), (1, .int y1), (2, .int y2), (3, .int y3), (4, .int z4), (5, .int y5), (6, .int z6)]) (st' := [.int y5, .ref 3262, .int z4]) rfl ?_
          obtain ⟨q16, hq16, hm⟩ := am_bE hm
          refine ms_callS (M2 := mt_X9_ownAt) (d2 := 1) [.int y5] (am_fd ck_X9_chain (pc := 95) rfl) ok_X9_ownAt tw_959 tw_960 (Nat.le_of_ble_eq_true rfl) (Nat.le_of_ble_eq_true rfl) (x_X9_ownAt hL hq16) ?_
          refine am_steps ck_X9_chain 2 (pc' := 101) (lv' := [(0, .ref 3261), (1, .int y1), (2, .int y2), (3, .int y3), (4, .int z4), (5, .int y5), (6, .int z6)]) (st' := [.int (q16 + z6), .ref 3262, .int z4]) rfl ?_
          obtain ⟨hb17, hm⟩ := am_gE hm
          refine ms_iald (n := 15517) (am_fd ck_X9_chain (pc := 101) rfl) kc_3262 hb17 ?_
          refine am_steps ck_X9_chain 5 (pc' := 69) (lv' := [(6, .int (z6 + am_i 1)), (4, .int (z4 + (m 3262 (am_ix (q16 + z6))))), (0, .ref 3261), (1, .int y1), (2, .int y2), (3, .int y3), (5, .int y5)]) (st' := []) rfl ?_
          refine am_subp [2, 3, 4, 5, 1, 6, 0] rfl ?_
          exact ih _ _ hm K
set_option maxRecDepth 100000 in
set_option maxHeartbeats 4000000 in
theorem x_X9_chain_36 {G : am_G} {x1 : Int32} {x2 : Int32} {x3 : Int32} {m : am_m} {r : am_rr} {y1 : Int32} {y2 : Int32} {y3 : Int32} {res : Int32} {k : Int32 → Option (Int32)} (hL : am_Lay r) : ∀ (n : Nat) (z4 : Int32) (z5 : Int32), m_X9_chain_36 x1 x2 x3 m y1 y2 y3 k n z4 z5 = some res → (∀ (u4 : Int32), k u4 = some res → am_W G mt_X9_chain 5 (some (.int res)) (am_hh m r) 121 [(4, .int u4)] [] (am_hh m r)) → am_W G mt_X9_chain 5 (some (.int res)) (am_hh m r) 36 [(0, .ref 3261), (1, .int y1), (2, .int y2), (3, .int y3), (4, .int z4), (5, .int z5)] [] (am_hh m r) := by
  intro n
  induction n with
  | zero => intro z4 z5 hm K; cases hm
  | succ n ih =>
    intro z4 z5 hm K
    unfold m_X9_chain_36 at hm
    refine am_steps ck_X9_chain 2 (pc' := 40) (lv' := [(0, .ref 3261), (1, .int y1), (2, .int y2), (3, .int y3), (4, .int z4), (5, .int z5)]) (st' := [.int (am_i 24), .int z5]) rfl ?_
    refine am_icmp (tgt := 121) (am_fd ck_X9_chain (pc := 40) rfl) rfl (fun hc6 => ?_) (fun hc6 => ?_)
    · replace hm := am_it hm hc6
      refine am_subp [4] rfl ?_
      exact K _ hm
    · replace hm := am_if hm hc6
      refine am_steps ck_X9_chain 2 (pc' := 46) (lv' := [(0, .ref 3261), (1, .int y1), (2, .int y2), (3, .int y3), (4, .int z4), (5, .int z5)]) (st' := [.int z5, .ref 3261]) rfl ?_
      obtain ⟨q7, hq7, hm⟩ := am_bE hm
      refine ms_callV (M2 := mt_X9_isUnit) (d2 := 2) (ci := 7) [.int z5] (am_fd ck_X9_chain (pc := 46) rfl) ok_X9_isUnit tw_949 tw_951 ts_28 (by decide) kc_3261 (Nat.le_of_ble_eq_true rfl) (Nat.le_of_ble_eq_true rfl) (x_X9_isUnit hL hq7) ?_
      refine am_ifc (tgt := 115) (am_fd ck_X9_chain (pc := 49) rfl) rfl (fun hc8 => ?_) (fun hc8 => ?_)
      · replace hm := am_it hm hc8
        refine am_steps ck_X9_chain 2 (pc' := 36) (lv' := [(5, .int (z5 + am_i 1)), (0, .ref 3261), (1, .int y1), (2, .int y2), (3, .int y3), (4, .int z4)]) (st' := []) rfl ?_
        refine am_subp [1, 2, 3, 4, 5, 0] rfl ?_
        exact ih _ _ hm K
      · replace hm := am_if hm hc8
        refine am_steps ck_X9_chain 4 (pc' := 57) (lv' := [(0, .ref 3261), (1, .int y1), (2, .int y2), (3, .int y3), (4, .int z4), (5, .int z5)]) (st' := [.int y2, .int y1, .int z5, .ref 3261]) rfl ?_
        obtain ⟨q9, hq9, hm⟩ := am_bE hm
        refine ms_callV (M2 := mt_X9_isBetween) (d2 := 4) (ci := 7) [.int z5, .int y1, .int y2] (am_fd ck_X9_chain (pc := 57) rfl) ok_X9_isBetween tw_1265 tw_1267 ts_69 (by decide) kc_3261 (Nat.le_of_ble_eq_true rfl) (Nat.le_of_ble_eq_true rfl) (x_X9_isBetween hL hq9) ?_
        refine am_ifc (tgt := 66) (am_fd ck_X9_chain (pc := 60) rfl) rfl (fun hc10 => ?_) (fun hc10 => ?_)
        · replace hm := am_it hm hc10
          refine am_steps ck_X9_chain 2 (pc' := 69) (lv' := [(6, .int (am_i 0)), (0, .ref 3261), (1, .int y1), (2, .int y2), (3, .int y3), (4, .int z4), (5, .int z5)]) (st' := []) rfl ?_
          refine am_subp [1, 2, 3, 4, 5, 6, 0] rfl ?_
          refine x_X9_chain_69 hL am_F _ _ hm (fun u18 hm => ?_)
          refine am_steps ck_X9_chain 2 (pc' := 36) (lv' := [(5, .int (z5 + am_i 1)), (0, .ref 3261), (1, .int y1), (2, .int y2), (3, .int y3), (4, .int u18)]) (st' := []) rfl ?_
          refine am_subp [1, 2, 3, 4, 5, 0] rfl ?_
          exact ih _ _ hm K
        · replace hm := am_if hm hc10
          refine am_steps ck_X9_chain 3 (pc' := 36) (lv' := [(5, .int (z5 + am_i 1)), (0, .ref 3261), (1, .int y1), (2, .int y2), (3, .int y3), (4, .int z4)]) (st' := []) rfl ?_
          refine am_subp [1, 2, 3, 4, 5, 0] rfl ?_
          exact ih _ _ hm K
set_option maxRecDepth 100000 in
set_option maxHeartbeats 4000000 in
theorem x_X9_chain {G : am_G} {m : am_m} {r : am_rr} {x1 : Int32} {x2 : Int32} {x3 : Int32} {res : Int32} (hL : am_Lay r) (hm : m_X9_chain m x1 x2 x3 = some res) : am_Met G mt_X9_chain 5 [.ref 3261, .int x1, .int x2, .int x3] (am_hh m r) (some (.int res)) (am_hh m r) := by
  refine am_of (by decide) (Nat.le_of_ble_eq_true rfl) ?_
  unfold m_X9_chain at hm
  show am_W G mt_X9_chain 5 _ _ 0 [(0, .ref 3261), (1, .int x1), (2, .int x2), (3, .int x3)] [] (am_hh m r)
  refine am_steps ck_X9_chain 2 (pc' := 2) (lv' := [(0, .ref 3261), (1, .int x1), (2, .int x2), (3, .int x3)]) (st' := [.int x1, .ref 3261]) rfl ?_
  obtain ⟨q1, hq1, hm⟩ := am_bE hm
  refine ms_callV (M2 := mt_X9_isUnit) (d2 := 2) (ci := 7) [.int x1] (am_fd ck_X9_chain (pc := 2) rfl) ok_X9_isUnit tw_949 tw_951 ts_28 (by decide) kc_3261 (Nat.le_of_ble_eq_true rfl) (Nat.le_of_ble_eq_true rfl) (x_X9_isUnit hL hq1) ?_
  refine am_ifc (tgt := 28) (am_fd ck_X9_chain (pc := 5) rfl) rfl (fun hc2 => ?_) (fun hc2 => ?_)
  · replace hm := am_it hm hc2
    refine am_steps ck_X9_chain 1 (pc' := 29) (lv' := [(0, .ref 3261), (1, .int x1), (2, .int x2), (3, .int x3)]) (st' := [.int (am_i (-1))]) rfl ?_
    cases hm
    exact am_end (am_fd ck_X9_chain (pc := 29) rfl) am_rI rfl rfl
  · replace hm := am_if hm hc2
    refine am_steps ck_X9_chain 2 (pc' := 10) (lv' := [(0, .ref 3261), (1, .int x1), (2, .int x2), (3, .int x3)]) (st' := [.int x2, .ref 3261]) rfl ?_
    obtain ⟨q3, hq3, hm⟩ := am_bE hm
    refine ms_callV (M2 := mt_X9_isUnit) (d2 := 2) (ci := 7) [.int x2] (am_fd ck_X9_chain (pc := 10) rfl) ok_X9_isUnit tw_949 tw_951 ts_28 (by decide) kc_3261 (Nat.le_of_ble_eq_true rfl) (Nat.le_of_ble_eq_true rfl) (x_X9_isUnit hL hq3) ?_
    refine am_ifc (tgt := 28) (am_fd ck_X9_chain (pc := 13) rfl) rfl (fun hc4 => ?_) (fun hc4 => ?_)
    · replace hm := am_it hm hc4
      refine am_steps ck_X9_chain 1 (pc' := 29) (lv' := [(0, .ref 3261), (1, .int x1), (2, .int x2), (3, .int x3)]) (st' := [.int (am_i (-1))]) rfl ?_
      cases hm
      exact am_end (am_fd ck_X9_chain (pc := 29) rfl) am_rI rfl rfl
    · replace hm := am_if hm hc4
      refine am_steps ck_X9_chain 2 (pc' := 18) (lv' := [(0, .ref 3261), (1, .int x1), (2, .int x2), (3, .int x3)]) (st' := [.int (am_i (-1)), .int x3]) rfl ?_
      refine am_icmp (tgt := 30) (am_fd ck_X9_chain (pc := 18) rfl) rfl (fun hc5 => ?_) (fun hc5 => ?_)
      · replace hm := am_it hm hc5
        refine am_steps ck_X9_chain 4 (pc' := 36) (lv' := [(5, .int (am_i 0)), (4, .int (am_i 0)), (0, .ref 3261), (1, .int x1), (2, .int x2), (3, .int x3)]) (st' := []) rfl ?_
        refine am_subp [2, 3, 4, 5, 1, 0] rfl ?_
        refine x_X9_chain_36 hL am_F _ _ hm (fun u19 hm => ?_)
        refine am_steps ck_X9_chain 1 (pc' := 123) (lv' := [(4, .int u19)]) (st' := [.int u19]) rfl ?_
        cases hm
        exact am_end (am_fd ck_X9_chain (pc := 123) rfl) am_rI rfl rfl
      · replace hm := am_if hm hc5
        refine am_steps ck_X9_chain 1 (pc' := 22) (lv' := [(0, .ref 3261), (1, .int x1), (2, .int x2), (3, .int x3)]) (st' := [.int x3]) rfl ?_
        obtain ⟨q20, hq20, hm⟩ := am_bE hm
        refine ms_callS (M2 := mt_X9_isCategory) (d2 := 2) [.int x3] (am_fd ck_X9_chain (pc := 22) rfl) ok_X9_isCategory tw_956 tw_957 (Nat.le_of_ble_eq_true rfl) (Nat.le_of_ble_eq_true rfl) (x_X9_isCategory hL hq20) ?_
        refine am_ifc (tgt := 30) (am_fd ck_X9_chain (pc := 25) rfl) rfl (fun hc21 => ?_) (fun hc21 => ?_)
        · replace hm := am_it hm hc21
          refine am_steps ck_X9_chain 4 (pc' := 36) (lv' := [(5, .int (am_i 0)), (4, .int (am_i 0)), (0, .ref 3261), (1, .int x1), (2, .int x2), (3, .int x3)]) (st' := []) rfl ?_
          refine am_subp [2, 3, 4, 5, 1, 0] rfl ?_
          refine x_X9_chain_36 hL am_F _ _ hm (fun u22 hm => ?_)
          refine am_steps ck_X9_chain 1 (pc' := 123) (lv' := [(4, .int u22)]) (st' := [.int u22]) rfl ?_
          cases hm
          exact am_end (am_fd ck_X9_chain (pc := 123) rfl) am_rI rfl rfl
        · replace hm := am_if hm hc21
          refine am_steps ck_X9_chain 1 (pc' := 29) (lv' := [(0, .ref 3261), (1, .int x1), (2, .int x2), (3, .int x3)]) (st' := [.int (am_i (-1))]) rfl ?_
          cases hm
          exact am_end (am_fd ck_X9_chain (pc := 29) rfl) am_rI rfl rfl
set_option maxRecDepth 100000 in
set_option maxHeartbeats 4000000 in
theorem x_X9_hops_23 {G : am_G} {x1 : Int32} {x2 : Int32} {m : am_m} {r : am_rr} {y1 : Int32} {y2 : Int32} {res : Int32} {k : Int32 → Option (Int32)} (hL : am_Lay r) : ∀ (n : Nat) (z3 : Int32) (z4 : Int32), m_X9_hops_23 x1 x2 m y1 y2 k n z3 z4 = some res → (∀ (u3 : Int32), k u3 = some res → am_W G mt_X9_hops 5 (some (.int res)) (am_hh m r) 64 [(3, .int u3)] [] (am_hh m r)) → am_W G mt_X9_hops 5 (some (.int res)) (am_hh m r) 23 [(0, .ref 3261), (1, .int y1), (2, .int y2), (3, .int z3), (4, .int z4)] [] (am_hh m r) := by
  intro n
  induction n with
  | zero => intro z3 z4 hm K; cases hm
  | succ n ih =>
    intro z3 z4 hm K
    unfold m_X9_hops_23 at hm
    refine am_steps ck_X9_hops 2 (pc' := 27) (lv' := [(0, .ref 3261), (1, .int y1), (2, .int y2), (3, .int z3), (4, .int z4)]) (st' := [.int (am_i 24), .int z4]) rfl ?_
    refine am_icmp (tgt := 64) (am_fd ck_X9_hops (pc := 27) rfl) rfl (fun hc5 => ?_) (fun hc5 => ?_)
    · replace hm := am_it hm hc5
      refine am_subp [3] rfl ?_
      exact K _ hm
    · replace hm := am_if hm hc5
      refine am_steps ck_X9_hops 3 (pc' := 34) (lv' := [(0, .ref 3261), (1, .int y1), (2, .int y2), (3, .int z3), (4, .int z4)]) (st' := [.int z4, .ref 3261, .int z3]) rfl ?_
      obtain ⟨q6, hq6, hm⟩ := am_bE hm
      refine ms_callV (M2 := mt_X9_isUnit) (d2 := 2) (ci := 7) [.int z4] (am_fd ck_X9_hops (pc := 34) rfl) ok_X9_isUnit tw_949 tw_951 ts_28 (by decide) kc_3261 (Nat.le_of_ble_eq_true rfl) (Nat.le_of_ble_eq_true rfl) (x_X9_isUnit hL hq6) ?_
      refine am_ifc (tgt := 55) (am_fd ck_X9_hops (pc := 37) rfl) rfl (fun hc7 => ?_) (fun hc7 => ?_)
      · replace hm := am_it hm hc7
        refine am_steps ck_X9_hops 5 (pc' := 23) (lv' := [(4, .int (z4 + am_i 1)), (3, .int (z3 + (am_i 0))), (0, .ref 3261), (1, .int y1), (2, .int y2)]) (st' := []) rfl ?_
        refine am_subp [2, 3, 4, 1, 0] rfl ?_
        exact ih _ _ hm K
      · replace hm := am_if hm hc7
        refine am_steps ck_X9_hops 4 (pc' := 45) (lv' := [(0, .ref 3261), (1, .int y1), (2, .int y2), (3, .int z3), (4, .int z4)]) (st' := [.int y2, .int y1, .int z4, .ref 3261, .int z3]) rfl ?_
        obtain ⟨q8, hq8, hm⟩ := am_bE hm
        refine ms_callV (M2 := mt_X9_isBetween) (d2 := 4) (ci := 7) [.int z4, .int y1, .int y2] (am_fd ck_X9_hops (pc := 45) rfl) ok_X9_isBetween tw_1265 tw_1267 ts_69 (by decide) kc_3261 (Nat.le_of_ble_eq_true rfl) (Nat.le_of_ble_eq_true rfl) (x_X9_isBetween hL hq8) ?_
        refine am_ifc (tgt := 55) (am_fd ck_X9_hops (pc := 48) rfl) rfl (fun hc9 => ?_) (fun hc9 => ?_)
        · replace hm := am_it hm hc9
          refine am_steps ck_X9_hops 5 (pc' := 23) (lv' := [(4, .int (z4 + am_i 1)), (3, .int (z3 + (am_i 0))), (0, .ref 3261), (1, .int y1), (2, .int y2)]) (st' := []) rfl ?_
          refine am_subp [2, 3, 4, 1, 0] rfl ?_
          exact ih _ _ hm K
        · replace hm := am_if hm hc9
          refine am_steps ck_X9_hops 6 (pc' := 23) (lv' := [(4, .int (z4 + am_i 1)), (3, .int (z3 + (am_i 1))), (0, .ref 3261), (1, .int y1), (2, .int y2)]) (st' := []) rfl ?_
          refine am_subp [2, 3, 4, 1, 0] rfl ?_
          exact ih _ _ hm K
set_option maxRecDepth 100000 in
set_option maxHeartbeats 4000000 in
theorem x_X9_hops {G : am_G} {m : am_m} {r : am_rr} {x1 : Int32} {x2 : Int32} {res : Int32} (hL : am_Lay r) (hm : m_X9_hops m x1 x2 = some res) : am_Met G mt_X9_hops 5 [.ref 3261, .int x1, .int x2] (am_hh m r) (some (.int res)) (am_hh m r) := by
  refine am_of (by decide) (Nat.le_of_ble_eq_true rfl) ?_
  unfold m_X9_hops at hm
  show am_W G mt_X9_hops 5 _ _ 0 [(0, .ref 3261), (1, .int x1), (2, .int x2)] [] (am_hh m r)
  refine am_steps ck_X9_hops 2 (pc' := 2) (lv' := [(0, .ref 3261), (1, .int x1), (2, .int x2)]) (st' := [.int x1, .ref 3261]) rfl ?_
  obtain ⟨q1, hq1, hm⟩ := am_bE hm
  refine ms_callV (M2 := mt_X9_isUnit) (d2 := 2) (ci := 7) [.int x1] (am_fd ck_X9_hops (pc := 2) rfl) ok_X9_isUnit tw_949 tw_951 ts_28 (by decide) kc_3261 (Nat.le_of_ble_eq_true rfl) (Nat.le_of_ble_eq_true rfl) (x_X9_isUnit hL hq1) ?_
  refine am_ifc (tgt := 16) (am_fd ck_X9_hops (pc := 5) rfl) rfl (fun hc2 => ?_) (fun hc2 => ?_)
  · replace hm := am_it hm hc2
    refine am_steps ck_X9_hops 1 (pc' := 17) (lv' := [(0, .ref 3261), (1, .int x1), (2, .int x2)]) (st' := [.int (am_i (-1))]) rfl ?_
    cases hm
    exact am_end (am_fd ck_X9_hops (pc := 17) rfl) am_rI rfl rfl
  · replace hm := am_if hm hc2
    refine am_steps ck_X9_hops 2 (pc' := 10) (lv' := [(0, .ref 3261), (1, .int x1), (2, .int x2)]) (st' := [.int x2, .ref 3261]) rfl ?_
    obtain ⟨q3, hq3, hm⟩ := am_bE hm
    refine ms_callV (M2 := mt_X9_isUnit) (d2 := 2) (ci := 7) [.int x2] (am_fd ck_X9_hops (pc := 10) rfl) ok_X9_isUnit tw_949 tw_951 ts_28 (by decide) kc_3261 (Nat.le_of_ble_eq_true rfl) (Nat.le_of_ble_eq_true rfl) (x_X9_isUnit hL hq3) ?_
    refine am_ifc (tgt := 18) (am_fd ck_X9_hops (pc := 13) rfl) rfl (fun hc4 => ?_) (fun hc4 => ?_)
    · replace hm := am_it hm hc4
      refine am_steps ck_X9_hops 4 (pc' := 23) (lv' := [(4, .int (am_i 0)), (3, .int (am_i 0)), (0, .ref 3261), (1, .int x1), (2, .int x2)]) (st' := []) rfl ?_
      refine am_subp [2, 3, 4, 1, 0] rfl ?_
      refine x_X9_hops_23 hL am_F _ _ hm (fun u10 hm => ?_)
      refine am_steps ck_X9_hops 1 (pc' := 65) (lv' := [(3, .int u10)]) (st' := [.int u10]) rfl ?_
      cases hm
      exact am_end (am_fd ck_X9_hops (pc := 65) rfl) am_rI rfl rfl
    · replace hm := am_if hm hc4
      refine am_steps ck_X9_hops 1 (pc' := 17) (lv' := [(0, .ref 3261), (1, .int x1), (2, .int x2)]) (st' := [.int (am_i (-1))]) rfl ?_
      cases hm
      exact am_end (am_fd ck_X9_hops (pc := 17) rfl) am_rI rfl rfl
set_option maxRecDepth 100000 in
set_option maxHeartbeats 4000000 in
theorem x_X9_drawn_62 {G : am_G} {x1 : Int32} {x2 : Int32} {x3 : Int32} {m : am_m} {r : am_rr} {y2 : Int32} {y3 : Int32} {y4 : Int32} {y5 : Int32} {y6 : Int32} {res : Int32 × am_m} {k : Int32 → Option (Int32 × am_m)} (hL : am_Lay r) : ∀ (n : Nat) (z7 : Int32) (z8 : Int32), m_X9_drawn_62 x1 x2 x3 m y2 y3 y4 y5 y6 k n z7 z8 = some res → (∀ (u8 : Int32), k u8 = some res → am_W G mt_X9_drawn 3 (some (.int res.1)) (am_hh res.2 r) 92 [(0, .ref 3261), (2, .int y2), (3, .int y3), (4, .int y4), (5, .int y5), (6, .int y6), (8, .int u8)] [] (am_hh m r)) → am_W G mt_X9_drawn 3 (some (.int res.1)) (am_hh res.2 r) 62 [(0, .ref 3261), (2, .int y2), (3, .int y3), (4, .int y4), (5, .int y5), (6, .int y6), (7, .int z7), (8, .int z8)] [] (am_hh m r) := by
  intro n
  induction n with
  | zero => intro z7 z8 hm K; cases hm
  | succ n ih =>
    intro z7 z8 hm K
    unfold m_X9_drawn_62 at hm
    refine am_steps ck_X9_drawn 2 (pc' := 65) (lv' := [(0, .ref 3261), (2, .int y2), (3, .int y3), (4, .int y4), (5, .int y5), (6, .int y6), (7, .int z7), (8, .int z8)]) (st' := [.ref 3261, .int z7]) rfl ?_
    refine ms_getr (ci := 7) (k := 6) (v := 3266) (am_fd ck_X9_drawn (pc := 65) rfl) tw_881 kc_3261 rfl (ly_3261_6 hL) kc_3266 ?_
    refine am_steps ck_X9_drawn 1 (pc' := 70) (lv' := [(0, .ref 3261), (2, .int y2), (3, .int y3), (4, .int y4), (5, .int y5), (6, .int y6), (7, .int z7), (8, .int z8)]) (st' := [.int z8, .ref 3266, .int z7]) rfl ?_
    obtain ⟨hb11, hm⟩ := am_gE hm
    refine ms_iald (n := 64) (am_fd ck_X9_drawn (pc := 70) rfl) kc_3266 hb11 ?_
    refine am_icmp (tgt := 92) (am_fd ck_X9_drawn (pc := 71) rfl) rfl (fun hc12 => ?_) (fun hc12 => ?_)
    · replace hm := am_it hm hc12
      refine am_subp [0, 1, 2, 3, 4, 5, 7] rfl ?_
      exact K _ hm
    · replace hm := am_if hm hc12
      refine am_steps ck_X9_drawn 2 (pc' := 77) (lv' := [(0, .ref 3261), (2, .int y2), (3, .int y3), (4, .int y4), (5, .int y5), (6, .int y6), (7, .int z7), (8, .int z8)]) (st' := [.ref 3261, .int z7]) rfl ?_
      refine ms_getr (ci := 7) (k := 6) (v := 3266) (am_fd ck_X9_drawn (pc := 77) rfl) tw_881 kc_3261 rfl (ly_3261_6 hL) kc_3266 ?_
      refine am_steps ck_X9_drawn 1 (pc' := 82) (lv' := [(0, .ref 3261), (2, .int y2), (3, .int y3), (4, .int y4), (5, .int y5), (6, .int y6), (7, .int z7), (8, .int z8)]) (st' := [.int z8, .ref 3266, .int z7]) rfl ?_
      obtain ⟨hb13, hm⟩ := am_gE hm
      refine ms_iald (n := 64) (am_fd ck_X9_drawn (pc := 82) rfl) kc_3266 hb13 ?_
      refine am_steps ck_X9_drawn 4 (pc' := 62) (lv' := [(8, .int (z8 + am_i 1)), (7, .int (z7 - (m 3266 (am_ix z8)))), (0, .ref 3261), (2, .int y2), (3, .int y3), (4, .int y4), (5, .int y5), (6, .int y6)]) (st' := []) rfl ?_
      refine am_subp [2, 3, 4, 5, 6, 7, 1, 0] rfl ?_
      exact ih _ _ hm K
set_option maxRecDepth 100000 in
set_option maxHeartbeats 4000000 in
theorem x_X9_drawn_40 {G : am_G} {x1 : Int32} {x2 : Int32} {x3 : Int32} {r : am_rr} {y2 : Int32} {y3 : Int32} {res : Int32 × am_m} {k : Int32 → am_m → Option (Int32 × am_m)} (hL : am_Lay r) : ∀ (n : Nat) (z4 : Int32) (z5 : Int32) (z6 : Int32) (m : am_m), m_X9_drawn_40 x1 x2 x3 y2 y3 k n z4 z5 z6 m = some res → (∀ (u5 : Int32) (m1 : am_m), k u5 m1 = some res → am_W G mt_X9_drawn 3 (some (.int res.1)) (am_hh res.2 r) 128 [(5, .int u5)] [] (am_hh m1 r)) → am_W G mt_X9_drawn 3 (some (.int res.1)) (am_hh res.2 r) 40 [(0, .ref 3261), (2, .int y2), (3, .int y3), (4, .int z4), (5, .int z5), (6, .int z6)] [] (am_hh m r) := by
  intro n
  induction n with
  | zero => intro z4 z5 z6 m hm K; cases hm
  | succ n ih =>
    intro z4 z5 z6 m hm K
    unfold m_X9_drawn_40 at hm
    refine am_steps ck_X9_drawn 2 (pc' := 43) (lv' := [(0, .ref 3261), (2, .int y2), (3, .int y3), (4, .int z4), (5, .int z5), (6, .int z6)]) (st' := [.int y2, .int z6]) rfl ?_
    refine am_icmp (tgt := 128) (am_fd ck_X9_drawn (pc := 43) rfl) rfl (fun hc8 => ?_) (fun hc8 => ?_)
    · replace hm := am_it hm hc8
      refine am_subp [4] rfl ?_
      exact K _ _ hm
    · replace hm := am_if hm hc8
      refine am_steps ck_X9_drawn 1 (pc' := 48) (lv' := [(0, .ref 3261), (2, .int y2), (3, .int y3), (4, .int z4), (5, .int z5), (6, .int z6)]) (st' := [.int z4]) rfl ?_
      refine am_ifc (tgt := 128) (am_fd ck_X9_drawn (pc := 48) rfl) rfl (fun hc9 => ?_) (fun hc9 => ?_)
      · replace hm := am_it hm hc9
        refine am_subp [4] rfl ?_
        exact K _ _ hm
      · replace hm := am_if hm hc9
        refine am_steps ck_X9_drawn 2 (pc' := 54) (lv' := [(0, .ref 3261), (2, .int y2), (3, .int y3), (4, .int z4), (5, .int z5), (6, .int z6)]) (st' := [.int z4, .ref 3261]) rfl ?_
        obtain ⟨q10, hq10, hm⟩ := am_bE hm
        refine ms_callV (M2 := mt_X9_draw) (d2 := 1) (ci := 7) [.int z4] (am_fd ck_X9_drawn (pc := 54) rfl) ok_X9_draw tw_1278 tw_1280 ts_70 (by decide) kc_3261 (Nat.le_of_ble_eq_true rfl) (Nat.le_of_ble_eq_true rfl) (x_X9_draw hL hq10) ?_
        refine am_steps ck_X9_drawn 3 (pc' := 62) (lv' := [(8, .int (am_i 0)), (7, .int q10.1), (0, .ref 3261), (2, .int y2), (3, .int y3), (4, .int z4), (5, .int z5), (6, .int z6)]) (st' := []) rfl ?_
        refine am_subp [2, 3, 4, 5, 6, 7, 1, 0] rfl ?_
        refine x_X9_drawn_62 hL am_F _ _ hm (fun u14 hm => ?_)
        refine am_steps ck_X9_drawn 1 (pc' := 93) (lv' := [(0, .ref 3261), (2, .int y2), (3, .int y3), (4, .int z4), (5, .int z5), (6, .int z6), (8, .int u14)]) (st' := [.ref 3261]) rfl ?_
        refine ms_getr (ci := 7) (k := 6) (v := 3266) (am_fd ck_X9_drawn (pc := 93) rfl) tw_881 kc_3261 rfl (ly_3261_6 hL) kc_3266 ?_
        refine am_steps ck_X9_drawn 2 (pc' := 99) (lv' := [(0, .ref 3261), (2, .int y2), (3, .int y3), (4, .int z4), (5, .int z5), (6, .int z6), (8, .int u14)]) (st' := [.int u14, .ref 3266, .int u14, .ref 3266]) rfl ?_
        obtain ⟨hb15, hm⟩ := am_gE hm
        refine ms_iald (n := 64) (am_fd ck_X9_drawn (pc := 99) rfl) kc_3266 hb15 ?_
        refine am_steps ck_X9_drawn 2 (pc' := 102) (lv' := [(0, .ref 3261), (2, .int y2), (3, .int y3), (4, .int z4), (5, .int z5), (6, .int z6), (8, .int u14)]) (st' := [.int ((q10.2 3266 (am_ix u14)) - (am_i 1)), .int u14, .ref 3266]) rfl ?_
        obtain ⟨hb16, hm⟩ := am_gE hm
        refine ms_iast (n := 64) (am_fd ck_X9_drawn (pc := 102) rfl) kc_3266 hb16 (fun m17 em17 => ?_)
        replace hm := am_letE em17 hm
        refine am_steps ck_X9_drawn 4 (pc' := 111) (lv' := [(4, .int (z4 + am_i (-1))), (0, .ref 3261), (2, .int y2), (3, .int y3), (5, .int z5), (6, .int z6), (8, .int u14)]) (st' := [.int y3, .int u14, .int z5]) rfl ?_
        refine am_icmp (tgt := 118) (am_fd ck_X9_drawn (pc := 111) rfl) rfl (fun hc18 => ?_) (fun hc18 => ?_)
        · replace hm := am_it hm hc18
          refine am_steps ck_X9_drawn 5 (pc' := 40) (lv' := [(6, .int (z6 + am_i 1)), (5, .int (z5 + (am_i 0))), (4, .int (z4 + am_i (-1))), (0, .ref 3261), (2, .int y2), (3, .int y3), (8, .int u14)]) (st' := []) rfl ?_
          refine am_subp [3, 4, 5, 2, 1, 0] rfl ?_
          exact ih _ _ _ _ hm K
        · replace hm := am_if hm hc18
          refine am_steps ck_X9_drawn 6 (pc' := 40) (lv' := [(6, .int (z6 + am_i 1)), (5, .int (z5 + (am_i 1))), (4, .int (z4 + am_i (-1))), (0, .ref 3261), (2, .int y2), (3, .int y3), (8, .int u14)]) (st' := []) rfl ?_
          refine am_subp [3, 4, 5, 2, 1, 0] rfl ?_
          exact ih _ _ _ _ hm K
set_option maxRecDepth 100000 in
set_option maxHeartbeats 4000000 in
theorem x_X9_drawn {G : am_G} {m : am_m} {r : am_rr} {x1 : Int32} {x2 : Int32} {x3 : Int32} {res : Int32 × am_m} (hL : am_Lay r) (hm : m_X9_drawn m x1 x2 x3 = some res) : am_Met G mt_X9_drawn 3 [.ref 3261, .int x1, .int x2, .int x3] (am_hh m r) (some (.int res.1)) (am_hh res.2 r) := by
  refine am_of (by decide) (Nat.le_of_ble_eq_true rfl) ?_
  unfold m_X9_drawn at hm
  show am_W G mt_X9_drawn 3 _ _ 0 [(0, .ref 3261), (1, .int x1), (2, .int x2), (3, .int x3)] [] (am_hh m r)
  refine am_steps ck_X9_drawn 2 (pc' := 2) (lv' := [(0, .ref 3261), (1, .int x1), (2, .int x2), (3, .int x3)]) (st' := [.int x1, .ref 3261]) rfl ?_
  obtain ⟨q1, hq1, hm⟩ := am_bE hm
  refine ms_callV (M2 := mt_X9_isUnit) (d2 := 2) (ci := 7) [.int x1] (am_fd ck_X9_drawn (pc := 2) rfl) ok_X9_isUnit tw_949 tw_951 ts_28 (by decide) kc_3261 (Nat.le_of_ble_eq_true rfl) (Nat.le_of_ble_eq_true rfl) (x_X9_isUnit hL hq1) ?_
  refine am_ifc (tgt := 25) (am_fd ck_X9_drawn (pc := 5) rfl) rfl (fun hc2 => ?_) (fun hc2 => ?_)
  · replace hm := am_it hm hc2
    refine am_steps ck_X9_drawn 1 (pc' := 26) (lv' := [(0, .ref 3261), (1, .int x1), (2, .int x2), (3, .int x3)]) (st' := [.int (am_i (-1))]) rfl ?_
    cases hm
    exact am_end (am_fd ck_X9_drawn (pc := 26) rfl) am_rI rfl rfl
  · replace hm := am_if hm hc2
    refine am_steps ck_X9_drawn 3 (pc' := 12) (lv' := [(0, .ref 3261), (1, .int x1), (2, .int x2), (3, .int x3)]) (st' := [.int (am_i 50), .int (am_i 1), .int x2]) rfl ?_
    obtain ⟨q3, hq3, hm⟩ := am_bE hm
    refine ms_callS (M2 := mt_X9_isIn) (d2 := 1) [.int x2, .int (am_i 1), .int (am_i 50)] (am_fd ck_X9_drawn (pc := 12) rfl) ok_X9_isIn tw_953 tw_954 (Nat.le_of_ble_eq_true rfl) (Nat.le_of_ble_eq_true rfl) (x_X9_isIn hL hq3) ?_
    refine am_ifc (tgt := 25) (am_fd ck_X9_drawn (pc := 15) rfl) rfl (fun hc4 => ?_) (fun hc4 => ?_)
    · replace hm := am_it hm hc4
      refine am_steps ck_X9_drawn 1 (pc' := 26) (lv' := [(0, .ref 3261), (1, .int x1), (2, .int x2), (3, .int x3)]) (st' := [.int (am_i (-1))]) rfl ?_
      cases hm
      exact am_end (am_fd ck_X9_drawn (pc := 26) rfl) am_rI rfl rfl
    · replace hm := am_if hm hc4
      refine am_steps ck_X9_drawn 1 (pc' := 19) (lv' := [(0, .ref 3261), (1, .int x1), (2, .int x2), (3, .int x3)]) (st' := [.int x3]) rfl ?_
      obtain ⟨q5, hq5, hm⟩ := am_bE hm
      refine ms_callS (M2 := mt_X9_isCategory) (d2 := 2) [.int x3] (am_fd ck_X9_drawn (pc := 19) rfl) ok_X9_isCategory tw_956 tw_957 (Nat.le_of_ble_eq_true rfl) (Nat.le_of_ble_eq_true rfl) (x_X9_isCategory hL hq5) ?_
      refine am_ifc (tgt := 27) (am_fd ck_X9_drawn (pc := 22) rfl) rfl (fun hc6 => ?_) (fun hc6 => ?_)
      · replace hm := am_it hm hc6
        refine am_steps ck_X9_drawn 2 (pc' := 29) (lv' := [(0, .ref 3261), (1, .int x1), (2, .int x2), (3, .int x3)]) (st' := [.int x1, .ref 3261]) rfl ?_
        obtain ⟨q7, hq7, hm⟩ := am_bE hm
        refine ms_callV (M2 := mt_X9_allOf) (d2 := 2) (ci := 7) [.int x1] (am_fd ck_X9_drawn (pc := 29) rfl) ok_X9_allOf tw_1221 tw_1223 ts_67 (by decide) kc_3261 (Nat.le_of_ble_eq_true rfl) (Nat.le_of_ble_eq_true rfl) (x_X9_allOf hL hq7) ?_
        refine am_steps ck_X9_drawn 5 (pc' := 40) (lv' := [(6, .int (am_i 0)), (5, .int (am_i 0)), (4, .int q7.1), (0, .ref 3261), (1, .int x1), (2, .int x2), (3, .int x3)]) (st' := []) rfl ?_
        refine am_subp [3, 5, 6, 2, 1, 0] rfl ?_
        refine x_X9_drawn_40 hL am_F _ _ _ _ hm (fun u19 m20 hm => ?_)
        refine am_steps ck_X9_drawn 1 (pc' := 130) (lv' := [(5, .int u19)]) (st' := [.int u19]) rfl ?_
        cases hm
        exact am_end (am_fd ck_X9_drawn (pc := 130) rfl) am_rI rfl rfl
      · replace hm := am_if hm hc6
        refine am_steps ck_X9_drawn 1 (pc' := 26) (lv' := [(0, .ref 3261), (1, .int x1), (2, .int x2), (3, .int x3)]) (st' := [.int (am_i (-1))]) rfl ?_
        cases hm
        exact am_end (am_fd ck_X9_drawn (pc := 26) rfl) am_rI rfl rfl
set_option maxRecDepth 100000 in
set_option maxHeartbeats 4000000 in
theorem x_X9_percent_36 {G : am_G} {x1 : Int32} {x2 : Int32} {m : am_m} {r : am_rr} {y2 : Int32} {y3 : Int32} {res : Int32 × am_m} {k : Int32 → Option (Int32 × am_m)} (hL : am_Lay r) : ∀ (n : Nat) (z4 : Int32) (z5 : Int32), m_X9_percent_36 x1 x2 m y2 y3 k n z4 z5 = some res → (∀ (u4 : Int32), k u4 = some res → am_W G mt_X9_percent 3 (some (.int res.1)) (am_hh res.2 r) 66 [(0, .ref 3261), (2, .int y2), (3, .int y3), (4, .int u4)] [] (am_hh m r)) → am_W G mt_X9_percent 3 (some (.int res.1)) (am_hh res.2 r) 36 [(0, .ref 3261), (2, .int y2), (3, .int y3), (4, .int z4), (5, .int z5)] [] (am_hh m r) := by
  intro n
  induction n with
  | zero => intro z4 z5 hm K; cases hm
  | succ n ih =>
    intro z4 z5 hm K
    unfold m_X9_percent_36 at hm
    refine am_steps ck_X9_percent 2 (pc' := 40) (lv' := [(0, .ref 3261), (2, .int y2), (3, .int y3), (4, .int z4), (5, .int z5)]) (st' := [.int (am_i 64), .int z5]) rfl ?_
    refine am_icmp (tgt := 66) (am_fd ck_X9_percent (pc := 40) rfl) rfl (fun hc7 => ?_) (fun hc7 => ?_)
    · replace hm := am_it hm hc7
      refine am_subp [0, 1, 2, 3] rfl ?_
      exact K _ hm
    · replace hm := am_if hm hc7
      refine am_steps ck_X9_percent 3 (pc' := 48) (lv' := [(0, .ref 3261), (2, .int y2), (3, .int y3), (4, .int z4), (5, .int z5)]) (st' := [.ref 3261, .int (am_i 100), .int z4]) rfl ?_
      refine ms_getr (ci := 7) (k := 6) (v := 3266) (am_fd ck_X9_percent (pc := 48) rfl) tw_881 kc_3261 rfl (ly_3261_6 hL) kc_3266 ?_
      refine am_steps ck_X9_percent 1 (pc' := 53) (lv' := [(0, .ref 3261), (2, .int y2), (3, .int y3), (4, .int z4), (5, .int z5)]) (st' := [.int z5, .ref 3266, .int (am_i 100), .int z4]) rfl ?_
      obtain ⟨hb8, hm⟩ := am_gE hm
      refine ms_iald (n := 64) (am_fd ck_X9_percent (pc := 53) rfl) kc_3266 hb8 ?_
      refine am_steps ck_X9_percent 2 (pc' := 56) (lv' := [(0, .ref 3261), (2, .int y2), (3, .int y3), (4, .int z4), (5, .int z5)]) (st' := [.int y3, .int ((am_i 100) * (m 3266 (am_ix z5))), .int z4]) rfl ?_
      obtain ⟨hb9, hm⟩ := am_gE hm
      refine am_idiv (am_fd ck_X9_percent (pc := 56) rfl) (am_nzE hb9) ?_
      refine am_steps ck_X9_percent 4 (pc' := 36) (lv' := [(5, .int (z5 + am_i 1)), (4, .int (z4 - (((am_i 100) * (m 3266 (am_ix z5))) / y3))), (0, .ref 3261), (2, .int y2), (3, .int y3)]) (st' := []) rfl ?_
      refine am_subp [2, 3, 4, 1, 0] rfl ?_
      exact ih _ _ hm K
set_option maxRecDepth 100000 in
set_option maxHeartbeats 4000000 in
theorem x_X9_percent_85 {G : am_G} {x1 : Int32} {x2 : Int32} {m : am_m} {r : am_rr} {y2 : Int32} {y3 : Int32} {y4 : Int32} {y6 : Int32} {res : Int32 × am_m} {k : Int32 → Option (Int32 × am_m)} (hL : am_Lay r) : ∀ (n : Nat) (z5 : Int32) (z7 : Int32), m_X9_percent_85 x1 x2 m y2 y3 y4 y6 k n z5 z7 = some res → (∀ (u5 : Int32), k u5 = some res → am_W G mt_X9_percent 3 (some (.int res.1)) (am_hh res.2 r) 142 [(0, .ref 3261), (2, .int y2), (3, .int y3), (4, .int y4), (5, .int u5)] [] (am_hh m r)) → am_W G mt_X9_percent 3 (some (.int res.1)) (am_hh res.2 r) 85 [(0, .ref 3261), (2, .int y2), (3, .int y3), (4, .int y4), (5, .int z5), (6, .int y6), (7, .int z7)] [] (am_hh m r) := by
  intro n
  induction n with
  | zero => intro z5 z7 hm K; cases hm
  | succ n ih =>
    intro z5 z7 hm K
    unfold m_X9_percent_85 at hm
    refine am_steps ck_X9_percent 2 (pc' := 89) (lv' := [(0, .ref 3261), (2, .int y2), (3, .int y3), (4, .int y4), (5, .int z5), (6, .int y6), (7, .int z7)]) (st' := [.int (am_i 64), .int z7]) rfl ?_
    refine am_icmp (tgt := 142) (am_fd ck_X9_percent (pc := 89) rfl) rfl (fun hc13 => ?_) (fun hc13 => ?_)
    · replace hm := am_it hm hc13
      refine am_subp [0, 1, 2, 3, 4] rfl ?_
      exact K _ hm
    · replace hm := am_if hm hc13
      refine am_steps ck_X9_percent 2 (pc' := 95) (lv' := [(0, .ref 3261), (2, .int y2), (3, .int y3), (4, .int y4), (5, .int z5), (6, .int y6), (7, .int z7)]) (st' := [.ref 3261, .int (am_i 100)]) rfl ?_
      refine ms_getr (ci := 7) (k := 6) (v := 3266) (am_fd ck_X9_percent (pc := 95) rfl) tw_881 kc_3261 rfl (ly_3261_6 hL) kc_3266 ?_
      refine am_steps ck_X9_percent 1 (pc' := 100) (lv' := [(0, .ref 3261), (2, .int y2), (3, .int y3), (4, .int y4), (5, .int z5), (6, .int y6), (7, .int z7)]) (st' := [.int z7, .ref 3266, .int (am_i 100)]) rfl ?_
      obtain ⟨hb14, hm⟩ := am_gE hm
      refine ms_iald (n := 64) (am_fd ck_X9_percent (pc := 100) rfl) kc_3266 hb14 ?_
      refine am_steps ck_X9_percent 2 (pc' := 103) (lv' := [(0, .ref 3261), (2, .int y2), (3, .int y3), (4, .int y4), (5, .int z5), (6, .int y6), (7, .int z7)]) (st' := [.int y3, .int ((am_i 100) * (m 3266 (am_ix z7)))]) rfl ?_
      obtain ⟨hb15, hm⟩ := am_gE hm
      refine am_irem (am_fd ck_X9_percent (pc := 103) rfl) (am_nzE hb15) ?_
      refine am_steps ck_X9_percent 4 (pc' := 112) (lv' := [(8, .int (((am_i 100) * (m 3266 (am_ix z7))) - ((am_i 100) * (m 3266 (am_ix z7))) / y3 * y3)), (0, .ref 3261), (2, .int y2), (3, .int y3), (4, .int y4), (5, .int z5), (6, .int y6), (7, .int z7)]) (st' := [.int y6, .int (((am_i 100) * (m 3266 (am_ix z7))) - ((am_i 100) * (m 3266 (am_ix z7))) / y3 * y3), .int z5]) rfl ?_
      refine am_icmp (tgt := 128) (am_fd ck_X9_percent (pc := 112) rfl) rfl (fun hc16 => ?_) (fun hc16 => ?_)
      · replace hm := am_it hm hc16
        refine am_steps ck_X9_percent 6 (pc' := 85) (lv' := [(7, .int (z7 + am_i 1)), (5, .int (z5 + (am_i 1))), (8, .int (((am_i 100) * (m 3266 (am_ix z7))) - ((am_i 100) * (m 3266 (am_ix z7))) / y3 * y3)), (0, .ref 3261), (2, .int y2), (3, .int y3), (4, .int y4), (6, .int y6)]) (st' := []) rfl ?_
        refine am_subp [3, 4, 5, 6, 1, 7, 0] rfl ?_
        exact ih _ _ hm K
      · replace hm := am_if hm hc16
        refine am_steps ck_X9_percent 2 (pc' := 119) (lv' := [(8, .int (((am_i 100) * (m 3266 (am_ix z7))) - ((am_i 100) * (m 3266 (am_ix z7))) / y3 * y3)), (0, .ref 3261), (2, .int y2), (3, .int y3), (4, .int y4), (5, .int z5), (6, .int y6), (7, .int z7)]) (st' := [.int y6, .int (((am_i 100) * (m 3266 (am_ix z7))) - ((am_i 100) * (m 3266 (am_ix z7))) / y3 * y3), .int z5]) rfl ?_
        refine am_icmp (tgt := 132) (am_fd ck_X9_percent (pc := 119) rfl) rfl (fun hc17 => ?_) (fun hc17 => ?_)
        · replace hm := am_it hm hc17
          refine am_steps ck_X9_percent 5 (pc' := 85) (lv' := [(7, .int (z7 + am_i 1)), (5, .int (z5 + (am_i 0))), (8, .int (((am_i 100) * (m 3266 (am_ix z7))) - ((am_i 100) * (m 3266 (am_ix z7))) / y3 * y3)), (0, .ref 3261), (2, .int y2), (3, .int y3), (4, .int y4), (6, .int y6)]) (st' := []) rfl ?_
          refine am_subp [3, 4, 5, 6, 1, 7, 0] rfl ?_
          exact ih _ _ hm K
        · replace hm := am_if hm hc17
          refine am_steps ck_X9_percent 2 (pc' := 125) (lv' := [(8, .int (((am_i 100) * (m 3266 (am_ix z7))) - ((am_i 100) * (m 3266 (am_ix z7))) / y3 * y3)), (0, .ref 3261), (2, .int y2), (3, .int y3), (4, .int y4), (5, .int z5), (6, .int y6), (7, .int z7)]) (st' := [.int y2, .int z7, .int z5]) rfl ?_
          refine am_icmp (tgt := 132) (am_fd ck_X9_percent (pc := 125) rfl) rfl (fun hc18 => ?_) (fun hc18 => ?_)
          · replace hm := am_it hm hc18
            refine am_steps ck_X9_percent 5 (pc' := 85) (lv' := [(7, .int (z7 + am_i 1)), (5, .int (z5 + (am_i 0))), (8, .int (((am_i 100) * (m 3266 (am_ix z7))) - ((am_i 100) * (m 3266 (am_ix z7))) / y3 * y3)), (0, .ref 3261), (2, .int y2), (3, .int y3), (4, .int y4), (6, .int y6)]) (st' := []) rfl ?_
            refine am_subp [3, 4, 5, 6, 1, 7, 0] rfl ?_
            exact ih _ _ hm K
          · replace hm := am_if hm hc18
            refine am_steps ck_X9_percent 6 (pc' := 85) (lv' := [(7, .int (z7 + am_i 1)), (5, .int (z5 + (am_i 1))), (8, .int (((am_i 100) * (m 3266 (am_ix z7))) - ((am_i 100) * (m 3266 (am_ix z7))) / y3 * y3)), (0, .ref 3261), (2, .int y2), (3, .int y3), (4, .int y4), (6, .int y6)]) (st' := []) rfl ?_
            refine am_subp [3, 4, 5, 6, 1, 7, 0] rfl ?_
            exact ih _ _ hm K
set_option maxRecDepth 100000 in
set_option maxHeartbeats 4000000 in
theorem x_X9_percent {G : am_G} {m : am_m} {r : am_rr} {x1 : Int32} {x2 : Int32} {res : Int32 × am_m} (hL : am_Lay r) (hm : m_X9_percent m x1 x2 = some res) : am_Met G mt_X9_percent 3 [.ref 3261, .int x1, .int x2] (am_hh m r) (some (.int res.1)) (am_hh res.2 r) := by
  refine am_of (by decide) (Nat.le_of_ble_eq_true rfl) ?_
  unfold m_X9_percent at hm
  show am_W G mt_X9_percent 3 _ _ 0 [(0, .ref 3261), (1, .int x1), (2, .int x2)] [] (am_hh m r)
  refine am_steps ck_X9_percent 2 (pc' := 2) (lv' := [(0, .ref 3261), (1, .int x1), (2, .int x2)]) (st' := [.int x1, .ref 3261]) rfl ?_
  obtain ⟨q1, hq1, hm⟩ := am_bE hm
  refine ms_callV (M2 := mt_X9_isUnit) (d2 := 2) (ci := 7) [.int x1] (am_fd ck_X9_percent (pc := 2) rfl) ok_X9_isUnit tw_949 tw_951 ts_28 (by decide) kc_3261 (Nat.le_of_ble_eq_true rfl) (Nat.le_of_ble_eq_true rfl) (x_X9_isUnit hL hq1) ?_
  refine am_ifc (tgt := 15) (am_fd ck_X9_percent (pc := 5) rfl) rfl (fun hc2 => ?_) (fun hc2 => ?_)
  · replace hm := am_it hm hc2
    refine am_steps ck_X9_percent 1 (pc' := 16) (lv' := [(0, .ref 3261), (1, .int x1), (2, .int x2)]) (st' := [.int (am_i (-1))]) rfl ?_
    cases hm
    exact am_end (am_fd ck_X9_percent (pc := 16) rfl) am_rI rfl rfl
  · replace hm := am_if hm hc2
    refine am_steps ck_X9_percent 1 (pc' := 9) (lv' := [(0, .ref 3261), (1, .int x1), (2, .int x2)]) (st' := [.int x2]) rfl ?_
    obtain ⟨q3, hq3, hm⟩ := am_bE hm
    refine ms_callS (M2 := mt_X9_isCategory) (d2 := 2) [.int x2] (am_fd ck_X9_percent (pc := 9) rfl) ok_X9_isCategory tw_956 tw_957 (Nat.le_of_ble_eq_true rfl) (Nat.le_of_ble_eq_true rfl) (x_X9_isCategory hL hq3) ?_
    refine am_ifc (tgt := 17) (am_fd ck_X9_percent (pc := 12) rfl) rfl (fun hc4 => ?_) (fun hc4 => ?_)
    · replace hm := am_it hm hc4
      refine am_steps ck_X9_percent 2 (pc' := 19) (lv' := [(0, .ref 3261), (1, .int x1), (2, .int x2)]) (st' := [.int x1, .ref 3261]) rfl ?_
      obtain ⟨q5, hq5, hm⟩ := am_bE hm
      refine ms_callV (M2 := mt_X9_allOf) (d2 := 2) (ci := 7) [.int x1] (am_fd ck_X9_percent (pc := 19) rfl) ok_X9_allOf tw_1221 tw_1223 ts_67 (by decide) kc_3261 (Nat.le_of_ble_eq_true rfl) (Nat.le_of_ble_eq_true rfl) (x_X9_allOf hL hq5) ?_
      refine am_steps ck_X9_percent 2 (pc' := 24) (lv' := [(3, .int q5.1), (0, .ref 3261), (1, .int x1), (2, .int x2)]) (st' := [.int q5.1]) rfl ?_
      refine am_ifc (tgt := 29) (am_fd ck_X9_percent (pc := 24) rfl) rfl (fun hc6 => ?_) (fun hc6 => ?_)
      · replace hm := am_it hm hc6
        refine am_steps ck_X9_percent 4 (pc' := 36) (lv' := [(5, .int (am_i 0)), (4, .int (am_i 100)), (3, .int q5.1), (0, .ref 3261), (1, .int x1), (2, .int x2)]) (st' := []) rfl ?_
        refine am_subp [3, 5, 2, 1, 0] rfl ?_
        refine x_X9_percent_36 hL am_F _ _ hm (fun u10 hm => ?_)
        refine am_steps ck_X9_percent 4 (pc' := 72) (lv' := [(5, .int (am_i 0)), (0, .ref 3261), (2, .int x2), (3, .int q5.1), (4, .int u10)]) (st' := [.ref 3261, .int (am_i 100)]) rfl ?_
        refine ms_getr (ci := 7) (k := 6) (v := 3266) (am_fd ck_X9_percent (pc := 72) rfl) tw_881 kc_3261 rfl (ly_3261_6 hL) kc_3266 ?_
        refine am_steps ck_X9_percent 1 (pc' := 76) (lv' := [(5, .int (am_i 0)), (0, .ref 3261), (2, .int x2), (3, .int q5.1), (4, .int u10)]) (st' := [.int x2, .ref 3266, .int (am_i 100)]) rfl ?_
        obtain ⟨hb11, hm⟩ := am_gE hm
        refine ms_iald (n := 64) (am_fd ck_X9_percent (pc := 76) rfl) kc_3266 hb11 ?_
        refine am_steps ck_X9_percent 2 (pc' := 79) (lv' := [(5, .int (am_i 0)), (0, .ref 3261), (2, .int x2), (3, .int q5.1), (4, .int u10)]) (st' := [.int q5.1, .int ((am_i 100) * (q5.2 3266 (am_ix x2)))]) rfl ?_
        obtain ⟨hb12, hm⟩ := am_gE hm
        refine am_irem (am_fd ck_X9_percent (pc := 79) rfl) (am_nzE hb12) ?_
        refine am_steps ck_X9_percent 3 (pc' := 85) (lv' := [(7, .int (am_i 0)), (6, .int (((am_i 100) * (q5.2 3266 (am_ix x2))) - ((am_i 100) * (q5.2 3266 (am_ix x2))) / q5.1 * q5.1)), (5, .int (am_i 0)), (0, .ref 3261), (2, .int x2), (3, .int q5.1), (4, .int u10)]) (st' := []) rfl ?_
        refine am_subp [3, 4, 5, 6, 2, 1, 0] rfl ?_
        refine x_X9_percent_85 hL am_F _ _ hm (fun u19 hm => ?_)
        refine am_steps ck_X9_percent 2 (pc' := 145) (lv' := [(0, .ref 3261), (2, .int x2), (3, .int q5.1), (4, .int u10), (5, .int u19)]) (st' := [.ref 3261, .int (am_i 100)]) rfl ?_
        refine ms_getr (ci := 7) (k := 6) (v := 3266) (am_fd ck_X9_percent (pc := 145) rfl) tw_881 kc_3261 rfl (ly_3261_6 hL) kc_3266 ?_
        refine am_steps ck_X9_percent 1 (pc' := 149) (lv' := [(0, .ref 3261), (2, .int x2), (3, .int q5.1), (4, .int u10), (5, .int u19)]) (st' := [.int x2, .ref 3266, .int (am_i 100)]) rfl ?_
        obtain ⟨hb20, hm⟩ := am_gE hm
        refine ms_iald (n := 64) (am_fd ck_X9_percent (pc := 149) rfl) kc_3266 hb20 ?_
        refine am_steps ck_X9_percent 2 (pc' := 152) (lv' := [(0, .ref 3261), (2, .int x2), (3, .int q5.1), (4, .int u10), (5, .int u19)]) (st' := [.int q5.1, .int ((am_i 100) * (q5.2 3266 (am_ix x2)))]) rfl ?_
        obtain ⟨hb21, hm⟩ := am_gE hm
        refine am_idiv (am_fd ck_X9_percent (pc := 152) rfl) (am_nzE hb21) ?_
        refine am_steps ck_X9_percent 2 (pc' := 157) (lv' := [(0, .ref 3261), (2, .int x2), (3, .int q5.1), (4, .int u10), (5, .int u19)]) (st' := [.int u10, .int u19, .int (((am_i 100) * (q5.2 3266 (am_ix x2))) / q5.1)]) rfl ?_
        refine am_icmp (tgt := 164) (am_fd ck_X9_percent (pc := 157) rfl) rfl (fun hc22 => ?_) (fun hc22 => ?_)
        · replace hm := am_it hm hc22
          refine am_steps ck_X9_percent 2 (pc' := 166) (lv' := [(0, .ref 3261), (2, .int x2), (3, .int q5.1), (4, .int u10), (5, .int u19)]) (st' := [.int ((((am_i 100) * (q5.2 3266 (am_ix x2))) / q5.1) + (am_i 0))]) rfl ?_
          cases hm
          exact am_end (am_fd ck_X9_percent (pc := 166) rfl) am_rI rfl rfl
        · replace hm := am_if hm hc22
          refine am_steps ck_X9_percent 3 (pc' := 166) (lv' := [(0, .ref 3261), (2, .int x2), (3, .int q5.1), (4, .int u10), (5, .int u19)]) (st' := [.int ((((am_i 100) * (q5.2 3266 (am_ix x2))) / q5.1) + (am_i 1))]) rfl ?_
          cases hm
          exact am_end (am_fd ck_X9_percent (pc := 166) rfl) am_rI rfl rfl
      · replace hm := am_if hm hc6
        refine am_steps ck_X9_percent 1 (pc' := 28) (lv' := [(3, .int q5.1), (0, .ref 3261), (1, .int x1), (2, .int x2)]) (st' := [.int (am_i 0)]) rfl ?_
        cases hm
        exact am_end (am_fd ck_X9_percent (pc := 28) rfl) am_rI rfl rfl
    · replace hm := am_if hm hc4
      refine am_steps ck_X9_percent 1 (pc' := 16) (lv' := [(0, .ref 3261), (1, .int x1), (2, .int x2)]) (st' := [.int (am_i (-1))]) rfl ?_
      cases hm
      exact am_end (am_fd ck_X9_percent (pc := 16) rfl) am_rI rfl rfl
set_option maxRecDepth 100000 in
set_option maxHeartbeats 4000000 in
theorem x_X9_isPart {G : am_G} {m : am_m} {r : am_rr} {x1 : Int32} {x2 : Int32} {res : Int32 × am_m} (hL : am_Lay r) (hm : m_X9_isPart m x1 x2 = some res) : am_Met G mt_X9_isPart 3 [.ref 3261, .int x1, .int x2] (am_hh m r) (some (.int res.1)) (am_hh res.2 r) := by
  refine am_of (by decide) (Nat.le_of_ble_eq_true rfl) ?_
  unfold m_X9_isPart at hm
  show am_W G mt_X9_isPart 3 _ _ 0 [(0, .ref 3261), (1, .int x1), (2, .int x2)] [] (am_hh m r)
  refine am_steps ck_X9_isPart 2 (pc' := 2) (lv' := [(0, .ref 3261), (1, .int x1), (2, .int x2)]) (st' := [.int x1, .ref 3261]) rfl ?_
  obtain ⟨q1, hq1, hm⟩ := am_bE hm
  refine ms_callV (M2 := mt_X9_isUnit) (d2 := 2) (ci := 7) [.int x1] (am_fd ck_X9_isPart (pc := 2) rfl) ok_X9_isUnit tw_949 tw_951 ts_28 (by decide) kc_3261 (Nat.le_of_ble_eq_true rfl) (Nat.le_of_ble_eq_true rfl) (x_X9_isUnit hL hq1) ?_
  refine am_ifc (tgt := 30) (am_fd ck_X9_isPart (pc := 5) rfl) rfl (fun hc2 => ?_) (fun hc2 => ?_)
  · replace hm := am_it hm hc2
    refine am_steps ck_X9_isPart 1 (pc' := 31) (lv' := [(0, .ref 3261), (1, .int x1), (2, .int x2)]) (st' := [.int (am_i 0)]) rfl ?_
    cases hm
    exact am_end (am_fd ck_X9_isPart (pc := 31) rfl) am_rZ0 rfl rfl
  · replace hm := am_if hm hc2
    refine am_steps ck_X9_isPart 3 (pc' := 12) (lv' := [(0, .ref 3261), (1, .int x1), (2, .int x2)]) (st' := [.int (am_i 100), .int (am_i 1), .int x2]) rfl ?_
    obtain ⟨q3, hq3, hm⟩ := am_bE hm
    refine ms_callS (M2 := mt_X9_isIn) (d2 := 1) [.int x2, .int (am_i 1), .int (am_i 100)] (am_fd ck_X9_isPart (pc := 12) rfl) ok_X9_isIn tw_953 tw_954 (Nat.le_of_ble_eq_true rfl) (Nat.le_of_ble_eq_true rfl) (x_X9_isIn hL hq3) ?_
    refine am_ifc (tgt := 30) (am_fd ck_X9_isPart (pc := 15) rfl) rfl (fun hc4 => ?_) (fun hc4 => ?_)
    · replace hm := am_it hm hc4
      refine am_steps ck_X9_isPart 1 (pc' := 31) (lv' := [(0, .ref 3261), (1, .int x1), (2, .int x2)]) (st' := [.int (am_i 0)]) rfl ?_
      cases hm
      exact am_end (am_fd ck_X9_isPart (pc := 31) rfl) am_rZ0 rfl rfl
    · replace hm := am_if hm hc4
      refine am_steps ck_X9_isPart 2 (pc' := 20) (lv' := [(0, .ref 3261), (1, .int x1), (2, .int x2)]) (st' := [.int x1, .ref 3261]) rfl ?_
      obtain ⟨q5, hq5, hm⟩ := am_bE hm
      refine ms_callV (M2 := mt_X9_allOf) (d2 := 2) (ci := 7) [.int x1] (am_fd ck_X9_isPart (pc := 20) rfl) ok_X9_allOf tw_1221 tw_1223 ts_67 (by decide) kc_3261 (Nat.le_of_ble_eq_true rfl) (Nat.le_of_ble_eq_true rfl) (x_X9_allOf hL hq5) ?_
      refine am_ifc (tgt := 30) (am_fd ck_X9_isPart (pc := 23) rfl) rfl (fun hc6 => ?_) (fun hc6 => ?_)
      · replace hm := am_it hm hc6
        refine am_steps ck_X9_isPart 1 (pc' := 31) (lv' := [(0, .ref 3261), (1, .int x1), (2, .int x2)]) (st' := [.int (am_i 0)]) rfl ?_
        cases hm
        exact am_end (am_fd ck_X9_isPart (pc := 31) rfl) am_rZ0 rfl rfl
      · replace hm := am_if hm hc6
        refine am_steps ck_X9_isPart 2 (pc' := 31) (lv' := [(0, .ref 3261), (1, .int x1), (2, .int x2)]) (st' := [.int (am_i 1)]) rfl ?_
        cases hm
        exact am_end (am_fd ck_X9_isPart (pc := 31) rfl) am_rZ1 rfl rfl
set_option maxRecDepth 100000 in
set_option maxHeartbeats 4000000 in
theorem x_X9_quantile_30 {G : am_G} {x1 : Int32} {x2 : Int32} {m : am_m} {r : am_rr} {y2 : Int32} {y3 : Int32} {res : Int32 × am_m} {k : Int32 → Option (Int32 × am_m)} (hL : am_Lay r) : ∀ (n : Nat) (z4 : Int32) (z5 : Int32), m_X9_quantile_30 x1 x2 m y2 y3 k n z4 z5 = some res → (∀ (u5 : Int32), k u5 = some res → am_W G mt_X9_quantile 4 (some (.int res.1)) (am_hh res.2 r) 59 [(5, .int u5)] [] (am_hh m r)) → am_W G mt_X9_quantile 4 (some (.int res.1)) (am_hh res.2 r) 30 [(0, .ref 3261), (2, .int y2), (3, .int y3), (4, .int z4), (5, .int z5)] [] (am_hh m r) := by
  intro n
  induction n with
  | zero => intro z4 z5 hm K; cases hm
  | succ n ih =>
    intro z4 z5 hm K
    unfold m_X9_quantile_30 at hm
    refine am_steps ck_X9_quantile 6 (pc' := 38) (lv' := [(0, .ref 3261), (2, .int y2), (3, .int y3), (4, .int z4), (5, .int z5)]) (st' := [.int (y2 * y3), .int ((am_i 100) * z4)]) rfl ?_
    refine am_icmp (tgt := 59) (am_fd ck_X9_quantile (pc := 38) rfl) rfl (fun hc5 => ?_) (fun hc5 => ?_)
    · replace hm := am_it hm hc5
      refine am_subp [4] rfl ?_
      exact K _ hm
    · replace hm := am_if hm hc5
      refine am_steps ck_X9_quantile 3 (pc' := 47) (lv' := [(5, .int (z5 + am_i 1)), (0, .ref 3261), (2, .int y2), (3, .int y3), (4, .int z4)]) (st' := [.ref 3261, .int z4]) rfl ?_
      refine ms_getr (ci := 7) (k := 6) (v := 3266) (am_fd ck_X9_quantile (pc := 47) rfl) tw_881 kc_3261 rfl (ly_3261_6 hL) kc_3266 ?_
      refine am_steps ck_X9_quantile 1 (pc' := 52) (lv' := [(5, .int (z5 + am_i 1)), (0, .ref 3261), (2, .int y2), (3, .int y3), (4, .int z4)]) (st' := [.int (z5 + am_i 1), .ref 3266, .int z4]) rfl ?_
      obtain ⟨hb6, hm⟩ := am_gE hm
      refine ms_iald (n := 64) (am_fd ck_X9_quantile (pc := 52) rfl) kc_3266 hb6 ?_
      refine am_steps ck_X9_quantile 3 (pc' := 30) (lv' := [(4, .int (z4 + (m 3266 (am_ix (z5 + am_i 1))))), (5, .int (z5 + am_i 1)), (0, .ref 3261), (2, .int y2), (3, .int y3)]) (st' := []) rfl ?_
      refine am_subp [2, 3, 4, 0, 1] rfl ?_
      exact ih _ _ hm K
set_option maxRecDepth 100000 in
set_option maxHeartbeats 4000000 in
theorem x_X9_quantile {G : am_G} {m : am_m} {r : am_rr} {x1 : Int32} {x2 : Int32} {res : Int32 × am_m} (hL : am_Lay r) (hm : m_X9_quantile m x1 x2 = some res) : am_Met G mt_X9_quantile 4 [.ref 3261, .int x1, .int x2] (am_hh m r) (some (.int res.1)) (am_hh res.2 r) := by
  refine am_of (by decide) (Nat.le_of_ble_eq_true rfl) ?_
  unfold m_X9_quantile at hm
  show am_W G mt_X9_quantile 4 _ _ 0 [(0, .ref 3261), (1, .int x1), (2, .int x2)] [] (am_hh m r)
  refine am_steps ck_X9_quantile 3 (pc' := 3) (lv' := [(0, .ref 3261), (1, .int x1), (2, .int x2)]) (st' := [.int x2, .int x1, .ref 3261]) rfl ?_
  obtain ⟨q1, hq1, hm⟩ := am_bE hm
  refine ms_callV (M2 := mt_X9_isPart) (d2 := 3) (ci := 7) [.int x1, .int x2] (am_fd ck_X9_quantile (pc := 3) rfl) ok_X9_isPart tw_1292 tw_1294 ts_71 (by decide) kc_3261 (Nat.le_of_ble_eq_true rfl) (Nat.le_of_ble_eq_true rfl) (x_X9_isPart hL hq1) ?_
  refine am_ifc (tgt := 11) (am_fd ck_X9_quantile (pc := 6) rfl) rfl (fun hc2 => ?_) (fun hc2 => ?_)
  · replace hm := am_it hm hc2
    refine am_steps ck_X9_quantile 1 (pc' := 12) (lv' := [(0, .ref 3261), (1, .int x1), (2, .int x2)]) (st' := [.ref 3261]) rfl ?_
    refine ms_getr (ci := 7) (k := 6) (v := 3266) (am_fd ck_X9_quantile (pc := 12) rfl) tw_881 kc_3261 rfl (ly_3261_6 hL) kc_3266 ?_
    obtain ⟨q3, hq3, hm⟩ := am_bE hm
    refine ms_callS (M2 := mt_X9_all) (d2 := 1) [.ref 3266] (am_fd ck_X9_quantile (pc := 15) rfl) ok_X9_all tw_1043 tw_1044 (Nat.le_of_ble_eq_true rfl) (Nat.le_of_ble_eq_true rfl) (x_X9_all hL kc_3266 hq3) ?_
    refine am_steps ck_X9_quantile 2 (pc' := 20) (lv' := [(3, .int q3), (0, .ref 3261), (1, .int x1), (2, .int x2)]) (st' := [.ref 3261]) rfl ?_
    refine ms_getr (ci := 7) (k := 6) (v := 3266) (am_fd ck_X9_quantile (pc := 20) rfl) tw_881 kc_3261 rfl (ly_3261_6 hL) kc_3266 ?_
    refine am_steps ck_X9_quantile 1 (pc' := 24) (lv' := [(3, .int q3), (0, .ref 3261), (1, .int x1), (2, .int x2)]) (st' := [.int (am_i 0), .ref 3266]) rfl ?_
    obtain ⟨hb4, hm⟩ := am_gE hm
    refine ms_iald (n := 64) (am_fd ck_X9_quantile (pc := 24) rfl) kc_3266 hb4 ?_
    refine am_steps ck_X9_quantile 3 (pc' := 30) (lv' := [(5, .int (am_i 0)), (4, .int (q1.2 3266 (am_ix (am_i 0)))), (3, .int q3), (0, .ref 3261), (1, .int x1), (2, .int x2)]) (st' := []) rfl ?_
    refine am_subp [3, 5, 2, 1, 0] rfl ?_
    refine x_X9_quantile_30 hL am_F _ _ hm (fun u7 hm => ?_)
    refine am_steps ck_X9_quantile 1 (pc' := 61) (lv' := [(5, .int u7)]) (st' := [.int u7]) rfl ?_
    cases hm
    exact am_end (am_fd ck_X9_quantile (pc := 61) rfl) am_rI rfl rfl
  · replace hm := am_if hm hc2
    refine am_steps ck_X9_quantile 1 (pc' := 10) (lv' := [(0, .ref 3261), (1, .int x1), (2, .int x2)]) (st' := [.int (am_i (-1))]) rfl ?_
    cases hm
    exact am_end (am_fd ck_X9_quantile (pc := 10) rfl) am_rI rfl rfl
set_option maxRecDepth 100000 in
set_option maxHeartbeats 4000000 in
theorem x_X9_few_25 {G : am_G} {x1 : Int32} {x2 : Int32} {m : am_m} {r : am_rr} {y1 : Int32} {y2 : Int32} {y3 : Int32} {res : Int32 × am_m} {k : Int32 → Option (Int32 × am_m)} (hL : am_Lay r) : ∀ (n : Nat) (z4 : Int32) (z5 : Int32), m_X9_few_25 x1 x2 m y1 y2 y3 k n z4 z5 = some res → (∀ (u5 : Int32), k u5 = some res → am_W G mt_X9_few 4 (some (.int res.1)) (am_hh res.2 r) 64 [(5, .int u5)] [] (am_hh m r)) → am_W G mt_X9_few 4 (some (.int res.1)) (am_hh res.2 r) 25 [(0, .ref 3261), (1, .int y1), (2, .int y2), (3, .int y3), (4, .int z4), (5, .int z5)] [] (am_hh m r) := by
  intro n
  induction n with
  | zero => intro z4 z5 hm K; cases hm
  | succ n ih =>
    intro z4 z5 hm K
    unfold m_X9_few_25 at hm
    refine am_steps ck_X9_few 6 (pc' := 33) (lv' := [(0, .ref 3261), (1, .int y1), (2, .int y2), (3, .int y3), (4, .int z4), (5, .int z5)]) (st' := [.int (y2 * y3), .int ((am_i 100) * z4)]) rfl ?_
    refine am_icmp (tgt := 64) (am_fd ck_X9_few (pc := 33) rfl) rfl (fun hc4 => ?_) (fun hc4 => ?_)
    · replace hm := am_it hm hc4
      refine am_subp [5] rfl ?_
      exact K _ hm
    · replace hm := am_if hm hc4
      refine am_steps ck_X9_few 2 (pc' := 39) (lv' := [(0, .ref 3261), (1, .int y1), (2, .int y2), (3, .int y3), (4, .int z4), (5, .int z5)]) (st' := [.ref 3261, .int z4]) rfl ?_
      refine ms_getr (ci := 7) (k := 0) (v := 3262) (am_fd ck_X9_few (pc := 39) rfl) tw_875 kc_3261 rfl (ly_3261_0 hL) kc_3262 ?_
      refine am_steps ck_X9_few 1 (pc' := 43) (lv' := [(0, .ref 3261), (1, .int y1), (2, .int y2), (3, .int y3), (4, .int z4), (5, .int z5)]) (st' := [.int y1, .ref 3262, .int z4]) rfl ?_
      obtain ⟨q5, hq5, hm⟩ := am_bE hm
      refine ms_callS (M2 := mt_X9_sumAt) (d2 := 1) [.int y1] (am_fd ck_X9_few (pc := 43) rfl) ok_X9_sumAt tw_982 tw_983 (Nat.le_of_ble_eq_true rfl) (Nat.le_of_ble_eq_true rfl) (x_X9_sumAt hL hq5) ?_
      refine am_steps ck_X9_few 3 (pc' := 50) (lv' := [(0, .ref 3261), (1, .int y1), (2, .int y2), (3, .int y3), (4, .int z4), (5, .int z5)]) (st' := [.int z5, .int y1, .ref 3261, .int q5, .ref 3262, .int z4]) rfl ?_
      obtain ⟨q6, hq6, hm⟩ := am_bE hm
      refine ms_callV (M2 := mt_X9_leaderOf) (d2 := 3) (ci := 7) [.int y1, .int z5] (am_fd ck_X9_few (pc := 50) rfl) ok_X9_leaderOf tw_1209 tw_1211 ts_65 (by decide) kc_3261 (Nat.le_of_ble_eq_true rfl) (Nat.le_of_ble_eq_true rfl) (x_X9_leaderOf hL hq6) ?_
      refine am_steps ck_X9_few 1 (pc' := 54) (lv' := [(0, .ref 3261), (1, .int y1), (2, .int y2), (3, .int y3), (4, .int z4), (5, .int z5)]) (st' := [.int (q5 + q6), .ref 3262, .int z4]) rfl ?_
      obtain ⟨hb7, hm⟩ := am_gE hm
      refine ms_iald (n := 15517) (am_fd ck_X9_few (pc := 54) rfl) kc_3262 hb7 ?_
      refine am_steps ck_X9_few 4 (pc' := 25) (lv' := [(5, .int (z5 + am_i 1)), (4, .int (z4 + (m 3262 (am_ix (q5 + q6))))), (0, .ref 3261), (1, .int y1), (2, .int y2), (3, .int y3)]) (st' := []) rfl ?_
      refine am_subp [2, 3, 4, 5, 1, 0] rfl ?_
      exact ih _ _ hm K
set_option maxRecDepth 100000 in
set_option maxHeartbeats 4000000 in
theorem x_X9_few {G : am_G} {m : am_m} {r : am_rr} {x1 : Int32} {x2 : Int32} {res : Int32 × am_m} (hL : am_Lay r) (hm : m_X9_few m x1 x2 = some res) : am_Met G mt_X9_few 4 [.ref 3261, .int x1, .int x2] (am_hh m r) (some (.int res.1)) (am_hh res.2 r) := by
  refine am_of (by decide) (Nat.le_of_ble_eq_true rfl) ?_
  unfold m_X9_few at hm
  show am_W G mt_X9_few 4 _ _ 0 [(0, .ref 3261), (1, .int x1), (2, .int x2)] [] (am_hh m r)
  refine am_steps ck_X9_few 3 (pc' := 3) (lv' := [(0, .ref 3261), (1, .int x1), (2, .int x2)]) (st' := [.int x2, .int x1, .ref 3261]) rfl ?_
  obtain ⟨q1, hq1, hm⟩ := am_bE hm
  refine ms_callV (M2 := mt_X9_isPart) (d2 := 3) (ci := 7) [.int x1, .int x2] (am_fd ck_X9_few (pc := 3) rfl) ok_X9_isPart tw_1292 tw_1294 ts_71 (by decide) kc_3261 (Nat.le_of_ble_eq_true rfl) (Nat.le_of_ble_eq_true rfl) (x_X9_isPart hL hq1) ?_
  refine am_ifc (tgt := 11) (am_fd ck_X9_few (pc := 6) rfl) rfl (fun hc2 => ?_) (fun hc2 => ?_)
  · replace hm := am_it hm hc2
    refine am_steps ck_X9_few 1 (pc' := 12) (lv' := [(0, .ref 3261), (1, .int x1), (2, .int x2)]) (st' := [.ref 3261]) rfl ?_
    refine ms_getr (ci := 7) (k := 6) (v := 3266) (am_fd ck_X9_few (pc := 12) rfl) tw_881 kc_3261 rfl (ly_3261_6 hL) kc_3266 ?_
    obtain ⟨q3, hq3, hm⟩ := am_bE hm
    refine ms_callS (M2 := mt_X9_all) (d2 := 1) [.ref 3266] (am_fd ck_X9_few (pc := 15) rfl) ok_X9_all tw_1043 tw_1044 (Nat.le_of_ble_eq_true rfl) (Nat.le_of_ble_eq_true rfl) (x_X9_all hL kc_3266 hq3) ?_
    refine am_steps ck_X9_few 5 (pc' := 25) (lv' := [(5, .int (am_i 0)), (4, .int (am_i 0)), (3, .int q3), (0, .ref 3261), (1, .int x1), (2, .int x2)]) (st' := []) rfl ?_
    refine am_subp [3, 4, 5, 2, 1, 0] rfl ?_
    refine x_X9_few_25 hL am_F _ _ hm (fun u8 hm => ?_)
    refine am_steps ck_X9_few 1 (pc' := 66) (lv' := [(5, .int u8)]) (st' := [.int u8]) rfl ?_
    cases hm
    exact am_end (am_fd ck_X9_few (pc := 66) rfl) am_rI rfl rfl
  · replace hm := am_if hm hc2
    refine am_steps ck_X9_few 1 (pc' := 10) (lv' := [(0, .ref 3261), (1, .int x1), (2, .int x2)]) (st' := [.int (am_i (-1))]) rfl ?_
    cases hm
    exact am_end (am_fd ck_X9_few (pc := 10) rfl) am_rI rfl rfl
set_option maxRecDepth 100000 in
set_option maxHeartbeats 4000000 in
theorem x_X9_laysRuns_4 {G : am_G} {x1 : Int32} {r : am_rr} {y1 : Int32} {res : Int32 × am_m} {k : Int32 → am_m → Option (Int32 × am_m)} (hL : am_Lay r) : ∀ (n : Nat) (z2 : Int32) (z3 : Int32) (m : am_m), m_X9_laysRuns_4 x1 y1 k n z2 z3 m = some res → (∀ (u2 : Int32) (m1 : am_m), k u2 m1 = some res → am_W G mt_X9_laysRuns 2 (some (.int res.1)) (am_hh res.2 r) 106 [(2, .int u2)] [] (am_hh m1 r)) → am_W G mt_X9_laysRuns 2 (some (.int res.1)) (am_hh res.2 r) 4 [(0, .ref 3261), (1, .int y1), (2, .int z2), (3, .int z3)] [] (am_hh m r) := by
  intro n
  induction n with
  | zero => intro z2 z3 m hm K; cases hm
  | succ n ih =>
    intro z2 z3 m hm K
    unfold m_X9_laysRuns_4 at hm
    refine am_steps ck_X9_laysRuns 2 (pc' := 7) (lv' := [(0, .ref 3261), (1, .int y1), (2, .int z2), (3, .int z3)]) (st' := [.int (am_i 64), .int z3]) rfl ?_
    refine am_icmp (tgt := 106) (am_fd ck_X9_laysRuns (pc := 7) rfl) rfl (fun hc1 => ?_) (fun hc1 => ?_)
    · replace hm := am_it hm hc1
      refine am_subp [2] rfl ?_
      exact K _ _ hm
    · replace hm := am_if hm hc1
      refine am_steps ck_X9_laysRuns 1 (pc' := 11) (lv' := [(0, .ref 3261), (1, .int y1), (2, .int z2), (3, .int z3)]) (st' := [.ref 3261]) rfl ?_
      refine ms_getr (ci := 7) (k := 0) (v := 3262) (am_fd ck_X9_laysRuns (pc := 11) rfl) tw_875 kc_3261 rfl (ly_3261_0 hL) kc_3262 ?_
      refine am_steps ck_X9_laysRuns 1 (pc' := 15) (lv' := [(0, .ref 3261), (1, .int y1), (2, .int z2), (3, .int z3)]) (st' := [.int y1, .ref 3262]) rfl ?_
      obtain ⟨q2, hq2, hm⟩ := am_bE hm
      refine ms_callS (M2 := mt_X9_sumAt) (d2 := 1) [.int y1] (am_fd ck_X9_laysRuns (pc := 15) rfl) ok_X9_sumAt tw_982 tw_983 (Nat.le_of_ble_eq_true rfl) (Nat.le_of_ble_eq_true rfl) (x_X9_sumAt hL hq2) ?_
      refine am_steps ck_X9_laysRuns 2 (pc' := 20) (lv' := [(0, .ref 3261), (1, .int y1), (2, .int z2), (3, .int z3)]) (st' := [.int (q2 + z3), .ref 3262]) rfl ?_
      obtain ⟨hb3, hm⟩ := am_gE hm
      refine ms_iald (n := 15517) (am_fd ck_X9_laysRuns (pc := 20) rfl) kc_3262 hb3 ?_
      refine am_steps ck_X9_laysRuns 2 (pc' := 25) (lv' := [(4, .int (m 3262 (am_ix (q2 + z3)))), (0, .ref 3261), (1, .int y1), (2, .int z2), (3, .int z3)]) (st' := [.int (m 3262 (am_ix (q2 + z3)))]) rfl ?_
      refine am_ifc (tgt := 31) (am_fd ck_X9_laysRuns (pc := 25) rfl) rfl (fun hc4 => ?_) (fun hc4 => ?_)
      · replace hm := am_it hm hc4
        refine am_steps ck_X9_laysRuns 1 (pc' := 32) (lv' := [(4, .int (m 3262 (am_ix (q2 + z3)))), (0, .ref 3261), (1, .int y1), (2, .int z2), (3, .int z3)]) (st' := [.int z2]) rfl ?_
        refine am_ifc (tgt := 51) (am_fd ck_X9_laysRuns (pc := 32) rfl) rfl (fun hc5 => ?_) (fun hc5 => ?_)
        · replace hm := am_it hm hc5
          refine am_steps ck_X9_laysRuns 1 (pc' := 52) (lv' := [(4, .int (m 3262 (am_ix (q2 + z3)))), (0, .ref 3261), (1, .int y1), (2, .int z2), (3, .int z3)]) (st' := [.ref 3261]) rfl ?_
          refine ms_getr (ci := 7) (k := 16) (v := 3270) (am_fd ck_X9_laysRuns (pc := 52) rfl) tw_891 kc_3261 rfl (ly_3261_16 hL) kc_3270 ?_
          refine am_steps ck_X9_laysRuns 4 (pc' := 59) (lv' := [(4, .int (m 3262 (am_ix (q2 + z3)))), (0, .ref 3261), (1, .int y1), (2, .int z2), (3, .int z3)]) (st' := [.int z3, .int ((am_i 3) * z2), .ref 3270]) rfl ?_
          obtain ⟨hb6, hm⟩ := am_gE hm
          refine ms_iast (n := 96) (am_fd ck_X9_laysRuns (pc := 59) rfl) kc_3270 hb6 (fun m7 em7 => ?_)
          replace hm := am_letE em7 hm
          refine am_steps ck_X9_laysRuns 1 (pc' := 61) (lv' := [(4, .int (m 3262 (am_ix (q2 + z3)))), (0, .ref 3261), (1, .int y1), (2, .int z2), (3, .int z3)]) (st' := [.ref 3261]) rfl ?_
          refine ms_getr (ci := 7) (k := 16) (v := 3270) (am_fd ck_X9_laysRuns (pc := 61) rfl) tw_891 kc_3261 rfl (ly_3261_16 hL) kc_3270 ?_
          refine am_steps ck_X9_laysRuns 6 (pc' := 70) (lv' := [(4, .int (m 3262 (am_ix (q2 + z3)))), (0, .ref 3261), (1, .int y1), (2, .int z2), (3, .int z3)]) (st' := [.int (am_i 0), .int (((am_i 3) * z2) + (am_i 2)), .ref 3270]) rfl ?_
          obtain ⟨hb8, hm⟩ := am_gE hm
          refine ms_iast (n := 96) (am_fd ck_X9_laysRuns (pc := 70) rfl) kc_3270 hb8 (fun m9 em9 => ?_)
          replace hm := am_letE em9 hm
          refine am_steps ck_X9_laysRuns 2 (pc' := 75) (lv' := [(2, .int (z2 + am_i 1)), (4, .int (m 3262 (am_ix (q2 + z3)))), (0, .ref 3261), (1, .int y1), (3, .int z3)]) (st' := [.ref 3261]) rfl ?_
          refine ms_getr (ci := 7) (k := 16) (v := 3270) (am_fd ck_X9_laysRuns (pc := 75) rfl) tw_891 kc_3261 rfl (ly_3261_16 hL) kc_3270 ?_
          refine am_steps ck_X9_laysRuns 6 (pc' := 84) (lv' := [(2, .int (z2 + am_i 1)), (4, .int (m 3262 (am_ix (q2 + z3)))), (0, .ref 3261), (1, .int y1), (3, .int z3)]) (st' := [.int z3, .int (((am_i 3) * (z2 + am_i 1)) - (am_i 2)), .ref 3270]) rfl ?_
          obtain ⟨hb10, hm⟩ := am_gE hm
          refine ms_iast (n := 96) (am_fd ck_X9_laysRuns (pc := 84) rfl) kc_3270 hb10 (fun m11 em11 => ?_)
          replace hm := am_letE em11 hm
          refine am_steps ck_X9_laysRuns 1 (pc' := 86) (lv' := [(2, .int (z2 + am_i 1)), (4, .int (m 3262 (am_ix (q2 + z3)))), (0, .ref 3261), (1, .int y1), (3, .int z3)]) (st' := [.ref 3261]) rfl ?_
          refine ms_getr (ci := 7) (k := 16) (v := 3270) (am_fd ck_X9_laysRuns (pc := 86) rfl) tw_891 kc_3261 rfl (ly_3261_16 hL) kc_3270 ?_
          refine am_steps ck_X9_laysRuns 6 (pc' := 95) (lv' := [(2, .int (z2 + am_i 1)), (4, .int (m 3262 (am_ix (q2 + z3)))), (0, .ref 3261), (1, .int y1), (3, .int z3)]) (st' := [.int (((am_i 3) * (z2 + am_i 1)) - (am_i 1)), .ref 3270, .int (((am_i 3) * (z2 + am_i 1)) - (am_i 1)), .ref 3270]) rfl ?_
          obtain ⟨hb12, hm⟩ := am_gE hm
          refine ms_iald (n := 96) (am_fd ck_X9_laysRuns (pc := 95) rfl) kc_3270 hb12 ?_
          refine am_steps ck_X9_laysRuns 2 (pc' := 99) (lv' := [(2, .int (z2 + am_i 1)), (4, .int (m 3262 (am_ix (q2 + z3)))), (0, .ref 3261), (1, .int y1), (3, .int z3)]) (st' := [.int ((m11 3270 (am_ix (((am_i 3) * (z2 + am_i 1)) - (am_i 1)))) + (m 3262 (am_ix (q2 + z3)))), .int (((am_i 3) * (z2 + am_i 1)) - (am_i 1)), .ref 3270]) rfl ?_
          obtain ⟨hb13, hm⟩ := am_gE hm
          refine ms_iast (n := 96) (am_fd ck_X9_laysRuns (pc := 99) rfl) kc_3270 hb13 (fun m14 em14 => ?_)
          replace hm := am_letE em14 hm
          refine am_steps ck_X9_laysRuns 2 (pc' := 4) (lv' := [(3, .int (z3 + am_i 1)), (2, .int (z2 + am_i 1)), (4, .int (m 3262 (am_ix (q2 + z3)))), (0, .ref 3261), (1, .int y1)]) (st' := []) rfl ?_
          refine am_subp [3, 4, 1, 0] rfl ?_
          exact ih _ _ _ hm K
        · replace hm := am_if hm hc5
          refine am_steps ck_X9_laysRuns 1 (pc' := 36) (lv' := [(4, .int (m 3262 (am_ix (q2 + z3)))), (0, .ref 3261), (1, .int y1), (2, .int z2), (3, .int z3)]) (st' := [.ref 3261]) rfl ?_
          refine ms_getr (ci := 7) (k := 16) (v := 3270) (am_fd ck_X9_laysRuns (pc := 36) rfl) tw_891 kc_3261 rfl (ly_3261_16 hL) kc_3270 ?_
          refine am_steps ck_X9_laysRuns 5 (pc' := 44) (lv' := [(4, .int (m 3262 (am_ix (q2 + z3)))), (0, .ref 3261), (1, .int y1), (2, .int z2), (3, .int z3)]) (st' := [.int (((am_i 3) * z2) - (am_i 2)), .ref 3270]) rfl ?_
          obtain ⟨hb15, hm⟩ := am_gE hm
          refine ms_iald (n := 96) (am_fd ck_X9_laysRuns (pc := 44) rfl) kc_3270 hb15 ?_
          refine am_steps ck_X9_laysRuns 3 (pc' := 48) (lv' := [(4, .int (m 3262 (am_ix (q2 + z3)))), (0, .ref 3261), (1, .int y1), (2, .int z2), (3, .int z3)]) (st' := [.int (z3 - (am_i 1)), .int (m 3270 (am_ix (((am_i 3) * z2) - (am_i 2))))]) rfl ?_
          refine am_icmp (tgt := 74) (am_fd ck_X9_laysRuns (pc := 48) rfl) rfl (fun hc16 => ?_) (fun hc16 => ?_)
          · replace hm := am_it hm hc16
            refine am_steps ck_X9_laysRuns 1 (pc' := 75) (lv' := [(4, .int (m 3262 (am_ix (q2 + z3)))), (0, .ref 3261), (1, .int y1), (2, .int z2), (3, .int z3)]) (st' := [.ref 3261]) rfl ?_
            refine ms_getr (ci := 7) (k := 16) (v := 3270) (am_fd ck_X9_laysRuns (pc := 75) rfl) tw_891 kc_3261 rfl (ly_3261_16 hL) kc_3270 ?_
            refine am_steps ck_X9_laysRuns 6 (pc' := 84) (lv' := [(4, .int (m 3262 (am_ix (q2 + z3)))), (0, .ref 3261), (1, .int y1), (2, .int z2), (3, .int z3)]) (st' := [.int z3, .int (((am_i 3) * z2) - (am_i 2)), .ref 3270]) rfl ?_
            obtain ⟨hb17, hm⟩ := am_gE hm
            refine ms_iast (n := 96) (am_fd ck_X9_laysRuns (pc := 84) rfl) kc_3270 hb17 (fun m18 em18 => ?_)
            replace hm := am_letE em18 hm
            refine am_steps ck_X9_laysRuns 1 (pc' := 86) (lv' := [(4, .int (m 3262 (am_ix (q2 + z3)))), (0, .ref 3261), (1, .int y1), (2, .int z2), (3, .int z3)]) (st' := [.ref 3261]) rfl ?_
            refine ms_getr (ci := 7) (k := 16) (v := 3270) (am_fd ck_X9_laysRuns (pc := 86) rfl) tw_891 kc_3261 rfl (ly_3261_16 hL) kc_3270 ?_
            refine am_steps ck_X9_laysRuns 6 (pc' := 95) (lv' := [(4, .int (m 3262 (am_ix (q2 + z3)))), (0, .ref 3261), (1, .int y1), (2, .int z2), (3, .int z3)]) (st' := [.int (((am_i 3) * z2) - (am_i 1)), .ref 3270, .int (((am_i 3) * z2) - (am_i 1)), .ref 3270]) rfl ?_
            obtain ⟨hb19, hm⟩ := am_gE hm
            refine ms_iald (n := 96) (am_fd ck_X9_laysRuns (pc := 95) rfl) kc_3270 hb19 ?_
            refine am_steps ck_X9_laysRuns 2 (pc' := 99) (lv' := [(4, .int (m 3262 (am_ix (q2 + z3)))), (0, .ref 3261), (1, .int y1), (2, .int z2), (3, .int z3)]) (st' := [.int ((m18 3270 (am_ix (((am_i 3) * z2) - (am_i 1)))) + (m 3262 (am_ix (q2 + z3)))), .int (((am_i 3) * z2) - (am_i 1)), .ref 3270]) rfl ?_
            obtain ⟨hb20, hm⟩ := am_gE hm
            refine ms_iast (n := 96) (am_fd ck_X9_laysRuns (pc := 99) rfl) kc_3270 hb20 (fun m21 em21 => ?_)
            replace hm := am_letE em21 hm
            refine am_steps ck_X9_laysRuns 2 (pc' := 4) (lv' := [(3, .int (z3 + am_i 1)), (4, .int (m 3262 (am_ix (q2 + z3)))), (0, .ref 3261), (1, .int y1), (2, .int z2)]) (st' := []) rfl ?_
            refine am_subp [2, 3, 4, 0] rfl ?_
            exact ih _ _ _ hm K
          · replace hm := am_if hm hc16
            refine am_steps ck_X9_laysRuns 1 (pc' := 52) (lv' := [(4, .int (m 3262 (am_ix (q2 + z3)))), (0, .ref 3261), (1, .int y1), (2, .int z2), (3, .int z3)]) (st' := [.ref 3261]) rfl ?_
            refine ms_getr (ci := 7) (k := 16) (v := 3270) (am_fd ck_X9_laysRuns (pc := 52) rfl) tw_891 kc_3261 rfl (ly_3261_16 hL) kc_3270 ?_
            refine am_steps ck_X9_laysRuns 4 (pc' := 59) (lv' := [(4, .int (m 3262 (am_ix (q2 + z3)))), (0, .ref 3261), (1, .int y1), (2, .int z2), (3, .int z3)]) (st' := [.int z3, .int ((am_i 3) * z2), .ref 3270]) rfl ?_
            obtain ⟨hb22, hm⟩ := am_gE hm
            refine ms_iast (n := 96) (am_fd ck_X9_laysRuns (pc := 59) rfl) kc_3270 hb22 (fun m23 em23 => ?_)
            replace hm := am_letE em23 hm
            refine am_steps ck_X9_laysRuns 1 (pc' := 61) (lv' := [(4, .int (m 3262 (am_ix (q2 + z3)))), (0, .ref 3261), (1, .int y1), (2, .int z2), (3, .int z3)]) (st' := [.ref 3261]) rfl ?_
            refine ms_getr (ci := 7) (k := 16) (v := 3270) (am_fd ck_X9_laysRuns (pc := 61) rfl) tw_891 kc_3261 rfl (ly_3261_16 hL) kc_3270 ?_
            refine am_steps ck_X9_laysRuns 6 (pc' := 70) (lv' := [(4, .int (m 3262 (am_ix (q2 + z3)))), (0, .ref 3261), (1, .int y1), (2, .int z2), (3, .int z3)]) (st' := [.int (am_i 0), .int (((am_i 3) * z2) + (am_i 2)), .ref 3270]) rfl ?_
            obtain ⟨hb24, hm⟩ := am_gE hm
            refine ms_iast (n := 96) (am_fd ck_X9_laysRuns (pc := 70) rfl) kc_3270 hb24 (fun m25 em25 => ?_)
            replace hm := am_letE em25 hm
            refine am_steps ck_X9_laysRuns 2 (pc' := 75) (lv' := [(2, .int (z2 + am_i 1)), (4, .int (m 3262 (am_ix (q2 + z3)))), (0, .ref 3261), (1, .int y1), (3, .int z3)]) (st' := [.ref 3261]) rfl ?_
            refine ms_getr (ci := 7) (k := 16) (v := 3270) (am_fd ck_X9_laysRuns (pc := 75) rfl) tw_891 kc_3261 rfl (ly_3261_16 hL) kc_3270 ?_
            refine am_steps ck_X9_laysRuns 6 (pc' := 84) (lv' := [(2, .int (z2 + am_i 1)), (4, .int (m 3262 (am_ix (q2 + z3)))), (0, .ref 3261), (1, .int y1), (3, .int z3)]) (st' := [.int z3, .int (((am_i 3) * (z2 + am_i 1)) - (am_i 2)), .ref 3270]) rfl ?_
            obtain ⟨hb26, hm⟩ := am_gE hm
            refine ms_iast (n := 96) (am_fd ck_X9_laysRuns (pc := 84) rfl) kc_3270 hb26 (fun m27 em27 => ?_)
            replace hm := am_letE em27 hm
            refine am_steps ck_X9_laysRuns 1 (pc' := 86) (lv' := [(2, .int (z2 + am_i 1)), (4, .int (m 3262 (am_ix (q2 + z3)))), (0, .ref 3261), (1, .int y1), (3, .int z3)]) (st' := [.ref 3261]) rfl ?_
            refine ms_getr (ci := 7) (k := 16) (v := 3270) (am_fd ck_X9_laysRuns (pc := 86) rfl) tw_891 kc_3261 rfl (ly_3261_16 hL) kc_3270 ?_
            refine am_steps ck_X9_laysRuns 6 (pc' := 95) (lv' := [(2, .int (z2 + am_i 1)), (4, .int (m 3262 (am_ix (q2 + z3)))), (0, .ref 3261), (1, .int y1), (3, .int z3)]) (st' := [.int (((am_i 3) * (z2 + am_i 1)) - (am_i 1)), .ref 3270, .int (((am_i 3) * (z2 + am_i 1)) - (am_i 1)), .ref 3270]) rfl ?_
            obtain ⟨hb28, hm⟩ := am_gE hm
            refine ms_iald (n := 96) (am_fd ck_X9_laysRuns (pc := 95) rfl) kc_3270 hb28 ?_
            refine am_steps ck_X9_laysRuns 2 (pc' := 99) (lv' := [(2, .int (z2 + am_i 1)), (4, .int (m 3262 (am_ix (q2 + z3)))), (0, .ref 3261), (1, .int y1), (3, .int z3)]) (st' := [.int ((m27 3270 (am_ix (((am_i 3) * (z2 + am_i 1)) - (am_i 1)))) + (m 3262 (am_ix (q2 + z3)))), .int (((am_i 3) * (z2 + am_i 1)) - (am_i 1)), .ref 3270]) rfl ?_
            obtain ⟨hb29, hm⟩ := am_gE hm
            refine ms_iast (n := 96) (am_fd ck_X9_laysRuns (pc := 99) rfl) kc_3270 hb29 (fun m30 em30 => ?_)
            replace hm := am_letE em30 hm
            refine am_steps ck_X9_laysRuns 2 (pc' := 4) (lv' := [(3, .int (z3 + am_i 1)), (2, .int (z2 + am_i 1)), (4, .int (m 3262 (am_ix (q2 + z3)))), (0, .ref 3261), (1, .int y1)]) (st' := []) rfl ?_
            refine am_subp [3, 4, 1, 0] rfl ?_
            exact ih _ _ _ hm K
      · replace hm := am_if hm hc4
        refine am_steps ck_X9_laysRuns 3 (pc' := 4) (lv' := [(3, .int (z3 + am_i 1)), (4, .int (m 3262 (am_ix (q2 + z3)))), (0, .ref 3261), (1, .int y1), (2, .int z2)]) (st' := []) rfl ?_
        refine am_subp [2, 3, 4, 0] rfl ?_
        exact ih _ _ _ hm K
set_option maxRecDepth 100000 in
set_option maxHeartbeats 4000000 in
theorem x_X9_laysRuns {G : am_G} {m : am_m} {r : am_rr} {x1 : Int32} {res : Int32 × am_m} (hL : am_Lay r) (hm : m_X9_laysRuns m x1 = some res) : am_Met G mt_X9_laysRuns 2 [.ref 3261, .int x1] (am_hh m r) (some (.int res.1)) (am_hh res.2 r) := by
  refine am_of (by decide) (Nat.le_of_ble_eq_true rfl) ?_
  unfold m_X9_laysRuns at hm
  show am_W G mt_X9_laysRuns 2 _ _ 0 [(0, .ref 3261), (1, .int x1)] [] (am_hh m r)
  refine am_steps ck_X9_laysRuns 4 (pc' := 4) (lv' := [(3, .int (am_i 0)), (2, .int (am_i 0)), (0, .ref 3261), (1, .int x1)]) (st' := []) rfl ?_
  refine am_subp [2, 3, 1, 0] rfl ?_
  refine x_X9_laysRuns_4 hL am_F _ _ _ hm (fun u31 m32 hm => ?_)
  refine am_steps ck_X9_laysRuns 1 (pc' := 107) (lv' := [(2, .int u31)]) (st' := [.int u31]) rfl ?_
  cases hm
  exact am_end (am_fd ck_X9_laysRuns (pc := 107) rfl) am_rI rfl rfl
set_option maxRecDepth 100000 in
set_option maxHeartbeats 4000000 in
theorem x_X9_bestRun_8 {G : am_G} {x1 : Int32} {x2 : Int32} {m : am_m} {r : am_rr} {y1 : Int32} {y2 : Int32} {res : Int32} {k : Int32 → Option (Int32)} (hL : am_Lay r) : ∀ (n : Nat) (z3 : Int32) (z4 : Int32) (z5 : Int32), m_X9_bestRun_8 x1 x2 m y1 y2 k n z3 z4 z5 = some res → (∀ (u3 : Int32), k u3 = some res → am_W G mt_X9_bestRun 1 (some (.int res)) (am_hh m r) 80 [(3, .int u3)] [] (am_hh m r)) → am_W G mt_X9_bestRun 1 (some (.int res)) (am_hh m r) 8 [(0, .ref 3261), (1, .int y1), (2, .int y2), (3, .int z3), (4, .int z4), (5, .int z5)] [] (am_hh m r) := by
  intro n
  induction n with
  | zero => intro z3 z4 z5 hm K; cases hm
  | succ n ih =>
    intro z3 z4 z5 hm K
    unfold m_X9_bestRun_8 at hm
    refine am_steps ck_X9_bestRun 2 (pc' := 11) (lv' := [(0, .ref 3261), (1, .int y1), (2, .int y2), (3, .int z3), (4, .int z4), (5, .int z5)]) (st' := [.int y1, .int z5]) rfl ?_
    refine am_icmp (tgt := 80) (am_fd ck_X9_bestRun (pc := 11) rfl) rfl (fun hc1 => ?_) (fun hc1 => ?_)
    · replace hm := am_it hm hc1
      refine am_subp [3] rfl ?_
      exact K _ hm
    · replace hm := am_if hm hc1
      refine am_steps ck_X9_bestRun 1 (pc' := 15) (lv' := [(0, .ref 3261), (1, .int y1), (2, .int y2), (3, .int z3), (4, .int z4), (5, .int z5)]) (st' := [.int y2]) rfl ?_
      refine am_ifc (tgt := 44) (am_fd ck_X9_bestRun (pc := 15) rfl) rfl (fun hc2 => ?_) (fun hc2 => ?_)
      · replace hm := am_it hm hc2
        refine am_steps ck_X9_bestRun 1 (pc' := 45) (lv' := [(0, .ref 3261), (1, .int y1), (2, .int y2), (3, .int z3), (4, .int z4), (5, .int z5)]) (st' := [.ref 3261]) rfl ?_
        refine ms_getr (ci := 7) (k := 16) (v := 3270) (am_fd ck_X9_bestRun (pc := 45) rfl) tw_891 kc_3261 rfl (ly_3261_16 hL) kc_3270 ?_
        refine am_steps ck_X9_bestRun 5 (pc' := 54) (lv' := [(0, .ref 3261), (1, .int y1), (2, .int y2), (3, .int z3), (4, .int z4), (5, .int z5)]) (st' := [.int (((am_i 3) * z5) + (am_i 2)), .ref 3270]) rfl ?_
        obtain ⟨hb3, hm⟩ := am_gE hm
        refine ms_iald (n := 96) (am_fd ck_X9_bestRun (pc := 54) rfl) kc_3270 hb3 ?_
        refine am_steps ck_X9_bestRun 3 (pc' := 61) (lv' := [(6, .int (m 3270 (am_ix (((am_i 3) * z5) + (am_i 2))))), (0, .ref 3261), (1, .int y1), (2, .int y2), (3, .int z3), (4, .int z4), (5, .int z5)]) (st' := [.int z4, .int (m 3270 (am_ix (((am_i 3) * z5) + (am_i 2))))]) rfl ?_
        refine am_icmp (tgt := 67) (am_fd ck_X9_bestRun (pc := 61) rfl) rfl (fun hc4 => ?_) (fun hc4 => ?_)
        · replace hm := am_it hm hc4
          refine am_steps ck_X9_bestRun 6 (pc' := 8) (lv' := [(5, .int (z5 + am_i 1)), (3, .int z5), (4, .int (m 3270 (am_ix (((am_i 3) * z5) + (am_i 2))))), (6, .int (m 3270 (am_ix (((am_i 3) * z5) + (am_i 2))))), (0, .ref 3261), (1, .int y1), (2, .int y2)]) (st' := []) rfl ?_
          refine am_subp [4, 5, 6, 1, 2, 0] rfl ?_
          exact ih _ _ _ hm K
        · replace hm := am_if hm hc4
          refine am_steps ck_X9_bestRun 3 (pc' := 8) (lv' := [(5, .int (z5 + am_i 1)), (6, .int (m 3270 (am_ix (((am_i 3) * z5) + (am_i 2))))), (0, .ref 3261), (1, .int y1), (2, .int y2), (3, .int z3), (4, .int z4)]) (st' := []) rfl ?_
          refine am_subp [2, 3, 4, 5, 6, 0] rfl ?_
          exact ih _ _ _ hm K
      · replace hm := am_if hm hc2
        refine am_steps ck_X9_bestRun 1 (pc' := 19) (lv' := [(0, .ref 3261), (1, .int y1), (2, .int y2), (3, .int z3), (4, .int z4), (5, .int z5)]) (st' := [.ref 3261]) rfl ?_
        refine ms_getr (ci := 7) (k := 16) (v := 3270) (am_fd ck_X9_bestRun (pc := 19) rfl) tw_891 kc_3261 rfl (ly_3261_16 hL) kc_3270 ?_
        refine am_steps ck_X9_bestRun 5 (pc' := 28) (lv' := [(0, .ref 3261), (1, .int y1), (2, .int y2), (3, .int z3), (4, .int z4), (5, .int z5)]) (st' := [.int (((am_i 3) * z5) + (am_i 1)), .ref 3270]) rfl ?_
        obtain ⟨hb5, hm⟩ := am_gE hm
        refine ms_iald (n := 96) (am_fd ck_X9_bestRun (pc := 28) rfl) kc_3270 hb5 ?_
        refine am_steps ck_X9_bestRun 1 (pc' := 30) (lv' := [(0, .ref 3261), (1, .int y1), (2, .int y2), (3, .int z3), (4, .int z4), (5, .int z5)]) (st' := [.ref 3261, .int (m 3270 (am_ix (((am_i 3) * z5) + (am_i 1))))]) rfl ?_
        refine ms_getr (ci := 7) (k := 16) (v := 3270) (am_fd ck_X9_bestRun (pc := 30) rfl) tw_891 kc_3261 rfl (ly_3261_16 hL) kc_3270 ?_
        refine am_steps ck_X9_bestRun 3 (pc' := 37) (lv' := [(0, .ref 3261), (1, .int y1), (2, .int y2), (3, .int z3), (4, .int z4), (5, .int z5)]) (st' := [.int ((am_i 3) * z5), .ref 3270, .int (m 3270 (am_ix (((am_i 3) * z5) + (am_i 1))))]) rfl ?_
        obtain ⟨hb6, hm⟩ := am_gE hm
        refine ms_iald (n := 96) (am_fd ck_X9_bestRun (pc := 37) rfl) kc_3270 hb6 ?_
        refine am_steps ck_X9_bestRun 7 (pc' := 61) (lv' := [(6, .int (((m 3270 (am_ix (((am_i 3) * z5) + (am_i 1)))) - (m 3270 (am_ix ((am_i 3) * z5)))) + (am_i 1))), (0, .ref 3261), (1, .int y1), (2, .int y2), (3, .int z3), (4, .int z4), (5, .int z5)]) (st' := [.int z4, .int (((m 3270 (am_ix (((am_i 3) * z5) + (am_i 1)))) - (m 3270 (am_ix ((am_i 3) * z5)))) + (am_i 1))]) rfl ?_
        refine am_icmp (tgt := 67) (am_fd ck_X9_bestRun (pc := 61) rfl) rfl (fun hc7 => ?_) (fun hc7 => ?_)
        · replace hm := am_it hm hc7
          refine am_steps ck_X9_bestRun 6 (pc' := 8) (lv' := [(5, .int (z5 + am_i 1)), (3, .int z5), (4, .int (((m 3270 (am_ix (((am_i 3) * z5) + (am_i 1)))) - (m 3270 (am_ix ((am_i 3) * z5)))) + (am_i 1))), (6, .int (((m 3270 (am_ix (((am_i 3) * z5) + (am_i 1)))) - (m 3270 (am_ix ((am_i 3) * z5)))) + (am_i 1))), (0, .ref 3261), (1, .int y1), (2, .int y2)]) (st' := []) rfl ?_
          refine am_subp [4, 5, 6, 1, 2, 0] rfl ?_
          exact ih _ _ _ hm K
        · replace hm := am_if hm hc7
          refine am_steps ck_X9_bestRun 3 (pc' := 8) (lv' := [(5, .int (z5 + am_i 1)), (6, .int (((m 3270 (am_ix (((am_i 3) * z5) + (am_i 1)))) - (m 3270 (am_ix ((am_i 3) * z5)))) + (am_i 1))), (0, .ref 3261), (1, .int y1), (2, .int y2), (3, .int z3), (4, .int z4)]) (st' := []) rfl ?_
          refine am_subp [2, 3, 4, 5, 6, 0] rfl ?_
          exact ih _ _ _ hm K
set_option maxRecDepth 100000 in
set_option maxHeartbeats 4000000 in
theorem x_X9_bestRun {G : am_G} {m : am_m} {r : am_rr} {x1 : Int32} {x2 : Int32} {res : Int32} (hL : am_Lay r) (hm : m_X9_bestRun m x1 x2 = some res) : am_Met G mt_X9_bestRun 1 [.ref 3261, .int x1, .int x2] (am_hh m r) (some (.int res)) (am_hh m r) := by
  refine am_of (by decide) (Nat.le_of_ble_eq_true rfl) ?_
  unfold m_X9_bestRun at hm
  show am_W G mt_X9_bestRun 1 _ _ 0 [(0, .ref 3261), (1, .int x1), (2, .int x2)] [] (am_hh m r)
  refine am_steps ck_X9_bestRun 6 (pc' := 8) (lv' := [(5, .int (am_i 0)), (4, .int (am_i 0)), (3, .int (am_i (-1))), (0, .ref 3261), (1, .int x1), (2, .int x2)]) (st' := []) rfl ?_
  refine am_subp [3, 4, 5, 2, 1, 0] rfl ?_
  refine x_X9_bestRun_8 hL am_F _ _ _ hm (fun u8 hm => ?_)
  refine am_steps ck_X9_bestRun 1 (pc' := 81) (lv' := [(3, .int u8)]) (st' := [.int u8]) rfl ?_
  cases hm
  exact am_end (am_fd ck_X9_bestRun (pc := 81) rfl) am_rI rfl rfl
set_option maxRecDepth 100000 in
set_option maxHeartbeats 4000000 in
theorem x_X9_run {G : am_G} {m : am_m} {r : am_rr} {x1 : Int32} {x2 : Int32} {x3 : Int32} {res : Int32 × am_m} (hL : am_Lay r) (hm : m_X9_run m x1 x2 x3 = some res) : am_Met G mt_X9_run 3 [.ref 3261, .int x1, .int x2, .int x3] (am_hh m r) (some (.int res.1)) (am_hh res.2 r) := by
  refine am_of (by decide) (Nat.le_of_ble_eq_true rfl) ?_
  unfold m_X9_run at hm
  show am_W G mt_X9_run 3 _ _ 0 [(0, .ref 3261), (1, .int x1), (2, .int x2), (3, .int x3)] [] (am_hh m r)
  refine am_steps ck_X9_run 2 (pc' := 2) (lv' := [(0, .ref 3261), (1, .int x1), (2, .int x2), (3, .int x3)]) (st' := [.int x1, .ref 3261]) rfl ?_
  obtain ⟨q1, hq1, hm⟩ := am_bE hm
  refine ms_callV (M2 := mt_X9_isUnit) (d2 := 2) (ci := 7) [.int x1] (am_fd ck_X9_run (pc := 2) rfl) ok_X9_isUnit tw_949 tw_951 ts_28 (by decide) kc_3261 (Nat.le_of_ble_eq_true rfl) (Nat.le_of_ble_eq_true rfl) (x_X9_isUnit hL hq1) ?_
  refine am_ifc (tgt := 10) (am_fd ck_X9_run (pc := 5) rfl) rfl (fun hc2 => ?_) (fun hc2 => ?_)
  · replace hm := am_it hm hc2
    refine am_steps ck_X9_run 2 (pc' := 12) (lv' := [(0, .ref 3261), (1, .int x1), (2, .int x2), (3, .int x3)]) (st' := [.int x1, .ref 3261]) rfl ?_
    obtain ⟨q3, hq3, hm⟩ := am_bE hm
    refine ms_callV (M2 := mt_X9_laysRuns) (d2 := 2) (ci := 7) [.int x1] (am_fd ck_X9_run (pc := 12) rfl) ok_X9_laysRuns tw_1304 tw_1306 ts_72 (by decide) kc_3261 (Nat.le_of_ble_eq_true rfl) (Nat.le_of_ble_eq_true rfl) (x_X9_laysRuns hL hq3) ?_
    refine am_steps ck_X9_run 3 (pc' := 19) (lv' := [(4, .int q3.1), (0, .ref 3261), (1, .int x1), (2, .int x2), (3, .int x3)]) (st' := [.int (am_i (-1)), .int x2]) rfl ?_
    refine am_icmp (tgt := 25) (am_fd ck_X9_run (pc := 19) rfl) rfl (fun hc4 => ?_) (fun hc4 => ?_)
    · replace hm := am_it hm hc4
      refine am_steps ck_X9_run 2 (pc' := 28) (lv' := [(4, .int q3.1), (0, .ref 3261), (1, .int x1), (2, .int x2), (3, .int x3)]) (st' := [.int (am_i (-2)), .int x2]) rfl ?_
      refine am_icmp (tgt := 41) (am_fd ck_X9_run (pc := 28) rfl) rfl (fun hc5 => ?_) (fun hc5 => ?_)
      · replace hm := am_it hm hc5
        refine am_steps ck_X9_run 2 (pc' := 44) (lv' := [(4, .int q3.1), (0, .ref 3261), (1, .int x1), (2, .int x2), (3, .int x3)]) (st' := [.int (am_i (-3)), .int x2]) rfl ?_
        refine am_icmp (tgt := 57) (am_fd ck_X9_run (pc := 44) rfl) rfl (fun hc6 => ?_) (fun hc6 => ?_)
        · replace hm := am_it hm hc6
          refine am_steps ck_X9_run 7 (pc' := 67) (lv' := [(5, .int x2), (4, .int q3.1), (0, .ref 3261), (1, .int x1), (2, .int x2), (3, .int x3)]) (st' := [.int (q3.1 - (am_i 1)), .int (am_i 0), .int x2]) rfl ?_
          obtain ⟨q7, hq7, hm⟩ := am_bE hm
          refine ms_callS (M2 := mt_X9_isIn) (d2 := 1) [.int x2, .int (am_i 0), .int (q3.1 - (am_i 1))] (am_fd ck_X9_run (pc := 67) rfl) ok_X9_isIn tw_953 tw_954 (Nat.le_of_ble_eq_true rfl) (Nat.le_of_ble_eq_true rfl) (x_X9_isIn hL hq7) ?_
          refine am_ifc (tgt := 96) (am_fd ck_X9_run (pc := 70) rfl) rfl (fun hc8 => ?_) (fun hc8 => ?_)
          · replace hm := am_it hm hc8
            refine am_steps ck_X9_run 1 (pc' := 97) (lv' := [(5, .int x2), (4, .int q3.1), (0, .ref 3261), (1, .int x1), (2, .int x2), (3, .int x3)]) (st' := [.int (am_i (-1))]) rfl ?_
            cases hm
            exact am_end (am_fd ck_X9_run (pc := 97) rfl) am_rI rfl rfl
          · replace hm := am_if hm hc8
            refine am_steps ck_X9_run 3 (pc' := 76) (lv' := [(5, .int x2), (4, .int q3.1), (0, .ref 3261), (1, .int x1), (2, .int x2), (3, .int x3)]) (st' := [.int (am_i 2), .int (am_i 0), .int x3]) rfl ?_
            obtain ⟨q9, hq9, hm⟩ := am_bE hm
            refine ms_callS (M2 := mt_X9_isIn) (d2 := 1) [.int x3, .int (am_i 0), .int (am_i 2)] (am_fd ck_X9_run (pc := 76) rfl) ok_X9_isIn tw_953 tw_954 (Nat.le_of_ble_eq_true rfl) (Nat.le_of_ble_eq_true rfl) (x_X9_isIn hL hq9) ?_
            refine am_ifc (tgt := 96) (am_fd ck_X9_run (pc := 79) rfl) rfl (fun hc10 => ?_) (fun hc10 => ?_)
            · replace hm := am_it hm hc10
              refine am_steps ck_X9_run 1 (pc' := 97) (lv' := [(5, .int x2), (4, .int q3.1), (0, .ref 3261), (1, .int x1), (2, .int x2), (3, .int x3)]) (st' := [.int (am_i (-1))]) rfl ?_
              cases hm
              exact am_end (am_fd ck_X9_run (pc := 97) rfl) am_rI rfl rfl
            · replace hm := am_if hm hc10
              refine am_steps ck_X9_run 1 (pc' := 83) (lv' := [(5, .int x2), (4, .int q3.1), (0, .ref 3261), (1, .int x1), (2, .int x2), (3, .int x3)]) (st' := [.ref 3261]) rfl ?_
              refine ms_getr (ci := 7) (k := 16) (v := 3270) (am_fd ck_X9_run (pc := 83) rfl) tw_891 kc_3261 rfl (ly_3261_16 hL) kc_3270 ?_
              refine am_steps ck_X9_run 5 (pc' := 92) (lv' := [(5, .int x2), (4, .int q3.1), (0, .ref 3261), (1, .int x1), (2, .int x2), (3, .int x3)]) (st' := [.int (((am_i 3) * x2) + x3), .ref 3270]) rfl ?_
              obtain ⟨hb11, hm⟩ := am_gE hm
              refine ms_iald (n := 96) (am_fd ck_X9_run (pc := 92) rfl) kc_3270 hb11 ?_
              refine am_steps ck_X9_run 1 (pc' := 97) (lv' := [(5, .int x2), (4, .int q3.1), (0, .ref 3261), (1, .int x1), (2, .int x2), (3, .int x3)]) (st' := [.int (q3.2 3270 (am_ix (((am_i 3) * x2) + x3)))]) rfl ?_
              cases hm
              exact am_end (am_fd ck_X9_run (pc := 97) rfl) am_rI rfl rfl
        · replace hm := am_if hm hc6
          refine am_steps ck_X9_run 3 (pc' := 51) (lv' := [(4, .int q3.1), (0, .ref 3261), (1, .int x1), (2, .int x2), (3, .int x3)]) (st' := [.int (am_i 0), .int q3.1, .ref 3261]) rfl ?_
          obtain ⟨q12, hq12, hm⟩ := am_bE hm
          refine ms_callV (M2 := mt_X9_bestRun) (d2 := 1) (ci := 7) [.int q3.1, .int (am_i 0)] (am_fd ck_X9_run (pc := 51) rfl) ok_X9_bestRun tw_1308 tw_1310 ts_73 (by decide) kc_3261 (Nat.le_of_ble_eq_true rfl) (Nat.le_of_ble_eq_true rfl) (x_X9_bestRun hL hq12) ?_
          refine am_steps ck_X9_run 7 (pc' := 67) (lv' := [(5, .int q12), (4, .int q3.1), (0, .ref 3261), (1, .int x1), (2, .int x2), (3, .int x3)]) (st' := [.int (q3.1 - (am_i 1)), .int (am_i 0), .int q12]) rfl ?_
          obtain ⟨q13, hq13, hm⟩ := am_bE hm
          refine ms_callS (M2 := mt_X9_isIn) (d2 := 1) [.int q12, .int (am_i 0), .int (q3.1 - (am_i 1))] (am_fd ck_X9_run (pc := 67) rfl) ok_X9_isIn tw_953 tw_954 (Nat.le_of_ble_eq_true rfl) (Nat.le_of_ble_eq_true rfl) (x_X9_isIn hL hq13) ?_
          refine am_ifc (tgt := 96) (am_fd ck_X9_run (pc := 70) rfl) rfl (fun hc14 => ?_) (fun hc14 => ?_)
          · replace hm := am_it hm hc14
            refine am_steps ck_X9_run 1 (pc' := 97) (lv' := [(5, .int q12), (4, .int q3.1), (0, .ref 3261), (1, .int x1), (2, .int x2), (3, .int x3)]) (st' := [.int (am_i (-1))]) rfl ?_
            cases hm
            exact am_end (am_fd ck_X9_run (pc := 97) rfl) am_rI rfl rfl
          · replace hm := am_if hm hc14
            refine am_steps ck_X9_run 3 (pc' := 76) (lv' := [(5, .int q12), (4, .int q3.1), (0, .ref 3261), (1, .int x1), (2, .int x2), (3, .int x3)]) (st' := [.int (am_i 2), .int (am_i 0), .int x3]) rfl ?_
            obtain ⟨q15, hq15, hm⟩ := am_bE hm
            refine ms_callS (M2 := mt_X9_isIn) (d2 := 1) [.int x3, .int (am_i 0), .int (am_i 2)] (am_fd ck_X9_run (pc := 76) rfl) ok_X9_isIn tw_953 tw_954 (Nat.le_of_ble_eq_true rfl) (Nat.le_of_ble_eq_true rfl) (x_X9_isIn hL hq15) ?_
            refine am_ifc (tgt := 96) (am_fd ck_X9_run (pc := 79) rfl) rfl (fun hc16 => ?_) (fun hc16 => ?_)
            · replace hm := am_it hm hc16
              refine am_steps ck_X9_run 1 (pc' := 97) (lv' := [(5, .int q12), (4, .int q3.1), (0, .ref 3261), (1, .int x1), (2, .int x2), (3, .int x3)]) (st' := [.int (am_i (-1))]) rfl ?_
              cases hm
              exact am_end (am_fd ck_X9_run (pc := 97) rfl) am_rI rfl rfl
            · replace hm := am_if hm hc16
              refine am_steps ck_X9_run 1 (pc' := 83) (lv' := [(5, .int q12), (4, .int q3.1), (0, .ref 3261), (1, .int x1), (2, .int x2), (3, .int x3)]) (st' := [.ref 3261]) rfl ?_
              refine ms_getr (ci := 7) (k := 16) (v := 3270) (am_fd ck_X9_run (pc := 83) rfl) tw_891 kc_3261 rfl (ly_3261_16 hL) kc_3270 ?_
              refine am_steps ck_X9_run 5 (pc' := 92) (lv' := [(5, .int q12), (4, .int q3.1), (0, .ref 3261), (1, .int x1), (2, .int x2), (3, .int x3)]) (st' := [.int (((am_i 3) * q12) + x3), .ref 3270]) rfl ?_
              obtain ⟨hb17, hm⟩ := am_gE hm
              refine ms_iald (n := 96) (am_fd ck_X9_run (pc := 92) rfl) kc_3270 hb17 ?_
              refine am_steps ck_X9_run 1 (pc' := 97) (lv' := [(5, .int q12), (4, .int q3.1), (0, .ref 3261), (1, .int x1), (2, .int x2), (3, .int x3)]) (st' := [.int (q3.2 3270 (am_ix (((am_i 3) * q12) + x3)))]) rfl ?_
              cases hm
              exact am_end (am_fd ck_X9_run (pc := 97) rfl) am_rI rfl rfl
      · replace hm := am_if hm hc5
        refine am_steps ck_X9_run 3 (pc' := 35) (lv' := [(4, .int q3.1), (0, .ref 3261), (1, .int x1), (2, .int x2), (3, .int x3)]) (st' := [.int (am_i 1), .int q3.1, .ref 3261]) rfl ?_
        obtain ⟨q18, hq18, hm⟩ := am_bE hm
        refine ms_callV (M2 := mt_X9_bestRun) (d2 := 1) (ci := 7) [.int q3.1, .int (am_i 1)] (am_fd ck_X9_run (pc := 35) rfl) ok_X9_bestRun tw_1308 tw_1310 ts_73 (by decide) kc_3261 (Nat.le_of_ble_eq_true rfl) (Nat.le_of_ble_eq_true rfl) (x_X9_bestRun hL hq18) ?_
        refine am_steps ck_X9_run 7 (pc' := 67) (lv' := [(5, .int q18), (4, .int q3.1), (0, .ref 3261), (1, .int x1), (2, .int x2), (3, .int x3)]) (st' := [.int (q3.1 - (am_i 1)), .int (am_i 0), .int q18]) rfl ?_
        obtain ⟨q19, hq19, hm⟩ := am_bE hm
        refine ms_callS (M2 := mt_X9_isIn) (d2 := 1) [.int q18, .int (am_i 0), .int (q3.1 - (am_i 1))] (am_fd ck_X9_run (pc := 67) rfl) ok_X9_isIn tw_953 tw_954 (Nat.le_of_ble_eq_true rfl) (Nat.le_of_ble_eq_true rfl) (x_X9_isIn hL hq19) ?_
        refine am_ifc (tgt := 96) (am_fd ck_X9_run (pc := 70) rfl) rfl (fun hc20 => ?_) (fun hc20 => ?_)
        · replace hm := am_it hm hc20
          refine am_steps ck_X9_run 1 (pc' := 97) (lv' := [(5, .int q18), (4, .int q3.1), (0, .ref 3261), (1, .int x1), (2, .int x2), (3, .int x3)]) (st' := [.int (am_i (-1))]) rfl ?_
          cases hm
          exact am_end (am_fd ck_X9_run (pc := 97) rfl) am_rI rfl rfl
        · replace hm := am_if hm hc20
          refine am_steps ck_X9_run 3 (pc' := 76) (lv' := [(5, .int q18), (4, .int q3.1), (0, .ref 3261), (1, .int x1), (2, .int x2), (3, .int x3)]) (st' := [.int (am_i 2), .int (am_i 0), .int x3]) rfl ?_
          obtain ⟨q21, hq21, hm⟩ := am_bE hm
          refine ms_callS (M2 := mt_X9_isIn) (d2 := 1) [.int x3, .int (am_i 0), .int (am_i 2)] (am_fd ck_X9_run (pc := 76) rfl) ok_X9_isIn tw_953 tw_954 (Nat.le_of_ble_eq_true rfl) (Nat.le_of_ble_eq_true rfl) (x_X9_isIn hL hq21) ?_
          refine am_ifc (tgt := 96) (am_fd ck_X9_run (pc := 79) rfl) rfl (fun hc22 => ?_) (fun hc22 => ?_)
          · replace hm := am_it hm hc22
            refine am_steps ck_X9_run 1 (pc' := 97) (lv' := [(5, .int q18), (4, .int q3.1), (0, .ref 3261), (1, .int x1), (2, .int x2), (3, .int x3)]) (st' := [.int (am_i (-1))]) rfl ?_
            cases hm
            exact am_end (am_fd ck_X9_run (pc := 97) rfl) am_rI rfl rfl
          · replace hm := am_if hm hc22
            refine am_steps ck_X9_run 1 (pc' := 83) (lv' := [(5, .int q18), (4, .int q3.1), (0, .ref 3261), (1, .int x1), (2, .int x2), (3, .int x3)]) (st' := [.ref 3261]) rfl ?_
            refine ms_getr (ci := 7) (k := 16) (v := 3270) (am_fd ck_X9_run (pc := 83) rfl) tw_891 kc_3261 rfl (ly_3261_16 hL) kc_3270 ?_
            refine am_steps ck_X9_run 5 (pc' := 92) (lv' := [(5, .int q18), (4, .int q3.1), (0, .ref 3261), (1, .int x1), (2, .int x2), (3, .int x3)]) (st' := [.int (((am_i 3) * q18) + x3), .ref 3270]) rfl ?_
            obtain ⟨hb23, hm⟩ := am_gE hm
            refine ms_iald (n := 96) (am_fd ck_X9_run (pc := 92) rfl) kc_3270 hb23 ?_
            refine am_steps ck_X9_run 1 (pc' := 97) (lv' := [(5, .int q18), (4, .int q3.1), (0, .ref 3261), (1, .int x1), (2, .int x2), (3, .int x3)]) (st' := [.int (q3.2 3270 (am_ix (((am_i 3) * q18) + x3)))]) rfl ?_
            cases hm
            exact am_end (am_fd ck_X9_run (pc := 97) rfl) am_rI rfl rfl
    · replace hm := am_if hm hc4
      refine am_steps ck_X9_run 1 (pc' := 24) (lv' := [(4, .int q3.1), (0, .ref 3261), (1, .int x1), (2, .int x2), (3, .int x3)]) (st' := [.int q3.1]) rfl ?_
      cases hm
      exact am_end (am_fd ck_X9_run (pc := 24) rfl) am_rI rfl rfl
  · replace hm := am_if hm hc2
    refine am_steps ck_X9_run 1 (pc' := 9) (lv' := [(0, .ref 3261), (1, .int x1), (2, .int x2), (3, .int x3)]) (st' := [.int (am_i (-1))]) rfl ?_
    cases hm
    exact am_end (am_fd ck_X9_run (pc := 9) rfl) am_rI rfl rfl
set_option maxRecDepth 100000 in
set_option maxHeartbeats 4000000 in
theorem x_X9_unlike_ {G : am_G} {m : am_m} {r : am_rr} {x1 : Int32} {x2 : Int32} {res : Int32 × am_m} (hL : am_Lay r) (hm : m_X9_unlike_ m x1 x2 = some res) : am_Met G mt_X9_unlike_ 3 [.ref 3261, .int x1, .int x2] (am_hh m r) (some (.int res.1)) (am_hh res.2 r) := by
  refine am_of (by decide) (Nat.le_of_ble_eq_true rfl) ?_
  unfold m_X9_unlike_ at hm
  show am_W G mt_X9_unlike_ 3 _ _ 0 [(0, .ref 3261), (1, .int x1), (2, .int x2)] [] (am_hh m r)
  refine am_steps ck_X9_unlike_ 2 (pc' := 2) (lv' := [(0, .ref 3261), (1, .int x1), (2, .int x2)]) (st' := [.int x1, .ref 3261]) rfl ?_
  obtain ⟨q1, hq1, hm⟩ := am_bE hm
  refine ms_callV (M2 := mt_X9_isUnit) (d2 := 2) (ci := 7) [.int x1] (am_fd ck_X9_unlike_ (pc := 2) rfl) ok_X9_isUnit tw_949 tw_951 ts_28 (by decide) kc_3261 (Nat.le_of_ble_eq_true rfl) (Nat.le_of_ble_eq_true rfl) (x_X9_isUnit hL hq1) ?_
  refine am_ifc (tgt := 16) (am_fd ck_X9_unlike_ (pc := 5) rfl) rfl (fun hc2 => ?_) (fun hc2 => ?_)
  · replace hm := am_it hm hc2
    refine am_steps ck_X9_unlike_ 1 (pc' := 17) (lv' := [(0, .ref 3261), (1, .int x1), (2, .int x2)]) (st' := [.int (am_i (-1))]) rfl ?_
    cases hm
    exact am_end (am_fd ck_X9_unlike_ (pc := 17) rfl) am_rI rfl rfl
  · replace hm := am_if hm hc2
    refine am_steps ck_X9_unlike_ 2 (pc' := 10) (lv' := [(0, .ref 3261), (1, .int x1), (2, .int x2)]) (st' := [.int x2, .ref 3261]) rfl ?_
    obtain ⟨q3, hq3, hm⟩ := am_bE hm
    refine ms_callV (M2 := mt_X9_isUnit) (d2 := 2) (ci := 7) [.int x2] (am_fd ck_X9_unlike_ (pc := 10) rfl) ok_X9_isUnit tw_949 tw_951 ts_28 (by decide) kc_3261 (Nat.le_of_ble_eq_true rfl) (Nat.le_of_ble_eq_true rfl) (x_X9_isUnit hL hq3) ?_
    refine am_ifc (tgt := 18) (am_fd ck_X9_unlike_ (pc := 13) rfl) rfl (fun hc4 => ?_) (fun hc4 => ?_)
    · replace hm := am_it hm hc4
      refine am_steps ck_X9_unlike_ 2 (pc' := 20) (lv' := [(0, .ref 3261), (1, .int x1), (2, .int x2)]) (st' := [.int x1, .ref 3261]) rfl ?_
      obtain ⟨q5, hq5, hm⟩ := am_bE hm
      refine ms_callS (M2 := mt_X9_sumAt) (d2 := 1) [.int x1] (am_fd ck_X9_unlike_ (pc := 20) rfl) ok_X9_sumAt tw_982 tw_983 (Nat.le_of_ble_eq_true rfl) (Nat.le_of_ble_eq_true rfl) (x_X9_sumAt hL hq5) ?_
      refine am_steps ck_X9_unlike_ 1 (pc' := 24) (lv' := [(0, .ref 3261), (1, .int x1), (2, .int x2)]) (st' := [.ref 3261, .int q5, .ref 3261]) rfl ?_
      refine ms_getr (ci := 7) (k := 6) (v := 3266) (am_fd ck_X9_unlike_ (pc := 24) rfl) tw_881 kc_3261 rfl (ly_3261_6 hL) kc_3266 ?_
      obtain ⟨q6, hq6, hm⟩ := am_bE hm
      refine ms_callVv (M2 := mt_X9_lays) (d2 := 1) (ci := 7) [.int q5, .ref 3266] (am_fd ck_X9_unlike_ (pc := 27) rfl) ok_X9_lays tw_1001 tw_1003 ts_36 (by decide) kc_3261 (Nat.le_of_ble_eq_true rfl) (Nat.le_of_ble_eq_true rfl) (x_X9_lays hL kc_3266 hq6) ?_
      refine am_steps ck_X9_unlike_ 2 (pc' := 32) (lv' := [(0, .ref 3261), (1, .int x1), (2, .int x2)]) (st' := [.int x2, .ref 3261]) rfl ?_
      obtain ⟨q7, hq7, hm⟩ := am_bE hm
      refine ms_callS (M2 := mt_X9_sumAt) (d2 := 1) [.int x2] (am_fd ck_X9_unlike_ (pc := 32) rfl) ok_X9_sumAt tw_982 tw_983 (Nat.le_of_ble_eq_true rfl) (Nat.le_of_ble_eq_true rfl) (x_X9_sumAt hL hq7) ?_
      refine am_steps ck_X9_unlike_ 1 (pc' := 36) (lv' := [(0, .ref 3261), (1, .int x1), (2, .int x2)]) (st' := [.ref 3261, .int q7, .ref 3261]) rfl ?_
      refine ms_getr (ci := 7) (k := 7) (v := 3267) (am_fd ck_X9_unlike_ (pc := 36) rfl) tw_882 kc_3261 rfl (ly_3261_7 hL) kc_3267 ?_
      obtain ⟨q8, hq8, hm⟩ := am_bE hm
      refine ms_callVv (M2 := mt_X9_lays) (d2 := 1) (ci := 7) [.int q7, .ref 3267] (am_fd ck_X9_unlike_ (pc := 39) rfl) ok_X9_lays tw_1001 tw_1003 ts_36 (by decide) kc_3261 (Nat.le_of_ble_eq_true rfl) (Nat.le_of_ble_eq_true rfl) (x_X9_lays hL kc_3267 hq8) ?_
      refine am_steps ck_X9_unlike_ 1 (pc' := 43) (lv' := [(0, .ref 3261), (1, .int x1), (2, .int x2)]) (st' := [.ref 3261]) rfl ?_
      refine ms_getr (ci := 7) (k := 6) (v := 3266) (am_fd ck_X9_unlike_ (pc := 43) rfl) tw_881 kc_3261 rfl (ly_3261_6 hL) kc_3266 ?_
      refine am_steps ck_X9_unlike_ 1 (pc' := 47) (lv' := [(0, .ref 3261), (1, .int x1), (2, .int x2)]) (st' := [.ref 3261, .ref 3266]) rfl ?_
      refine ms_getr (ci := 7) (k := 7) (v := 3267) (am_fd ck_X9_unlike_ (pc := 47) rfl) tw_882 kc_3261 rfl (ly_3261_7 hL) kc_3267 ?_
      obtain ⟨q9, hq9, hm⟩ := am_bE hm
      refine ms_callS (M2 := mt_X9_unlike) (d2 := 1) [.ref 3266, .ref 3267] (am_fd ck_X9_unlike_ (pc := 50) rfl) ok_X9_unlike tw_1320 tw_1321 (Nat.le_of_ble_eq_true rfl) (Nat.le_of_ble_eq_true rfl) (x_X9_unlike hL kc_3266 kc_3267 hq9) ?_
      cases hm
      exact am_end (am_fd ck_X9_unlike_ (pc := 53) rfl) am_rI rfl rfl
    · replace hm := am_if hm hc4
      refine am_steps ck_X9_unlike_ 1 (pc' := 17) (lv' := [(0, .ref 3261), (1, .int x1), (2, .int x2)]) (st' := [.int (am_i (-1))]) rfl ?_
      cases hm
      exact am_end (am_fd ck_X9_unlike_ (pc := 17) rfl) am_rI rfl rfl
set_option maxRecDepth 100000 in
set_option maxHeartbeats 4000000 in
theorem x_X9_twin_14 {G : am_G} {x1 : Int32} {r : am_rr} {y1 : Int32} {res : Int32 × am_m} {k : Int32 → am_m → Option (Int32 × am_m)} (hL : am_Lay r) : ∀ (n : Nat) (z2 : Int32) (z3 : Int32) (m : am_m), m_X9_twin_14 x1 y1 k n z2 z3 m = some res → (∀ (u2 : Int32) (m1 : am_m), k u2 m1 = some res → am_W G mt_X9_twin 4 (some (.int res.1)) (am_hh res.2 r) 61 [(2, .int u2)] [] (am_hh m1 r)) → am_W G mt_X9_twin 4 (some (.int res.1)) (am_hh res.2 r) 14 [(0, .ref 3261), (1, .int y1), (2, .int z2), (3, .int z3)] [] (am_hh m r) := by
  intro n
  induction n with
  | zero => intro z2 z3 m hm K; cases hm
  | succ n ih =>
    intro z2 z3 m hm K
    unfold m_X9_twin_14 at hm
    refine am_steps ck_X9_twin 2 (pc' := 17) (lv' := [(0, .ref 3261), (1, .int y1), (2, .int z2), (3, .int z3)]) (st' := [.int (am_i 24), .int z3]) rfl ?_
    refine am_icmp (tgt := 61) (am_fd ck_X9_twin (pc := 17) rfl) rfl (fun hc3 => ?_) (fun hc3 => ?_)
    · replace hm := am_it hm hc3
      refine am_subp [2] rfl ?_
      exact K _ _ hm
    · replace hm := am_if hm hc3
      refine am_steps ck_X9_twin 2 (pc' := 22) (lv' := [(0, .ref 3261), (1, .int y1), (2, .int z2), (3, .int z3)]) (st' := [.int y1, .int z3]) rfl ?_
      refine am_icmp (tgt := 55) (am_fd ck_X9_twin (pc := 22) rfl) rfl (fun hc4 => ?_) (fun hc4 => ?_)
      · replace hm := am_it hm hc4
        refine am_steps ck_X9_twin 2 (pc' := 14) (lv' := [(3, .int (z3 + am_i 1)), (0, .ref 3261), (1, .int y1), (2, .int z2)]) (st' := []) rfl ?_
        refine am_subp [1, 2, 3, 0] rfl ?_
        exact ih _ _ _ hm K
      · replace hm := am_if hm hc4
        refine am_steps ck_X9_twin 2 (pc' := 27) (lv' := [(0, .ref 3261), (1, .int y1), (2, .int z2), (3, .int z3)]) (st' := [.int z3, .ref 3261]) rfl ?_
        obtain ⟨q5, hq5, hm⟩ := am_bE hm
        refine ms_callV (M2 := mt_X9_isUnit) (d2 := 2) (ci := 7) [.int z3] (am_fd ck_X9_twin (pc := 27) rfl) ok_X9_isUnit tw_949 tw_951 ts_28 (by decide) kc_3261 (Nat.le_of_ble_eq_true rfl) (Nat.le_of_ble_eq_true rfl) (x_X9_isUnit hL hq5) ?_
        refine am_ifc (tgt := 55) (am_fd ck_X9_twin (pc := 30) rfl) rfl (fun hc6 => ?_) (fun hc6 => ?_)
        · replace hm := am_it hm hc6
          refine am_steps ck_X9_twin 2 (pc' := 14) (lv' := [(3, .int (z3 + am_i 1)), (0, .ref 3261), (1, .int y1), (2, .int z2)]) (st' := []) rfl ?_
          refine am_subp [1, 2, 3, 0] rfl ?_
          exact ih _ _ _ hm K
        · replace hm := am_if hm hc6
          refine am_steps ck_X9_twin 2 (pc' := 35) (lv' := [(0, .ref 3261), (1, .int y1), (2, .int z2), (3, .int z3)]) (st' := [.int (am_i (-1)), .int z2]) rfl ?_
          refine am_icmp (tgt := 53) (am_fd ck_X9_twin (pc := 35) rfl) rfl (fun hc7 => ?_) (fun hc7 => ?_)
          · replace hm := am_it hm hc7
            refine am_steps ck_X9_twin 4 (pc' := 14) (lv' := [(3, .int (z3 + am_i 1)), (2, .int z3), (0, .ref 3261), (1, .int y1)]) (st' := []) rfl ?_
            refine am_subp [2, 3, 1, 0] rfl ?_
            exact ih _ _ _ hm K
          · replace hm := am_if hm hc7
            refine am_steps ck_X9_twin 3 (pc' := 41) (lv' := [(0, .ref 3261), (1, .int y1), (2, .int z2), (3, .int z3)]) (st' := [.int z3, .int y1, .ref 3261]) rfl ?_
            obtain ⟨q8, hq8, hm⟩ := am_bE hm
            refine ms_callV (M2 := mt_X9_unlike_) (d2 := 3) (ci := 7) [.int y1, .int z3] (am_fd ck_X9_twin (pc := 41) rfl) ok_X9_unlike_ tw_1316 tw_1317 tw_1318 (by decide) kc_3261 (Nat.le_of_ble_eq_true rfl) (Nat.le_of_ble_eq_true rfl) (x_X9_unlike_ hL hq8) ?_
            refine am_steps ck_X9_twin 3 (pc' := 47) (lv' := [(0, .ref 3261), (1, .int y1), (2, .int z2), (3, .int z3)]) (st' := [.int z2, .int y1, .ref 3261, .int q8.1]) rfl ?_
            obtain ⟨q9, hq9, hm⟩ := am_bE hm
            refine ms_callV (M2 := mt_X9_unlike_) (d2 := 3) (ci := 7) [.int y1, .int z2] (am_fd ck_X9_twin (pc := 47) rfl) ok_X9_unlike_ tw_1316 tw_1317 tw_1318 (by decide) kc_3261 (Nat.le_of_ble_eq_true rfl) (Nat.le_of_ble_eq_true rfl) (x_X9_unlike_ hL hq9) ?_
            refine am_icmp (tgt := 55) (am_fd ck_X9_twin (pc := 50) rfl) rfl (fun hc10 => ?_) (fun hc10 => ?_)
            · replace hm := am_it hm hc10
              refine am_steps ck_X9_twin 2 (pc' := 14) (lv' := [(3, .int (z3 + am_i 1)), (0, .ref 3261), (1, .int y1), (2, .int z2)]) (st' := []) rfl ?_
              refine am_subp [1, 2, 3, 0] rfl ?_
              exact ih _ _ _ hm K
            · replace hm := am_if hm hc10
              refine am_steps ck_X9_twin 4 (pc' := 14) (lv' := [(3, .int (z3 + am_i 1)), (2, .int z3), (0, .ref 3261), (1, .int y1)]) (st' := []) rfl ?_
              refine am_subp [2, 3, 1, 0] rfl ?_
              exact ih _ _ _ hm K
set_option maxRecDepth 100000 in
set_option maxHeartbeats 4000000 in
theorem x_X9_twin {G : am_G} {m : am_m} {r : am_rr} {x1 : Int32} {res : Int32 × am_m} (hL : am_Lay r) (hm : m_X9_twin m x1 = some res) : am_Met G mt_X9_twin 4 [.ref 3261, .int x1] (am_hh m r) (some (.int res.1)) (am_hh res.2 r) := by
  refine am_of (by decide) (Nat.le_of_ble_eq_true rfl) ?_
  unfold m_X9_twin at hm
  show am_W G mt_X9_twin 4 _ _ 0 [(0, .ref 3261), (1, .int x1)] [] (am_hh m r)
  refine am_steps ck_X9_twin 2 (pc' := 2) (lv' := [(0, .ref 3261), (1, .int x1)]) (st' := [.int x1, .ref 3261]) rfl ?_
  obtain ⟨q1, hq1, hm⟩ := am_bE hm
  refine ms_callV (M2 := mt_X9_isUnit) (d2 := 2) (ci := 7) [.int x1] (am_fd ck_X9_twin (pc := 2) rfl) ok_X9_isUnit tw_949 tw_951 ts_28 (by decide) kc_3261 (Nat.le_of_ble_eq_true rfl) (Nat.le_of_ble_eq_true rfl) (x_X9_isUnit hL hq1) ?_
  refine am_ifc (tgt := 10) (am_fd ck_X9_twin (pc := 5) rfl) rfl (fun hc2 => ?_) (fun hc2 => ?_)
  · replace hm := am_it hm hc2
    refine am_steps ck_X9_twin 4 (pc' := 14) (lv' := [(3, .int (am_i 0)), (2, .int (am_i (-1))), (0, .ref 3261), (1, .int x1)]) (st' := []) rfl ?_
    refine am_subp [2, 3, 1, 0] rfl ?_
    refine x_X9_twin_14 hL am_F _ _ _ hm (fun u11 m12 hm => ?_)
    refine am_steps ck_X9_twin 1 (pc' := 62) (lv' := [(2, .int u11)]) (st' := [.int u11]) rfl ?_
    cases hm
    exact am_end (am_fd ck_X9_twin (pc := 62) rfl) am_rI rfl rfl
  · replace hm := am_if hm hc2
    refine am_steps ck_X9_twin 1 (pc' := 9) (lv' := [(0, .ref 3261), (1, .int x1)]) (st' := [.int (am_i (-1))]) rfl ?_
    cases hm
    exact am_end (am_fd ck_X9_twin (pc := 9) rfl) am_rI rfl rfl
set_option maxRecDepth 100000 in
set_option maxHeartbeats 4000000 in
theorem x_X9_says {G : am_G} {m : am_m} {r : am_rr} {x1 : Int32} {res : am_m} (hL : am_Lay r) (hm : m_X9_says m x1 = some res) : am_Met G mt_X9_says 1 [.ref 3261, .int x1] (am_hh m r) none (am_hh res r) := by
  refine am_of (by decide) (Nat.le_of_ble_eq_true rfl) ?_
  unfold m_X9_says at hm
  show am_W G mt_X9_says 1 _ _ 0 [(0, .ref 3261), (1, .int x1)] [] (am_hh m r)
  refine am_steps ck_X9_says 1 (pc' := 1) (lv' := [(0, .ref 3261), (1, .int x1)]) (st' := [.ref 3261]) rfl ?_
  refine ms_getr (ci := 7) (k := 17) (v := 3271) (am_fd ck_X9_says (pc := 1) rfl) tw_892 kc_3261 rfl (ly_3261_17 hL) kc_3271 ?_
  refine am_steps ck_X9_says 1 (pc' := 5) (lv' := [(0, .ref 3261), (1, .int x1)]) (st' := [.ref 3261, .ref 3271]) rfl ?_
  refine ms_geti (ci := 7) (k := 18) (am_fd ck_X9_says (pc := 5) rfl) tw_893 kc_3261 rfl ?_
  refine am_steps ck_X9_says 1 (pc' := 9) (lv' := [(0, .ref 3261), (1, .int x1)]) (st' := [.int x1, .int (m 3261 18), .ref 3271]) rfl ?_
  obtain ⟨hb1, hm⟩ := am_gE hm
  refine ms_iast (n := 120) (am_fd ck_X9_says (pc := 9) rfl) kc_3271 hb1 (fun m2 em2 => ?_)
  replace hm := am_letE em2 hm
  refine am_steps ck_X9_says 2 (pc' := 12) (lv' := [(0, .ref 3261), (1, .int x1)]) (st' := [.ref 3261, .ref 3261]) rfl ?_
  refine ms_geti (ci := 7) (k := 18) (am_fd ck_X9_says (pc := 12) rfl) tw_893 kc_3261 rfl ?_
  refine am_steps ck_X9_says 2 (pc' := 17) (lv' := [(0, .ref 3261), (1, .int x1)]) (st' := [.int ((m2 3261 18) + (am_i 1)), .ref 3261]) rfl ?_
  refine ms_puti (ci := 7) (k := 18) (am_fd ck_X9_says (pc := 17) rfl) tw_893 kc_3261 rfl rfl (fun m3 em3 => ?_)
  replace hm := am_letE em3 hm
  cases hm
  exact am_end (am_fd ck_X9_says (pc := 20) rfl) am_rV rfl rfl
set_option maxRecDepth 100000 in
set_option maxHeartbeats 4000000 in
theorem x_X9_saysNumber {G : am_G} : ∀ (f : Nat) {m : am_m} {r : am_rr} {x1 : Int32} {res : am_m}, am_Lay r → m_X9_saysNumber f m x1 = some res → am_Met G mt_X9_saysNumber (2 + f) [.ref 3261, .int x1] (am_hh m r) none (am_hh res r) := by
  intro f
  induction f with
  | zero => intro m r x1 res hL hm; cases hm
  | succ f sh =>
    intro m r x1 res hL hm
    refine am_of (by decide) (Nat.le_of_ble_eq_true rfl) ?_
    have hdd : 2 ≤ 2 + f := Nat.le_add_right _ _
    change (if x1 ≤ (am_i 9) then (m_X9_says m ((am_i 48) + (x1 - x1 / (am_i 10) * (am_i 10)))).bind fun q2 => some q2 else ((m_X9_saysNumber f) m (x1 / (am_i 10))).bind fun q3 => (m_X9_says q3 ((am_i 48) + (x1 - x1 / (am_i 10) * (am_i 10)))).bind fun q4 => some q4) = some res at hm
    show am_W G mt_X9_saysNumber (2 + f + 1) _ _ 0 [(0, .ref 3261), (1, .int x1)] [] (am_hh m r)
    refine am_steps ck_X9_saysNumber 2 (pc' := 3) (lv' := [(0, .ref 3261), (1, .int x1)]) (st' := [.int (am_i 9), .int x1]) rfl ?_
    refine am_icmp (tgt := 14) (am_fd ck_X9_saysNumber (pc := 3) rfl) rfl (fun hc1 => ?_) (fun hc1 => ?_)
    · replace hm := am_it hm hc1
      refine am_steps ck_X9_saysNumber 4 (pc' := 20) (lv' := [(0, .ref 3261), (1, .int x1)]) (st' := [.int (am_i 10), .int x1, .int (am_i 48), .ref 3261]) rfl ?_
      refine am_irem (am_fd ck_X9_saysNumber (pc := 20) rfl) (by decide) ?_
      refine am_steps ck_X9_saysNumber 1 (pc' := 22) (lv' := [(0, .ref 3261), (1, .int x1)]) (st' := [.int ((am_i 48) + (x1 - x1 / (am_i 10) * (am_i 10))), .ref 3261]) rfl ?_
      obtain ⟨q2, hq2, hm⟩ := am_bE hm
      refine ms_callVv (M2 := mt_X9_says) (d2 := 1) (ci := 7) [.int ((am_i 48) + (x1 - x1 / (am_i 10) * (am_i 10)))] (am_fd ck_X9_saysNumber (pc := 22) rfl) ok_X9_says tw_1331 tw_1333 ts_75 (by decide) kc_3261 (by omega) (Nat.le_of_ble_eq_true rfl) (x_X9_says hL hq2) ?_
      cases hm
      exact am_end (am_fd ck_X9_saysNumber (pc := 25) rfl) am_rV rfl rfl
    · replace hm := am_if hm hc1
      refine am_steps ck_X9_saysNumber 3 (pc' := 10) (lv' := [(0, .ref 3261), (1, .int x1)]) (st' := [.int (am_i 10), .int x1, .ref 3261]) rfl ?_
      refine am_idiv (am_fd ck_X9_saysNumber (pc := 10) rfl) (by decide) ?_
      obtain ⟨q3, hq3, hm⟩ := am_bE hm
      refine ms_callVv (M2 := mt_X9_saysNumber) (d2 := (2 + f)) (ci := 7) [.int (x1 / (am_i 10))] (am_fd ck_X9_saysNumber (pc := 11) rfl) ok_X9_saysNumber tw_1327 tw_1329 ts_74 (by decide) kc_3261 (by omega) (Nat.le_of_ble_eq_true rfl) (sh hL hq3) ?_
      refine am_steps ck_X9_saysNumber 4 (pc' := 20) (lv' := [(0, .ref 3261), (1, .int x1)]) (st' := [.int (am_i 10), .int x1, .int (am_i 48), .ref 3261]) rfl ?_
      refine am_irem (am_fd ck_X9_saysNumber (pc := 20) rfl) (by decide) ?_
      refine am_steps ck_X9_saysNumber 1 (pc' := 22) (lv' := [(0, .ref 3261), (1, .int x1)]) (st' := [.int ((am_i 48) + (x1 - x1 / (am_i 10) * (am_i 10))), .ref 3261]) rfl ?_
      obtain ⟨q4, hq4, hm⟩ := am_bE hm
      refine ms_callVv (M2 := mt_X9_says) (d2 := 1) (ci := 7) [.int ((am_i 48) + (x1 - x1 / (am_i 10) * (am_i 10)))] (am_fd ck_X9_saysNumber (pc := 22) rfl) ok_X9_says tw_1331 tw_1333 ts_75 (by decide) kc_3261 (by omega) (Nat.le_of_ble_eq_true rfl) (x_X9_says hL hq4) ?_
      cases hm
      exact am_end (am_fd ck_X9_saysNumber (pc := 25) rfl) am_rV rfl rfl
set_option maxRecDepth 100000 in
set_option maxHeartbeats 4000000 in
theorem x_X9_report_49 {G : am_G} {x1 : Int32} {r : am_rr} {y1 : Int32} {y2 : Int32} {res : Int32 × am_m} {k : am_m → Option (Int32 × am_m)} (hL : am_Lay r) : ∀ (n : Nat) (z3 : Int32) (m : am_m), m_X9_report_49 x1 y1 y2 k n z3 m = some res → (∀ (m1 : am_m), k m1 = some res → am_W G mt_X9_report 23 (some (.int res.1)) (am_hh res.2 r) 107 [(0, .ref 3261), (2, .int y2)] [] (am_hh m1 r)) → am_W G mt_X9_report 23 (some (.int res.1)) (am_hh res.2 r) 49 [(0, .ref 3261), (1, .int y1), (2, .int y2), (3, .int z3)] [] (am_hh m r) := by
  intro n
  induction n with
  | zero => intro z3 m hm K; cases hm
  | succ n ih =>
    intro z3 m hm K
    unfold m_X9_report_49 at hm
    refine am_steps ck_X9_report 2 (pc' := 51) (lv' := [(0, .ref 3261), (1, .int y1), (2, .int y2), (3, .int z3)]) (st' := [.int y2, .int z3]) rfl ?_
    refine am_icmp (tgt := 107) (am_fd ck_X9_report (pc := 51) rfl) rfl (fun hc9 => ?_) (fun hc9 => ?_)
    · replace hm := am_it hm hc9
      refine am_subp [0, 2] rfl ?_
      exact K _ hm
    · replace hm := am_if hm hc9
      refine am_steps ck_X9_report 2 (pc' := 56) (lv' := [(0, .ref 3261), (1, .int y1), (2, .int y2), (3, .int z3)]) (st' := [.int (am_i 5), .int z3]) rfl ?_
      refine am_icmp (tgt := 107) (am_fd ck_X9_report (pc := 56) rfl) rfl (fun hc10 => ?_) (fun hc10 => ?_)
      · replace hm := am_it hm hc10
        refine am_subp [0, 2] rfl ?_
        exact K _ hm
      · replace hm := am_if hm hc10
        refine am_steps ck_X9_report 3 (pc' := 62) (lv' := [(0, .ref 3261), (1, .int y1), (2, .int y2), (3, .int z3)]) (st' := [.int z3, .int y1, .ref 3261]) rfl ?_
        obtain ⟨q11, hq11, hm⟩ := am_bE hm
        refine ms_callV (M2 := mt_X9_leaderOf) (d2 := 3) (ci := 7) [.int y1, .int z3] (am_fd ck_X9_report (pc := 62) rfl) ok_X9_leaderOf tw_1209 tw_1211 ts_65 (by decide) kc_3261 (Nat.le_of_ble_eq_true rfl) (Nat.le_of_ble_eq_true rfl) (x_X9_leaderOf hL hq11) ?_
        refine am_steps ck_X9_report 3 (pc' := 70) (lv' := [(4, .int q11), (0, .ref 3261), (1, .int y1), (2, .int y2), (3, .int z3)]) (st' := [.int (am_i 32), .ref 3261]) rfl ?_
        obtain ⟨q12, hq12, hm⟩ := am_bE hm
        refine ms_callVv (M2 := mt_X9_says) (d2 := 1) (ci := 7) [.int (am_i 32)] (am_fd ck_X9_report (pc := 70) rfl) ok_X9_says tw_1331 tw_1333 ts_75 (by decide) kc_3261 (Nat.le_of_ble_eq_true rfl) (Nat.le_of_ble_eq_true rfl) (x_X9_says hL hq12) ?_
        refine am_steps ck_X9_report 2 (pc' := 76) (lv' := [(4, .int q11), (0, .ref 3261), (1, .int y1), (2, .int y2), (3, .int z3)]) (st' := [.int q11, .ref 3261]) rfl ?_
        obtain ⟨q13, hq13, hm⟩ := am_bE hm
        refine ms_callVv (M2 := mt_X9_saysNumber) (d2 := 22) (ci := 7) [.int q11] (am_fd ck_X9_report (pc := 76) rfl) ok_X9_saysNumber tw_1327 tw_1329 ts_74 (by decide) kc_3261 (Nat.le_of_ble_eq_true rfl) (Nat.le_of_ble_eq_true rfl) (x_X9_saysNumber 20 hL hq13) ?_
        refine am_steps ck_X9_report 2 (pc' := 82) (lv' := [(4, .int q11), (0, .ref 3261), (1, .int y1), (2, .int y2), (3, .int z3)]) (st' := [.int (am_i 120), .ref 3261]) rfl ?_
        obtain ⟨q14, hq14, hm⟩ := am_bE hm
        refine ms_callVv (M2 := mt_X9_says) (d2 := 1) (ci := 7) [.int (am_i 120)] (am_fd ck_X9_report (pc := 82) rfl) ok_X9_says tw_1331 tw_1333 ts_75 (by decide) kc_3261 (Nat.le_of_ble_eq_true rfl) (Nat.le_of_ble_eq_true rfl) (x_X9_says hL hq14) ?_
        refine am_steps ck_X9_report 2 (pc' := 87) (lv' := [(4, .int q11), (0, .ref 3261), (1, .int y1), (2, .int y2), (3, .int z3)]) (st' := [.ref 3261, .ref 3261]) rfl ?_
        refine ms_getr (ci := 7) (k := 0) (v := 3262) (am_fd ck_X9_report (pc := 87) rfl) tw_875 kc_3261 rfl (ly_3261_0 hL) kc_3262 ?_
        refine am_steps ck_X9_report 1 (pc' := 91) (lv' := [(4, .int q11), (0, .ref 3261), (1, .int y1), (2, .int y2), (3, .int z3)]) (st' := [.int y1, .ref 3262, .ref 3261]) rfl ?_
        obtain ⟨q15, hq15, hm⟩ := am_bE hm
        refine ms_callS (M2 := mt_X9_sumAt) (d2 := 1) [.int y1] (am_fd ck_X9_report (pc := 91) rfl) ok_X9_sumAt tw_982 tw_983 (Nat.le_of_ble_eq_true rfl) (Nat.le_of_ble_eq_true rfl) (x_X9_sumAt hL hq15) ?_
        refine am_steps ck_X9_report 2 (pc' := 97) (lv' := [(4, .int q11), (0, .ref 3261), (1, .int y1), (2, .int y2), (3, .int z3)]) (st' := [.int (q15 + q11), .ref 3262, .ref 3261]) rfl ?_
        obtain ⟨hb16, hm⟩ := am_gE hm
        refine ms_iald (n := 15517) (am_fd ck_X9_report (pc := 97) rfl) kc_3262 hb16 ?_
        obtain ⟨q17, hq17, hm⟩ := am_bE hm
        refine ms_callVv (M2 := mt_X9_saysNumber) (d2 := 22) (ci := 7) [.int (q14 3262 (am_ix (q15 + q11)))] (am_fd ck_X9_report (pc := 98) rfl) ok_X9_saysNumber tw_1327 tw_1329 ts_74 (by decide) kc_3261 (Nat.le_of_ble_eq_true rfl) (Nat.le_of_ble_eq_true rfl) (x_X9_saysNumber 20 hL hq17) ?_
        refine am_steps ck_X9_report 2 (pc' := 49) (lv' := [(3, .int (z3 + am_i 1)), (4, .int q11), (0, .ref 3261), (1, .int y1), (2, .int y2)]) (st' := []) rfl ?_
        refine am_subp [2, 3, 4, 0] rfl ?_
        exact ih _ _ hm K
set_option maxRecDepth 100000 in
set_option maxHeartbeats 4000000 in
theorem x_X9_report {G : am_G} {m : am_m} {r : am_rr} {x1 : Int32} {res : Int32 × am_m} (hL : am_Lay r) (hm : m_X9_report m x1 = some res) : am_Met G mt_X9_report 23 [.ref 3261, .int x1] (am_hh m r) (some (.int res.1)) (am_hh res.2 r) := by
  refine am_of (by decide) (Nat.le_of_ble_eq_true rfl) ?_
  unfold m_X9_report at hm
  show am_W G mt_X9_report 23 _ _ 0 [(0, .ref 3261), (1, .int x1)] [] (am_hh m r)
  refine am_steps ck_X9_report 2 (pc' := 2) (lv' := [(0, .ref 3261), (1, .int x1)]) (st' := [.int (am_i 0), .ref 3261]) rfl ?_
  refine ms_puti (ci := 7) (k := 18) (am_fd ck_X9_report (pc := 2) rfl) tw_893 kc_3261 rfl rfl (fun m1 em1 => ?_)
  replace hm := am_letE em1 hm
  refine am_steps ck_X9_report 2 (pc' := 7) (lv' := [(0, .ref 3261), (1, .int x1)]) (st' := [.int x1, .ref 3261]) rfl ?_
  obtain ⟨q2, hq2, hm⟩ := am_bE hm
  refine ms_callV (M2 := mt_X9_isUnit) (d2 := 2) (ci := 7) [.int x1] (am_fd ck_X9_report (pc := 7) rfl) ok_X9_isUnit tw_949 tw_951 ts_28 (by decide) kc_3261 (Nat.le_of_ble_eq_true rfl) (Nat.le_of_ble_eq_true rfl) (x_X9_isUnit hL hq2) ?_
  refine am_ifc (tgt := 15) (am_fd ck_X9_report (pc := 10) rfl) rfl (fun hc3 => ?_) (fun hc3 => ?_)
  · replace hm := am_it hm hc3
    refine am_steps ck_X9_report 2 (pc' := 17) (lv' := [(0, .ref 3261), (1, .int x1)]) (st' := [.int x1, .ref 3261]) rfl ?_
    obtain ⟨q4, hq4, hm⟩ := am_bE hm
    refine ms_callVv (M2 := mt_X9_saysNumber) (d2 := 22) (ci := 7) [.int x1] (am_fd ck_X9_report (pc := 17) rfl) ok_X9_saysNumber tw_1327 tw_1329 ts_74 (by decide) kc_3261 (Nat.le_of_ble_eq_true rfl) (Nat.le_of_ble_eq_true rfl) (x_X9_saysNumber 20 hL hq4) ?_
    refine am_steps ck_X9_report 2 (pc' := 23) (lv' := [(0, .ref 3261), (1, .int x1)]) (st' := [.int (am_i 58), .ref 3261]) rfl ?_
    obtain ⟨q5, hq5, hm⟩ := am_bE hm
    refine ms_callVv (M2 := mt_X9_says) (d2 := 1) (ci := 7) [.int (am_i 58)] (am_fd ck_X9_report (pc := 23) rfl) ok_X9_says tw_1331 tw_1333 ts_75 (by decide) kc_3261 (Nat.le_of_ble_eq_true rfl) (Nat.le_of_ble_eq_true rfl) (x_X9_says hL hq5) ?_
    refine am_steps ck_X9_report 2 (pc' := 28) (lv' := [(0, .ref 3261), (1, .int x1)]) (st' := [.int x1, .ref 3261]) rfl ?_
    obtain ⟨q6, hq6, hm⟩ := am_bE hm
    refine ms_callS (M2 := mt_X9_sumAt) (d2 := 1) [.int x1] (am_fd ck_X9_report (pc := 28) rfl) ok_X9_sumAt tw_982 tw_983 (Nat.le_of_ble_eq_true rfl) (Nat.le_of_ble_eq_true rfl) (x_X9_sumAt hL hq6) ?_
    refine am_steps ck_X9_report 1 (pc' := 32) (lv' := [(0, .ref 3261), (1, .int x1)]) (st' := [.ref 3261, .int q6, .ref 3261]) rfl ?_
    refine ms_getr (ci := 7) (k := 6) (v := 3266) (am_fd ck_X9_report (pc := 32) rfl) tw_881 kc_3261 rfl (ly_3261_6 hL) kc_3266 ?_
    obtain ⟨q7, hq7, hm⟩ := am_bE hm
    refine ms_callVv (M2 := mt_X9_lays) (d2 := 1) (ci := 7) [.int q6, .ref 3266] (am_fd ck_X9_report (pc := 35) rfl) ok_X9_lays tw_1001 tw_1003 ts_36 (by decide) kc_3261 (Nat.le_of_ble_eq_true rfl) (Nat.le_of_ble_eq_true rfl) (x_X9_lays hL kc_3266 hq7) ?_
    refine am_steps ck_X9_report 2 (pc' := 40) (lv' := [(0, .ref 3261), (1, .int x1)]) (st' := [.ref 3261, .ref 3261]) rfl ?_
    refine ms_getr (ci := 7) (k := 6) (v := 3266) (am_fd ck_X9_report (pc := 40) rfl) tw_881 kc_3261 rfl (ly_3261_6 hL) kc_3266 ?_
    obtain ⟨q8, hq8, hm⟩ := am_bE hm
    refine ms_callV (M2 := mt_X9_positive) (d2 := 1) (ci := 7) [.ref 3266] (am_fd ck_X9_report (pc := 43) rfl) ok_X9_positive tw_1173 tw_1175 ts_63 (by decide) kc_3261 (Nat.le_of_ble_eq_true rfl) (Nat.le_of_ble_eq_true rfl) (x_X9_positive hL kc_3266 hq8) ?_
    refine am_steps ck_X9_report 3 (pc' := 49) (lv' := [(3, .int (am_i 0)), (2, .int q8), (0, .ref 3261), (1, .int x1)]) (st' := []) rfl ?_
    refine am_subp [2, 3, 1, 0] rfl ?_
    refine x_X9_report_49 hL am_F _ _ hm (fun m18 hm => ?_)
    refine am_steps ck_X9_report 2 (pc' := 109) (lv' := [(0, .ref 3261), (2, .int q8)]) (st' := [.int (am_i 5), .int q8]) rfl ?_
    refine am_icmp (tgt := 131) (am_fd ck_X9_report (pc := 109) rfl) rfl (fun hc19 => ?_) (fun hc19 => ?_)
    · replace hm := am_it hm hc19
      refine am_steps ck_X9_report 1 (pc' := 132) (lv' := [(0, .ref 3261), (2, .int q8)]) (st' := [.ref 3261]) rfl ?_
      refine ms_geti (ci := 7) (k := 18) (am_fd ck_X9_report (pc := 132) rfl) tw_893 kc_3261 rfl ?_
      cases hm
      exact am_end (am_fd ck_X9_report (pc := 135) rfl) am_rI rfl rfl
    · replace hm := am_if hm hc19
      refine am_steps ck_X9_report 2 (pc' := 115) (lv' := [(0, .ref 3261), (2, .int q8)]) (st' := [.int (am_i 32), .ref 3261]) rfl ?_
      obtain ⟨q20, hq20, hm⟩ := am_bE hm
      refine ms_callVv (M2 := mt_X9_says) (d2 := 1) (ci := 7) [.int (am_i 32)] (am_fd ck_X9_report (pc := 115) rfl) ok_X9_says tw_1331 tw_1333 ts_75 (by decide) kc_3261 (Nat.le_of_ble_eq_true rfl) (Nat.le_of_ble_eq_true rfl) (x_X9_says hL hq20) ?_
      refine am_steps ck_X9_report 2 (pc' := 121) (lv' := [(0, .ref 3261), (2, .int q8)]) (st' := [.int (am_i 43), .ref 3261]) rfl ?_
      obtain ⟨q21, hq21, hm⟩ := am_bE hm
      refine ms_callVv (M2 := mt_X9_says) (d2 := 1) (ci := 7) [.int (am_i 43)] (am_fd ck_X9_report (pc := 121) rfl) ok_X9_says tw_1331 tw_1333 ts_75 (by decide) kc_3261 (Nat.le_of_ble_eq_true rfl) (Nat.le_of_ble_eq_true rfl) (x_X9_says hL hq21) ?_
      refine am_steps ck_X9_report 4 (pc' := 128) (lv' := [(0, .ref 3261), (2, .int q8)]) (st' := [.int (q8 - (am_i 5)), .ref 3261]) rfl ?_
      obtain ⟨q22, hq22, hm⟩ := am_bE hm
      refine ms_callVv (M2 := mt_X9_saysNumber) (d2 := 22) (ci := 7) [.int (q8 - (am_i 5))] (am_fd ck_X9_report (pc := 128) rfl) ok_X9_saysNumber tw_1327 tw_1329 ts_74 (by decide) kc_3261 (Nat.le_of_ble_eq_true rfl) (Nat.le_of_ble_eq_true rfl) (x_X9_saysNumber 20 hL hq22) ?_
      refine am_steps ck_X9_report 1 (pc' := 132) (lv' := [(0, .ref 3261), (2, .int q8)]) (st' := [.ref 3261]) rfl ?_
      refine ms_geti (ci := 7) (k := 18) (am_fd ck_X9_report (pc := 132) rfl) tw_893 kc_3261 rfl ?_
      cases hm
      exact am_end (am_fd ck_X9_report (pc := 135) rfl) am_rI rfl rfl
  · replace hm := am_if hm hc3
    refine am_steps ck_X9_report 1 (pc' := 14) (lv' := [(0, .ref 3261), (1, .int x1)]) (st' := [.int (am_i (-1))]) rfl ?_
    cases hm
    exact am_end (am_fd ck_X9_report (pc := 14) rfl) am_rI rfl rfl
set_option maxRecDepth 100000 in
set_option maxHeartbeats 4000000 in
theorem x_X9_sign {G : am_G} {m : am_m} {r : am_rr} {x1 : Int32} {res : Int32} (hL : am_Lay r) (hm : m_X9_sign m x1 = some res) : am_Met G mt_X9_sign 2 [.ref 3261, .int x1] (am_hh m r) (some (.int res)) (am_hh m r) := by
  refine am_of (by decide) (Nat.le_of_ble_eq_true rfl) ?_
  unfold m_X9_sign at hm
  show am_W G mt_X9_sign 2 _ _ 0 [(0, .ref 3261), (1, .int x1)] [] (am_hh m r)
  refine am_steps ck_X9_sign 3 (pc' := 3) (lv' := [(0, .ref 3261), (1, .int x1)]) (st' := [.ref 3261, .int (am_i 0), .int x1]) rfl ?_
  refine ms_geti (ci := 7) (k := 18) (am_fd ck_X9_sign (pc := 3) rfl) tw_893 kc_3261 rfl ?_
  refine am_steps ck_X9_sign 2 (pc' := 8) (lv' := [(0, .ref 3261), (1, .int x1)]) (st' := [.int ((m 3261 18) - (am_i 1)), .int (am_i 0), .int x1]) rfl ?_
  obtain ⟨q1, hq1, hm⟩ := am_bE hm
  refine ms_callS (M2 := mt_X9_isIn) (d2 := 1) [.int x1, .int (am_i 0), .int ((m 3261 18) - (am_i 1))] (am_fd ck_X9_sign (pc := 8) rfl) ok_X9_isIn tw_953 tw_954 (Nat.le_of_ble_eq_true rfl) (Nat.le_of_ble_eq_true rfl) (x_X9_isIn hL hq1) ?_
  refine am_ifc (tgt := 23) (am_fd ck_X9_sign (pc := 11) rfl) rfl (fun hc2 => ?_) (fun hc2 => ?_)
  · replace hm := am_it hm hc2
    refine am_steps ck_X9_sign 1 (pc' := 24) (lv' := [(0, .ref 3261), (1, .int x1)]) (st' := [.int (am_i (-1))]) rfl ?_
    cases hm
    exact am_end (am_fd ck_X9_sign (pc := 24) rfl) am_rI rfl rfl
  · replace hm := am_if hm hc2
    refine am_steps ck_X9_sign 1 (pc' := 15) (lv' := [(0, .ref 3261), (1, .int x1)]) (st' := [.ref 3261]) rfl ?_
    refine ms_getr (ci := 7) (k := 17) (v := 3271) (am_fd ck_X9_sign (pc := 15) rfl) tw_892 kc_3261 rfl (ly_3261_17 hL) kc_3271 ?_
    refine am_steps ck_X9_sign 1 (pc' := 19) (lv' := [(0, .ref 3261), (1, .int x1)]) (st' := [.int x1, .ref 3271]) rfl ?_
    obtain ⟨hb3, hm⟩ := am_gE hm
    refine ms_iald (n := 120) (am_fd ck_X9_sign (pc := 19) rfl) kc_3271 hb3 ?_
    refine am_steps ck_X9_sign 1 (pc' := 24) (lv' := [(0, .ref 3261), (1, .int x1)]) (st' := [.int (m 3271 (am_ix x1))]) rfl ?_
    cases hm
    exact am_end (am_fd ck_X9_sign (pc := 24) rfl) am_rI rfl rfl
set_option maxRecDepth 100000 in
set_option maxHeartbeats 4000000 in
theorem x_X9_shared_74 {G : am_G} {x1 : Int32} {x2 : Int32} {x3 : Int32} {m : am_m} {r : am_rr} {y3 : Int32} {res : Int32 × am_m} {k : Int32 → Option (Int32 × am_m)} (hL : am_Lay r) : ∀ (n : Nat) (z4 : Int32) (z5 : Int32), m_X9_shared_74 x1 x2 x3 m y3 k n z4 z5 = some res → (∀ (u4 : Int32), k u4 = some res → am_W G mt_X9_shared 3 (some (.int res.1)) (am_hh res.2 r) 178 [(4, .int u4)] [] (am_hh m r)) → am_W G mt_X9_shared 3 (some (.int res.1)) (am_hh res.2 r) 74 [(0, .ref 3261), (3, .int y3), (4, .int z4), (5, .int z5)] [] (am_hh m r) := by
  intro n
  induction n with
  | zero => intro z4 z5 hm K; cases hm
  | succ n ih =>
    intro z4 z5 hm K
    unfold m_X9_shared_74 at hm
    refine am_steps ck_X9_shared 2 (pc' := 78) (lv' := [(0, .ref 3261), (3, .int y3), (4, .int z4), (5, .int z5)]) (st' := [.int (am_i 64), .int z5]) rfl ?_
    refine am_icmp (tgt := 178) (am_fd ck_X9_shared (pc := 78) rfl) rfl (fun hc12 => ?_) (fun hc12 => ?_)
    · replace hm := am_it hm hc12
      refine am_subp [2] rfl ?_
      exact K _ hm
    · replace hm := am_if hm hc12
      refine am_steps ck_X9_shared 1 (pc' := 82) (lv' := [(0, .ref 3261), (3, .int y3), (4, .int z4), (5, .int z5)]) (st' := [.ref 3261]) rfl ?_
      refine ms_getr (ci := 7) (k := 6) (v := 3266) (am_fd ck_X9_shared (pc := 82) rfl) tw_881 kc_3261 rfl (ly_3261_6 hL) kc_3266 ?_
      refine am_steps ck_X9_shared 1 (pc' := 87) (lv' := [(0, .ref 3261), (3, .int y3), (4, .int z4), (5, .int z5)]) (st' := [.int z5, .ref 3266]) rfl ?_
      obtain ⟨hb13, hm⟩ := am_gE hm
      refine ms_iald (n := 64) (am_fd ck_X9_shared (pc := 87) rfl) kc_3266 hb13 ?_
      refine am_steps ck_X9_shared 1 (pc' := 89) (lv' := [(0, .ref 3261), (3, .int y3), (4, .int z4), (5, .int z5)]) (st' := [.ref 3261, .int (m 3266 (am_ix z5))]) rfl ?_
      refine ms_getr (ci := 7) (k := 7) (v := 3267) (am_fd ck_X9_shared (pc := 89) rfl) tw_882 kc_3261 rfl (ly_3261_7 hL) kc_3267 ?_
      refine am_steps ck_X9_shared 1 (pc' := 94) (lv' := [(0, .ref 3261), (3, .int y3), (4, .int z4), (5, .int z5)]) (st' := [.int z5, .ref 3267, .int (m 3266 (am_ix z5))]) rfl ?_
      obtain ⟨hb14, hm⟩ := am_gE hm
      refine ms_iald (n := 64) (am_fd ck_X9_shared (pc := 94) rfl) kc_3267 hb14 ?_
      refine am_icmp (tgt := 108) (am_fd ck_X9_shared (pc := 95) rfl) rfl (fun hc15 => ?_) (fun hc15 => ?_)
      · replace hm := am_it hm hc15
        refine am_steps ck_X9_shared 1 (pc' := 109) (lv' := [(0, .ref 3261), (3, .int y3), (4, .int z4), (5, .int z5)]) (st' := [.ref 3261]) rfl ?_
        refine ms_getr (ci := 7) (k := 7) (v := 3267) (am_fd ck_X9_shared (pc := 109) rfl) tw_882 kc_3261 rfl (ly_3261_7 hL) kc_3267 ?_
        refine am_steps ck_X9_shared 1 (pc' := 114) (lv' := [(0, .ref 3261), (3, .int y3), (4, .int z4), (5, .int z5)]) (st' := [.int z5, .ref 3267]) rfl ?_
        obtain ⟨hb16, hm⟩ := am_gE hm
        refine ms_iald (n := 64) (am_fd ck_X9_shared (pc := 114) rfl) kc_3267 hb16 ?_
        refine am_steps ck_X9_shared 4 (pc' := 121) (lv' := [(6, .int (m 3267 (am_ix z5))), (0, .ref 3261), (3, .int y3), (4, .int z4), (5, .int z5)]) (st' := [.int (am_i 3), .int y3, .int z4]) rfl ?_
        refine am_icmp (tgt := 129) (am_fd ck_X9_shared (pc := 121) rfl) rfl (fun hc17 => ?_) (fun hc17 => ?_)
        · replace hm := am_it hm hc17
          refine am_steps ck_X9_shared 1 (pc' := 130) (lv' := [(6, .int (m 3267 (am_ix z5))), (0, .ref 3261), (3, .int y3), (4, .int z4), (5, .int z5)]) (st' := [.int y3, .int z4]) rfl ?_
          refine am_ifc (tgt := 146) (am_fd ck_X9_shared (pc := 130) rfl) rfl (fun hc18 => ?_) (fun hc18 => ?_)
          · replace hm := am_it hm hc18
            refine am_steps ck_X9_shared 1 (pc' := 147) (lv' := [(6, .int (m 3267 (am_ix z5))), (0, .ref 3261), (3, .int y3), (4, .int z4), (5, .int z5)]) (st' := [.ref 3261, .int z4]) rfl ?_
            refine ms_getr (ci := 7) (k := 6) (v := 3266) (am_fd ck_X9_shared (pc := 147) rfl) tw_881 kc_3261 rfl (ly_3261_6 hL) kc_3266 ?_
            refine am_steps ck_X9_shared 1 (pc' := 152) (lv' := [(6, .int (m 3267 (am_ix z5))), (0, .ref 3261), (3, .int y3), (4, .int z4), (5, .int z5)]) (st' := [.int z5, .ref 3266, .int z4]) rfl ?_
            obtain ⟨hb19, hm⟩ := am_gE hm
            refine ms_iald (n := 64) (am_fd ck_X9_shared (pc := 152) rfl) kc_3266 hb19 ?_
            refine am_steps ck_X9_shared 1 (pc' := 154) (lv' := [(6, .int (m 3267 (am_ix z5))), (0, .ref 3261), (3, .int y3), (4, .int z4), (5, .int z5)]) (st' := [.ref 3261, .int (m 3266 (am_ix z5)), .int z4]) rfl ?_
            refine ms_getr (ci := 7) (k := 7) (v := 3267) (am_fd ck_X9_shared (pc := 154) rfl) tw_882 kc_3261 rfl (ly_3261_7 hL) kc_3267 ?_
            refine am_steps ck_X9_shared 1 (pc' := 159) (lv' := [(6, .int (m 3267 (am_ix z5))), (0, .ref 3261), (3, .int y3), (4, .int z4), (5, .int z5)]) (st' := [.int z5, .ref 3267, .int (m 3266 (am_ix z5)), .int z4]) rfl ?_
            obtain ⟨hb20, hm⟩ := am_gE hm
            refine ms_iald (n := 64) (am_fd ck_X9_shared (pc := 159) rfl) kc_3267 hb20 ?_
            refine am_steps ck_X9_shared 1 (pc' := 161) (lv' := [(6, .int (m 3267 (am_ix z5))), (0, .ref 3261), (3, .int y3), (4, .int z4), (5, .int z5)]) (st' := [.int ((m 3266 (am_ix z5)) + (m 3267 (am_ix z5))), .int z4]) rfl ?_
            refine am_ifc (tgt := 168) (am_fd ck_X9_shared (pc := 161) rfl) rfl (fun hc21 => ?_) (fun hc21 => ?_)
            · replace hm := am_it hm hc21
              refine am_steps ck_X9_shared 5 (pc' := 74) (lv' := [(5, .int (z5 + am_i 1)), (4, .int (z4 + (am_i 0))), (6, .int (m 3267 (am_ix z5))), (0, .ref 3261), (3, .int y3)]) (st' := []) rfl ?_
              refine am_subp [3, 4, 1, 0] rfl ?_
              exact ih _ _ hm K
            · replace hm := am_if hm hc21
              refine am_steps ck_X9_shared 6 (pc' := 74) (lv' := [(5, .int (z5 + am_i 1)), (4, .int (z4 + (am_i 1))), (6, .int (m 3267 (am_ix z5))), (0, .ref 3261), (3, .int y3)]) (st' := []) rfl ?_
              refine am_subp [3, 4, 1, 0] rfl ?_
              exact ih _ _ hm K
          · replace hm := am_if hm hc18
            refine am_steps ck_X9_shared 1 (pc' := 135) (lv' := [(6, .int (m 3267 (am_ix z5))), (0, .ref 3261), (3, .int y3), (4, .int z4), (5, .int z5)]) (st' := [.int (m 3267 (am_ix z5)), .int z4]) rfl ?_
            refine am_ifc (tgt := 142) (am_fd ck_X9_shared (pc := 135) rfl) rfl (fun hc22 => ?_) (fun hc22 => ?_)
            · replace hm := am_it hm hc22
              refine am_steps ck_X9_shared 6 (pc' := 74) (lv' := [(5, .int (z5 + am_i 1)), (4, .int (z4 + (am_i 0))), (6, .int (m 3267 (am_ix z5))), (0, .ref 3261), (3, .int y3)]) (st' := []) rfl ?_
              refine am_subp [3, 4, 1, 0] rfl ?_
              exact ih _ _ hm K
            · replace hm := am_if hm hc22
              refine am_steps ck_X9_shared 6 (pc' := 74) (lv' := [(5, .int (z5 + am_i 1)), (4, .int (z4 + (am_i 1))), (6, .int (m 3267 (am_ix z5))), (0, .ref 3261), (3, .int y3)]) (st' := []) rfl ?_
              refine am_subp [3, 4, 1, 0] rfl ?_
              exact ih _ _ hm K
        · replace hm := am_if hm hc17
          refine am_steps ck_X9_shared 6 (pc' := 74) (lv' := [(5, .int (z5 + am_i 1)), (4, .int (z4 + (m 3267 (am_ix z5)))), (6, .int (m 3267 (am_ix z5))), (0, .ref 3261), (3, .int y3)]) (st' := []) rfl ?_
          refine am_subp [3, 4, 1, 0] rfl ?_
          exact ih _ _ hm K
      · replace hm := am_if hm hc15
        refine am_steps ck_X9_shared 1 (pc' := 99) (lv' := [(0, .ref 3261), (3, .int y3), (4, .int z4), (5, .int z5)]) (st' := [.ref 3261]) rfl ?_
        refine ms_getr (ci := 7) (k := 6) (v := 3266) (am_fd ck_X9_shared (pc := 99) rfl) tw_881 kc_3261 rfl (ly_3261_6 hL) kc_3266 ?_
        refine am_steps ck_X9_shared 1 (pc' := 104) (lv' := [(0, .ref 3261), (3, .int y3), (4, .int z4), (5, .int z5)]) (st' := [.int z5, .ref 3266]) rfl ?_
        obtain ⟨hb23, hm⟩ := am_gE hm
        refine ms_iald (n := 64) (am_fd ck_X9_shared (pc := 104) rfl) kc_3266 hb23 ?_
        refine am_steps ck_X9_shared 5 (pc' := 121) (lv' := [(6, .int (m 3266 (am_ix z5))), (0, .ref 3261), (3, .int y3), (4, .int z4), (5, .int z5)]) (st' := [.int (am_i 3), .int y3, .int z4]) rfl ?_
        refine am_icmp (tgt := 129) (am_fd ck_X9_shared (pc := 121) rfl) rfl (fun hc24 => ?_) (fun hc24 => ?_)
        · replace hm := am_it hm hc24
          refine am_steps ck_X9_shared 1 (pc' := 130) (lv' := [(6, .int (m 3266 (am_ix z5))), (0, .ref 3261), (3, .int y3), (4, .int z4), (5, .int z5)]) (st' := [.int y3, .int z4]) rfl ?_
          refine am_ifc (tgt := 146) (am_fd ck_X9_shared (pc := 130) rfl) rfl (fun hc25 => ?_) (fun hc25 => ?_)
          · replace hm := am_it hm hc25
            refine am_steps ck_X9_shared 1 (pc' := 147) (lv' := [(6, .int (m 3266 (am_ix z5))), (0, .ref 3261), (3, .int y3), (4, .int z4), (5, .int z5)]) (st' := [.ref 3261, .int z4]) rfl ?_
            refine ms_getr (ci := 7) (k := 6) (v := 3266) (am_fd ck_X9_shared (pc := 147) rfl) tw_881 kc_3261 rfl (ly_3261_6 hL) kc_3266 ?_
            refine am_steps ck_X9_shared 1 (pc' := 152) (lv' := [(6, .int (m 3266 (am_ix z5))), (0, .ref 3261), (3, .int y3), (4, .int z4), (5, .int z5)]) (st' := [.int z5, .ref 3266, .int z4]) rfl ?_
            obtain ⟨hb26, hm⟩ := am_gE hm
            refine ms_iald (n := 64) (am_fd ck_X9_shared (pc := 152) rfl) kc_3266 hb26 ?_
            refine am_steps ck_X9_shared 1 (pc' := 154) (lv' := [(6, .int (m 3266 (am_ix z5))), (0, .ref 3261), (3, .int y3), (4, .int z4), (5, .int z5)]) (st' := [.ref 3261, .int (m 3266 (am_ix z5)), .int z4]) rfl ?_
            refine ms_getr (ci := 7) (k := 7) (v := 3267) (am_fd ck_X9_shared (pc := 154) rfl) tw_882 kc_3261 rfl (ly_3261_7 hL) kc_3267 ?_
            refine am_steps ck_X9_shared 1 (pc' := 159) (lv' := [(6, .int (m 3266 (am_ix z5))), (0, .ref 3261), (3, .int y3), (4, .int z4), (5, .int z5)]) (st' := [.int z5, .ref 3267, .int (m 3266 (am_ix z5)), .int z4]) rfl ?_
            obtain ⟨hb27, hm⟩ := am_gE hm
            refine ms_iald (n := 64) (am_fd ck_X9_shared (pc := 159) rfl) kc_3267 hb27 ?_
            refine am_steps ck_X9_shared 1 (pc' := 161) (lv' := [(6, .int (m 3266 (am_ix z5))), (0, .ref 3261), (3, .int y3), (4, .int z4), (5, .int z5)]) (st' := [.int ((m 3266 (am_ix z5)) + (m 3267 (am_ix z5))), .int z4]) rfl ?_
            refine am_ifc (tgt := 168) (am_fd ck_X9_shared (pc := 161) rfl) rfl (fun hc28 => ?_) (fun hc28 => ?_)
            · replace hm := am_it hm hc28
              refine am_steps ck_X9_shared 5 (pc' := 74) (lv' := [(5, .int (z5 + am_i 1)), (4, .int (z4 + (am_i 0))), (6, .int (m 3266 (am_ix z5))), (0, .ref 3261), (3, .int y3)]) (st' := []) rfl ?_
              refine am_subp [3, 4, 1, 0] rfl ?_
              exact ih _ _ hm K
            · replace hm := am_if hm hc28
              refine am_steps ck_X9_shared 6 (pc' := 74) (lv' := [(5, .int (z5 + am_i 1)), (4, .int (z4 + (am_i 1))), (6, .int (m 3266 (am_ix z5))), (0, .ref 3261), (3, .int y3)]) (st' := []) rfl ?_
              refine am_subp [3, 4, 1, 0] rfl ?_
              exact ih _ _ hm K
          · replace hm := am_if hm hc25
            refine am_steps ck_X9_shared 1 (pc' := 135) (lv' := [(6, .int (m 3266 (am_ix z5))), (0, .ref 3261), (3, .int y3), (4, .int z4), (5, .int z5)]) (st' := [.int (m 3266 (am_ix z5)), .int z4]) rfl ?_
            refine am_ifc (tgt := 142) (am_fd ck_X9_shared (pc := 135) rfl) rfl (fun hc29 => ?_) (fun hc29 => ?_)
            · replace hm := am_it hm hc29
              refine am_steps ck_X9_shared 6 (pc' := 74) (lv' := [(5, .int (z5 + am_i 1)), (4, .int (z4 + (am_i 0))), (6, .int (m 3266 (am_ix z5))), (0, .ref 3261), (3, .int y3)]) (st' := []) rfl ?_
              refine am_subp [3, 4, 1, 0] rfl ?_
              exact ih _ _ hm K
            · replace hm := am_if hm hc29
              refine am_steps ck_X9_shared 6 (pc' := 74) (lv' := [(5, .int (z5 + am_i 1)), (4, .int (z4 + (am_i 1))), (6, .int (m 3266 (am_ix z5))), (0, .ref 3261), (3, .int y3)]) (st' := []) rfl ?_
              refine am_subp [3, 4, 1, 0] rfl ?_
              exact ih _ _ hm K
        · replace hm := am_if hm hc24
          refine am_steps ck_X9_shared 6 (pc' := 74) (lv' := [(5, .int (z5 + am_i 1)), (4, .int (z4 + (m 3266 (am_ix z5)))), (6, .int (m 3266 (am_ix z5))), (0, .ref 3261), (3, .int y3)]) (st' := []) rfl ?_
          refine am_subp [3, 4, 1, 0] rfl ?_
          exact ih _ _ hm K
set_option maxRecDepth 100000 in
set_option maxHeartbeats 4000000 in
theorem x_X9_shared {G : am_G} {m : am_m} {r : am_rr} {x1 : Int32} {x2 : Int32} {x3 : Int32} {res : Int32 × am_m} (hL : am_Lay r) (hm : m_X9_shared m x1 x2 x3 = some res) : am_Met G mt_X9_shared 3 [.ref 3261, .int x1, .int x2, .int x3] (am_hh m r) (some (.int res.1)) (am_hh res.2 r) := by
  refine am_of (by decide) (Nat.le_of_ble_eq_true rfl) ?_
  unfold m_X9_shared at hm
  show am_W G mt_X9_shared 3 _ _ 0 [(0, .ref 3261), (1, .int x1), (2, .int x2), (3, .int x3)] [] (am_hh m r)
  refine am_steps ck_X9_shared 2 (pc' := 2) (lv' := [(0, .ref 3261), (1, .int x1), (2, .int x2), (3, .int x3)]) (st' := [.int x1, .ref 3261]) rfl ?_
  obtain ⟨q1, hq1, hm⟩ := am_bE hm
  refine ms_callV (M2 := mt_X9_isUnit) (d2 := 2) (ci := 7) [.int x1] (am_fd ck_X9_shared (pc := 2) rfl) ok_X9_isUnit tw_949 tw_951 ts_28 (by decide) kc_3261 (Nat.le_of_ble_eq_true rfl) (Nat.le_of_ble_eq_true rfl) (x_X9_isUnit hL hq1) ?_
  refine am_ifc (tgt := 25) (am_fd ck_X9_shared (pc := 5) rfl) rfl (fun hc2 => ?_) (fun hc2 => ?_)
  · replace hm := am_it hm hc2
    refine am_steps ck_X9_shared 1 (pc' := 26) (lv' := [(0, .ref 3261), (1, .int x1), (2, .int x2), (3, .int x3)]) (st' := [.int (am_i (-1))]) rfl ?_
    cases hm
    exact am_end (am_fd ck_X9_shared (pc := 26) rfl) am_rI rfl rfl
  · replace hm := am_if hm hc2
    refine am_steps ck_X9_shared 2 (pc' := 10) (lv' := [(0, .ref 3261), (1, .int x1), (2, .int x2), (3, .int x3)]) (st' := [.int x2, .ref 3261]) rfl ?_
    obtain ⟨q3, hq3, hm⟩ := am_bE hm
    refine ms_callV (M2 := mt_X9_isUnit) (d2 := 2) (ci := 7) [.int x2] (am_fd ck_X9_shared (pc := 10) rfl) ok_X9_isUnit tw_949 tw_951 ts_28 (by decide) kc_3261 (Nat.le_of_ble_eq_true rfl) (Nat.le_of_ble_eq_true rfl) (x_X9_isUnit hL hq3) ?_
    refine am_ifc (tgt := 25) (am_fd ck_X9_shared (pc := 13) rfl) rfl (fun hc4 => ?_) (fun hc4 => ?_)
    · replace hm := am_it hm hc4
      refine am_steps ck_X9_shared 1 (pc' := 26) (lv' := [(0, .ref 3261), (1, .int x1), (2, .int x2), (3, .int x3)]) (st' := [.int (am_i (-1))]) rfl ?_
      cases hm
      exact am_end (am_fd ck_X9_shared (pc := 26) rfl) am_rI rfl rfl
    · replace hm := am_if hm hc4
      refine am_steps ck_X9_shared 3 (pc' := 19) (lv' := [(0, .ref 3261), (1, .int x1), (2, .int x2), (3, .int x3)]) (st' := [.int (am_i 3), .int (am_i 0), .int x3]) rfl ?_
      obtain ⟨q5, hq5, hm⟩ := am_bE hm
      refine ms_callS (M2 := mt_X9_isIn) (d2 := 1) [.int x3, .int (am_i 0), .int (am_i 3)] (am_fd ck_X9_shared (pc := 19) rfl) ok_X9_isIn tw_953 tw_954 (Nat.le_of_ble_eq_true rfl) (Nat.le_of_ble_eq_true rfl) (x_X9_isIn hL hq5) ?_
      refine am_ifc (tgt := 27) (am_fd ck_X9_shared (pc := 22) rfl) rfl (fun hc6 => ?_) (fun hc6 => ?_)
      · replace hm := am_it hm hc6
        refine am_steps ck_X9_shared 2 (pc' := 29) (lv' := [(0, .ref 3261), (1, .int x1), (2, .int x2), (3, .int x3)]) (st' := [.int x1, .ref 3261]) rfl ?_
        obtain ⟨q7, hq7, hm⟩ := am_bE hm
        refine ms_callS (M2 := mt_X9_sumAt) (d2 := 1) [.int x1] (am_fd ck_X9_shared (pc := 29) rfl) ok_X9_sumAt tw_982 tw_983 (Nat.le_of_ble_eq_true rfl) (Nat.le_of_ble_eq_true rfl) (x_X9_sumAt hL hq7) ?_
        refine am_steps ck_X9_shared 1 (pc' := 33) (lv' := [(0, .ref 3261), (1, .int x1), (2, .int x2), (3, .int x3)]) (st' := [.ref 3261, .int q7, .ref 3261]) rfl ?_
        refine ms_getr (ci := 7) (k := 6) (v := 3266) (am_fd ck_X9_shared (pc := 33) rfl) tw_881 kc_3261 rfl (ly_3261_6 hL) kc_3266 ?_
        obtain ⟨q8, hq8, hm⟩ := am_bE hm
        refine ms_callVv (M2 := mt_X9_lays) (d2 := 1) (ci := 7) [.int q7, .ref 3266] (am_fd ck_X9_shared (pc := 36) rfl) ok_X9_lays tw_1001 tw_1003 ts_36 (by decide) kc_3261 (Nat.le_of_ble_eq_true rfl) (Nat.le_of_ble_eq_true rfl) (x_X9_lays hL kc_3266 hq8) ?_
        refine am_steps ck_X9_shared 2 (pc' := 41) (lv' := [(0, .ref 3261), (1, .int x1), (2, .int x2), (3, .int x3)]) (st' := [.int x2, .ref 3261]) rfl ?_
        obtain ⟨q9, hq9, hm⟩ := am_bE hm
        refine ms_callS (M2 := mt_X9_sumAt) (d2 := 1) [.int x2] (am_fd ck_X9_shared (pc := 41) rfl) ok_X9_sumAt tw_982 tw_983 (Nat.le_of_ble_eq_true rfl) (Nat.le_of_ble_eq_true rfl) (x_X9_sumAt hL hq9) ?_
        refine am_steps ck_X9_shared 1 (pc' := 45) (lv' := [(0, .ref 3261), (1, .int x1), (2, .int x2), (3, .int x3)]) (st' := [.ref 3261, .int q9, .ref 3261]) rfl ?_
        refine ms_getr (ci := 7) (k := 7) (v := 3267) (am_fd ck_X9_shared (pc := 45) rfl) tw_882 kc_3261 rfl (ly_3261_7 hL) kc_3267 ?_
        obtain ⟨q10, hq10, hm⟩ := am_bE hm
        refine ms_callVv (M2 := mt_X9_lays) (d2 := 1) (ci := 7) [.int q9, .ref 3267] (am_fd ck_X9_shared (pc := 48) rfl) ok_X9_lays tw_1001 tw_1003 ts_36 (by decide) kc_3261 (Nat.le_of_ble_eq_true rfl) (Nat.le_of_ble_eq_true rfl) (x_X9_lays hL kc_3267 hq10) ?_
        refine am_steps ck_X9_shared 2 (pc' := 53) (lv' := [(0, .ref 3261), (1, .int x1), (2, .int x2), (3, .int x3)]) (st' := [.int (am_i 2), .int x3]) rfl ?_
        refine am_icmp (tgt := 68) (am_fd ck_X9_shared (pc := 53) rfl) rfl (fun hc11 => ?_) (fun hc11 => ?_)
        · replace hm := am_it hm hc11
          refine am_steps ck_X9_shared 4 (pc' := 74) (lv' := [(5, .int (am_i 0)), (4, .int (am_i 0)), (0, .ref 3261), (1, .int x1), (2, .int x2), (3, .int x3)]) (st' := []) rfl ?_
          refine am_subp [2, 5, 1, 0] rfl ?_
          refine x_X9_shared_74 hL am_F _ _ hm (fun u30 hm => ?_)
          refine am_steps ck_X9_shared 1 (pc' := 180) (lv' := [(4, .int u30)]) (st' := [.int u30]) rfl ?_
          cases hm
          exact am_end (am_fd ck_X9_shared (pc := 180) rfl) am_rI rfl rfl
        · replace hm := am_if hm hc11
          refine am_steps ck_X9_shared 1 (pc' := 57) (lv' := [(0, .ref 3261), (1, .int x1), (2, .int x2), (3, .int x3)]) (st' := [.ref 3261]) rfl ?_
          refine ms_getr (ci := 7) (k := 6) (v := 3266) (am_fd ck_X9_shared (pc := 57) rfl) tw_881 kc_3261 rfl (ly_3261_6 hL) kc_3266 ?_
          refine am_steps ck_X9_shared 1 (pc' := 61) (lv' := [(0, .ref 3261), (1, .int x1), (2, .int x2), (3, .int x3)]) (st' := [.ref 3261, .ref 3266]) rfl ?_
          refine ms_getr (ci := 7) (k := 7) (v := 3267) (am_fd ck_X9_shared (pc := 61) rfl) tw_882 kc_3261 rfl (ly_3261_7 hL) kc_3267 ?_
          obtain ⟨q31, hq31, hm⟩ := am_bE hm
          refine ms_callS (M2 := mt_X9_common) (d2 := 2) [.ref 3266, .ref 3267] (am_fd ck_X9_shared (pc := 64) rfl) ok_X9_common tw_1005 tw_1006 (Nat.le_of_ble_eq_true rfl) (Nat.le_of_ble_eq_true rfl) (x_X9_common hL kc_3266 kc_3267 hq31) ?_
          cases hm
          exact am_end (am_fd ck_X9_shared (pc := 67) rfl) am_rI rfl rfl
      · replace hm := am_if hm hc6
        refine am_steps ck_X9_shared 1 (pc' := 26) (lv' := [(0, .ref 3261), (1, .int x1), (2, .int x2), (3, .int x3)]) (st' := [.int (am_i (-1))]) rfl ?_
        cases hm
        exact am_end (am_fd ck_X9_shared (pc := 26) rfl) am_rI rfl rfl
set_option maxRecDepth 100000 in
set_option maxHeartbeats 4000000 in
theorem x_X9_leads_13 {G : am_G} {x1 : Int32} {m : am_m} {r : am_rr} {y1 : Int32} {res : Int32} {k : Int32 → Option (Int32)} (hL : am_Lay r) : ∀ (n : Nat) (z2 : Int32) (z3 : Int32), m_X9_leads_13 x1 m y1 k n z2 z3 = some res → (∀ (u2 : Int32), k u2 = some res → am_W G mt_X9_leads 4 (some (.int res)) (am_hh m r) 49 [(2, .int u2)] [] (am_hh m r)) → am_W G mt_X9_leads 4 (some (.int res)) (am_hh m r) 13 [(0, .ref 3261), (1, .int y1), (2, .int z2), (3, .int z3)] [] (am_hh m r) := by
  intro n
  induction n with
  | zero => intro z2 z3 hm K; cases hm
  | succ n ih =>
    intro z2 z3 hm K
    unfold m_X9_leads_13 at hm
    refine am_steps ck_X9_leads 2 (pc' := 16) (lv' := [(0, .ref 3261), (1, .int y1), (2, .int z2), (3, .int z3)]) (st' := [.int (am_i 24), .int z3]) rfl ?_
    refine am_icmp (tgt := 49) (am_fd ck_X9_leads (pc := 16) rfl) rfl (fun hc3 => ?_) (fun hc3 => ?_)
    · replace hm := am_it hm hc3
      refine am_subp [2] rfl ?_
      exact K _ hm
    · replace hm := am_if hm hc3
      refine am_steps ck_X9_leads 2 (pc' := 21) (lv' := [(0, .ref 3261), (1, .int y1), (2, .int z2), (3, .int z3)]) (st' := [.int z3, .ref 3261]) rfl ?_
      obtain ⟨q4, hq4, hm⟩ := am_bE hm
      refine ms_callV (M2 := mt_X9_isUnit) (d2 := 2) (ci := 7) [.int z3] (am_fd ck_X9_leads (pc := 21) rfl) ok_X9_isUnit tw_949 tw_951 ts_28 (by decide) kc_3261 (Nat.le_of_ble_eq_true rfl) (Nat.le_of_ble_eq_true rfl) (x_X9_isUnit hL hq4) ?_
      refine am_ifc (tgt := 43) (am_fd ck_X9_leads (pc := 24) rfl) rfl (fun hc5 => ?_) (fun hc5 => ?_)
      · replace hm := am_it hm hc5
        refine am_steps ck_X9_leads 2 (pc' := 13) (lv' := [(3, .int (z3 + am_i 1)), (0, .ref 3261), (1, .int y1), (2, .int z2)]) (st' := []) rfl ?_
        refine am_subp [1, 2, 3, 0] rfl ?_
        exact ih _ _ hm K
      · replace hm := am_if hm hc5
        refine am_steps ck_X9_leads 3 (pc' := 30) (lv' := [(0, .ref 3261), (1, .int y1), (2, .int z2), (3, .int z3)]) (st' := [.int (am_i 0), .int z3, .ref 3261]) rfl ?_
        obtain ⟨q6, hq6, hm⟩ := am_bE hm
        refine ms_callV (M2 := mt_X9_leaderOf) (d2 := 3) (ci := 7) [.int z3, .int (am_i 0)] (am_fd ck_X9_leads (pc := 30) rfl) ok_X9_leaderOf tw_1209 tw_1211 ts_65 (by decide) kc_3261 (Nat.le_of_ble_eq_true rfl) (Nat.le_of_ble_eq_true rfl) (x_X9_leaderOf hL hq6) ?_
        refine am_steps ck_X9_leads 1 (pc' := 34) (lv' := [(0, .ref 3261), (1, .int y1), (2, .int z2), (3, .int z3)]) (st' := [.int y1, .int q6]) rfl ?_
        refine am_icmp (tgt := 43) (am_fd ck_X9_leads (pc := 34) rfl) rfl (fun hc7 => ?_) (fun hc7 => ?_)
        · replace hm := am_it hm hc7
          refine am_steps ck_X9_leads 2 (pc' := 13) (lv' := [(3, .int (z3 + am_i 1)), (0, .ref 3261), (1, .int y1), (2, .int z2)]) (st' := []) rfl ?_
          refine am_subp [1, 2, 3, 0] rfl ?_
          exact ih _ _ hm K
        · replace hm := am_if hm hc7
          refine am_steps ck_X9_leads 8 (pc' := 13) (lv' := [(3, .int (z3 + am_i 1)), (2, .int (z2 ||| ((am_i 1) <<< (z3 &&& 31)))), (0, .ref 3261), (1, .int y1)]) (st' := []) rfl ?_
          refine am_subp [2, 3, 1, 0] rfl ?_
          exact ih _ _ hm K
set_option maxRecDepth 100000 in
set_option maxHeartbeats 4000000 in
theorem x_X9_leads {G : am_G} {m : am_m} {r : am_rr} {x1 : Int32} {res : Int32} (hL : am_Lay r) (hm : m_X9_leads m x1 = some res) : am_Met G mt_X9_leads 4 [.ref 3261, .int x1] (am_hh m r) (some (.int res)) (am_hh m r) := by
  refine am_of (by decide) (Nat.le_of_ble_eq_true rfl) ?_
  unfold m_X9_leads at hm
  show am_W G mt_X9_leads 4 _ _ 0 [(0, .ref 3261), (1, .int x1)] [] (am_hh m r)
  refine am_steps ck_X9_leads 1 (pc' := 1) (lv' := [(0, .ref 3261), (1, .int x1)]) (st' := [.int x1]) rfl ?_
  obtain ⟨q1, hq1, hm⟩ := am_bE hm
  refine ms_callS (M2 := mt_X9_isCategory) (d2 := 2) [.int x1] (am_fd ck_X9_leads (pc := 1) rfl) ok_X9_isCategory tw_956 tw_957 (Nat.le_of_ble_eq_true rfl) (Nat.le_of_ble_eq_true rfl) (x_X9_isCategory hL hq1) ?_
  refine am_ifc (tgt := 9) (am_fd ck_X9_leads (pc := 4) rfl) rfl (fun hc2 => ?_) (fun hc2 => ?_)
  · replace hm := am_it hm hc2
    refine am_steps ck_X9_leads 4 (pc' := 13) (lv' := [(3, .int (am_i 0)), (2, .int (am_i 0)), (0, .ref 3261), (1, .int x1)]) (st' := []) rfl ?_
    refine am_subp [2, 3, 1, 0] rfl ?_
    refine x_X9_leads_13 hL am_F _ _ hm (fun u8 hm => ?_)
    refine am_steps ck_X9_leads 1 (pc' := 50) (lv' := [(2, .int u8)]) (st' := [.int u8]) rfl ?_
    cases hm
    exact am_end (am_fd ck_X9_leads (pc := 50) rfl) am_rI rfl rfl
  · replace hm := am_if hm hc2
    refine am_steps ck_X9_leads 1 (pc' := 8) (lv' := [(0, .ref 3261), (1, .int x1)]) (st' := [.int (am_i (-1))]) rfl ?_
    cases hm
    exact am_end (am_fd ck_X9_leads (pc := 8) rfl) am_rI rfl rfl
set_option maxRecDepth 100000 in
set_option maxHeartbeats 4000000 in
theorem x_X9_where_24 {G : am_G} {x1 : Int32} {x2 : Int32} {m : am_m} {r : am_rr} {y1 : Int32} {y2 : Int32} {res : Int32} {k : Int32 → Option (Int32)} (hL : am_Lay r) : ∀ (n : Nat) (z3 : Int32) (z4 : Int32), m_X9_where_24 x1 x2 m y1 y2 k n z3 z4 = some res → (∀ (u3 : Int32), k u3 = some res → am_W G mt_X9_where 3 (some (.int res)) (am_hh m r) 84 [(3, .int u3)] [] (am_hh m r)) → am_W G mt_X9_where 3 (some (.int res)) (am_hh m r) 24 [(0, .ref 3261), (1, .int y1), (2, .int y2), (3, .int z3), (4, .int z4)] [] (am_hh m r) := by
  intro n
  induction n with
  | zero => intro z3 z4 hm K; cases hm
  | succ n ih =>
    intro z3 z4 hm K
    unfold m_X9_where_24 at hm
    refine am_steps ck_X9_where 2 (pc' := 28) (lv' := [(0, .ref 3261), (1, .int y1), (2, .int y2), (3, .int z3), (4, .int z4)]) (st' := [.int (am_i 24), .int z4]) rfl ?_
    refine am_icmp (tgt := 84) (am_fd ck_X9_where (pc := 28) rfl) rfl (fun hc5 => ?_) (fun hc5 => ?_)
    · replace hm := am_it hm hc5
      refine am_subp [3] rfl ?_
      exact K _ hm
    · replace hm := am_if hm hc5
      refine am_steps ck_X9_where 2 (pc' := 34) (lv' := [(0, .ref 3261), (1, .int y1), (2, .int y2), (3, .int z3), (4, .int z4)]) (st' := [.int z4, .ref 3261]) rfl ?_
      obtain ⟨q6, hq6, hm⟩ := am_bE hm
      refine ms_callV (M2 := mt_X9_isUnit) (d2 := 2) (ci := 7) [.int z4] (am_fd ck_X9_where (pc := 34) rfl) ok_X9_isUnit tw_949 tw_951 ts_28 (by decide) kc_3261 (Nat.le_of_ble_eq_true rfl) (Nat.le_of_ble_eq_true rfl) (x_X9_isUnit hL hq6) ?_
      refine am_ifc (tgt := 78) (am_fd ck_X9_where (pc := 37) rfl) rfl (fun hc7 => ?_) (fun hc7 => ?_)
      · replace hm := am_it hm hc7
        refine am_steps ck_X9_where 2 (pc' := 24) (lv' := [(4, .int (z4 + am_i 1)), (0, .ref 3261), (1, .int y1), (2, .int y2), (3, .int z3)]) (st' := []) rfl ?_
        refine am_subp [1, 2, 3, 4, 0] rfl ?_
        exact ih _ _ hm K
      · replace hm := am_if hm hc7
        refine am_steps ck_X9_where 1 (pc' := 41) (lv' := [(0, .ref 3261), (1, .int y1), (2, .int y2), (3, .int z3), (4, .int z4)]) (st' := [.ref 3261]) rfl ?_
        refine ms_getr (ci := 7) (k := 0) (v := 3262) (am_fd ck_X9_where (pc := 41) rfl) tw_875 kc_3261 rfl (ly_3261_0 hL) kc_3262 ?_
        refine am_steps ck_X9_where 1 (pc' := 46) (lv' := [(0, .ref 3261), (1, .int y1), (2, .int y2), (3, .int z3), (4, .int z4)]) (st' := [.int z4, .ref 3262]) rfl ?_
        obtain ⟨q8, hq8, hm⟩ := am_bE hm
        refine ms_callS (M2 := mt_X9_sumAt) (d2 := 1) [.int z4] (am_fd ck_X9_where (pc := 46) rfl) ok_X9_sumAt tw_982 tw_983 (Nat.le_of_ble_eq_true rfl) (Nat.le_of_ble_eq_true rfl) (x_X9_sumAt hL hq8) ?_
        refine am_steps ck_X9_where 2 (pc' := 51) (lv' := [(0, .ref 3261), (1, .int y1), (2, .int y2), (3, .int z3), (4, .int z4)]) (st' := [.int (q8 + y1), .ref 3262]) rfl ?_
        obtain ⟨hb9, hm⟩ := am_gE hm
        refine ms_iald (n := 15517) (am_fd ck_X9_where (pc := 51) rfl) kc_3262 hb9 ?_
        refine am_steps ck_X9_where 1 (pc' := 53) (lv' := [(0, .ref 3261), (1, .int y1), (2, .int y2), (3, .int z3), (4, .int z4)]) (st' := [.int y2, .int (m 3262 (am_ix (q8 + y1)))]) rfl ?_
        refine am_icmp (tgt := 78) (am_fd ck_X9_where (pc := 53) rfl) rfl (fun hc10 => ?_) (fun hc10 => ?_)
        · replace hm := am_it hm hc10
          refine am_steps ck_X9_where 2 (pc' := 24) (lv' := [(4, .int (z4 + am_i 1)), (0, .ref 3261), (1, .int y1), (2, .int y2), (3, .int z3)]) (st' := []) rfl ?_
          refine am_subp [1, 2, 3, 4, 0] rfl ?_
          exact ih _ _ hm K
        · replace hm := am_if hm hc10
          refine am_steps ck_X9_where 2 (pc' := 58) (lv' := [(0, .ref 3261), (1, .int y1), (2, .int y2), (3, .int z3), (4, .int z4)]) (st' := [.int (am_i (-1)), .int z3]) rfl ?_
          refine am_icmp (tgt := 75) (am_fd ck_X9_where (pc := 58) rfl) rfl (fun hc11 => ?_) (fun hc11 => ?_)
          · replace hm := am_it hm hc11
            refine am_steps ck_X9_where 4 (pc' := 24) (lv' := [(4, .int (z4 + am_i 1)), (3, .int z4), (0, .ref 3261), (1, .int y1), (2, .int y2)]) (st' := []) rfl ?_
            refine am_subp [2, 3, 4, 1, 0] rfl ?_
            exact ih _ _ hm K
          · replace hm := am_if hm hc11
            refine am_steps ck_X9_where 2 (pc' := 64) (lv' := [(0, .ref 3261), (1, .int y1), (2, .int y2), (3, .int z3), (4, .int z4)]) (st' := [.int z4, .ref 3261]) rfl ?_
            obtain ⟨q12, hq12, hm⟩ := am_bE hm
            refine ms_callV (M2 := mt_X9_depth) (d2 := 1) (ci := 7) [.int z4] (am_fd ck_X9_where (pc := 64) rfl) ok_X9_depth tw_974 tw_976 ts_31 (by decide) kc_3261 (Nat.le_of_ble_eq_true rfl) (Nat.le_of_ble_eq_true rfl) (x_X9_depth hL hq12) ?_
            refine am_steps ck_X9_where 2 (pc' := 69) (lv' := [(0, .ref 3261), (1, .int y1), (2, .int y2), (3, .int z3), (4, .int z4)]) (st' := [.int z3, .ref 3261, .int q12]) rfl ?_
            obtain ⟨q13, hq13, hm⟩ := am_bE hm
            refine ms_callV (M2 := mt_X9_depth) (d2 := 1) (ci := 7) [.int z3] (am_fd ck_X9_where (pc := 69) rfl) ok_X9_depth tw_974 tw_976 ts_31 (by decide) kc_3261 (Nat.le_of_ble_eq_true rfl) (Nat.le_of_ble_eq_true rfl) (x_X9_depth hL hq13) ?_
            refine am_icmp (tgt := 78) (am_fd ck_X9_where (pc := 72) rfl) rfl (fun hc14 => ?_) (fun hc14 => ?_)
            · replace hm := am_it hm hc14
              refine am_steps ck_X9_where 2 (pc' := 24) (lv' := [(4, .int (z4 + am_i 1)), (0, .ref 3261), (1, .int y1), (2, .int y2), (3, .int z3)]) (st' := []) rfl ?_
              refine am_subp [1, 2, 3, 4, 0] rfl ?_
              exact ih _ _ hm K
            · replace hm := am_if hm hc14
              refine am_steps ck_X9_where 4 (pc' := 24) (lv' := [(4, .int (z4 + am_i 1)), (3, .int z4), (0, .ref 3261), (1, .int y1), (2, .int y2)]) (st' := []) rfl ?_
              refine am_subp [2, 3, 4, 1, 0] rfl ?_
              exact ih _ _ hm K
set_option maxRecDepth 100000 in
set_option maxHeartbeats 4000000 in
theorem x_X9_where {G : am_G} {m : am_m} {r : am_rr} {x1 : Int32} {x2 : Int32} {res : Int32} (hL : am_Lay r) (hm : m_X9_where m x1 x2 = some res) : am_Met G mt_X9_where 3 [.ref 3261, .int x1, .int x2] (am_hh m r) (some (.int res)) (am_hh m r) := by
  refine am_of (by decide) (Nat.le_of_ble_eq_true rfl) ?_
  unfold m_X9_where at hm
  show am_W G mt_X9_where 3 _ _ 0 [(0, .ref 3261), (1, .int x1), (2, .int x2)] [] (am_hh m r)
  refine am_steps ck_X9_where 1 (pc' := 1) (lv' := [(0, .ref 3261), (1, .int x1), (2, .int x2)]) (st' := [.int x1]) rfl ?_
  obtain ⟨q1, hq1, hm⟩ := am_bE hm
  refine ms_callS (M2 := mt_X9_isCategory) (d2 := 2) [.int x1] (am_fd ck_X9_where (pc := 1) rfl) ok_X9_isCategory tw_956 tw_957 (Nat.le_of_ble_eq_true rfl) (Nat.le_of_ble_eq_true rfl) (x_X9_isCategory hL hq1) ?_
  refine am_ifc (tgt := 17) (am_fd ck_X9_where (pc := 4) rfl) rfl (fun hc2 => ?_) (fun hc2 => ?_)
  · replace hm := am_it hm hc2
    refine am_steps ck_X9_where 1 (pc' := 18) (lv' := [(0, .ref 3261), (1, .int x1), (2, .int x2)]) (st' := [.int (am_i (-1))]) rfl ?_
    cases hm
    exact am_end (am_fd ck_X9_where (pc := 18) rfl) am_rI rfl rfl
  · replace hm := am_if hm hc2
    refine am_steps ck_X9_where 2 (pc' := 9) (lv' := [(0, .ref 3261), (1, .int x1), (2, .int x2)]) (st' := [.int (am_i 1), .int x2]) rfl ?_
    refine am_ldc (am_fd ck_X9_where (pc := 9) rfl) tw_1088 ?_
    obtain ⟨q3, hq3, hm⟩ := am_bE hm
    refine ms_callS (M2 := mt_X9_isIn) (d2 := 1) [.int x2, .int (am_i 1), .int (am_i 999999)] (am_fd ck_X9_where (pc := 11) rfl) ok_X9_isIn tw_953 tw_954 (Nat.le_of_ble_eq_true rfl) (Nat.le_of_ble_eq_true rfl) (x_X9_isIn hL hq3) ?_
    refine am_ifc (tgt := 19) (am_fd ck_X9_where (pc := 14) rfl) rfl (fun hc4 => ?_) (fun hc4 => ?_)
    · replace hm := am_it hm hc4
      refine am_steps ck_X9_where 4 (pc' := 24) (lv' := [(4, .int (am_i 0)), (3, .int (am_i (-1))), (0, .ref 3261), (1, .int x1), (2, .int x2)]) (st' := []) rfl ?_
      refine am_subp [2, 3, 4, 1, 0] rfl ?_
      refine x_X9_where_24 hL am_F _ _ hm (fun u15 hm => ?_)
      refine am_steps ck_X9_where 1 (pc' := 85) (lv' := [(3, .int u15)]) (st' := [.int u15]) rfl ?_
      cases hm
      exact am_end (am_fd ck_X9_where (pc := 85) rfl) am_rI rfl rfl
    · replace hm := am_if hm hc4
      refine am_steps ck_X9_where 1 (pc' := 18) (lv' := [(0, .ref 3261), (1, .int x1), (2, .int x2)]) (st' := [.int (am_i (-1))]) rfl ?_
      cases hm
      exact am_end (am_fd ck_X9_where (pc := 18) rfl) am_rI rfl rfl
set_option maxRecDepth 100000 in
set_option maxHeartbeats 4000000 in
theorem x_X9_cost_12 {G : am_G} {x1 : Int32} {r : am_rr} {y1 : Int32} {res : Int32 × am_m} {k : am_m → Option (Int32 × am_m)} (hL : am_Lay r) : ∀ (n : Nat) (z2 : Int32) (m : am_m), m_X9_cost_12 x1 y1 k n z2 m = some res → (∀ (m1 : am_m), k m1 = some res → am_W G mt_X9_cost 27 (some (.int res.1)) (am_hh res.2 r) 37 [(0, .ref 3261), (1, .int y1)] [] (am_hh m1 r)) → am_W G mt_X9_cost 27 (some (.int res.1)) (am_hh res.2 r) 12 [(0, .ref 3261), (1, .int y1), (2, .int z2)] [] (am_hh m r) := by
  intro n
  induction n with
  | zero => intro z2 m hm K; cases hm
  | succ n ih =>
    intro z2 m hm K
    unfold m_X9_cost_12 at hm
    refine am_steps ck_X9_cost 2 (pc' := 16) (lv' := [(0, .ref 3261), (1, .int y1), (2, .int z2)]) (st' := [.int (am_i 15517), .int z2]) rfl ?_
    refine am_icmp (tgt := 37) (am_fd ck_X9_cost (pc := 16) rfl) rfl (fun hc3 => ?_) (fun hc3 => ?_)
    · replace hm := am_it hm hc3
      refine am_subp [0, 1] rfl ?_
      exact K _ hm
    · replace hm := am_if hm hc3
      refine am_steps ck_X9_cost 1 (pc' := 20) (lv' := [(0, .ref 3261), (1, .int y1), (2, .int z2)]) (st' := [.ref 3261]) rfl ?_
      refine ms_getr (ci := 7) (k := 1) (v := 3263) (am_fd ck_X9_cost (pc := 20) rfl) tw_876 kc_3261 rfl (ly_3261_1 hL) kc_3263 ?_
      refine am_steps ck_X9_cost 2 (pc' := 25) (lv' := [(0, .ref 3261), (1, .int y1), (2, .int z2)]) (st' := [.ref 3261, .int z2, .ref 3263]) rfl ?_
      refine ms_getr (ci := 7) (k := 0) (v := 3262) (am_fd ck_X9_cost (pc := 25) rfl) tw_875 kc_3261 rfl (ly_3261_0 hL) kc_3262 ?_
      refine am_steps ck_X9_cost 1 (pc' := 29) (lv' := [(0, .ref 3261), (1, .int y1), (2, .int z2)]) (st' := [.int z2, .ref 3262, .int z2, .ref 3263]) rfl ?_
      obtain ⟨hb4, hm⟩ := am_gE hm
      refine ms_iald (n := 15517) (am_fd ck_X9_cost (pc := 29) rfl) kc_3262 hb4 ?_
      obtain ⟨hb5, hm⟩ := am_gE hm
      refine ms_iast (n := 15517) (am_fd ck_X9_cost (pc := 30) rfl) kc_3263 hb5 (fun m6 em6 => ?_)
      replace hm := am_letE em6 hm
      refine am_steps ck_X9_cost 2 (pc' := 12) (lv' := [(2, .int (z2 + am_i 1)), (0, .ref 3261), (1, .int y1)]) (st' := []) rfl ?_
      refine am_subp [1, 2, 0] rfl ?_
      exact ih _ _ hm K
set_option maxRecDepth 100000 in
set_option maxHeartbeats 4000000 in
theorem x_X9_cost {G : am_G} {m : am_m} {r : am_rr} {x1 : Int32} {res : Int32 × am_m} (hL : am_Lay r) (hm : m_X9_cost m x1 = some res) : am_Met G mt_X9_cost 27 [.ref 3261, .int x1] (am_hh m r) (some (.int res.1)) (am_hh res.2 r) := by
  refine am_of (by decide) (Nat.le_of_ble_eq_true rfl) ?_
  unfold m_X9_cost at hm
  show am_W G mt_X9_cost 27 _ _ 0 [(0, .ref 3261), (1, .int x1)] [] (am_hh m r)
  refine am_steps ck_X9_cost 2 (pc' := 2) (lv' := [(0, .ref 3261), (1, .int x1)]) (st' := [.int x1, .ref 3261]) rfl ?_
  obtain ⟨q1, hq1, hm⟩ := am_bE hm
  refine ms_callV (M2 := mt_X9_isUnit) (d2 := 2) (ci := 7) [.int x1] (am_fd ck_X9_cost (pc := 2) rfl) ok_X9_isUnit tw_949 tw_951 ts_28 (by decide) kc_3261 (Nat.le_of_ble_eq_true rfl) (Nat.le_of_ble_eq_true rfl) (x_X9_isUnit hL hq1) ?_
  refine am_ifc (tgt := 10) (am_fd ck_X9_cost (pc := 5) rfl) rfl (fun hc2 => ?_) (fun hc2 => ?_)
  · replace hm := am_it hm hc2
    refine am_steps ck_X9_cost 2 (pc' := 12) (lv' := [(2, .int (am_i 0)), (0, .ref 3261), (1, .int x1)]) (st' := []) rfl ?_
    refine am_subp [1, 2, 0] rfl ?_
    refine x_X9_cost_12 hL am_F _ _ hm (fun m7 hm => ?_)
    refine am_steps ck_X9_cost 2 (pc' := 39) (lv' := [(0, .ref 3261), (1, .int x1)]) (st' := [.int x1, .ref 3261]) rfl ?_
    obtain ⟨q8, hq8, hm⟩ := am_bE hm
    refine ms_callV (M2 := mt_X9_rolls) (d2 := 26) (ci := 7) [.int x1] (am_fd ck_X9_cost (pc := 39) rfl) ok_X9_rolls tw_1050 tw_1052 ts_43 (by decide) kc_3261 (Nat.le_of_ble_eq_true rfl) (Nat.le_of_ble_eq_true rfl) (x_X9_rolls 20 hL hq8) ?_
    refine am_steps ck_X9_cost 2 (pc' := 44) (lv' := [(2, .int q8.1), (0, .ref 3261), (1, .int x1)]) (st' := [.ref 3261]) rfl ?_
    obtain ⟨q9, hq9, hm⟩ := am_bE hm
    refine ms_callVv (M2 := mt_X9_comesBack) (d2 := 1) (ci := 7) [] (am_fd ck_X9_cost (pc := 44) rfl) ok_X9_comesBack tw_1153 tw_1155 ts_59 (by decide) kc_3261 (Nat.le_of_ble_eq_true rfl) (Nat.le_of_ble_eq_true rfl) (x_X9_comesBack hL hq9) ?_
    refine am_steps ck_X9_cost 1 (pc' := 48) (lv' := [(2, .int q8.1), (0, .ref 3261), (1, .int x1)]) (st' := [.int q8.1]) rfl ?_
    cases hm
    exact am_end (am_fd ck_X9_cost (pc := 48) rfl) am_rI rfl rfl
  · replace hm := am_if hm hc2
    refine am_steps ck_X9_cost 1 (pc' := 9) (lv' := [(0, .ref 3261), (1, .int x1)]) (st' := [.int (am_i (-1))]) rfl ?_
    cases hm
    exact am_end (am_fd ck_X9_cost (pc := 9) rfl) am_rI rfl rfl
set_option maxRecDepth 100000 in
set_option maxHeartbeats 4000000 in
theorem x_X9_staleOnes_4 {G : am_G} {m : am_m} {r : am_rr} {res : Int32} {k : Int32 → Option (Int32)} (hL : am_Lay r) : ∀ (n : Nat) (z1 : Int32) (z2 : Int32), m_X9_staleOnes_4 m k n z1 z2 = some res → (∀ (u1 : Int32), k u1 = some res → am_W G mt_X9_staleOnes 1 (some (.int res)) (am_hh m r) 51 [(1, .int u1)] [] (am_hh m r)) → am_W G mt_X9_staleOnes 1 (some (.int res)) (am_hh m r) 4 [(0, .ref 3261), (1, .int z1), (2, .int z2)] [] (am_hh m r) := by
  intro n
  induction n with
  | zero => intro z1 z2 hm K; cases hm
  | succ n ih =>
    intro z1 z2 hm K
    unfold m_X9_staleOnes_4 at hm
    refine am_steps ck_X9_staleOnes 2 (pc' := 7) (lv' := [(0, .ref 3261), (1, .int z1), (2, .int z2)]) (st' := [.int (am_i 24), .int z2]) rfl ?_
    refine am_icmp (tgt := 51) (am_fd ck_X9_staleOnes (pc := 7) rfl) rfl (fun hc1 => ?_) (fun hc1 => ?_)
    · replace hm := am_it hm hc1
      refine am_subp [1] rfl ?_
      exact K _ hm
    · replace hm := am_if hm hc1
      refine am_steps ck_X9_staleOnes 2 (pc' := 12) (lv' := [(0, .ref 3261), (1, .int z1), (2, .int z2)]) (st' := [.ref 3261, .int z1]) rfl ?_
      refine ms_getr (ci := 7) (k := 0) (v := 3262) (am_fd ck_X9_staleOnes (pc := 12) rfl) tw_875 kc_3261 rfl (ly_3261_0 hL) kc_3262 ?_
      refine am_steps ck_X9_staleOnes 3 (pc' := 18) (lv' := [(0, .ref 3261), (1, .int z1), (2, .int z2)]) (st' := [.int ((am_i 0) + z2), .ref 3262, .int z1]) rfl ?_
      obtain ⟨hb2, hm⟩ := am_gE hm
      refine ms_iald (n := 15517) (am_fd ck_X9_staleOnes (pc := 18) rfl) kc_3262 hb2 ?_
      refine am_steps ck_X9_staleOnes 1 (pc' := 20) (lv' := [(0, .ref 3261), (1, .int z1), (2, .int z2)]) (st' := [.int (am_i 1), .int (m 3262 (am_ix ((am_i 0) + z2))), .int z1]) rfl ?_
      refine am_icmp (tgt := 42) (am_fd ck_X9_staleOnes (pc := 20) rfl) rfl (fun hc3 => ?_) (fun hc3 => ?_)
      · replace hm := am_it hm hc3
        refine am_steps ck_X9_staleOnes 5 (pc' := 4) (lv' := [(2, .int (z2 + am_i 1)), (1, .int (z1 ||| (am_i 0))), (0, .ref 3261)]) (st' := []) rfl ?_
        refine am_subp [2, 1, 0] rfl ?_
        exact ih _ _ hm K
      · replace hm := am_if hm hc3
        refine am_steps ck_X9_staleOnes 1 (pc' := 24) (lv' := [(0, .ref 3261), (1, .int z1), (2, .int z2)]) (st' := [.ref 3261, .int z1]) rfl ?_
        refine ms_getr (ci := 7) (k := 0) (v := 3262) (am_fd ck_X9_staleOnes (pc := 24) rfl) tw_875 kc_3261 rfl (ly_3261_0 hL) kc_3262 ?_
        refine am_steps ck_X9_staleOnes 3 (pc' := 31) (lv' := [(0, .ref 3261), (1, .int z1), (2, .int z2)]) (st' := [.int ((am_i 48) + z2), .ref 3262, .int z1]) rfl ?_
        obtain ⟨hb4, hm⟩ := am_gE hm
        refine ms_iald (n := 15517) (am_fd ck_X9_staleOnes (pc := 31) rfl) kc_3262 hb4 ?_
        refine am_steps ck_X9_staleOnes 1 (pc' := 33) (lv' := [(0, .ref 3261), (1, .int z1), (2, .int z2)]) (st' := [.int (am_i 1), .int (m 3262 (am_ix ((am_i 48) + z2))), .int z1]) rfl ?_
        refine am_icmp (tgt := 42) (am_fd ck_X9_staleOnes (pc := 33) rfl) rfl (fun hc5 => ?_) (fun hc5 => ?_)
        · replace hm := am_it hm hc5
          refine am_steps ck_X9_staleOnes 5 (pc' := 4) (lv' := [(2, .int (z2 + am_i 1)), (1, .int (z1 ||| (am_i 0))), (0, .ref 3261)]) (st' := []) rfl ?_
          refine am_subp [2, 1, 0] rfl ?_
          exact ih _ _ hm K
        · replace hm := am_if hm hc5
          refine am_steps ck_X9_staleOnes 8 (pc' := 4) (lv' := [(2, .int (z2 + am_i 1)), (1, .int (z1 ||| ((am_i 1) <<< (z2 &&& 31)))), (0, .ref 3261)]) (st' := []) rfl ?_
          refine am_subp [2, 1, 0] rfl ?_
          exact ih _ _ hm K
set_option maxRecDepth 100000 in
set_option maxHeartbeats 4000000 in
theorem x_X9_staleOnes {G : am_G} {m : am_m} {r : am_rr} {res : Int32} (hL : am_Lay r) (hm : m_X9_staleOnes m  = some res) : am_Met G mt_X9_staleOnes 1 [.ref 3261] (am_hh m r) (some (.int res)) (am_hh m r) := by
  refine am_of (by decide) (Nat.le_of_ble_eq_true rfl) ?_
  unfold m_X9_staleOnes at hm
  show am_W G mt_X9_staleOnes 1 _ _ 0 [(0, .ref 3261)] [] (am_hh m r)
  refine am_steps ck_X9_staleOnes 4 (pc' := 4) (lv' := [(2, .int (am_i 0)), (1, .int (am_i 0)), (0, .ref 3261)]) (st' := []) rfl ?_
  refine am_subp [2, 1, 0] rfl ?_
  refine x_X9_staleOnes_4 hL am_F _ _ hm (fun u6 hm => ?_)
  refine am_steps ck_X9_staleOnes 1 (pc' := 52) (lv' := [(1, .int u6)]) (st' := [.int u6]) rfl ?_
  cases hm
  exact am_end (am_fd ck_X9_staleOnes (pc := 52) rfl) am_rI rfl rfl
set_option maxRecDepth 100000 in
set_option maxHeartbeats 4000000 in
theorem x_X9_would_23 {G : am_G} {x1 : Int32} {x2 : Int32} {x3 : Int32} {r : am_rr} {y1 : Int32} {y2 : Int32} {y3 : Int32} {res : Int32 × am_m} {k : am_m → Option (Int32 × am_m)} (hL : am_Lay r) : ∀ (n : Nat) (z4 : Int32) (m : am_m), m_X9_would_23 x1 x2 x3 y1 y2 y3 k n z4 m = some res → (∀ (m1 : am_m), k m1 = some res → am_W G mt_X9_would 27 (some (.int res.1)) (am_hh res.2 r) 63 [(0, .ref 3261), (1, .int y1), (2, .int y2), (3, .int y3)] [] (am_hh m1 r)) → am_W G mt_X9_would 27 (some (.int res.1)) (am_hh res.2 r) 23 [(0, .ref 3261), (1, .int y1), (2, .int y2), (3, .int y3), (4, .int z4)] [] (am_hh m r) := by
  intro n
  induction n with
  | zero => intro z4 m hm K; cases hm
  | succ n ih =>
    intro z4 m hm K
    unfold m_X9_would_23 at hm
    refine am_steps ck_X9_would 2 (pc' := 27) (lv' := [(0, .ref 3261), (1, .int y1), (2, .int y2), (3, .int y3), (4, .int z4)]) (st' := [.int (am_i 24), .int z4]) rfl ?_
    refine am_icmp (tgt := 63) (am_fd ck_X9_would (pc := 27) rfl) rfl (fun hc5 => ?_) (fun hc5 => ?_)
    · replace hm := am_it hm hc5
      refine am_subp [0, 1, 2, 3] rfl ?_
      exact K _ hm
    · replace hm := am_if hm hc5
      refine am_steps ck_X9_would 1 (pc' := 31) (lv' := [(0, .ref 3261), (1, .int y1), (2, .int y2), (3, .int y3), (4, .int z4)]) (st' := [.ref 3261]) rfl ?_
      refine ms_getr (ci := 7) (k := 19) (v := 3272) (am_fd ck_X9_would (pc := 31) rfl) tw_894 kc_3261 rfl (ly_3261_19 hL) kc_3272 ?_
      refine am_steps ck_X9_would 3 (pc' := 39) (lv' := [(0, .ref 3261), (1, .int y1), (2, .int y2), (3, .int y3), (4, .int z4)]) (st' := [.int z4, .ref 3261, .int z4, .ref 3272]) rfl ?_
      obtain ⟨q6, hq6, hm⟩ := am_bE hm
      refine ms_callV (M2 := mt_X9_isUnit) (d2 := 2) (ci := 7) [.int z4] (am_fd ck_X9_would (pc := 39) rfl) ok_X9_isUnit tw_949 tw_951 ts_28 (by decide) kc_3261 (Nat.le_of_ble_eq_true rfl) (Nat.le_of_ble_eq_true rfl) (x_X9_isUnit hL hq6) ?_
      refine am_ifc (tgt := 55) (am_fd ck_X9_would (pc := 42) rfl) rfl (fun hc7 => ?_) (fun hc7 => ?_)
      · replace hm := am_it hm hc7
        refine am_steps ck_X9_would 1 (pc' := 56) (lv' := [(0, .ref 3261), (1, .int y1), (2, .int y2), (3, .int y3), (4, .int z4)]) (st' := [.int (am_i (-1)), .int z4, .ref 3272]) rfl ?_
        obtain ⟨hb8, hm⟩ := am_gE hm
        refine ms_iast (n := 24) (am_fd ck_X9_would (pc := 56) rfl) kc_3272 hb8 (fun m9 em9 => ?_)
        replace hm := am_letE em9 hm
        refine am_steps ck_X9_would 2 (pc' := 23) (lv' := [(4, .int (z4 + am_i 1)), (0, .ref 3261), (1, .int y1), (2, .int y2), (3, .int y3)]) (st' := []) rfl ?_
        refine am_subp [1, 2, 3, 4, 0] rfl ?_
        exact ih _ _ hm K
      · replace hm := am_if hm hc7
        refine am_steps ck_X9_would 3 (pc' := 49) (lv' := [(0, .ref 3261), (1, .int y1), (2, .int y2), (3, .int y3), (4, .int z4)]) (st' := [.int (am_i 0), .int z4, .ref 3261, .int z4, .ref 3272]) rfl ?_
        obtain ⟨q10, hq10, hm⟩ := am_bE hm
        refine ms_callV (M2 := mt_X9_leaderOf) (d2 := 3) (ci := 7) [.int z4, .int (am_i 0)] (am_fd ck_X9_would (pc := 49) rfl) ok_X9_leaderOf tw_1209 tw_1211 ts_65 (by decide) kc_3261 (Nat.le_of_ble_eq_true rfl) (Nat.le_of_ble_eq_true rfl) (x_X9_leaderOf hL hq10) ?_
        refine am_steps ck_X9_would 1 (pc' := 56) (lv' := [(0, .ref 3261), (1, .int y1), (2, .int y2), (3, .int y3), (4, .int z4)]) (st' := [.int q10, .int z4, .ref 3272]) rfl ?_
        obtain ⟨hb11, hm⟩ := am_gE hm
        refine ms_iast (n := 24) (am_fd ck_X9_would (pc := 56) rfl) kc_3272 hb11 (fun m12 em12 => ?_)
        replace hm := am_letE em12 hm
        refine am_steps ck_X9_would 2 (pc' := 23) (lv' := [(4, .int (z4 + am_i 1)), (0, .ref 3261), (1, .int y1), (2, .int y2), (3, .int y3)]) (st' := []) rfl ?_
        refine am_subp [1, 2, 3, 4, 0] rfl ?_
        exact ih _ _ hm K
set_option maxRecDepth 100000 in
set_option maxHeartbeats 4000000 in
theorem x_X9_would_66 {G : am_G} {x1 : Int32} {x2 : Int32} {x3 : Int32} {r : am_rr} {y1 : Int32} {y2 : Int32} {y3 : Int32} {res : Int32 × am_m} {k : am_m → Option (Int32 × am_m)} (hL : am_Lay r) : ∀ (n : Nat) (z4 : Int32) (m : am_m), m_X9_would_66 x1 x2 x3 y1 y2 y3 k n z4 m = some res → (∀ (m1 : am_m), k m1 = some res → am_W G mt_X9_would 27 (some (.int res.1)) (am_hh res.2 r) 94 [(0, .ref 3261), (1, .int y1), (2, .int y2), (3, .int y3)] [] (am_hh m1 r)) → am_W G mt_X9_would 27 (some (.int res.1)) (am_hh res.2 r) 66 [(0, .ref 3261), (1, .int y1), (2, .int y2), (3, .int y3), (4, .int z4)] [] (am_hh m r) := by
  intro n
  induction n with
  | zero => intro z4 m hm K; cases hm
  | succ n ih =>
    intro z4 m hm K
    unfold m_X9_would_66 at hm
    refine am_steps ck_X9_would 2 (pc' := 71) (lv' := [(0, .ref 3261), (1, .int y1), (2, .int y2), (3, .int y3), (4, .int z4)]) (st' := [.int (am_i 15517), .int z4]) rfl ?_
    refine am_icmp (tgt := 94) (am_fd ck_X9_would (pc := 71) rfl) rfl (fun hc14 => ?_) (fun hc14 => ?_)
    · replace hm := am_it hm hc14
      refine am_subp [0, 1, 2, 3] rfl ?_
      exact K _ hm
    · replace hm := am_if hm hc14
      refine am_steps ck_X9_would 1 (pc' := 75) (lv' := [(0, .ref 3261), (1, .int y1), (2, .int y2), (3, .int y3), (4, .int z4)]) (st' := [.ref 3261]) rfl ?_
      refine ms_getr (ci := 7) (k := 1) (v := 3263) (am_fd ck_X9_would (pc := 75) rfl) tw_876 kc_3261 rfl (ly_3261_1 hL) kc_3263 ?_
      refine am_steps ck_X9_would 2 (pc' := 81) (lv' := [(0, .ref 3261), (1, .int y1), (2, .int y2), (3, .int y3), (4, .int z4)]) (st' := [.ref 3261, .int z4, .ref 3263]) rfl ?_
      refine ms_getr (ci := 7) (k := 0) (v := 3262) (am_fd ck_X9_would (pc := 81) rfl) tw_875 kc_3261 rfl (ly_3261_0 hL) kc_3262 ?_
      refine am_steps ck_X9_would 1 (pc' := 86) (lv' := [(0, .ref 3261), (1, .int y1), (2, .int y2), (3, .int y3), (4, .int z4)]) (st' := [.int z4, .ref 3262, .int z4, .ref 3263]) rfl ?_
      obtain ⟨hb15, hm⟩ := am_gE hm
      refine ms_iald (n := 15517) (am_fd ck_X9_would (pc := 86) rfl) kc_3262 hb15 ?_
      obtain ⟨hb16, hm⟩ := am_gE hm
      refine ms_iast (n := 15517) (am_fd ck_X9_would (pc := 87) rfl) kc_3263 hb16 (fun m17 em17 => ?_)
      replace hm := am_letE em17 hm
      refine am_steps ck_X9_would 2 (pc' := 66) (lv' := [(4, .int (z4 + am_i 1)), (0, .ref 3261), (1, .int y1), (2, .int y2), (3, .int y3)]) (st' := []) rfl ?_
      refine am_subp [1, 2, 3, 4, 0] rfl ?_
      exact ih _ _ hm K
set_option maxRecDepth 100000 in
set_option maxHeartbeats 4000000 in
theorem x_X9_would_127 {G : am_G} {x1 : Int32} {x2 : Int32} {x3 : Int32} {m : am_m} {r : am_rr} {y3 : Int32} {y4 : Int32} {y5 : Int32} {y6 : Int32} {res : Int32 × am_m} {k : Int32 → Option (Int32 × am_m)} (hL : am_Lay r) : ∀ (n : Nat) (z7 : Int32) (z8 : Int32), m_X9_would_127 x1 x2 x3 m y3 y4 y5 y6 k n z7 z8 = some res → (∀ (u7 : Int32), k u7 = some res → am_W G mt_X9_would 27 (some (.int res.1)) (am_hh res.2 r) 176 [(0, .ref 3261), (3, .int y3), (4, .int y4), (5, .int y5), (6, .int y6), (7, .int u7)] [] (am_hh m r)) → am_W G mt_X9_would 27 (some (.int res.1)) (am_hh res.2 r) 127 [(0, .ref 3261), (3, .int y3), (4, .int y4), (5, .int y5), (6, .int y6), (7, .int z7), (8, .int z8)] [] (am_hh m r) := by
  intro n
  induction n with
  | zero => intro z7 z8 hm K; cases hm
  | succ n ih =>
    intro z7 z8 hm K
    unfold m_X9_would_127 at hm
    refine am_steps ck_X9_would 2 (pc' := 131) (lv' := [(0, .ref 3261), (3, .int y3), (4, .int y4), (5, .int y5), (6, .int y6), (7, .int z7), (8, .int z8)]) (st' := [.int (am_i 24), .int z8]) rfl ?_
    refine am_icmp (tgt := 176) (am_fd ck_X9_would (pc := 131) rfl) rfl (fun hc23 => ?_) (fun hc23 => ?_)
    · replace hm := am_it hm hc23
      refine am_subp [0, 1, 2, 3, 4, 5] rfl ?_
      exact K _ hm
    · replace hm := am_if hm hc23
      refine am_steps ck_X9_would 3 (pc' := 139) (lv' := [(0, .ref 3261), (3, .int y3), (4, .int y4), (5, .int y5), (6, .int y6), (7, .int z7), (8, .int z8)]) (st' := [.int z8, .ref 3261, .int z7]) rfl ?_
      obtain ⟨q24, hq24, hm⟩ := am_bE hm
      refine ms_callV (M2 := mt_X9_isUnit) (d2 := 2) (ci := 7) [.int z8] (am_fd ck_X9_would (pc := 139) rfl) ok_X9_isUnit tw_949 tw_951 ts_28 (by decide) kc_3261 (Nat.le_of_ble_eq_true rfl) (Nat.le_of_ble_eq_true rfl) (x_X9_isUnit hL hq24) ?_
      refine am_ifc (tgt := 166) (am_fd ck_X9_would (pc := 142) rfl) rfl (fun hc25 => ?_) (fun hc25 => ?_)
      · replace hm := am_it hm hc25
        refine am_steps ck_X9_would 5 (pc' := 127) (lv' := [(8, .int (z8 + am_i 1)), (7, .int (z7 + (am_i 0))), (0, .ref 3261), (3, .int y3), (4, .int y4), (5, .int y5), (6, .int y6)]) (st' := []) rfl ?_
        refine am_subp [2, 3, 4, 5, 6, 1, 0] rfl ?_
        exact ih _ _ hm K
      · replace hm := am_if hm hc25
        refine am_steps ck_X9_would 3 (pc' := 149) (lv' := [(0, .ref 3261), (3, .int y3), (4, .int y4), (5, .int y5), (6, .int y6), (7, .int z7), (8, .int z8)]) (st' := [.int (am_i 0), .int z8, .ref 3261, .int z7]) rfl ?_
        obtain ⟨q26, hq26, hm⟩ := am_bE hm
        refine ms_callV (M2 := mt_X9_leaderOf) (d2 := 3) (ci := 7) [.int z8, .int (am_i 0)] (am_fd ck_X9_would (pc := 149) rfl) ok_X9_leaderOf tw_1209 tw_1211 ts_65 (by decide) kc_3261 (Nat.le_of_ble_eq_true rfl) (Nat.le_of_ble_eq_true rfl) (x_X9_leaderOf hL hq26) ?_
        refine am_steps ck_X9_would 1 (pc' := 153) (lv' := [(0, .ref 3261), (3, .int y3), (4, .int y4), (5, .int y5), (6, .int y6), (7, .int z7), (8, .int z8)]) (st' := [.ref 3261, .int q26, .int z7]) rfl ?_
        refine ms_getr (ci := 7) (k := 19) (v := 3272) (am_fd ck_X9_would (pc := 153) rfl) tw_894 kc_3261 rfl (ly_3261_19 hL) kc_3272 ?_
        refine am_steps ck_X9_would 1 (pc' := 158) (lv' := [(0, .ref 3261), (3, .int y3), (4, .int y4), (5, .int y5), (6, .int y6), (7, .int z7), (8, .int z8)]) (st' := [.int z8, .ref 3272, .int q26, .int z7]) rfl ?_
        obtain ⟨hb27, hm⟩ := am_gE hm
        refine ms_iald (n := 24) (am_fd ck_X9_would (pc := 158) rfl) kc_3272 hb27 ?_
        refine am_icmp (tgt := 166) (am_fd ck_X9_would (pc := 159) rfl) rfl (fun hc28 => ?_) (fun hc28 => ?_)
        · replace hm := am_it hm hc28
          refine am_steps ck_X9_would 5 (pc' := 127) (lv' := [(8, .int (z8 + am_i 1)), (7, .int (z7 + (am_i 0))), (0, .ref 3261), (3, .int y3), (4, .int y4), (5, .int y5), (6, .int y6)]) (st' := []) rfl ?_
          refine am_subp [2, 3, 4, 5, 6, 1, 0] rfl ?_
          exact ih _ _ hm K
        · replace hm := am_if hm hc28
          refine am_steps ck_X9_would 6 (pc' := 127) (lv' := [(8, .int (z8 + am_i 1)), (7, .int (z7 + (am_i 1))), (0, .ref 3261), (3, .int y3), (4, .int y4), (5, .int y5), (6, .int y6)]) (st' := []) rfl ?_
          refine am_subp [2, 3, 4, 5, 6, 1, 0] rfl ?_
          exact ih _ _ hm K
set_option maxRecDepth 100000 in
set_option maxHeartbeats 4000000 in
theorem x_X9_would {G : am_G} {m : am_m} {r : am_rr} {x1 : Int32} {x2 : Int32} {x3 : Int32} {res : Int32 × am_m} (hL : am_Lay r) (hm : m_X9_would m x1 x2 x3 = some res) : am_Met G mt_X9_would 27 [.ref 3261, .int x1, .int x2, .int x3] (am_hh m r) (some (.int res.1)) (am_hh res.2 r) := by
  refine am_of (by decide) (Nat.le_of_ble_eq_true rfl) ?_
  unfold m_X9_would at hm
  show am_W G mt_X9_would 27 _ _ 0 [(0, .ref 3261), (1, .int x1), (2, .int x2), (3, .int x3)] [] (am_hh m r)
  refine am_steps ck_X9_would 3 (pc' := 3) (lv' := [(0, .ref 3261), (1, .int x1), (2, .int x2), (3, .int x3)]) (st' := [.int x2, .int x1, .ref 3261]) rfl ?_
  obtain ⟨q1, hq1, hm⟩ := am_bE hm
  refine ms_callV (M2 := mt_X9_canMove) (d2 := 4) (ci := 7) [.int x1, .int x2] (am_fd ck_X9_would (pc := 3) rfl) ok_X9_canMove tw_1015 tw_1017 ts_37 (by decide) kc_3261 (Nat.le_of_ble_eq_true rfl) (Nat.le_of_ble_eq_true rfl) (x_X9_canMove hL hq1) ?_
  refine am_ifc (tgt := 18) (am_fd ck_X9_would (pc := 6) rfl) rfl (fun hc2 => ?_) (fun hc2 => ?_)
  · replace hm := am_it hm hc2
    refine am_steps ck_X9_would 1 (pc' := 19) (lv' := [(0, .ref 3261), (1, .int x1), (2, .int x2), (3, .int x3)]) (st' := [.int (am_i (-1))]) rfl ?_
    cases hm
    exact am_end (am_fd ck_X9_would (pc := 19) rfl) am_rI rfl rfl
  · replace hm := am_if hm hc2
    refine am_steps ck_X9_would 3 (pc' := 12) (lv' := [(0, .ref 3261), (1, .int x1), (2, .int x2), (3, .int x3)]) (st' := [.int (am_i 3), .int (am_i 0), .int x3]) rfl ?_
    obtain ⟨q3, hq3, hm⟩ := am_bE hm
    refine ms_callS (M2 := mt_X9_isIn) (d2 := 1) [.int x3, .int (am_i 0), .int (am_i 3)] (am_fd ck_X9_would (pc := 12) rfl) ok_X9_isIn tw_953 tw_954 (Nat.le_of_ble_eq_true rfl) (Nat.le_of_ble_eq_true rfl) (x_X9_isIn hL hq3) ?_
    refine am_ifc (tgt := 20) (am_fd ck_X9_would (pc := 15) rfl) rfl (fun hc4 => ?_) (fun hc4 => ?_)
    · replace hm := am_it hm hc4
      refine am_steps ck_X9_would 2 (pc' := 23) (lv' := [(4, .int (am_i 0)), (0, .ref 3261), (1, .int x1), (2, .int x2), (3, .int x3)]) (st' := []) rfl ?_
      refine am_subp [1, 2, 3, 4, 0] rfl ?_
      refine x_X9_would_23 hL am_F _ _ hm (fun m13 hm => ?_)
      refine am_steps ck_X9_would 2 (pc' := 66) (lv' := [(4, .int (am_i 0)), (0, .ref 3261), (1, .int x1), (2, .int x2), (3, .int x3)]) (st' := []) rfl ?_
      refine am_subp [1, 2, 3, 4, 0] rfl ?_
      refine x_X9_would_66 hL am_F _ _ hm (fun m18 hm => ?_)
      refine am_steps ck_X9_would 3 (pc' := 97) (lv' := [(0, .ref 3261), (1, .int x1), (2, .int x2), (3, .int x3)]) (st' := [.int x2, .int x1, .ref 3261]) rfl ?_
      obtain ⟨q19, hq19, hm⟩ := am_bE hm
      refine ms_callVv (M2 := mt_X9_moves) (d2 := 2) (ci := 7) [.int x1, .int x2] (am_fd ck_X9_would (pc := 97) rfl) ok_X9_moves tw_1027 tw_1029 ts_40 (by decide) kc_3261 (Nat.le_of_ble_eq_true rfl) (Nat.le_of_ble_eq_true rfl) (x_X9_moves hL hq19) ?_
      refine am_steps ck_X9_would 1 (pc' := 101) (lv' := [(0, .ref 3261), (1, .int x1), (2, .int x2), (3, .int x3)]) (st' := [.ref 3261]) rfl ?_
      obtain ⟨q20, hq20, hm⟩ := am_bE hm
      refine ms_callV (M2 := mt_X9_staleOnes) (d2 := 1) (ci := 7) [] (am_fd ck_X9_would (pc := 101) rfl) ok_X9_staleOnes tw_1360 tw_1362 ts_76 (by decide) kc_3261 (Nat.le_of_ble_eq_true rfl) (Nat.le_of_ble_eq_true rfl) (x_X9_staleOnes hL hq20) ?_
      refine am_steps ck_X9_would 3 (pc' := 108) (lv' := [(4, .int q20), (0, .ref 3261), (1, .int x1), (2, .int x2), (3, .int x3)]) (st' := [.int (am_i 0), .ref 3261]) rfl ?_
      obtain ⟨q21, hq21, hm⟩ := am_bE hm
      refine ms_callV (M2 := mt_X9_rolls) (d2 := 26) (ci := 7) [.int (am_i 0)] (am_fd ck_X9_would (pc := 108) rfl) ok_X9_rolls tw_1050 tw_1052 ts_43 (by decide) kc_3261 (Nat.le_of_ble_eq_true rfl) (Nat.le_of_ble_eq_true rfl) (x_X9_rolls 20 hL hq21) ?_
      refine am_steps ck_X9_would 4 (pc' := 116) (lv' := [(5, .int q21.1), (4, .int q20), (0, .ref 3261), (1, .int x1), (2, .int x2), (3, .int x3)]) (st' := [.int (am_i 0), .int x2, .ref 3261]) rfl ?_
      obtain ⟨q22, hq22, hm⟩ := am_bE hm
      refine ms_callV (M2 := mt_X9_leaderOf) (d2 := 3) (ci := 7) [.int x2, .int (am_i 0)] (am_fd ck_X9_would (pc := 116) rfl) ok_X9_leaderOf tw_1209 tw_1211 ts_65 (by decide) kc_3261 (Nat.le_of_ble_eq_true rfl) (Nat.le_of_ble_eq_true rfl) (x_X9_leaderOf hL hq22) ?_
      refine am_steps ck_X9_would 5 (pc' := 127) (lv' := [(8, .int (am_i 0)), (7, .int (am_i 0)), (6, .int q22), (5, .int q21.1), (4, .int q20), (0, .ref 3261), (1, .int x1), (2, .int x2), (3, .int x3)]) (st' := []) rfl ?_
      refine am_subp [5, 8, 4, 3, 2, 1, 0] rfl ?_
      refine x_X9_would_127 hL am_F _ _ hm (fun u29 hm => ?_)
      refine am_steps ck_X9_would 1 (pc' := 177) (lv' := [(0, .ref 3261), (3, .int x3), (4, .int q20), (5, .int q21.1), (6, .int q22), (7, .int u29)]) (st' := [.ref 3261]) rfl ?_
      obtain ⟨q30, hq30, hm⟩ := am_bE hm
      refine ms_callVv (M2 := mt_X9_comesBack) (d2 := 1) (ci := 7) [] (am_fd ck_X9_would (pc := 177) rfl) ok_X9_comesBack tw_1153 tw_1155 ts_59 (by decide) kc_3261 (Nat.le_of_ble_eq_true rfl) (Nat.le_of_ble_eq_true rfl) (x_X9_comesBack hL hq30) ?_
      refine am_steps ck_X9_would 1 (pc' := 181) (lv' := [(0, .ref 3261), (3, .int x3), (4, .int q20), (5, .int q21.1), (6, .int q22), (7, .int u29)]) (st' := [.int x3]) rfl ?_
      refine am_ifc (tgt := 189) (am_fd ck_X9_would (pc := 181) rfl) rfl (fun hc31 => ?_) (fun hc31 => ?_)
      · replace hm := am_it hm hc31
        refine am_steps ck_X9_would 2 (pc' := 191) (lv' := [(0, .ref 3261), (3, .int x3), (4, .int q20), (5, .int q21.1), (6, .int q22), (7, .int u29)]) (st' := [.int (am_i 1), .int x3]) rfl ?_
        refine am_icmp (tgt := 199) (am_fd ck_X9_would (pc := 191) rfl) rfl (fun hc32 => ?_) (fun hc32 => ?_)
        · replace hm := am_it hm hc32
          refine am_steps ck_X9_would 2 (pc' := 201) (lv' := [(0, .ref 3261), (3, .int x3), (4, .int q20), (5, .int q21.1), (6, .int q22), (7, .int u29)]) (st' := [.int (am_i 2), .int x3]) rfl ?_
          refine am_icmp (tgt := 209) (am_fd ck_X9_would (pc := 201) rfl) rfl (fun hc33 => ?_) (fun hc33 => ?_)
          · replace hm := am_it hm hc33
            refine am_steps ck_X9_would 1 (pc' := 211) (lv' := [(0, .ref 3261), (3, .int x3), (4, .int q20), (5, .int q21.1), (6, .int q22), (7, .int u29)]) (st' := [.int q20]) rfl ?_
            cases hm
            exact am_end (am_fd ck_X9_would (pc := 211) rfl) am_rI rfl rfl
          · replace hm := am_if hm hc33
            refine am_steps ck_X9_would 2 (pc' := 211) (lv' := [(0, .ref 3261), (3, .int x3), (4, .int q20), (5, .int q21.1), (6, .int q22), (7, .int u29)]) (st' := [.int u29]) rfl ?_
            cases hm
            exact am_end (am_fd ck_X9_would (pc := 211) rfl) am_rI rfl rfl
        · replace hm := am_if hm hc32
          refine am_steps ck_X9_would 2 (pc' := 211) (lv' := [(0, .ref 3261), (3, .int x3), (4, .int q20), (5, .int q21.1), (6, .int q22), (7, .int u29)]) (st' := [.int q22]) rfl ?_
          cases hm
          exact am_end (am_fd ck_X9_would (pc := 211) rfl) am_rI rfl rfl
      · replace hm := am_if hm hc31
        refine am_steps ck_X9_would 2 (pc' := 211) (lv' := [(0, .ref 3261), (3, .int x3), (4, .int q20), (5, .int q21.1), (6, .int q22), (7, .int u29)]) (st' := [.int q21.1]) rfl ?_
        cases hm
        exact am_end (am_fd ck_X9_would (pc := 211) rfl) am_rI rfl rfl
    · replace hm := am_if hm hc4
      refine am_steps ck_X9_would 1 (pc' := 19) (lv' := [(0, .ref 3261), (1, .int x1), (2, .int x2), (3, .int x3)]) (st' := [.int (am_i (-1))]) rfl ?_
      cases hm
      exact am_end (am_fd ck_X9_would (pc := 19) rfl) am_rI rfl rfl
