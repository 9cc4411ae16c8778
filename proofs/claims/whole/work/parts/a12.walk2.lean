/-! ===== the walks, 2 ===== -/
set_option maxRecDepth 100000 in
set_option maxHeartbeats 4000000 in
theorem x_X8_goes {G : am_G} {m : am_m} {r : am_rr} {x1 : Int32} {res : Int32 × am_m} (hL : am_Lay r) (hm : m_X8_goes m r x1 = some res) : am_Met G mt_X8_goes 4 [.ref 3, .int x1] (am_hh m r) (some (.int res.1)) (am_hh res.2 r) := by
  refine am_of (by decide) (Nat.le_of_ble_eq_true rfl) ?_
  unfold m_X8_goes at hm
  show am_W G mt_X8_goes 4 _ _ 0 [(0, .ref 3), (1, .int x1)] [] (am_hh m r)
  refine am_steps ck_X8_goes 1 (pc' := 1) (lv' := [(0, .ref 3), (1, .int x1)]) (st' := [.ref 3]) rfl ?_
  refine ms_getr (ci := 6) (k := 0) (v := 4) (am_fd ck_X8_goes (pc := 1) rfl) tw_190 kc_3 rfl (ly_3_0 hL) (kO og4) ?_
  refine am_steps ck_X8_goes 1 (pc' := 5) (lv' := [(0, .ref 3), (1, .int x1)]) (st' := [.int x1, .ref 4]) rfl ?_
  obtain ⟨q1, hq1, hm⟩ := am_bE hm
  refine ms_callV (M2 := mt_X1_upperOf) (d2 := 2) (ci := 1) [.int x1] (am_fd ck_X8_goes (pc := 5) rfl) ok_X1_upperOf tw_284 tw_258 tw_259 (by decide) (kO og4) (Nat.le_of_ble_eq_true rfl) (Nat.le_of_ble_eq_true rfl) (x_X1_upperOf hL og4 hq1) ?_
  refine am_steps ck_X8_goes 2 (pc' := 10) (lv' := [(2, .int q1), (0, .ref 3), (1, .int x1)]) (st' := [.ref 3]) rfl ?_
  refine ms_getr (ci := 6) (k := 0) (v := 4) (am_fd ck_X8_goes (pc := 10) rfl) tw_190 kc_3 rfl (ly_3_0 hL) (kO og4) ?_
  refine am_steps ck_X8_goes 1 (pc' := 14) (lv' := [(2, .int q1), (0, .ref 3), (1, .int x1)]) (st' := [.int x1, .ref 4]) rfl ?_
  obtain ⟨q2, hq2, hm⟩ := am_bE hm
  refine ms_callV (M2 := mt_X1_isThere) (d2 := 1) (ci := 1) [.int x1] (am_fd ck_X8_goes (pc := 14) rfl) ok_X1_isThere tw_231 tw_232 tw_233 (by decide) (kO og4) (Nat.le_of_ble_eq_true rfl) (Nat.le_of_ble_eq_true rfl) (x_X1_isThere hL og4 hq2) ?_
  refine am_ifc (tgt := 42) (am_fd ck_X8_goes (pc := 17) rfl) rfl (fun hc3 => ?_) (fun hc3 => ?_)
  · replace hm := am_it hm hc3
    refine am_steps ck_X8_goes 1 (pc' := 43) (lv' := [(2, .int q1), (0, .ref 3), (1, .int x1)]) (st' := [.int (am_i (-1))]) rfl ?_
    cases hm
    exact am_end (am_fd ck_X8_goes (pc := 43) rfl) am_rI rfl rfl
  · replace hm := am_if hm hc3
    refine am_steps ck_X8_goes 1 (pc' := 21) (lv' := [(2, .int q1), (0, .ref 3), (1, .int x1)]) (st' := [.ref 3]) rfl ?_
    refine ms_getr (ci := 6) (k := 0) (v := 4) (am_fd ck_X8_goes (pc := 21) rfl) tw_190 kc_3 rfl (ly_3_0 hL) (kO og4) ?_
    refine am_steps ck_X8_goes 1 (pc' := 25) (lv' := [(2, .int q1), (0, .ref 3), (1, .int x1)]) (st' := [.int q1, .ref 4]) rfl ?_
    obtain ⟨q4, hq4, hm⟩ := am_bE hm
    refine ms_callV (M2 := mt_X1_isThere) (d2 := 1) (ci := 1) [.int q1] (am_fd ck_X8_goes (pc := 25) rfl) ok_X1_isThere tw_231 tw_232 tw_233 (by decide) (kO og4) (Nat.le_of_ble_eq_true rfl) (Nat.le_of_ble_eq_true rfl) (x_X1_isThere hL og4 hq4) ?_
    refine am_ifc (tgt := 42) (am_fd ck_X8_goes (pc := 28) rfl) rfl (fun hc5 => ?_) (fun hc5 => ?_)
    · replace hm := am_it hm hc5
      refine am_steps ck_X8_goes 1 (pc' := 43) (lv' := [(2, .int q1), (0, .ref 3), (1, .int x1)]) (st' := [.int (am_i (-1))]) rfl ?_
      cases hm
      exact am_end (am_fd ck_X8_goes (pc := 43) rfl) am_rI rfl rfl
    · replace hm := am_if hm hc5
      refine am_steps ck_X8_goes 1 (pc' := 32) (lv' := [(2, .int q1), (0, .ref 3), (1, .int x1)]) (st' := [.ref 3]) rfl ?_
      refine ms_getr (ci := 6) (k := 0) (v := 4) (am_fd ck_X8_goes (pc := 32) rfl) tw_190 kc_3 rfl (ly_3_0 hL) (kO og4) ?_
      refine am_steps ck_X8_goes 1 (pc' := 36) (lv' := [(2, .int q1), (0, .ref 3), (1, .int x1)]) (st' := [.int x1, .ref 4]) rfl ?_
      obtain ⟨q6, hq6, hm⟩ := am_bE hm
      refine ms_callV (M2 := mt_X1_lowerCount) (d2 := 2) (ci := 1) [.int x1] (am_fd ck_X8_goes (pc := 36) rfl) ok_X1_lowerCount tw_285 tw_286 tw_287 (by decide) (kO og4) (Nat.le_of_ble_eq_true rfl) (Nat.le_of_ble_eq_true rfl) (x_X1_lowerCount hL og4 hq6) ?_
      refine am_ifc (tgt := 44) (am_fd ck_X8_goes (pc := 39) rfl) rfl (fun hc7 => ?_) (fun hc7 => ?_)
      · replace hm := am_it hm hc7
        refine am_steps ck_X8_goes 1 (pc' := 45) (lv' := [(2, .int q1), (0, .ref 3), (1, .int x1)]) (st' := [.ref 3]) rfl ?_
        refine ms_getr (ci := 6) (k := 0) (v := 4) (am_fd ck_X8_goes (pc := 45) rfl) tw_190 kc_3 rfl (ly_3_0 hL) (kO og4) ?_
        refine ms_getr (ci := 1) (k := 2) (v := (4 + 3)) (am_fd ck_X8_goes (pc := 48) rfl) tw_43 (kO og4) rfl (lyO2 hL og4) (kWo og4) ?_
        refine am_steps ck_X8_goes 1 (pc' := 52) (lv' := [(2, .int q1), (0, .ref 3), (1, .int x1)]) (st' := [.int x1, .ref (4 + 3)]) rfl ?_
        obtain ⟨hb8, hm⟩ := am_gE hm
        refine ms_rald (n := 24) (v := (aW 4 (am_ix x1))) (am_fd ck_X8_goes (pc := 52) rfl) (kWo og4) hb8 (lyW hL og4 (am_ixl hb8)) (kW og4 (am_ixl hb8)) ?_
        refine am_steps ck_X8_goes 2 (pc' := 55) (lv' := [(3, .ref (aW 4 (am_ix x1))), (2, .int q1), (0, .ref 3), (1, .int x1)]) (st' := [.ref 3]) rfl ?_
        refine ms_getr (ci := 6) (k := 0) (v := 4) (am_fd ck_X8_goes (pc := 55) rfl) tw_190 kc_3 rfl (ly_3_0 hL) (kO og4) ?_
        refine ms_getr (ci := 1) (k := 2) (v := (4 + 3)) (am_fd ck_X8_goes (pc := 58) rfl) tw_43 (kO og4) rfl (lyO2 hL og4) (kWo og4) ?_
        refine am_steps ck_X8_goes 1 (pc' := 62) (lv' := [(3, .ref (aW 4 (am_ix x1))), (2, .int q1), (0, .ref 3), (1, .int x1)]) (st' := [.int q1, .ref (4 + 3)]) rfl ?_
        obtain ⟨hb9, hm⟩ := am_gE hm
        refine ms_rald (n := 24) (v := (aW 4 (am_ix q1))) (am_fd ck_X8_goes (pc := 62) rfl) (kWo og4) hb9 (lyW hL og4 (am_ixl hb9)) (kW og4 (am_ixl hb9)) ?_
        refine am_steps ck_X8_goes 5 (pc' := 71) (lv' := [(4, .ref (aW 4 (am_ix q1))), (3, .ref (aW 4 (am_ix x1))), (2, .int q1), (0, .ref 3), (1, .int x1)]) (st' := [.ref (aW 4 (am_ix q1)), .int (am_i 63), .int (am_i 0), .ref (aW 4 (am_ix x1))]) rfl ?_
        obtain ⟨q10, hq10, hm⟩ := am_bE hm
        refine ms_callS (M2 := mt_X5_fits) (d2 := 1) [.ref (aW 4 (am_ix x1)), .int (am_i 0), .int (am_i 63), .ref (aW 4 (am_ix q1))] (am_fd ck_X8_goes (pc := 71) rfl) ok_X5_fits tw_289 tw_290 (Nat.le_of_ble_eq_true rfl) (Nat.le_of_ble_eq_true rfl) (x_X5_fits hL (kW og4 (am_ixl hb8)) (kW og4 (am_ixl hb9)) hq10) ?_
        refine am_ifc (tgt := 79) (am_fd ck_X8_goes (pc := 74) rfl) rfl (fun hc11 => ?_) (fun hc11 => ?_)
        · replace hm := am_it hm hc11
          refine am_steps ck_X8_goes 1 (pc' := 80) (lv' := [(4, .ref (aW 4 (am_ix q1))), (3, .ref (aW 4 (am_ix x1))), (2, .int q1), (0, .ref 3), (1, .int x1)]) (st' := [.ref 3]) rfl ?_
          refine ms_getr (ci := 6) (k := 2) (v := 498) (am_fd ck_X8_goes (pc := 80) rfl) tw_192 kc_3 rfl (ly_3_2 hL) kc_498 ?_
          refine am_steps ck_X8_goes 1 (pc' := 84) (lv' := [(4, .ref (aW 4 (am_ix q1))), (3, .ref (aW 4 (am_ix x1))), (2, .int q1), (0, .ref 3), (1, .int x1)]) (st' := [.ref 3, .ref 498]) rfl ?_
          refine ms_getr (ci := 6) (k := 0) (v := 4) (am_fd ck_X8_goes (pc := 84) rfl) tw_190 kc_3 rfl (ly_3_0 hL) (kO og4) ?_
          obtain ⟨q12, hq12, hm⟩ := am_bE hm
          refine ms_callVv (M2 := mt_X2_keep) (d2 := 3) (ci := 2) [.ref 4] (am_fd ck_X8_goes (pc := 87) rfl) ok_X2_keep tw_238 tw_239 tw_240 (by decide) kc_498 (Nat.le_of_ble_eq_true rfl) (Nat.le_of_ble_eq_true rfl) (x_X2_keep hL og4 hq12) ?_
          refine am_steps ck_X8_goes 1 (pc' := 92) (lv' := [(4, .ref (aW 4 (am_ix q1))), (3, .ref (aW 4 (am_ix x1))), (2, .int q1), (0, .ref 3), (1, .int x1)]) (st' := [.ref (aW 4 (am_ix q1))]) rfl ?_
          obtain ⟨q13, hq13, hm⟩ := am_bE hm
          refine ms_callS (M2 := mt_X6_maskOf) (d2 := 1) [.ref (aW 4 (am_ix q1))] (am_fd ck_X8_goes (pc := 92) rfl) ok_X6_maskOf tw_292 tw_293 (Nat.le_of_ble_eq_true rfl) (Nat.le_of_ble_eq_true rfl) (x_X6_maskOf hL (kW og4 (am_ixl hb9)) hq13) ?_
          refine am_steps ck_X8_goes 1 (pc' := 96) (lv' := [(4, .ref (aW 4 (am_ix q1))), (3, .ref (aW 4 (am_ix x1))), (2, .int q1), (0, .ref 3), (1, .int x1)]) (st' := [.ref (aW 4 (am_ix x1)), .long q13]) rfl ?_
          obtain ⟨q14, hq14, hm⟩ := am_bE hm
          refine ms_callS (M2 := mt_X6_maskOf) (d2 := 1) [.ref (aW 4 (am_ix x1))] (am_fd ck_X8_goes (pc := 96) rfl) ok_X6_maskOf tw_292 tw_293 (Nat.le_of_ble_eq_true rfl) (Nat.le_of_ble_eq_true rfl) (x_X6_maskOf hL (kW og4 (am_ixl hb8)) hq14) ?_
          obtain ⟨q15, hq15, hm⟩ := am_bE hm
          refine ms_callS (M2 := mt_X6_common) (d2 := 2) [.long q13, .long q14] (am_fd ck_X8_goes (pc := 99) rfl) ok_X6_common tw_295 tw_296 (Nat.le_of_ble_eq_true rfl) (Nat.le_of_ble_eq_true rfl) (x_X6_common hL hq15) ?_
          refine am_steps ck_X8_goes 5 (pc' := 110) (lv' := [(5, .int q15), (4, .ref (aW 4 (am_ix q1))), (3, .ref (aW 4 (am_ix x1))), (2, .int q1), (0, .ref 3), (1, .int x1)]) (st' := [.ref (aW 4 (am_ix q1)), .int (am_i 63), .int (am_i 0), .ref (aW 4 (am_ix x1))]) rfl ?_
          obtain ⟨q16, hq16, hm⟩ := am_bE hm
          refine ms_callS (M2 := mt_X5_pour) (d2 := 1) [.ref (aW 4 (am_ix x1)), .int (am_i 0), .int (am_i 63), .ref (aW 4 (am_ix q1))] (am_fd ck_X8_goes (pc := 110) rfl) ok_X5_pour tw_306 tw_307 (Nat.le_of_ble_eq_true rfl) (Nat.le_of_ble_eq_true rfl) (x_X5_pour hL (kW og4 (am_ixl hb8)) (kW og4 (am_ixl hb9)) hq16) ?_
          refine am_steps ck_X8_goes 2 (pc' := 115) (lv' := [(5, .int q15), (4, .ref (aW 4 (am_ix q1))), (3, .ref (aW 4 (am_ix x1))), (2, .int q1), (0, .ref 3), (1, .int x1)]) (st' := [.ref 3]) rfl ?_
          refine ms_getr (ci := 6) (k := 0) (v := 4) (am_fd ck_X8_goes (pc := 115) rfl) tw_190 kc_3 rfl (ly_3_0 hL) (kO og4) ?_
          refine am_steps ck_X8_goes 1 (pc' := 119) (lv' := [(5, .int q15), (4, .ref (aW 4 (am_ix q1))), (3, .ref (aW 4 (am_ix x1))), (2, .int q1), (0, .ref 3), (1, .int x1)]) (st' := [.int x1, .ref 4]) rfl ?_
          obtain ⟨q17, hq17, hm⟩ := am_bE hm
          refine ms_callVv (M2 := mt_X1_leave) (d2 := 2) (ci := 1) [.int x1] (am_fd ck_X8_goes (pc := 119) rfl) ok_X1_leave tw_309 tw_310 tw_311 (by decide) (kO og4) (Nat.le_of_ble_eq_true rfl) (Nat.le_of_ble_eq_true rfl) (x_X1_leave hL og4 hq17) ?_
          refine am_steps ck_X8_goes 1 (pc' := 123) (lv' := [(5, .int q15), (4, .ref (aW 4 (am_ix q1))), (3, .ref (aW 4 (am_ix x1))), (2, .int q1), (0, .ref 3), (1, .int x1)]) (st' := [.ref 3]) rfl ?_
          refine ms_getr (ci := 6) (k := 0) (v := 4) (am_fd ck_X8_goes (pc := 123) rfl) tw_190 kc_3 rfl (ly_3_0 hL) (kO og4) ?_
          refine am_steps ck_X8_goes 1 (pc' := 127) (lv' := [(5, .int q15), (4, .ref (aW 4 (am_ix q1))), (3, .ref (aW 4 (am_ix x1))), (2, .int q1), (0, .ref 3), (1, .int x1)]) (st' := [.int q1, .ref 4]) rfl ?_
          obtain ⟨q18, hq18, hm⟩ := am_bE hm
          refine ms_callVv (M2 := mt_X1_makeStale) (d2 := 3) (ci := 1) [.int q1] (am_fd ck_X8_goes (pc := 127) rfl) ok_X1_makeStale tw_252 tw_253 tw_254 (by decide) (kO og4) (Nat.le_of_ble_eq_true rfl) (Nat.le_of_ble_eq_true rfl) (x_X1_makeStale hL og4 hq18) ?_
          refine am_steps ck_X8_goes 1 (pc' := 131) (lv' := [(5, .int q15), (4, .ref (aW 4 (am_ix q1))), (3, .ref (aW 4 (am_ix x1))), (2, .int q1), (0, .ref 3), (1, .int x1)]) (st' := [.ref 3]) rfl ?_
          refine ms_getr (ci := 6) (k := 3) (v := 2970) (am_fd ck_X8_goes (pc := 131) rfl) tw_193 kc_3 rfl (ly_3_3 hL) (kB bk2970).1 ?_
          refine am_steps ck_X8_goes 1 (pc' := 136) (lv' := [(5, .int q15), (4, .ref (aW 4 (am_ix q1))), (3, .ref (aW 4 (am_ix x1))), (2, .int q1), (0, .ref 3), (1, .int x1)]) (st' := [.int q15, .ref 2970]) rfl ?_
          obtain ⟨q19, hq19, hm⟩ := am_bE hm
          refine ms_callVv (M2 := mt_X0_merged) (d2 := 2) (ci := 0) [.int q15] (am_fd ck_X8_goes (pc := 136) rfl) ok_X0_merged tw_313 tw_314 tw_315 (by decide) (kB bk2970).1 (Nat.le_of_ble_eq_true rfl) (Nat.le_of_ble_eq_true rfl) (x_X0_merged hL bk2970 hq19) ?_
          refine am_steps ck_X8_goes 1 (pc' := 140) (lv' := [(5, .int q15), (4, .ref (aW 4 (am_ix q1))), (3, .ref (aW 4 (am_ix x1))), (2, .int q1), (0, .ref 3), (1, .int x1)]) (st' := [.ref 3]) rfl ?_
          refine ms_getr (ci := 6) (k := 3) (v := 2970) (am_fd ck_X8_goes (pc := 140) rfl) tw_193 kc_3 rfl (ly_3_3 hL) (kB bk2970).1 ?_
          refine am_steps ck_X8_goes 2 (pc' := 146) (lv' := [(5, .int q15), (4, .ref (aW 4 (am_ix q1))), (3, .ref (aW 4 (am_ix x1))), (2, .int q1), (0, .ref 3), (1, .int x1)]) (st' := [.int (am_i 1), .int (am_i 7), .ref 2970]) rfl ?_
          obtain ⟨q20, hq20, hm⟩ := am_bE hm
          refine ms_callVv (M2 := mt_X0_tally) (d2 := 1) (ci := 0) [.int (am_i 7), .int (am_i 1)] (am_fd ck_X8_goes (pc := 146) rfl) ok_X0_tally tw_276 tw_277 tw_278 (by decide) (kB bk2970).1 (Nat.le_of_ble_eq_true rfl) (Nat.le_of_ble_eq_true rfl) (x_X0_tally hL bk2970 hq20) ?_
          refine am_steps ck_X8_goes 1 (pc' := 151) (lv' := [(5, .int q15), (4, .ref (aW 4 (am_ix q1))), (3, .ref (aW 4 (am_ix x1))), (2, .int q1), (0, .ref 3), (1, .int x1)]) (st' := [.int q15]) rfl ?_
          cases hm
          exact am_end (am_fd ck_X8_goes (pc := 151) rfl) am_rI rfl rfl
        · replace hm := am_if hm hc11
          refine am_steps ck_X8_goes 1 (pc' := 78) (lv' := [(4, .ref (aW 4 (am_ix q1))), (3, .ref (aW 4 (am_ix x1))), (2, .int q1), (0, .ref 3), (1, .int x1)]) (st' := [.int (am_i (-1))]) rfl ?_
          cases hm
          exact am_end (am_fd ck_X8_goes (pc := 78) rfl) am_rI rfl rfl
      · replace hm := am_if hm hc7
        refine am_steps ck_X8_goes 1 (pc' := 43) (lv' := [(2, .int q1), (0, .ref 3), (1, .int x1)]) (st' := [.int (am_i (-1))]) rfl ?_
        cases hm
        exact am_end (am_fd ck_X8_goes (pc := 43) rfl) am_rI rfl rfl
set_option maxRecDepth 100000 in
set_option maxHeartbeats 4000000 in
theorem x_X8_move {G : am_G} {m : am_m} {r : am_rr} {x1 : Int32} {x2 : Int32} {res : Int32 × am_m} (hL : am_Lay r) (hm : m_X8_move m r x1 x2 = some res) : am_Met G mt_X8_move 6 [.ref 3, .int x1, .int x2] (am_hh m r) (some (.int res.1)) (am_hh res.2 r) := by
  refine am_of (by decide) (Nat.le_of_ble_eq_true rfl) ?_
  unfold m_X8_move at hm
  show am_W G mt_X8_move 6 _ _ 0 [(0, .ref 3), (1, .int x1), (2, .int x2)] [] (am_hh m r)
  refine am_steps ck_X8_move 1 (pc' := 1) (lv' := [(0, .ref 3), (1, .int x1), (2, .int x2)]) (st' := [.ref 3]) rfl ?_
  refine ms_getr (ci := 6) (k := 0) (v := 4) (am_fd ck_X8_move (pc := 1) rfl) tw_190 kc_3 rfl (ly_3_0 hL) (kO og4) ?_
  refine am_steps ck_X8_move 2 (pc' := 6) (lv' := [(0, .ref 3), (1, .int x1), (2, .int x2)]) (st' := [.int x2, .int x1, .ref 4]) rfl ?_
  obtain ⟨q1, hq1, hm⟩ := am_bE hm
  refine ms_callV (M2 := mt_X1_canMove) (d2 := 5) (ci := 1) [.int x1, .int x2] (am_fd ck_X8_move (pc := 6) rfl) ok_X1_canMove tw_322 tw_323 tw_324 (by decide) (kO og4) (Nat.le_of_ble_eq_true rfl) (Nat.le_of_ble_eq_true rfl) (x_X1_canMove hL og4 hq1) ?_
  refine am_ifc (tgt := 14) (am_fd ck_X8_move (pc := 9) rfl) rfl (fun hc2 => ?_) (fun hc2 => ?_)
  · replace hm := am_it hm hc2
    refine am_steps ck_X8_move 1 (pc' := 15) (lv' := [(0, .ref 3), (1, .int x1), (2, .int x2)]) (st' := [.ref 3]) rfl ?_
    refine ms_getr (ci := 6) (k := 2) (v := 498) (am_fd ck_X8_move (pc := 15) rfl) tw_192 kc_3 rfl (ly_3_2 hL) kc_498 ?_
    refine am_steps ck_X8_move 1 (pc' := 19) (lv' := [(0, .ref 3), (1, .int x1), (2, .int x2)]) (st' := [.ref 3, .ref 498]) rfl ?_
    refine ms_getr (ci := 6) (k := 0) (v := 4) (am_fd ck_X8_move (pc := 19) rfl) tw_190 kc_3 rfl (ly_3_0 hL) (kO og4) ?_
    obtain ⟨q3, hq3, hm⟩ := am_bE hm
    refine ms_callVv (M2 := mt_X2_keep) (d2 := 3) (ci := 2) [.ref 4] (am_fd ck_X8_move (pc := 22) rfl) ok_X2_keep tw_238 tw_239 tw_240 (by decide) kc_498 (Nat.le_of_ble_eq_true rfl) (Nat.le_of_ble_eq_true rfl) (x_X2_keep hL og4 hq3) ?_
    refine am_steps ck_X8_move 1 (pc' := 26) (lv' := [(0, .ref 3), (1, .int x1), (2, .int x2)]) (st' := [.ref 3]) rfl ?_
    refine ms_getr (ci := 6) (k := 0) (v := 4) (am_fd ck_X8_move (pc := 26) rfl) tw_190 kc_3 rfl (ly_3_0 hL) (kO og4) ?_
    refine am_steps ck_X8_move 2 (pc' := 31) (lv' := [(0, .ref 3), (1, .int x1), (2, .int x2)]) (st' := [.int x2, .int x1, .ref 4]) rfl ?_
    obtain ⟨q4, hq4, hm⟩ := am_bE hm
    refine ms_callVv (M2 := mt_X1_moveTo) (d2 := 4) (ci := 1) [.int x1, .int x2] (am_fd ck_X8_move (pc := 31) rfl) ok_X1_moveTo tw_338 tw_339 tw_340 (by decide) (kO og4) (Nat.le_of_ble_eq_true rfl) (Nat.le_of_ble_eq_true rfl) (x_X1_moveTo hL og4 hq4) ?_
    refine am_steps ck_X8_move 1 (pc' := 35) (lv' := [(0, .ref 3), (1, .int x1), (2, .int x2)]) (st' := [.ref 3]) rfl ?_
    refine ms_getr (ci := 6) (k := 3) (v := 2970) (am_fd ck_X8_move (pc := 35) rfl) tw_193 kc_3 rfl (ly_3_3 hL) (kB bk2970).1 ?_
    refine am_steps ck_X8_move 2 (pc' := 40) (lv' := [(0, .ref 3), (1, .int x1), (2, .int x2)]) (st' := [.int (am_i 1), .int (am_i 5), .ref 2970]) rfl ?_
    obtain ⟨q5, hq5, hm⟩ := am_bE hm
    refine ms_callVv (M2 := mt_X0_tally) (d2 := 1) (ci := 0) [.int (am_i 5), .int (am_i 1)] (am_fd ck_X8_move (pc := 40) rfl) ok_X0_tally tw_276 tw_277 tw_278 (by decide) (kB bk2970).1 (Nat.le_of_ble_eq_true rfl) (Nat.le_of_ble_eq_true rfl) (x_X0_tally hL bk2970 hq5) ?_
    refine am_steps ck_X8_move 1 (pc' := 44) (lv' := [(0, .ref 3), (1, .int x1), (2, .int x2)]) (st' := [.ref 3]) rfl ?_
    refine ms_getr (ci := 6) (k := 0) (v := 4) (am_fd ck_X8_move (pc := 44) rfl) tw_190 kc_3 rfl (ly_3_0 hL) (kO og4) ?_
    refine am_steps ck_X8_move 1 (pc' := 48) (lv' := [(0, .ref 3), (1, .int x1), (2, .int x2)]) (st' := [.int x1, .ref 4]) rfl ?_
    obtain ⟨q6, hq6, hm⟩ := am_bE hm
    refine ms_callV (M2 := mt_X1_branchSize) (d2 := 4) (ci := 1) [.int x1] (am_fd ck_X8_move (pc := 48) rfl) ok_X1_branchSize tw_343 tw_344 tw_345 (by decide) (kO og4) (Nat.le_of_ble_eq_true rfl) (Nat.le_of_ble_eq_true rfl) (x_X1_branchSize hL og4 hq6) ?_
    cases hm
    exact am_end (am_fd ck_X8_move (pc := 51) rfl) am_rI rfl rfl
  · replace hm := am_if hm hc2
    refine am_steps ck_X8_move 1 (pc' := 13) (lv' := [(0, .ref 3), (1, .int x1), (2, .int x2)]) (st' := [.int (am_i (-1))]) rfl ?_
    cases hm
    exact am_end (am_fd ck_X8_move (pc := 13) rfl) am_rI rfl rfl
set_option maxRecDepth 100000 in
set_option maxHeartbeats 4000000 in
theorem x_X8_isSpan {G : am_G} {m : am_m} {r : am_rr} {x1 : Int32} {x2 : Int32} {res : Int32} (hL : am_Lay r) (hm : m_X8_isSpan m x1 x2 = some res) : am_Met G mt_X8_isSpan 1 [.int x1, .int x2] (am_hh m r) (some (.int res)) (am_hh m r) := by
  refine am_of (by decide) (Nat.le_of_ble_eq_true rfl) ?_
  unfold m_X8_isSpan at hm
  show am_W G mt_X8_isSpan 1 _ _ 0 [(0, .int x1), (1, .int x2)] [] (am_hh m r)
  refine am_steps ck_X8_isSpan 1 (pc' := 1) (lv' := [(0, .int x1), (1, .int x2)]) (st' := [.int x1]) rfl ?_
  refine am_ifc (tgt := 19) (am_fd ck_X8_isSpan (pc := 1) rfl) rfl (fun hc1 => ?_) (fun hc1 => ?_)
  · replace hm := am_it hm hc1
    refine am_steps ck_X8_isSpan 1 (pc' := 20) (lv' := [(0, .int x1), (1, .int x2)]) (st' := [.int (am_i 0)]) rfl ?_
    cases hm
    exact am_end (am_fd ck_X8_isSpan (pc := 20) rfl) am_rZ0 rfl rfl
  · replace hm := am_if hm hc1
    refine am_steps ck_X8_isSpan 2 (pc' := 6) (lv' := [(0, .int x1), (1, .int x2)]) (st' := [.int x2, .int x1]) rfl ?_
    refine am_icmp (tgt := 19) (am_fd ck_X8_isSpan (pc := 6) rfl) rfl (fun hc2 => ?_) (fun hc2 => ?_)
    · replace hm := am_it hm hc2
      refine am_steps ck_X8_isSpan 1 (pc' := 20) (lv' := [(0, .int x1), (1, .int x2)]) (st' := [.int (am_i 0)]) rfl ?_
      cases hm
      exact am_end (am_fd ck_X8_isSpan (pc := 20) rfl) am_rZ0 rfl rfl
    · replace hm := am_if hm hc2
      refine am_steps ck_X8_isSpan 2 (pc' := 12) (lv' := [(0, .int x1), (1, .int x2)]) (st' := [.int (am_i 64), .int x2]) rfl ?_
      refine am_icmp (tgt := 19) (am_fd ck_X8_isSpan (pc := 12) rfl) rfl (fun hc3 => ?_) (fun hc3 => ?_)
      · replace hm := am_it hm hc3
        refine am_steps ck_X8_isSpan 1 (pc' := 20) (lv' := [(0, .int x1), (1, .int x2)]) (st' := [.int (am_i 0)]) rfl ?_
        cases hm
        exact am_end (am_fd ck_X8_isSpan (pc := 20) rfl) am_rZ0 rfl rfl
      · replace hm := am_if hm hc3
        refine am_steps ck_X8_isSpan 2 (pc' := 20) (lv' := [(0, .int x1), (1, .int x2)]) (st' := [.int (am_i 1)]) rfl ?_
        cases hm
        exact am_end (am_fd ck_X8_isSpan (pc := 20) rfl) am_rZ1 rfl rfl
set_option maxRecDepth 100000 in
set_option maxHeartbeats 4000000 in
theorem x_X8_give {G : am_G} {m : am_m} {r : am_rr} {x1 : Int32} {x2 : Int32} {x3 : Int32} {x4 : Int32} {res : Int32 × am_m} (hL : am_Lay r) (hm : m_X8_give m r x1 x2 x3 x4 = some res) : am_Met G mt_X8_give 4 [.ref 3, .int x1, .int x2, .int x3, .int x4] (am_hh m r) (some (.int res.1)) (am_hh res.2 r) := by
  refine am_of (by decide) (Nat.le_of_ble_eq_true rfl) ?_
  unfold m_X8_give at hm
  show am_W G mt_X8_give 4 _ _ 0 [(0, .ref 3), (1, .int x1), (2, .int x2), (3, .int x3), (4, .int x4)] [] (am_hh m r)
  refine am_steps ck_X8_give 1 (pc' := 1) (lv' := [(0, .ref 3), (1, .int x1), (2, .int x2), (3, .int x3), (4, .int x4)]) (st' := [.ref 3]) rfl ?_
  refine ms_getr (ci := 6) (k := 0) (v := 4) (am_fd ck_X8_give (pc := 1) rfl) tw_190 kc_3 rfl (ly_3_0 hL) (kO og4) ?_
  refine am_steps ck_X8_give 1 (pc' := 5) (lv' := [(0, .ref 3), (1, .int x1), (2, .int x2), (3, .int x3), (4, .int x4)]) (st' := [.int x1, .ref 4]) rfl ?_
  obtain ⟨q1, hq1, hm⟩ := am_bE hm
  refine ms_callV (M2 := mt_X1_isThere) (d2 := 1) (ci := 1) [.int x1] (am_fd ck_X8_give (pc := 5) rfl) ok_X1_isThere tw_231 tw_232 tw_233 (by decide) (kO og4) (Nat.le_of_ble_eq_true rfl) (Nat.le_of_ble_eq_true rfl) (x_X1_isThere hL og4 hq1) ?_
  refine am_ifc (tgt := 36) (am_fd ck_X8_give (pc := 8) rfl) rfl (fun hc2 => ?_) (fun hc2 => ?_)
  · replace hm := am_it hm hc2
    refine am_steps ck_X8_give 1 (pc' := 37) (lv' := [(0, .ref 3), (1, .int x1), (2, .int x2), (3, .int x3), (4, .int x4)]) (st' := [.int (am_i (-1))]) rfl ?_
    cases hm
    exact am_end (am_fd ck_X8_give (pc := 37) rfl) am_rI rfl rfl
  · replace hm := am_if hm hc2
    refine am_steps ck_X8_give 1 (pc' := 12) (lv' := [(0, .ref 3), (1, .int x1), (2, .int x2), (3, .int x3), (4, .int x4)]) (st' := [.ref 3]) rfl ?_
    refine ms_getr (ci := 6) (k := 0) (v := 4) (am_fd ck_X8_give (pc := 12) rfl) tw_190 kc_3 rfl (ly_3_0 hL) (kO og4) ?_
    refine am_steps ck_X8_give 1 (pc' := 16) (lv' := [(0, .ref 3), (1, .int x1), (2, .int x2), (3, .int x3), (4, .int x4)]) (st' := [.int x2, .ref 4]) rfl ?_
    obtain ⟨q3, hq3, hm⟩ := am_bE hm
    refine ms_callV (M2 := mt_X1_isThere) (d2 := 1) (ci := 1) [.int x2] (am_fd ck_X8_give (pc := 16) rfl) ok_X1_isThere tw_231 tw_232 tw_233 (by decide) (kO og4) (Nat.le_of_ble_eq_true rfl) (Nat.le_of_ble_eq_true rfl) (x_X1_isThere hL og4 hq3) ?_
    refine am_ifc (tgt := 36) (am_fd ck_X8_give (pc := 19) rfl) rfl (fun hc4 => ?_) (fun hc4 => ?_)
    · replace hm := am_it hm hc4
      refine am_steps ck_X8_give 1 (pc' := 37) (lv' := [(0, .ref 3), (1, .int x1), (2, .int x2), (3, .int x3), (4, .int x4)]) (st' := [.int (am_i (-1))]) rfl ?_
      cases hm
      exact am_end (am_fd ck_X8_give (pc := 37) rfl) am_rI rfl rfl
    · replace hm := am_if hm hc4
      refine am_steps ck_X8_give 2 (pc' := 24) (lv' := [(0, .ref 3), (1, .int x1), (2, .int x2), (3, .int x3), (4, .int x4)]) (st' := [.int x2, .int x1]) rfl ?_
      refine am_icmp (tgt := 36) (am_fd ck_X8_give (pc := 24) rfl) rfl (fun hc5 => ?_) (fun hc5 => ?_)
      · replace hm := am_it hm hc5
        refine am_steps ck_X8_give 1 (pc' := 37) (lv' := [(0, .ref 3), (1, .int x1), (2, .int x2), (3, .int x3), (4, .int x4)]) (st' := [.int (am_i (-1))]) rfl ?_
        cases hm
        exact am_end (am_fd ck_X8_give (pc := 37) rfl) am_rI rfl rfl
      · replace hm := am_if hm hc5
        refine am_steps ck_X8_give 2 (pc' := 30) (lv' := [(0, .ref 3), (1, .int x1), (2, .int x2), (3, .int x3), (4, .int x4)]) (st' := [.int x4, .int x3]) rfl ?_
        obtain ⟨q6, hq6, hm⟩ := am_bE hm
        refine ms_callS (M2 := mt_X8_isSpan) (d2 := 1) [.int x3, .int x4] (am_fd ck_X8_give (pc := 30) rfl) ok_X8_isSpan tw_351 tw_352 (Nat.le_of_ble_eq_true rfl) (Nat.le_of_ble_eq_true rfl) (x_X8_isSpan hL hq6) ?_
        refine am_ifc (tgt := 38) (am_fd ck_X8_give (pc := 33) rfl) rfl (fun hc7 => ?_) (fun hc7 => ?_)
        · replace hm := am_it hm hc7
          refine am_steps ck_X8_give 1 (pc' := 39) (lv' := [(0, .ref 3), (1, .int x1), (2, .int x2), (3, .int x3), (4, .int x4)]) (st' := [.ref 3]) rfl ?_
          refine ms_getr (ci := 6) (k := 0) (v := 4) (am_fd ck_X8_give (pc := 39) rfl) tw_190 kc_3 rfl (ly_3_0 hL) (kO og4) ?_
          refine ms_getr (ci := 1) (k := 2) (v := (4 + 3)) (am_fd ck_X8_give (pc := 42) rfl) tw_43 (kO og4) rfl (lyO2 hL og4) (kWo og4) ?_
          refine am_steps ck_X8_give 1 (pc' := 46) (lv' := [(0, .ref 3), (1, .int x1), (2, .int x2), (3, .int x3), (4, .int x4)]) (st' := [.int x1, .ref (4 + 3)]) rfl ?_
          obtain ⟨hb8, hm⟩ := am_gE hm
          refine ms_rald (n := 24) (v := (aW 4 (am_ix x1))) (am_fd ck_X8_give (pc := 46) rfl) (kWo og4) hb8 (lyW hL og4 (am_ixl hb8)) (kW og4 (am_ixl hb8)) ?_
          refine am_steps ck_X8_give 2 (pc' := 50) (lv' := [(5, .ref (aW 4 (am_ix x1))), (0, .ref 3), (1, .int x1), (2, .int x2), (3, .int x3), (4, .int x4)]) (st' := [.ref 3]) rfl ?_
          refine ms_getr (ci := 6) (k := 0) (v := 4) (am_fd ck_X8_give (pc := 50) rfl) tw_190 kc_3 rfl (ly_3_0 hL) (kO og4) ?_
          refine ms_getr (ci := 1) (k := 2) (v := (4 + 3)) (am_fd ck_X8_give (pc := 53) rfl) tw_43 (kO og4) rfl (lyO2 hL og4) (kWo og4) ?_
          refine am_steps ck_X8_give 1 (pc' := 57) (lv' := [(5, .ref (aW 4 (am_ix x1))), (0, .ref 3), (1, .int x1), (2, .int x2), (3, .int x3), (4, .int x4)]) (st' := [.int x2, .ref (4 + 3)]) rfl ?_
          obtain ⟨hb9, hm⟩ := am_gE hm
          refine ms_rald (n := 24) (v := (aW 4 (am_ix x2))) (am_fd ck_X8_give (pc := 57) rfl) (kWo og4) hb9 (lyW hL og4 (am_ixl hb9)) (kW og4 (am_ixl hb9)) ?_
          refine am_steps ck_X8_give 5 (pc' := 67) (lv' := [(6, .ref (aW 4 (am_ix x2))), (5, .ref (aW 4 (am_ix x1))), (0, .ref 3), (1, .int x1), (2, .int x2), (3, .int x3), (4, .int x4)]) (st' := [.ref (aW 4 (am_ix x2)), .int x4, .int x3, .ref (aW 4 (am_ix x1))]) rfl ?_
          obtain ⟨q10, hq10, hm⟩ := am_bE hm
          refine ms_callS (M2 := mt_X5_fits) (d2 := 1) [.ref (aW 4 (am_ix x1)), .int x3, .int x4, .ref (aW 4 (am_ix x2))] (am_fd ck_X8_give (pc := 67) rfl) ok_X5_fits tw_289 tw_290 (Nat.le_of_ble_eq_true rfl) (Nat.le_of_ble_eq_true rfl) (x_X5_fits hL (kW og4 (am_ixl hb8)) (kW og4 (am_ixl hb9)) hq10) ?_
          refine am_ifc (tgt := 75) (am_fd ck_X8_give (pc := 70) rfl) rfl (fun hc11 => ?_) (fun hc11 => ?_)
          · replace hm := am_it hm hc11
            refine am_steps ck_X8_give 1 (pc' := 76) (lv' := [(6, .ref (aW 4 (am_ix x2))), (5, .ref (aW 4 (am_ix x1))), (0, .ref 3), (1, .int x1), (2, .int x2), (3, .int x3), (4, .int x4)]) (st' := [.ref 3]) rfl ?_
            refine ms_getr (ci := 6) (k := 2) (v := 498) (am_fd ck_X8_give (pc := 76) rfl) tw_192 kc_3 rfl (ly_3_2 hL) kc_498 ?_
            refine am_steps ck_X8_give 1 (pc' := 80) (lv' := [(6, .ref (aW 4 (am_ix x2))), (5, .ref (aW 4 (am_ix x1))), (0, .ref 3), (1, .int x1), (2, .int x2), (3, .int x3), (4, .int x4)]) (st' := [.ref 3, .ref 498]) rfl ?_
            refine ms_getr (ci := 6) (k := 0) (v := 4) (am_fd ck_X8_give (pc := 80) rfl) tw_190 kc_3 rfl (ly_3_0 hL) (kO og4) ?_
            obtain ⟨q12, hq12, hm⟩ := am_bE hm
            refine ms_callVv (M2 := mt_X2_keep) (d2 := 3) (ci := 2) [.ref 4] (am_fd ck_X8_give (pc := 83) rfl) ok_X2_keep tw_238 tw_239 tw_240 (by decide) kc_498 (Nat.le_of_ble_eq_true rfl) (Nat.le_of_ble_eq_true rfl) (x_X2_keep hL og4 hq12) ?_
            refine am_steps ck_X8_give 1 (pc' := 88) (lv' := [(6, .ref (aW 4 (am_ix x2))), (5, .ref (aW 4 (am_ix x1))), (0, .ref 3), (1, .int x1), (2, .int x2), (3, .int x3), (4, .int x4)]) (st' := [.ref (aW 4 (am_ix x1))]) rfl ?_
            obtain ⟨q13, hq13, hm⟩ := am_bE hm
            refine ms_callS (M2 := mt_X6_maskOf) (d2 := 1) [.ref (aW 4 (am_ix x1))] (am_fd ck_X8_give (pc := 88) rfl) ok_X6_maskOf tw_292 tw_293 (Nat.le_of_ble_eq_true rfl) (Nat.le_of_ble_eq_true rfl) (x_X6_maskOf hL (kW og4 (am_ixl hb8)) hq13) ?_
            refine am_steps ck_X8_give 4 (pc' := 98) (lv' := [(7, .long q13), (6, .ref (aW 4 (am_ix x2))), (5, .ref (aW 4 (am_ix x1))), (0, .ref 3), (1, .int x1), (2, .int x2), (3, .int x3), (4, .int x4)]) (st' := [.int x4, .int x3, .long q13]) rfl ?_
            obtain ⟨q14, hq14, hm⟩ := am_bE hm
            refine ms_callS (M2 := mt_X6_bitsOf) (d2 := 1) [.int x3, .int x4] (am_fd ck_X8_give (pc := 98) rfl) ok_X6_bitsOf tw_354 tw_355 (Nat.le_of_ble_eq_true rfl) (Nat.le_of_ble_eq_true rfl) (x_X6_bitsOf hL hq14) ?_
            refine am_steps ck_X8_give 3 (pc' := 105) (lv' := [(9, .long (q13 &&& q14)), (7, .long q13), (6, .ref (aW 4 (am_ix x2))), (5, .ref (aW 4 (am_ix x1))), (0, .ref 3), (1, .int x1), (2, .int x2), (3, .int x3), (4, .int x4)]) (st' := [.ref 3]) rfl ?_
            refine ms_getr (ci := 6) (k := 3) (v := 2970) (am_fd ck_X8_give (pc := 105) rfl) tw_193 kc_3 rfl (ly_3_3 hL) (kB bk2970).1 ?_
            refine am_steps ck_X8_give 3 (pc' := 114) (lv' := [(9, .long (q13 &&& q14)), (7, .long q13), (6, .ref (aW 4 (am_ix x2))), (5, .ref (aW 4 (am_ix x1))), (0, .ref 3), (1, .int x1), (2, .int x2), (3, .int x3), (4, .int x4)]) (st' := [.long (q13 &&& q14), .long q13, .long (q13 &&& q14), .ref 2970]) rfl ?_
            refine am_ldc2 (am_fd ck_X8_give (pc := 114) rfl) tw_358 ?_
            refine am_steps ck_X8_give 2 (pc' := 119) (lv' := [(9, .long (q13 &&& q14)), (7, .long q13), (6, .ref (aW 4 (am_ix x2))), (5, .ref (aW 4 (am_ix x1))), (0, .ref 3), (1, .int x1), (2, .int x2), (3, .int x3), (4, .int x4)]) (st' := [.long (q13 &&& ((q13 &&& q14) ^^^ (-1 : Int64))), .long (q13 &&& q14), .ref 2970]) rfl ?_
            obtain ⟨q15, hq15, hm⟩ := am_bE hm
            refine ms_callS (M2 := mt_X6_common) (d2 := 2) [.long (q13 &&& q14), .long (q13 &&& ((q13 &&& q14) ^^^ (-1 : Int64)))] (am_fd ck_X8_give (pc := 119) rfl) ok_X6_common tw_295 tw_296 (Nat.le_of_ble_eq_true rfl) (Nat.le_of_ble_eq_true rfl) (x_X6_common hL hq15) ?_
            obtain ⟨q16, hq16, hm⟩ := am_bE hm
            refine ms_callVv (M2 := mt_X0_parted) (d2 := 2) (ci := 0) [.int q15] (am_fd ck_X8_give (pc := 122) rfl) ok_X0_parted tw_359 tw_360 tw_361 (by decide) (kB bk2970).1 (Nat.le_of_ble_eq_true rfl) (Nat.le_of_ble_eq_true rfl) (x_X0_parted hL bk2970 hq16) ?_
            refine am_steps ck_X8_give 1 (pc' := 126) (lv' := [(9, .long (q13 &&& q14)), (7, .long q13), (6, .ref (aW 4 (am_ix x2))), (5, .ref (aW 4 (am_ix x1))), (0, .ref 3), (1, .int x1), (2, .int x2), (3, .int x3), (4, .int x4)]) (st' := [.ref 3]) rfl ?_
            refine ms_getr (ci := 6) (k := 3) (v := 2970) (am_fd ck_X8_give (pc := 126) rfl) tw_193 kc_3 rfl (ly_3_3 hL) (kB bk2970).1 ?_
            refine am_steps ck_X8_give 2 (pc' := 133) (lv' := [(9, .long (q13 &&& q14)), (7, .long q13), (6, .ref (aW 4 (am_ix x2))), (5, .ref (aW 4 (am_ix x1))), (0, .ref 3), (1, .int x1), (2, .int x2), (3, .int x3), (4, .int x4)]) (st' := [.ref (aW 4 (am_ix x2)), .long (q13 &&& q14), .ref 2970]) rfl ?_
            obtain ⟨q17, hq17, hm⟩ := am_bE hm
            refine ms_callS (M2 := mt_X6_maskOf) (d2 := 1) [.ref (aW 4 (am_ix x2))] (am_fd ck_X8_give (pc := 133) rfl) ok_X6_maskOf tw_292 tw_293 (Nat.le_of_ble_eq_true rfl) (Nat.le_of_ble_eq_true rfl) (x_X6_maskOf hL (kW og4 (am_ixl hb9)) hq17) ?_
            obtain ⟨q18, hq18, hm⟩ := am_bE hm
            refine ms_callS (M2 := mt_X6_common) (d2 := 2) [.long (q13 &&& q14), .long q17] (am_fd ck_X8_give (pc := 136) rfl) ok_X6_common tw_295 tw_296 (Nat.le_of_ble_eq_true rfl) (Nat.le_of_ble_eq_true rfl) (x_X6_common hL hq18) ?_
            obtain ⟨q19, hq19, hm⟩ := am_bE hm
            refine ms_callVv (M2 := mt_X0_merged) (d2 := 2) (ci := 0) [.int q18] (am_fd ck_X8_give (pc := 139) rfl) ok_X0_merged tw_313 tw_314 tw_315 (by decide) (kB bk2970).1 (Nat.le_of_ble_eq_true rfl) (Nat.le_of_ble_eq_true rfl) (x_X0_merged hL bk2970 hq19) ?_
            refine am_steps ck_X8_give 4 (pc' := 149) (lv' := [(9, .long (q13 &&& q14)), (7, .long q13), (6, .ref (aW 4 (am_ix x2))), (5, .ref (aW 4 (am_ix x1))), (0, .ref 3), (1, .int x1), (2, .int x2), (3, .int x3), (4, .int x4)]) (st' := [.ref (aW 4 (am_ix x2)), .int x4, .int x3, .ref (aW 4 (am_ix x1))]) rfl ?_
            obtain ⟨q20, hq20, hm⟩ := am_bE hm
            refine ms_callS (M2 := mt_X5_pour) (d2 := 1) [.ref (aW 4 (am_ix x1)), .int x3, .int x4, .ref (aW 4 (am_ix x2))] (am_fd ck_X8_give (pc := 149) rfl) ok_X5_pour tw_306 tw_307 (Nat.le_of_ble_eq_true rfl) (Nat.le_of_ble_eq_true rfl) (x_X5_pour hL (kW og4 (am_ixl hb8)) (kW og4 (am_ixl hb9)) hq20) ?_
            refine am_steps ck_X8_give 2 (pc' := 155) (lv' := [(11, .int q20.1), (9, .long (q13 &&& q14)), (7, .long q13), (6, .ref (aW 4 (am_ix x2))), (5, .ref (aW 4 (am_ix x1))), (0, .ref 3), (1, .int x1), (2, .int x2), (3, .int x3), (4, .int x4)]) (st' := [.ref 3]) rfl ?_
            refine ms_getr (ci := 6) (k := 0) (v := 4) (am_fd ck_X8_give (pc := 155) rfl) tw_190 kc_3 rfl (ly_3_0 hL) (kO og4) ?_
            refine am_steps ck_X8_give 1 (pc' := 159) (lv' := [(11, .int q20.1), (9, .long (q13 &&& q14)), (7, .long q13), (6, .ref (aW 4 (am_ix x2))), (5, .ref (aW 4 (am_ix x1))), (0, .ref 3), (1, .int x1), (2, .int x2), (3, .int x3), (4, .int x4)]) (st' := [.int x1, .ref 4]) rfl ?_
            obtain ⟨q21, hq21, hm⟩ := am_bE hm
            refine ms_callVv (M2 := mt_X1_makeStale) (d2 := 3) (ci := 1) [.int x1] (am_fd ck_X8_give (pc := 159) rfl) ok_X1_makeStale tw_252 tw_253 tw_254 (by decide) (kO og4) (Nat.le_of_ble_eq_true rfl) (Nat.le_of_ble_eq_true rfl) (x_X1_makeStale hL og4 hq21) ?_
            refine am_steps ck_X8_give 1 (pc' := 163) (lv' := [(11, .int q20.1), (9, .long (q13 &&& q14)), (7, .long q13), (6, .ref (aW 4 (am_ix x2))), (5, .ref (aW 4 (am_ix x1))), (0, .ref 3), (1, .int x1), (2, .int x2), (3, .int x3), (4, .int x4)]) (st' := [.ref 3]) rfl ?_
            refine ms_getr (ci := 6) (k := 0) (v := 4) (am_fd ck_X8_give (pc := 163) rfl) tw_190 kc_3 rfl (ly_3_0 hL) (kO og4) ?_
            refine am_steps ck_X8_give 1 (pc' := 167) (lv' := [(11, .int q20.1), (9, .long (q13 &&& q14)), (7, .long q13), (6, .ref (aW 4 (am_ix x2))), (5, .ref (aW 4 (am_ix x1))), (0, .ref 3), (1, .int x1), (2, .int x2), (3, .int x3), (4, .int x4)]) (st' := [.int x2, .ref 4]) rfl ?_
            obtain ⟨q22, hq22, hm⟩ := am_bE hm
            refine ms_callVv (M2 := mt_X1_makeStale) (d2 := 3) (ci := 1) [.int x2] (am_fd ck_X8_give (pc := 167) rfl) ok_X1_makeStale tw_252 tw_253 tw_254 (by decide) (kO og4) (Nat.le_of_ble_eq_true rfl) (Nat.le_of_ble_eq_true rfl) (x_X1_makeStale hL og4 hq22) ?_
            refine am_steps ck_X8_give 1 (pc' := 171) (lv' := [(11, .int q20.1), (9, .long (q13 &&& q14)), (7, .long q13), (6, .ref (aW 4 (am_ix x2))), (5, .ref (aW 4 (am_ix x1))), (0, .ref 3), (1, .int x1), (2, .int x2), (3, .int x3), (4, .int x4)]) (st' := [.ref 3]) rfl ?_
            refine ms_getr (ci := 6) (k := 3) (v := 2970) (am_fd ck_X8_give (pc := 171) rfl) tw_193 kc_3 rfl (ly_3_3 hL) (kB bk2970).1 ?_
            refine am_steps ck_X8_give 2 (pc' := 178) (lv' := [(11, .int q20.1), (9, .long (q13 &&& q14)), (7, .long q13), (6, .ref (aW 4 (am_ix x2))), (5, .ref (aW 4 (am_ix x1))), (0, .ref 3), (1, .int x1), (2, .int x2), (3, .int x3), (4, .int x4)]) (st' := [.int q20.1, .int (am_i 8), .ref 2970]) rfl ?_
            obtain ⟨q23, hq23, hm⟩ := am_bE hm
            refine ms_callVv (M2 := mt_X0_tally) (d2 := 1) (ci := 0) [.int (am_i 8), .int q20.1] (am_fd ck_X8_give (pc := 178) rfl) ok_X0_tally tw_276 tw_277 tw_278 (by decide) (kB bk2970).1 (Nat.le_of_ble_eq_true rfl) (Nat.le_of_ble_eq_true rfl) (x_X0_tally hL bk2970 hq23) ?_
            refine am_steps ck_X8_give 1 (pc' := 183) (lv' := [(11, .int q20.1), (9, .long (q13 &&& q14)), (7, .long q13), (6, .ref (aW 4 (am_ix x2))), (5, .ref (aW 4 (am_ix x1))), (0, .ref 3), (1, .int x1), (2, .int x2), (3, .int x3), (4, .int x4)]) (st' := [.int q20.1]) rfl ?_
            cases hm
            exact am_end (am_fd ck_X8_give (pc := 183) rfl) am_rI rfl rfl
          · replace hm := am_if hm hc11
            refine am_steps ck_X8_give 1 (pc' := 74) (lv' := [(6, .ref (aW 4 (am_ix x2))), (5, .ref (aW 4 (am_ix x1))), (0, .ref 3), (1, .int x1), (2, .int x2), (3, .int x3), (4, .int x4)]) (st' := [.int (am_i (-1))]) rfl ?_
            cases hm
            exact am_end (am_fd ck_X8_give (pc := 74) rfl) am_rI rfl rfl
        · replace hm := am_if hm hc7
          refine am_steps ck_X8_give 1 (pc' := 37) (lv' := [(0, .ref 3), (1, .int x1), (2, .int x2), (3, .int x3), (4, .int x4)]) (st' := [.int (am_i (-1))]) rfl ?_
          cases hm
          exact am_end (am_fd ck_X8_give (pc := 37) rfl) am_rI rfl rfl
set_option maxRecDepth 100000 in
set_option maxHeartbeats 4000000 in
theorem x_X8_roll {G : am_G} {m : am_m} {r : am_rr} {x1 : Int32} {res : Int32 × am_m × am_rr} (hL : am_Lay r) (hm : m_X8_roll m r x1 = some res) : am_Met G mt_X8_roll 27 [.ref 3, .int x1] (am_hh m r) (some (.int res.1)) (am_hh res.2.1 res.2.2) := by
  refine am_of (by decide) (Nat.le_of_ble_eq_true rfl) ?_
  unfold m_X8_roll at hm
  show am_W G mt_X8_roll 27 _ _ 0 [(0, .ref 3), (1, .int x1)] [] (am_hh m r)
  refine am_steps ck_X8_roll 1 (pc' := 1) (lv' := [(0, .ref 3), (1, .int x1)]) (st' := [.ref 3]) rfl ?_
  refine ms_getr (ci := 6) (k := 0) (v := 4) (am_fd ck_X8_roll (pc := 1) rfl) tw_190 kc_3 rfl (ly_3_0 hL) (kO og4) ?_
  refine am_steps ck_X8_roll 1 (pc' := 5) (lv' := [(0, .ref 3), (1, .int x1)]) (st' := [.int x1, .ref 4]) rfl ?_
  obtain ⟨q1, hq1, hm⟩ := am_bE hm
  refine ms_callV (M2 := mt_X1_isThere) (d2 := 1) (ci := 1) [.int x1] (am_fd ck_X8_roll (pc := 5) rfl) ok_X1_isThere tw_231 tw_232 tw_233 (by decide) (kO og4) (Nat.le_of_ble_eq_true rfl) (Nat.le_of_ble_eq_true rfl) (x_X1_isThere hL og4 hq1) ?_
  refine am_ifc (tgt := 23) (am_fd ck_X8_roll (pc := 8) rfl) rfl (fun hc2 => ?_) (fun hc2 => ?_)
  · replace hm := am_it hm hc2
    refine am_steps ck_X8_roll 1 (pc' := 24) (lv' := [(0, .ref 3), (1, .int x1)]) (st' := [.int (am_i (-1))]) rfl ?_
    cases hm
    exact am_end (am_fd ck_X8_roll (pc := 24) rfl) am_rI rfl rfl
  · replace hm := am_if hm hc2
    refine am_steps ck_X8_roll 1 (pc' := 12) (lv' := [(0, .ref 3), (1, .int x1)]) (st' := [.ref 3]) rfl ?_
    refine ms_getr (ci := 6) (k := 0) (v := 4) (am_fd ck_X8_roll (pc := 12) rfl) tw_190 kc_3 rfl (ly_3_0 hL) (kO og4) ?_
    refine ms_getr (ci := 1) (k := 1) (v := (aS 4)) (am_fd ck_X8_roll (pc := 15) rfl) tw_41 (kO og4) rfl (lyO1 hL og4) (kS og4) ?_
    refine am_steps ck_X8_roll 1 (pc' := 19) (lv' := [(0, .ref 3), (1, .int x1)]) (st' := [.int x1, .ref (aS 4)]) rfl ?_
    obtain ⟨hb3, hm⟩ := am_gE hm
    refine ms_zald (n := 24) (am_fd ck_X8_roll (pc := 19) rfl) (kS og4) hb3 ?_
    refine am_ifc (tgt := 25) (am_fd ck_X8_roll (pc := 20) rfl) rfl (fun hc4 => ?_) (fun hc4 => ?_)
    · replace hm := am_it hm hc4
      refine am_steps ck_X8_roll 1 (pc' := 26) (lv' := [(0, .ref 3), (1, .int x1)]) (st' := [.ref 3]) rfl ?_
      refine ms_getr (ci := 6) (k := 2) (v := 498) (am_fd ck_X8_roll (pc := 26) rfl) tw_192 kc_3 rfl (ly_3_2 hL) kc_498 ?_
      refine am_steps ck_X8_roll 1 (pc' := 30) (lv' := [(0, .ref 3), (1, .int x1)]) (st' := [.ref 3, .ref 498]) rfl ?_
      refine ms_getr (ci := 6) (k := 0) (v := 4) (am_fd ck_X8_roll (pc := 30) rfl) tw_190 kc_3 rfl (ly_3_0 hL) (kO og4) ?_
      obtain ⟨q5, hq5, hm⟩ := am_bE hm
      refine ms_callVv (M2 := mt_X2_keep) (d2 := 3) (ci := 2) [.ref 4] (am_fd ck_X8_roll (pc := 33) rfl) ok_X2_keep tw_238 tw_239 tw_240 (by decide) kc_498 (Nat.le_of_ble_eq_true rfl) (Nat.le_of_ble_eq_true rfl) (x_X2_keep hL og4 hq5) ?_
      refine am_steps ck_X8_roll 1 (pc' := 37) (lv' := [(0, .ref 3), (1, .int x1)]) (st' := [.ref 3]) rfl ?_
      refine ms_getr (ci := 6) (k := 5) (v := 2982) (am_fd ck_X8_roll (pc := 37) rfl) tw_195 kc_3 rfl (ly_3_5 hL) kc_2982 ?_
      refine am_steps ck_X8_roll 1 (pc' := 41) (lv' := [(0, .ref 3), (1, .int x1)]) (st' := [.ref 3, .ref 2982]) rfl ?_
      refine ms_getr (ci := 6) (k := 0) (v := 4) (am_fd ck_X8_roll (pc := 41) rfl) tw_190 kc_3 rfl (ly_3_0 hL) (kO og4) ?_
      refine am_steps ck_X8_roll 1 (pc' := 45) (lv' := [(0, .ref 3), (1, .int x1)]) (st' := [.int x1, .ref 4, .ref 2982]) rfl ?_
      obtain ⟨q6, hq6, hm⟩ := am_bE hm
      refine ms_callV (M2 := mt_X4_rollAll) (d2 := 26) (ci := 4) [.ref 4, .int x1] (am_fd ck_X8_roll (pc := 45) rfl) ok_X4_rollAll tw_367 tw_368 tw_369 (by decide) kc_2982 (Nat.le_of_ble_eq_true rfl) (Nat.le_of_ble_eq_true rfl) (x_X4_rollAll hL og4 hq6) ?_
      have hL := lr_X4_rollAll hL og4 hq6
      refine am_steps ck_X8_roll 2 (pc' := 50) (lv' := [(2, .int q6.1), (0, .ref 3), (1, .int x1)]) (st' := [.ref 3]) rfl ?_
      refine ms_getr (ci := 6) (k := 3) (v := 2970) (am_fd ck_X8_roll (pc := 50) rfl) tw_193 kc_3 rfl (ly_3_3 hL) (kB bk2970).1 ?_
      refine am_steps ck_X8_roll 2 (pc' := 55) (lv' := [(2, .int q6.1), (0, .ref 3), (1, .int x1)]) (st' := [.int q6.1, .int (am_i 0), .ref 2970]) rfl ?_
      obtain ⟨q7, hq7, hm⟩ := am_bE hm
      refine ms_callVv (M2 := mt_X0_tally) (d2 := 1) (ci := 0) [.int (am_i 0), .int q6.1] (am_fd ck_X8_roll (pc := 55) rfl) ok_X0_tally tw_276 tw_277 tw_278 (by decide) (kB bk2970).1 (Nat.le_of_ble_eq_true rfl) (Nat.le_of_ble_eq_true rfl) (x_X0_tally hL bk2970 hq7) ?_
      refine am_steps ck_X8_roll 1 (pc' := 59) (lv' := [(2, .int q6.1), (0, .ref 3), (1, .int x1)]) (st' := [.ref 3]) rfl ?_
      refine ms_getr (ci := 6) (k := 3) (v := 2970) (am_fd ck_X8_roll (pc := 59) rfl) tw_193 kc_3 rfl (ly_3_3 hL) (kB bk2970).1 ?_
      refine am_steps ck_X8_roll 2 (pc' := 64) (lv' := [(2, .int q6.1), (0, .ref 3), (1, .int x1)]) (st' := [.ref 3, .int (am_i 2), .ref 2970]) rfl ?_
      refine ms_getr (ci := 6) (k := 5) (v := 2982) (am_fd ck_X8_roll (pc := 64) rfl) tw_195 kc_3 rfl (ly_3_5 hL) kc_2982 ?_
      refine ms_geti (ci := 4) (k := 2) (am_fd ck_X8_roll (pc := 67) rfl) tw_132 kc_2982 rfl ?_
      obtain ⟨q8, hq8, hm⟩ := am_bE hm
      refine ms_callVv (M2 := mt_X0_tally) (d2 := 1) (ci := 0) [.int (am_i 2), .int (q7 2982 2)] (am_fd ck_X8_roll (pc := 70) rfl) ok_X0_tally tw_276 tw_277 tw_278 (by decide) (kB bk2970).1 (Nat.le_of_ble_eq_true rfl) (Nat.le_of_ble_eq_true rfl) (x_X0_tally hL bk2970 hq8) ?_
      refine am_steps ck_X8_roll 1 (pc' := 74) (lv' := [(2, .int q6.1), (0, .ref 3), (1, .int x1)]) (st' := [.ref 3]) rfl ?_
      refine ms_getr (ci := 6) (k := 3) (v := 2970) (am_fd ck_X8_roll (pc := 74) rfl) tw_193 kc_3 rfl (ly_3_3 hL) (kB bk2970).1 ?_
      refine am_steps ck_X8_roll 2 (pc' := 79) (lv' := [(2, .int q6.1), (0, .ref 3), (1, .int x1)]) (st' := [.ref 3, .int (am_i 4), .ref 2970]) rfl ?_
      refine ms_getr (ci := 6) (k := 5) (v := 2982) (am_fd ck_X8_roll (pc := 79) rfl) tw_195 kc_3 rfl (ly_3_5 hL) kc_2982 ?_
      refine ms_geti (ci := 4) (k := 3) (am_fd ck_X8_roll (pc := 82) rfl) tw_134 kc_2982 rfl ?_
      obtain ⟨q9, hq9, hm⟩ := am_bE hm
      refine ms_callVv (M2 := mt_X0_tally) (d2 := 1) (ci := 0) [.int (am_i 4), .int (q8 2982 3)] (am_fd ck_X8_roll (pc := 85) rfl) ok_X0_tally tw_276 tw_277 tw_278 (by decide) (kB bk2970).1 (Nat.le_of_ble_eq_true rfl) (Nat.le_of_ble_eq_true rfl) (x_X0_tally hL bk2970 hq9) ?_
      refine am_steps ck_X8_roll 1 (pc' := 89) (lv' := [(2, .int q6.1), (0, .ref 3), (1, .int x1)]) (st' := [.int q6.1]) rfl ?_
      cases hm
      exact am_end (am_fd ck_X8_roll (pc := 89) rfl) am_rI rfl rfl
    · replace hm := am_if hm hc4
      refine am_steps ck_X8_roll 1 (pc' := 24) (lv' := [(0, .ref 3), (1, .int x1)]) (st' := [.int (am_i (-1))]) rfl ?_
      cases hm
      exact am_end (am_fd ck_X8_roll (pc := 24) rfl) am_rI rfl rfl
set_option maxRecDepth 100000 in
set_option maxHeartbeats 4000000 in
theorem x_X8_recodeOwn {G : am_G} {m : am_m} {r : am_rr} {x1 : Int32} {x2 : Int32} {x3 : Int32} {res : am_m} (hL : am_Lay r) (hm : m_X8_recodeOwn m x1 x2 x3 = some res) : am_Met G mt_X8_recodeOwn 4 [.ref 3, .int x1, .int x2, .int x3] (am_hh m r) none (am_hh res r) := by
  refine am_of (by decide) (Nat.le_of_ble_eq_true rfl) ?_
  unfold m_X8_recodeOwn at hm
  show am_W G mt_X8_recodeOwn 4 _ _ 0 [(0, .ref 3), (1, .int x1), (2, .int x2), (3, .int x3)] [] (am_hh m r)
  refine am_steps ck_X8_recodeOwn 1 (pc' := 1) (lv' := [(0, .ref 3), (1, .int x1), (2, .int x2), (3, .int x3)]) (st' := [.ref 3]) rfl ?_
  refine ms_getr (ci := 6) (k := 0) (v := 4) (am_fd ck_X8_recodeOwn (pc := 1) rfl) tw_190 kc_3 rfl (ly_3_0 hL) (kO og4) ?_
  refine ms_getr (ci := 1) (k := 2) (v := (4 + 3)) (am_fd ck_X8_recodeOwn (pc := 4) rfl) tw_43 (kO og4) rfl (lyO2 hL og4) (kWo og4) ?_
  refine am_steps ck_X8_recodeOwn 1 (pc' := 8) (lv' := [(0, .ref 3), (1, .int x1), (2, .int x2), (3, .int x3)]) (st' := [.int x1, .ref (4 + 3)]) rfl ?_
  obtain ⟨hb1, hm⟩ := am_gE hm
  refine ms_rald (n := 24) (v := (aW 4 (am_ix x1))) (am_fd ck_X8_recodeOwn (pc := 8) rfl) (kWo og4) hb1 (lyW hL og4 (am_ixl hb1)) (kW og4 (am_ixl hb1)) ?_
  refine am_steps ck_X8_recodeOwn 3 (pc' := 13) (lv' := [(4, .ref (aW 4 (am_ix x1))), (0, .ref 3), (1, .int x1), (2, .int x2), (3, .int x3)]) (st' := [.int x2, .int x2]) rfl ?_
  obtain ⟨q2, hq2, hm⟩ := am_bE hm
  refine ms_callS (M2 := mt_X6_bitsOf) (d2 := 1) [.int x2, .int x2] (am_fd ck_X8_recodeOwn (pc := 13) rfl) ok_X6_bitsOf tw_354 tw_355 (Nat.le_of_ble_eq_true rfl) (Nat.le_of_ble_eq_true rfl) (x_X6_bitsOf hL hq2) ?_
  refine am_steps ck_X8_recodeOwn 2 (pc' := 20) (lv' := [(5, .long q2), (4, .ref (aW 4 (am_ix x1))), (0, .ref 3), (1, .int x1), (2, .int x2), (3, .int x3)]) (st' := [.ref (aW 4 (am_ix x1))]) rfl ?_
  obtain ⟨q3, hq3, hm⟩ := am_bE hm
  refine ms_callS (M2 := mt_X6_maskOf) (d2 := 1) [.ref (aW 4 (am_ix x1))] (am_fd ck_X8_recodeOwn (pc := 20) rfl) ok_X6_maskOf tw_292 tw_293 (Nat.le_of_ble_eq_true rfl) (Nat.le_of_ble_eq_true rfl) (x_X6_maskOf hL (kW og4 (am_ixl hb1)) hq3) ?_
  refine am_steps ck_X8_recodeOwn 1 (pc' := 25) (lv' := [(5, .long q2), (4, .ref (aW 4 (am_ix x1))), (0, .ref 3), (1, .int x1), (2, .int x2), (3, .int x3)]) (st' := [.long q2, .long q3]) rfl ?_
  refine am_ldc2 (am_fd ck_X8_recodeOwn (pc := 25) rfl) tw_358 ?_
  refine am_steps ck_X8_recodeOwn 4 (pc' := 33) (lv' := [(7, .long (q3 &&& (q2 ^^^ (-1 : Int64)))), (5, .long q2), (4, .ref (aW 4 (am_ix x1))), (0, .ref 3), (1, .int x1), (2, .int x2), (3, .int x3)]) (st' := [.ref 3]) rfl ?_
  refine ms_getr (ci := 6) (k := 3) (v := 2970) (am_fd ck_X8_recodeOwn (pc := 33) rfl) tw_193 kc_3 rfl (ly_3_3 hL) (kB bk2970).1 ?_
  refine am_steps ck_X8_recodeOwn 2 (pc' := 40) (lv' := [(7, .long (q3 &&& (q2 ^^^ (-1 : Int64)))), (5, .long q2), (4, .ref (aW 4 (am_ix x1))), (0, .ref 3), (1, .int x1), (2, .int x2), (3, .int x3)]) (st' := [.long (q3 &&& (q2 ^^^ (-1 : Int64))), .long q2, .ref 2970]) rfl ?_
  obtain ⟨q4, hq4, hm⟩ := am_bE hm
  refine ms_callS (M2 := mt_X6_common) (d2 := 2) [.long q2, .long (q3 &&& (q2 ^^^ (-1 : Int64)))] (am_fd ck_X8_recodeOwn (pc := 40) rfl) ok_X6_common tw_295 tw_296 (Nat.le_of_ble_eq_true rfl) (Nat.le_of_ble_eq_true rfl) (x_X6_common hL hq4) ?_
  obtain ⟨q5, hq5, hm⟩ := am_bE hm
  refine ms_callVv (M2 := mt_X0_parted) (d2 := 2) (ci := 0) [.int q4] (am_fd ck_X8_recodeOwn (pc := 43) rfl) ok_X0_parted tw_359 tw_360 tw_361 (by decide) (kB bk2970).1 (Nat.le_of_ble_eq_true rfl) (Nat.le_of_ble_eq_true rfl) (x_X0_parted hL bk2970 hq5) ?_
  refine am_steps ck_X8_recodeOwn 1 (pc' := 47) (lv' := [(7, .long (q3 &&& (q2 ^^^ (-1 : Int64)))), (5, .long q2), (4, .ref (aW 4 (am_ix x1))), (0, .ref 3), (1, .int x1), (2, .int x2), (3, .int x3)]) (st' := [.ref 3]) rfl ?_
  refine ms_getr (ci := 6) (k := 3) (v := 2970) (am_fd ck_X8_recodeOwn (pc := 47) rfl) tw_193 kc_3 rfl (ly_3_3 hL) (kB bk2970).1 ?_
  refine am_steps ck_X8_recodeOwn 2 (pc' := 52) (lv' := [(7, .long (q3 &&& (q2 ^^^ (-1 : Int64)))), (5, .long q2), (4, .ref (aW 4 (am_ix x1))), (0, .ref 3), (1, .int x1), (2, .int x2), (3, .int x3)]) (st' := [.int x3, .int x3, .ref 2970]) rfl ?_
  obtain ⟨q6, hq6, hm⟩ := am_bE hm
  refine ms_callS (M2 := mt_X6_bitsOf) (d2 := 1) [.int x3, .int x3] (am_fd ck_X8_recodeOwn (pc := 52) rfl) ok_X6_bitsOf tw_354 tw_355 (Nat.le_of_ble_eq_true rfl) (Nat.le_of_ble_eq_true rfl) (x_X6_bitsOf hL hq6) ?_
  refine am_steps ck_X8_recodeOwn 1 (pc' := 57) (lv' := [(7, .long (q3 &&& (q2 ^^^ (-1 : Int64)))), (5, .long q2), (4, .ref (aW 4 (am_ix x1))), (0, .ref 3), (1, .int x1), (2, .int x2), (3, .int x3)]) (st' := [.long (q3 &&& (q2 ^^^ (-1 : Int64))), .long q6, .ref 2970]) rfl ?_
  obtain ⟨q7, hq7, hm⟩ := am_bE hm
  refine ms_callS (M2 := mt_X6_common) (d2 := 2) [.long q6, .long (q3 &&& (q2 ^^^ (-1 : Int64)))] (am_fd ck_X8_recodeOwn (pc := 57) rfl) ok_X6_common tw_295 tw_296 (Nat.le_of_ble_eq_true rfl) (Nat.le_of_ble_eq_true rfl) (x_X6_common hL hq7) ?_
  obtain ⟨q8, hq8, hm⟩ := am_bE hm
  refine ms_callVv (M2 := mt_X0_merged) (d2 := 2) (ci := 0) [.int q7] (am_fd ck_X8_recodeOwn (pc := 60) rfl) ok_X0_merged tw_313 tw_314 tw_315 (by decide) (kB bk2970).1 (Nat.le_of_ble_eq_true rfl) (Nat.le_of_ble_eq_true rfl) (x_X0_merged hL bk2970 hq8) ?_
  refine am_steps ck_X8_recodeOwn 3 (pc' := 67) (lv' := [(7, .long (q3 &&& (q2 ^^^ (-1 : Int64)))), (5, .long q2), (4, .ref (aW 4 (am_ix x1))), (0, .ref 3), (1, .int x1), (2, .int x2), (3, .int x3)]) (st' := [.int x3, .ref (aW 4 (am_ix x1)), .int x3, .ref (aW 4 (am_ix x1))]) rfl ?_
  obtain ⟨hb9, hm⟩ := am_gE hm
  refine ms_iald (n := 64) (am_fd ck_X8_recodeOwn (pc := 67) rfl) (kW og4 (am_ixl hb1)) hb9 ?_
  refine am_steps ck_X8_recodeOwn 2 (pc' := 71) (lv' := [(7, .long (q3 &&& (q2 ^^^ (-1 : Int64)))), (5, .long q2), (4, .ref (aW 4 (am_ix x1))), (0, .ref 3), (1, .int x1), (2, .int x2), (3, .int x3)]) (st' := [.int x2, .ref (aW 4 (am_ix x1)), .int (q8 (aW 4 (am_ix x1)) (am_ix x3)), .int x3, .ref (aW 4 (am_ix x1))]) rfl ?_
  obtain ⟨hb10, hm⟩ := am_gE hm
  refine ms_iald (n := 64) (am_fd ck_X8_recodeOwn (pc := 71) rfl) (kW og4 (am_ixl hb1)) hb10 ?_
  refine am_steps ck_X8_recodeOwn 1 (pc' := 73) (lv' := [(7, .long (q3 &&& (q2 ^^^ (-1 : Int64)))), (5, .long q2), (4, .ref (aW 4 (am_ix x1))), (0, .ref 3), (1, .int x1), (2, .int x2), (3, .int x3)]) (st' := [.int ((q8 (aW 4 (am_ix x1)) (am_ix x3)) + (q8 (aW 4 (am_ix x1)) (am_ix x2))), .int x3, .ref (aW 4 (am_ix x1))]) rfl ?_
  obtain ⟨hb11, hm⟩ := am_gE hm
  refine ms_iast (n := 64) (am_fd ck_X8_recodeOwn (pc := 73) rfl) (kW og4 (am_ixl hb1)) hb11 (fun m12 em12 => ?_)
  replace hm := am_letE em12 hm
  refine am_steps ck_X8_recodeOwn 3 (pc' := 78) (lv' := [(7, .long (q3 &&& (q2 ^^^ (-1 : Int64)))), (5, .long q2), (4, .ref (aW 4 (am_ix x1))), (0, .ref 3), (1, .int x1), (2, .int x2), (3, .int x3)]) (st' := [.int (am_i 0), .int x2, .ref (aW 4 (am_ix x1))]) rfl ?_
  obtain ⟨hb13, hm⟩ := am_gE hm
  refine ms_iast (n := 64) (am_fd ck_X8_recodeOwn (pc := 78) rfl) (kW og4 (am_ixl hb1)) hb13 (fun m14 em14 => ?_)
  replace hm := am_letE em14 hm
  refine am_steps ck_X8_recodeOwn 1 (pc' := 80) (lv' := [(7, .long (q3 &&& (q2 ^^^ (-1 : Int64)))), (5, .long q2), (4, .ref (aW 4 (am_ix x1))), (0, .ref 3), (1, .int x1), (2, .int x2), (3, .int x3)]) (st' := [.ref 3]) rfl ?_
  refine ms_getr (ci := 6) (k := 0) (v := 4) (am_fd ck_X8_recodeOwn (pc := 80) rfl) tw_190 kc_3 rfl (ly_3_0 hL) (kO og4) ?_
  refine am_steps ck_X8_recodeOwn 1 (pc' := 84) (lv' := [(7, .long (q3 &&& (q2 ^^^ (-1 : Int64)))), (5, .long q2), (4, .ref (aW 4 (am_ix x1))), (0, .ref 3), (1, .int x1), (2, .int x2), (3, .int x3)]) (st' := [.int x1, .ref 4]) rfl ?_
  obtain ⟨q15, hq15, hm⟩ := am_bE hm
  refine ms_callVv (M2 := mt_X1_makeStale) (d2 := 3) (ci := 1) [.int x1] (am_fd ck_X8_recodeOwn (pc := 84) rfl) ok_X1_makeStale tw_252 tw_253 tw_254 (by decide) (kO og4) (Nat.le_of_ble_eq_true rfl) (Nat.le_of_ble_eq_true rfl) (x_X1_makeStale hL og4 hq15) ?_
  cases hm
  exact am_end (am_fd ck_X8_recodeOwn (pc := 87) rfl) am_rV rfl rfl
set_option maxRecDepth 100000 in
set_option maxHeartbeats 4000000 in
theorem x_X8_recode_26 {G : am_G} {x1 : Int32} {x2 : Int32} {m : am_m} {r : am_rr} {y1 : Int32} {y2 : Int32} {res : Int32 × am_m} {k : Int32 → Option (Int32 × am_m)} (hL : am_Lay r) : ∀ (n : Nat) (z3 : Int32) (z4 : Int32), m_X8_recode_26 x1 x2 m r y1 y2 k n z3 z4 = some res → (∀ (u3 : Int32), k u3 = some res → am_W G mt_X8_recode 5 (some (.int res.1)) (am_hh res.2 r) 101 [(0, .ref 3), (1, .int y1), (2, .int y2), (3, .int u3)] [] (am_hh m r)) → am_W G mt_X8_recode 5 (some (.int res.1)) (am_hh res.2 r) 26 [(0, .ref 3), (1, .int y1), (2, .int y2), (3, .int z3), (4, .int z4)] [] (am_hh m r) := by
  intro n
  induction n with
  | zero => intro z3 z4 hm K; cases hm
  | succ n ih =>
    intro z3 z4 hm K
    unfold m_X8_recode_26 at hm
    refine am_steps ck_X8_recode 2 (pc' := 30) (lv' := [(0, .ref 3), (1, .int y1), (2, .int y2), (3, .int z3), (4, .int z4)]) (st' := [.int (am_i 24), .int z4]) rfl ?_
    refine am_icmp (tgt := 101) (am_fd ck_X8_recode (pc := 30) rfl) rfl (fun hc6 => ?_) (fun hc6 => ?_)
    · replace hm := am_it hm hc6
      refine am_subp [0, 1, 2, 3] rfl ?_
      exact K _ hm
    · replace hm := am_if hm hc6
      refine am_steps ck_X8_recode 1 (pc' := 34) (lv' := [(0, .ref 3), (1, .int y1), (2, .int y2), (3, .int z3), (4, .int z4)]) (st' := [.ref 3]) rfl ?_
      refine ms_getr (ci := 6) (k := 0) (v := 4) (am_fd ck_X8_recode (pc := 34) rfl) tw_190 kc_3 rfl (ly_3_0 hL) (kO og4) ?_
      refine am_steps ck_X8_recode 1 (pc' := 39) (lv' := [(0, .ref 3), (1, .int y1), (2, .int y2), (3, .int z3), (4, .int z4)]) (st' := [.int z4, .ref 4]) rfl ?_
      obtain ⟨q7, hq7, hm⟩ := am_bE hm
      refine ms_callV (M2 := mt_X1_isThere) (d2 := 1) (ci := 1) [.int z4] (am_fd ck_X8_recode (pc := 39) rfl) ok_X1_isThere tw_231 tw_232 tw_233 (by decide) (kO og4) (Nat.le_of_ble_eq_true rfl) (Nat.le_of_ble_eq_true rfl) (x_X1_isThere hL og4 hq7) ?_
      refine am_ifc (tgt := 48) (am_fd ck_X8_recode (pc := 42) rfl) rfl (fun hc8 => ?_) (fun hc8 => ?_)
      · replace hm := am_it hm hc8
        refine am_steps ck_X8_recode 1 (pc' := 49) (lv' := [(0, .ref 3), (1, .int y1), (2, .int y2), (3, .int z3), (4, .int z4)]) (st' := [.ref 3]) rfl ?_
        refine ms_getr (ci := 6) (k := 0) (v := 4) (am_fd ck_X8_recode (pc := 49) rfl) tw_190 kc_3 rfl (ly_3_0 hL) (kO og4) ?_
        refine ms_getr (ci := 1) (k := 2) (v := (4 + 3)) (am_fd ck_X8_recode (pc := 52) rfl) tw_43 (kO og4) rfl (lyO2 hL og4) (kWo og4) ?_
        refine am_steps ck_X8_recode 1 (pc' := 57) (lv' := [(0, .ref 3), (1, .int y1), (2, .int y2), (3, .int z3), (4, .int z4)]) (st' := [.int z4, .ref (4 + 3)]) rfl ?_
        obtain ⟨hb9, hm⟩ := am_gE hm
        refine ms_rald (n := 24) (v := (aW 4 (am_ix z4))) (am_fd ck_X8_recode (pc := 57) rfl) (kWo og4) hb9 (lyW hL og4 (am_ixl hb9)) (kW og4 (am_ixl hb9)) ?_
        refine am_steps ck_X8_recode 1 (pc' := 59) (lv' := [(0, .ref 3), (1, .int y1), (2, .int y2), (3, .int z3), (4, .int z4)]) (st' := [.int y1, .ref (aW 4 (am_ix z4))]) rfl ?_
        obtain ⟨hb10, hm⟩ := am_gE hm
        refine ms_iald (n := 64) (am_fd ck_X8_recode (pc := 59) rfl) (kW og4 (am_ixl hb9)) hb10 ?_
        refine am_steps ck_X8_recode 2 (pc' := 64) (lv' := [(5, .int (m (aW 4 (am_ix z4)) (am_ix y1))), (0, .ref 3), (1, .int y1), (2, .int y2), (3, .int z3), (4, .int z4)]) (st' := [.int (m (aW 4 (am_ix z4)) (am_ix y1))]) rfl ?_
        refine am_ifc (tgt := 90) (am_fd ck_X8_recode (pc := 64) rfl) rfl (fun hc11 => ?_) (fun hc11 => ?_)
        · replace hm := am_it hm hc11
          refine am_steps ck_X8_recode 6 (pc' := 26) (lv' := [(4, .int (z4 + am_i 1)), (3, .int (z3 + (m (aW 4 (am_ix z4)) (am_ix y1)))), (5, .int (m (aW 4 (am_ix z4)) (am_ix y1))), (0, .ref 3), (1, .int y1), (2, .int y2)]) (st' := []) rfl ?_
          refine am_subp [3, 4, 5, 1, 0] rfl ?_
          exact ih _ _ hm K
        · replace hm := am_if hm hc11
          refine am_steps ck_X8_recode 1 (pc' := 68) (lv' := [(5, .int (m (aW 4 (am_ix z4)) (am_ix y1))), (0, .ref 3), (1, .int y1), (2, .int y2), (3, .int z3), (4, .int z4)]) (st' := [.ref 3]) rfl ?_
          refine ms_getr (ci := 6) (k := 0) (v := 4) (am_fd ck_X8_recode (pc := 68) rfl) tw_190 kc_3 rfl (ly_3_0 hL) (kO og4) ?_
          refine ms_getr (ci := 1) (k := 2) (v := (4 + 3)) (am_fd ck_X8_recode (pc := 71) rfl) tw_43 (kO og4) rfl (lyO2 hL og4) (kWo og4) ?_
          refine am_steps ck_X8_recode 1 (pc' := 76) (lv' := [(5, .int (m (aW 4 (am_ix z4)) (am_ix y1))), (0, .ref 3), (1, .int y1), (2, .int y2), (3, .int z3), (4, .int z4)]) (st' := [.int z4, .ref (4 + 3)]) rfl ?_
          obtain ⟨hb12, hm⟩ := am_gE hm
          refine ms_rald (n := 24) (v := (aW 4 (am_ix z4))) (am_fd ck_X8_recode (pc := 76) rfl) (kWo og4) hb12 (lyW hL og4 (am_ixl hb12)) (kW og4 (am_ixl hb12)) ?_
          refine am_steps ck_X8_recode 1 (pc' := 78) (lv' := [(5, .int (m (aW 4 (am_ix z4)) (am_ix y1))), (0, .ref 3), (1, .int y1), (2, .int y2), (3, .int z3), (4, .int z4)]) (st' := [.int y2, .ref (aW 4 (am_ix z4))]) rfl ?_
          obtain ⟨hb13, hm⟩ := am_gE hm
          refine ms_iald (n := 64) (am_fd ck_X8_recode (pc := 78) rfl) (kW og4 (am_ixl hb12)) hb13 ?_
          refine am_steps ck_X8_recode 3 (pc' := 85) (lv' := [(5, .int (m (aW 4 (am_ix z4)) (am_ix y1))), (0, .ref 3), (1, .int y1), (2, .int y2), (3, .int z3), (4, .int z4)]) (st' := [.int (am_i 9999), .int ((m (aW 4 (am_ix z4)) (am_ix y2)) + (m (aW 4 (am_ix z4)) (am_ix y1)))]) rfl ?_
          refine am_icmp (tgt := 90) (am_fd ck_X8_recode (pc := 85) rfl) rfl (fun hc14 => ?_) (fun hc14 => ?_)
          · replace hm := am_it hm hc14
            refine am_steps ck_X8_recode 6 (pc' := 26) (lv' := [(4, .int (z4 + am_i 1)), (3, .int (z3 + (m (aW 4 (am_ix z4)) (am_ix y1)))), (5, .int (m (aW 4 (am_ix z4)) (am_ix y1))), (0, .ref 3), (1, .int y1), (2, .int y2)]) (st' := []) rfl ?_
            refine am_subp [3, 4, 5, 1, 0] rfl ?_
            exact ih _ _ hm K
          · replace hm := am_if hm hc14
            refine am_steps ck_X8_recode 1 (pc' := 89) (lv' := [(5, .int (m (aW 4 (am_ix z4)) (am_ix y1))), (0, .ref 3), (1, .int y1), (2, .int y2), (3, .int z3), (4, .int z4)]) (st' := [.int (am_i (-1))]) rfl ?_
            cases hm
            exact am_end (am_fd ck_X8_recode (pc := 89) rfl) am_rI rfl rfl
      · replace hm := am_if hm hc8
        refine am_steps ck_X8_recode 3 (pc' := 26) (lv' := [(4, .int (z4 + am_i 1)), (0, .ref 3), (1, .int y1), (2, .int y2), (3, .int z3)]) (st' := []) rfl ?_
        refine am_subp [1, 2, 3, 4, 0] rfl ?_
        exact ih _ _ hm K
set_option maxRecDepth 100000 in
set_option maxHeartbeats 4000000 in
theorem x_X8_recode_121 {G : am_G} {x1 : Int32} {x2 : Int32} {r : am_rr} {y1 : Int32} {y2 : Int32} {y3 : Int32} {res : Int32 × am_m} {k : am_m → Option (Int32 × am_m)} (hL : am_Lay r) : ∀ (n : Nat) (z4 : Int32) (m : am_m), m_X8_recode_121 x1 x2 r y1 y2 y3 k n z4 m = some res → (∀ (m1 : am_m), k m1 = some res → am_W G mt_X8_recode 5 (some (.int res.1)) (am_hh res.2 r) 169 [(0, .ref 3), (3, .int y3)] [] (am_hh m1 r)) → am_W G mt_X8_recode 5 (some (.int res.1)) (am_hh res.2 r) 121 [(0, .ref 3), (1, .int y1), (2, .int y2), (3, .int y3), (4, .int z4)] [] (am_hh m r) := by
  intro n
  induction n with
  | zero => intro z4 m hm K; cases hm
  | succ n ih =>
    intro z4 m hm K
    unfold m_X8_recode_121 at hm
    refine am_steps ck_X8_recode 2 (pc' := 125) (lv' := [(0, .ref 3), (1, .int y1), (2, .int y2), (3, .int y3), (4, .int z4)]) (st' := [.int (am_i 24), .int z4]) rfl ?_
    refine am_icmp (tgt := 169) (am_fd ck_X8_recode (pc := 125) rfl) rfl (fun hc18 => ?_) (fun hc18 => ?_)
    · replace hm := am_it hm hc18
      refine am_subp [0, 3] rfl ?_
      exact K _ hm
    · replace hm := am_if hm hc18
      refine am_steps ck_X8_recode 1 (pc' := 129) (lv' := [(0, .ref 3), (1, .int y1), (2, .int y2), (3, .int y3), (4, .int z4)]) (st' := [.ref 3]) rfl ?_
      refine ms_getr (ci := 6) (k := 0) (v := 4) (am_fd ck_X8_recode (pc := 129) rfl) tw_190 kc_3 rfl (ly_3_0 hL) (kO og4) ?_
      refine am_steps ck_X8_recode 1 (pc' := 134) (lv' := [(0, .ref 3), (1, .int y1), (2, .int y2), (3, .int y3), (4, .int z4)]) (st' := [.int z4, .ref 4]) rfl ?_
      obtain ⟨q19, hq19, hm⟩ := am_bE hm
      refine ms_callV (M2 := mt_X1_isThere) (d2 := 1) (ci := 1) [.int z4] (am_fd ck_X8_recode (pc := 134) rfl) ok_X1_isThere tw_231 tw_232 tw_233 (by decide) (kO og4) (Nat.le_of_ble_eq_true rfl) (Nat.le_of_ble_eq_true rfl) (x_X1_isThere hL og4 hq19) ?_
      refine am_ifc (tgt := 163) (am_fd ck_X8_recode (pc := 137) rfl) rfl (fun hc20 => ?_) (fun hc20 => ?_)
      · replace hm := am_it hm hc20
        refine am_steps ck_X8_recode 2 (pc' := 121) (lv' := [(4, .int (z4 + am_i 1)), (0, .ref 3), (1, .int y1), (2, .int y2), (3, .int y3)]) (st' := []) rfl ?_
        refine am_subp [1, 2, 3, 4, 0] rfl ?_
        exact ih _ _ hm K
      · replace hm := am_if hm hc20
        refine am_steps ck_X8_recode 1 (pc' := 141) (lv' := [(0, .ref 3), (1, .int y1), (2, .int y2), (3, .int y3), (4, .int z4)]) (st' := [.ref 3]) rfl ?_
        refine ms_getr (ci := 6) (k := 0) (v := 4) (am_fd ck_X8_recode (pc := 141) rfl) tw_190 kc_3 rfl (ly_3_0 hL) (kO og4) ?_
        refine ms_getr (ci := 1) (k := 2) (v := (4 + 3)) (am_fd ck_X8_recode (pc := 144) rfl) tw_43 (kO og4) rfl (lyO2 hL og4) (kWo og4) ?_
        refine am_steps ck_X8_recode 1 (pc' := 149) (lv' := [(0, .ref 3), (1, .int y1), (2, .int y2), (3, .int y3), (4, .int z4)]) (st' := [.int z4, .ref (4 + 3)]) rfl ?_
        obtain ⟨hb21, hm⟩ := am_gE hm
        refine ms_rald (n := 24) (v := (aW 4 (am_ix z4))) (am_fd ck_X8_recode (pc := 149) rfl) (kWo og4) hb21 (lyW hL og4 (am_ixl hb21)) (kW og4 (am_ixl hb21)) ?_
        refine am_steps ck_X8_recode 1 (pc' := 151) (lv' := [(0, .ref 3), (1, .int y1), (2, .int y2), (3, .int y3), (4, .int z4)]) (st' := [.int y1, .ref (aW 4 (am_ix z4))]) rfl ?_
        obtain ⟨hb22, hm⟩ := am_gE hm
        refine ms_iald (n := 64) (am_fd ck_X8_recode (pc := 151) rfl) (kW og4 (am_ixl hb21)) hb22 ?_
        refine am_ifc (tgt := 163) (am_fd ck_X8_recode (pc := 152) rfl) rfl (fun hc23 => ?_) (fun hc23 => ?_)
        · replace hm := am_it hm hc23
          refine am_steps ck_X8_recode 2 (pc' := 121) (lv' := [(4, .int (z4 + am_i 1)), (0, .ref 3), (1, .int y1), (2, .int y2), (3, .int y3)]) (st' := []) rfl ?_
          refine am_subp [1, 2, 3, 4, 0] rfl ?_
          exact ih _ _ hm K
        · replace hm := am_if hm hc23
          refine am_steps ck_X8_recode 4 (pc' := 160) (lv' := [(0, .ref 3), (1, .int y1), (2, .int y2), (3, .int y3), (4, .int z4)]) (st' := [.int y2, .int y1, .int z4, .ref 3]) rfl ?_
          obtain ⟨q24, hq24, hm⟩ := am_bE hm
          refine ms_callVv (M2 := mt_X8_recodeOwn) (d2 := 4) (ci := 6) [.int z4, .int y1, .int y2] (am_fd ck_X8_recode (pc := 160) rfl) ok_X8_recodeOwn tw_406 tw_408 ts_3 (by decide) kc_3 (Nat.le_of_ble_eq_true rfl) (Nat.le_of_ble_eq_true rfl) (x_X8_recodeOwn hL hq24) ?_
          refine am_steps ck_X8_recode 2 (pc' := 121) (lv' := [(4, .int (z4 + am_i 1)), (0, .ref 3), (1, .int y1), (2, .int y2), (3, .int y3)]) (st' := []) rfl ?_
          refine am_subp [1, 2, 3, 4, 0] rfl ?_
          exact ih _ _ hm K
set_option maxRecDepth 100000 in
set_option maxHeartbeats 4000000 in
theorem x_X8_recode {G : am_G} {m : am_m} {r : am_rr} {x1 : Int32} {x2 : Int32} {res : Int32 × am_m} (hL : am_Lay r) (hm : m_X8_recode m r x1 x2 = some res) : am_Met G mt_X8_recode 5 [.ref 3, .int x1, .int x2] (am_hh m r) (some (.int res.1)) (am_hh res.2 r) := by
  refine am_of (by decide) (Nat.le_of_ble_eq_true rfl) ?_
  unfold m_X8_recode at hm
  show am_W G mt_X8_recode 5 _ _ 0 [(0, .ref 3), (1, .int x1), (2, .int x2)] [] (am_hh m r)
  refine am_steps ck_X8_recode 1 (pc' := 1) (lv' := [(0, .ref 3), (1, .int x1), (2, .int x2)]) (st' := [.int x1]) rfl ?_
  obtain ⟨q1, hq1, hm⟩ := am_bE hm
  refine ms_callS (M2 := mt_X8_isCategory) (d2 := 1) [.int x1] (am_fd ck_X8_recode (pc := 1) rfl) ok_X8_isCategory tw_235 tw_236 (Nat.le_of_ble_eq_true rfl) (Nat.le_of_ble_eq_true rfl) (x_X8_isCategory hL hq1) ?_
  refine am_ifc (tgt := 19) (am_fd ck_X8_recode (pc := 4) rfl) rfl (fun hc2 => ?_) (fun hc2 => ?_)
  · replace hm := am_it hm hc2
    refine am_steps ck_X8_recode 1 (pc' := 20) (lv' := [(0, .ref 3), (1, .int x1), (2, .int x2)]) (st' := [.int (am_i (-1))]) rfl ?_
    cases hm
    exact am_end (am_fd ck_X8_recode (pc := 20) rfl) am_rI rfl rfl
  · replace hm := am_if hm hc2
    refine am_steps ck_X8_recode 1 (pc' := 8) (lv' := [(0, .ref 3), (1, .int x1), (2, .int x2)]) (st' := [.int x2]) rfl ?_
    obtain ⟨q3, hq3, hm⟩ := am_bE hm
    refine ms_callS (M2 := mt_X8_isCategory) (d2 := 1) [.int x2] (am_fd ck_X8_recode (pc := 8) rfl) ok_X8_isCategory tw_235 tw_236 (Nat.le_of_ble_eq_true rfl) (Nat.le_of_ble_eq_true rfl) (x_X8_isCategory hL hq3) ?_
    refine am_ifc (tgt := 19) (am_fd ck_X8_recode (pc := 11) rfl) rfl (fun hc4 => ?_) (fun hc4 => ?_)
    · replace hm := am_it hm hc4
      refine am_steps ck_X8_recode 1 (pc' := 20) (lv' := [(0, .ref 3), (1, .int x1), (2, .int x2)]) (st' := [.int (am_i (-1))]) rfl ?_
      cases hm
      exact am_end (am_fd ck_X8_recode (pc := 20) rfl) am_rI rfl rfl
    · replace hm := am_if hm hc4
      refine am_steps ck_X8_recode 2 (pc' := 16) (lv' := [(0, .ref 3), (1, .int x1), (2, .int x2)]) (st' := [.int x2, .int x1]) rfl ?_
      refine am_icmp (tgt := 21) (am_fd ck_X8_recode (pc := 16) rfl) rfl (fun hc5 => ?_) (fun hc5 => ?_)
      · replace hm := am_it hm hc5
        refine am_steps ck_X8_recode 4 (pc' := 26) (lv' := [(4, .int (am_i 0)), (3, .int (am_i 0)), (0, .ref 3), (1, .int x1), (2, .int x2)]) (st' := []) rfl ?_
        refine am_subp [2, 3, 4, 1, 0] rfl ?_
        refine x_X8_recode_26 hL am_F _ _ hm (fun u15 hm => ?_)
        refine am_steps ck_X8_recode 1 (pc' := 102) (lv' := [(0, .ref 3), (1, .int x1), (2, .int x2), (3, .int u15)]) (st' := [.int u15]) rfl ?_
        refine am_ifc (tgt := 107) (am_fd ck_X8_recode (pc := 102) rfl) rfl (fun hc16 => ?_) (fun hc16 => ?_)
        · replace hm := am_it hm hc16
          refine am_steps ck_X8_recode 1 (pc' := 108) (lv' := [(0, .ref 3), (1, .int x1), (2, .int x2), (3, .int u15)]) (st' := [.ref 3]) rfl ?_
          refine ms_getr (ci := 6) (k := 2) (v := 498) (am_fd ck_X8_recode (pc := 108) rfl) tw_192 kc_3 rfl (ly_3_2 hL) kc_498 ?_
          refine am_steps ck_X8_recode 1 (pc' := 112) (lv' := [(0, .ref 3), (1, .int x1), (2, .int x2), (3, .int u15)]) (st' := [.ref 3, .ref 498]) rfl ?_
          refine ms_getr (ci := 6) (k := 0) (v := 4) (am_fd ck_X8_recode (pc := 112) rfl) tw_190 kc_3 rfl (ly_3_0 hL) (kO og4) ?_
          obtain ⟨q17, hq17, hm⟩ := am_bE hm
          refine ms_callVv (M2 := mt_X2_keep) (d2 := 3) (ci := 2) [.ref 4] (am_fd ck_X8_recode (pc := 115) rfl) ok_X2_keep tw_238 tw_239 tw_240 (by decide) kc_498 (Nat.le_of_ble_eq_true rfl) (Nat.le_of_ble_eq_true rfl) (x_X2_keep hL og4 hq17) ?_
          refine am_steps ck_X8_recode 2 (pc' := 121) (lv' := [(4, .int (am_i 0)), (0, .ref 3), (1, .int x1), (2, .int x2), (3, .int u15)]) (st' := []) rfl ?_
          refine am_subp [1, 2, 3, 4, 0] rfl ?_
          refine x_X8_recode_121 hL am_F _ _ hm (fun m25 hm => ?_)
          refine am_steps ck_X8_recode 1 (pc' := 170) (lv' := [(0, .ref 3), (3, .int u15)]) (st' := [.ref 3]) rfl ?_
          refine ms_getr (ci := 6) (k := 3) (v := 2970) (am_fd ck_X8_recode (pc := 170) rfl) tw_193 kc_3 rfl (ly_3_3 hL) (kB bk2970).1 ?_
          refine am_steps ck_X8_recode 2 (pc' := 176) (lv' := [(0, .ref 3), (3, .int u15)]) (st' := [.int u15, .int (am_i 10), .ref 2970]) rfl ?_
          obtain ⟨q26, hq26, hm⟩ := am_bE hm
          refine ms_callVv (M2 := mt_X0_tally) (d2 := 1) (ci := 0) [.int (am_i 10), .int u15] (am_fd ck_X8_recode (pc := 176) rfl) ok_X0_tally tw_276 tw_277 tw_278 (by decide) (kB bk2970).1 (Nat.le_of_ble_eq_true rfl) (Nat.le_of_ble_eq_true rfl) (x_X0_tally hL bk2970 hq26) ?_
          refine am_steps ck_X8_recode 1 (pc' := 180) (lv' := [(0, .ref 3), (3, .int u15)]) (st' := [.int u15]) rfl ?_
          cases hm
          exact am_end (am_fd ck_X8_recode (pc := 180) rfl) am_rI rfl rfl
        · replace hm := am_if hm hc16
          refine am_steps ck_X8_recode 1 (pc' := 106) (lv' := [(0, .ref 3), (1, .int x1), (2, .int x2), (3, .int u15)]) (st' := [.int (am_i (-1))]) rfl ?_
          cases hm
          exact am_end (am_fd ck_X8_recode (pc := 106) rfl) am_rI rfl rfl
      · replace hm := am_if hm hc5
        refine am_steps ck_X8_recode 1 (pc' := 20) (lv' := [(0, .ref 3), (1, .int x1), (2, .int x2)]) (st' := [.int (am_i (-1))]) rfl ?_
        cases hm
        exact am_end (am_fd ck_X8_recode (pc := 20) rfl) am_rI rfl rfl
set_option maxRecDepth 100000 in
set_option maxHeartbeats 4000000 in
theorem x_X8_text {G : am_G} {m : am_m} {r : am_rr} {res : Int32 × am_m} (hL : am_Lay r) (hm : m_X8_text m r  = some res) : am_Met G mt_X8_text 7 [.ref 3] (am_hh m r) (some (.int res.1)) (am_hh res.2 r) := by
  refine am_of (by decide) (Nat.le_of_ble_eq_true rfl) ?_
  unfold m_X8_text at hm
  show am_W G mt_X8_text 7 _ _ 0 [(0, .ref 3)] [] (am_hh m r)
  refine am_steps ck_X8_text 1 (pc' := 1) (lv' := [(0, .ref 3)]) (st' := [.ref 3]) rfl ?_
  refine ms_getr (ci := 6) (k := 6) (v := 2984) (am_fd ck_X8_text (pc := 1) rfl) tw_196 kc_3 rfl (ly_3_6 hL) kc_2984 ?_
  refine am_steps ck_X8_text 1 (pc' := 5) (lv' := [(0, .ref 3)]) (st' := [.ref 3, .ref 2984]) rfl ?_
  refine ms_getr (ci := 6) (k := 1) (v := 251) (am_fd ck_X8_text (pc := 5) rfl) tw_191 kc_3 rfl (ly_3_1 hL) (kO og251) ?_
  obtain ⟨q1, hq1, hm⟩ := am_bE hm
  refine ms_callV (M2 := mt_X7_readInto) (d2 := 6) (ci := 5) [.ref 251] (am_fd ck_X8_text (pc := 8) rfl) ok_X7_readInto tw_414 tw_415 tw_416 (by decide) kc_2984 (Nat.le_of_ble_eq_true rfl) (Nat.le_of_ble_eq_true rfl) (x_X7_readInto hL og251 hq1) ?_
  refine am_steps ck_X8_text 3 (pc' := 14) (lv' := [(1, .int q1.1), (0, .ref 3)]) (st' := [.int (am_i (-1)), .int q1.1]) rfl ?_
  refine am_icmp (tgt := 19) (am_fd ck_X8_text (pc := 14) rfl) rfl (fun hc2 => ?_) (fun hc2 => ?_)
  · replace hm := am_it hm hc2
    refine am_steps ck_X8_text 1 (pc' := 20) (lv' := [(1, .int q1.1), (0, .ref 3)]) (st' := [.ref 3]) rfl ?_
    refine ms_getr (ci := 6) (k := 2) (v := 498) (am_fd ck_X8_text (pc := 20) rfl) tw_192 kc_3 rfl (ly_3_2 hL) kc_498 ?_
    refine am_steps ck_X8_text 1 (pc' := 24) (lv' := [(1, .int q1.1), (0, .ref 3)]) (st' := [.ref 3, .ref 498]) rfl ?_
    refine ms_getr (ci := 6) (k := 0) (v := 4) (am_fd ck_X8_text (pc := 24) rfl) tw_190 kc_3 rfl (ly_3_0 hL) (kO og4) ?_
    obtain ⟨q3, hq3, hm⟩ := am_bE hm
    refine ms_callVv (M2 := mt_X2_keep) (d2 := 3) (ci := 2) [.ref 4] (am_fd ck_X8_text (pc := 27) rfl) ok_X2_keep tw_238 tw_239 tw_240 (by decide) kc_498 (Nat.le_of_ble_eq_true rfl) (Nat.le_of_ble_eq_true rfl) (x_X2_keep hL og4 hq3) ?_
    refine am_steps ck_X8_text 1 (pc' := 31) (lv' := [(1, .int q1.1), (0, .ref 3)]) (st' := [.ref 3]) rfl ?_
    refine ms_getr (ci := 6) (k := 0) (v := 4) (am_fd ck_X8_text (pc := 31) rfl) tw_190 kc_3 rfl (ly_3_0 hL) (kO og4) ?_
    refine am_steps ck_X8_text 1 (pc' := 35) (lv' := [(1, .int q1.1), (0, .ref 3)]) (st' := [.ref 3, .ref 4]) rfl ?_
    refine ms_getr (ci := 6) (k := 1) (v := 251) (am_fd ck_X8_text (pc := 35) rfl) tw_191 kc_3 rfl (ly_3_1 hL) (kO og251) ?_
    obtain ⟨q4, hq4, hm⟩ := am_bE hm
    refine ms_callVv (M2 := mt_X1_takeOver) (d2 := 2) (ci := 1) [.ref 251] (am_fd ck_X8_text (pc := 38) rfl) ok_X1_takeOver tw_483 tw_243 tw_244 (by decide) (kO og4) (Nat.le_of_ble_eq_true rfl) (Nat.le_of_ble_eq_true rfl) (x_X1_takeOver hL og4 og251 hq4) ?_
    refine am_steps ck_X8_text 1 (pc' := 42) (lv' := [(1, .int q1.1), (0, .ref 3)]) (st' := [.int q1.1]) rfl ?_
    cases hm
    exact am_end (am_fd ck_X8_text (pc := 42) rfl) am_rI rfl rfl
  · replace hm := am_if hm hc2
    refine am_steps ck_X8_text 1 (pc' := 18) (lv' := [(1, .int q1.1), (0, .ref 3)]) (st' := [.int (am_i (-1))]) rfl ?_
    cases hm
    exact am_end (am_fd ck_X8_text (pc := 18) rfl) am_rI rfl rfl
set_option maxRecDepth 100000 in
set_option maxHeartbeats 4000000 in
theorem x_X8_undo {G : am_G} {m : am_m} {r : am_rr} {res : Int32 × am_m} (hL : am_Lay r) (hm : m_X8_undo m r  = some res) : am_Met G mt_X8_undo 4 [.ref 3] (am_hh m r) (some (.int res.1)) (am_hh res.2 r) := by
  refine am_of (by decide) (Nat.le_of_ble_eq_true rfl) ?_
  unfold m_X8_undo at hm
  show am_W G mt_X8_undo 4 _ _ 0 [(0, .ref 3)] [] (am_hh m r)
  refine am_steps ck_X8_undo 1 (pc' := 1) (lv' := [(0, .ref 3)]) (st' := [.ref 3]) rfl ?_
  refine ms_getr (ci := 6) (k := 2) (v := 498) (am_fd ck_X8_undo (pc := 1) rfl) tw_192 kc_3 rfl (ly_3_2 hL) kc_498 ?_
  refine am_steps ck_X8_undo 1 (pc' := 5) (lv' := [(0, .ref 3)]) (st' := [.ref 3, .ref 498]) rfl ?_
  refine ms_getr (ci := 6) (k := 0) (v := 4) (am_fd ck_X8_undo (pc := 5) rfl) tw_190 kc_3 rfl (ly_3_0 hL) (kO og4) ?_
  obtain ⟨q1, hq1, hm⟩ := am_bE hm
  refine ms_callV (M2 := mt_X2_takeBack) (d2 := 3) (ci := 2) [.ref 4] (am_fd ck_X8_undo (pc := 8) rfl) ok_X2_takeBack tw_488 tw_489 tw_490 (by decide) kc_498 (Nat.le_of_ble_eq_true rfl) (Nat.le_of_ble_eq_true rfl) (x_X2_takeBack hL og4 hq1) ?_
  refine am_ifc (tgt := 16) (am_fd ck_X8_undo (pc := 11) rfl) rfl (fun hc2 => ?_) (fun hc2 => ?_)
  · replace hm := am_it hm hc2
    refine am_steps ck_X8_undo 1 (pc' := 17) (lv' := [(0, .ref 3)]) (st' := [.ref 3]) rfl ?_
    refine ms_getr (ci := 6) (k := 3) (v := 2970) (am_fd ck_X8_undo (pc := 17) rfl) tw_193 kc_3 rfl (ly_3_3 hL) (kB bk2970).1 ?_
    refine am_steps ck_X8_undo 2 (pc' := 23) (lv' := [(0, .ref 3)]) (st' := [.int (am_i 1), .int (am_i 9), .ref 2970]) rfl ?_
    obtain ⟨q3, hq3, hm⟩ := am_bE hm
    refine ms_callVv (M2 := mt_X0_tally) (d2 := 1) (ci := 0) [.int (am_i 9), .int (am_i 1)] (am_fd ck_X8_undo (pc := 23) rfl) ok_X0_tally tw_276 tw_277 tw_278 (by decide) (kB bk2970).1 (Nat.le_of_ble_eq_true rfl) (Nat.le_of_ble_eq_true rfl) (x_X0_tally hL bk2970 hq3) ?_
    refine am_steps ck_X8_undo 1 (pc' := 27) (lv' := [(0, .ref 3)]) (st' := [.ref 3]) rfl ?_
    refine ms_getr (ci := 6) (k := 2) (v := 498) (am_fd ck_X8_undo (pc := 27) rfl) tw_192 kc_3 rfl (ly_3_2 hL) kc_498 ?_
    refine ms_geti (ci := 2) (k := 2) (am_fd ck_X8_undo (pc := 30) rfl) tw_80 kc_498 rfl ?_
    cases hm
    exact am_end (am_fd ck_X8_undo (pc := 33) rfl) am_rI rfl rfl
  · replace hm := am_if hm hc2
    refine am_steps ck_X8_undo 1 (pc' := 15) (lv' := [(0, .ref 3)]) (st' := [.int (am_i (-1))]) rfl ?_
    cases hm
    exact am_end (am_fd ck_X8_undo (pc := 15) rfl) am_rI rfl rfl
set_option maxRecDepth 100000 in
set_option maxHeartbeats 4000000 in
theorem x_X8_limit {G : am_G} {m : am_m} {r : am_rr} {x1 : Int32} {x2 : Int32} {x3 : Int32} {x4 : Int32} {res : Int32 × am_m} (hL : am_Lay r) (hm : m_X8_limit m x1 x2 x3 x4 = some res) : am_Met G mt_X8_limit 3 [.ref 3, .int x1, .int x2, .int x3, .int x4] (am_hh m r) (some (.int res.1)) (am_hh res.2 r) := by
  refine am_of (by decide) (Nat.le_of_ble_eq_true rfl) ?_
  unfold m_X8_limit at hm
  show am_W G mt_X8_limit 3 _ _ 0 [(0, .ref 3), (1, .int x1), (2, .int x2), (3, .int x3), (4, .int x4)] [] (am_hh m r)
  refine am_steps ck_X8_limit 1 (pc' := 1) (lv' := [(0, .ref 3), (1, .int x1), (2, .int x2), (3, .int x3), (4, .int x4)]) (st' := [.int x1]) rfl ?_
  obtain ⟨q1, hq1, hm⟩ := am_bE hm
  refine ms_callS (M2 := mt_X8_isUnit) (d2 := 1) [.int x1] (am_fd ck_X8_limit (pc := 1) rfl) ok_X8_isUnit tw_265 tw_266 (Nat.le_of_ble_eq_true rfl) (Nat.le_of_ble_eq_true rfl) (x_X8_isUnit hL hq1) ?_
  refine am_ifc (tgt := 28) (am_fd ck_X8_limit (pc := 4) rfl) rfl (fun hc2 => ?_) (fun hc2 => ?_)
  · replace hm := am_it hm hc2
    refine am_steps ck_X8_limit 1 (pc' := 29) (lv' := [(0, .ref 3), (1, .int x1), (2, .int x2), (3, .int x3), (4, .int x4)]) (st' := [.int (am_i (-1))]) rfl ?_
    cases hm
    exact am_end (am_fd ck_X8_limit (pc := 29) rfl) am_rI rfl rfl
  · replace hm := am_if hm hc2
    refine am_steps ck_X8_limit 2 (pc' := 9) (lv' := [(0, .ref 3), (1, .int x1), (2, .int x2), (3, .int x3), (4, .int x4)]) (st' := [.int x3, .int x2]) rfl ?_
    obtain ⟨q3, hq3, hm⟩ := am_bE hm
    refine ms_callS (M2 := mt_X8_isSpan) (d2 := 1) [.int x2, .int x3] (am_fd ck_X8_limit (pc := 9) rfl) ok_X8_isSpan tw_351 tw_352 (Nat.le_of_ble_eq_true rfl) (Nat.le_of_ble_eq_true rfl) (x_X8_isSpan hL hq3) ?_
    refine am_ifc (tgt := 28) (am_fd ck_X8_limit (pc := 12) rfl) rfl (fun hc4 => ?_) (fun hc4 => ?_)
    · replace hm := am_it hm hc4
      refine am_steps ck_X8_limit 1 (pc' := 29) (lv' := [(0, .ref 3), (1, .int x1), (2, .int x2), (3, .int x3), (4, .int x4)]) (st' := [.int (am_i (-1))]) rfl ?_
      cases hm
      exact am_end (am_fd ck_X8_limit (pc := 29) rfl) am_rI rfl rfl
    · replace hm := am_if hm hc4
      refine am_steps ck_X8_limit 2 (pc' := 18) (lv' := [(0, .ref 3), (1, .int x1), (2, .int x2), (3, .int x3), (4, .int x4)]) (st' := [.int (am_i (-1)), .int x4]) rfl ?_
      refine am_icmp (tgt := 28) (am_fd ck_X8_limit (pc := 18) rfl) rfl (fun hc5 => ?_) (fun hc5 => ?_)
      · replace hm := am_it hm hc5
        refine am_steps ck_X8_limit 1 (pc' := 29) (lv' := [(0, .ref 3), (1, .int x1), (2, .int x2), (3, .int x3), (4, .int x4)]) (st' := [.int (am_i (-1))]) rfl ?_
        cases hm
        exact am_end (am_fd ck_X8_limit (pc := 29) rfl) am_rI rfl rfl
      · replace hm := am_if hm hc5
        refine am_steps ck_X8_limit 1 (pc' := 23) (lv' := [(0, .ref 3), (1, .int x1), (2, .int x2), (3, .int x3), (4, .int x4)]) (st' := [.int x4]) rfl ?_
        refine am_ldc (am_fd ck_X8_limit (pc := 23) rfl) tw_496 ?_
        refine am_icmp (tgt := 30) (am_fd ck_X8_limit (pc := 25) rfl) rfl (fun hc6 => ?_) (fun hc6 => ?_)
        · replace hm := am_it hm hc6
          refine am_steps ck_X8_limit 2 (pc' := 33) (lv' := [(0, .ref 3), (1, .int x1), (2, .int x2), (3, .int x3), (4, .int x4)]) (st' := [.int (am_i (-1)), .int x4]) rfl ?_
          refine am_icmp (tgt := 49) (am_fd ck_X8_limit (pc := 33) rfl) rfl (fun hc7 => ?_) (fun hc7 => ?_)
          · replace hm := am_it hm hc7
            refine am_steps ck_X8_limit 1 (pc' := 50) (lv' := [(0, .ref 3), (1, .int x1), (2, .int x2), (3, .int x3), (4, .int x4)]) (st' := [.ref 3]) rfl ?_
            refine ms_getr (ci := 6) (k := 3) (v := 2970) (am_fd ck_X8_limit (pc := 50) rfl) tw_193 kc_3 rfl (ly_3_3 hL) (kB bk2970).1 ?_
            refine am_steps ck_X8_limit 4 (pc' := 58) (lv' := [(0, .ref 3), (1, .int x1), (2, .int x2), (3, .int x3), (4, .int x4)]) (st' := [.int x4, .int x3, .int x2, .int x1, .ref 2970]) rfl ?_
            obtain ⟨q8, hq8, hm⟩ := am_bE hm
            refine ms_callV (M2 := mt_X0_tellLimit) (d2 := 2) (ci := 0) [.int x1, .int x2, .int x3, .int x4] (am_fd ck_X8_limit (pc := 58) rfl) ok_X0_tellLimit tw_505 tw_506 tw_507 (by decide) (kB bk2970).1 (Nat.le_of_ble_eq_true rfl) (Nat.le_of_ble_eq_true rfl) (x_X0_tellLimit hL bk2970 hq8) ?_
            refine am_steps ck_X8_limit 2 (pc' := 65) (lv' := [(5, .int q8.1), (0, .ref 3), (1, .int x1), (2, .int x2), (3, .int x3), (4, .int x4)]) (st' := [.int q8.1]) rfl ?_
            refine am_ifc (tgt := 78) (am_fd ck_X8_limit (pc := 65) rfl) rfl (fun hc9 => ?_) (fun hc9 => ?_)
            · replace hm := am_it hm hc9
              refine am_steps ck_X8_limit 1 (pc' := 79) (lv' := [(5, .int q8.1), (0, .ref 3), (1, .int x1), (2, .int x2), (3, .int x3), (4, .int x4)]) (st' := [.int (am_i (-1))]) rfl ?_
              cases hm
              exact am_end (am_fd ck_X8_limit (pc := 79) rfl) am_rI rfl rfl
            · replace hm := am_if hm hc9
              refine am_steps ck_X8_limit 1 (pc' := 69) (lv' := [(5, .int q8.1), (0, .ref 3), (1, .int x1), (2, .int x2), (3, .int x3), (4, .int x4)]) (st' := [.ref 3]) rfl ?_
              refine ms_getr (ci := 6) (k := 3) (v := 2970) (am_fd ck_X8_limit (pc := 69) rfl) tw_193 kc_3 rfl (ly_3_3 hL) (kB bk2970).1 ?_
              refine ms_geti (ci := 0) (k := 5) (am_fd ck_X8_limit (pc := 72) rfl) tw_105 (kB bk2970).1 rfl ?_
              refine am_steps ck_X8_limit 1 (pc' := 79) (lv' := [(5, .int q8.1), (0, .ref 3), (1, .int x1), (2, .int x2), (3, .int x3), (4, .int x4)]) (st' := [.int (q8.2 2970 5)]) rfl ?_
              cases hm
              exact am_end (am_fd ck_X8_limit (pc := 79) rfl) am_rI rfl rfl
          · replace hm := am_if hm hc7
            refine am_steps ck_X8_limit 1 (pc' := 37) (lv' := [(0, .ref 3), (1, .int x1), (2, .int x2), (3, .int x3), (4, .int x4)]) (st' := [.ref 3]) rfl ?_
            refine ms_getr (ci := 6) (k := 3) (v := 2970) (am_fd ck_X8_limit (pc := 37) rfl) tw_193 kc_3 rfl (ly_3_3 hL) (kB bk2970).1 ?_
            refine am_steps ck_X8_limit 3 (pc' := 43) (lv' := [(0, .ref 3), (1, .int x1), (2, .int x2), (3, .int x3), (4, .int x4)]) (st' := [.int x3, .int x2, .int x1, .ref 2970]) rfl ?_
            obtain ⟨q10, hq10, hm⟩ := am_bE hm
            refine ms_callV (M2 := mt_X0_dropLimit) (d2 := 2) (ci := 0) [.int x1, .int x2, .int x3] (am_fd ck_X8_limit (pc := 43) rfl) ok_X0_dropLimit tw_497 tw_498 tw_499 (by decide) (kB bk2970).1 (Nat.le_of_ble_eq_true rfl) (Nat.le_of_ble_eq_true rfl) (x_X0_dropLimit hL bk2970 hq10) ?_
            refine am_steps ck_X8_limit 3 (pc' := 65) (lv' := [(5, .int q10.1), (0, .ref 3), (1, .int x1), (2, .int x2), (3, .int x3), (4, .int x4)]) (st' := [.int q10.1]) rfl ?_
            refine am_ifc (tgt := 78) (am_fd ck_X8_limit (pc := 65) rfl) rfl (fun hc11 => ?_) (fun hc11 => ?_)
            · replace hm := am_it hm hc11
              refine am_steps ck_X8_limit 1 (pc' := 79) (lv' := [(5, .int q10.1), (0, .ref 3), (1, .int x1), (2, .int x2), (3, .int x3), (4, .int x4)]) (st' := [.int (am_i (-1))]) rfl ?_
              cases hm
              exact am_end (am_fd ck_X8_limit (pc := 79) rfl) am_rI rfl rfl
            · replace hm := am_if hm hc11
              refine am_steps ck_X8_limit 1 (pc' := 69) (lv' := [(5, .int q10.1), (0, .ref 3), (1, .int x1), (2, .int x2), (3, .int x3), (4, .int x4)]) (st' := [.ref 3]) rfl ?_
              refine ms_getr (ci := 6) (k := 3) (v := 2970) (am_fd ck_X8_limit (pc := 69) rfl) tw_193 kc_3 rfl (ly_3_3 hL) (kB bk2970).1 ?_
              refine ms_geti (ci := 0) (k := 5) (am_fd ck_X8_limit (pc := 72) rfl) tw_105 (kB bk2970).1 rfl ?_
              refine am_steps ck_X8_limit 1 (pc' := 79) (lv' := [(5, .int q10.1), (0, .ref 3), (1, .int x1), (2, .int x2), (3, .int x3), (4, .int x4)]) (st' := [.int (q10.2 2970 5)]) rfl ?_
              cases hm
              exact am_end (am_fd ck_X8_limit (pc := 79) rfl) am_rI rfl rfl
        · replace hm := am_if hm hc6
          refine am_steps ck_X8_limit 1 (pc' := 29) (lv' := [(0, .ref 3), (1, .int x1), (2, .int x2), (3, .int x3), (4, .int x4)]) (st' := [.int (am_i (-1))]) rfl ?_
          cases hm
          exact am_end (am_fd ck_X8_limit (pc := 29) rfl) am_rI rfl rfl
set_option maxRecDepth 100000 in
set_option maxHeartbeats 4000000 in
theorem x_X8_excessOver {G : am_G} {m : am_m} {r : am_rr} {x1 : Int32} {res : Int32} (hL : am_Lay r) (hm : m_X8_excessOver m x1 = some res) : am_Met G mt_X8_excessOver 2 [.ref 3, .int x1] (am_hh m r) (some (.int res)) (am_hh m r) := by
  refine am_of (by decide) (Nat.le_of_ble_eq_true rfl) ?_
  unfold m_X8_excessOver at hm
  show am_W G mt_X8_excessOver 2 _ _ 0 [(0, .ref 3), (1, .int x1)] [] (am_hh m r)
  refine am_steps ck_X8_excessOver 1 (pc' := 1) (lv' := [(0, .ref 3), (1, .int x1)]) (st' := [.ref 3]) rfl ?_
  refine ms_getr (ci := 6) (k := 3) (v := 2970) (am_fd ck_X8_excessOver (pc := 1) rfl) tw_193 kc_3 rfl (ly_3_3 hL) (kB bk2970).1 ?_
  refine ms_getr (ci := 0) (k := 1) (v := (aB 2970 1)) (am_fd ck_X8_excessOver (pc := 4) rfl) tw_97 (kB bk2970).1 rfl (hL.2.2.2.1 _ bk2970 1 (by decide)) ((kB bk2970).2.2 1 (by decide) (by decide)) ?_
  refine am_steps ck_X8_excessOver 1 (pc' := 8) (lv' := [(0, .ref 3), (1, .int x1)]) (st' := [.int x1, .ref (aB 2970 1)]) rfl ?_
  obtain ⟨hb1, hm⟩ := am_gE hm
  refine ms_iald (n := 12) (am_fd ck_X8_excessOver (pc := 8) rfl) ((kB bk2970).2.2 1 (by decide) (by decide)) hb1 ?_
  refine am_steps ck_X8_excessOver 2 (pc' := 11) (lv' := [(2, .int (m (aB 2970 1) (am_ix x1))), (0, .ref 3), (1, .int x1)]) (st' := [.ref 3]) rfl ?_
  refine ms_getr (ci := 6) (k := 0) (v := 4) (am_fd ck_X8_excessOver (pc := 11) rfl) tw_190 kc_3 rfl (ly_3_0 hL) (kO og4) ?_
  refine am_steps ck_X8_excessOver 1 (pc' := 15) (lv' := [(2, .int (m (aB 2970 1) (am_ix x1))), (0, .ref 3), (1, .int x1)]) (st' := [.int (m (aB 2970 1) (am_ix x1)), .ref 4]) rfl ?_
  obtain ⟨q2, hq2, hm⟩ := am_bE hm
  refine ms_callV (M2 := mt_X1_isThere) (d2 := 1) (ci := 1) [.int (m (aB 2970 1) (am_ix x1))] (am_fd ck_X8_excessOver (pc := 15) rfl) ok_X1_isThere tw_231 tw_232 tw_233 (by decide) (kO og4) (Nat.le_of_ble_eq_true rfl) (Nat.le_of_ble_eq_true rfl) (x_X1_isThere hL og4 hq2) ?_
  refine am_ifc (tgt := 23) (am_fd ck_X8_excessOver (pc := 18) rfl) rfl (fun hc3 => ?_) (fun hc3 => ?_)
  · replace hm := am_it hm hc3
    refine am_steps ck_X8_excessOver 1 (pc' := 24) (lv' := [(2, .int (m (aB 2970 1) (am_ix x1))), (0, .ref 3), (1, .int x1)]) (st' := [.ref 3]) rfl ?_
    refine ms_getr (ci := 6) (k := 0) (v := 4) (am_fd ck_X8_excessOver (pc := 24) rfl) tw_190 kc_3 rfl (ly_3_0 hL) (kO og4) ?_
    refine ms_getr (ci := 1) (k := 3) (v := (4 + 28)) (am_fd ck_X8_excessOver (pc := 27) rfl) tw_48 (kO og4) rfl (lyO3 hL og4) (kXo og4) ?_
    refine am_steps ck_X8_excessOver 1 (pc' := 31) (lv' := [(2, .int (m (aB 2970 1) (am_ix x1))), (0, .ref 3), (1, .int x1)]) (st' := [.int (m (aB 2970 1) (am_ix x1)), .ref (4 + 28)]) rfl ?_
    obtain ⟨hb4, hm⟩ := am_gE hm
    refine ms_rald (n := 24) (v := (aX 4 (am_ix (m (aB 2970 1) (am_ix x1))))) (am_fd ck_X8_excessOver (pc := 31) rfl) (kXo og4) hb4 (lyX hL og4 (am_ixl hb4)) (kX og4 (am_ixl hb4)) ?_
    refine am_steps ck_X8_excessOver 1 (pc' := 33) (lv' := [(2, .int (m (aB 2970 1) (am_ix x1))), (0, .ref 3), (1, .int x1)]) (st' := [.ref 3, .ref (aX 4 (am_ix (m (aB 2970 1) (am_ix x1))))]) rfl ?_
    refine ms_getr (ci := 6) (k := 3) (v := 2970) (am_fd ck_X8_excessOver (pc := 33) rfl) tw_193 kc_3 rfl (ly_3_3 hL) (kB bk2970).1 ?_
    refine ms_getr (ci := 0) (k := 2) (v := (aB 2970 2)) (am_fd ck_X8_excessOver (pc := 36) rfl) tw_99 (kB bk2970).1 rfl (hL.2.2.2.1 _ bk2970 2 (by decide)) ((kB bk2970).2.2 2 (by decide) (by decide)) ?_
    refine am_steps ck_X8_excessOver 1 (pc' := 40) (lv' := [(2, .int (m (aB 2970 1) (am_ix x1))), (0, .ref 3), (1, .int x1)]) (st' := [.int x1, .ref (aB 2970 2), .ref (aX 4 (am_ix (m (aB 2970 1) (am_ix x1))))]) rfl ?_
    obtain ⟨hb5, hm⟩ := am_gE hm
    refine ms_iald (n := 12) (am_fd ck_X8_excessOver (pc := 40) rfl) ((kB bk2970).2.2 2 (by decide) (by decide)) hb5 ?_
    refine am_steps ck_X8_excessOver 1 (pc' := 42) (lv' := [(2, .int (m (aB 2970 1) (am_ix x1))), (0, .ref 3), (1, .int x1)]) (st' := [.ref 3, .int (m (aB 2970 2) (am_ix x1)), .ref (aX 4 (am_ix (m (aB 2970 1) (am_ix x1))))]) rfl ?_
    refine ms_getr (ci := 6) (k := 3) (v := 2970) (am_fd ck_X8_excessOver (pc := 42) rfl) tw_193 kc_3 rfl (ly_3_3 hL) (kB bk2970).1 ?_
    refine ms_getr (ci := 0) (k := 3) (v := (aB 2970 3)) (am_fd ck_X8_excessOver (pc := 45) rfl) tw_101 (kB bk2970).1 rfl (hL.2.2.2.1 _ bk2970 3 (by decide)) ((kB bk2970).2.2 3 (by decide) (by decide)) ?_
    refine am_steps ck_X8_excessOver 1 (pc' := 49) (lv' := [(2, .int (m (aB 2970 1) (am_ix x1))), (0, .ref 3), (1, .int x1)]) (st' := [.int x1, .ref (aB 2970 3), .int (m (aB 2970 2) (am_ix x1)), .ref (aX 4 (am_ix (m (aB 2970 1) (am_ix x1))))]) rfl ?_
    obtain ⟨hb6, hm⟩ := am_gE hm
    refine ms_iald (n := 12) (am_fd ck_X8_excessOver (pc := 49) rfl) ((kB bk2970).2.2 3 (by decide) (by decide)) hb6 ?_
    obtain ⟨q7, hq7, hm⟩ := am_bE hm
    refine ms_callS (M2 := mt_X5_totalOf) (d2 := 1) [.ref (aX 4 (am_ix (m (aB 2970 1) (am_ix x1)))), .int (m (aB 2970 2) (am_ix x1)), .int (m (aB 2970 3) (am_ix x1))] (am_fd ck_X8_excessOver (pc := 50) rfl) ok_X5_totalOf tw_521 tw_522 (Nat.le_of_ble_eq_true rfl) (Nat.le_of_ble_eq_true rfl) (x_X5_totalOf hL (kX og4 (am_ixl hb4)) hq7) ?_
    refine am_steps ck_X8_excessOver 1 (pc' := 54) (lv' := [(2, .int (m (aB 2970 1) (am_ix x1))), (0, .ref 3), (1, .int x1)]) (st' := [.ref 3, .int q7]) rfl ?_
    refine ms_getr (ci := 6) (k := 3) (v := 2970) (am_fd ck_X8_excessOver (pc := 54) rfl) tw_193 kc_3 rfl (ly_3_3 hL) (kB bk2970).1 ?_
    refine ms_getr (ci := 0) (k := 4) (v := (aB 2970 4)) (am_fd ck_X8_excessOver (pc := 57) rfl) tw_103 (kB bk2970).1 rfl (hL.2.2.2.1 _ bk2970 4 (by decide)) ((kB bk2970).2.2 4 (by decide) (by decide)) ?_
    refine am_steps ck_X8_excessOver 1 (pc' := 61) (lv' := [(2, .int (m (aB 2970 1) (am_ix x1))), (0, .ref 3), (1, .int x1)]) (st' := [.int x1, .ref (aB 2970 4), .int q7]) rfl ?_
    obtain ⟨hb8, hm⟩ := am_gE hm
    refine ms_iald (n := 12) (am_fd ck_X8_excessOver (pc := 61) rfl) ((kB bk2970).2.2 4 (by decide) (by decide)) hb8 ?_
    refine am_steps ck_X8_excessOver 1 (pc' := 63) (lv' := [(2, .int (m (aB 2970 1) (am_ix x1))), (0, .ref 3), (1, .int x1)]) (st' := [.int (q7 - (m (aB 2970 4) (am_ix x1)))]) rfl ?_
    cases hm
    exact am_end (am_fd ck_X8_excessOver (pc := 63) rfl) am_rI rfl rfl
  · replace hm := am_if hm hc3
    refine am_steps ck_X8_excessOver 1 (pc' := 22) (lv' := [(2, .int (m (aB 2970 1) (am_ix x1))), (0, .ref 3), (1, .int x1)]) (st' := [.int (am_i 0)]) rfl ?_
    cases hm
    exact am_end (am_fd ck_X8_excessOver (pc := 22) rfl) am_rI rfl rfl
set_option maxRecDepth 100000 in
set_option maxHeartbeats 4000000 in
theorem x_X8_brokenCount_4 {G : am_G} {m : am_m} {r : am_rr} {res : Int32} {k : Int32 → Option (Int32)} (hL : am_Lay r) : ∀ (n : Nat) (z1 : Int32) (z2 : Int32), m_X8_brokenCount_4 m k n z1 z2 = some res → (∀ (u1 : Int32), k u1 = some res → am_W G mt_X8_brokenCount 3 (some (.int res)) (am_hh m r) 38 [(1, .int u1)] [] (am_hh m r)) → am_W G mt_X8_brokenCount 3 (some (.int res)) (am_hh m r) 4 [(0, .ref 3), (1, .int z1), (2, .int z2)] [] (am_hh m r) := by
  intro n
  induction n with
  | zero => intro z1 z2 hm K; cases hm
  | succ n ih =>
    intro z1 z2 hm K
    unfold m_X8_brokenCount_4 at hm
    refine am_steps ck_X8_brokenCount 2 (pc' := 6) (lv' := [(0, .ref 3), (1, .int z1), (2, .int z2)]) (st' := [.ref 3, .int z2]) rfl ?_
    refine ms_getr (ci := 6) (k := 3) (v := 2970) (am_fd ck_X8_brokenCount (pc := 6) rfl) tw_193 kc_3 rfl (ly_3_3 hL) (kB bk2970).1 ?_
    refine ms_geti (ci := 0) (k := 5) (am_fd ck_X8_brokenCount (pc := 9) rfl) tw_105 (kB bk2970).1 rfl ?_
    refine am_icmp (tgt := 38) (am_fd ck_X8_brokenCount (pc := 12) rfl) rfl (fun hc1 => ?_) (fun hc1 => ?_)
    · replace hm := am_it hm hc1
      refine am_subp [1] rfl ?_
      exact K _ hm
    · replace hm := am_if hm hc1
      refine am_steps ck_X8_brokenCount 2 (pc' := 18) (lv' := [(0, .ref 3), (1, .int z1), (2, .int z2)]) (st' := [.int (am_i 12), .int z2]) rfl ?_
      refine am_icmp (tgt := 38) (am_fd ck_X8_brokenCount (pc := 18) rfl) rfl (fun hc2 => ?_) (fun hc2 => ?_)
      · replace hm := am_it hm hc2
        refine am_subp [1] rfl ?_
        exact K _ hm
      · replace hm := am_if hm hc2
        refine am_steps ck_X8_brokenCount 2 (pc' := 23) (lv' := [(0, .ref 3), (1, .int z1), (2, .int z2)]) (st' := [.int z2, .ref 3]) rfl ?_
        obtain ⟨q3, hq3, hm⟩ := am_bE hm
        refine ms_callV (M2 := mt_X8_excessOver) (d2 := 2) (ci := 6) [.int z2] (am_fd ck_X8_brokenCount (pc := 23) rfl) ok_X8_excessOver tw_517 tw_519 ts_16 (by decide) kc_3 (Nat.le_of_ble_eq_true rfl) (Nat.le_of_ble_eq_true rfl) (x_X8_excessOver hL hq3) ?_
        refine am_ifc (tgt := 32) (am_fd ck_X8_brokenCount (pc := 26) rfl) rfl (fun hc4 => ?_) (fun hc4 => ?_)
        · replace hm := am_it hm hc4
          refine am_steps ck_X8_brokenCount 2 (pc' := 4) (lv' := [(2, .int (z2 + am_i 1)), (0, .ref 3), (1, .int z1)]) (st' := []) rfl ?_
          refine am_subp [1, 2, 0] rfl ?_
          exact ih _ _ hm K
        · replace hm := am_if hm hc4
          refine am_steps ck_X8_brokenCount 3 (pc' := 4) (lv' := [(2, .int (z2 + am_i 1)), (1, .int (z1 + am_i 1)), (0, .ref 3)]) (st' := []) rfl ?_
          refine am_subp [2, 1, 0] rfl ?_
          exact ih _ _ hm K
set_option maxRecDepth 100000 in
set_option maxHeartbeats 4000000 in
theorem x_X8_brokenCount {G : am_G} {m : am_m} {r : am_rr} {res : Int32} (hL : am_Lay r) (hm : m_X8_brokenCount m  = some res) : am_Met G mt_X8_brokenCount 3 [.ref 3] (am_hh m r) (some (.int res)) (am_hh m r) := by
  refine am_of (by decide) (Nat.le_of_ble_eq_true rfl) ?_
  unfold m_X8_brokenCount at hm
  show am_W G mt_X8_brokenCount 3 _ _ 0 [(0, .ref 3)] [] (am_hh m r)
  refine am_steps ck_X8_brokenCount 4 (pc' := 4) (lv' := [(2, .int (am_i 0)), (1, .int (am_i 0)), (0, .ref 3)]) (st' := []) rfl ?_
  refine am_subp [2, 1, 0] rfl ?_
  refine x_X8_brokenCount_4 hL am_F _ _ hm (fun u5 hm => ?_)
  refine am_steps ck_X8_brokenCount 1 (pc' := 39) (lv' := [(1, .int u5)]) (st' := [.int u5]) rfl ?_
  cases hm
  exact am_end (am_fd ck_X8_brokenCount (pc := 39) rfl) am_rI rfl rfl
set_option maxRecDepth 100000 in
set_option maxHeartbeats 4000000 in
theorem x_X8_broken_30 {G : am_G} {x1 : Int32} {x2 : Int32} {m : am_m} {r : am_rr} {y1 : Int32} {y2 : Int32} {res : Int32} {k : Option (Int32)} (hL : am_Lay r) : ∀ (n : Nat) (z3 : Int32) (z4 : Int32), m_X8_broken_30 x1 x2 m y1 y2 k n z3 z4 = some res → (k = some res → am_W G mt_X8_broken 4 (some (.int res)) (am_hh m r) 99 [] [] (am_hh m r)) → am_W G mt_X8_broken 4 (some (.int res)) (am_hh m r) 30 [(0, .ref 3), (1, .int y1), (2, .int y2), (3, .int z3), (4, .int z4)] [] (am_hh m r) := by
  intro n
  induction n with
  | zero => intro z3 z4 hm K; cases hm
  | succ n ih =>
    intro z3 z4 hm K
    unfold m_X8_broken_30 at hm
    refine am_steps ck_X8_broken 2 (pc' := 33) (lv' := [(0, .ref 3), (1, .int y1), (2, .int y2), (3, .int z3), (4, .int z4)]) (st' := [.ref 3, .int z4]) rfl ?_
    refine ms_getr (ci := 6) (k := 3) (v := 2970) (am_fd ck_X8_broken (pc := 33) rfl) tw_193 kc_3 rfl (ly_3_3 hL) (kB bk2970).1 ?_
    refine ms_geti (ci := 0) (k := 5) (am_fd ck_X8_broken (pc := 36) rfl) tw_105 (kB bk2970).1 rfl ?_
    refine am_icmp (tgt := 99) (am_fd ck_X8_broken (pc := 39) rfl) rfl (fun hc5 => ?_) (fun hc5 => ?_)
    · replace hm := am_it hm hc5
      refine am_subp [] rfl ?_
      exact K hm
    · replace hm := am_if hm hc5
      refine am_steps ck_X8_broken 2 (pc' := 46) (lv' := [(0, .ref 3), (1, .int y1), (2, .int y2), (3, .int z3), (4, .int z4)]) (st' := [.int (am_i 12), .int z4]) rfl ?_
      refine am_icmp (tgt := 99) (am_fd ck_X8_broken (pc := 46) rfl) rfl (fun hc6 => ?_) (fun hc6 => ?_)
      · replace hm := am_it hm hc6
        refine am_subp [] rfl ?_
        exact K hm
      · replace hm := am_if hm hc6
        refine am_steps ck_X8_broken 2 (pc' := 52) (lv' := [(0, .ref 3), (1, .int y1), (2, .int y2), (3, .int z3), (4, .int z4)]) (st' := [.int z4, .ref 3]) rfl ?_
        obtain ⟨q7, hq7, hm⟩ := am_bE hm
        refine ms_callV (M2 := mt_X8_excessOver) (d2 := 2) (ci := 6) [.int z4] (am_fd ck_X8_broken (pc := 52) rfl) ok_X8_excessOver tw_517 tw_519 ts_16 (by decide) kc_3 (Nat.le_of_ble_eq_true rfl) (Nat.le_of_ble_eq_true rfl) (x_X8_excessOver hL hq7) ?_
        refine am_steps ck_X8_broken 2 (pc' := 59) (lv' := [(5, .int q7), (0, .ref 3), (1, .int y1), (2, .int y2), (3, .int z3), (4, .int z4)]) (st' := [.int q7]) rfl ?_
        refine am_ifc (tgt := 65) (am_fd ck_X8_broken (pc := 59) rfl) rfl (fun hc8 => ?_) (fun hc8 => ?_)
        · replace hm := am_it hm hc8
          refine am_steps ck_X8_broken 2 (pc' := 67) (lv' := [(5, .int q7), (0, .ref 3), (1, .int y1), (2, .int y2), (3, .int z3), (4, .int z4)]) (st' := [.int y1, .int z3]) rfl ?_
          refine am_icmp (tgt := 90) (am_fd ck_X8_broken (pc := 67) rfl) rfl (fun hc9 => ?_) (fun hc9 => ?_)
          · replace hm := am_it hm hc9
            refine am_steps ck_X8_broken 3 (pc' := 30) (lv' := [(4, .int (z4 + am_i 1)), (3, .int (z3 + am_i 1)), (5, .int q7), (0, .ref 3), (1, .int y1), (2, .int y2)]) (st' := []) rfl ?_
            refine am_subp [3, 4, 5, 1, 0] rfl ?_
            exact ih _ _ hm K
          · replace hm := am_if hm hc9
            refine am_steps ck_X8_broken 1 (pc' := 71) (lv' := [(5, .int q7), (0, .ref 3), (1, .int y1), (2, .int y2), (3, .int z3), (4, .int z4)]) (st' := [.int y2]) rfl ?_
            refine am_ifc (tgt := 87) (am_fd ck_X8_broken (pc := 71) rfl) rfl (fun hc10 => ?_) (fun hc10 => ?_)
            · replace hm := am_it hm hc10
              refine am_steps ck_X8_broken 1 (pc' := 89) (lv' := [(5, .int q7), (0, .ref 3), (1, .int y1), (2, .int y2), (3, .int z3), (4, .int z4)]) (st' := [.int q7]) rfl ?_
              cases hm
              exact am_end (am_fd ck_X8_broken (pc := 89) rfl) am_rI rfl rfl
            · replace hm := am_if hm hc10
              refine am_steps ck_X8_broken 1 (pc' := 75) (lv' := [(5, .int q7), (0, .ref 3), (1, .int y1), (2, .int y2), (3, .int z3), (4, .int z4)]) (st' := [.ref 3]) rfl ?_
              refine ms_getr (ci := 6) (k := 3) (v := 2970) (am_fd ck_X8_broken (pc := 75) rfl) tw_193 kc_3 rfl (ly_3_3 hL) (kB bk2970).1 ?_
              refine ms_getr (ci := 0) (k := 1) (v := (aB 2970 1)) (am_fd ck_X8_broken (pc := 78) rfl) tw_97 (kB bk2970).1 rfl (hL.2.2.2.1 _ bk2970 1 (by decide)) ((kB bk2970).2.2 1 (by decide) (by decide)) ?_
              refine am_steps ck_X8_broken 1 (pc' := 83) (lv' := [(5, .int q7), (0, .ref 3), (1, .int y1), (2, .int y2), (3, .int z3), (4, .int z4)]) (st' := [.int z4, .ref (aB 2970 1)]) rfl ?_
              obtain ⟨hb11, hm⟩ := am_gE hm
              refine ms_iald (n := 12) (am_fd ck_X8_broken (pc := 83) rfl) ((kB bk2970).2.2 1 (by decide) (by decide)) hb11 ?_
              refine am_steps ck_X8_broken 1 (pc' := 89) (lv' := [(5, .int q7), (0, .ref 3), (1, .int y1), (2, .int y2), (3, .int z3), (4, .int z4)]) (st' := [.int (m (aB 2970 1) (am_ix z4))]) rfl ?_
              cases hm
              exact am_end (am_fd ck_X8_broken (pc := 89) rfl) am_rI rfl rfl
        · replace hm := am_if hm hc8
          refine am_steps ck_X8_broken 3 (pc' := 30) (lv' := [(4, .int (z4 + am_i 1)), (5, .int q7), (0, .ref 3), (1, .int y1), (2, .int y2), (3, .int z3)]) (st' := []) rfl ?_
          refine am_subp [2, 3, 4, 5, 0] rfl ?_
          exact ih _ _ hm K
set_option maxRecDepth 100000 in
set_option maxHeartbeats 4000000 in
theorem x_X8_broken {G : am_G} {m : am_m} {r : am_rr} {x1 : Int32} {x2 : Int32} {res : Int32} (hL : am_Lay r) (hm : m_X8_broken m x1 x2 = some res) : am_Met G mt_X8_broken 4 [.ref 3, .int x1, .int x2] (am_hh m r) (some (.int res)) (am_hh m r) := by
  refine am_of (by decide) (Nat.le_of_ble_eq_true rfl) ?_
  unfold m_X8_broken at hm
  show am_W G mt_X8_broken 4 _ _ 0 [(0, .ref 3), (1, .int x1), (2, .int x2)] [] (am_hh m r)
  refine am_steps ck_X8_broken 2 (pc' := 2) (lv' := [(0, .ref 3), (1, .int x1), (2, .int x2)]) (st' := [.int (am_i (-1)), .int x1]) rfl ?_
  refine am_icmp (tgt := 10) (am_fd ck_X8_broken (pc := 2) rfl) rfl (fun hc1 => ?_) (fun hc1 => ?_)
  · replace hm := am_it hm hc1
    refine am_steps ck_X8_broken 1 (pc' := 11) (lv' := [(0, .ref 3), (1, .int x1), (2, .int x2)]) (st' := [.int x1]) rfl ?_
    refine am_ifc (tgt := 23) (am_fd ck_X8_broken (pc := 11) rfl) rfl (fun hc2 => ?_) (fun hc2 => ?_)
    · replace hm := am_it hm hc2
      refine am_steps ck_X8_broken 1 (pc' := 24) (lv' := [(0, .ref 3), (1, .int x1), (2, .int x2)]) (st' := [.int (am_i (-1))]) rfl ?_
      cases hm
      exact am_end (am_fd ck_X8_broken (pc := 24) rfl) am_rI rfl rfl
    · replace hm := am_if hm hc2
      refine am_steps ck_X8_broken 1 (pc' := 15) (lv' := [(0, .ref 3), (1, .int x1), (2, .int x2)]) (st' := [.int x2]) rfl ?_
      refine am_ifc (tgt := 23) (am_fd ck_X8_broken (pc := 15) rfl) rfl (fun hc3 => ?_) (fun hc3 => ?_)
      · replace hm := am_it hm hc3
        refine am_steps ck_X8_broken 1 (pc' := 24) (lv' := [(0, .ref 3), (1, .int x1), (2, .int x2)]) (st' := [.int (am_i (-1))]) rfl ?_
        cases hm
        exact am_end (am_fd ck_X8_broken (pc := 24) rfl) am_rI rfl rfl
      · replace hm := am_if hm hc3
        refine am_steps ck_X8_broken 2 (pc' := 20) (lv' := [(0, .ref 3), (1, .int x1), (2, .int x2)]) (st' := [.int (am_i 1), .int x2]) rfl ?_
        refine am_icmp (tgt := 25) (am_fd ck_X8_broken (pc := 20) rfl) rfl (fun hc4 => ?_) (fun hc4 => ?_)
        · replace hm := am_it hm hc4
          refine am_steps ck_X8_broken 4 (pc' := 30) (lv' := [(4, .int (am_i 0)), (3, .int (am_i 0)), (0, .ref 3), (1, .int x1), (2, .int x2)]) (st' := []) rfl ?_
          refine am_subp [2, 3, 4, 1, 0] rfl ?_
          refine x_X8_broken_30 hL am_F _ _ hm (fun hm => ?_)
          refine am_steps ck_X8_broken 1 (pc' := 100) (lv' := []) (st' := [.int (am_i (-1))]) rfl ?_
          cases hm
          exact am_end (am_fd ck_X8_broken (pc := 100) rfl) am_rI rfl rfl
        · replace hm := am_if hm hc4
          refine am_steps ck_X8_broken 1 (pc' := 24) (lv' := [(0, .ref 3), (1, .int x1), (2, .int x2)]) (st' := [.int (am_i (-1))]) rfl ?_
          cases hm
          exact am_end (am_fd ck_X8_broken (pc := 24) rfl) am_rI rfl rfl
  · replace hm := am_if hm hc1
    refine am_steps ck_X8_broken 1 (pc' := 6) (lv' := [(0, .ref 3), (1, .int x1), (2, .int x2)]) (st' := [.ref 3]) rfl ?_
    obtain ⟨q12, hq12, hm⟩ := am_bE hm
    refine ms_callV (M2 := mt_X8_brokenCount) (d2 := 3) (ci := 6) [] (am_fd ck_X8_broken (pc := 6) rfl) ok_X8_brokenCount tw_513 tw_515 ts_15 (by decide) kc_3 (Nat.le_of_ble_eq_true rfl) (Nat.le_of_ble_eq_true rfl) (x_X8_brokenCount hL hq12) ?_
    cases hm
    exact am_end (am_fd ck_X8_broken (pc := 9) rfl) am_rI rfl rfl
set_option maxRecDepth 100000 in
set_option maxHeartbeats 4000000 in
theorem x_X8_state {G : am_G} {m : am_m} {r : am_rr} {x1 : Int32} {res : Int32 × am_m} (hL : am_Lay r) (hm : m_X8_state m x1 = some res) : am_Met G mt_X8_state 1 [.ref 3, .int x1] (am_hh m r) (some (.int res.1)) (am_hh res.2 r) := by
  refine am_of (by decide) (Nat.le_of_ble_eq_true rfl) ?_
  unfold m_X8_state at hm
  show am_W G mt_X8_state 1 _ _ 0 [(0, .ref 3), (1, .int x1)] [] (am_hh m r)
  refine am_steps ck_X8_state 1 (pc' := 1) (lv' := [(0, .ref 3), (1, .int x1)]) (st' := [.ref 3]) rfl ?_
  refine ms_getr (ci := 6) (k := 3) (v := 2970) (am_fd ck_X8_state (pc := 1) rfl) tw_193 kc_3 rfl (ly_3_3 hL) (kB bk2970).1 ?_
  refine ms_geti (ci := 0) (k := 6) (am_fd ck_X8_state (pc := 4) rfl) tw_107 (kB bk2970).1 rfl ?_
  refine am_steps ck_X8_state 2 (pc' := 9) (lv' := [(2, .int (m 2970 6)), (0, .ref 3), (1, .int x1)]) (st' := [.ref 3]) rfl ?_
  refine ms_getr (ci := 6) (k := 3) (v := 2970) (am_fd ck_X8_state (pc := 9) rfl) tw_193 kc_3 rfl (ly_3_3 hL) (kB bk2970).1 ?_
  refine am_steps ck_X8_state 1 (pc' := 13) (lv' := [(2, .int (m 2970 6)), (0, .ref 3), (1, .int x1)]) (st' := [.int x1, .ref 2970]) rfl ?_
  refine ms_puti (ci := 0) (k := 6) (am_fd ck_X8_state (pc := 13) rfl) tw_107 (kB bk2970).1 rfl rfl (fun m1 em1 => ?_)
  replace hm := am_letE em1 hm
  refine am_steps ck_X8_state 1 (pc' := 17) (lv' := [(2, .int (m 2970 6)), (0, .ref 3), (1, .int x1)]) (st' := [.int (m 2970 6)]) rfl ?_
  cases hm
  exact am_end (am_fd ck_X8_state (pc := 17) rfl) am_rI rfl rfl
set_option maxRecDepth 100000 in
set_option maxHeartbeats 4000000 in
theorem x_X8_feed {G : am_G} {m : am_m} {r : am_rr} {x1 : Int32} {x2 : Int32} {x3 : Int32} {x4 : Int32} {x5 : Int32} {res : Int32 × am_m} (hL : am_Lay r) (hm : m_X8_feed m x1 x2 x3 x4 x5 = some res) : am_Met G mt_X8_feed 2 [.ref 3, .int x1, .int x2, .int x3, .int x4, .int x5] (am_hh m r) (some (.int res.1)) (am_hh res.2 r) := by
  refine am_of (by decide) (Nat.le_of_ble_eq_true rfl) ?_
  unfold m_X8_feed at hm
  show am_W G mt_X8_feed 2 _ _ 0 [(0, .ref 3), (1, .int x1), (2, .int x2), (3, .int x3), (4, .int x4), (5, .int x5)] [] (am_hh m r)
  refine am_steps ck_X8_feed 1 (pc' := 1) (lv' := [(0, .ref 3), (1, .int x1), (2, .int x2), (3, .int x3), (4, .int x4), (5, .int x5)]) (st' := [.ref 3]) rfl ?_
  refine ms_getr (ci := 6) (k := 6) (v := 2984) (am_fd ck_X8_feed (pc := 1) rfl) tw_196 kc_3 rfl (ly_3_6 hL) kc_2984 ?_
  refine am_steps ck_X8_feed 1 (pc' := 6) (lv' := [(0, .ref 3), (1, .int x1), (2, .int x2), (3, .int x3), (4, .int x4), (5, .int x5)]) (st' := [.int (am_i 20), .ref 2984]) rfl ?_
  obtain ⟨q1, hq1, hm⟩ := am_bE hm
  refine ms_callV (M2 := mt_X7_hasRoom) (d2 := 1) (ci := 5) [.int (am_i 20)] (am_fd ck_X8_feed (pc := 6) rfl) ok_X7_hasRoom tw_533 tw_534 tw_535 (by decide) kc_2984 (Nat.le_of_ble_eq_true rfl) (Nat.le_of_ble_eq_true rfl) (x_X7_hasRoom hL hq1) ?_
  refine am_ifc (tgt := 14) (am_fd ck_X8_feed (pc := 9) rfl) rfl (fun hc2 => ?_) (fun hc2 => ?_)
  · replace hm := am_it hm hc2
    refine am_steps ck_X8_feed 1 (pc' := 15) (lv' := [(0, .ref 3), (1, .int x1), (2, .int x2), (3, .int x3), (4, .int x4), (5, .int x5)]) (st' := [.ref 3]) rfl ?_
    refine ms_getr (ci := 6) (k := 6) (v := 2984) (am_fd ck_X8_feed (pc := 15) rfl) tw_196 kc_3 rfl (ly_3_6 hL) kc_2984 ?_
    refine am_steps ck_X8_feed 1 (pc' := 19) (lv' := [(0, .ref 3), (1, .int x1), (2, .int x2), (3, .int x3), (4, .int x4), (5, .int x5)]) (st' := [.int x1, .ref 2984]) rfl ?_
    obtain ⟨q3, hq3, hm⟩ := am_bE hm
    refine ms_callVv (M2 := mt_X7_putNumber) (d2 := 1) (ci := 5) [.int x1] (am_fd ck_X8_feed (pc := 19) rfl) ok_X7_putNumber tw_537 tw_538 tw_539 (by decide) kc_2984 (Nat.le_of_ble_eq_true rfl) (Nat.le_of_ble_eq_true rfl) (x_X7_putNumber hL hq3) ?_
    refine am_steps ck_X8_feed 1 (pc' := 23) (lv' := [(0, .ref 3), (1, .int x1), (2, .int x2), (3, .int x3), (4, .int x4), (5, .int x5)]) (st' := [.ref 3]) rfl ?_
    refine ms_getr (ci := 6) (k := 6) (v := 2984) (am_fd ck_X8_feed (pc := 23) rfl) tw_196 kc_3 rfl (ly_3_6 hL) kc_2984 ?_
    refine am_steps ck_X8_feed 1 (pc' := 27) (lv' := [(0, .ref 3), (1, .int x1), (2, .int x2), (3, .int x3), (4, .int x4), (5, .int x5)]) (st' := [.int x2, .ref 2984]) rfl ?_
    obtain ⟨q4, hq4, hm⟩ := am_bE hm
    refine ms_callVv (M2 := mt_X7_putNumber) (d2 := 1) (ci := 5) [.int x2] (am_fd ck_X8_feed (pc := 27) rfl) ok_X7_putNumber tw_537 tw_538 tw_539 (by decide) kc_2984 (Nat.le_of_ble_eq_true rfl) (Nat.le_of_ble_eq_true rfl) (x_X7_putNumber hL hq4) ?_
    refine am_steps ck_X8_feed 1 (pc' := 31) (lv' := [(0, .ref 3), (1, .int x1), (2, .int x2), (3, .int x3), (4, .int x4), (5, .int x5)]) (st' := [.ref 3]) rfl ?_
    refine ms_getr (ci := 6) (k := 6) (v := 2984) (am_fd ck_X8_feed (pc := 31) rfl) tw_196 kc_3 rfl (ly_3_6 hL) kc_2984 ?_
    refine am_steps ck_X8_feed 1 (pc' := 35) (lv' := [(0, .ref 3), (1, .int x1), (2, .int x2), (3, .int x3), (4, .int x4), (5, .int x5)]) (st' := [.int x3, .ref 2984]) rfl ?_
    obtain ⟨q5, hq5, hm⟩ := am_bE hm
    refine ms_callVv (M2 := mt_X7_putNumber) (d2 := 1) (ci := 5) [.int x3] (am_fd ck_X8_feed (pc := 35) rfl) ok_X7_putNumber tw_537 tw_538 tw_539 (by decide) kc_2984 (Nat.le_of_ble_eq_true rfl) (Nat.le_of_ble_eq_true rfl) (x_X7_putNumber hL hq5) ?_
    refine am_steps ck_X8_feed 1 (pc' := 39) (lv' := [(0, .ref 3), (1, .int x1), (2, .int x2), (3, .int x3), (4, .int x4), (5, .int x5)]) (st' := [.ref 3]) rfl ?_
    refine ms_getr (ci := 6) (k := 6) (v := 2984) (am_fd ck_X8_feed (pc := 39) rfl) tw_196 kc_3 rfl (ly_3_6 hL) kc_2984 ?_
    refine am_steps ck_X8_feed 1 (pc' := 44) (lv' := [(0, .ref 3), (1, .int x1), (2, .int x2), (3, .int x3), (4, .int x4), (5, .int x5)]) (st' := [.int x4, .ref 2984]) rfl ?_
    obtain ⟨q6, hq6, hm⟩ := am_bE hm
    refine ms_callVv (M2 := mt_X7_putNumber) (d2 := 1) (ci := 5) [.int x4] (am_fd ck_X8_feed (pc := 44) rfl) ok_X7_putNumber tw_537 tw_538 tw_539 (by decide) kc_2984 (Nat.le_of_ble_eq_true rfl) (Nat.le_of_ble_eq_true rfl) (x_X7_putNumber hL hq6) ?_
    refine am_steps ck_X8_feed 1 (pc' := 48) (lv' := [(0, .ref 3), (1, .int x1), (2, .int x2), (3, .int x3), (4, .int x4), (5, .int x5)]) (st' := [.ref 3]) rfl ?_
    refine ms_getr (ci := 6) (k := 6) (v := 2984) (am_fd ck_X8_feed (pc := 48) rfl) tw_196 kc_3 rfl (ly_3_6 hL) kc_2984 ?_
    refine am_steps ck_X8_feed 1 (pc' := 53) (lv' := [(0, .ref 3), (1, .int x1), (2, .int x2), (3, .int x3), (4, .int x4), (5, .int x5)]) (st' := [.int x5, .ref 2984]) rfl ?_
    obtain ⟨q7, hq7, hm⟩ := am_bE hm
    refine ms_callVv (M2 := mt_X7_putNumber) (d2 := 1) (ci := 5) [.int x5] (am_fd ck_X8_feed (pc := 53) rfl) ok_X7_putNumber tw_537 tw_538 tw_539 (by decide) kc_2984 (Nat.le_of_ble_eq_true rfl) (Nat.le_of_ble_eq_true rfl) (x_X7_putNumber hL hq7) ?_
    refine am_steps ck_X8_feed 1 (pc' := 57) (lv' := [(0, .ref 3), (1, .int x1), (2, .int x2), (3, .int x3), (4, .int x4), (5, .int x5)]) (st' := [.ref 3]) rfl ?_
    refine ms_getr (ci := 6) (k := 6) (v := 2984) (am_fd ck_X8_feed (pc := 57) rfl) tw_196 kc_3 rfl (ly_3_6 hL) kc_2984 ?_
    refine ms_geti (ci := 5) (k := 1) (am_fd ck_X8_feed (pc := 60) rfl) tw_152 kc_2984 rfl ?_
    cases hm
    exact am_end (am_fd ck_X8_feed (pc := 63) rfl) am_rI rfl rfl
  · replace hm := am_if hm hc2
    refine am_steps ck_X8_feed 1 (pc' := 13) (lv' := [(0, .ref 3), (1, .int x1), (2, .int x2), (3, .int x3), (4, .int x4), (5, .int x5)]) (st' := [.int (am_i (-1))]) rfl ?_
    cases hm
    exact am_end (am_fd ck_X8_feed (pc := 13) rfl) am_rI rfl rfl
set_option maxRecDepth 100000 in
set_option maxHeartbeats 4000000 in
theorem x_X8_end {G : am_G} {m : am_m} {r : am_rr} {x1 : Int32} {res : Int32 × am_m} (hL : am_Lay r) (hm : m_X8_end m x1 = some res) : am_Met G mt_X8_end 2 [.ref 3, .int x1] (am_hh m r) (some (.int res.1)) (am_hh res.2 r) := by
  refine am_of (by decide) (Nat.le_of_ble_eq_true rfl) ?_
  unfold m_X8_end at hm
  show am_W G mt_X8_end 2 _ _ 0 [(0, .ref 3), (1, .int x1)] [] (am_hh m r)
  refine am_steps ck_X8_end 1 (pc' := 1) (lv' := [(0, .ref 3), (1, .int x1)]) (st' := [.ref 3]) rfl ?_
  refine ms_getr (ci := 6) (k := 6) (v := 2984) (am_fd ck_X8_end (pc := 1) rfl) tw_196 kc_3 rfl (ly_3_6 hL) kc_2984 ?_
  refine am_steps ck_X8_end 1 (pc' := 5) (lv' := [(0, .ref 3), (1, .int x1)]) (st' := [.int x1, .ref 2984]) rfl ?_
  obtain ⟨q1, hq1, hm⟩ := am_bE hm
  refine ms_callV (M2 := mt_X7_cut) (d2 := 1) (ci := 5) [.int x1] (am_fd ck_X8_end (pc := 5) rfl) ok_X7_cut tw_545 tw_546 tw_547 (by decide) kc_2984 (Nat.le_of_ble_eq_true rfl) (Nat.le_of_ble_eq_true rfl) (x_X7_cut hL hq1) ?_
  obtain ⟨hb2, hm⟩ := am_gE hm
  cases hm
  exact am_end (am_fd ck_X8_end (pc := 8) rfl) (am_rZ hb2) rfl rfl
set_option maxRecDepth 100000 in
set_option maxHeartbeats 4000000 in
theorem x_X8_fault {G : am_G} {m : am_m} {r : am_rr} {x1 : Int32} {res : Int32} (hL : am_Lay r) (hm : m_X8_fault m x1 = some res) : am_Met G mt_X8_fault 1 [.ref 3, .int x1] (am_hh m r) (some (.int res)) (am_hh m r) := by
  refine am_of (by decide) (Nat.le_of_ble_eq_true rfl) ?_
  unfold m_X8_fault at hm
  show am_W G mt_X8_fault 1 _ _ 0 [(0, .ref 3), (1, .int x1)] [] (am_hh m r)
  refine am_steps ck_X8_fault 1 (pc' := 1) (lv' := [(0, .ref 3), (1, .int x1)]) (st' := [.int x1]) rfl ?_
  refine am_ifc (tgt := 12) (am_fd ck_X8_fault (pc := 1) rfl) rfl (fun hc1 => ?_) (fun hc1 => ?_)
  · replace hm := am_it hm hc1
    refine am_steps ck_X8_fault 2 (pc' := 14) (lv' := [(0, .ref 3), (1, .int x1)]) (st' := [.int (am_i 1), .int x1]) rfl ?_
    refine am_icmp (tgt := 27) (am_fd ck_X8_fault (pc := 14) rfl) rfl (fun hc2 => ?_) (fun hc2 => ?_)
    · replace hm := am_it hm hc2
      refine am_steps ck_X8_fault 1 (pc' := 28) (lv' := [(0, .ref 3), (1, .int x1)]) (st' := [.int (am_i (-1))]) rfl ?_
      cases hm
      exact am_end (am_fd ck_X8_fault (pc := 28) rfl) am_rI rfl rfl
    · replace hm := am_if hm hc2
      refine am_steps ck_X8_fault 1 (pc' := 18) (lv' := [(0, .ref 3), (1, .int x1)]) (st' := [.ref 3]) rfl ?_
      refine ms_getr (ci := 6) (k := 6) (v := 2984) (am_fd ck_X8_fault (pc := 18) rfl) tw_196 kc_3 rfl (ly_3_6 hL) kc_2984 ?_
      refine ms_geti (ci := 5) (k := 3) (am_fd ck_X8_fault (pc := 21) rfl) tw_156 kc_2984 rfl ?_
      refine am_steps ck_X8_fault 1 (pc' := 28) (lv' := [(0, .ref 3), (1, .int x1)]) (st' := [.int (m 2984 3)]) rfl ?_
      cases hm
      exact am_end (am_fd ck_X8_fault (pc := 28) rfl) am_rI rfl rfl
  · replace hm := am_if hm hc1
    refine am_steps ck_X8_fault 1 (pc' := 5) (lv' := [(0, .ref 3), (1, .int x1)]) (st' := [.ref 3]) rfl ?_
    refine ms_getr (ci := 6) (k := 6) (v := 2984) (am_fd ck_X8_fault (pc := 5) rfl) tw_196 kc_3 rfl (ly_3_6 hL) kc_2984 ?_
    refine ms_geti (ci := 5) (k := 2) (am_fd ck_X8_fault (pc := 8) rfl) tw_154 kc_2984 rfl ?_
    cases hm
    exact am_end (am_fd ck_X8_fault (pc := 11) rfl) am_rI rfl rfl
set_option maxRecDepth 100000 in
set_option maxHeartbeats 4000000 in
theorem x_X8_image {G : am_G} {m : am_m} {r : am_rr} {x1 : Int32} {res : Int32 × am_m} (hL : am_Lay r) (hm : m_X8_image m r x1 = some res) : am_Met G mt_X8_image 3 [.ref 3, .int x1] (am_hh m r) (some (.int res.1)) (am_hh res.2 r) := by
  refine am_of (by decide) (Nat.le_of_ble_eq_true rfl) ?_
  unfold m_X8_image at hm
  show am_W G mt_X8_image 3 _ _ 0 [(0, .ref 3), (1, .int x1)] [] (am_hh m r)
  refine am_steps ck_X8_image 1 (pc' := 1) (lv' := [(0, .ref 3), (1, .int x1)]) (st' := [.int x1]) rfl ?_
  refine am_ifc (tgt := 33) (am_fd ck_X8_image (pc := 1) rfl) rfl (fun hc1 => ?_) (fun hc1 => ?_)
  · replace hm := am_it hm hc1
    refine am_steps ck_X8_image 1 (pc' := 34) (lv' := [(0, .ref 3), (1, .int x1)]) (st' := [.ref 3]) rfl ?_
    refine ms_geti (ci := 6) (k := 11) (am_fd ck_X8_image (pc := 34) rfl) tw_201 kc_3 rfl ?_
    refine am_ifc (tgt := 42) (am_fd ck_X8_image (pc := 37) rfl) rfl (fun hc2 => ?_) (fun hc2 => ?_)
    · replace hm := am_it hm hc2
      refine am_steps ck_X8_image 1 (pc' := 43) (lv' := [(0, .ref 3), (1, .int x1)]) (st' := [.ref 3]) rfl ?_
      refine ms_getr (ci := 6) (k := 0) (v := 4) (am_fd ck_X8_image (pc := 43) rfl) tw_190 kc_3 rfl (ly_3_0 hL) (kO og4) ?_
      refine am_steps ck_X8_image 1 (pc' := 47) (lv' := [(0, .ref 3), (1, .int x1)]) (st' := [.ref 3, .ref 4]) rfl ?_
      refine ms_getr (ci := 6) (k := 10) (v := 3014) (am_fd ck_X8_image (pc := 47) rfl) tw_200 kc_3 rfl (ly_3_10 hL) (kO og3014) ?_
      obtain ⟨q3, hq3, hm⟩ := am_bE hm
      refine ms_callVv (M2 := mt_X1_takeOver) (d2 := 2) (ci := 1) [.ref 3014] (am_fd ck_X8_image (pc := 50) rfl) ok_X1_takeOver tw_483 tw_243 tw_244 (by decide) (kO og4) (Nat.le_of_ble_eq_true rfl) (Nat.le_of_ble_eq_true rfl) (x_X1_takeOver hL og4 og3014 hq3) ?_
      refine am_steps ck_X8_image 1 (pc' := 54) (lv' := [(0, .ref 3), (1, .int x1)]) (st' := [.ref 3]) rfl ?_
      refine ms_getr (ci := 6) (k := 3) (v := 2970) (am_fd ck_X8_image (pc := 54) rfl) tw_193 kc_3 rfl (ly_3_3 hL) (kB bk2970).1 ?_
      refine am_steps ck_X8_image 1 (pc' := 58) (lv' := [(0, .ref 3), (1, .int x1)]) (st' := [.ref 3, .ref 2970]) rfl ?_
      refine ms_getr (ci := 6) (k := 4) (v := 2976) (am_fd ck_X8_image (pc := 58) rfl) tw_194 kc_3 rfl (ly_3_4 hL) (kB bk2976).1 ?_
      obtain ⟨q4, hq4, hm⟩ := am_bE hm
      refine ms_callVv (M2 := mt_X0_takeOver) (d2 := 2) (ci := 0) [.ref 2976] (am_fd ck_X8_image (pc := 61) rfl) ok_X0_takeOver tw_557 tw_558 tw_559 (by decide) (kB bk2970).1 (Nat.le_of_ble_eq_true rfl) (Nat.le_of_ble_eq_true rfl) (x_X0_takeOver hL bk2970 bk2976 hq4) ?_
      refine am_steps ck_X8_image 1 (pc' := 65) (lv' := [(0, .ref 3), (1, .int x1)]) (st' := [.ref 3]) rfl ?_
      refine ms_getr (ci := 6) (k := 2) (v := 498) (am_fd ck_X8_image (pc := 65) rfl) tw_192 kc_3 rfl (ly_3_2 hL) kc_498 ?_
      obtain ⟨q5, hq5, hm⟩ := am_bE hm
      refine ms_callVv (M2 := mt_X2_forget) (d2 := 1) (ci := 2) [] (am_fd ck_X8_image (pc := 68) rfl) ok_X2_forget tw_562 tw_563 tw_564 (by decide) kc_498 (Nat.le_of_ble_eq_true rfl) (Nat.le_of_ble_eq_true rfl) (x_X2_forget hL hq5) ?_
      refine am_steps ck_X8_image 1 (pc' := 72) (lv' := [(0, .ref 3), (1, .int x1)]) (st' := [.int (am_i 1)]) rfl ?_
      cases hm
      exact am_end (am_fd ck_X8_image (pc := 72) rfl) am_rZ1 rfl rfl
    · replace hm := am_if hm hc2
      refine am_steps ck_X8_image 1 (pc' := 41) (lv' := [(0, .ref 3), (1, .int x1)]) (st' := [.int (am_i 0)]) rfl ?_
      cases hm
      exact am_end (am_fd ck_X8_image (pc := 41) rfl) am_rZ0 rfl rfl
  · replace hm := am_if hm hc1
    refine am_steps ck_X8_image 1 (pc' := 5) (lv' := [(0, .ref 3), (1, .int x1)]) (st' := [.ref 3]) rfl ?_
    refine ms_getr (ci := 6) (k := 10) (v := 3014) (am_fd ck_X8_image (pc := 5) rfl) tw_200 kc_3 rfl (ly_3_10 hL) (kO og3014) ?_
    refine am_steps ck_X8_image 1 (pc' := 9) (lv' := [(0, .ref 3), (1, .int x1)]) (st' := [.ref 3, .ref 3014]) rfl ?_
    refine ms_getr (ci := 6) (k := 0) (v := 4) (am_fd ck_X8_image (pc := 9) rfl) tw_190 kc_3 rfl (ly_3_0 hL) (kO og4) ?_
    obtain ⟨q6, hq6, hm⟩ := am_bE hm
    refine ms_callVv (M2 := mt_X1_takeOver) (d2 := 2) (ci := 1) [.ref 4] (am_fd ck_X8_image (pc := 12) rfl) ok_X1_takeOver tw_483 tw_243 tw_244 (by decide) (kO og3014) (Nat.le_of_ble_eq_true rfl) (Nat.le_of_ble_eq_true rfl) (x_X1_takeOver hL og3014 og4 hq6) ?_
    refine am_steps ck_X8_image 1 (pc' := 16) (lv' := [(0, .ref 3), (1, .int x1)]) (st' := [.ref 3]) rfl ?_
    refine ms_getr (ci := 6) (k := 4) (v := 2976) (am_fd ck_X8_image (pc := 16) rfl) tw_194 kc_3 rfl (ly_3_4 hL) (kB bk2976).1 ?_
    refine am_steps ck_X8_image 1 (pc' := 20) (lv' := [(0, .ref 3), (1, .int x1)]) (st' := [.ref 3, .ref 2976]) rfl ?_
    refine ms_getr (ci := 6) (k := 3) (v := 2970) (am_fd ck_X8_image (pc := 20) rfl) tw_193 kc_3 rfl (ly_3_3 hL) (kB bk2970).1 ?_
    obtain ⟨q7, hq7, hm⟩ := am_bE hm
    refine ms_callVv (M2 := mt_X0_takeOver) (d2 := 2) (ci := 0) [.ref 2970] (am_fd ck_X8_image (pc := 23) rfl) ok_X0_takeOver tw_557 tw_558 tw_559 (by decide) (kB bk2976).1 (Nat.le_of_ble_eq_true rfl) (Nat.le_of_ble_eq_true rfl) (x_X0_takeOver hL bk2976 bk2970 hq7) ?_
    refine am_steps ck_X8_image 2 (pc' := 28) (lv' := [(0, .ref 3), (1, .int x1)]) (st' := [.int (am_i 1), .ref 3]) rfl ?_
    refine ms_putz (ci := 6) (k := 11) (am_fd ck_X8_image (pc := 28) rfl) tw_201 kc_3 rfl rfl (Or.inr am_i1) (fun m8 em8 => ?_)
    replace hm := am_letE em8 hm
    refine am_steps ck_X8_image 1 (pc' := 32) (lv' := [(0, .ref 3), (1, .int x1)]) (st' := [.int (am_i 1)]) rfl ?_
    cases hm
    exact am_end (am_fd ck_X8_image (pc := 32) rfl) am_rZ1 rfl rfl
set_option maxRecDepth 100000 in
set_option maxHeartbeats 4000000 in
theorem x_X8_branchSumOf {G : am_G} {m : am_m} {r : am_rr} {x1 : Int32} {res : am_m} (hL : am_Lay r) (hm : m_X8_branchSumOf m x1 = some res) : am_Met G mt_X8_branchSumOf 5 [.ref 3, .int x1] (am_hh m r) (some (.ref (aR (am_ix x1)))) (am_hh res r) := by
  refine am_of (by decide) (Nat.le_of_ble_eq_true rfl) ?_
  unfold m_X8_branchSumOf at hm
  show am_W G mt_X8_branchSumOf 5 _ _ 0 [(0, .ref 3), (1, .int x1)] [] (am_hh m r)
  refine am_steps ck_X8_branchSumOf 1 (pc' := 1) (lv' := [(0, .ref 3), (1, .int x1)]) (st' := [.ref 3]) rfl ?_
  refine ms_getr (ci := 6) (k := 0) (v := 4) (am_fd ck_X8_branchSumOf (pc := 1) rfl) tw_190 kc_3 rfl (ly_3_0 hL) (kO og4) ?_
  refine am_steps ck_X8_branchSumOf 1 (pc' := 5) (lv' := [(0, .ref 3), (1, .int x1)]) (st' := [.ref 3, .ref 4]) rfl ?_
  refine ms_getr (ci := 6) (k := 8) (v := 2988) (am_fd ck_X8_branchSumOf (pc := 5) rfl) tw_198 kc_3 rfl (ly_3_8 hL) kc_2988 ?_
  obtain ⟨q1, hq1, hm⟩ := am_bE hm
  refine ms_callVv (M2 := mt_X1_sumBranches) (d2 := 4) (ci := 1) [.ref 2988] (am_fd ck_X8_branchSumOf (pc := 8) rfl) ok_X1_sumBranches tw_574 tw_575 tw_576 (by decide) (kO og4) (Nat.le_of_ble_eq_true rfl) (Nat.le_of_ble_eq_true rfl) (x_X1_sumBranches hL og4 hq1) ?_
  refine am_steps ck_X8_branchSumOf 1 (pc' := 12) (lv' := [(0, .ref 3), (1, .int x1)]) (st' := [.ref 3]) rfl ?_
  refine ms_getr (ci := 6) (k := 8) (v := 2988) (am_fd ck_X8_branchSumOf (pc := 12) rfl) tw_198 kc_3 rfl (ly_3_8 hL) kc_2988 ?_
  refine am_steps ck_X8_branchSumOf 1 (pc' := 16) (lv' := [(0, .ref 3), (1, .int x1)]) (st' := [.int x1, .ref 2988]) rfl ?_
  obtain ⟨hb2, hm⟩ := am_gE hm
  refine ms_rald (n := 24) (v := (aR (am_ix x1))) (am_fd ck_X8_branchSumOf (pc := 16) rfl) kc_2988 hb2 (hL.2.1 _ (am_ixl hb2)) (am_rw _ (am_ixl hb2)) ?_
  cases hm
  exact am_end (am_fd ck_X8_branchSumOf (pc := 17) rfl) am_rA rfl rfl
theorem sw_X8_unit_35 : decode mt_X8_unit.2.1 35 = .ok (.tableswitch 180 0 11 #[61, 70, 79, 88, 97, 115, 134, 139, 147, 153, 162, 171], 61) := by decide +kernel
set_option maxRecDepth 100000 in
set_option maxHeartbeats 4000000 in
theorem x_X8_unit {G : am_G} {m : am_m} {r : am_rr} {x1 : Int32} {x2 : Int32} {res : Int32 × am_m} (hL : am_Lay r) (hm : m_X8_unit m x1 x2 = some res) : am_Met G mt_X8_unit 6 [.ref 3, .int x1, .int x2] (am_hh m r) (some (.int res.1)) (am_hh res.2 r) := by
  refine am_of (by decide) (Nat.le_of_ble_eq_true rfl) ?_
  unfold m_X8_unit at hm
  show am_W G mt_X8_unit 6 _ _ 0 [(0, .ref 3), (1, .int x1), (2, .int x2)] [] (am_hh m r)
  refine am_steps ck_X8_unit 1 (pc' := 1) (lv' := [(0, .ref 3), (1, .int x1), (2, .int x2)]) (st' := [.ref 3]) rfl ?_
  refine ms_getr (ci := 6) (k := 0) (v := 4) (am_fd ck_X8_unit (pc := 1) rfl) tw_190 kc_3 rfl (ly_3_0 hL) (kO og4) ?_
  refine am_steps ck_X8_unit 1 (pc' := 5) (lv' := [(0, .ref 3), (1, .int x1), (2, .int x2)]) (st' := [.int x1, .ref 4]) rfl ?_
  obtain ⟨q1, hq1, hm⟩ := am_bE hm
  refine ms_callV (M2 := mt_X1_isThere) (d2 := 1) (ci := 1) [.int x1] (am_fd ck_X8_unit (pc := 5) rfl) ok_X1_isThere tw_231 tw_232 tw_233 (by decide) (kO og4) (Nat.le_of_ble_eq_true rfl) (Nat.le_of_ble_eq_true rfl) (x_X1_isThere hL og4 hq1) ?_
  refine am_ifc (tgt := 13) (am_fd ck_X8_unit (pc := 8) rfl) rfl (fun hc2 => ?_) (fun hc2 => ?_)
  · replace hm := am_it hm hc2
    refine am_steps ck_X8_unit 1 (pc' := 14) (lv' := [(0, .ref 3), (1, .int x1), (2, .int x2)]) (st' := [.ref 3]) rfl ?_
    refine ms_getr (ci := 6) (k := 0) (v := 4) (am_fd ck_X8_unit (pc := 14) rfl) tw_190 kc_3 rfl (ly_3_0 hL) (kO og4) ?_
    refine ms_getr (ci := 1) (k := 2) (v := (4 + 3)) (am_fd ck_X8_unit (pc := 17) rfl) tw_43 (kO og4) rfl (lyO2 hL og4) (kWo og4) ?_
    refine am_steps ck_X8_unit 1 (pc' := 21) (lv' := [(0, .ref 3), (1, .int x1), (2, .int x2)]) (st' := [.int x1, .ref (4 + 3)]) rfl ?_
    obtain ⟨hb3, hm⟩ := am_gE hm
    refine ms_rald (n := 24) (v := (aW 4 (am_ix x1))) (am_fd ck_X8_unit (pc := 21) rfl) (kWo og4) hb3 (lyW hL og4 (am_ixl hb3)) (kW og4 (am_ixl hb3)) ?_
    refine am_steps ck_X8_unit 2 (pc' := 24) (lv' := [(3, .ref (aW 4 (am_ix x1))), (0, .ref 3), (1, .int x1), (2, .int x2)]) (st' := [.ref 3]) rfl ?_
    refine ms_getr (ci := 6) (k := 0) (v := 4) (am_fd ck_X8_unit (pc := 24) rfl) tw_190 kc_3 rfl (ly_3_0 hL) (kO og4) ?_
    refine ms_getr (ci := 1) (k := 3) (v := (4 + 28)) (am_fd ck_X8_unit (pc := 27) rfl) tw_48 (kO og4) rfl (lyO3 hL og4) (kXo og4) ?_
    refine am_steps ck_X8_unit 1 (pc' := 31) (lv' := [(3, .ref (aW 4 (am_ix x1))), (0, .ref 3), (1, .int x1), (2, .int x2)]) (st' := [.int x1, .ref (4 + 28)]) rfl ?_
    obtain ⟨hb4, hm⟩ := am_gE hm
    refine ms_rald (n := 24) (v := (aX 4 (am_ix x1))) (am_fd ck_X8_unit (pc := 31) rfl) (kXo og4) hb4 (lyX hL og4 (am_ixl hb4)) (kX og4 (am_ixl hb4)) ?_
    refine am_steps ck_X8_unit 2 (pc' := 35) (lv' := [(4, .ref (aX 4 (am_ix x1))), (3, .ref (aW 4 (am_ix x1))), (0, .ref 3), (1, .int x1), (2, .int x2)]) (st' := [.int x2]) rfl ?_
    by_cases hs6 : x2 = am_i 0
    · replace hm := am_it hm hs6
      refine ms_sw (v := 0) (off := 61) (tgt := 96) sw_X8_unit_35 hs6 (by decide) (by decide) (by decide) rfl rfl ?_
      refine am_steps ck_X8_unit 1 (pc' := 97) (lv' := [(4, .ref (aX 4 (am_ix x1))), (3, .ref (aW 4 (am_ix x1))), (0, .ref 3), (1, .int x1), (2, .int x2)]) (st' := [.ref 3]) rfl ?_
      refine ms_getr (ci := 6) (k := 0) (v := 4) (am_fd ck_X8_unit (pc := 97) rfl) tw_190 kc_3 rfl (ly_3_0 hL) (kO og4) ?_
      refine am_steps ck_X8_unit 1 (pc' := 101) (lv' := [(4, .ref (aX 4 (am_ix x1))), (3, .ref (aW 4 (am_ix x1))), (0, .ref 3), (1, .int x1), (2, .int x2)]) (st' := [.int x1, .ref 4]) rfl ?_
      obtain ⟨q5, hq5, hm⟩ := am_bE hm
      refine ms_callV (M2 := mt_X1_upperOf) (d2 := 2) (ci := 1) [.int x1] (am_fd ck_X8_unit (pc := 101) rfl) ok_X1_upperOf tw_284 tw_258 tw_259 (by decide) (kO og4) (Nat.le_of_ble_eq_true rfl) (Nat.le_of_ble_eq_true rfl) (x_X1_upperOf hL og4 hq5) ?_
      cases hm
      exact am_end (am_fd ck_X8_unit (pc := 104) rfl) am_rI rfl rfl
    · replace hm := am_if hm hs6
      by_cases hs8 : x2 = am_i 1
      · replace hm := am_it hm hs8
        refine ms_sw (v := 1) (off := 70) (tgt := 105) sw_X8_unit_35 hs8 (by decide) (by decide) (by decide) rfl rfl ?_
        refine am_steps ck_X8_unit 1 (pc' := 106) (lv' := [(4, .ref (aX 4 (am_ix x1))), (3, .ref (aW 4 (am_ix x1))), (0, .ref 3), (1, .int x1), (2, .int x2)]) (st' := [.ref 3]) rfl ?_
        refine ms_getr (ci := 6) (k := 0) (v := 4) (am_fd ck_X8_unit (pc := 106) rfl) tw_190 kc_3 rfl (ly_3_0 hL) (kO og4) ?_
        refine am_steps ck_X8_unit 1 (pc' := 110) (lv' := [(4, .ref (aX 4 (am_ix x1))), (3, .ref (aW 4 (am_ix x1))), (0, .ref 3), (1, .int x1), (2, .int x2)]) (st' := [.int x1, .ref 4]) rfl ?_
        obtain ⟨q7, hq7, hm⟩ := am_bE hm
        refine ms_callV (M2 := mt_X1_depthOf) (d2 := 3) (ci := 1) [.int x1] (am_fd ck_X8_unit (pc := 110) rfl) ok_X1_depthOf tw_268 tw_269 tw_270 (by decide) (kO og4) (Nat.le_of_ble_eq_true rfl) (Nat.le_of_ble_eq_true rfl) (x_X1_depthOf hL og4 hq7) ?_
        cases hm
        exact am_end (am_fd ck_X8_unit (pc := 113) rfl) am_rI rfl rfl
      · replace hm := am_if hm hs8
        by_cases hs10 : x2 = am_i 2
        · replace hm := am_it hm hs10
          refine ms_sw (v := 2) (off := 79) (tgt := 114) sw_X8_unit_35 hs10 (by decide) (by decide) (by decide) rfl rfl ?_
          refine am_steps ck_X8_unit 1 (pc' := 115) (lv' := [(4, .ref (aX 4 (am_ix x1))), (3, .ref (aW 4 (am_ix x1))), (0, .ref 3), (1, .int x1), (2, .int x2)]) (st' := [.ref 3]) rfl ?_
          refine ms_getr (ci := 6) (k := 0) (v := 4) (am_fd ck_X8_unit (pc := 115) rfl) tw_190 kc_3 rfl (ly_3_0 hL) (kO og4) ?_
          refine am_steps ck_X8_unit 1 (pc' := 119) (lv' := [(4, .ref (aX 4 (am_ix x1))), (3, .ref (aW 4 (am_ix x1))), (0, .ref 3), (1, .int x1), (2, .int x2)]) (st' := [.int x1, .ref 4]) rfl ?_
          obtain ⟨q9, hq9, hm⟩ := am_bE hm
          refine ms_callV (M2 := mt_X1_lowerCount) (d2 := 2) (ci := 1) [.int x1] (am_fd ck_X8_unit (pc := 119) rfl) ok_X1_lowerCount tw_285 tw_286 tw_287 (by decide) (kO og4) (Nat.le_of_ble_eq_true rfl) (Nat.le_of_ble_eq_true rfl) (x_X1_lowerCount hL og4 hq9) ?_
          cases hm
          exact am_end (am_fd ck_X8_unit (pc := 122) rfl) am_rI rfl rfl
        · replace hm := am_if hm hs10
          by_cases hs12 : x2 = am_i 3
          · replace hm := am_it hm hs12
            refine ms_sw (v := 3) (off := 88) (tgt := 123) sw_X8_unit_35 hs12 (by decide) (by decide) (by decide) rfl rfl ?_
            refine am_steps ck_X8_unit 1 (pc' := 124) (lv' := [(4, .ref (aX 4 (am_ix x1))), (3, .ref (aW 4 (am_ix x1))), (0, .ref 3), (1, .int x1), (2, .int x2)]) (st' := [.ref 3]) rfl ?_
            refine ms_getr (ci := 6) (k := 0) (v := 4) (am_fd ck_X8_unit (pc := 124) rfl) tw_190 kc_3 rfl (ly_3_0 hL) (kO og4) ?_
            refine am_steps ck_X8_unit 1 (pc' := 128) (lv' := [(4, .ref (aX 4 (am_ix x1))), (3, .ref (aW 4 (am_ix x1))), (0, .ref 3), (1, .int x1), (2, .int x2)]) (st' := [.int x1, .ref 4]) rfl ?_
            obtain ⟨q11, hq11, hm⟩ := am_bE hm
            refine ms_callV (M2 := mt_X1_branchSize) (d2 := 4) (ci := 1) [.int x1] (am_fd ck_X8_unit (pc := 128) rfl) ok_X1_branchSize tw_343 tw_344 tw_345 (by decide) (kO og4) (Nat.le_of_ble_eq_true rfl) (Nat.le_of_ble_eq_true rfl) (x_X1_branchSize hL og4 hq11) ?_
            cases hm
            exact am_end (am_fd ck_X8_unit (pc := 131) rfl) am_rI rfl rfl
          · replace hm := am_if hm hs12
            by_cases hs15 : x2 = am_i 4
            · replace hm := am_it hm hs15
              refine ms_sw (v := 4) (off := 97) (tgt := 132) sw_X8_unit_35 hs15 (by decide) (by decide) (by decide) rfl rfl ?_
              refine am_steps ck_X8_unit 1 (pc' := 133) (lv' := [(4, .ref (aX 4 (am_ix x1))), (3, .ref (aW 4 (am_ix x1))), (0, .ref 3), (1, .int x1), (2, .int x2)]) (st' := [.ref 3]) rfl ?_
              refine ms_getr (ci := 6) (k := 0) (v := 4) (am_fd ck_X8_unit (pc := 133) rfl) tw_190 kc_3 rfl (ly_3_0 hL) (kO og4) ?_
              refine ms_getr (ci := 1) (k := 1) (v := (aS 4)) (am_fd ck_X8_unit (pc := 136) rfl) tw_41 (kO og4) rfl (lyO1 hL og4) (kS og4) ?_
              refine am_steps ck_X8_unit 1 (pc' := 140) (lv' := [(4, .ref (aX 4 (am_ix x1))), (3, .ref (aW 4 (am_ix x1))), (0, .ref 3), (1, .int x1), (2, .int x2)]) (st' := [.int x1, .ref (aS 4)]) rfl ?_
              obtain ⟨hb13, hm⟩ := am_gE hm
              refine ms_zald (n := 24) (am_fd ck_X8_unit (pc := 140) rfl) (kS og4) hb13 ?_
              refine am_ifc (tgt := 148) (am_fd ck_X8_unit (pc := 141) rfl) rfl (fun hc14 => ?_) (fun hc14 => ?_)
              · replace hm := am_it hm hc14
                refine am_steps ck_X8_unit 1 (pc' := 149) (lv' := [(4, .ref (aX 4 (am_ix x1))), (3, .ref (aW 4 (am_ix x1))), (0, .ref 3), (1, .int x1), (2, .int x2)]) (st' := [.int (am_i 0)]) rfl ?_
                cases hm
                exact am_end (am_fd ck_X8_unit (pc := 149) rfl) am_rI rfl rfl
              · replace hm := am_if hm hc14
                refine am_steps ck_X8_unit 2 (pc' := 149) (lv' := [(4, .ref (aX 4 (am_ix x1))), (3, .ref (aW 4 (am_ix x1))), (0, .ref 3), (1, .int x1), (2, .int x2)]) (st' := [.int (am_i 1)]) rfl ?_
                cases hm
                exact am_end (am_fd ck_X8_unit (pc := 149) rfl) am_rI rfl rfl
            · replace hm := am_if hm hs15
              by_cases hs20 : x2 = am_i 5
              · replace hm := am_it hm hs20
                refine ms_sw (v := 5) (off := 115) (tgt := 150) sw_X8_unit_35 hs20 (by decide) (by decide) (by decide) rfl rfl ?_
                refine am_steps ck_X8_unit 3 (pc' := 154) (lv' := [(4, .ref (aX 4 (am_ix x1))), (3, .ref (aW 4 (am_ix x1))), (0, .ref 3), (1, .int x1), (2, .int x2)]) (st' := [.int x1, .ref 3, .ref (aX 4 (am_ix x1))]) rfl ?_
                obtain ⟨q16, hq16, hm⟩ := am_bE hm
                refine ms_callV (M2 := mt_X8_branchSumOf) (d2 := 5) (ci := 6) [.int x1] (am_fd ck_X8_unit (pc := 154) rfl) ok_X8_branchSumOf tw_570 tw_572 ts_17 (by decide) kc_3 (Nat.le_of_ble_eq_true rfl) (Nat.le_of_ble_eq_true rfl) (x_X8_branchSumOf hL hq16) ?_
                obtain ⟨hb17, hm⟩ := am_gE hm
                obtain ⟨q18, hq18, hm⟩ := am_bE hm
                refine ms_callS (M2 := mt_X5_unlikeness) (d2 := 1) [.ref (aX 4 (am_ix x1)), .ref (aR (am_ix x1))] (am_fd ck_X8_unit (pc := 157) rfl) ok_X5_unlikeness tw_579 tw_580 (Nat.le_of_ble_eq_true rfl) (Nat.le_of_ble_eq_true rfl) (x_X5_unlikeness hL (kX og4 (am_ixl hb4)) (am_rw _ (am_ixl hb17)) hq18) ?_
                refine am_ifc (tgt := 167) (am_fd ck_X8_unit (pc := 160) rfl) rfl (fun hc19 => ?_) (fun hc19 => ?_)
                · replace hm := am_it hm hc19
                  refine am_steps ck_X8_unit 1 (pc' := 168) (lv' := [(4, .ref (aX 4 (am_ix x1))), (3, .ref (aW 4 (am_ix x1))), (0, .ref 3), (1, .int x1), (2, .int x2)]) (st' := [.int (am_i 0)]) rfl ?_
                  cases hm
                  exact am_end (am_fd ck_X8_unit (pc := 168) rfl) am_rI rfl rfl
                · replace hm := am_if hm hc19
                  refine am_steps ck_X8_unit 2 (pc' := 168) (lv' := [(4, .ref (aX 4 (am_ix x1))), (3, .ref (aW 4 (am_ix x1))), (0, .ref 3), (1, .int x1), (2, .int x2)]) (st' := [.int (am_i 1)]) rfl ?_
                  cases hm
                  exact am_end (am_fd ck_X8_unit (pc := 168) rfl) am_rI rfl rfl
              · replace hm := am_if hm hs20
                by_cases hs22 : x2 = am_i 6
                · replace hm := am_it hm hs22
                  refine ms_sw (v := 6) (off := 134) (tgt := 169) sw_X8_unit_35 hs22 (by decide) (by decide) (by decide) rfl rfl ?_
                  refine am_steps ck_X8_unit 1 (pc' := 170) (lv' := [(4, .ref (aX 4 (am_ix x1))), (3, .ref (aW 4 (am_ix x1))), (0, .ref 3), (1, .int x1), (2, .int x2)]) (st' := [.ref (aW 4 (am_ix x1))]) rfl ?_
                  obtain ⟨q21, hq21, hm⟩ := am_bE hm
                  refine ms_callS (M2 := mt_X5_allOf) (d2 := 2) [.ref (aW 4 (am_ix x1))] (am_fd ck_X8_unit (pc := 170) rfl) ok_X5_allOf tw_585 tw_586 (Nat.le_of_ble_eq_true rfl) (Nat.le_of_ble_eq_true rfl) (x_X5_allOf hL (kW og4 (am_ixl hb3)) hq21) ?_
                  cases hm
                  exact am_end (am_fd ck_X8_unit (pc := 173) rfl) am_rI rfl rfl
                · replace hm := am_if hm hs22
                  by_cases hs25 : x2 = am_i 7
                  · replace hm := am_it hm hs25
                    refine ms_sw (v := 7) (off := 139) (tgt := 174) sw_X8_unit_35 hs25 (by decide) (by decide) (by decide) rfl rfl ?_
                    refine am_steps ck_X8_unit 1 (pc' := 175) (lv' := [(4, .ref (aX 4 (am_ix x1))), (3, .ref (aW 4 (am_ix x1))), (0, .ref 3), (1, .int x1), (2, .int x2)]) (st' := [.ref (aW 4 (am_ix x1))]) rfl ?_
                    obtain ⟨q23, hq23, hm⟩ := am_bE hm
                    refine ms_callS (M2 := mt_X6_maskOf) (d2 := 1) [.ref (aW 4 (am_ix x1))] (am_fd ck_X8_unit (pc := 175) rfl) ok_X6_maskOf tw_292 tw_293 (Nat.le_of_ble_eq_true rfl) (Nat.le_of_ble_eq_true rfl) (x_X6_maskOf hL (kW og4 (am_ixl hb3)) hq23) ?_
                    obtain ⟨q24, hq24, hm⟩ := am_bE hm
                    refine ms_callS (M2 := mt_X6_nodesOf) (d2 := 3) [.long q23] (am_fd ck_X8_unit (pc := 178) rfl) ok_X6_nodesOf tw_589 tw_381 (Nat.le_of_ble_eq_true rfl) (Nat.le_of_ble_eq_true rfl) (x_X6_nodesOf hL hq24) ?_
                    cases hm
                    exact am_end (am_fd ck_X8_unit (pc := 181) rfl) am_rI rfl rfl
                  · replace hm := am_if hm hs25
                    by_cases hs27 : x2 = am_i 8
                    · replace hm := am_it hm hs27
                      refine ms_sw (v := 8) (off := 147) (tgt := 182) sw_X8_unit_35 hs27 (by decide) (by decide) (by decide) rfl rfl ?_
                      refine am_steps ck_X8_unit 1 (pc' := 184) (lv' := [(4, .ref (aX 4 (am_ix x1))), (3, .ref (aW 4 (am_ix x1))), (0, .ref 3), (1, .int x1), (2, .int x2)]) (st' := [.ref (aX 4 (am_ix x1))]) rfl ?_
                      obtain ⟨q26, hq26, hm⟩ := am_bE hm
                      refine ms_callS (M2 := mt_X5_allOf) (d2 := 2) [.ref (aX 4 (am_ix x1))] (am_fd ck_X8_unit (pc := 184) rfl) ok_X5_allOf tw_585 tw_586 (Nat.le_of_ble_eq_true rfl) (Nat.le_of_ble_eq_true rfl) (x_X5_allOf hL (kX og4 (am_ixl hb4)) hq26) ?_
                      cases hm
                      exact am_end (am_fd ck_X8_unit (pc := 187) rfl) am_rI rfl rfl
                    · replace hm := am_if hm hs27
                      by_cases hs30 : x2 = am_i 9
                      · replace hm := am_it hm hs30
                        refine ms_sw (v := 9) (off := 153) (tgt := 188) sw_X8_unit_35 hs30 (by decide) (by decide) (by decide) rfl rfl ?_
                        refine am_steps ck_X8_unit 1 (pc' := 190) (lv' := [(4, .ref (aX 4 (am_ix x1))), (3, .ref (aW 4 (am_ix x1))), (0, .ref 3), (1, .int x1), (2, .int x2)]) (st' := [.ref (aX 4 (am_ix x1))]) rfl ?_
                        obtain ⟨q28, hq28, hm⟩ := am_bE hm
                        refine ms_callS (M2 := mt_X6_maskOf) (d2 := 1) [.ref (aX 4 (am_ix x1))] (am_fd ck_X8_unit (pc := 190) rfl) ok_X6_maskOf tw_292 tw_293 (Nat.le_of_ble_eq_true rfl) (Nat.le_of_ble_eq_true rfl) (x_X6_maskOf hL (kX og4 (am_ixl hb4)) hq28) ?_
                        obtain ⟨q29, hq29, hm⟩ := am_bE hm
                        refine ms_callS (M2 := mt_X6_nodesOf) (d2 := 3) [.long q28] (am_fd ck_X8_unit (pc := 193) rfl) ok_X6_nodesOf tw_589 tw_381 (Nat.le_of_ble_eq_true rfl) (Nat.le_of_ble_eq_true rfl) (x_X6_nodesOf hL hq29) ?_
                        cases hm
                        exact am_end (am_fd ck_X8_unit (pc := 196) rfl) am_rI rfl rfl
                      · replace hm := am_if hm hs30
                        by_cases hs33 : x2 = am_i 10
                        · replace hm := am_it hm hs33
                          refine ms_sw (v := 10) (off := 162) (tgt := 197) sw_X8_unit_35 hs33 (by decide) (by decide) (by decide) rfl rfl ?_
                          refine am_steps ck_X8_unit 1 (pc' := 199) (lv' := [(4, .ref (aX 4 (am_ix x1))), (3, .ref (aW 4 (am_ix x1))), (0, .ref 3), (1, .int x1), (2, .int x2)]) (st' := [.ref (aX 4 (am_ix x1))]) rfl ?_
                          obtain ⟨q31, hq31, hm⟩ := am_bE hm
                          refine ms_callS (M2 := mt_X6_maskOf) (d2 := 1) [.ref (aX 4 (am_ix x1))] (am_fd ck_X8_unit (pc := 199) rfl) ok_X6_maskOf tw_292 tw_293 (Nat.le_of_ble_eq_true rfl) (Nat.le_of_ble_eq_true rfl) (x_X6_maskOf hL (kX og4 (am_ixl hb4)) hq31) ?_
                          obtain ⟨q32, hq32, hm⟩ := am_bE hm
                          refine ms_callS (M2 := mt_J13_bitCount_95d88) (d2 := 1) [.long q31] (am_fd ck_X8_unit (pc := 202) rfl) ok_J13_bitCount_95d88 tw_590 tw_301 (Nat.le_of_ble_eq_true rfl) (Nat.le_of_ble_eq_true rfl) (x_J13_bitCount_95d88 hL hq32) ?_
                          cases hm
                          exact am_end (am_fd ck_X8_unit (pc := 205) rfl) am_rI rfl rfl
                        · replace hm := am_if hm hs33
                          by_cases hs37 : x2 = am_i 11
                          · replace hm := am_it hm hs37
                            refine ms_sw (v := 11) (off := 171) (tgt := 206) sw_X8_unit_35 hs37 (by decide) (by decide) (by decide) rfl rfl ?_
                            refine am_steps ck_X8_unit 2 (pc' := 208) (lv' := [(4, .ref (aX 4 (am_ix x1))), (3, .ref (aW 4 (am_ix x1))), (0, .ref 3), (1, .int x1), (2, .int x2)]) (st' := [.int x1, .ref 3]) rfl ?_
                            obtain ⟨q34, hq34, hm⟩ := am_bE hm
                            refine ms_callV (M2 := mt_X8_branchSumOf) (d2 := 5) (ci := 6) [.int x1] (am_fd ck_X8_unit (pc := 208) rfl) ok_X8_branchSumOf tw_570 tw_572 ts_17 (by decide) kc_3 (Nat.le_of_ble_eq_true rfl) (Nat.le_of_ble_eq_true rfl) (x_X8_branchSumOf hL hq34) ?_
                            obtain ⟨hb35, hm⟩ := am_gE hm
                            obtain ⟨q36, hq36, hm⟩ := am_bE hm
                            refine ms_callS (M2 := mt_X5_allOf) (d2 := 2) [.ref (aR (am_ix x1))] (am_fd ck_X8_unit (pc := 211) rfl) ok_X5_allOf tw_585 tw_586 (Nat.le_of_ble_eq_true rfl) (Nat.le_of_ble_eq_true rfl) (x_X5_allOf hL (am_rw _ (am_ixl hb35)) hq36) ?_
                            cases hm
                            exact am_end (am_fd ck_X8_unit (pc := 214) rfl) am_rI rfl rfl
                          · replace hm := am_if hm hs37
                            refine ms_swd (tgt := 215) sw_X8_unit_35 (fun j hj => ?_) rfl ?_
                            · have hj2 : j ≤ 11 := by omega
                              match j, hj2 with
                              | 0, _ => exact hs6
                              | 1, _ => exact hs8
                              | 2, _ => exact hs10
                              | 3, _ => exact hs12
                              | 4, _ => exact hs15
                              | 5, _ => exact hs20
                              | 6, _ => exact hs22
                              | 7, _ => exact hs25
                              | 8, _ => exact hs27
                              | 9, _ => exact hs30
                              | 10, _ => exact hs33
                              | 11, _ => exact hs37
                              | j + 12, h9 => omega
                            · refine am_steps ck_X8_unit 1 (pc' := 216) (lv' := [(4, .ref (aX 4 (am_ix x1))), (3, .ref (aW 4 (am_ix x1))), (0, .ref 3), (1, .int x1), (2, .int x2)]) (st' := [.int (am_i (-1))]) rfl ?_
                              cases hm
                              exact am_end (am_fd ck_X8_unit (pc := 216) rfl) am_rI rfl rfl
  · replace hm := am_if hm hc2
    refine am_steps ck_X8_unit 1 (pc' := 12) (lv' := [(0, .ref 3), (1, .int x1), (2, .int x2)]) (st' := [.int (am_i (-1))]) rfl ?_
    cases hm
    exact am_end (am_fd ck_X8_unit (pc := 12) rfl) am_rI rfl rfl
set_option maxRecDepth 100000 in
set_option maxHeartbeats 4000000 in
theorem x_X8_below {G : am_G} {m : am_m} {r : am_rr} {x1 : Int32} {x2 : Int32} {res : Int32} (hL : am_Lay r) (hm : m_X8_below m x1 x2 = some res) : am_Met G mt_X8_below 3 [.ref 3, .int x1, .int x2] (am_hh m r) (some (.int res)) (am_hh m r) := by
  refine am_of (by decide) (Nat.le_of_ble_eq_true rfl) ?_
  unfold m_X8_below at hm
  show am_W G mt_X8_below 3 _ _ 0 [(0, .ref 3), (1, .int x1), (2, .int x2)] [] (am_hh m r)
  refine am_steps ck_X8_below 1 (pc' := 1) (lv' := [(0, .ref 3), (1, .int x1), (2, .int x2)]) (st' := [.ref 3]) rfl ?_
  refine ms_getr (ci := 6) (k := 0) (v := 4) (am_fd ck_X8_below (pc := 1) rfl) tw_190 kc_3 rfl (ly_3_0 hL) (kO og4) ?_
  refine am_steps ck_X8_below 2 (pc' := 6) (lv' := [(0, .ref 3), (1, .int x1), (2, .int x2)]) (st' := [.int x2, .int x1, .ref 4]) rfl ?_
  obtain ⟨q1, hq1, hm⟩ := am_bE hm
  refine ms_callV (M2 := mt_X1_lowerAt) (d2 := 2) (ci := 1) [.int x1, .int x2] (am_fd ck_X8_below (pc := 6) rfl) ok_X1_lowerAt tw_595 tw_596 tw_597 (by decide) (kO og4) (Nat.le_of_ble_eq_true rfl) (Nat.le_of_ble_eq_true rfl) (x_X1_lowerAt hL og4 hq1) ?_
  cases hm
  exact am_end (am_fd ck_X8_below (pc := 9) rfl) am_rI rfl rfl
set_option maxRecDepth 100000 in
set_option maxHeartbeats 4000000 in
theorem x_X8_above_28 {G : am_G} {x1 : Int32} {x2 : Int32} {m : am_m} {r : am_rr} {y2 : Int32} {res : Int32} {k : Int32 → Option (Int32)} (hL : am_Lay r) : ∀ (n : Nat) (z3 : Int32) (z4 : Int32), m_X8_above_28 x1 x2 m y2 k n z3 z4 = some res → (∀ (u3 : Int32), k u3 = some res → am_W G mt_X8_above 3 (some (.int res)) (am_hh m r) 54 [(3, .int u3)] [] (am_hh m r)) → am_W G mt_X8_above 3 (some (.int res)) (am_hh m r) 28 [(0, .ref 3), (2, .int y2), (3, .int z3), (4, .int z4)] [] (am_hh m r) := by
  intro n
  induction n with
  | zero => intro z3 z4 hm K; cases hm
  | succ n ih =>
    intro z3 z4 hm K
    unfold m_X8_above_28 at hm
    refine am_steps ck_X8_above 2 (pc' := 31) (lv' := [(0, .ref 3), (2, .int y2), (3, .int z3), (4, .int z4)]) (st' := [.int y2, .int z4]) rfl ?_
    refine am_icmp (tgt := 54) (am_fd ck_X8_above (pc := 31) rfl) rfl (fun hc5 => ?_) (fun hc5 => ?_)
    · replace hm := am_it hm hc5
      refine am_subp [2] rfl ?_
      exact K _ hm
    · replace hm := am_if hm hc5
      refine am_steps ck_X8_above 2 (pc' := 36) (lv' := [(0, .ref 3), (2, .int y2), (3, .int z3), (4, .int z4)]) (st' := [.int (am_i (-1)), .int z3]) rfl ?_
      refine am_icmp (tgt := 54) (am_fd ck_X8_above (pc := 36) rfl) rfl (fun hc6 => ?_) (fun hc6 => ?_)
      · replace hm := am_it hm hc6
        refine am_subp [2] rfl ?_
        exact K _ hm
      · replace hm := am_if hm hc6
        refine am_steps ck_X8_above 1 (pc' := 40) (lv' := [(0, .ref 3), (2, .int y2), (3, .int z3), (4, .int z4)]) (st' := [.ref 3]) rfl ?_
        refine ms_getr (ci := 6) (k := 0) (v := 4) (am_fd ck_X8_above (pc := 40) rfl) tw_190 kc_3 rfl (ly_3_0 hL) (kO og4) ?_
        refine am_steps ck_X8_above 1 (pc' := 44) (lv' := [(0, .ref 3), (2, .int y2), (3, .int z3), (4, .int z4)]) (st' := [.int z3, .ref 4]) rfl ?_
        obtain ⟨q7, hq7, hm⟩ := am_bE hm
        refine ms_callV (M2 := mt_X1_upperOf) (d2 := 2) (ci := 1) [.int z3] (am_fd ck_X8_above (pc := 44) rfl) ok_X1_upperOf tw_284 tw_258 tw_259 (by decide) (kO og4) (Nat.le_of_ble_eq_true rfl) (Nat.le_of_ble_eq_true rfl) (x_X1_upperOf hL og4 hq7) ?_
        refine am_steps ck_X8_above 3 (pc' := 28) (lv' := [(4, .int (z4 + am_i 1)), (3, .int q7), (0, .ref 3), (2, .int y2)]) (st' := []) rfl ?_
        refine am_subp [2, 3, 1, 0] rfl ?_
        exact ih _ _ hm K
set_option maxRecDepth 100000 in
set_option maxHeartbeats 4000000 in
theorem x_X8_above {G : am_G} {m : am_m} {r : am_rr} {x1 : Int32} {x2 : Int32} {res : Int32} (hL : am_Lay r) (hm : m_X8_above m x1 x2 = some res) : am_Met G mt_X8_above 3 [.ref 3, .int x1, .int x2] (am_hh m r) (some (.int res)) (am_hh m r) := by
  refine am_of (by decide) (Nat.le_of_ble_eq_true rfl) ?_
  unfold m_X8_above at hm
  show am_W G mt_X8_above 3 _ _ 0 [(0, .ref 3), (1, .int x1), (2, .int x2)] [] (am_hh m r)
  refine am_steps ck_X8_above 1 (pc' := 1) (lv' := [(0, .ref 3), (1, .int x1), (2, .int x2)]) (st' := [.ref 3]) rfl ?_
  refine ms_getr (ci := 6) (k := 0) (v := 4) (am_fd ck_X8_above (pc := 1) rfl) tw_190 kc_3 rfl (ly_3_0 hL) (kO og4) ?_
  refine am_steps ck_X8_above 1 (pc' := 5) (lv' := [(0, .ref 3), (1, .int x1), (2, .int x2)]) (st' := [.int x1, .ref 4]) rfl ?_
  obtain ⟨q1, hq1, hm⟩ := am_bE hm
  refine ms_callV (M2 := mt_X1_isThere) (d2 := 1) (ci := 1) [.int x1] (am_fd ck_X8_above (pc := 5) rfl) ok_X1_isThere tw_231 tw_232 tw_233 (by decide) (kO og4) (Nat.le_of_ble_eq_true rfl) (Nat.le_of_ble_eq_true rfl) (x_X1_isThere hL og4 hq1) ?_
  refine am_ifc (tgt := 21) (am_fd ck_X8_above (pc := 8) rfl) rfl (fun hc2 => ?_) (fun hc2 => ?_)
  · replace hm := am_it hm hc2
    refine am_steps ck_X8_above 1 (pc' := 22) (lv' := [(0, .ref 3), (1, .int x1), (2, .int x2)]) (st' := [.int (am_i (-1))]) rfl ?_
    cases hm
    exact am_end (am_fd ck_X8_above (pc := 22) rfl) am_rI rfl rfl
  · replace hm := am_if hm hc2
    refine am_steps ck_X8_above 1 (pc' := 12) (lv' := [(0, .ref 3), (1, .int x1), (2, .int x2)]) (st' := [.int x2]) rfl ?_
    refine am_ifc (tgt := 21) (am_fd ck_X8_above (pc := 12) rfl) rfl (fun hc3 => ?_) (fun hc3 => ?_)
    · replace hm := am_it hm hc3
      refine am_steps ck_X8_above 1 (pc' := 22) (lv' := [(0, .ref 3), (1, .int x1), (2, .int x2)]) (st' := [.int (am_i (-1))]) rfl ?_
      cases hm
      exact am_end (am_fd ck_X8_above (pc := 22) rfl) am_rI rfl rfl
    · replace hm := am_if hm hc3
      refine am_steps ck_X8_above 2 (pc' := 18) (lv' := [(0, .ref 3), (1, .int x1), (2, .int x2)]) (st' := [.int (am_i 12), .int x2]) rfl ?_
      refine am_icmp (tgt := 23) (am_fd ck_X8_above (pc := 18) rfl) rfl (fun hc4 => ?_) (fun hc4 => ?_)
      · replace hm := am_it hm hc4
        refine am_steps ck_X8_above 4 (pc' := 28) (lv' := [(4, .int (am_i 0)), (3, .int x1), (0, .ref 3), (1, .int x1), (2, .int x2)]) (st' := []) rfl ?_
        refine am_subp [2, 4, 1, 0] rfl ?_
        refine x_X8_above_28 hL am_F _ _ hm (fun u8 hm => ?_)
        refine am_steps ck_X8_above 1 (pc' := 55) (lv' := [(3, .int u8)]) (st' := [.int u8]) rfl ?_
        cases hm
        exact am_end (am_fd ck_X8_above (pc := 55) rfl) am_rI rfl rfl
      · replace hm := am_if hm hc4
        refine am_steps ck_X8_above 1 (pc' := 22) (lv' := [(0, .ref 3), (1, .int x1), (2, .int x2)]) (st' := [.int (am_i (-1))]) rfl ?_
        cases hm
        exact am_end (am_fd ck_X8_above (pc := 22) rfl) am_rI rfl rfl
set_option maxRecDepth 100000 in
set_option maxHeartbeats 4000000 in
theorem x_X8_both {G : am_G} {m : am_m} {r : am_rr} {x1 : Int32} {x2 : Int32} {res : Int32} (hL : am_Lay r) (hm : m_X8_both m x1 x2 = some res) : am_Met G mt_X8_both 5 [.ref 3, .int x1, .int x2] (am_hh m r) (some (.int res)) (am_hh m r) := by
  refine am_of (by decide) (Nat.le_of_ble_eq_true rfl) ?_
  unfold m_X8_both at hm
  show am_W G mt_X8_both 5 _ _ 0 [(0, .ref 3), (1, .int x1), (2, .int x2)] [] (am_hh m r)
  refine am_steps ck_X8_both 1 (pc' := 1) (lv' := [(0, .ref 3), (1, .int x1), (2, .int x2)]) (st' := [.ref 3]) rfl ?_
  refine ms_getr (ci := 6) (k := 0) (v := 4) (am_fd ck_X8_both (pc := 1) rfl) tw_190 kc_3 rfl (ly_3_0 hL) (kO og4) ?_
  refine am_steps ck_X8_both 2 (pc' := 6) (lv' := [(0, .ref 3), (1, .int x1), (2, .int x2)]) (st' := [.int x2, .int x1, .ref 4]) rfl ?_
  obtain ⟨q1, hq1, hm⟩ := am_bE hm
  refine ms_callV (M2 := mt_X1_meetingOf) (d2 := 4) (ci := 1) [.int x1, .int x2] (am_fd ck_X8_both (pc := 6) rfl) ok_X1_meetingOf tw_607 tw_608 tw_609 (by decide) (kO og4) (Nat.le_of_ble_eq_true rfl) (Nat.le_of_ble_eq_true rfl) (x_X1_meetingOf hL og4 hq1) ?_
  cases hm
  exact am_end (am_fd ck_X8_both (pc := 9) rfl) am_rI rfl rfl
theorem sw_X8_of_21 : decode mt_X8_of.2.1 21 = .ok (.tableswitch 59 0 2 #[27, 39, 51], 27) := by decide +kernel
set_option maxRecDepth 100000 in
set_option maxHeartbeats 4000000 in
theorem x_X8_of {G : am_G} {m : am_m} {r : am_rr} {x1 : Int32} {x2 : Int32} {x3 : Int32} {res : Int32 × am_m} (hL : am_Lay r) (hm : m_X8_of m x1 x2 x3 = some res) : am_Met G mt_X8_of 6 [.ref 3, .int x1, .int x2, .int x3] (am_hh m r) (some (.int res.1)) (am_hh res.2 r) := by
  refine am_of (by decide) (Nat.le_of_ble_eq_true rfl) ?_
  unfold m_X8_of at hm
  show am_W G mt_X8_of 6 _ _ 0 [(0, .ref 3), (1, .int x1), (2, .int x2), (3, .int x3)] [] (am_hh m r)
  refine am_steps ck_X8_of 1 (pc' := 1) (lv' := [(0, .ref 3), (1, .int x1), (2, .int x2), (3, .int x3)]) (st' := [.ref 3]) rfl ?_
  refine ms_getr (ci := 6) (k := 0) (v := 4) (am_fd ck_X8_of (pc := 1) rfl) tw_190 kc_3 rfl (ly_3_0 hL) (kO og4) ?_
  refine am_steps ck_X8_of 1 (pc' := 5) (lv' := [(0, .ref 3), (1, .int x1), (2, .int x2), (3, .int x3)]) (st' := [.int x1, .ref 4]) rfl ?_
  obtain ⟨q1, hq1, hm⟩ := am_bE hm
  refine ms_callV (M2 := mt_X1_isThere) (d2 := 1) (ci := 1) [.int x1] (am_fd ck_X8_of (pc := 5) rfl) ok_X1_isThere tw_231 tw_232 tw_233 (by decide) (kO og4) (Nat.le_of_ble_eq_true rfl) (Nat.le_of_ble_eq_true rfl) (x_X1_isThere hL og4 hq1) ?_
  refine am_ifc (tgt := 18) (am_fd ck_X8_of (pc := 8) rfl) rfl (fun hc2 => ?_) (fun hc2 => ?_)
  · replace hm := am_it hm hc2
    refine am_steps ck_X8_of 1 (pc' := 19) (lv' := [(0, .ref 3), (1, .int x1), (2, .int x2), (3, .int x3)]) (st' := [.int (am_i (-1))]) rfl ?_
    cases hm
    exact am_end (am_fd ck_X8_of (pc := 19) rfl) am_rI rfl rfl
  · replace hm := am_if hm hc2
    refine am_steps ck_X8_of 1 (pc' := 12) (lv' := [(0, .ref 3), (1, .int x1), (2, .int x2), (3, .int x3)]) (st' := [.int x2]) rfl ?_
    obtain ⟨q3, hq3, hm⟩ := am_bE hm
    refine ms_callS (M2 := mt_X8_isCategory) (d2 := 1) [.int x2] (am_fd ck_X8_of (pc := 12) rfl) ok_X8_isCategory tw_235 tw_236 (Nat.le_of_ble_eq_true rfl) (Nat.le_of_ble_eq_true rfl) (x_X8_isCategory hL hq3) ?_
    refine am_ifc (tgt := 20) (am_fd ck_X8_of (pc := 15) rfl) rfl (fun hc4 => ?_) (fun hc4 => ?_)
    · replace hm := am_it hm hc4
      refine am_steps ck_X8_of 1 (pc' := 21) (lv' := [(0, .ref 3), (1, .int x1), (2, .int x2), (3, .int x3)]) (st' := [.int x3]) rfl ?_
      by_cases hs7 : x3 = am_i 0
      · replace hm := am_it hm hs7
        refine ms_sw (v := 0) (off := 27) (tgt := 48) sw_X8_of_21 hs7 (by decide) (by decide) (by decide) rfl rfl ?_
        refine am_steps ck_X8_of 1 (pc' := 49) (lv' := [(0, .ref 3), (1, .int x1), (2, .int x2), (3, .int x3)]) (st' := [.ref 3]) rfl ?_
        refine ms_getr (ci := 6) (k := 0) (v := 4) (am_fd ck_X8_of (pc := 49) rfl) tw_190 kc_3 rfl (ly_3_0 hL) (kO og4) ?_
        refine ms_getr (ci := 1) (k := 2) (v := (4 + 3)) (am_fd ck_X8_of (pc := 52) rfl) tw_43 (kO og4) rfl (lyO2 hL og4) (kWo og4) ?_
        refine am_steps ck_X8_of 1 (pc' := 56) (lv' := [(0, .ref 3), (1, .int x1), (2, .int x2), (3, .int x3)]) (st' := [.int x1, .ref (4 + 3)]) rfl ?_
        obtain ⟨hb5, hm⟩ := am_gE hm
        refine ms_rald (n := 24) (v := (aW 4 (am_ix x1))) (am_fd ck_X8_of (pc := 56) rfl) (kWo og4) hb5 (lyW hL og4 (am_ixl hb5)) (kW og4 (am_ixl hb5)) ?_
        refine am_steps ck_X8_of 1 (pc' := 58) (lv' := [(0, .ref 3), (1, .int x1), (2, .int x2), (3, .int x3)]) (st' := [.int x2, .ref (aW 4 (am_ix x1))]) rfl ?_
        obtain ⟨hb6, hm⟩ := am_gE hm
        refine ms_iald (n := 64) (am_fd ck_X8_of (pc := 58) rfl) (kW og4 (am_ixl hb5)) hb6 ?_
        cases hm
        exact am_end (am_fd ck_X8_of (pc := 59) rfl) am_rI rfl rfl
      · replace hm := am_if hm hs7
        by_cases hs10 : x3 = am_i 1
        · replace hm := am_it hm hs10
          refine ms_sw (v := 1) (off := 39) (tgt := 60) sw_X8_of_21 hs10 (by decide) (by decide) (by decide) rfl rfl ?_
          refine am_steps ck_X8_of 1 (pc' := 61) (lv' := [(0, .ref 3), (1, .int x1), (2, .int x2), (3, .int x3)]) (st' := [.ref 3]) rfl ?_
          refine ms_getr (ci := 6) (k := 0) (v := 4) (am_fd ck_X8_of (pc := 61) rfl) tw_190 kc_3 rfl (ly_3_0 hL) (kO og4) ?_
          refine ms_getr (ci := 1) (k := 3) (v := (4 + 28)) (am_fd ck_X8_of (pc := 64) rfl) tw_48 (kO og4) rfl (lyO3 hL og4) (kXo og4) ?_
          refine am_steps ck_X8_of 1 (pc' := 68) (lv' := [(0, .ref 3), (1, .int x1), (2, .int x2), (3, .int x3)]) (st' := [.int x1, .ref (4 + 28)]) rfl ?_
          obtain ⟨hb8, hm⟩ := am_gE hm
          refine ms_rald (n := 24) (v := (aX 4 (am_ix x1))) (am_fd ck_X8_of (pc := 68) rfl) (kXo og4) hb8 (lyX hL og4 (am_ixl hb8)) (kX og4 (am_ixl hb8)) ?_
          refine am_steps ck_X8_of 1 (pc' := 70) (lv' := [(0, .ref 3), (1, .int x1), (2, .int x2), (3, .int x3)]) (st' := [.int x2, .ref (aX 4 (am_ix x1))]) rfl ?_
          obtain ⟨hb9, hm⟩ := am_gE hm
          refine ms_iald (n := 64) (am_fd ck_X8_of (pc := 70) rfl) (kX og4 (am_ixl hb8)) hb9 ?_
          cases hm
          exact am_end (am_fd ck_X8_of (pc := 71) rfl) am_rI rfl rfl
        · replace hm := am_if hm hs10
          by_cases hs14 : x3 = am_i 2
          · replace hm := am_it hm hs14
            refine ms_sw (v := 2) (off := 51) (tgt := 72) sw_X8_of_21 hs14 (by decide) (by decide) (by decide) rfl rfl ?_
            refine am_steps ck_X8_of 2 (pc' := 74) (lv' := [(0, .ref 3), (1, .int x1), (2, .int x2), (3, .int x3)]) (st' := [.int x1, .ref 3]) rfl ?_
            obtain ⟨q11, hq11, hm⟩ := am_bE hm
            refine ms_callV (M2 := mt_X8_branchSumOf) (d2 := 5) (ci := 6) [.int x1] (am_fd ck_X8_of (pc := 74) rfl) ok_X8_branchSumOf tw_570 tw_572 ts_17 (by decide) kc_3 (Nat.le_of_ble_eq_true rfl) (Nat.le_of_ble_eq_true rfl) (x_X8_branchSumOf hL hq11) ?_
            obtain ⟨hb12, hm⟩ := am_gE hm
            refine am_steps ck_X8_of 1 (pc' := 78) (lv' := [(0, .ref 3), (1, .int x1), (2, .int x2), (3, .int x3)]) (st' := [.int x2, .ref (aR (am_ix x1))]) rfl ?_
            obtain ⟨hb13, hm⟩ := am_gE hm
            refine ms_iald (n := 64) (am_fd ck_X8_of (pc := 78) rfl) (am_rw _ (am_ixl hb12)) hb13 ?_
            cases hm
            exact am_end (am_fd ck_X8_of (pc := 79) rfl) am_rI rfl rfl
          · replace hm := am_if hm hs14
            refine ms_swd (tgt := 80) sw_X8_of_21 (fun j hj => ?_) rfl ?_
            · have hj2 : j ≤ 2 := by omega
              match j, hj2 with
              | 0, _ => exact hs7
              | 1, _ => exact hs10
              | 2, _ => exact hs14
              | j + 3, h9 => omega
            · refine am_steps ck_X8_of 1 (pc' := 81) (lv' := [(0, .ref 3), (1, .int x1), (2, .int x2), (3, .int x3)]) (st' := [.int (am_i (-1))]) rfl ?_
              cases hm
              exact am_end (am_fd ck_X8_of (pc := 81) rfl) am_rI rfl rfl
    · replace hm := am_if hm hc4
      refine am_steps ck_X8_of 1 (pc' := 19) (lv' := [(0, .ref 3), (1, .int x1), (2, .int x2), (3, .int x3)]) (st' := [.int (am_i (-1))]) rfl ?_
      cases hm
      exact am_end (am_fd ck_X8_of (pc := 19) rfl) am_rI rfl rfl
set_option maxRecDepth 100000 in
set_option maxHeartbeats 4000000 in
theorem x_X8_chain_37 {G : am_G} {x1 : Int32} {x2 : Int32} {x3 : Int32} {m : am_m} {r : am_rr} {y1 : Int32} {y2 : Int32} {y3 : Int32} {y4 : Int32} {res : Int32} {k : Int32 → Option (Int32)} (hL : am_Lay r) : ∀ (n : Nat) (z5 : Int32) (z6 : Int32), m_X8_chain_37 x1 x2 x3 m y1 y2 y3 y4 k n z5 z6 = some res → (∀ (u5 : Int32), k u5 = some res → am_W G mt_X8_chain 5 (some (.int res)) (am_hh m r) 107 [(5, .int u5)] [] (am_hh m r)) → am_W G mt_X8_chain 5 (some (.int res)) (am_hh m r) 37 [(0, .ref 3), (1, .int y1), (2, .int y2), (3, .int y3), (4, .int y4), (5, .int z5), (6, .int z6)] [] (am_hh m r) := by
  intro n
  induction n with
  | zero => intro z5 z6 hm K; cases hm
  | succ n ih =>
    intro z5 z6 hm K
    unfold m_X8_chain_37 at hm
    refine am_steps ck_X8_chain 2 (pc' := 41) (lv' := [(0, .ref 3), (1, .int y1), (2, .int y2), (3, .int y3), (4, .int y4), (5, .int z5), (6, .int z6)]) (st' := [.int (am_i 24), .int z6]) rfl ?_
    refine am_icmp (tgt := 107) (am_fd ck_X8_chain (pc := 41) rfl) rfl (fun hc4 => ?_) (fun hc4 => ?_)
    · replace hm := am_it hm hc4
      refine am_subp [5] rfl ?_
      exact K _ hm
    · replace hm := am_if hm hc4
      refine am_steps ck_X8_chain 1 (pc' := 45) (lv' := [(0, .ref 3), (1, .int y1), (2, .int y2), (3, .int y3), (4, .int y4), (5, .int z5), (6, .int z6)]) (st' := [.ref 3]) rfl ?_
      refine ms_getr (ci := 6) (k := 0) (v := 4) (am_fd ck_X8_chain (pc := 45) rfl) tw_190 kc_3 rfl (ly_3_0 hL) (kO og4) ?_
      refine am_steps ck_X8_chain 4 (pc' := 54) (lv' := [(0, .ref 3), (1, .int y1), (2, .int y2), (3, .int y3), (4, .int y4), (5, .int z5), (6, .int z6)]) (st' := [.int y4, .int y2, .int y1, .int z6, .ref 4]) rfl ?_
      obtain ⟨q5, hq5, hm⟩ := am_bE hm
      refine ms_callV (M2 := mt_X1_isOnChain) (d2 := 4) (ci := 1) [.int z6, .int y1, .int y2, .int y4] (am_fd ck_X8_chain (pc := 54) rfl) ok_X1_isOnChain tw_619 tw_620 tw_621 (by decide) (kO og4) (Nat.le_of_ble_eq_true rfl) (Nat.le_of_ble_eq_true rfl) (x_X1_isOnChain hL og4 hq5) ?_
      refine am_ifc (tgt := 63) (am_fd ck_X8_chain (pc := 57) rfl) rfl (fun hc6 => ?_) (fun hc6 => ?_)
      · replace hm := am_it hm hc6
        refine am_steps ck_X8_chain 3 (pc' := 67) (lv' := [(0, .ref 3), (1, .int y1), (2, .int y2), (3, .int y3), (4, .int y4), (5, .int z5), (6, .int z6)]) (st' := [.int (am_i (-1)), .int y3, .int z5]) rfl ?_
        refine am_icmp (tgt := 86) (am_fd ck_X8_chain (pc := 67) rfl) rfl (fun hc7 => ?_) (fun hc7 => ?_)
        · replace hm := am_it hm hc7
          refine am_steps ck_X8_chain 1 (pc' := 87) (lv' := [(0, .ref 3), (1, .int y1), (2, .int y2), (3, .int y3), (4, .int y4), (5, .int z5), (6, .int z6)]) (st' := [.ref 3, .int z5]) rfl ?_
          refine ms_getr (ci := 6) (k := 0) (v := 4) (am_fd ck_X8_chain (pc := 87) rfl) tw_190 kc_3 rfl (ly_3_0 hL) (kO og4) ?_
          refine ms_getr (ci := 1) (k := 2) (v := (4 + 3)) (am_fd ck_X8_chain (pc := 90) rfl) tw_43 (kO og4) rfl (lyO2 hL og4) (kWo og4) ?_
          refine am_steps ck_X8_chain 1 (pc' := 95) (lv' := [(0, .ref 3), (1, .int y1), (2, .int y2), (3, .int y3), (4, .int y4), (5, .int z5), (6, .int z6)]) (st' := [.int z6, .ref (4 + 3), .int z5]) rfl ?_
          obtain ⟨hb8, hm⟩ := am_gE hm
          refine ms_rald (n := 24) (v := (aW 4 (am_ix z6))) (am_fd ck_X8_chain (pc := 95) rfl) (kWo og4) hb8 (lyW hL og4 (am_ixl hb8)) (kW og4 (am_ixl hb8)) ?_
          refine am_steps ck_X8_chain 1 (pc' := 97) (lv' := [(0, .ref 3), (1, .int y1), (2, .int y2), (3, .int y3), (4, .int y4), (5, .int z5), (6, .int z6)]) (st' := [.int y3, .ref (aW 4 (am_ix z6)), .int z5]) rfl ?_
          obtain ⟨hb9, hm⟩ := am_gE hm
          refine ms_iald (n := 64) (am_fd ck_X8_chain (pc := 97) rfl) (kW og4 (am_ixl hb8)) hb9 ?_
          refine am_steps ck_X8_chain 4 (pc' := 37) (lv' := [(6, .int (z6 + am_i 1)), (5, .int (z5 + (m (aW 4 (am_ix z6)) (am_ix y3)))), (0, .ref 3), (1, .int y1), (2, .int y2), (3, .int y3), (4, .int y4)]) (st' := []) rfl ?_
          refine am_subp [2, 3, 4, 5, 6, 1, 0] rfl ?_
          exact ih _ _ hm K
        · replace hm := am_if hm hc7
          refine am_steps ck_X8_chain 1 (pc' := 71) (lv' := [(0, .ref 3), (1, .int y1), (2, .int y2), (3, .int y3), (4, .int y4), (5, .int z5), (6, .int z6)]) (st' := [.ref 3, .int z5]) rfl ?_
          refine ms_getr (ci := 6) (k := 0) (v := 4) (am_fd ck_X8_chain (pc := 71) rfl) tw_190 kc_3 rfl (ly_3_0 hL) (kO og4) ?_
          refine ms_getr (ci := 1) (k := 2) (v := (4 + 3)) (am_fd ck_X8_chain (pc := 74) rfl) tw_43 (kO og4) rfl (lyO2 hL og4) (kWo og4) ?_
          refine am_steps ck_X8_chain 1 (pc' := 79) (lv' := [(0, .ref 3), (1, .int y1), (2, .int y2), (3, .int y3), (4, .int y4), (5, .int z5), (6, .int z6)]) (st' := [.int z6, .ref (4 + 3), .int z5]) rfl ?_
          obtain ⟨hb10, hm⟩ := am_gE hm
          refine ms_rald (n := 24) (v := (aW 4 (am_ix z6))) (am_fd ck_X8_chain (pc := 79) rfl) (kWo og4) hb10 (lyW hL og4 (am_ixl hb10)) (kW og4 (am_ixl hb10)) ?_
          obtain ⟨q11, hq11, hm⟩ := am_bE hm
          refine ms_callS (M2 := mt_X5_allOf) (d2 := 2) [.ref (aW 4 (am_ix z6))] (am_fd ck_X8_chain (pc := 80) rfl) ok_X5_allOf tw_585 tw_586 (Nat.le_of_ble_eq_true rfl) (Nat.le_of_ble_eq_true rfl) (x_X5_allOf hL (kW og4 (am_ixl hb10)) hq11) ?_
          refine am_steps ck_X8_chain 5 (pc' := 37) (lv' := [(6, .int (z6 + am_i 1)), (5, .int (z5 + q11)), (0, .ref 3), (1, .int y1), (2, .int y2), (3, .int y3), (4, .int y4)]) (st' := []) rfl ?_
          refine am_subp [2, 3, 4, 5, 6, 1, 0] rfl ?_
          exact ih _ _ hm K
      · replace hm := am_if hm hc6
        refine am_steps ck_X8_chain 3 (pc' := 37) (lv' := [(6, .int (z6 + am_i 1)), (0, .ref 3), (1, .int y1), (2, .int y2), (3, .int y3), (4, .int y4), (5, .int z5)]) (st' := []) rfl ?_
        refine am_subp [1, 2, 3, 4, 5, 6, 0] rfl ?_
        exact ih _ _ hm K
set_option maxRecDepth 100000 in
set_option maxHeartbeats 4000000 in
theorem x_X8_chain {G : am_G} {m : am_m} {r : am_rr} {x1 : Int32} {x2 : Int32} {x3 : Int32} {res : Int32} (hL : am_Lay r) (hm : m_X8_chain m x1 x2 x3 = some res) : am_Met G mt_X8_chain 5 [.ref 3, .int x1, .int x2, .int x3] (am_hh m r) (some (.int res)) (am_hh m r) := by
  refine am_of (by decide) (Nat.le_of_ble_eq_true rfl) ?_
  unfold m_X8_chain at hm
  show am_W G mt_X8_chain 5 _ _ 0 [(0, .ref 3), (1, .int x1), (2, .int x2), (3, .int x3)] [] (am_hh m r)
  refine am_steps ck_X8_chain 1 (pc' := 1) (lv' := [(0, .ref 3), (1, .int x1), (2, .int x2), (3, .int x3)]) (st' := [.ref 3]) rfl ?_
  refine ms_getr (ci := 6) (k := 0) (v := 4) (am_fd ck_X8_chain (pc := 1) rfl) tw_190 kc_3 rfl (ly_3_0 hL) (kO og4) ?_
  refine am_steps ck_X8_chain 2 (pc' := 6) (lv' := [(0, .ref 3), (1, .int x1), (2, .int x2), (3, .int x3)]) (st' := [.int x2, .int x1, .ref 4]) rfl ?_
  obtain ⟨q1, hq1, hm⟩ := am_bE hm
  refine ms_callV (M2 := mt_X1_meetingOf) (d2 := 4) (ci := 1) [.int x1, .int x2] (am_fd ck_X8_chain (pc := 6) rfl) ok_X1_meetingOf tw_607 tw_608 tw_609 (by decide) (kO og4) (Nat.le_of_ble_eq_true rfl) (Nat.le_of_ble_eq_true rfl) (x_X1_meetingOf hL og4 hq1) ?_
  refine am_steps ck_X8_chain 3 (pc' := 14) (lv' := [(4, .int q1), (0, .ref 3), (1, .int x1), (2, .int x2), (3, .int x3)]) (st' := [.int (am_i (-1)), .int q1]) rfl ?_
  refine am_icmp (tgt := 29) (am_fd ck_X8_chain (pc := 14) rfl) rfl (fun hc2 => ?_) (fun hc2 => ?_)
  · replace hm := am_it hm hc2
    refine am_steps ck_X8_chain 1 (pc' := 30) (lv' := [(4, .int q1), (0, .ref 3), (1, .int x1), (2, .int x2), (3, .int x3)]) (st' := [.int (am_i (-1))]) rfl ?_
    cases hm
    exact am_end (am_fd ck_X8_chain (pc := 30) rfl) am_rI rfl rfl
  · replace hm := am_if hm hc2
    refine am_steps ck_X8_chain 2 (pc' := 19) (lv' := [(4, .int q1), (0, .ref 3), (1, .int x1), (2, .int x2), (3, .int x3)]) (st' := [.int (am_i (-1)), .int x3]) rfl ?_
    refine am_icmp (tgt := 31) (am_fd ck_X8_chain (pc := 19) rfl) rfl (fun hc3 => ?_) (fun hc3 => ?_)
    · replace hm := am_it hm hc3
      refine am_steps ck_X8_chain 4 (pc' := 37) (lv' := [(6, .int (am_i 0)), (5, .int (am_i 0)), (4, .int q1), (0, .ref 3), (1, .int x1), (2, .int x2), (3, .int x3)]) (st' := []) rfl ?_
      refine am_subp [3, 4, 5, 6, 2, 1, 0] rfl ?_
      refine x_X8_chain_37 hL am_F _ _ hm (fun u12 hm => ?_)
      refine am_steps ck_X8_chain 1 (pc' := 109) (lv' := [(5, .int u12)]) (st' := [.int u12]) rfl ?_
      cases hm
      exact am_end (am_fd ck_X8_chain (pc := 109) rfl) am_rI rfl rfl
    · replace hm := am_if hm hc3
      refine am_steps ck_X8_chain 1 (pc' := 23) (lv' := [(4, .int q1), (0, .ref 3), (1, .int x1), (2, .int x2), (3, .int x3)]) (st' := [.int x3]) rfl ?_
      obtain ⟨q13, hq13, hm⟩ := am_bE hm
      refine ms_callS (M2 := mt_X8_isCategory) (d2 := 1) [.int x3] (am_fd ck_X8_chain (pc := 23) rfl) ok_X8_isCategory tw_235 tw_236 (Nat.le_of_ble_eq_true rfl) (Nat.le_of_ble_eq_true rfl) (x_X8_isCategory hL hq13) ?_
      refine am_ifc (tgt := 31) (am_fd ck_X8_chain (pc := 26) rfl) rfl (fun hc14 => ?_) (fun hc14 => ?_)
      · replace hm := am_it hm hc14
        refine am_steps ck_X8_chain 4 (pc' := 37) (lv' := [(6, .int (am_i 0)), (5, .int (am_i 0)), (4, .int q1), (0, .ref 3), (1, .int x1), (2, .int x2), (3, .int x3)]) (st' := []) rfl ?_
        refine am_subp [3, 4, 5, 6, 2, 1, 0] rfl ?_
        refine x_X8_chain_37 hL am_F _ _ hm (fun u15 hm => ?_)
        refine am_steps ck_X8_chain 1 (pc' := 109) (lv' := [(5, .int u15)]) (st' := [.int u15]) rfl ?_
        cases hm
        exact am_end (am_fd ck_X8_chain (pc := 109) rfl) am_rI rfl rfl
      · replace hm := am_if hm hc14
        refine am_steps ck_X8_chain 1 (pc' := 30) (lv' := [(4, .int q1), (0, .ref 3), (1, .int x1), (2, .int x2), (3, .int x3)]) (st' := [.int (am_i (-1))]) rfl ?_
        cases hm
        exact am_end (am_fd ck_X8_chain (pc := 30) rfl) am_rI rfl rfl
set_option maxRecDepth 100000 in
set_option maxHeartbeats 4000000 in
theorem x_X8_hops {G : am_G} {m : am_m} {r : am_rr} {x1 : Int32} {x2 : Int32} {res : Int32} (hL : am_Lay r) (hm : m_X8_hops m x1 x2 = some res) : am_Met G mt_X8_hops 5 [.ref 3, .int x1, .int x2] (am_hh m r) (some (.int res)) (am_hh m r) := by
  refine am_of (by decide) (Nat.le_of_ble_eq_true rfl) ?_
  unfold m_X8_hops at hm
  show am_W G mt_X8_hops 5 _ _ 0 [(0, .ref 3), (1, .int x1), (2, .int x2)] [] (am_hh m r)
  refine am_steps ck_X8_hops 1 (pc' := 1) (lv' := [(0, .ref 3), (1, .int x1), (2, .int x2)]) (st' := [.ref 3]) rfl ?_
  refine ms_getr (ci := 6) (k := 0) (v := 4) (am_fd ck_X8_hops (pc := 1) rfl) tw_190 kc_3 rfl (ly_3_0 hL) (kO og4) ?_
  refine am_steps ck_X8_hops 2 (pc' := 6) (lv' := [(0, .ref 3), (1, .int x1), (2, .int x2)]) (st' := [.int x2, .int x1, .ref 4]) rfl ?_
  obtain ⟨q1, hq1, hm⟩ := am_bE hm
  refine ms_callV (M2 := mt_X1_meetingOf) (d2 := 4) (ci := 1) [.int x1, .int x2] (am_fd ck_X8_hops (pc := 6) rfl) ok_X1_meetingOf tw_607 tw_608 tw_609 (by decide) (kO og4) (Nat.le_of_ble_eq_true rfl) (Nat.le_of_ble_eq_true rfl) (x_X1_meetingOf hL og4 hq1) ?_
  refine am_steps ck_X8_hops 3 (pc' := 12) (lv' := [(3, .int q1), (0, .ref 3), (1, .int x1), (2, .int x2)]) (st' := [.int (am_i (-1)), .int q1]) rfl ?_
  refine am_icmp (tgt := 17) (am_fd ck_X8_hops (pc := 12) rfl) rfl (fun hc2 => ?_) (fun hc2 => ?_)
  · replace hm := am_it hm hc2
    refine am_steps ck_X8_hops 1 (pc' := 18) (lv' := [(3, .int q1), (0, .ref 3), (1, .int x1), (2, .int x2)]) (st' := [.ref 3]) rfl ?_
    refine ms_getr (ci := 6) (k := 0) (v := 4) (am_fd ck_X8_hops (pc := 18) rfl) tw_190 kc_3 rfl (ly_3_0 hL) (kO og4) ?_
    refine am_steps ck_X8_hops 1 (pc' := 22) (lv' := [(3, .int q1), (0, .ref 3), (1, .int x1), (2, .int x2)]) (st' := [.int x1, .ref 4]) rfl ?_
    obtain ⟨q3, hq3, hm⟩ := am_bE hm
    refine ms_callV (M2 := mt_X1_depthOf) (d2 := 3) (ci := 1) [.int x1] (am_fd ck_X8_hops (pc := 22) rfl) ok_X1_depthOf tw_268 tw_269 tw_270 (by decide) (kO og4) (Nat.le_of_ble_eq_true rfl) (Nat.le_of_ble_eq_true rfl) (x_X1_depthOf hL og4 hq3) ?_
    refine am_steps ck_X8_hops 1 (pc' := 26) (lv' := [(3, .int q1), (0, .ref 3), (1, .int x1), (2, .int x2)]) (st' := [.ref 3, .int q3]) rfl ?_
    refine ms_getr (ci := 6) (k := 0) (v := 4) (am_fd ck_X8_hops (pc := 26) rfl) tw_190 kc_3 rfl (ly_3_0 hL) (kO og4) ?_
    refine am_steps ck_X8_hops 1 (pc' := 30) (lv' := [(3, .int q1), (0, .ref 3), (1, .int x1), (2, .int x2)]) (st' := [.int x2, .ref 4, .int q3]) rfl ?_
    obtain ⟨q4, hq4, hm⟩ := am_bE hm
    refine ms_callV (M2 := mt_X1_depthOf) (d2 := 3) (ci := 1) [.int x2] (am_fd ck_X8_hops (pc := 30) rfl) ok_X1_depthOf tw_268 tw_269 tw_270 (by decide) (kO og4) (Nat.le_of_ble_eq_true rfl) (Nat.le_of_ble_eq_true rfl) (x_X1_depthOf hL og4 hq4) ?_
    refine am_steps ck_X8_hops 3 (pc' := 36) (lv' := [(3, .int q1), (0, .ref 3), (1, .int x1), (2, .int x2)]) (st' := [.ref 3, .int (am_i 2), .int (q3 + q4)]) rfl ?_
    refine ms_getr (ci := 6) (k := 0) (v := 4) (am_fd ck_X8_hops (pc := 36) rfl) tw_190 kc_3 rfl (ly_3_0 hL) (kO og4) ?_
    refine am_steps ck_X8_hops 1 (pc' := 40) (lv' := [(3, .int q1), (0, .ref 3), (1, .int x1), (2, .int x2)]) (st' := [.int q1, .ref 4, .int (am_i 2), .int (q3 + q4)]) rfl ?_
    obtain ⟨q5, hq5, hm⟩ := am_bE hm
    refine ms_callV (M2 := mt_X1_depthOf) (d2 := 3) (ci := 1) [.int q1] (am_fd ck_X8_hops (pc := 40) rfl) ok_X1_depthOf tw_268 tw_269 tw_270 (by decide) (kO og4) (Nat.le_of_ble_eq_true rfl) (Nat.le_of_ble_eq_true rfl) (x_X1_depthOf hL og4 hq5) ?_
    refine am_steps ck_X8_hops 4 (pc' := 47) (lv' := [(3, .int q1), (0, .ref 3), (1, .int x1), (2, .int x2)]) (st' := [.int (((q3 + q4) - ((am_i 2) * q5)) + (am_i 1))]) rfl ?_
    cases hm
    exact am_end (am_fd ck_X8_hops (pc := 47) rfl) am_rI rfl rfl
  · replace hm := am_if hm hc2
    refine am_steps ck_X8_hops 1 (pc' := 16) (lv' := [(3, .int q1), (0, .ref 3), (1, .int x1), (2, .int x2)]) (st' := [.int (am_i (-1))]) rfl ?_
    cases hm
    exact am_end (am_fd ck_X8_hops (pc := 16) rfl) am_rI rfl rfl
set_option maxRecDepth 100000 in
set_option maxHeartbeats 4000000 in
theorem x_X8_ranked {G : am_G} {m : am_m} {r : am_rr} {x1 : Int32} {x2 : Int32} {res : Int32} (hL : am_Lay r) (hm : m_X8_ranked m x1 x2 = some res) : am_Met G mt_X8_ranked 2 [.ref 3, .int x1, .int x2] (am_hh m r) (some (.int res)) (am_hh m r) := by
  refine am_of (by decide) (Nat.le_of_ble_eq_true rfl) ?_
  unfold m_X8_ranked at hm
  show am_W G mt_X8_ranked 2 _ _ 0 [(0, .ref 3), (1, .int x1), (2, .int x2)] [] (am_hh m r)
  refine am_steps ck_X8_ranked 1 (pc' := 1) (lv' := [(0, .ref 3), (1, .int x1), (2, .int x2)]) (st' := [.ref 3]) rfl ?_
  refine ms_getr (ci := 6) (k := 0) (v := 4) (am_fd ck_X8_ranked (pc := 1) rfl) tw_190 kc_3 rfl (ly_3_0 hL) (kO og4) ?_
  refine am_steps ck_X8_ranked 1 (pc' := 5) (lv' := [(0, .ref 3), (1, .int x1), (2, .int x2)]) (st' := [.int x1, .ref 4]) rfl ?_
  obtain ⟨q1, hq1, hm⟩ := am_bE hm
  refine ms_callV (M2 := mt_X1_isThere) (d2 := 1) (ci := 1) [.int x1] (am_fd ck_X8_ranked (pc := 5) rfl) ok_X1_isThere tw_231 tw_232 tw_233 (by decide) (kO og4) (Nat.le_of_ble_eq_true rfl) (Nat.le_of_ble_eq_true rfl) (x_X1_isThere hL og4 hq1) ?_
  refine am_ifc (tgt := 27) (am_fd ck_X8_ranked (pc := 8) rfl) rfl (fun hc2 => ?_) (fun hc2 => ?_)
  · replace hm := am_it hm hc2
    refine am_steps ck_X8_ranked 1 (pc' := 28) (lv' := [(0, .ref 3), (1, .int x1), (2, .int x2)]) (st' := [.int (am_i (-1))]) rfl ?_
    cases hm
    exact am_end (am_fd ck_X8_ranked (pc := 28) rfl) am_rI rfl rfl
  · replace hm := am_if hm hc2
    refine am_steps ck_X8_ranked 1 (pc' := 12) (lv' := [(0, .ref 3), (1, .int x1), (2, .int x2)]) (st' := [.ref 3]) rfl ?_
    refine ms_getr (ci := 6) (k := 0) (v := 4) (am_fd ck_X8_ranked (pc := 12) rfl) tw_190 kc_3 rfl (ly_3_0 hL) (kO og4) ?_
    refine ms_getr (ci := 1) (k := 3) (v := (4 + 28)) (am_fd ck_X8_ranked (pc := 15) rfl) tw_48 (kO og4) rfl (lyO3 hL og4) (kXo og4) ?_
    refine am_steps ck_X8_ranked 1 (pc' := 19) (lv' := [(0, .ref 3), (1, .int x1), (2, .int x2)]) (st' := [.int x1, .ref (4 + 28)]) rfl ?_
    obtain ⟨hb3, hm⟩ := am_gE hm
    refine ms_rald (n := 24) (v := (aX 4 (am_ix x1))) (am_fd ck_X8_ranked (pc := 19) rfl) (kXo og4) hb3 (lyX hL og4 (am_ixl hb3)) (kX og4 (am_ixl hb3)) ?_
    refine am_steps ck_X8_ranked 1 (pc' := 21) (lv' := [(0, .ref 3), (1, .int x1), (2, .int x2)]) (st' := [.int x2, .ref (aX 4 (am_ix x1))]) rfl ?_
    obtain ⟨q4, hq4, hm⟩ := am_bE hm
    refine ms_callS (M2 := mt_X5_categoryAt) (d2 := 1) [.ref (aX 4 (am_ix x1)), .int x2] (am_fd ck_X8_ranked (pc := 21) rfl) ok_X5_categoryAt tw_631 tw_632 (Nat.le_of_ble_eq_true rfl) (Nat.le_of_ble_eq_true rfl) (x_X5_categoryAt hL (kX og4 (am_ixl hb3)) hq4) ?_
    refine am_steps ck_X8_ranked 1 (pc' := 28) (lv' := [(0, .ref 3), (1, .int x1), (2, .int x2)]) (st' := [.int q4]) rfl ?_
    cases hm
    exact am_end (am_fd ck_X8_ranked (pc := 28) rfl) am_rI rfl rfl
set_option maxRecDepth 100000 in
set_option maxHeartbeats 4000000 in
theorem x_X8_less {G : am_G} {m : am_m} {r : am_rr} {x1 : Int32} {x2 : Int32} {res : Int32} (hL : am_Lay r) (hm : m_X8_less m x1 x2 = some res) : am_Met G mt_X8_less 2 [.ref 3, .int x1, .int x2] (am_hh m r) (some (.int res)) (am_hh m r) := by
  refine am_of (by decide) (Nat.le_of_ble_eq_true rfl) ?_
  unfold m_X8_less at hm
  show am_W G mt_X8_less 2 _ _ 0 [(0, .ref 3), (1, .int x1), (2, .int x2)] [] (am_hh m r)
  refine am_steps ck_X8_less 1 (pc' := 1) (lv' := [(0, .ref 3), (1, .int x1), (2, .int x2)]) (st' := [.ref 3]) rfl ?_
  refine ms_getr (ci := 6) (k := 0) (v := 4) (am_fd ck_X8_less (pc := 1) rfl) tw_190 kc_3 rfl (ly_3_0 hL) (kO og4) ?_
  refine am_steps ck_X8_less 1 (pc' := 5) (lv' := [(0, .ref 3), (1, .int x1), (2, .int x2)]) (st' := [.int x1, .ref 4]) rfl ?_
  obtain ⟨q1, hq1, hm⟩ := am_bE hm
  refine ms_callV (M2 := mt_X1_isThere) (d2 := 1) (ci := 1) [.int x1] (am_fd ck_X8_less (pc := 5) rfl) ok_X1_isThere tw_231 tw_232 tw_233 (by decide) (kO og4) (Nat.le_of_ble_eq_true rfl) (Nat.le_of_ble_eq_true rfl) (x_X1_isThere hL og4 hq1) ?_
  refine am_ifc (tgt := 21) (am_fd ck_X8_less (pc := 8) rfl) rfl (fun hc2 => ?_) (fun hc2 => ?_)
  · replace hm := am_it hm hc2
    refine am_steps ck_X8_less 1 (pc' := 22) (lv' := [(0, .ref 3), (1, .int x1), (2, .int x2)]) (st' := [.int (am_i (-1))]) rfl ?_
    cases hm
    exact am_end (am_fd ck_X8_less (pc := 22) rfl) am_rI rfl rfl
  · replace hm := am_if hm hc2
    refine am_steps ck_X8_less 1 (pc' := 12) (lv' := [(0, .ref 3), (1, .int x1), (2, .int x2)]) (st' := [.int x2]) rfl ?_
    refine am_ifc (tgt := 21) (am_fd ck_X8_less (pc := 12) rfl) rfl (fun hc3 => ?_) (fun hc3 => ?_)
    · replace hm := am_it hm hc3
      refine am_steps ck_X8_less 1 (pc' := 22) (lv' := [(0, .ref 3), (1, .int x1), (2, .int x2)]) (st' := [.int (am_i (-1))]) rfl ?_
      cases hm
      exact am_end (am_fd ck_X8_less (pc := 22) rfl) am_rI rfl rfl
    · replace hm := am_if hm hc3
      refine am_steps ck_X8_less 2 (pc' := 18) (lv' := [(0, .ref 3), (1, .int x1), (2, .int x2)]) (st' := [.int (am_i 64), .int x2]) rfl ?_
      refine am_icmp (tgt := 23) (am_fd ck_X8_less (pc := 18) rfl) rfl (fun hc4 => ?_) (fun hc4 => ?_)
      · replace hm := am_it hm hc4
        refine am_steps ck_X8_less 1 (pc' := 24) (lv' := [(0, .ref 3), (1, .int x1), (2, .int x2)]) (st' := [.ref 3]) rfl ?_
        refine ms_getr (ci := 6) (k := 0) (v := 4) (am_fd ck_X8_less (pc := 24) rfl) tw_190 kc_3 rfl (ly_3_0 hL) (kO og4) ?_
        refine ms_getr (ci := 1) (k := 3) (v := (4 + 28)) (am_fd ck_X8_less (pc := 27) rfl) tw_48 (kO og4) rfl (lyO3 hL og4) (kXo og4) ?_
        refine am_steps ck_X8_less 1 (pc' := 31) (lv' := [(0, .ref 3), (1, .int x1), (2, .int x2)]) (st' := [.int x1, .ref (4 + 28)]) rfl ?_
        obtain ⟨hb5, hm⟩ := am_gE hm
        refine ms_rald (n := 24) (v := (aX 4 (am_ix x1))) (am_fd ck_X8_less (pc := 31) rfl) (kXo og4) hb5 (lyX hL og4 (am_ixl hb5)) (kX og4 (am_ixl hb5)) ?_
        refine am_steps ck_X8_less 4 (pc' := 36) (lv' := [(0, .ref 3), (1, .int x1), (2, .int x2)]) (st' := [.int (x2 - (am_i 1)), .int (am_i 0), .ref (aX 4 (am_ix x1))]) rfl ?_
        obtain ⟨q6, hq6, hm⟩ := am_bE hm
        refine ms_callS (M2 := mt_X5_totalOf) (d2 := 1) [.ref (aX 4 (am_ix x1)), .int (am_i 0), .int (x2 - (am_i 1))] (am_fd ck_X8_less (pc := 36) rfl) ok_X5_totalOf tw_521 tw_522 (Nat.le_of_ble_eq_true rfl) (Nat.le_of_ble_eq_true rfl) (x_X5_totalOf hL (kX og4 (am_ixl hb5)) hq6) ?_
        cases hm
        exact am_end (am_fd ck_X8_less (pc := 39) rfl) am_rI rfl rfl
      · replace hm := am_if hm hc4
        refine am_steps ck_X8_less 1 (pc' := 22) (lv' := [(0, .ref 3), (1, .int x1), (2, .int x2)]) (st' := [.int (am_i (-1))]) rfl ?_
        cases hm
        exact am_end (am_fd ck_X8_less (pc := 22) rfl) am_rI rfl rfl
set_option maxRecDepth 100000 in
set_option maxHeartbeats 4000000 in
theorem x_X8_leader {G : am_G} {m : am_m} {r : am_rr} {x1 : Int32} {x2 : Int32} {x3 : Int32} {res : Int32} (hL : am_Lay r) (hm : m_X8_leader m x1 x2 x3 = some res) : am_Met G mt_X8_leader 4 [.ref 3, .int x1, .int x2, .int x3] (am_hh m r) (some (.int res)) (am_hh m r) := by
  refine am_of (by decide) (Nat.le_of_ble_eq_true rfl) ?_
  unfold m_X8_leader at hm
  show am_W G mt_X8_leader 4 _ _ 0 [(0, .ref 3), (1, .int x1), (2, .int x2), (3, .int x3)] [] (am_hh m r)
  refine am_steps ck_X8_leader 1 (pc' := 1) (lv' := [(0, .ref 3), (1, .int x1), (2, .int x2), (3, .int x3)]) (st' := [.ref 3]) rfl ?_
  refine ms_getr (ci := 6) (k := 0) (v := 4) (am_fd ck_X8_leader (pc := 1) rfl) tw_190 kc_3 rfl (ly_3_0 hL) (kO og4) ?_
  refine am_steps ck_X8_leader 1 (pc' := 5) (lv' := [(0, .ref 3), (1, .int x1), (2, .int x2), (3, .int x3)]) (st' := [.int x1, .ref 4]) rfl ?_
  obtain ⟨q1, hq1, hm⟩ := am_bE hm
  refine ms_callV (M2 := mt_X1_isThere) (d2 := 1) (ci := 1) [.int x1] (am_fd ck_X8_leader (pc := 5) rfl) ok_X1_isThere tw_231 tw_232 tw_233 (by decide) (kO og4) (Nat.le_of_ble_eq_true rfl) (Nat.le_of_ble_eq_true rfl) (x_X1_isThere hL og4 hq1) ?_
  refine am_ifc (tgt := 20) (am_fd ck_X8_leader (pc := 8) rfl) rfl (fun hc2 => ?_) (fun hc2 => ?_)
  · replace hm := am_it hm hc2
    refine am_steps ck_X8_leader 1 (pc' := 21) (lv' := [(0, .ref 3), (1, .int x1), (2, .int x2), (3, .int x3)]) (st' := [.int (am_i (-1))]) rfl ?_
    cases hm
    exact am_end (am_fd ck_X8_leader (pc := 21) rfl) am_rI rfl rfl
  · replace hm := am_if hm hc2
    refine am_steps ck_X8_leader 1 (pc' := 12) (lv' := [(0, .ref 3), (1, .int x1), (2, .int x2), (3, .int x3)]) (st' := [.int x3]) rfl ?_
    refine am_ifc (tgt := 20) (am_fd ck_X8_leader (pc := 12) rfl) rfl (fun hc3 => ?_) (fun hc3 => ?_)
    · replace hm := am_it hm hc3
      refine am_steps ck_X8_leader 1 (pc' := 21) (lv' := [(0, .ref 3), (1, .int x1), (2, .int x2), (3, .int x3)]) (st' := [.int (am_i (-1))]) rfl ?_
      cases hm
      exact am_end (am_fd ck_X8_leader (pc := 21) rfl) am_rI rfl rfl
    · replace hm := am_if hm hc3
      refine am_steps ck_X8_leader 2 (pc' := 17) (lv' := [(0, .ref 3), (1, .int x1), (2, .int x2), (3, .int x3)]) (st' := [.int (am_i 1), .int x3]) rfl ?_
      refine am_icmp (tgt := 22) (am_fd ck_X8_leader (pc := 17) rfl) rfl (fun hc4 => ?_) (fun hc4 => ?_)
      · replace hm := am_it hm hc4
        refine am_steps ck_X8_leader 1 (pc' := 23) (lv' := [(0, .ref 3), (1, .int x1), (2, .int x2), (3, .int x3)]) (st' := [.ref 3]) rfl ?_
        refine ms_getr (ci := 6) (k := 0) (v := 4) (am_fd ck_X8_leader (pc := 23) rfl) tw_190 kc_3 rfl (ly_3_0 hL) (kO og4) ?_
        refine ms_getr (ci := 1) (k := 3) (v := (4 + 28)) (am_fd ck_X8_leader (pc := 26) rfl) tw_48 (kO og4) rfl (lyO3 hL og4) (kXo og4) ?_
        refine am_steps ck_X8_leader 1 (pc' := 30) (lv' := [(0, .ref 3), (1, .int x1), (2, .int x2), (3, .int x3)]) (st' := [.int x1, .ref (4 + 28)]) rfl ?_
        obtain ⟨hb5, hm⟩ := am_gE hm
        refine ms_rald (n := 24) (v := (aX 4 (am_ix x1))) (am_fd ck_X8_leader (pc := 30) rfl) (kXo og4) hb5 (lyX hL og4 (am_ixl hb5)) (kX og4 (am_ixl hb5)) ?_
        refine am_steps ck_X8_leader 3 (pc' := 36) (lv' := [(4, .ref (aX 4 (am_ix x1))), (0, .ref 3), (1, .int x1), (2, .int x2), (3, .int x3)]) (st' := [.int x2, .ref (aX 4 (am_ix x1))]) rfl ?_
        obtain ⟨q6, hq6, hm⟩ := am_bE hm
        refine ms_callS (M2 := mt_X5_leaderAt) (d2 := 3) [.ref (aX 4 (am_ix x1)), .int x2] (am_fd ck_X8_leader (pc := 36) rfl) ok_X5_leaderAt tw_642 tw_643 (Nat.le_of_ble_eq_true rfl) (Nat.le_of_ble_eq_true rfl) (x_X5_leaderAt hL (kX og4 (am_ixl hb5)) hq6) ?_
        refine am_steps ck_X8_leader 3 (pc' := 44) (lv' := [(5, .int q6), (4, .ref (aX 4 (am_ix x1))), (0, .ref 3), (1, .int x1), (2, .int x2), (3, .int x3)]) (st' := [.int (am_i (-1)), .int q6]) rfl ?_
        refine am_icmp (tgt := 49) (am_fd ck_X8_leader (pc := 44) rfl) rfl (fun hc7 => ?_) (fun hc7 => ?_)
        · replace hm := am_it hm hc7
          refine am_steps ck_X8_leader 1 (pc' := 50) (lv' := [(5, .int q6), (4, .ref (aX 4 (am_ix x1))), (0, .ref 3), (1, .int x1), (2, .int x2), (3, .int x3)]) (st' := [.int x3]) rfl ?_
          refine am_ifc (tgt := 58) (am_fd ck_X8_leader (pc := 50) rfl) rfl (fun hc8 => ?_) (fun hc8 => ?_)
          · replace hm := am_it hm hc8
            refine am_steps ck_X8_leader 2 (pc' := 62) (lv' := [(5, .int q6), (4, .ref (aX 4 (am_ix x1))), (0, .ref 3), (1, .int x1), (2, .int x2), (3, .int x3)]) (st' := [.int q6, .ref (aX 4 (am_ix x1))]) rfl ?_
            obtain ⟨hb9, hm⟩ := am_gE hm
            refine ms_iald (n := 64) (am_fd ck_X8_leader (pc := 62) rfl) (kX og4 (am_ixl hb5)) hb9 ?_
            cases hm
            exact am_end (am_fd ck_X8_leader (pc := 63) rfl) am_rI rfl rfl
          · replace hm := am_if hm hc8
            refine am_steps ck_X8_leader 2 (pc' := 63) (lv' := [(5, .int q6), (4, .ref (aX 4 (am_ix x1))), (0, .ref 3), (1, .int x1), (2, .int x2), (3, .int x3)]) (st' := [.int q6]) rfl ?_
            cases hm
            exact am_end (am_fd ck_X8_leader (pc := 63) rfl) am_rI rfl rfl
        · replace hm := am_if hm hc7
          refine am_steps ck_X8_leader 1 (pc' := 48) (lv' := [(5, .int q6), (4, .ref (aX 4 (am_ix x1))), (0, .ref 3), (1, .int x1), (2, .int x2), (3, .int x3)]) (st' := [.int (am_i (-1))]) rfl ?_
          cases hm
          exact am_end (am_fd ck_X8_leader (pc := 48) rfl) am_rI rfl rfl
      · replace hm := am_if hm hc4
        refine am_steps ck_X8_leader 1 (pc' := 21) (lv' := [(0, .ref 3), (1, .int x1), (2, .int x2), (3, .int x3)]) (st' := [.int (am_i (-1))]) rfl ?_
        cases hm
        exact am_end (am_fd ck_X8_leader (pc := 21) rfl) am_rI rfl rfl
set_option maxRecDepth 100000 in
set_option maxHeartbeats 4000000 in
theorem x_X8_median {G : am_G} {m : am_m} {r : am_rr} {x1 : Int32} {res : Int32} (hL : am_Lay r) (hm : m_X8_median m x1 = some res) : am_Met G mt_X8_median 3 [.ref 3, .int x1] (am_hh m r) (some (.int res)) (am_hh m r) := by
  refine am_of (by decide) (Nat.le_of_ble_eq_true rfl) ?_
  unfold m_X8_median at hm
  show am_W G mt_X8_median 3 _ _ 0 [(0, .ref 3), (1, .int x1)] [] (am_hh m r)
  refine am_steps ck_X8_median 1 (pc' := 1) (lv' := [(0, .ref 3), (1, .int x1)]) (st' := [.ref 3]) rfl ?_
  refine ms_getr (ci := 6) (k := 0) (v := 4) (am_fd ck_X8_median (pc := 1) rfl) tw_190 kc_3 rfl (ly_3_0 hL) (kO og4) ?_
  refine am_steps ck_X8_median 1 (pc' := 5) (lv' := [(0, .ref 3), (1, .int x1)]) (st' := [.int x1, .ref 4]) rfl ?_
  obtain ⟨q1, hq1, hm⟩ := am_bE hm
  refine ms_callV (M2 := mt_X1_isThere) (d2 := 1) (ci := 1) [.int x1] (am_fd ck_X8_median (pc := 5) rfl) ok_X1_isThere tw_231 tw_232 tw_233 (by decide) (kO og4) (Nat.le_of_ble_eq_true rfl) (Nat.le_of_ble_eq_true rfl) (x_X1_isThere hL og4 hq1) ?_
  refine am_ifc (tgt := 13) (am_fd ck_X8_median (pc := 8) rfl) rfl (fun hc2 => ?_) (fun hc2 => ?_)
  · replace hm := am_it hm hc2
    refine am_steps ck_X8_median 1 (pc' := 14) (lv' := [(0, .ref 3), (1, .int x1)]) (st' := [.ref 3]) rfl ?_
    refine ms_getr (ci := 6) (k := 0) (v := 4) (am_fd ck_X8_median (pc := 14) rfl) tw_190 kc_3 rfl (ly_3_0 hL) (kO og4) ?_
    refine ms_getr (ci := 1) (k := 3) (v := (4 + 28)) (am_fd ck_X8_median (pc := 17) rfl) tw_48 (kO og4) rfl (lyO3 hL og4) (kXo og4) ?_
    refine am_steps ck_X8_median 1 (pc' := 21) (lv' := [(0, .ref 3), (1, .int x1)]) (st' := [.int x1, .ref (4 + 28)]) rfl ?_
    obtain ⟨hb3, hm⟩ := am_gE hm
    refine ms_rald (n := 24) (v := (aX 4 (am_ix x1))) (am_fd ck_X8_median (pc := 21) rfl) (kXo og4) hb3 (lyX hL og4 (am_ixl hb3)) (kX og4 (am_ixl hb3)) ?_
    obtain ⟨q4, hq4, hm⟩ := am_bE hm
    refine ms_callS (M2 := mt_X5_allOf) (d2 := 2) [.ref (aX 4 (am_ix x1))] (am_fd ck_X8_median (pc := 22) rfl) ok_X5_allOf tw_585 tw_586 (Nat.le_of_ble_eq_true rfl) (Nat.le_of_ble_eq_true rfl) (x_X5_allOf hL (kX og4 (am_ixl hb3)) hq4) ?_
    refine am_steps ck_X8_median 2 (pc' := 27) (lv' := [(2, .int q4), (0, .ref 3), (1, .int x1)]) (st' := [.int q4]) rfl ?_
    refine am_ifc (tgt := 34) (am_fd ck_X8_median (pc := 27) rfl) rfl (fun hc5 => ?_) (fun hc5 => ?_)
    · replace hm := am_it hm hc5
      refine am_steps ck_X8_median 1 (pc' := 35) (lv' := [(2, .int q4), (0, .ref 3), (1, .int x1)]) (st' := [.ref 3]) rfl ?_
      refine ms_getr (ci := 6) (k := 0) (v := 4) (am_fd ck_X8_median (pc := 35) rfl) tw_190 kc_3 rfl (ly_3_0 hL) (kO og4) ?_
      refine ms_getr (ci := 1) (k := 3) (v := (4 + 28)) (am_fd ck_X8_median (pc := 38) rfl) tw_48 (kO og4) rfl (lyO3 hL og4) (kXo og4) ?_
      refine am_steps ck_X8_median 1 (pc' := 42) (lv' := [(2, .int q4), (0, .ref 3), (1, .int x1)]) (st' := [.int x1, .ref (4 + 28)]) rfl ?_
      obtain ⟨hb6, hm⟩ := am_gE hm
      refine ms_rald (n := 24) (v := (aX 4 (am_ix x1))) (am_fd ck_X8_median (pc := 42) rfl) (kXo og4) hb6 (lyX hL og4 (am_ixl hb6)) (kX og4 (am_ixl hb6)) ?_
      refine am_steps ck_X8_median 4 (pc' := 47) (lv' := [(2, .int q4), (0, .ref 3), (1, .int x1)]) (st' := [.int (am_i 2), .int (q4 - (am_i 1)), .ref (aX 4 (am_ix x1))]) rfl ?_
      refine am_idiv (am_fd ck_X8_median (pc := 47) rfl) (by decide) ?_
      obtain ⟨q7, hq7, hm⟩ := am_bE hm
      refine ms_callS (M2 := mt_X5_categoryAt) (d2 := 1) [.ref (aX 4 (am_ix x1)), .int ((q4 - (am_i 1)) / (am_i 2))] (am_fd ck_X8_median (pc := 48) rfl) ok_X5_categoryAt tw_631 tw_632 (Nat.le_of_ble_eq_true rfl) (Nat.le_of_ble_eq_true rfl) (x_X5_categoryAt hL (kX og4 (am_ixl hb6)) hq7) ?_
      cases hm
      exact am_end (am_fd ck_X8_median (pc := 51) rfl) am_rI rfl rfl
    · replace hm := am_if hm hc5
      refine am_steps ck_X8_median 2 (pc' := 51) (lv' := [(2, .int q4), (0, .ref 3), (1, .int x1)]) (st' := [.int (am_i (-1))]) rfl ?_
      cases hm
      exact am_end (am_fd ck_X8_median (pc := 51) rfl) am_rI rfl rfl
  · replace hm := am_if hm hc2
    refine am_steps ck_X8_median 1 (pc' := 12) (lv' := [(0, .ref 3), (1, .int x1)]) (st' := [.int (am_i (-1))]) rfl ?_
    cases hm
    exact am_end (am_fd ck_X8_median (pc := 12) rfl) am_rI rfl rfl
set_option maxRecDepth 100000 in
set_option maxHeartbeats 4000000 in
theorem x_X8_heavy_46 {G : am_G} {x1 : Int32} {x2 : Int32} {m : am_m} {r : am_rr} {y2 : Int32} {w3 : Nat} {y4 : Int64} {res : Int64} {k : Int64 → Option (Int64)} (hL : am_Lay r) (hw3 : am_k w3 11 64) : ∀ (n : Nat) (z6 : Int64) (z8 : Int32), m_X8_heavy_46 x1 x2 m y2 w3 y4 k n z6 z8 = some res → (∀ (u6 : Int64), k u6 = some res → am_W G mt_X8_heavy 3 (some (.long res)) (am_hh m r) 86 [(6, .long u6)] [] (am_hh m r)) → am_W G mt_X8_heavy 3 (some (.long res)) (am_hh m r) 46 [(2, .int y2), (3, .ref w3), (4, .long y4), (6, .long z6), (8, .int z8)] [] (am_hh m r) := by
  intro n
  induction n with
  | zero => intro z6 z8 hm K; cases hm
  | succ n ih =>
    intro z6 z8 hm K
    unfold m_X8_heavy_46 at hm
    refine am_steps ck_X8_heavy 2 (pc' := 50) (lv' := [(2, .int y2), (3, .ref w3), (4, .long y4), (6, .long z6), (8, .int z8)]) (st' := [.int (am_i 64), .int z8]) rfl ?_
    refine am_icmp (tgt := 86) (am_fd ck_X8_heavy (pc := 50) rfl) rfl (fun hc7 => ?_) (fun hc7 => ?_)
    · replace hm := am_it hm hc7
      refine am_subp [3] rfl ?_
      exact K _ hm
    · replace hm := am_if hm hc7
      refine am_ldc2 (am_fd ck_X8_heavy (pc := 53) rfl) tw_659 ?_
      refine am_steps ck_X8_heavy 2 (pc' := 59) (lv' := [(2, .int y2), (3, .ref w3), (4, .long y4), (6, .long z6), (8, .int z8)]) (st' := [.int z8, .ref w3, .long (100 : Int64)]) rfl ?_
      obtain ⟨hb8, hm⟩ := am_gE hm
      refine ms_iald (n := 64) (am_fd ck_X8_heavy (pc := 59) rfl) hw3 hb8 ?_
      refine am_steps ck_X8_heavy 7 (pc' := 68) (lv' := [(2, .int y2), (3, .ref w3), (4, .long y4), (6, .long z6), (8, .int z8)]) (st' := [.int (lg_cmp ((100 : Int64) * (m w3 (am_ix z8)).toInt64) (y2.toInt64 * y4))]) rfl ?_
      refine am_ifc (tgt := 80) (am_fd ck_X8_heavy (pc := 68) rfl) rfl (fun hc9 => ?_) (fun hc9 => ?_)
      · replace hm := am_it hm hc9
        refine am_steps ck_X8_heavy 2 (pc' := 46) (lv' := [(8, .int (z8 + am_i 1)), (2, .int y2), (3, .ref w3), (4, .long y4), (6, .long z6)]) (st' := []) rfl ?_
        refine am_subp [1, 2, 3, 4, 0] rfl ?_
        exact ih _ _ hm K
      · replace hm := am_if hm hc9
        refine am_steps ck_X8_heavy 8 (pc' := 46) (lv' := [(8, .int (z8 + am_i 1)), (6, .long (z6 ||| ((Int64.ofNat 1) <<< (z8.toInt64 &&& 63)))), (2, .int y2), (3, .ref w3), (4, .long y4)]) (st' := []) rfl ?_
        refine am_subp [2, 3, 4, 1, 0] rfl ?_
        exact ih _ _ hm K
set_option maxRecDepth 100000 in
set_option maxHeartbeats 4000000 in
theorem x_X8_heavy {G : am_G} {m : am_m} {r : am_rr} {x1 : Int32} {x2 : Int32} {res : Int64} (hL : am_Lay r) (hm : m_X8_heavy m x1 x2 = some res) : am_Met G mt_X8_heavy 3 [.ref 3, .int x1, .int x2] (am_hh m r) (some (.long res)) (am_hh m r) := by
  refine am_of (by decide) (Nat.le_of_ble_eq_true rfl) ?_
  unfold m_X8_heavy at hm
  show am_W G mt_X8_heavy 3 _ _ 0 [(0, .ref 3), (1, .int x1), (2, .int x2)] [] (am_hh m r)
  refine am_steps ck_X8_heavy 1 (pc' := 1) (lv' := [(0, .ref 3), (1, .int x1), (2, .int x2)]) (st' := [.ref 3]) rfl ?_
  refine ms_getr (ci := 6) (k := 0) (v := 4) (am_fd ck_X8_heavy (pc := 1) rfl) tw_190 kc_3 rfl (ly_3_0 hL) (kO og4) ?_
  refine am_steps ck_X8_heavy 1 (pc' := 5) (lv' := [(0, .ref 3), (1, .int x1), (2, .int x2)]) (st' := [.int x1, .ref 4]) rfl ?_
  obtain ⟨q1, hq1, hm⟩ := am_bE hm
  refine ms_callV (M2 := mt_X1_isThere) (d2 := 1) (ci := 1) [.int x1] (am_fd ck_X8_heavy (pc := 5) rfl) ok_X1_isThere tw_231 tw_232 tw_233 (by decide) (kO og4) (Nat.le_of_ble_eq_true rfl) (Nat.le_of_ble_eq_true rfl) (x_X1_isThere hL og4 hq1) ?_
  refine am_ifc (tgt := 21) (am_fd ck_X8_heavy (pc := 8) rfl) rfl (fun hc2 => ?_) (fun hc2 => ?_)
  · replace hm := am_it hm hc2
    refine am_steps ck_X8_heavy 1 (pc' := 22) (lv' := [(0, .ref 3), (1, .int x1), (2, .int x2)]) (st' := [.long (Int64.ofNat 0)]) rfl ?_
    cases hm
    exact am_end (am_fd ck_X8_heavy (pc := 22) rfl) am_rJ rfl rfl
  · replace hm := am_if hm hc2
    refine am_steps ck_X8_heavy 1 (pc' := 12) (lv' := [(0, .ref 3), (1, .int x1), (2, .int x2)]) (st' := [.int x2]) rfl ?_
    refine am_ifc (tgt := 21) (am_fd ck_X8_heavy (pc := 12) rfl) rfl (fun hc3 => ?_) (fun hc3 => ?_)
    · replace hm := am_it hm hc3
      refine am_steps ck_X8_heavy 1 (pc' := 22) (lv' := [(0, .ref 3), (1, .int x1), (2, .int x2)]) (st' := [.long (Int64.ofNat 0)]) rfl ?_
      cases hm
      exact am_end (am_fd ck_X8_heavy (pc := 22) rfl) am_rJ rfl rfl
    · replace hm := am_if hm hc3
      refine am_steps ck_X8_heavy 2 (pc' := 18) (lv' := [(0, .ref 3), (1, .int x1), (2, .int x2)]) (st' := [.int (am_i 100), .int x2]) rfl ?_
      refine am_icmp (tgt := 23) (am_fd ck_X8_heavy (pc := 18) rfl) rfl (fun hc4 => ?_) (fun hc4 => ?_)
      · replace hm := am_it hm hc4
        refine am_steps ck_X8_heavy 1 (pc' := 24) (lv' := [(0, .ref 3), (1, .int x1), (2, .int x2)]) (st' := [.ref 3]) rfl ?_
        refine ms_getr (ci := 6) (k := 0) (v := 4) (am_fd ck_X8_heavy (pc := 24) rfl) tw_190 kc_3 rfl (ly_3_0 hL) (kO og4) ?_
        refine ms_getr (ci := 1) (k := 3) (v := (4 + 28)) (am_fd ck_X8_heavy (pc := 27) rfl) tw_48 (kO og4) rfl (lyO3 hL og4) (kXo og4) ?_
        refine am_steps ck_X8_heavy 1 (pc' := 31) (lv' := [(0, .ref 3), (1, .int x1), (2, .int x2)]) (st' := [.int x1, .ref (4 + 28)]) rfl ?_
        obtain ⟨hb5, hm⟩ := am_gE hm
        refine ms_rald (n := 24) (v := (aX 4 (am_ix x1))) (am_fd ck_X8_heavy (pc := 31) rfl) (kXo og4) hb5 (lyX hL og4 (am_ixl hb5)) (kX og4 (am_ixl hb5)) ?_
        refine am_steps ck_X8_heavy 2 (pc' := 34) (lv' := [(3, .ref (aX 4 (am_ix x1))), (0, .ref 3), (1, .int x1), (2, .int x2)]) (st' := [.ref (aX 4 (am_ix x1))]) rfl ?_
        obtain ⟨q6, hq6, hm⟩ := am_bE hm
        refine ms_callS (M2 := mt_X5_allOf) (d2 := 2) [.ref (aX 4 (am_ix x1))] (am_fd ck_X8_heavy (pc := 34) rfl) ok_X5_allOf tw_585 tw_586 (Nat.le_of_ble_eq_true rfl) (Nat.le_of_ble_eq_true rfl) (x_X5_allOf hL (kX og4 (am_ixl hb5)) hq6) ?_
        refine am_steps ck_X8_heavy 6 (pc' := 46) (lv' := [(8, .int (am_i 0)), (6, .long (Int64.ofNat 0)), (4, .long q6.toInt64), (3, .ref (aX 4 (am_ix x1))), (0, .ref 3), (1, .int x1), (2, .int x2)]) (st' := []) rfl ?_
        refine am_subp [6, 3, 2, 1, 0] rfl ?_
        refine x_X8_heavy_46 hL (kX og4 (am_ixl hb5)) am_F _ _ hm (fun u10 hm => ?_)
        refine am_steps ck_X8_heavy 1 (pc' := 88) (lv' := [(6, .long u10)]) (st' := [.long u10]) rfl ?_
        cases hm
        exact am_end (am_fd ck_X8_heavy (pc := 88) rfl) am_rJ rfl rfl
      · replace hm := am_if hm hc4
        refine am_steps ck_X8_heavy 1 (pc' := 22) (lv' := [(0, .ref 3), (1, .int x1), (2, .int x2)]) (st' := [.long (Int64.ofNat 0)]) rfl ?_
        cases hm
        exact am_end (am_fd ck_X8_heavy (pc := 22) rfl) am_rJ rfl rfl
set_option maxRecDepth 100000 in
set_option maxHeartbeats 4000000 in
theorem x_X8_squares_30 {G : am_G} {x1 : Int32} {m : am_m} {r : am_rr} {w2 : Nat} {res : Int64} {k : Int64 → Option (Int64)} (hL : am_Lay r) (hw2 : am_k w2 11 64) : ∀ (n : Nat) (z3 : Int64) (z5 : Int32), m_X8_squares_30 x1 m w2 k n z3 z5 = some res → (∀ (u3 : Int64), k u3 = some res → am_W G mt_X8_squares 2 (some (.long res)) (am_hh m r) 57 [(3, .long u3)] [] (am_hh m r)) → am_W G mt_X8_squares 2 (some (.long res)) (am_hh m r) 30 [(2, .ref w2), (3, .long z3), (5, .int z5)] [] (am_hh m r) := by
  intro n
  induction n with
  | zero => intro z3 z5 hm K; cases hm
  | succ n ih =>
    intro z3 z5 hm K
    unfold m_X8_squares_30 at hm
    refine am_steps ck_X8_squares 2 (pc' := 34) (lv' := [(2, .ref w2), (3, .long z3), (5, .int z5)]) (st' := [.int (am_i 64), .int z5]) rfl ?_
    refine am_icmp (tgt := 57) (am_fd ck_X8_squares (pc := 34) rfl) rfl (fun hc4 => ?_) (fun hc4 => ?_)
    · replace hm := am_it hm hc4
      refine am_subp [1] rfl ?_
      exact K _ hm
    · replace hm := am_if hm hc4
      refine am_steps ck_X8_squares 3 (pc' := 41) (lv' := [(2, .ref w2), (3, .long z3), (5, .int z5)]) (st' := [.int z5, .ref w2, .long z3]) rfl ?_
      obtain ⟨hb5, hm⟩ := am_gE hm
      refine ms_iald (n := 64) (am_fd ck_X8_squares (pc := 41) rfl) hw2 hb5 ?_
      refine am_steps ck_X8_squares 3 (pc' := 46) (lv' := [(2, .ref w2), (3, .long z3), (5, .int z5)]) (st' := [.int z5, .ref w2, .long (m w2 (am_ix z5)).toInt64, .long z3]) rfl ?_
      obtain ⟨hb6, hm⟩ := am_gE hm
      refine ms_iald (n := 64) (am_fd ck_X8_squares (pc := 46) rfl) hw2 hb6 ?_
      refine am_steps ck_X8_squares 6 (pc' := 30) (lv' := [(5, .int (z5 + am_i 1)), (3, .long (z3 + ((m w2 (am_ix z5)).toInt64 * (m w2 (am_ix z5)).toInt64))), (2, .ref w2)]) (st' := []) rfl ?_
      refine am_subp [2, 1, 0] rfl ?_
      exact ih _ _ hm K
set_option maxRecDepth 100000 in
set_option maxHeartbeats 4000000 in
theorem x_X8_squares {G : am_G} {m : am_m} {r : am_rr} {x1 : Int32} {res : Int64} (hL : am_Lay r) (hm : m_X8_squares m x1 = some res) : am_Met G mt_X8_squares 2 [.ref 3, .int x1] (am_hh m r) (some (.long res)) (am_hh m r) := by
  refine am_of (by decide) (Nat.le_of_ble_eq_true rfl) ?_
  unfold m_X8_squares at hm
  show am_W G mt_X8_squares 2 _ _ 0 [(0, .ref 3), (1, .int x1)] [] (am_hh m r)
  refine am_steps ck_X8_squares 1 (pc' := 1) (lv' := [(0, .ref 3), (1, .int x1)]) (st' := [.ref 3]) rfl ?_
  refine ms_getr (ci := 6) (k := 0) (v := 4) (am_fd ck_X8_squares (pc := 1) rfl) tw_190 kc_3 rfl (ly_3_0 hL) (kO og4) ?_
  refine am_steps ck_X8_squares 1 (pc' := 5) (lv' := [(0, .ref 3), (1, .int x1)]) (st' := [.int x1, .ref 4]) rfl ?_
  obtain ⟨q1, hq1, hm⟩ := am_bE hm
  refine ms_callV (M2 := mt_X1_isThere) (d2 := 1) (ci := 1) [.int x1] (am_fd ck_X8_squares (pc := 5) rfl) ok_X1_isThere tw_231 tw_232 tw_233 (by decide) (kO og4) (Nat.le_of_ble_eq_true rfl) (Nat.le_of_ble_eq_true rfl) (x_X1_isThere hL og4 hq1) ?_
  refine am_ifc (tgt := 15) (am_fd ck_X8_squares (pc := 8) rfl) rfl (fun hc2 => ?_) (fun hc2 => ?_)
  · replace hm := am_it hm hc2
    refine am_steps ck_X8_squares 1 (pc' := 16) (lv' := [(0, .ref 3), (1, .int x1)]) (st' := [.ref 3]) rfl ?_
    refine ms_getr (ci := 6) (k := 0) (v := 4) (am_fd ck_X8_squares (pc := 16) rfl) tw_190 kc_3 rfl (ly_3_0 hL) (kO og4) ?_
    refine ms_getr (ci := 1) (k := 3) (v := (4 + 28)) (am_fd ck_X8_squares (pc := 19) rfl) tw_48 (kO og4) rfl (lyO3 hL og4) (kXo og4) ?_
    refine am_steps ck_X8_squares 1 (pc' := 23) (lv' := [(0, .ref 3), (1, .int x1)]) (st' := [.int x1, .ref (4 + 28)]) rfl ?_
    obtain ⟨hb3, hm⟩ := am_gE hm
    refine ms_rald (n := 24) (v := (aX 4 (am_ix x1))) (am_fd ck_X8_squares (pc := 23) rfl) (kXo og4) hb3 (lyX hL og4 (am_ixl hb3)) (kX og4 (am_ixl hb3)) ?_
    refine am_steps ck_X8_squares 5 (pc' := 30) (lv' := [(5, .int (am_i 0)), (3, .long (Int64.ofNat 0)), (2, .ref (aX 4 (am_ix x1))), (0, .ref 3), (1, .int x1)]) (st' := []) rfl ?_
    refine am_subp [2, 1, 0] rfl ?_
    refine x_X8_squares_30 hL (kX og4 (am_ixl hb3)) am_F _ _ hm (fun u7 hm => ?_)
    refine am_steps ck_X8_squares 1 (pc' := 58) (lv' := [(3, .long u7)]) (st' := [.long u7]) rfl ?_
    cases hm
    exact am_end (am_fd ck_X8_squares (pc := 58) rfl) am_rJ rfl rfl
  · replace hm := am_if hm hc2
    refine am_ldc2 (am_fd ck_X8_squares (pc := 11) rfl) tw_358 ?_
    cases hm
    exact am_end (am_fd ck_X8_squares (pc := 14) rfl) am_rJ rfl rfl
set_option maxRecDepth 100000 in
set_option maxHeartbeats 4000000 in
theorem x_X8_seats_42 {G : am_G} {x1 : Int32} {x2 : Int32} {x3 : Int32} {r : am_rr} {y1 : Int32} {y2 : Int32} {y3 : Int32} {res : Int32 × am_m} {k : am_m → Option (Int32 × am_m)} (hL : am_Lay r) : ∀ (n : Nat) (z4 : Int32) (m : am_m), m_X8_seats_42 x1 x2 x3 y1 y2 y3 k n z4 m = some res → (∀ (m1 : am_m), k m1 = some res → am_W G mt_X8_seats 2 (some (.int res.1)) (am_hh res.2 r) 92 [(0, .ref 3), (3, .int y3)] [] (am_hh m1 r)) → am_W G mt_X8_seats 2 (some (.int res.1)) (am_hh res.2 r) 42 [(0, .ref 3), (1, .int y1), (2, .int y2), (3, .int y3), (4, .int z4)] [] (am_hh m r) := by
  intro n
  induction n with
  | zero => intro z4 m hm K; cases hm
  | succ n ih =>
    intro z4 m hm K
    unfold m_X8_seats_42 at hm
    refine am_steps ck_X8_seats 2 (pc' := 45) (lv' := [(0, .ref 3), (1, .int y1), (2, .int y2), (3, .int y3), (4, .int z4)]) (st' := [.int y2, .int z4]) rfl ?_
    refine am_icmp (tgt := 92) (am_fd ck_X8_seats (pc := 45) rfl) rfl (fun hc8 => ?_) (fun hc8 => ?_)
    · replace hm := am_it hm hc8
      refine am_subp [0, 3] rfl ?_
      exact K _ hm
    · replace hm := am_if hm hc8
      refine am_steps ck_X8_seats 1 (pc' := 49) (lv' := [(0, .ref 3), (1, .int y1), (2, .int y2), (3, .int y3), (4, .int z4)]) (st' := [.ref 3]) rfl ?_
      refine ms_getr (ci := 6) (k := 0) (v := 4) (am_fd ck_X8_seats (pc := 49) rfl) tw_190 kc_3 rfl (ly_3_0 hL) (kO og4) ?_
      refine ms_getr (ci := 1) (k := 3) (v := (4 + 28)) (am_fd ck_X8_seats (pc := 52) rfl) tw_48 (kO og4) rfl (lyO3 hL og4) (kXo og4) ?_
      refine am_steps ck_X8_seats 1 (pc' := 56) (lv' := [(0, .ref 3), (1, .int y1), (2, .int y2), (3, .int y3), (4, .int z4)]) (st' := [.int y1, .ref (4 + 28)]) rfl ?_
      obtain ⟨hb9, hm⟩ := am_gE hm
      refine ms_rald (n := 24) (v := (aX 4 (am_ix y1))) (am_fd ck_X8_seats (pc := 56) rfl) (kXo og4) hb9 (lyX hL og4 (am_ixl hb9)) (kX og4 (am_ixl hb9)) ?_
      refine am_steps ck_X8_seats 1 (pc' := 58) (lv' := [(0, .ref 3), (1, .int y1), (2, .int y2), (3, .int y3), (4, .int z4)]) (st' := [.ref 3, .ref (aX 4 (am_ix y1))]) rfl ?_
      refine ms_getr (ci := 6) (k := 9) (v := 3013) (am_fd ck_X8_seats (pc := 58) rfl) tw_199 kc_3 rfl (ly_3_9 hL) kc_3013 ?_
      obtain ⟨q10, hq10, hm⟩ := am_bE hm
      refine ms_callS (M2 := mt_X5_nextSeat) (d2 := 1) [.ref (aX 4 (am_ix y1)), .ref 3013] (am_fd ck_X8_seats (pc := 61) rfl) ok_X5_nextSeat tw_669 tw_670 (Nat.le_of_ble_eq_true rfl) (Nat.le_of_ble_eq_true rfl) (x_X5_nextSeat hL (kX og4 (am_ixl hb9)) kc_3013 hq10) ?_
      refine am_steps ck_X8_seats 3 (pc' := 69) (lv' := [(5, .int q10), (0, .ref 3), (1, .int y1), (2, .int y2), (3, .int y3), (4, .int z4)]) (st' := [.int (am_i (-1)), .int q10]) rfl ?_
      refine am_icmp (tgt := 75) (am_fd ck_X8_seats (pc := 69) rfl) rfl (fun hc11 => ?_) (fun hc11 => ?_)
      · replace hm := am_it hm hc11
        refine am_steps ck_X8_seats 1 (pc' := 76) (lv' := [(5, .int q10), (0, .ref 3), (1, .int y1), (2, .int y2), (3, .int y3), (4, .int z4)]) (st' := [.ref 3]) rfl ?_
        refine ms_getr (ci := 6) (k := 9) (v := 3013) (am_fd ck_X8_seats (pc := 76) rfl) tw_199 kc_3 rfl (ly_3_9 hL) kc_3013 ?_
        refine am_steps ck_X8_seats 2 (pc' := 82) (lv' := [(5, .int q10), (0, .ref 3), (1, .int y1), (2, .int y2), (3, .int y3), (4, .int z4)]) (st' := [.int q10, .ref 3013, .int q10, .ref 3013]) rfl ?_
        obtain ⟨hb12, hm⟩ := am_gE hm
        refine ms_iald (n := 64) (am_fd ck_X8_seats (pc := 82) rfl) kc_3013 hb12 ?_
        refine am_steps ck_X8_seats 2 (pc' := 85) (lv' := [(5, .int q10), (0, .ref 3), (1, .int y1), (2, .int y2), (3, .int y3), (4, .int z4)]) (st' := [.int ((m 3013 (am_ix q10)) + (am_i 1)), .int q10, .ref 3013]) rfl ?_
        obtain ⟨hb13, hm⟩ := am_gE hm
        refine ms_iast (n := 64) (am_fd ck_X8_seats (pc := 85) rfl) kc_3013 hb13 (fun m14 em14 => ?_)
        replace hm := am_letE em14 hm
        refine am_steps ck_X8_seats 2 (pc' := 42) (lv' := [(4, .int (z4 + am_i 1)), (5, .int q10), (0, .ref 3), (1, .int y1), (2, .int y2), (3, .int y3)]) (st' := []) rfl ?_
        refine am_subp [2, 3, 4, 5, 0] rfl ?_
        exact ih _ _ hm K
      · replace hm := am_if hm hc11
        refine am_steps ck_X8_seats 1 (pc' := 92) (lv' := [(5, .int q10), (0, .ref 3), (1, .int y1), (2, .int y2), (3, .int y3), (4, .int z4)]) (st' := []) rfl ?_
        refine am_subp [1, 4] rfl ?_
        exact K _ hm
set_option maxRecDepth 100000 in
set_option maxHeartbeats 4000000 in
theorem x_X8_seats {G : am_G} {m : am_m} {r : am_rr} {x1 : Int32} {x2 : Int32} {x3 : Int32} {res : Int32 × am_m} (hL : am_Lay r) (hm : m_X8_seats m x1 x2 x3 = some res) : am_Met G mt_X8_seats 2 [.ref 3, .int x1, .int x2, .int x3] (am_hh m r) (some (.int res.1)) (am_hh res.2 r) := by
  refine am_of (by decide) (Nat.le_of_ble_eq_true rfl) ?_
  unfold m_X8_seats at hm
  show am_W G mt_X8_seats 2 _ _ 0 [(0, .ref 3), (1, .int x1), (2, .int x2), (3, .int x3)] [] (am_hh m r)
  refine am_steps ck_X8_seats 1 (pc' := 1) (lv' := [(0, .ref 3), (1, .int x1), (2, .int x2), (3, .int x3)]) (st' := [.ref 3]) rfl ?_
  refine ms_getr (ci := 6) (k := 0) (v := 4) (am_fd ck_X8_seats (pc := 1) rfl) tw_190 kc_3 rfl (ly_3_0 hL) (kO og4) ?_
  refine am_steps ck_X8_seats 1 (pc' := 5) (lv' := [(0, .ref 3), (1, .int x1), (2, .int x2), (3, .int x3)]) (st' := [.int x1, .ref 4]) rfl ?_
  obtain ⟨q1, hq1, hm⟩ := am_bE hm
  refine ms_callV (M2 := mt_X1_isThere) (d2 := 1) (ci := 1) [.int x1] (am_fd ck_X8_seats (pc := 5) rfl) ok_X1_isThere tw_231 tw_232 tw_233 (by decide) (kO og4) (Nat.le_of_ble_eq_true rfl) (Nat.le_of_ble_eq_true rfl) (x_X1_isThere hL og4 hq1) ?_
  refine am_ifc (tgt := 29) (am_fd ck_X8_seats (pc := 8) rfl) rfl (fun hc2 => ?_) (fun hc2 => ?_)
  · replace hm := am_it hm hc2
    refine am_steps ck_X8_seats 1 (pc' := 30) (lv' := [(0, .ref 3), (1, .int x1), (2, .int x2), (3, .int x3)]) (st' := [.int (am_i (-1))]) rfl ?_
    cases hm
    exact am_end (am_fd ck_X8_seats (pc := 30) rfl) am_rI rfl rfl
  · replace hm := am_if hm hc2
    refine am_steps ck_X8_seats 1 (pc' := 12) (lv' := [(0, .ref 3), (1, .int x1), (2, .int x2), (3, .int x3)]) (st' := [.int x2]) rfl ?_
    refine am_ifc (tgt := 29) (am_fd ck_X8_seats (pc := 12) rfl) rfl (fun hc3 => ?_) (fun hc3 => ?_)
    · replace hm := am_it hm hc3
      refine am_steps ck_X8_seats 1 (pc' := 30) (lv' := [(0, .ref 3), (1, .int x1), (2, .int x2), (3, .int x3)]) (st' := [.int (am_i (-1))]) rfl ?_
      cases hm
      exact am_end (am_fd ck_X8_seats (pc := 30) rfl) am_rI rfl rfl
    · replace hm := am_if hm hc3
      refine am_steps ck_X8_seats 2 (pc' := 19) (lv' := [(0, .ref 3), (1, .int x1), (2, .int x2), (3, .int x3)]) (st' := [.int (am_i 200), .int x2]) rfl ?_
      refine am_icmp (tgt := 29) (am_fd ck_X8_seats (pc := 19) rfl) rfl (fun hc4 => ?_) (fun hc4 => ?_)
      · replace hm := am_it hm hc4
        refine am_steps ck_X8_seats 1 (pc' := 30) (lv' := [(0, .ref 3), (1, .int x1), (2, .int x2), (3, .int x3)]) (st' := [.int (am_i (-1))]) rfl ?_
        cases hm
        exact am_end (am_fd ck_X8_seats (pc := 30) rfl) am_rI rfl rfl
      · replace hm := am_if hm hc4
        refine am_steps ck_X8_seats 1 (pc' := 23) (lv' := [(0, .ref 3), (1, .int x1), (2, .int x2), (3, .int x3)]) (st' := [.int x3]) rfl ?_
        obtain ⟨q5, hq5, hm⟩ := am_bE hm
        refine ms_callS (M2 := mt_X8_isCategory) (d2 := 1) [.int x3] (am_fd ck_X8_seats (pc := 23) rfl) ok_X8_isCategory tw_235 tw_236 (Nat.le_of_ble_eq_true rfl) (Nat.le_of_ble_eq_true rfl) (x_X8_isCategory hL hq5) ?_
        refine am_ifc (tgt := 31) (am_fd ck_X8_seats (pc := 26) rfl) rfl (fun hc6 => ?_) (fun hc6 => ?_)
        · replace hm := am_it hm hc6
          refine am_steps ck_X8_seats 1 (pc' := 32) (lv' := [(0, .ref 3), (1, .int x1), (2, .int x2), (3, .int x3)]) (st' := [.ref 3]) rfl ?_
          refine ms_getr (ci := 6) (k := 9) (v := 3013) (am_fd ck_X8_seats (pc := 32) rfl) tw_199 kc_3 rfl (ly_3_9 hL) kc_3013 ?_
          refine am_steps ck_X8_seats 1 (pc' := 36) (lv' := [(0, .ref 3), (1, .int x1), (2, .int x2), (3, .int x3)]) (st' := [.int (am_i 0), .ref 3013]) rfl ?_
          obtain ⟨q7, hq7, hm⟩ := am_bE hm
          refine ms_callSv (M2 := mt_J7_fill_53178) (d2 := 1) [.ref 3013, .int (am_i 0)] (am_fd ck_X8_seats (pc := 36) rfl) ok_J7_fill_53178 tw_668 tw_33 (Nat.le_of_ble_eq_true rfl) (Nat.le_of_ble_eq_true rfl) (x_J7_fill_53178 hL kc_3013 hq7) ?_
          refine am_steps ck_X8_seats 2 (pc' := 42) (lv' := [(4, .int (am_i 0)), (0, .ref 3), (1, .int x1), (2, .int x2), (3, .int x3)]) (st' := []) rfl ?_
          refine am_subp [1, 2, 3, 4, 0] rfl ?_
          refine x_X8_seats_42 hL am_F _ _ hm (fun m15 hm => ?_)
          refine am_steps ck_X8_seats 1 (pc' := 93) (lv' := [(0, .ref 3), (3, .int x3)]) (st' := [.ref 3]) rfl ?_
          refine ms_getr (ci := 6) (k := 9) (v := 3013) (am_fd ck_X8_seats (pc := 93) rfl) tw_199 kc_3 rfl (ly_3_9 hL) kc_3013 ?_
          refine am_steps ck_X8_seats 1 (pc' := 97) (lv' := [(0, .ref 3), (3, .int x3)]) (st' := [.int x3, .ref 3013]) rfl ?_
          obtain ⟨hb16, hm⟩ := am_gE hm
          refine ms_iald (n := 64) (am_fd ck_X8_seats (pc := 97) rfl) kc_3013 hb16 ?_
          cases hm
          exact am_end (am_fd ck_X8_seats (pc := 98) rfl) am_rI rfl rfl
        · replace hm := am_if hm hc6
          refine am_steps ck_X8_seats 1 (pc' := 30) (lv' := [(0, .ref 3), (1, .int x1), (2, .int x2), (3, .int x3)]) (st' := [.int (am_i (-1))]) rfl ?_
          cases hm
          exact am_end (am_fd ck_X8_seats (pc := 30) rfl) am_rI rfl rfl
set_option maxRecDepth 100000 in
set_option maxHeartbeats 4000000 in
theorem x_X8_percent {G : am_G} {m : am_m} {r : am_rr} {x1 : Int32} {x2 : Int32} {res : Int32} (hL : am_Lay r) (hm : m_X8_percent m x1 x2 = some res) : am_Met G mt_X8_percent 4 [.ref 3, .int x1, .int x2] (am_hh m r) (some (.int res)) (am_hh m r) := by
  refine am_of (by decide) (Nat.le_of_ble_eq_true rfl) ?_
  unfold m_X8_percent at hm
  show am_W G mt_X8_percent 4 _ _ 0 [(0, .ref 3), (1, .int x1), (2, .int x2)] [] (am_hh m r)
  refine am_steps ck_X8_percent 1 (pc' := 1) (lv' := [(0, .ref 3), (1, .int x1), (2, .int x2)]) (st' := [.ref 3]) rfl ?_
  refine ms_getr (ci := 6) (k := 0) (v := 4) (am_fd ck_X8_percent (pc := 1) rfl) tw_190 kc_3 rfl (ly_3_0 hL) (kO og4) ?_
  refine am_steps ck_X8_percent 1 (pc' := 5) (lv' := [(0, .ref 3), (1, .int x1), (2, .int x2)]) (st' := [.int x1, .ref 4]) rfl ?_
  obtain ⟨q1, hq1, hm⟩ := am_bE hm
  refine ms_callV (M2 := mt_X1_isThere) (d2 := 1) (ci := 1) [.int x1] (am_fd ck_X8_percent (pc := 5) rfl) ok_X1_isThere tw_231 tw_232 tw_233 (by decide) (kO og4) (Nat.le_of_ble_eq_true rfl) (Nat.le_of_ble_eq_true rfl) (x_X1_isThere hL og4 hq1) ?_
  refine am_ifc (tgt := 18) (am_fd ck_X8_percent (pc := 8) rfl) rfl (fun hc2 => ?_) (fun hc2 => ?_)
  · replace hm := am_it hm hc2
    refine am_steps ck_X8_percent 1 (pc' := 19) (lv' := [(0, .ref 3), (1, .int x1), (2, .int x2)]) (st' := [.int (am_i (-1))]) rfl ?_
    cases hm
    exact am_end (am_fd ck_X8_percent (pc := 19) rfl) am_rI rfl rfl
  · replace hm := am_if hm hc2
    refine am_steps ck_X8_percent 1 (pc' := 12) (lv' := [(0, .ref 3), (1, .int x1), (2, .int x2)]) (st' := [.int x2]) rfl ?_
    obtain ⟨q3, hq3, hm⟩ := am_bE hm
    refine ms_callS (M2 := mt_X8_isCategory) (d2 := 1) [.int x2] (am_fd ck_X8_percent (pc := 12) rfl) ok_X8_isCategory tw_235 tw_236 (Nat.le_of_ble_eq_true rfl) (Nat.le_of_ble_eq_true rfl) (x_X8_isCategory hL hq3) ?_
    refine am_ifc (tgt := 20) (am_fd ck_X8_percent (pc := 15) rfl) rfl (fun hc4 => ?_) (fun hc4 => ?_)
    · replace hm := am_it hm hc4
      refine am_steps ck_X8_percent 1 (pc' := 21) (lv' := [(0, .ref 3), (1, .int x1), (2, .int x2)]) (st' := [.ref 3]) rfl ?_
      refine ms_getr (ci := 6) (k := 0) (v := 4) (am_fd ck_X8_percent (pc := 21) rfl) tw_190 kc_3 rfl (ly_3_0 hL) (kO og4) ?_
      refine ms_getr (ci := 1) (k := 3) (v := (4 + 28)) (am_fd ck_X8_percent (pc := 24) rfl) tw_48 (kO og4) rfl (lyO3 hL og4) (kXo og4) ?_
      refine am_steps ck_X8_percent 1 (pc' := 28) (lv' := [(0, .ref 3), (1, .int x1), (2, .int x2)]) (st' := [.int x1, .ref (4 + 28)]) rfl ?_
      obtain ⟨hb5, hm⟩ := am_gE hm
      refine ms_rald (n := 24) (v := (aX 4 (am_ix x1))) (am_fd ck_X8_percent (pc := 28) rfl) (kXo og4) hb5 (lyX hL og4 (am_ixl hb5)) (kX og4 (am_ixl hb5)) ?_
      refine am_steps ck_X8_percent 1 (pc' := 30) (lv' := [(0, .ref 3), (1, .int x1), (2, .int x2)]) (st' := [.int x2, .ref (aX 4 (am_ix x1))]) rfl ?_
      obtain ⟨q6, hq6, hm⟩ := am_bE hm
      refine ms_callS (M2 := mt_X5_percentOf) (d2 := 3) [.ref (aX 4 (am_ix x1)), .int x2] (am_fd ck_X8_percent (pc := 30) rfl) ok_X5_percentOf tw_676 tw_677 (Nat.le_of_ble_eq_true rfl) (Nat.le_of_ble_eq_true rfl) (x_X5_percentOf hL (kX og4 (am_ixl hb5)) hq6) ?_
      cases hm
      exact am_end (am_fd ck_X8_percent (pc := 33) rfl) am_rI rfl rfl
    · replace hm := am_if hm hc4
      refine am_steps ck_X8_percent 1 (pc' := 19) (lv' := [(0, .ref 3), (1, .int x1), (2, .int x2)]) (st' := [.int (am_i (-1))]) rfl ?_
      cases hm
      exact am_end (am_fd ck_X8_percent (pc := 19) rfl) am_rI rfl rfl
set_option maxRecDepth 100000 in
set_option maxHeartbeats 4000000 in
theorem x_X8_quantile {G : am_G} {m : am_m} {r : am_rr} {x1 : Int32} {x2 : Int32} {res : Int32} (hL : am_Lay r) (hm : m_X8_quantile m x1 x2 = some res) : am_Met G mt_X8_quantile 4 [.ref 3, .int x1, .int x2] (am_hh m r) (some (.int res)) (am_hh m r) := by
  refine am_of (by decide) (Nat.le_of_ble_eq_true rfl) ?_
  unfold m_X8_quantile at hm
  show am_W G mt_X8_quantile 4 _ _ 0 [(0, .ref 3), (1, .int x1), (2, .int x2)] [] (am_hh m r)
  refine am_steps ck_X8_quantile 1 (pc' := 1) (lv' := [(0, .ref 3), (1, .int x1), (2, .int x2)]) (st' := [.ref 3]) rfl ?_
  refine ms_getr (ci := 6) (k := 0) (v := 4) (am_fd ck_X8_quantile (pc := 1) rfl) tw_190 kc_3 rfl (ly_3_0 hL) (kO og4) ?_
  refine am_steps ck_X8_quantile 1 (pc' := 5) (lv' := [(0, .ref 3), (1, .int x1), (2, .int x2)]) (st' := [.int x1, .ref 4]) rfl ?_
  obtain ⟨q1, hq1, hm⟩ := am_bE hm
  refine ms_callV (M2 := mt_X1_isThere) (d2 := 1) (ci := 1) [.int x1] (am_fd ck_X8_quantile (pc := 5) rfl) ok_X1_isThere tw_231 tw_232 tw_233 (by decide) (kO og4) (Nat.le_of_ble_eq_true rfl) (Nat.le_of_ble_eq_true rfl) (x_X1_isThere hL og4 hq1) ?_
  refine am_ifc (tgt := 22) (am_fd ck_X8_quantile (pc := 8) rfl) rfl (fun hc2 => ?_) (fun hc2 => ?_)
  · replace hm := am_it hm hc2
    refine am_steps ck_X8_quantile 1 (pc' := 23) (lv' := [(0, .ref 3), (1, .int x1), (2, .int x2)]) (st' := [.int (am_i (-1))]) rfl ?_
    cases hm
    exact am_end (am_fd ck_X8_quantile (pc := 23) rfl) am_rI rfl rfl
  · replace hm := am_if hm hc2
    refine am_steps ck_X8_quantile 2 (pc' := 13) (lv' := [(0, .ref 3), (1, .int x1), (2, .int x2)]) (st' := [.int (am_i 1), .int x2]) rfl ?_
    refine am_icmp (tgt := 22) (am_fd ck_X8_quantile (pc := 13) rfl) rfl (fun hc3 => ?_) (fun hc3 => ?_)
    · replace hm := am_it hm hc3
      refine am_steps ck_X8_quantile 1 (pc' := 23) (lv' := [(0, .ref 3), (1, .int x1), (2, .int x2)]) (st' := [.int (am_i (-1))]) rfl ?_
      cases hm
      exact am_end (am_fd ck_X8_quantile (pc := 23) rfl) am_rI rfl rfl
    · replace hm := am_if hm hc3
      refine am_steps ck_X8_quantile 2 (pc' := 19) (lv' := [(0, .ref 3), (1, .int x1), (2, .int x2)]) (st' := [.int (am_i 100), .int x2]) rfl ?_
      refine am_icmp (tgt := 24) (am_fd ck_X8_quantile (pc := 19) rfl) rfl (fun hc4 => ?_) (fun hc4 => ?_)
      · replace hm := am_it hm hc4
        refine am_steps ck_X8_quantile 1 (pc' := 25) (lv' := [(0, .ref 3), (1, .int x1), (2, .int x2)]) (st' := [.ref 3]) rfl ?_
        refine ms_getr (ci := 6) (k := 0) (v := 4) (am_fd ck_X8_quantile (pc := 25) rfl) tw_190 kc_3 rfl (ly_3_0 hL) (kO og4) ?_
        refine ms_getr (ci := 1) (k := 3) (v := (4 + 28)) (am_fd ck_X8_quantile (pc := 28) rfl) tw_48 (kO og4) rfl (lyO3 hL og4) (kXo og4) ?_
        refine am_steps ck_X8_quantile 1 (pc' := 32) (lv' := [(0, .ref 3), (1, .int x1), (2, .int x2)]) (st' := [.int x1, .ref (4 + 28)]) rfl ?_
        obtain ⟨hb5, hm⟩ := am_gE hm
        refine ms_rald (n := 24) (v := (aX 4 (am_ix x1))) (am_fd ck_X8_quantile (pc := 32) rfl) (kXo og4) hb5 (lyX hL og4 (am_ixl hb5)) (kX og4 (am_ixl hb5)) ?_
        refine am_steps ck_X8_quantile 1 (pc' := 34) (lv' := [(0, .ref 3), (1, .int x1), (2, .int x2)]) (st' := [.int x2, .ref (aX 4 (am_ix x1))]) rfl ?_
        obtain ⟨q6, hq6, hm⟩ := am_bE hm
        refine ms_callS (M2 := mt_X5_quantileOf) (d2 := 3) [.ref (aX 4 (am_ix x1)), .int x2] (am_fd ck_X8_quantile (pc := 34) rfl) ok_X5_quantileOf tw_684 tw_685 (Nat.le_of_ble_eq_true rfl) (Nat.le_of_ble_eq_true rfl) (x_X5_quantileOf hL (kX og4 (am_ixl hb5)) hq6) ?_
        cases hm
        exact am_end (am_fd ck_X8_quantile (pc := 37) rfl) am_rI rfl rfl
      · replace hm := am_if hm hc4
        refine am_steps ck_X8_quantile 1 (pc' := 23) (lv' := [(0, .ref 3), (1, .int x1), (2, .int x2)]) (st' := [.int (am_i (-1))]) rfl ?_
        cases hm
        exact am_end (am_fd ck_X8_quantile (pc := 23) rfl) am_rI rfl rfl
set_option maxRecDepth 100000 in
set_option maxHeartbeats 4000000 in
theorem x_X8_few {G : am_G} {m : am_m} {r : am_rr} {x1 : Int32} {x2 : Int32} {res : Int32} (hL : am_Lay r) (hm : m_X8_few m x1 x2 = some res) : am_Met G mt_X8_few 4 [.ref 3, .int x1, .int x2] (am_hh m r) (some (.int res)) (am_hh m r) := by
  refine am_of (by decide) (Nat.le_of_ble_eq_true rfl) ?_
  unfold m_X8_few at hm
  show am_W G mt_X8_few 4 _ _ 0 [(0, .ref 3), (1, .int x1), (2, .int x2)] [] (am_hh m r)
  refine am_steps ck_X8_few 1 (pc' := 1) (lv' := [(0, .ref 3), (1, .int x1), (2, .int x2)]) (st' := [.ref 3]) rfl ?_
  refine ms_getr (ci := 6) (k := 0) (v := 4) (am_fd ck_X8_few (pc := 1) rfl) tw_190 kc_3 rfl (ly_3_0 hL) (kO og4) ?_
  refine am_steps ck_X8_few 1 (pc' := 5) (lv' := [(0, .ref 3), (1, .int x1), (2, .int x2)]) (st' := [.int x1, .ref 4]) rfl ?_
  obtain ⟨q1, hq1, hm⟩ := am_bE hm
  refine ms_callV (M2 := mt_X1_isThere) (d2 := 1) (ci := 1) [.int x1] (am_fd ck_X8_few (pc := 5) rfl) ok_X1_isThere tw_231 tw_232 tw_233 (by decide) (kO og4) (Nat.le_of_ble_eq_true rfl) (Nat.le_of_ble_eq_true rfl) (x_X1_isThere hL og4 hq1) ?_
  refine am_ifc (tgt := 22) (am_fd ck_X8_few (pc := 8) rfl) rfl (fun hc2 => ?_) (fun hc2 => ?_)
  · replace hm := am_it hm hc2
    refine am_steps ck_X8_few 1 (pc' := 23) (lv' := [(0, .ref 3), (1, .int x1), (2, .int x2)]) (st' := [.int (am_i (-1))]) rfl ?_
    cases hm
    exact am_end (am_fd ck_X8_few (pc := 23) rfl) am_rI rfl rfl
  · replace hm := am_if hm hc2
    refine am_steps ck_X8_few 2 (pc' := 13) (lv' := [(0, .ref 3), (1, .int x1), (2, .int x2)]) (st' := [.int (am_i 1), .int x2]) rfl ?_
    refine am_icmp (tgt := 22) (am_fd ck_X8_few (pc := 13) rfl) rfl (fun hc3 => ?_) (fun hc3 => ?_)
    · replace hm := am_it hm hc3
      refine am_steps ck_X8_few 1 (pc' := 23) (lv' := [(0, .ref 3), (1, .int x1), (2, .int x2)]) (st' := [.int (am_i (-1))]) rfl ?_
      cases hm
      exact am_end (am_fd ck_X8_few (pc := 23) rfl) am_rI rfl rfl
    · replace hm := am_if hm hc3
      refine am_steps ck_X8_few 2 (pc' := 19) (lv' := [(0, .ref 3), (1, .int x1), (2, .int x2)]) (st' := [.int (am_i 100), .int x2]) rfl ?_
      refine am_icmp (tgt := 24) (am_fd ck_X8_few (pc := 19) rfl) rfl (fun hc4 => ?_) (fun hc4 => ?_)
      · replace hm := am_it hm hc4
        refine am_steps ck_X8_few 1 (pc' := 25) (lv' := [(0, .ref 3), (1, .int x1), (2, .int x2)]) (st' := [.ref 3]) rfl ?_
        refine ms_getr (ci := 6) (k := 0) (v := 4) (am_fd ck_X8_few (pc := 25) rfl) tw_190 kc_3 rfl (ly_3_0 hL) (kO og4) ?_
        refine ms_getr (ci := 1) (k := 3) (v := (4 + 28)) (am_fd ck_X8_few (pc := 28) rfl) tw_48 (kO og4) rfl (lyO3 hL og4) (kXo og4) ?_
        refine am_steps ck_X8_few 1 (pc' := 32) (lv' := [(0, .ref 3), (1, .int x1), (2, .int x2)]) (st' := [.int x1, .ref (4 + 28)]) rfl ?_
        obtain ⟨hb5, hm⟩ := am_gE hm
        refine ms_rald (n := 24) (v := (aX 4 (am_ix x1))) (am_fd ck_X8_few (pc := 32) rfl) (kXo og4) hb5 (lyX hL og4 (am_ixl hb5)) (kX og4 (am_ixl hb5)) ?_
        refine am_steps ck_X8_few 1 (pc' := 34) (lv' := [(0, .ref 3), (1, .int x1), (2, .int x2)]) (st' := [.int x2, .ref (aX 4 (am_ix x1))]) rfl ?_
        obtain ⟨q6, hq6, hm⟩ := am_bE hm
        refine ms_callS (M2 := mt_X5_fewestOf) (d2 := 3) [.ref (aX 4 (am_ix x1)), .int x2] (am_fd ck_X8_few (pc := 34) rfl) ok_X5_fewestOf tw_692 tw_693 (Nat.le_of_ble_eq_true rfl) (Nat.le_of_ble_eq_true rfl) (x_X5_fewestOf hL (kX og4 (am_ixl hb5)) hq6) ?_
        cases hm
        exact am_end (am_fd ck_X8_few (pc := 37) rfl) am_rI rfl rfl
      · replace hm := am_if hm hc4
        refine am_steps ck_X8_few 1 (pc' := 23) (lv' := [(0, .ref 3), (1, .int x1), (2, .int x2)]) (st' := [.int (am_i (-1))]) rfl ?_
        cases hm
        exact am_end (am_fd ck_X8_few (pc := 23) rfl) am_rI rfl rfl
theorem sw_X8_run_61 : decode mt_X8_run.2.1 61 = .ok (.tableswitch 43 0 2 #[27, 30, 33], 27) := by decide +kernel
set_option maxRecDepth 100000 in
set_option maxHeartbeats 4000000 in
theorem x_X8_run {G : am_G} {m : am_m} {r : am_rr} {x1 : Int32} {x2 : Int32} {x3 : Int32} {res : Int32} (hL : am_Lay r) (hm : m_X8_run m x1 x2 x3 = some res) : am_Met G mt_X8_run 4 [.ref 3, .int x1, .int x2, .int x3] (am_hh m r) (some (.int res)) (am_hh m r) := by
  refine am_of (by decide) (Nat.le_of_ble_eq_true rfl) ?_
  unfold m_X8_run at hm
  show am_W G mt_X8_run 4 _ _ 0 [(0, .ref 3), (1, .int x1), (2, .int x2), (3, .int x3)] [] (am_hh m r)
  refine am_steps ck_X8_run 1 (pc' := 1) (lv' := [(0, .ref 3), (1, .int x1), (2, .int x2), (3, .int x3)]) (st' := [.ref 3]) rfl ?_
  refine ms_getr (ci := 6) (k := 0) (v := 4) (am_fd ck_X8_run (pc := 1) rfl) tw_190 kc_3 rfl (ly_3_0 hL) (kO og4) ?_
  refine am_steps ck_X8_run 1 (pc' := 5) (lv' := [(0, .ref 3), (1, .int x1), (2, .int x2), (3, .int x3)]) (st' := [.int x1, .ref 4]) rfl ?_
  obtain ⟨q1, hq1, hm⟩ := am_bE hm
  refine ms_callV (M2 := mt_X1_isThere) (d2 := 1) (ci := 1) [.int x1] (am_fd ck_X8_run (pc := 5) rfl) ok_X1_isThere tw_231 tw_232 tw_233 (by decide) (kO og4) (Nat.le_of_ble_eq_true rfl) (Nat.le_of_ble_eq_true rfl) (x_X1_isThere hL og4 hq1) ?_
  refine am_ifc (tgt := 13) (am_fd ck_X8_run (pc := 8) rfl) rfl (fun hc2 => ?_) (fun hc2 => ?_)
  · replace hm := am_it hm hc2
    refine am_steps ck_X8_run 1 (pc' := 14) (lv' := [(0, .ref 3), (1, .int x1), (2, .int x2), (3, .int x3)]) (st' := [.ref 3]) rfl ?_
    refine ms_getr (ci := 6) (k := 0) (v := 4) (am_fd ck_X8_run (pc := 14) rfl) tw_190 kc_3 rfl (ly_3_0 hL) (kO og4) ?_
    refine ms_getr (ci := 1) (k := 3) (v := (4 + 28)) (am_fd ck_X8_run (pc := 17) rfl) tw_48 (kO og4) rfl (lyO3 hL og4) (kXo og4) ?_
    refine am_steps ck_X8_run 1 (pc' := 21) (lv' := [(0, .ref 3), (1, .int x1), (2, .int x2), (3, .int x3)]) (st' := [.int x1, .ref (4 + 28)]) rfl ?_
    obtain ⟨hb3, hm⟩ := am_gE hm
    refine ms_rald (n := 24) (v := (aX 4 (am_ix x1))) (am_fd ck_X8_run (pc := 21) rfl) (kXo og4) hb3 (lyX hL og4 (am_ixl hb3)) (kX og4 (am_ixl hb3)) ?_
    refine am_steps ck_X8_run 3 (pc' := 26) (lv' := [(4, .ref (aX 4 (am_ix x1))), (0, .ref 3), (1, .int x1), (2, .int x2), (3, .int x3)]) (st' := [.int (am_i (-1)), .int x2]) rfl ?_
    refine am_icmp (tgt := 35) (am_fd ck_X8_run (pc := 26) rfl) rfl (fun hc4 => ?_) (fun hc4 => ?_)
    · replace hm := am_it hm hc4
      refine am_steps ck_X8_run 2 (pc' := 38) (lv' := [(4, .ref (aX 4 (am_ix x1))), (0, .ref 3), (1, .int x1), (2, .int x2), (3, .int x3)]) (st' := [.int x2, .ref (aX 4 (am_ix x1))]) rfl ?_
      obtain ⟨q5, hq5, hm⟩ := am_bE hm
      refine ms_callS (M2 := mt_X5_runAt) (d2 := 3) [.ref (aX 4 (am_ix x1)), .int x2] (am_fd ck_X8_run (pc := 38) rfl) ok_X5_runAt tw_705 tw_706 (Nat.le_of_ble_eq_true rfl) (Nat.le_of_ble_eq_true rfl) (x_X5_runAt hL (kX og4 (am_ixl hb3)) hq5) ?_
      refine am_steps ck_X8_run 3 (pc' := 46) (lv' := [(5, .int q5), (4, .ref (aX 4 (am_ix x1))), (0, .ref 3), (1, .int x1), (2, .int x2), (3, .int x3)]) (st' := [.int (am_i (-1)), .int q5]) rfl ?_
      refine am_icmp (tgt := 51) (am_fd ck_X8_run (pc := 46) rfl) rfl (fun hc6 => ?_) (fun hc6 => ?_)
      · replace hm := am_it hm hc6
        refine am_steps ck_X8_run 2 (pc' := 55) (lv' := [(5, .int q5), (4, .ref (aX 4 (am_ix x1))), (0, .ref 3), (1, .int x1), (2, .int x2), (3, .int x3)]) (st' := [.int q5, .ref (aX 4 (am_ix x1))]) rfl ?_
        obtain ⟨q7, hq7, hm⟩ := am_bE hm
        refine ms_callS (M2 := mt_X5_runEnd) (d2 := 1) [.ref (aX 4 (am_ix x1)), .int q5] (am_fd ck_X8_run (pc := 55) rfl) ok_X5_runEnd tw_714 tw_712 (Nat.le_of_ble_eq_true rfl) (Nat.le_of_ble_eq_true rfl) (x_X5_runEnd hL (kX og4 (am_ixl hb3)) hq7) ?_
        refine am_steps ck_X8_run 2 (pc' := 61) (lv' := [(6, .int q7), (5, .int q5), (4, .ref (aX 4 (am_ix x1))), (0, .ref 3), (1, .int x1), (2, .int x2), (3, .int x3)]) (st' := [.int x3]) rfl ?_
        by_cases hs8 : x3 = am_i 0
        · replace hm := am_it hm hs8
          refine ms_sw (v := 0) (off := 27) (tgt := 88) sw_X8_run_61 hs8 (by decide) (by decide) (by decide) rfl rfl ?_
          refine am_steps ck_X8_run 1 (pc' := 90) (lv' := [(6, .int q7), (5, .int q5), (4, .ref (aX 4 (am_ix x1))), (0, .ref 3), (1, .int x1), (2, .int x2), (3, .int x3)]) (st' := [.int q5]) rfl ?_
          cases hm
          exact am_end (am_fd ck_X8_run (pc := 90) rfl) am_rI rfl rfl
        · replace hm := am_if hm hs8
          by_cases hs9 : x3 = am_i 1
          · replace hm := am_it hm hs9
            refine ms_sw (v := 1) (off := 30) (tgt := 91) sw_X8_run_61 hs9 (by decide) (by decide) (by decide) rfl rfl ?_
            refine am_steps ck_X8_run 1 (pc' := 93) (lv' := [(6, .int q7), (5, .int q5), (4, .ref (aX 4 (am_ix x1))), (0, .ref 3), (1, .int x1), (2, .int x2), (3, .int x3)]) (st' := [.int q7]) rfl ?_
            cases hm
            exact am_end (am_fd ck_X8_run (pc := 93) rfl) am_rI rfl rfl
          · replace hm := am_if hm hs9
            by_cases hs11 : x3 = am_i 2
            · replace hm := am_it hm hs11
              refine ms_sw (v := 2) (off := 33) (tgt := 94) sw_X8_run_61 hs11 (by decide) (by decide) (by decide) rfl rfl ?_
              refine am_steps ck_X8_run 3 (pc' := 100) (lv' := [(6, .int q7), (5, .int q5), (4, .ref (aX 4 (am_ix x1))), (0, .ref 3), (1, .int x1), (2, .int x2), (3, .int x3)]) (st' := [.int q7, .int q5, .ref (aX 4 (am_ix x1))]) rfl ?_
              obtain ⟨q10, hq10, hm⟩ := am_bE hm
              refine ms_callS (M2 := mt_X5_totalOf) (d2 := 1) [.ref (aX 4 (am_ix x1)), .int q5, .int q7] (am_fd ck_X8_run (pc := 100) rfl) ok_X5_totalOf tw_521 tw_522 (Nat.le_of_ble_eq_true rfl) (Nat.le_of_ble_eq_true rfl) (x_X5_totalOf hL (kX og4 (am_ixl hb3)) hq10) ?_
              cases hm
              exact am_end (am_fd ck_X8_run (pc := 103) rfl) am_rI rfl rfl
            · replace hm := am_if hm hs11
              refine ms_swd (tgt := 104) sw_X8_run_61 (fun j hj => ?_) rfl ?_
              · have hj2 : j ≤ 2 := by omega
                match j, hj2 with
                | 0, _ => exact hs8
                | 1, _ => exact hs9
                | 2, _ => exact hs11
                | j + 3, h9 => omega
              · refine am_steps ck_X8_run 1 (pc' := 105) (lv' := [(6, .int q7), (5, .int q5), (4, .ref (aX 4 (am_ix x1))), (0, .ref 3), (1, .int x1), (2, .int x2), (3, .int x3)]) (st' := [.int (am_i (-1))]) rfl ?_
                cases hm
                exact am_end (am_fd ck_X8_run (pc := 105) rfl) am_rI rfl rfl
      · replace hm := am_if hm hc6
        refine am_steps ck_X8_run 1 (pc' := 50) (lv' := [(5, .int q5), (4, .ref (aX 4 (am_ix x1))), (0, .ref 3), (1, .int x1), (2, .int x2), (3, .int x3)]) (st' := [.int (am_i (-1))]) rfl ?_
        cases hm
        exact am_end (am_fd ck_X8_run (pc := 50) rfl) am_rI rfl rfl
    · replace hm := am_if hm hc4
      refine am_steps ck_X8_run 1 (pc' := 31) (lv' := [(4, .ref (aX 4 (am_ix x1))), (0, .ref 3), (1, .int x1), (2, .int x2), (3, .int x3)]) (st' := [.ref (aX 4 (am_ix x1))]) rfl ?_
      obtain ⟨q12, hq12, hm⟩ := am_bE hm
      refine ms_callS (M2 := mt_X5_runCount) (d2 := 2) [.ref (aX 4 (am_ix x1))] (am_fd ck_X8_run (pc := 31) rfl) ok_X5_runCount tw_699 tw_700 (Nat.le_of_ble_eq_true rfl) (Nat.le_of_ble_eq_true rfl) (x_X5_runCount hL (kX og4 (am_ixl hb3)) hq12) ?_
      cases hm
      exact am_end (am_fd ck_X8_run (pc := 34) rfl) am_rI rfl rfl
  · replace hm := am_if hm hc2
    refine am_steps ck_X8_run 1 (pc' := 12) (lv' := [(0, .ref 3), (1, .int x1), (2, .int x2), (3, .int x3)]) (st' := [.int (am_i (-1))]) rfl ?_
    cases hm
    exact am_end (am_fd ck_X8_run (pc := 12) rfl) am_rI rfl rfl
set_option maxRecDepth 100000 in
set_option maxHeartbeats 4000000 in
theorem x_X8_report {G : am_G} {m : am_m} {r : am_rr} {x1 : Int32} {res : Int32 × am_m} (hL : am_Lay r) (hm : m_X8_report m x1 = some res) : am_Met G mt_X8_report 5 [.ref 3, .int x1] (am_hh m r) (some (.int res.1)) (am_hh res.2 r) := by
  refine am_of (by decide) (Nat.le_of_ble_eq_true rfl) ?_
  unfold m_X8_report at hm
  show am_W G mt_X8_report 5 _ _ 0 [(0, .ref 3), (1, .int x1)] [] (am_hh m r)
  refine am_steps ck_X8_report 1 (pc' := 1) (lv' := [(0, .ref 3), (1, .int x1)]) (st' := [.ref 3]) rfl ?_
  refine ms_getr (ci := 6) (k := 7) (v := 2986) (am_fd ck_X8_report (pc := 1) rfl) tw_197 kc_3 rfl (ly_3_7 hL) kc_2986 ?_
  obtain ⟨q1, hq1, hm⟩ := am_bE hm
  refine ms_callVv (M2 := mt_X3_clear) (d2 := 1) (ci := 3) [] (am_fd ck_X8_report (pc := 4) rfl) ok_X3_clear tw_719 tw_720 tw_721 (by decide) kc_2986 (Nat.le_of_ble_eq_true rfl) (Nat.le_of_ble_eq_true rfl) (x_X3_clear hL hq1) ?_
  refine am_steps ck_X8_report 1 (pc' := 8) (lv' := [(0, .ref 3), (1, .int x1)]) (st' := [.ref 3]) rfl ?_
  refine ms_getr (ci := 6) (k := 0) (v := 4) (am_fd ck_X8_report (pc := 8) rfl) tw_190 kc_3 rfl (ly_3_0 hL) (kO og4) ?_
  refine am_steps ck_X8_report 1 (pc' := 12) (lv' := [(0, .ref 3), (1, .int x1)]) (st' := [.int x1, .ref 4]) rfl ?_
  obtain ⟨q2, hq2, hm⟩ := am_bE hm
  refine ms_callV (M2 := mt_X1_isThere) (d2 := 1) (ci := 1) [.int x1] (am_fd ck_X8_report (pc := 12) rfl) ok_X1_isThere tw_231 tw_232 tw_233 (by decide) (kO og4) (Nat.le_of_ble_eq_true rfl) (Nat.le_of_ble_eq_true rfl) (x_X1_isThere hL og4 hq2) ?_
  refine am_ifc (tgt := 20) (am_fd ck_X8_report (pc := 15) rfl) rfl (fun hc3 => ?_) (fun hc3 => ?_)
  · replace hm := am_it hm hc3
    refine am_steps ck_X8_report 1 (pc' := 21) (lv' := [(0, .ref 3), (1, .int x1)]) (st' := [.ref 3]) rfl ?_
    refine ms_getr (ci := 6) (k := 7) (v := 2986) (am_fd ck_X8_report (pc := 21) rfl) tw_197 kc_3 rfl (ly_3_7 hL) kc_2986 ?_
    refine am_steps ck_X8_report 2 (pc' := 26) (lv' := [(0, .ref 3), (1, .int x1)]) (st' := [.ref 3, .int x1, .ref 2986]) rfl ?_
    refine ms_getr (ci := 6) (k := 0) (v := 4) (am_fd ck_X8_report (pc := 26) rfl) tw_190 kc_3 rfl (ly_3_0 hL) (kO og4) ?_
    refine ms_getr (ci := 1) (k := 3) (v := (4 + 28)) (am_fd ck_X8_report (pc := 29) rfl) tw_48 (kO og4) rfl (lyO3 hL og4) (kXo og4) ?_
    refine am_steps ck_X8_report 1 (pc' := 33) (lv' := [(0, .ref 3), (1, .int x1)]) (st' := [.int x1, .ref (4 + 28), .int x1, .ref 2986]) rfl ?_
    obtain ⟨hb4, hm⟩ := am_gE hm
    refine ms_rald (n := 24) (v := (aX 4 (am_ix x1))) (am_fd ck_X8_report (pc := 33) rfl) (kXo og4) hb4 (lyX hL og4 (am_ixl hb4)) (kX og4 (am_ixl hb4)) ?_
    obtain ⟨q5, hq5, hm⟩ := am_bE hm
    refine ms_callVv (M2 := mt_X3_tell) (d2 := 4) (ci := 3) [.int x1, .ref (aX 4 (am_ix x1))] (am_fd ck_X8_report (pc := 34) rfl) ok_X3_tell tw_723 tw_724 tw_725 (by decide) kc_2986 (Nat.le_of_ble_eq_true rfl) (Nat.le_of_ble_eq_true rfl) (x_X3_tell hL (kX og4 (am_ixl hb4)) hq5) ?_
    refine am_steps ck_X8_report 1 (pc' := 38) (lv' := [(0, .ref 3), (1, .int x1)]) (st' := [.ref 3]) rfl ?_
    refine ms_getr (ci := 6) (k := 7) (v := 2986) (am_fd ck_X8_report (pc := 38) rfl) tw_197 kc_3 rfl (ly_3_7 hL) kc_2986 ?_
    refine ms_geti (ci := 3) (k := 1) (am_fd ck_X8_report (pc := 41) rfl) tw_183 kc_2986 rfl ?_
    cases hm
    exact am_end (am_fd ck_X8_report (pc := 44) rfl) am_rI rfl rfl
  · replace hm := am_if hm hc3
    refine am_steps ck_X8_report 1 (pc' := 19) (lv' := [(0, .ref 3), (1, .int x1)]) (st' := [.int (am_i (-1))]) rfl ?_
    cases hm
    exact am_end (am_fd ck_X8_report (pc := 19) rfl) am_rI rfl rfl
set_option maxRecDepth 100000 in
set_option maxHeartbeats 4000000 in
theorem x_X8_sign {G : am_G} {m : am_m} {r : am_rr} {x1 : Int32} {res : Int32} (hL : am_Lay r) (hm : m_X8_sign m x1 = some res) : am_Met G mt_X8_sign 2 [.ref 3, .int x1] (am_hh m r) (some (.int res)) (am_hh m r) := by
  refine am_of (by decide) (Nat.le_of_ble_eq_true rfl) ?_
  unfold m_X8_sign at hm
  show am_W G mt_X8_sign 2 _ _ 0 [(0, .ref 3), (1, .int x1)] [] (am_hh m r)
  refine am_steps ck_X8_sign 1 (pc' := 1) (lv' := [(0, .ref 3), (1, .int x1)]) (st' := [.ref 3]) rfl ?_
  refine ms_getr (ci := 6) (k := 7) (v := 2986) (am_fd ck_X8_sign (pc := 1) rfl) tw_197 kc_3 rfl (ly_3_7 hL) kc_2986 ?_
  refine am_steps ck_X8_sign 1 (pc' := 5) (lv' := [(0, .ref 3), (1, .int x1)]) (st' := [.int x1, .ref 2986]) rfl ?_
  obtain ⟨q1, hq1, hm⟩ := am_bE hm
  refine ms_callV (M2 := mt_X3_signAt) (d2 := 1) (ci := 3) [.int x1] (am_fd ck_X8_sign (pc := 5) rfl) ok_X3_signAt tw_743 tw_744 tw_745 (by decide) kc_2986 (Nat.le_of_ble_eq_true rfl) (Nat.le_of_ble_eq_true rfl) (x_X3_signAt hL hq1) ?_
  cases hm
  exact am_end (am_fd ck_X8_sign (pc := 8) rfl) am_rI rfl rfl
set_option maxRecDepth 100000 in
set_option maxHeartbeats 4000000 in
theorem x_X8_drawn_66 {G : am_G} {x1 : Int32} {x2 : Int32} {x3 : Int32} {r : am_rr} {y2 : Int32} {y3 : Int32} {res : Int32 × am_m} {k : Int32 → am_m → Option (Int32 × am_m)} (hL : am_Lay r) : ∀ (n : Nat) (z4 : Int32) (z5 : Int32) (z6 : Int32) (m : am_m), m_X8_drawn_66 x1 x2 x3 y2 y3 k n z4 z5 z6 m = some res → (∀ (u5 : Int32) (m1 : am_m), k u5 m1 = some res → am_W G mt_X8_drawn 3 (some (.int res.1)) (am_hh res.2 r) 133 [(5, .int u5)] [] (am_hh m1 r)) → am_W G mt_X8_drawn 3 (some (.int res.1)) (am_hh res.2 r) 66 [(0, .ref 3), (2, .int y2), (3, .int y3), (4, .int z4), (5, .int z5), (6, .int z6)] [] (am_hh m r) := by
  intro n
  induction n with
  | zero => intro z4 z5 z6 m hm K; cases hm
  | succ n ih =>
    intro z4 z5 z6 m hm K
    unfold m_X8_drawn_66 at hm
    refine am_steps ck_X8_drawn 2 (pc' := 69) (lv' := [(0, .ref 3), (2, .int y2), (3, .int y3), (4, .int z4), (5, .int z5), (6, .int z6)]) (st' := [.int y2, .int z6]) rfl ?_
    refine am_icmp (tgt := 133) (am_fd ck_X8_drawn (pc := 69) rfl) rfl (fun hc11 => ?_) (fun hc11 => ?_)
    · replace hm := am_it hm hc11
      refine am_subp [4] rfl ?_
      exact K _ _ hm
    · replace hm := am_if hm hc11
      refine am_steps ck_X8_drawn 1 (pc' := 74) (lv' := [(0, .ref 3), (2, .int y2), (3, .int y3), (4, .int z4), (5, .int z5), (6, .int z6)]) (st' := [.int z4]) rfl ?_
      refine am_ifc (tgt := 133) (am_fd ck_X8_drawn (pc := 74) rfl) rfl (fun hc12 => ?_) (fun hc12 => ?_)
      · replace hm := am_it hm hc12
        refine am_subp [4] rfl ?_
        exact K _ _ hm
      · replace hm := am_if hm hc12
        refine am_steps ck_X8_drawn 1 (pc' := 78) (lv' := [(0, .ref 3), (2, .int y2), (3, .int y3), (4, .int z4), (5, .int z5), (6, .int z6)]) (st' := [.ref 3]) rfl ?_
        refine ms_getr (ci := 6) (k := 9) (v := 3013) (am_fd ck_X8_drawn (pc := 78) rfl) tw_199 kc_3 rfl (ly_3_9 hL) kc_3013 ?_
        refine am_steps ck_X8_drawn 1 (pc' := 82) (lv' := [(0, .ref 3), (2, .int y2), (3, .int y3), (4, .int z4), (5, .int z5), (6, .int z6)]) (st' := [.ref 3, .ref 3013]) rfl ?_
        refine ms_getr (ci := 6) (k := 3) (v := 2970) (am_fd ck_X8_drawn (pc := 82) rfl) tw_193 kc_3 rfl (ly_3_3 hL) (kB bk2970).1 ?_
        refine am_steps ck_X8_drawn 1 (pc' := 87) (lv' := [(0, .ref 3), (2, .int y2), (3, .int y3), (4, .int z4), (5, .int z5), (6, .int z6)]) (st' := [.int z4, .ref 2970, .ref 3013]) rfl ?_
        obtain ⟨q13, hq13, hm⟩ := am_bE hm
        refine ms_callV (M2 := mt_X0_drawOf) (d2 := 1) (ci := 0) [.int z4] (am_fd ck_X8_drawn (pc := 87) rfl) ok_X0_drawOf tw_752 tw_753 tw_754 (by decide) (kB bk2970).1 (Nat.le_of_ble_eq_true rfl) (Nat.le_of_ble_eq_true rfl) (x_X0_drawOf hL bk2970 hq13) ?_
        obtain ⟨q14, hq14, hm⟩ := am_bE hm
        refine ms_callS (M2 := mt_X5_categoryAt) (d2 := 1) [.ref 3013, .int q13.1] (am_fd ck_X8_drawn (pc := 90) rfl) ok_X5_categoryAt tw_631 tw_632 (Nat.le_of_ble_eq_true rfl) (Nat.le_of_ble_eq_true rfl) (x_X5_categoryAt hL kc_3013 hq14) ?_
        refine am_steps ck_X8_drawn 3 (pc' := 98) (lv' := [(7, .int q14), (0, .ref 3), (2, .int y2), (3, .int y3), (4, .int z4), (5, .int z5), (6, .int z6)]) (st' := [.int (am_i (-1)), .int q14]) rfl ?_
        refine am_icmp (tgt := 104) (am_fd ck_X8_drawn (pc := 98) rfl) rfl (fun hc15 => ?_) (fun hc15 => ?_)
        · replace hm := am_it hm hc15
          refine am_steps ck_X8_drawn 1 (pc' := 105) (lv' := [(7, .int q14), (0, .ref 3), (2, .int y2), (3, .int y3), (4, .int z4), (5, .int z5), (6, .int z6)]) (st' := [.ref 3]) rfl ?_
          refine ms_getr (ci := 6) (k := 9) (v := 3013) (am_fd ck_X8_drawn (pc := 105) rfl) tw_199 kc_3 rfl (ly_3_9 hL) kc_3013 ?_
          refine am_steps ck_X8_drawn 2 (pc' := 111) (lv' := [(7, .int q14), (0, .ref 3), (2, .int y2), (3, .int y3), (4, .int z4), (5, .int z5), (6, .int z6)]) (st' := [.int q14, .ref 3013, .int q14, .ref 3013]) rfl ?_
          obtain ⟨hb16, hm⟩ := am_gE hm
          refine ms_iald (n := 64) (am_fd ck_X8_drawn (pc := 111) rfl) kc_3013 hb16 ?_
          refine am_steps ck_X8_drawn 2 (pc' := 114) (lv' := [(7, .int q14), (0, .ref 3), (2, .int y2), (3, .int y3), (4, .int z4), (5, .int z5), (6, .int z6)]) (st' := [.int ((q13.2 3013 (am_ix q14)) - (am_i 1)), .int q14, .ref 3013]) rfl ?_
          obtain ⟨hb17, hm⟩ := am_gE hm
          refine ms_iast (n := 64) (am_fd ck_X8_drawn (pc := 114) rfl) kc_3013 hb17 (fun m18 em18 => ?_)
          replace hm := am_letE em18 hm
          refine am_steps ck_X8_drawn 3 (pc' := 121) (lv' := [(4, .int (z4 + am_i (-1))), (7, .int q14), (0, .ref 3), (2, .int y2), (3, .int y3), (5, .int z5), (6, .int z6)]) (st' := [.int y3, .int q14]) rfl ?_
          refine am_icmp (tgt := 127) (am_fd ck_X8_drawn (pc := 121) rfl) rfl (fun hc19 => ?_) (fun hc19 => ?_)
          · replace hm := am_it hm hc19
            refine am_steps ck_X8_drawn 2 (pc' := 66) (lv' := [(6, .int (z6 + am_i 1)), (4, .int (z4 + am_i (-1))), (7, .int q14), (0, .ref 3), (2, .int y2), (3, .int y3), (5, .int z5)]) (st' := []) rfl ?_
            refine am_subp [3, 4, 5, 1, 6, 0] rfl ?_
            exact ih _ _ _ _ hm K
          · replace hm := am_if hm hc19
            refine am_steps ck_X8_drawn 3 (pc' := 66) (lv' := [(6, .int (z6 + am_i 1)), (5, .int (z5 + am_i 1)), (4, .int (z4 + am_i (-1))), (7, .int q14), (0, .ref 3), (2, .int y2), (3, .int y3)]) (st' := []) rfl ?_
            refine am_subp [4, 5, 6, 2, 1, 0] rfl ?_
            exact ih _ _ _ _ hm K
        · replace hm := am_if hm hc15
          refine am_steps ck_X8_drawn 1 (pc' := 133) (lv' := [(7, .int q14), (0, .ref 3), (2, .int y2), (3, .int y3), (4, .int z4), (5, .int z5), (6, .int z6)]) (st' := []) rfl ?_
          refine am_subp [5] rfl ?_
          exact K _ _ hm
set_option maxRecDepth 100000 in
set_option maxHeartbeats 4000000 in
theorem x_X8_drawn {G : am_G} {m : am_m} {r : am_rr} {x1 : Int32} {x2 : Int32} {x3 : Int32} {res : Int32 × am_m} (hL : am_Lay r) (hm : m_X8_drawn m x1 x2 x3 = some res) : am_Met G mt_X8_drawn 3 [.ref 3, .int x1, .int x2, .int x3] (am_hh m r) (some (.int res.1)) (am_hh res.2 r) := by
  refine am_of (by decide) (Nat.le_of_ble_eq_true rfl) ?_
  unfold m_X8_drawn at hm
  show am_W G mt_X8_drawn 3 _ _ 0 [(0, .ref 3), (1, .int x1), (2, .int x2), (3, .int x3)] [] (am_hh m r)
  refine am_steps ck_X8_drawn 1 (pc' := 1) (lv' := [(0, .ref 3), (1, .int x1), (2, .int x2), (3, .int x3)]) (st' := [.ref 3]) rfl ?_
  refine ms_getr (ci := 6) (k := 0) (v := 4) (am_fd ck_X8_drawn (pc := 1) rfl) tw_190 kc_3 rfl (ly_3_0 hL) (kO og4) ?_
  refine am_steps ck_X8_drawn 1 (pc' := 5) (lv' := [(0, .ref 3), (1, .int x1), (2, .int x2), (3, .int x3)]) (st' := [.int x1, .ref 4]) rfl ?_
  obtain ⟨q1, hq1, hm⟩ := am_bE hm
  refine ms_callV (M2 := mt_X1_isThere) (d2 := 1) (ci := 1) [.int x1] (am_fd ck_X8_drawn (pc := 5) rfl) ok_X1_isThere tw_231 tw_232 tw_233 (by decide) (kO og4) (Nat.le_of_ble_eq_true rfl) (Nat.le_of_ble_eq_true rfl) (x_X1_isThere hL og4 hq1) ?_
  refine am_ifc (tgt := 29) (am_fd ck_X8_drawn (pc := 8) rfl) rfl (fun hc2 => ?_) (fun hc2 => ?_)
  · replace hm := am_it hm hc2
    refine am_steps ck_X8_drawn 1 (pc' := 30) (lv' := [(0, .ref 3), (1, .int x1), (2, .int x2), (3, .int x3)]) (st' := [.int (am_i (-1))]) rfl ?_
    cases hm
    exact am_end (am_fd ck_X8_drawn (pc := 30) rfl) am_rI rfl rfl
  · replace hm := am_if hm hc2
    refine am_steps ck_X8_drawn 2 (pc' := 13) (lv' := [(0, .ref 3), (1, .int x1), (2, .int x2), (3, .int x3)]) (st' := [.int (am_i 1), .int x2]) rfl ?_
    refine am_icmp (tgt := 29) (am_fd ck_X8_drawn (pc := 13) rfl) rfl (fun hc3 => ?_) (fun hc3 => ?_)
    · replace hm := am_it hm hc3
      refine am_steps ck_X8_drawn 1 (pc' := 30) (lv' := [(0, .ref 3), (1, .int x1), (2, .int x2), (3, .int x3)]) (st' := [.int (am_i (-1))]) rfl ?_
      cases hm
      exact am_end (am_fd ck_X8_drawn (pc := 30) rfl) am_rI rfl rfl
    · replace hm := am_if hm hc3
      refine am_steps ck_X8_drawn 2 (pc' := 19) (lv' := [(0, .ref 3), (1, .int x1), (2, .int x2), (3, .int x3)]) (st' := [.int (am_i 50), .int x2]) rfl ?_
      refine am_icmp (tgt := 29) (am_fd ck_X8_drawn (pc := 19) rfl) rfl (fun hc4 => ?_) (fun hc4 => ?_)
      · replace hm := am_it hm hc4
        refine am_steps ck_X8_drawn 1 (pc' := 30) (lv' := [(0, .ref 3), (1, .int x1), (2, .int x2), (3, .int x3)]) (st' := [.int (am_i (-1))]) rfl ?_
        cases hm
        exact am_end (am_fd ck_X8_drawn (pc := 30) rfl) am_rI rfl rfl
      · replace hm := am_if hm hc4
        refine am_steps ck_X8_drawn 1 (pc' := 23) (lv' := [(0, .ref 3), (1, .int x1), (2, .int x2), (3, .int x3)]) (st' := [.int x3]) rfl ?_
        obtain ⟨q5, hq5, hm⟩ := am_bE hm
        refine ms_callS (M2 := mt_X8_isCategory) (d2 := 1) [.int x3] (am_fd ck_X8_drawn (pc := 23) rfl) ok_X8_isCategory tw_235 tw_236 (Nat.le_of_ble_eq_true rfl) (Nat.le_of_ble_eq_true rfl) (x_X8_isCategory hL hq5) ?_
        refine am_ifc (tgt := 31) (am_fd ck_X8_drawn (pc := 26) rfl) rfl (fun hc6 => ?_) (fun hc6 => ?_)
        · replace hm := am_it hm hc6
          refine am_steps ck_X8_drawn 1 (pc' := 32) (lv' := [(0, .ref 3), (1, .int x1), (2, .int x2), (3, .int x3)]) (st' := [.ref 3]) rfl ?_
          refine ms_getr (ci := 6) (k := 0) (v := 4) (am_fd ck_X8_drawn (pc := 32) rfl) tw_190 kc_3 rfl (ly_3_0 hL) (kO og4) ?_
          refine ms_getr (ci := 1) (k := 3) (v := (4 + 28)) (am_fd ck_X8_drawn (pc := 35) rfl) tw_48 (kO og4) rfl (lyO3 hL og4) (kXo og4) ?_
          refine am_steps ck_X8_drawn 1 (pc' := 39) (lv' := [(0, .ref 3), (1, .int x1), (2, .int x2), (3, .int x3)]) (st' := [.int x1, .ref (4 + 28)]) rfl ?_
          obtain ⟨hb7, hm⟩ := am_gE hm
          refine ms_rald (n := 24) (v := (aX 4 (am_ix x1))) (am_fd ck_X8_drawn (pc := 39) rfl) (kXo og4) hb7 (lyX hL og4 (am_ixl hb7)) (kX og4 (am_ixl hb7)) ?_
          refine am_steps ck_X8_drawn 2 (pc' := 42) (lv' := [(0, .ref 3), (1, .int x1), (2, .int x2), (3, .int x3)]) (st' := [.ref 3, .int (am_i 0), .ref (aX 4 (am_ix x1))]) rfl ?_
          refine ms_getr (ci := 6) (k := 9) (v := 3013) (am_fd ck_X8_drawn (pc := 42) rfl) tw_199 kc_3 rfl (ly_3_9 hL) kc_3013 ?_
          refine am_steps ck_X8_drawn 2 (pc' := 48) (lv' := [(0, .ref 3), (1, .int x1), (2, .int x2), (3, .int x3)]) (st' := [.int (am_i 64), .int (am_i 0), .ref 3013, .int (am_i 0), .ref (aX 4 (am_ix x1))]) rfl ?_
          obtain ⟨hb8, hm⟩ := am_gE hm
          refine ms_copy (n1 := 64) (n2 := 64) (Or.inl rfl) (am_fd ck_X8_drawn (pc := 48) rfl) tw_751 tw_248 tw_247 tw_10 (kX og4 (am_ixl hb7)) kc_3013 hb8 am_i11 (Nat.le_of_ble_eq_true rfl) (Nat.le_of_ble_eq_true rfl) (fun m9 em9 => ?_)
          replace hm := am_letE em9 hm
          refine am_steps ck_X8_drawn 1 (pc' := 52) (lv' := [(0, .ref 3), (1, .int x1), (2, .int x2), (3, .int x3)]) (st' := [.ref 3]) rfl ?_
          refine ms_getr (ci := 6) (k := 9) (v := 3013) (am_fd ck_X8_drawn (pc := 52) rfl) tw_199 kc_3 rfl (ly_3_9 hL) kc_3013 ?_
          obtain ⟨q10, hq10, hm⟩ := am_bE hm
          refine ms_callS (M2 := mt_X5_allOf) (d2 := 2) [.ref 3013] (am_fd ck_X8_drawn (pc := 55) rfl) ok_X5_allOf tw_585 tw_586 (Nat.le_of_ble_eq_true rfl) (Nat.le_of_ble_eq_true rfl) (x_X5_allOf hL kc_3013 hq10) ?_
          refine am_steps ck_X8_drawn 5 (pc' := 66) (lv' := [(6, .int (am_i 0)), (5, .int (am_i 0)), (4, .int q10), (0, .ref 3), (1, .int x1), (2, .int x2), (3, .int x3)]) (st' := []) rfl ?_
          refine am_subp [3, 5, 6, 2, 1, 0] rfl ?_
          refine x_X8_drawn_66 hL am_F _ _ _ _ hm (fun u20 m21 hm => ?_)
          refine am_steps ck_X8_drawn 1 (pc' := 135) (lv' := [(5, .int u20)]) (st' := [.int u20]) rfl ?_
          cases hm
          exact am_end (am_fd ck_X8_drawn (pc := 135) rfl) am_rI rfl rfl
        · replace hm := am_if hm hc6
          refine am_steps ck_X8_drawn 1 (pc' := 30) (lv' := [(0, .ref 3), (1, .int x1), (2, .int x2), (3, .int x3)]) (st' := [.int (am_i (-1))]) rfl ?_
          cases hm
          exact am_end (am_fd ck_X8_drawn (pc := 30) rfl) am_rI rfl rfl
set_option maxRecDepth 100000 in
set_option maxHeartbeats 4000000 in
theorem x_X8_versions {G : am_G} {m : am_m} {r : am_rr} {x1 : Int32} {res : Int32} (hL : am_Lay r) (hm : m_X8_versions m x1 = some res) : am_Met G mt_X8_versions 2 [.ref 3, .int x1] (am_hh m r) (some (.int res)) (am_hh m r) := by
  refine am_of (by decide) (Nat.le_of_ble_eq_true rfl) ?_
  unfold m_X8_versions at hm
  show am_W G mt_X8_versions 2 _ _ 0 [(0, .ref 3), (1, .int x1)] [] (am_hh m r)
  refine am_steps ck_X8_versions 1 (pc' := 1) (lv' := [(0, .ref 3), (1, .int x1)]) (st' := [.ref 3]) rfl ?_
  refine ms_getr (ci := 6) (k := 0) (v := 4) (am_fd ck_X8_versions (pc := 1) rfl) tw_190 kc_3 rfl (ly_3_0 hL) (kO og4) ?_
  refine am_steps ck_X8_versions 1 (pc' := 5) (lv' := [(0, .ref 3), (1, .int x1)]) (st' := [.int x1, .ref 4]) rfl ?_
  obtain ⟨q1, hq1, hm⟩ := am_bE hm
  refine ms_callV (M2 := mt_X1_isThere) (d2 := 1) (ci := 1) [.int x1] (am_fd ck_X8_versions (pc := 5) rfl) ok_X1_isThere tw_231 tw_232 tw_233 (by decide) (kO og4) (Nat.le_of_ble_eq_true rfl) (Nat.le_of_ble_eq_true rfl) (x_X1_isThere hL og4 hq1) ?_
  refine am_ifc (tgt := 23) (am_fd ck_X8_versions (pc := 8) rfl) rfl (fun hc2 => ?_) (fun hc2 => ?_)
  · replace hm := am_it hm hc2
    refine am_steps ck_X8_versions 1 (pc' := 24) (lv' := [(0, .ref 3), (1, .int x1)]) (st' := [.int (am_i (-1))]) rfl ?_
    cases hm
    exact am_end (am_fd ck_X8_versions (pc := 24) rfl) am_rI rfl rfl
  · replace hm := am_if hm hc2
    refine am_steps ck_X8_versions 1 (pc' := 12) (lv' := [(0, .ref 3), (1, .int x1)]) (st' := [.ref 3]) rfl ?_
    refine ms_getr (ci := 6) (k := 0) (v := 4) (am_fd ck_X8_versions (pc := 12) rfl) tw_190 kc_3 rfl (ly_3_0 hL) (kO og4) ?_
    refine ms_getr (ci := 1) (k := 4) (v := (aC 4)) (am_fd ck_X8_versions (pc := 15) rfl) tw_50 (kO og4) rfl (lyO4 hL og4) (kC og4) ?_
    refine am_steps ck_X8_versions 1 (pc' := 19) (lv' := [(0, .ref 3), (1, .int x1)]) (st' := [.int x1, .ref (aC 4)]) rfl ?_
    obtain ⟨hb3, hm⟩ := am_gE hm
    refine ms_iald (n := 24) (am_fd ck_X8_versions (pc := 19) rfl) (kC og4) hb3 ?_
    refine am_steps ck_X8_versions 1 (pc' := 24) (lv' := [(0, .ref 3), (1, .int x1)]) (st' := [.int (m (aC 4) (am_ix x1))]) rfl ?_
    cases hm
    exact am_end (am_fd ck_X8_versions (pc := 24) rfl) am_rI rfl rfl
set_option maxRecDepth 100000 in
set_option maxHeartbeats 4000000 in
theorem x_X8_was {G : am_G} {m : am_m} {r : am_rr} {x1 : Int32} {x2 : Int32} {x3 : Int32} {res : Int32} (hL : am_Lay r) (hm : m_X8_was m r x1 x2 x3 = some res) : am_Met G mt_X8_was 3 [.ref 3, .int x1, .int x2, .int x3] (am_hh m r) (some (.int res)) (am_hh m r) := by
  refine am_of (by decide) (Nat.le_of_ble_eq_true rfl) ?_
  unfold m_X8_was at hm
  show am_W G mt_X8_was 3 _ _ 0 [(0, .ref 3), (1, .int x1), (2, .int x2), (3, .int x3)] [] (am_hh m r)
  refine am_steps ck_X8_was 1 (pc' := 1) (lv' := [(0, .ref 3), (1, .int x1), (2, .int x2), (3, .int x3)]) (st' := [.ref 3]) rfl ?_
  refine ms_getr (ci := 6) (k := 0) (v := 4) (am_fd ck_X8_was (pc := 1) rfl) tw_190 kc_3 rfl (ly_3_0 hL) (kO og4) ?_
  refine am_steps ck_X8_was 2 (pc' := 6) (lv' := [(0, .ref 3), (1, .int x1), (2, .int x2), (3, .int x3)]) (st' := [.int x2, .int x1, .ref 4]) rfl ?_
  obtain ⟨q1, hq1, hm⟩ := am_bE hm
  refine ms_callV (M2 := mt_X1_hasVersion) (d2 := 2) (ci := 1) [.int x1, .int x2] (am_fd ck_X8_was (pc := 6) rfl) ok_X1_hasVersion tw_766 tw_767 tw_768 (by decide) (kO og4) (Nat.le_of_ble_eq_true rfl) (Nat.le_of_ble_eq_true rfl) (x_X1_hasVersion hL og4 hq1) ?_
  refine am_ifc (tgt := 19) (am_fd ck_X8_was (pc := 9) rfl) rfl (fun hc2 => ?_) (fun hc2 => ?_)
  · replace hm := am_it hm hc2
    refine am_steps ck_X8_was 1 (pc' := 20) (lv' := [(0, .ref 3), (1, .int x1), (2, .int x2), (3, .int x3)]) (st' := [.int (am_i (-1))]) rfl ?_
    cases hm
    exact am_end (am_fd ck_X8_was (pc := 20) rfl) am_rI rfl rfl
  · replace hm := am_if hm hc2
    refine am_steps ck_X8_was 1 (pc' := 13) (lv' := [(0, .ref 3), (1, .int x1), (2, .int x2), (3, .int x3)]) (st' := [.int x3]) rfl ?_
    obtain ⟨q3, hq3, hm⟩ := am_bE hm
    refine ms_callS (M2 := mt_X8_isCategory) (d2 := 1) [.int x3] (am_fd ck_X8_was (pc := 13) rfl) ok_X8_isCategory tw_235 tw_236 (Nat.le_of_ble_eq_true rfl) (Nat.le_of_ble_eq_true rfl) (x_X8_isCategory hL hq3) ?_
    refine am_ifc (tgt := 21) (am_fd ck_X8_was (pc := 16) rfl) rfl (fun hc4 => ?_) (fun hc4 => ?_)
    · replace hm := am_it hm hc4
      refine am_steps ck_X8_was 1 (pc' := 22) (lv' := [(0, .ref 3), (1, .int x1), (2, .int x2), (3, .int x3)]) (st' := [.ref 3]) rfl ?_
      refine ms_getr (ci := 6) (k := 0) (v := 4) (am_fd ck_X8_was (pc := 22) rfl) tw_190 kc_3 rfl (ly_3_0 hL) (kO og4) ?_
      refine ms_getr (ci := 1) (k := 5) (v := (4 + 54)) (am_fd ck_X8_was (pc := 25) rfl) tw_52 (kO og4) rfl (lyO5 hL og4) (kVo og4) ?_
      refine am_steps ck_X8_was 5 (pc' := 34) (lv' := [(0, .ref 3), (1, .int x1), (2, .int x2), (3, .int x3)]) (st' := [.int ((x1 * (am_i 8)) + x2), .ref (4 + 54)]) rfl ?_
      obtain ⟨hb5, hm⟩ := am_gE hm
      obtain ⟨hx6, hx6k⟩ : (∃ w, w < 192 ∧ (r (4 + 54) (am_ix ((x1 * (am_i 8)) + x2))) = 4 + 55 + w) ∧ am_k (r (4 + 54) (am_ix ((x1 * (am_i 8)) + x2))) 11 64 := ⟨hL.vx og4 (am_ixl hb5), hL.v og4 (am_ixl hb5)⟩
      refine ms_rald (n := 192) (v := (r (4 + 54) (am_ix ((x1 * (am_i 8)) + x2)))) (am_fd ck_X8_was (pc := 34) rfl) (kVo og4) hb5 rfl hx6k ?_
      refine am_steps ck_X8_was 1 (pc' := 36) (lv' := [(0, .ref 3), (1, .int x1), (2, .int x2), (3, .int x3)]) (st' := [.int x3, .ref (r (4 + 54) (am_ix ((x1 * (am_i 8)) + x2)))]) rfl ?_
      obtain ⟨hb7, hm⟩ := am_gE hm
      refine ms_iald (n := 64) (am_fd ck_X8_was (pc := 36) rfl) hx6k hb7 ?_
      cases hm
      exact am_end (am_fd ck_X8_was (pc := 37) rfl) am_rI rfl rfl
    · replace hm := am_if hm hc4
      refine am_steps ck_X8_was 1 (pc' := 20) (lv' := [(0, .ref 3), (1, .int x1), (2, .int x2), (3, .int x3)]) (st' := [.int (am_i (-1))]) rfl ?_
      cases hm
      exact am_end (am_fd ck_X8_was (pc := 20) rfl) am_rI rfl rfl
