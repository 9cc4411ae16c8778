/-! ===== the walks, 5 ===== -/
set_option maxRecDepth 100000 in
set_option maxHeartbeats 4000000 in
theorem x_X9_unitsBelow_19 {G : am_G} {x1 : Int32} {x2 : Int32} {r : am_rr} {y1 : Int32} {y2 : Int32} {res : am_m} {self : am_m → Int32 → Int32 → Option (am_m)} {dd : Nat} {k : am_m → Option (am_m)} (hL : am_Lay r) (hdd : 4 ≤ dd) (sh : ∀ {m : am_m} {r : am_rr} {x1 : Int32} {x2 : Int32} {res : am_m}, am_Lay r → self m x1 x2 = some res → am_Met G mt_X9_unitsBelow dd [.ref 3261, .int x1, .int x2] (am_hh m r) none (am_hh res r)) : ∀ (n : Nat) (z3 : Int32) (m : am_m), m_X9_unitsBelow_19 self x1 x2 y1 y2 k n z3 m = some res → (∀ (m1 : am_m), k m1 = some res → am_W G mt_X9_unitsBelow (dd + 1) none (am_hh res r) 155 [(0, .ref 3261)] [] (am_hh m1 r)) → am_W G mt_X9_unitsBelow (dd + 1) none (am_hh res r) 19 [(0, .ref 3261), (1, .int y1), (2, .int y2), (3, .int z3)] [] (am_hh m r) := by
  intro n
  induction n with
  | zero => intro z3 m hm K; cases hm
  | succ n ih =>
    intro z3 m hm K
    unfold m_X9_unitsBelow_19 at hm
    refine am_steps ck_X9_unitsBelow 1 (pc' := 20) (lv' := [(0, .ref 3261), (1, .int y1), (2, .int y2), (3, .int z3)]) (st' := [.int z3]) rfl ?_
    refine am_ifc (tgt := 155) (am_fd ck_X9_unitsBelow (pc := 20) rfl) rfl (fun hc3 => ?_) (fun hc3 => ?_)
    · replace hm := am_it hm hc3
      refine am_subp [0] rfl ?_
      exact K _ hm
    · replace hm := am_if hm hc3
      refine am_steps ck_X9_unitsBelow 3 (pc' := 27) (lv' := [(0, .ref 3261), (1, .int y1), (2, .int y2), (3, .int z3)]) (st' := [.int (am_i 23), .int (am_i 0), .ref 3261]) rfl ?_
      obtain ⟨q4, hq4, hm⟩ := am_bE hm
      refine ms_callV (M2 := mt_X9_number) (d2 := 3) (ci := 7) [.int (am_i 0), .int (am_i 23)] (am_fd ck_X9_unitsBelow (pc := 27) rfl) ok_X9_number tw_1125 tw_1127 ts_52 (by decide) kc_3261 (by omega) (Nat.le_of_ble_eq_true rfl) (x_X9_number hL hq4) ?_
      refine am_steps ck_X9_unitsBelow 2 (pc' := 33) (lv' := [(4, .int q4.1), (0, .ref 3261), (1, .int y1), (2, .int y2), (3, .int z3)]) (st' := [.ref 3261]) rfl ?_
      refine ms_geti (ci := 7) (k := 13) (am_fd ck_X9_unitsBelow (pc := 33) rfl) tw_888 kc_3261 rfl ?_
      refine am_ifc (tgt := 61) (am_fd ck_X9_unitsBelow (pc := 36) rfl) rfl (fun hc5 => ?_) (fun hc5 => ?_)
      · replace hm := am_it hm hc5
        refine am_steps ck_X9_unitsBelow 1 (pc' := 62) (lv' := [(4, .int q4.1), (0, .ref 3261), (1, .int y1), (2, .int y2), (3, .int z3)]) (st' := [.ref 3261]) rfl ?_
        refine ms_geti (ci := 7) (k := 13) (am_fd ck_X9_unitsBelow (pc := 62) rfl) tw_888 kc_3261 rfl ?_
        refine am_ifc (tgt := 85) (am_fd ck_X9_unitsBelow (pc := 65) rfl) rfl (fun hc6 => ?_) (fun hc6 => ?_)
        · replace hm := am_it hm hc6
          refine am_steps ck_X9_unitsBelow 1 (pc' := 86) (lv' := [(4, .int q4.1), (0, .ref 3261), (1, .int y1), (2, .int y2), (3, .int z3)]) (st' := [.ref 3261]) rfl ?_
          refine ms_geti (ci := 7) (k := 13) (am_fd ck_X9_unitsBelow (pc := 86) rfl) tw_888 kc_3261 rfl ?_
          refine am_ifc (tgt := 93) (am_fd ck_X9_unitsBelow (pc := 89) rfl) rfl (fun hc7 => ?_) (fun hc7 => ?_)
          · replace hm := am_it hm hc7
            refine am_steps ck_X9_unitsBelow 1 (pc' := 94) (lv' := [(4, .int q4.1), (0, .ref 3261), (1, .int y1), (2, .int y2), (3, .int z3)]) (st' := [.ref 3261]) rfl ?_
            refine ms_getr (ci := 7) (k := 0) (v := 3262) (am_fd ck_X9_unitsBelow (pc := 94) rfl) tw_875 kc_3261 rfl (ly_3261_0 hL) kc_3262 ?_
            refine am_steps ck_X9_unitsBelow 4 (pc' := 102) (lv' := [(4, .int q4.1), (0, .ref 3261), (1, .int y1), (2, .int y2), (3, .int z3)]) (st' := [.int (am_i 1), .int ((am_i 0) + q4.1), .ref 3262]) rfl ?_
            obtain ⟨hb8, hm⟩ := am_gE hm
            refine ms_iast (n := 15517) (am_fd ck_X9_unitsBelow (pc := 102) rfl) kc_3262 hb8 (fun m9 em9 => ?_)
            replace hm := am_letE em9 hm
            refine am_steps ck_X9_unitsBelow 1 (pc' := 104) (lv' := [(4, .int q4.1), (0, .ref 3261), (1, .int y1), (2, .int y2), (3, .int z3)]) (st' := [.ref 3261]) rfl ?_
            refine ms_getr (ci := 7) (k := 0) (v := 3262) (am_fd ck_X9_unitsBelow (pc := 104) rfl) tw_875 kc_3261 rfl (ly_3261_0 hL) kc_3262 ?_
            refine am_steps ck_X9_unitsBelow 4 (pc' := 113) (lv' := [(4, .int q4.1), (0, .ref 3261), (1, .int y1), (2, .int y2), (3, .int z3)]) (st' := [.int y1, .int ((am_i 24) + q4.1), .ref 3262]) rfl ?_
            obtain ⟨hb10, hm⟩ := am_gE hm
            refine ms_iast (n := 15517) (am_fd ck_X9_unitsBelow (pc := 113) rfl) kc_3262 hb10 (fun m11 em11 => ?_)
            replace hm := am_letE em11 hm
            refine am_steps ck_X9_unitsBelow 2 (pc' := 117) (lv' := [(4, .int q4.1), (0, .ref 3261), (1, .int y1), (2, .int y2), (3, .int z3)]) (st' := [.int (am_i 40), .ref 3261]) rfl ?_
            obtain ⟨q12, hq12, hm⟩ := am_bE hm
            refine ms_callV (M2 := mt_X9_isNext) (d2 := 1) (ci := 7) [.int (am_i 40)] (am_fd ck_X9_unitsBelow (pc := 117) rfl) ok_X9_isNext tw_1133 tw_1135 ts_54 (by decide) kc_3261 (by omega) (Nat.le_of_ble_eq_true rfl) (x_X9_isNext hL hq12) ?_
            refine am_ifc (tgt := 132) (am_fd ck_X9_unitsBelow (pc := 120) rfl) rfl (fun hc13 => ?_) (fun hc13 => ?_)
            · replace hm := am_it hm hc13
              refine am_steps ck_X9_unitsBelow 1 (pc' := 133) (lv' := [(4, .int q4.1), (0, .ref 3261), (1, .int y1), (2, .int y2), (3, .int z3)]) (st' := [.ref 3261]) rfl ?_
              refine ms_geti (ci := 7) (k := 13) (am_fd ck_X9_unitsBelow (pc := 133) rfl) tw_888 kc_3261 rfl ?_
              refine am_ifc (tgt := 150) (am_fd ck_X9_unitsBelow (pc := 136) rfl) rfl (fun hc14 => ?_) (fun hc14 => ?_)
              · replace hm := am_it hm hc14
                refine am_steps ck_X9_unitsBelow 3 (pc' := 19) (lv' := [(3, .int (am_i 0)), (4, .int q4.1), (0, .ref 3261), (1, .int y1), (2, .int y2)]) (st' := []) rfl ?_
                refine am_subp [2, 3, 4, 0] rfl ?_
                exact ih _ _ hm K
              · replace hm := am_if hm hc14
                refine am_steps ck_X9_unitsBelow 1 (pc' := 140) (lv' := [(4, .int q4.1), (0, .ref 3261), (1, .int y1), (2, .int y2), (3, .int z3)]) (st' := [.ref 3261]) rfl ?_
                obtain ⟨q15, hq15, hm⟩ := am_bE hm
                refine ms_callV (M2 := mt_X9_isDigitNext) (d2 := 2) (ci := 7) [] (am_fd ck_X9_unitsBelow (pc := 140) rfl) ok_X9_isDigitNext tw_1129 tw_1131 ts_53 (by decide) kc_3261 (by omega) (Nat.le_of_ble_eq_true rfl) (x_X9_isDigitNext hL hq15) ?_
                refine am_ifc (tgt := 150) (am_fd ck_X9_unitsBelow (pc := 143) rfl) rfl (fun hc16 => ?_) (fun hc16 => ?_)
                · replace hm := am_it hm hc16
                  refine am_steps ck_X9_unitsBelow 3 (pc' := 19) (lv' := [(3, .int (am_i 0)), (4, .int q4.1), (0, .ref 3261), (1, .int y1), (2, .int y2)]) (st' := []) rfl ?_
                  refine am_subp [2, 3, 4, 0] rfl ?_
                  exact ih _ _ hm K
                · replace hm := am_if hm hc16
                  refine am_steps ck_X9_unitsBelow 4 (pc' := 19) (lv' := [(3, .int (am_i 1)), (4, .int q4.1), (0, .ref 3261), (1, .int y1), (2, .int y2)]) (st' := []) rfl ?_
                  refine am_subp [2, 3, 4, 0] rfl ?_
                  exact ih _ _ hm K
            · replace hm := am_if hm hc13
              refine am_steps ck_X9_unitsBelow 5 (pc' := 129) (lv' := [(4, .int q4.1), (0, .ref 3261), (1, .int y1), (2, .int y2), (3, .int z3)]) (st' := [.int (y2 + (am_i 1)), .int q4.1, .ref 3261]) rfl ?_
              obtain ⟨q17, hq17, hm⟩ := am_bE hm
              refine ms_callVv (M2 := mt_X9_unitsBelow) (d2 := dd) (ci := 7) [.int q4.1, .int (y2 + (am_i 1))] (am_fd ck_X9_unitsBelow (pc := 129) rfl) ok_X9_unitsBelow tw_1141 tw_1143 ts_56 (by decide) kc_3261 (by omega) (Nat.le_of_ble_eq_true rfl) (sh hL hq17) ?_
              refine am_steps ck_X9_unitsBelow 1 (pc' := 133) (lv' := [(4, .int q4.1), (0, .ref 3261), (1, .int y1), (2, .int y2), (3, .int z3)]) (st' := [.ref 3261]) rfl ?_
              refine ms_geti (ci := 7) (k := 13) (am_fd ck_X9_unitsBelow (pc := 133) rfl) tw_888 kc_3261 rfl ?_
              refine am_ifc (tgt := 150) (am_fd ck_X9_unitsBelow (pc := 136) rfl) rfl (fun hc18 => ?_) (fun hc18 => ?_)
              · replace hm := am_it hm hc18
                refine am_steps ck_X9_unitsBelow 3 (pc' := 19) (lv' := [(3, .int (am_i 0)), (4, .int q4.1), (0, .ref 3261), (1, .int y1), (2, .int y2)]) (st' := []) rfl ?_
                refine am_subp [2, 3, 4, 0] rfl ?_
                exact ih _ _ hm K
              · replace hm := am_if hm hc18
                refine am_steps ck_X9_unitsBelow 1 (pc' := 140) (lv' := [(4, .int q4.1), (0, .ref 3261), (1, .int y1), (2, .int y2), (3, .int z3)]) (st' := [.ref 3261]) rfl ?_
                obtain ⟨q19, hq19, hm⟩ := am_bE hm
                refine ms_callV (M2 := mt_X9_isDigitNext) (d2 := 2) (ci := 7) [] (am_fd ck_X9_unitsBelow (pc := 140) rfl) ok_X9_isDigitNext tw_1129 tw_1131 ts_53 (by decide) kc_3261 (by omega) (Nat.le_of_ble_eq_true rfl) (x_X9_isDigitNext hL hq19) ?_
                refine am_ifc (tgt := 150) (am_fd ck_X9_unitsBelow (pc := 143) rfl) rfl (fun hc20 => ?_) (fun hc20 => ?_)
                · replace hm := am_it hm hc20
                  refine am_steps ck_X9_unitsBelow 3 (pc' := 19) (lv' := [(3, .int (am_i 0)), (4, .int q4.1), (0, .ref 3261), (1, .int y1), (2, .int y2)]) (st' := []) rfl ?_
                  refine am_subp [2, 3, 4, 0] rfl ?_
                  exact ih _ _ hm K
                · replace hm := am_if hm hc20
                  refine am_steps ck_X9_unitsBelow 4 (pc' := 19) (lv' := [(3, .int (am_i 1)), (4, .int q4.1), (0, .ref 3261), (1, .int y1), (2, .int y2)]) (st' := []) rfl ?_
                  refine am_subp [2, 3, 4, 0] rfl ?_
                  exact ih _ _ hm K
          · replace hm := am_if hm hc7
            cases hm
            exact am_end (am_fd ck_X9_unitsBelow (pc := 92) rfl) am_rV rfl rfl
        · replace hm := am_if hm hc6
          refine am_steps ck_X9_unitsBelow 4 (pc' := 73) (lv' := [(4, .int q4.1), (0, .ref 3261), (1, .int y1), (2, .int y2), (3, .int z3)]) (st' := [.int (am_i 12), .int (y2 + (am_i 1))]) rfl ?_
          refine am_icmp (tgt := 85) (am_fd ck_X9_unitsBelow (pc := 73) rfl) rfl (fun hc21 => ?_) (fun hc21 => ?_)
          · replace hm := am_it hm hc21
            refine am_steps ck_X9_unitsBelow 1 (pc' := 86) (lv' := [(4, .int q4.1), (0, .ref 3261), (1, .int y1), (2, .int y2), (3, .int z3)]) (st' := [.ref 3261]) rfl ?_
            refine ms_geti (ci := 7) (k := 13) (am_fd ck_X9_unitsBelow (pc := 86) rfl) tw_888 kc_3261 rfl ?_
            refine am_ifc (tgt := 93) (am_fd ck_X9_unitsBelow (pc := 89) rfl) rfl (fun hc22 => ?_) (fun hc22 => ?_)
            · replace hm := am_it hm hc22
              refine am_steps ck_X9_unitsBelow 1 (pc' := 94) (lv' := [(4, .int q4.1), (0, .ref 3261), (1, .int y1), (2, .int y2), (3, .int z3)]) (st' := [.ref 3261]) rfl ?_
              refine ms_getr (ci := 7) (k := 0) (v := 3262) (am_fd ck_X9_unitsBelow (pc := 94) rfl) tw_875 kc_3261 rfl (ly_3261_0 hL) kc_3262 ?_
              refine am_steps ck_X9_unitsBelow 4 (pc' := 102) (lv' := [(4, .int q4.1), (0, .ref 3261), (1, .int y1), (2, .int y2), (3, .int z3)]) (st' := [.int (am_i 1), .int ((am_i 0) + q4.1), .ref 3262]) rfl ?_
              obtain ⟨hb23, hm⟩ := am_gE hm
              refine ms_iast (n := 15517) (am_fd ck_X9_unitsBelow (pc := 102) rfl) kc_3262 hb23 (fun m24 em24 => ?_)
              replace hm := am_letE em24 hm
              refine am_steps ck_X9_unitsBelow 1 (pc' := 104) (lv' := [(4, .int q4.1), (0, .ref 3261), (1, .int y1), (2, .int y2), (3, .int z3)]) (st' := [.ref 3261]) rfl ?_
              refine ms_getr (ci := 7) (k := 0) (v := 3262) (am_fd ck_X9_unitsBelow (pc := 104) rfl) tw_875 kc_3261 rfl (ly_3261_0 hL) kc_3262 ?_
              refine am_steps ck_X9_unitsBelow 4 (pc' := 113) (lv' := [(4, .int q4.1), (0, .ref 3261), (1, .int y1), (2, .int y2), (3, .int z3)]) (st' := [.int y1, .int ((am_i 24) + q4.1), .ref 3262]) rfl ?_
              obtain ⟨hb25, hm⟩ := am_gE hm
              refine ms_iast (n := 15517) (am_fd ck_X9_unitsBelow (pc := 113) rfl) kc_3262 hb25 (fun m26 em26 => ?_)
              replace hm := am_letE em26 hm
              refine am_steps ck_X9_unitsBelow 2 (pc' := 117) (lv' := [(4, .int q4.1), (0, .ref 3261), (1, .int y1), (2, .int y2), (3, .int z3)]) (st' := [.int (am_i 40), .ref 3261]) rfl ?_
              obtain ⟨q27, hq27, hm⟩ := am_bE hm
              refine ms_callV (M2 := mt_X9_isNext) (d2 := 1) (ci := 7) [.int (am_i 40)] (am_fd ck_X9_unitsBelow (pc := 117) rfl) ok_X9_isNext tw_1133 tw_1135 ts_54 (by decide) kc_3261 (by omega) (Nat.le_of_ble_eq_true rfl) (x_X9_isNext hL hq27) ?_
              refine am_ifc (tgt := 132) (am_fd ck_X9_unitsBelow (pc := 120) rfl) rfl (fun hc28 => ?_) (fun hc28 => ?_)
              · replace hm := am_it hm hc28
                refine am_steps ck_X9_unitsBelow 1 (pc' := 133) (lv' := [(4, .int q4.1), (0, .ref 3261), (1, .int y1), (2, .int y2), (3, .int z3)]) (st' := [.ref 3261]) rfl ?_
                refine ms_geti (ci := 7) (k := 13) (am_fd ck_X9_unitsBelow (pc := 133) rfl) tw_888 kc_3261 rfl ?_
                refine am_ifc (tgt := 150) (am_fd ck_X9_unitsBelow (pc := 136) rfl) rfl (fun hc29 => ?_) (fun hc29 => ?_)
                · replace hm := am_it hm hc29
                  refine am_steps ck_X9_unitsBelow 3 (pc' := 19) (lv' := [(3, .int (am_i 0)), (4, .int q4.1), (0, .ref 3261), (1, .int y1), (2, .int y2)]) (st' := []) rfl ?_
                  refine am_subp [2, 3, 4, 0] rfl ?_
                  exact ih _ _ hm K
                · replace hm := am_if hm hc29
                  refine am_steps ck_X9_unitsBelow 1 (pc' := 140) (lv' := [(4, .int q4.1), (0, .ref 3261), (1, .int y1), (2, .int y2), (3, .int z3)]) (st' := [.ref 3261]) rfl ?_
                  obtain ⟨q30, hq30, hm⟩ := am_bE hm
                  refine ms_callV (M2 := mt_X9_isDigitNext) (d2 := 2) (ci := 7) [] (am_fd ck_X9_unitsBelow (pc := 140) rfl) ok_X9_isDigitNext tw_1129 tw_1131 ts_53 (by decide) kc_3261 (by omega) (Nat.le_of_ble_eq_true rfl) (x_X9_isDigitNext hL hq30) ?_
                  refine am_ifc (tgt := 150) (am_fd ck_X9_unitsBelow (pc := 143) rfl) rfl (fun hc31 => ?_) (fun hc31 => ?_)
                  · replace hm := am_it hm hc31
                    refine am_steps ck_X9_unitsBelow 3 (pc' := 19) (lv' := [(3, .int (am_i 0)), (4, .int q4.1), (0, .ref 3261), (1, .int y1), (2, .int y2)]) (st' := []) rfl ?_
                    refine am_subp [2, 3, 4, 0] rfl ?_
                    exact ih _ _ hm K
                  · replace hm := am_if hm hc31
                    refine am_steps ck_X9_unitsBelow 4 (pc' := 19) (lv' := [(3, .int (am_i 1)), (4, .int q4.1), (0, .ref 3261), (1, .int y1), (2, .int y2)]) (st' := []) rfl ?_
                    refine am_subp [2, 3, 4, 0] rfl ?_
                    exact ih _ _ hm K
              · replace hm := am_if hm hc28
                refine am_steps ck_X9_unitsBelow 5 (pc' := 129) (lv' := [(4, .int q4.1), (0, .ref 3261), (1, .int y1), (2, .int y2), (3, .int z3)]) (st' := [.int (y2 + (am_i 1)), .int q4.1, .ref 3261]) rfl ?_
                obtain ⟨q32, hq32, hm⟩ := am_bE hm
                refine ms_callVv (M2 := mt_X9_unitsBelow) (d2 := dd) (ci := 7) [.int q4.1, .int (y2 + (am_i 1))] (am_fd ck_X9_unitsBelow (pc := 129) rfl) ok_X9_unitsBelow tw_1141 tw_1143 ts_56 (by decide) kc_3261 (by omega) (Nat.le_of_ble_eq_true rfl) (sh hL hq32) ?_
                refine am_steps ck_X9_unitsBelow 1 (pc' := 133) (lv' := [(4, .int q4.1), (0, .ref 3261), (1, .int y1), (2, .int y2), (3, .int z3)]) (st' := [.ref 3261]) rfl ?_
                refine ms_geti (ci := 7) (k := 13) (am_fd ck_X9_unitsBelow (pc := 133) rfl) tw_888 kc_3261 rfl ?_
                refine am_ifc (tgt := 150) (am_fd ck_X9_unitsBelow (pc := 136) rfl) rfl (fun hc33 => ?_) (fun hc33 => ?_)
                · replace hm := am_it hm hc33
                  refine am_steps ck_X9_unitsBelow 3 (pc' := 19) (lv' := [(3, .int (am_i 0)), (4, .int q4.1), (0, .ref 3261), (1, .int y1), (2, .int y2)]) (st' := []) rfl ?_
                  refine am_subp [2, 3, 4, 0] rfl ?_
                  exact ih _ _ hm K
                · replace hm := am_if hm hc33
                  refine am_steps ck_X9_unitsBelow 1 (pc' := 140) (lv' := [(4, .int q4.1), (0, .ref 3261), (1, .int y1), (2, .int y2), (3, .int z3)]) (st' := [.ref 3261]) rfl ?_
                  obtain ⟨q34, hq34, hm⟩ := am_bE hm
                  refine ms_callV (M2 := mt_X9_isDigitNext) (d2 := 2) (ci := 7) [] (am_fd ck_X9_unitsBelow (pc := 140) rfl) ok_X9_isDigitNext tw_1129 tw_1131 ts_53 (by decide) kc_3261 (by omega) (Nat.le_of_ble_eq_true rfl) (x_X9_isDigitNext hL hq34) ?_
                  refine am_ifc (tgt := 150) (am_fd ck_X9_unitsBelow (pc := 143) rfl) rfl (fun hc35 => ?_) (fun hc35 => ?_)
                  · replace hm := am_it hm hc35
                    refine am_steps ck_X9_unitsBelow 3 (pc' := 19) (lv' := [(3, .int (am_i 0)), (4, .int q4.1), (0, .ref 3261), (1, .int y1), (2, .int y2)]) (st' := []) rfl ?_
                    refine am_subp [2, 3, 4, 0] rfl ?_
                    exact ih _ _ hm K
                  · replace hm := am_if hm hc35
                    refine am_steps ck_X9_unitsBelow 4 (pc' := 19) (lv' := [(3, .int (am_i 1)), (4, .int q4.1), (0, .ref 3261), (1, .int y1), (2, .int y2)]) (st' := []) rfl ?_
                    refine am_subp [2, 3, 4, 0] rfl ?_
                    exact ih _ _ hm K
            · replace hm := am_if hm hc22
              cases hm
              exact am_end (am_fd ck_X9_unitsBelow (pc := 92) rfl) am_rV rfl rfl
          · replace hm := am_if hm hc21
            refine am_steps ck_X9_unitsBelow 3 (pc' := 79) (lv' := [(4, .int q4.1), (0, .ref 3261), (1, .int y1), (2, .int y2), (3, .int z3)]) (st' := [.ref 3261, .int (am_i 4), .ref 3261]) rfl ?_
            refine ms_geti (ci := 7) (k := 14) (am_fd ck_X9_unitsBelow (pc := 79) rfl) tw_889 kc_3261 rfl ?_
            obtain ⟨q36, hq36, hm⟩ := am_bE hm
            refine ms_callVv (M2 := mt_X9_wrong) (d2 := 1) (ci := 7) [.int (am_i 4), .int (q4.2 3261 14)] (am_fd ck_X9_unitsBelow (pc := 82) rfl) ok_X9_wrong tw_1137 tw_1139 ts_55 (by decide) kc_3261 (by omega) (Nat.le_of_ble_eq_true rfl) (x_X9_wrong hL hq36) ?_
            refine am_steps ck_X9_unitsBelow 1 (pc' := 86) (lv' := [(4, .int q4.1), (0, .ref 3261), (1, .int y1), (2, .int y2), (3, .int z3)]) (st' := [.ref 3261]) rfl ?_
            refine ms_geti (ci := 7) (k := 13) (am_fd ck_X9_unitsBelow (pc := 86) rfl) tw_888 kc_3261 rfl ?_
            refine am_ifc (tgt := 93) (am_fd ck_X9_unitsBelow (pc := 89) rfl) rfl (fun hc37 => ?_) (fun hc37 => ?_)
            · replace hm := am_it hm hc37
              refine am_steps ck_X9_unitsBelow 1 (pc' := 94) (lv' := [(4, .int q4.1), (0, .ref 3261), (1, .int y1), (2, .int y2), (3, .int z3)]) (st' := [.ref 3261]) rfl ?_
              refine ms_getr (ci := 7) (k := 0) (v := 3262) (am_fd ck_X9_unitsBelow (pc := 94) rfl) tw_875 kc_3261 rfl (ly_3261_0 hL) kc_3262 ?_
              refine am_steps ck_X9_unitsBelow 4 (pc' := 102) (lv' := [(4, .int q4.1), (0, .ref 3261), (1, .int y1), (2, .int y2), (3, .int z3)]) (st' := [.int (am_i 1), .int ((am_i 0) + q4.1), .ref 3262]) rfl ?_
              obtain ⟨hb38, hm⟩ := am_gE hm
              refine ms_iast (n := 15517) (am_fd ck_X9_unitsBelow (pc := 102) rfl) kc_3262 hb38 (fun m39 em39 => ?_)
              replace hm := am_letE em39 hm
              refine am_steps ck_X9_unitsBelow 1 (pc' := 104) (lv' := [(4, .int q4.1), (0, .ref 3261), (1, .int y1), (2, .int y2), (3, .int z3)]) (st' := [.ref 3261]) rfl ?_
              refine ms_getr (ci := 7) (k := 0) (v := 3262) (am_fd ck_X9_unitsBelow (pc := 104) rfl) tw_875 kc_3261 rfl (ly_3261_0 hL) kc_3262 ?_
              refine am_steps ck_X9_unitsBelow 4 (pc' := 113) (lv' := [(4, .int q4.1), (0, .ref 3261), (1, .int y1), (2, .int y2), (3, .int z3)]) (st' := [.int y1, .int ((am_i 24) + q4.1), .ref 3262]) rfl ?_
              obtain ⟨hb40, hm⟩ := am_gE hm
              refine ms_iast (n := 15517) (am_fd ck_X9_unitsBelow (pc := 113) rfl) kc_3262 hb40 (fun m41 em41 => ?_)
              replace hm := am_letE em41 hm
              refine am_steps ck_X9_unitsBelow 2 (pc' := 117) (lv' := [(4, .int q4.1), (0, .ref 3261), (1, .int y1), (2, .int y2), (3, .int z3)]) (st' := [.int (am_i 40), .ref 3261]) rfl ?_
              obtain ⟨q42, hq42, hm⟩ := am_bE hm
              refine ms_callV (M2 := mt_X9_isNext) (d2 := 1) (ci := 7) [.int (am_i 40)] (am_fd ck_X9_unitsBelow (pc := 117) rfl) ok_X9_isNext tw_1133 tw_1135 ts_54 (by decide) kc_3261 (by omega) (Nat.le_of_ble_eq_true rfl) (x_X9_isNext hL hq42) ?_
              refine am_ifc (tgt := 132) (am_fd ck_X9_unitsBelow (pc := 120) rfl) rfl (fun hc43 => ?_) (fun hc43 => ?_)
              · replace hm := am_it hm hc43
                refine am_steps ck_X9_unitsBelow 1 (pc' := 133) (lv' := [(4, .int q4.1), (0, .ref 3261), (1, .int y1), (2, .int y2), (3, .int z3)]) (st' := [.ref 3261]) rfl ?_
                refine ms_geti (ci := 7) (k := 13) (am_fd ck_X9_unitsBelow (pc := 133) rfl) tw_888 kc_3261 rfl ?_
                refine am_ifc (tgt := 150) (am_fd ck_X9_unitsBelow (pc := 136) rfl) rfl (fun hc44 => ?_) (fun hc44 => ?_)
                · replace hm := am_it hm hc44
                  refine am_steps ck_X9_unitsBelow 3 (pc' := 19) (lv' := [(3, .int (am_i 0)), (4, .int q4.1), (0, .ref 3261), (1, .int y1), (2, .int y2)]) (st' := []) rfl ?_
                  refine am_subp [2, 3, 4, 0] rfl ?_
                  exact ih _ _ hm K
                · replace hm := am_if hm hc44
                  refine am_steps ck_X9_unitsBelow 1 (pc' := 140) (lv' := [(4, .int q4.1), (0, .ref 3261), (1, .int y1), (2, .int y2), (3, .int z3)]) (st' := [.ref 3261]) rfl ?_
                  obtain ⟨q45, hq45, hm⟩ := am_bE hm
                  refine ms_callV (M2 := mt_X9_isDigitNext) (d2 := 2) (ci := 7) [] (am_fd ck_X9_unitsBelow (pc := 140) rfl) ok_X9_isDigitNext tw_1129 tw_1131 ts_53 (by decide) kc_3261 (by omega) (Nat.le_of_ble_eq_true rfl) (x_X9_isDigitNext hL hq45) ?_
                  refine am_ifc (tgt := 150) (am_fd ck_X9_unitsBelow (pc := 143) rfl) rfl (fun hc46 => ?_) (fun hc46 => ?_)
                  · replace hm := am_it hm hc46
                    refine am_steps ck_X9_unitsBelow 3 (pc' := 19) (lv' := [(3, .int (am_i 0)), (4, .int q4.1), (0, .ref 3261), (1, .int y1), (2, .int y2)]) (st' := []) rfl ?_
                    refine am_subp [2, 3, 4, 0] rfl ?_
                    exact ih _ _ hm K
                  · replace hm := am_if hm hc46
                    refine am_steps ck_X9_unitsBelow 4 (pc' := 19) (lv' := [(3, .int (am_i 1)), (4, .int q4.1), (0, .ref 3261), (1, .int y1), (2, .int y2)]) (st' := []) rfl ?_
                    refine am_subp [2, 3, 4, 0] rfl ?_
                    exact ih _ _ hm K
              · replace hm := am_if hm hc43
                refine am_steps ck_X9_unitsBelow 5 (pc' := 129) (lv' := [(4, .int q4.1), (0, .ref 3261), (1, .int y1), (2, .int y2), (3, .int z3)]) (st' := [.int (y2 + (am_i 1)), .int q4.1, .ref 3261]) rfl ?_
                obtain ⟨q47, hq47, hm⟩ := am_bE hm
                refine ms_callVv (M2 := mt_X9_unitsBelow) (d2 := dd) (ci := 7) [.int q4.1, .int (y2 + (am_i 1))] (am_fd ck_X9_unitsBelow (pc := 129) rfl) ok_X9_unitsBelow tw_1141 tw_1143 ts_56 (by decide) kc_3261 (by omega) (Nat.le_of_ble_eq_true rfl) (sh hL hq47) ?_
                refine am_steps ck_X9_unitsBelow 1 (pc' := 133) (lv' := [(4, .int q4.1), (0, .ref 3261), (1, .int y1), (2, .int y2), (3, .int z3)]) (st' := [.ref 3261]) rfl ?_
                refine ms_geti (ci := 7) (k := 13) (am_fd ck_X9_unitsBelow (pc := 133) rfl) tw_888 kc_3261 rfl ?_
                refine am_ifc (tgt := 150) (am_fd ck_X9_unitsBelow (pc := 136) rfl) rfl (fun hc48 => ?_) (fun hc48 => ?_)
                · replace hm := am_it hm hc48
                  refine am_steps ck_X9_unitsBelow 3 (pc' := 19) (lv' := [(3, .int (am_i 0)), (4, .int q4.1), (0, .ref 3261), (1, .int y1), (2, .int y2)]) (st' := []) rfl ?_
                  refine am_subp [2, 3, 4, 0] rfl ?_
                  exact ih _ _ hm K
                · replace hm := am_if hm hc48
                  refine am_steps ck_X9_unitsBelow 1 (pc' := 140) (lv' := [(4, .int q4.1), (0, .ref 3261), (1, .int y1), (2, .int y2), (3, .int z3)]) (st' := [.ref 3261]) rfl ?_
                  obtain ⟨q49, hq49, hm⟩ := am_bE hm
                  refine ms_callV (M2 := mt_X9_isDigitNext) (d2 := 2) (ci := 7) [] (am_fd ck_X9_unitsBelow (pc := 140) rfl) ok_X9_isDigitNext tw_1129 tw_1131 ts_53 (by decide) kc_3261 (by omega) (Nat.le_of_ble_eq_true rfl) (x_X9_isDigitNext hL hq49) ?_
                  refine am_ifc (tgt := 150) (am_fd ck_X9_unitsBelow (pc := 143) rfl) rfl (fun hc50 => ?_) (fun hc50 => ?_)
                  · replace hm := am_it hm hc50
                    refine am_steps ck_X9_unitsBelow 3 (pc' := 19) (lv' := [(3, .int (am_i 0)), (4, .int q4.1), (0, .ref 3261), (1, .int y1), (2, .int y2)]) (st' := []) rfl ?_
                    refine am_subp [2, 3, 4, 0] rfl ?_
                    exact ih _ _ hm K
                  · replace hm := am_if hm hc50
                    refine am_steps ck_X9_unitsBelow 4 (pc' := 19) (lv' := [(3, .int (am_i 1)), (4, .int q4.1), (0, .ref 3261), (1, .int y1), (2, .int y2)]) (st' := []) rfl ?_
                    refine am_subp [2, 3, 4, 0] rfl ?_
                    exact ih _ _ hm K
            · replace hm := am_if hm hc37
              cases hm
              exact am_end (am_fd ck_X9_unitsBelow (pc := 92) rfl) am_rV rfl rfl
      · replace hm := am_if hm hc5
        refine am_steps ck_X9_unitsBelow 1 (pc' := 40) (lv' := [(4, .int q4.1), (0, .ref 3261), (1, .int y1), (2, .int y2), (3, .int z3)]) (st' := [.ref 3261]) rfl ?_
        refine ms_getr (ci := 7) (k := 0) (v := 3262) (am_fd ck_X9_unitsBelow (pc := 40) rfl) tw_875 kc_3261 rfl (ly_3261_0 hL) kc_3262 ?_
        refine am_steps ck_X9_unitsBelow 3 (pc' := 47) (lv' := [(4, .int q4.1), (0, .ref 3261), (1, .int y1), (2, .int y2), (3, .int z3)]) (st' := [.int ((am_i 0) + q4.1), .ref 3262]) rfl ?_
        obtain ⟨hb51, hm⟩ := am_gE hm
        refine ms_iald (n := 15517) (am_fd ck_X9_unitsBelow (pc := 47) rfl) kc_3262 hb51 ?_
        refine am_steps ck_X9_unitsBelow 1 (pc' := 49) (lv' := [(4, .int q4.1), (0, .ref 3261), (1, .int y1), (2, .int y2), (3, .int z3)]) (st' := [.int (am_i 1), .int (q4.2 3262 (am_ix ((am_i 0) + q4.1)))]) rfl ?_
        refine am_icmp (tgt := 61) (am_fd ck_X9_unitsBelow (pc := 49) rfl) rfl (fun hc52 => ?_) (fun hc52 => ?_)
        · replace hm := am_it hm hc52
          refine am_steps ck_X9_unitsBelow 1 (pc' := 62) (lv' := [(4, .int q4.1), (0, .ref 3261), (1, .int y1), (2, .int y2), (3, .int z3)]) (st' := [.ref 3261]) rfl ?_
          refine ms_geti (ci := 7) (k := 13) (am_fd ck_X9_unitsBelow (pc := 62) rfl) tw_888 kc_3261 rfl ?_
          refine am_ifc (tgt := 85) (am_fd ck_X9_unitsBelow (pc := 65) rfl) rfl (fun hc53 => ?_) (fun hc53 => ?_)
          · replace hm := am_it hm hc53
            refine am_steps ck_X9_unitsBelow 1 (pc' := 86) (lv' := [(4, .int q4.1), (0, .ref 3261), (1, .int y1), (2, .int y2), (3, .int z3)]) (st' := [.ref 3261]) rfl ?_
            refine ms_geti (ci := 7) (k := 13) (am_fd ck_X9_unitsBelow (pc := 86) rfl) tw_888 kc_3261 rfl ?_
            refine am_ifc (tgt := 93) (am_fd ck_X9_unitsBelow (pc := 89) rfl) rfl (fun hc54 => ?_) (fun hc54 => ?_)
            · replace hm := am_it hm hc54
              refine am_steps ck_X9_unitsBelow 1 (pc' := 94) (lv' := [(4, .int q4.1), (0, .ref 3261), (1, .int y1), (2, .int y2), (3, .int z3)]) (st' := [.ref 3261]) rfl ?_
              refine ms_getr (ci := 7) (k := 0) (v := 3262) (am_fd ck_X9_unitsBelow (pc := 94) rfl) tw_875 kc_3261 rfl (ly_3261_0 hL) kc_3262 ?_
              refine am_steps ck_X9_unitsBelow 4 (pc' := 102) (lv' := [(4, .int q4.1), (0, .ref 3261), (1, .int y1), (2, .int y2), (3, .int z3)]) (st' := [.int (am_i 1), .int ((am_i 0) + q4.1), .ref 3262]) rfl ?_
              obtain ⟨hb55, hm⟩ := am_gE hm
              refine ms_iast (n := 15517) (am_fd ck_X9_unitsBelow (pc := 102) rfl) kc_3262 hb55 (fun m56 em56 => ?_)
              replace hm := am_letE em56 hm
              refine am_steps ck_X9_unitsBelow 1 (pc' := 104) (lv' := [(4, .int q4.1), (0, .ref 3261), (1, .int y1), (2, .int y2), (3, .int z3)]) (st' := [.ref 3261]) rfl ?_
              refine ms_getr (ci := 7) (k := 0) (v := 3262) (am_fd ck_X9_unitsBelow (pc := 104) rfl) tw_875 kc_3261 rfl (ly_3261_0 hL) kc_3262 ?_
              refine am_steps ck_X9_unitsBelow 4 (pc' := 113) (lv' := [(4, .int q4.1), (0, .ref 3261), (1, .int y1), (2, .int y2), (3, .int z3)]) (st' := [.int y1, .int ((am_i 24) + q4.1), .ref 3262]) rfl ?_
              obtain ⟨hb57, hm⟩ := am_gE hm
              refine ms_iast (n := 15517) (am_fd ck_X9_unitsBelow (pc := 113) rfl) kc_3262 hb57 (fun m58 em58 => ?_)
              replace hm := am_letE em58 hm
              refine am_steps ck_X9_unitsBelow 2 (pc' := 117) (lv' := [(4, .int q4.1), (0, .ref 3261), (1, .int y1), (2, .int y2), (3, .int z3)]) (st' := [.int (am_i 40), .ref 3261]) rfl ?_
              obtain ⟨q59, hq59, hm⟩ := am_bE hm
              refine ms_callV (M2 := mt_X9_isNext) (d2 := 1) (ci := 7) [.int (am_i 40)] (am_fd ck_X9_unitsBelow (pc := 117) rfl) ok_X9_isNext tw_1133 tw_1135 ts_54 (by decide) kc_3261 (by omega) (Nat.le_of_ble_eq_true rfl) (x_X9_isNext hL hq59) ?_
              refine am_ifc (tgt := 132) (am_fd ck_X9_unitsBelow (pc := 120) rfl) rfl (fun hc60 => ?_) (fun hc60 => ?_)
              · replace hm := am_it hm hc60
                refine am_steps ck_X9_unitsBelow 1 (pc' := 133) (lv' := [(4, .int q4.1), (0, .ref 3261), (1, .int y1), (2, .int y2), (3, .int z3)]) (st' := [.ref 3261]) rfl ?_
                refine ms_geti (ci := 7) (k := 13) (am_fd ck_X9_unitsBelow (pc := 133) rfl) tw_888 kc_3261 rfl ?_
                refine am_ifc (tgt := 150) (am_fd ck_X9_unitsBelow (pc := 136) rfl) rfl (fun hc61 => ?_) (fun hc61 => ?_)
                · replace hm := am_it hm hc61
                  refine am_steps ck_X9_unitsBelow 3 (pc' := 19) (lv' := [(3, .int (am_i 0)), (4, .int q4.1), (0, .ref 3261), (1, .int y1), (2, .int y2)]) (st' := []) rfl ?_
                  refine am_subp [2, 3, 4, 0] rfl ?_
                  exact ih _ _ hm K
                · replace hm := am_if hm hc61
                  refine am_steps ck_X9_unitsBelow 1 (pc' := 140) (lv' := [(4, .int q4.1), (0, .ref 3261), (1, .int y1), (2, .int y2), (3, .int z3)]) (st' := [.ref 3261]) rfl ?_
                  obtain ⟨q62, hq62, hm⟩ := am_bE hm
                  refine ms_callV (M2 := mt_X9_isDigitNext) (d2 := 2) (ci := 7) [] (am_fd ck_X9_unitsBelow (pc := 140) rfl) ok_X9_isDigitNext tw_1129 tw_1131 ts_53 (by decide) kc_3261 (by omega) (Nat.le_of_ble_eq_true rfl) (x_X9_isDigitNext hL hq62) ?_
                  refine am_ifc (tgt := 150) (am_fd ck_X9_unitsBelow (pc := 143) rfl) rfl (fun hc63 => ?_) (fun hc63 => ?_)
                  · replace hm := am_it hm hc63
                    refine am_steps ck_X9_unitsBelow 3 (pc' := 19) (lv' := [(3, .int (am_i 0)), (4, .int q4.1), (0, .ref 3261), (1, .int y1), (2, .int y2)]) (st' := []) rfl ?_
                    refine am_subp [2, 3, 4, 0] rfl ?_
                    exact ih _ _ hm K
                  · replace hm := am_if hm hc63
                    refine am_steps ck_X9_unitsBelow 4 (pc' := 19) (lv' := [(3, .int (am_i 1)), (4, .int q4.1), (0, .ref 3261), (1, .int y1), (2, .int y2)]) (st' := []) rfl ?_
                    refine am_subp [2, 3, 4, 0] rfl ?_
                    exact ih _ _ hm K
              · replace hm := am_if hm hc60
                refine am_steps ck_X9_unitsBelow 5 (pc' := 129) (lv' := [(4, .int q4.1), (0, .ref 3261), (1, .int y1), (2, .int y2), (3, .int z3)]) (st' := [.int (y2 + (am_i 1)), .int q4.1, .ref 3261]) rfl ?_
                obtain ⟨q64, hq64, hm⟩ := am_bE hm
                refine ms_callVv (M2 := mt_X9_unitsBelow) (d2 := dd) (ci := 7) [.int q4.1, .int (y2 + (am_i 1))] (am_fd ck_X9_unitsBelow (pc := 129) rfl) ok_X9_unitsBelow tw_1141 tw_1143 ts_56 (by decide) kc_3261 (by omega) (Nat.le_of_ble_eq_true rfl) (sh hL hq64) ?_
                refine am_steps ck_X9_unitsBelow 1 (pc' := 133) (lv' := [(4, .int q4.1), (0, .ref 3261), (1, .int y1), (2, .int y2), (3, .int z3)]) (st' := [.ref 3261]) rfl ?_
                refine ms_geti (ci := 7) (k := 13) (am_fd ck_X9_unitsBelow (pc := 133) rfl) tw_888 kc_3261 rfl ?_
                refine am_ifc (tgt := 150) (am_fd ck_X9_unitsBelow (pc := 136) rfl) rfl (fun hc65 => ?_) (fun hc65 => ?_)
                · replace hm := am_it hm hc65
                  refine am_steps ck_X9_unitsBelow 3 (pc' := 19) (lv' := [(3, .int (am_i 0)), (4, .int q4.1), (0, .ref 3261), (1, .int y1), (2, .int y2)]) (st' := []) rfl ?_
                  refine am_subp [2, 3, 4, 0] rfl ?_
                  exact ih _ _ hm K
                · replace hm := am_if hm hc65
                  refine am_steps ck_X9_unitsBelow 1 (pc' := 140) (lv' := [(4, .int q4.1), (0, .ref 3261), (1, .int y1), (2, .int y2), (3, .int z3)]) (st' := [.ref 3261]) rfl ?_
                  obtain ⟨q66, hq66, hm⟩ := am_bE hm
                  refine ms_callV (M2 := mt_X9_isDigitNext) (d2 := 2) (ci := 7) [] (am_fd ck_X9_unitsBelow (pc := 140) rfl) ok_X9_isDigitNext tw_1129 tw_1131 ts_53 (by decide) kc_3261 (by omega) (Nat.le_of_ble_eq_true rfl) (x_X9_isDigitNext hL hq66) ?_
                  refine am_ifc (tgt := 150) (am_fd ck_X9_unitsBelow (pc := 143) rfl) rfl (fun hc67 => ?_) (fun hc67 => ?_)
                  · replace hm := am_it hm hc67
                    refine am_steps ck_X9_unitsBelow 3 (pc' := 19) (lv' := [(3, .int (am_i 0)), (4, .int q4.1), (0, .ref 3261), (1, .int y1), (2, .int y2)]) (st' := []) rfl ?_
                    refine am_subp [2, 3, 4, 0] rfl ?_
                    exact ih _ _ hm K
                  · replace hm := am_if hm hc67
                    refine am_steps ck_X9_unitsBelow 4 (pc' := 19) (lv' := [(3, .int (am_i 1)), (4, .int q4.1), (0, .ref 3261), (1, .int y1), (2, .int y2)]) (st' := []) rfl ?_
                    refine am_subp [2, 3, 4, 0] rfl ?_
                    exact ih _ _ hm K
            · replace hm := am_if hm hc54
              cases hm
              exact am_end (am_fd ck_X9_unitsBelow (pc := 92) rfl) am_rV rfl rfl
          · replace hm := am_if hm hc53
            refine am_steps ck_X9_unitsBelow 4 (pc' := 73) (lv' := [(4, .int q4.1), (0, .ref 3261), (1, .int y1), (2, .int y2), (3, .int z3)]) (st' := [.int (am_i 12), .int (y2 + (am_i 1))]) rfl ?_
            refine am_icmp (tgt := 85) (am_fd ck_X9_unitsBelow (pc := 73) rfl) rfl (fun hc68 => ?_) (fun hc68 => ?_)
            · replace hm := am_it hm hc68
              refine am_steps ck_X9_unitsBelow 1 (pc' := 86) (lv' := [(4, .int q4.1), (0, .ref 3261), (1, .int y1), (2, .int y2), (3, .int z3)]) (st' := [.ref 3261]) rfl ?_
              refine ms_geti (ci := 7) (k := 13) (am_fd ck_X9_unitsBelow (pc := 86) rfl) tw_888 kc_3261 rfl ?_
              refine am_ifc (tgt := 93) (am_fd ck_X9_unitsBelow (pc := 89) rfl) rfl (fun hc69 => ?_) (fun hc69 => ?_)
              · replace hm := am_it hm hc69
                refine am_steps ck_X9_unitsBelow 1 (pc' := 94) (lv' := [(4, .int q4.1), (0, .ref 3261), (1, .int y1), (2, .int y2), (3, .int z3)]) (st' := [.ref 3261]) rfl ?_
                refine ms_getr (ci := 7) (k := 0) (v := 3262) (am_fd ck_X9_unitsBelow (pc := 94) rfl) tw_875 kc_3261 rfl (ly_3261_0 hL) kc_3262 ?_
                refine am_steps ck_X9_unitsBelow 4 (pc' := 102) (lv' := [(4, .int q4.1), (0, .ref 3261), (1, .int y1), (2, .int y2), (3, .int z3)]) (st' := [.int (am_i 1), .int ((am_i 0) + q4.1), .ref 3262]) rfl ?_
                obtain ⟨hb70, hm⟩ := am_gE hm
                refine ms_iast (n := 15517) (am_fd ck_X9_unitsBelow (pc := 102) rfl) kc_3262 hb70 (fun m71 em71 => ?_)
                replace hm := am_letE em71 hm
                refine am_steps ck_X9_unitsBelow 1 (pc' := 104) (lv' := [(4, .int q4.1), (0, .ref 3261), (1, .int y1), (2, .int y2), (3, .int z3)]) (st' := [.ref 3261]) rfl ?_
                refine ms_getr (ci := 7) (k := 0) (v := 3262) (am_fd ck_X9_unitsBelow (pc := 104) rfl) tw_875 kc_3261 rfl (ly_3261_0 hL) kc_3262 ?_
                refine am_steps ck_X9_unitsBelow 4 (pc' := 113) (lv' := [(4, .int q4.1), (0, .ref 3261), (1, .int y1), (2, .int y2), (3, .int z3)]) (st' := [.int y1, .int ((am_i 24) + q4.1), .ref 3262]) rfl ?_
                obtain ⟨hb72, hm⟩ := am_gE hm
                refine ms_iast (n := 15517) (am_fd ck_X9_unitsBelow (pc := 113) rfl) kc_3262 hb72 (fun m73 em73 => ?_)
                replace hm := am_letE em73 hm
                refine am_steps ck_X9_unitsBelow 2 (pc' := 117) (lv' := [(4, .int q4.1), (0, .ref 3261), (1, .int y1), (2, .int y2), (3, .int z3)]) (st' := [.int (am_i 40), .ref 3261]) rfl ?_
                obtain ⟨q74, hq74, hm⟩ := am_bE hm
                refine ms_callV (M2 := mt_X9_isNext) (d2 := 1) (ci := 7) [.int (am_i 40)] (am_fd ck_X9_unitsBelow (pc := 117) rfl) ok_X9_isNext tw_1133 tw_1135 ts_54 (by decide) kc_3261 (by omega) (Nat.le_of_ble_eq_true rfl) (x_X9_isNext hL hq74) ?_
                refine am_ifc (tgt := 132) (am_fd ck_X9_unitsBelow (pc := 120) rfl) rfl (fun hc75 => ?_) (fun hc75 => ?_)
                · replace hm := am_it hm hc75
                  refine am_steps ck_X9_unitsBelow 1 (pc' := 133) (lv' := [(4, .int q4.1), (0, .ref 3261), (1, .int y1), (2, .int y2), (3, .int z3)]) (st' := [.ref 3261]) rfl ?_
                  refine ms_geti (ci := 7) (k := 13) (am_fd ck_X9_unitsBelow (pc := 133) rfl) tw_888 kc_3261 rfl ?_
                  refine am_ifc (tgt := 150) (am_fd ck_X9_unitsBelow (pc := 136) rfl) rfl (fun hc76 => ?_) (fun hc76 => ?_)
                  · replace hm := am_it hm hc76
                    refine am_steps ck_X9_unitsBelow 3 (pc' := 19) (lv' := [(3, .int (am_i 0)), (4, .int q4.1), (0, .ref 3261), (1, .int y1), (2, .int y2)]) (st' := []) rfl ?_
                    refine am_subp [2, 3, 4, 0] rfl ?_
                    exact ih _ _ hm K
                  · replace hm := am_if hm hc76
                    refine am_steps ck_X9_unitsBelow 1 (pc' := 140) (lv' := [(4, .int q4.1), (0, .ref 3261), (1, .int y1), (2, .int y2), (3, .int z3)]) (st' := [.ref 3261]) rfl ?_
                    obtain ⟨q77, hq77, hm⟩ := am_bE hm
                    refine ms_callV (M2 := mt_X9_isDigitNext) (d2 := 2) (ci := 7) [] (am_fd ck_X9_unitsBelow (pc := 140) rfl) ok_X9_isDigitNext tw_1129 tw_1131 ts_53 (by decide) kc_3261 (by omega) (Nat.le_of_ble_eq_true rfl) (x_X9_isDigitNext hL hq77) ?_
                    refine am_ifc (tgt := 150) (am_fd ck_X9_unitsBelow (pc := 143) rfl) rfl (fun hc78 => ?_) (fun hc78 => ?_)
                    · replace hm := am_it hm hc78
                      refine am_steps ck_X9_unitsBelow 3 (pc' := 19) (lv' := [(3, .int (am_i 0)), (4, .int q4.1), (0, .ref 3261), (1, .int y1), (2, .int y2)]) (st' := []) rfl ?_
                      refine am_subp [2, 3, 4, 0] rfl ?_
                      exact ih _ _ hm K
                    · replace hm := am_if hm hc78
                      refine am_steps ck_X9_unitsBelow 4 (pc' := 19) (lv' := [(3, .int (am_i 1)), (4, .int q4.1), (0, .ref 3261), (1, .int y1), (2, .int y2)]) (st' := []) rfl ?_
                      refine am_subp [2, 3, 4, 0] rfl ?_
                      exact ih _ _ hm K
                · replace hm := am_if hm hc75
                  refine am_steps ck_X9_unitsBelow 5 (pc' := 129) (lv' := [(4, .int q4.1), (0, .ref 3261), (1, .int y1), (2, .int y2), (3, .int z3)]) (st' := [.int (y2 + (am_i 1)), .int q4.1, .ref 3261]) rfl ?_
                  obtain ⟨q79, hq79, hm⟩ := am_bE hm
                  refine ms_callVv (M2 := mt_X9_unitsBelow) (d2 := dd) (ci := 7) [.int q4.1, .int (y2 + (am_i 1))] (am_fd ck_X9_unitsBelow (pc := 129) rfl) ok_X9_unitsBelow tw_1141 tw_1143 ts_56 (by decide) kc_3261 (by omega) (Nat.le_of_ble_eq_true rfl) (sh hL hq79) ?_
                  refine am_steps ck_X9_unitsBelow 1 (pc' := 133) (lv' := [(4, .int q4.1), (0, .ref 3261), (1, .int y1), (2, .int y2), (3, .int z3)]) (st' := [.ref 3261]) rfl ?_
                  refine ms_geti (ci := 7) (k := 13) (am_fd ck_X9_unitsBelow (pc := 133) rfl) tw_888 kc_3261 rfl ?_
                  refine am_ifc (tgt := 150) (am_fd ck_X9_unitsBelow (pc := 136) rfl) rfl (fun hc80 => ?_) (fun hc80 => ?_)
                  · replace hm := am_it hm hc80
                    refine am_steps ck_X9_unitsBelow 3 (pc' := 19) (lv' := [(3, .int (am_i 0)), (4, .int q4.1), (0, .ref 3261), (1, .int y1), (2, .int y2)]) (st' := []) rfl ?_
                    refine am_subp [2, 3, 4, 0] rfl ?_
                    exact ih _ _ hm K
                  · replace hm := am_if hm hc80
                    refine am_steps ck_X9_unitsBelow 1 (pc' := 140) (lv' := [(4, .int q4.1), (0, .ref 3261), (1, .int y1), (2, .int y2), (3, .int z3)]) (st' := [.ref 3261]) rfl ?_
                    obtain ⟨q81, hq81, hm⟩ := am_bE hm
                    refine ms_callV (M2 := mt_X9_isDigitNext) (d2 := 2) (ci := 7) [] (am_fd ck_X9_unitsBelow (pc := 140) rfl) ok_X9_isDigitNext tw_1129 tw_1131 ts_53 (by decide) kc_3261 (by omega) (Nat.le_of_ble_eq_true rfl) (x_X9_isDigitNext hL hq81) ?_
                    refine am_ifc (tgt := 150) (am_fd ck_X9_unitsBelow (pc := 143) rfl) rfl (fun hc82 => ?_) (fun hc82 => ?_)
                    · replace hm := am_it hm hc82
                      refine am_steps ck_X9_unitsBelow 3 (pc' := 19) (lv' := [(3, .int (am_i 0)), (4, .int q4.1), (0, .ref 3261), (1, .int y1), (2, .int y2)]) (st' := []) rfl ?_
                      refine am_subp [2, 3, 4, 0] rfl ?_
                      exact ih _ _ hm K
                    · replace hm := am_if hm hc82
                      refine am_steps ck_X9_unitsBelow 4 (pc' := 19) (lv' := [(3, .int (am_i 1)), (4, .int q4.1), (0, .ref 3261), (1, .int y1), (2, .int y2)]) (st' := []) rfl ?_
                      refine am_subp [2, 3, 4, 0] rfl ?_
                      exact ih _ _ hm K
              · replace hm := am_if hm hc69
                cases hm
                exact am_end (am_fd ck_X9_unitsBelow (pc := 92) rfl) am_rV rfl rfl
            · replace hm := am_if hm hc68
              refine am_steps ck_X9_unitsBelow 3 (pc' := 79) (lv' := [(4, .int q4.1), (0, .ref 3261), (1, .int y1), (2, .int y2), (3, .int z3)]) (st' := [.ref 3261, .int (am_i 4), .ref 3261]) rfl ?_
              refine ms_geti (ci := 7) (k := 14) (am_fd ck_X9_unitsBelow (pc := 79) rfl) tw_889 kc_3261 rfl ?_
              obtain ⟨q83, hq83, hm⟩ := am_bE hm
              refine ms_callVv (M2 := mt_X9_wrong) (d2 := 1) (ci := 7) [.int (am_i 4), .int (q4.2 3261 14)] (am_fd ck_X9_unitsBelow (pc := 82) rfl) ok_X9_wrong tw_1137 tw_1139 ts_55 (by decide) kc_3261 (by omega) (Nat.le_of_ble_eq_true rfl) (x_X9_wrong hL hq83) ?_
              refine am_steps ck_X9_unitsBelow 1 (pc' := 86) (lv' := [(4, .int q4.1), (0, .ref 3261), (1, .int y1), (2, .int y2), (3, .int z3)]) (st' := [.ref 3261]) rfl ?_
              refine ms_geti (ci := 7) (k := 13) (am_fd ck_X9_unitsBelow (pc := 86) rfl) tw_888 kc_3261 rfl ?_
              refine am_ifc (tgt := 93) (am_fd ck_X9_unitsBelow (pc := 89) rfl) rfl (fun hc84 => ?_) (fun hc84 => ?_)
              · replace hm := am_it hm hc84
                refine am_steps ck_X9_unitsBelow 1 (pc' := 94) (lv' := [(4, .int q4.1), (0, .ref 3261), (1, .int y1), (2, .int y2), (3, .int z3)]) (st' := [.ref 3261]) rfl ?_
                refine ms_getr (ci := 7) (k := 0) (v := 3262) (am_fd ck_X9_unitsBelow (pc := 94) rfl) tw_875 kc_3261 rfl (ly_3261_0 hL) kc_3262 ?_
                refine am_steps ck_X9_unitsBelow 4 (pc' := 102) (lv' := [(4, .int q4.1), (0, .ref 3261), (1, .int y1), (2, .int y2), (3, .int z3)]) (st' := [.int (am_i 1), .int ((am_i 0) + q4.1), .ref 3262]) rfl ?_
                obtain ⟨hb85, hm⟩ := am_gE hm
                refine ms_iast (n := 15517) (am_fd ck_X9_unitsBelow (pc := 102) rfl) kc_3262 hb85 (fun m86 em86 => ?_)
                replace hm := am_letE em86 hm
                refine am_steps ck_X9_unitsBelow 1 (pc' := 104) (lv' := [(4, .int q4.1), (0, .ref 3261), (1, .int y1), (2, .int y2), (3, .int z3)]) (st' := [.ref 3261]) rfl ?_
                refine ms_getr (ci := 7) (k := 0) (v := 3262) (am_fd ck_X9_unitsBelow (pc := 104) rfl) tw_875 kc_3261 rfl (ly_3261_0 hL) kc_3262 ?_
                refine am_steps ck_X9_unitsBelow 4 (pc' := 113) (lv' := [(4, .int q4.1), (0, .ref 3261), (1, .int y1), (2, .int y2), (3, .int z3)]) (st' := [.int y1, .int ((am_i 24) + q4.1), .ref 3262]) rfl ?_
                obtain ⟨hb87, hm⟩ := am_gE hm
                refine ms_iast (n := 15517) (am_fd ck_X9_unitsBelow (pc := 113) rfl) kc_3262 hb87 (fun m88 em88 => ?_)
                replace hm := am_letE em88 hm
                refine am_steps ck_X9_unitsBelow 2 (pc' := 117) (lv' := [(4, .int q4.1), (0, .ref 3261), (1, .int y1), (2, .int y2), (3, .int z3)]) (st' := [.int (am_i 40), .ref 3261]) rfl ?_
                obtain ⟨q89, hq89, hm⟩ := am_bE hm
                refine ms_callV (M2 := mt_X9_isNext) (d2 := 1) (ci := 7) [.int (am_i 40)] (am_fd ck_X9_unitsBelow (pc := 117) rfl) ok_X9_isNext tw_1133 tw_1135 ts_54 (by decide) kc_3261 (by omega) (Nat.le_of_ble_eq_true rfl) (x_X9_isNext hL hq89) ?_
                refine am_ifc (tgt := 132) (am_fd ck_X9_unitsBelow (pc := 120) rfl) rfl (fun hc90 => ?_) (fun hc90 => ?_)
                · replace hm := am_it hm hc90
                  refine am_steps ck_X9_unitsBelow 1 (pc' := 133) (lv' := [(4, .int q4.1), (0, .ref 3261), (1, .int y1), (2, .int y2), (3, .int z3)]) (st' := [.ref 3261]) rfl ?_
                  refine ms_geti (ci := 7) (k := 13) (am_fd ck_X9_unitsBelow (pc := 133) rfl) tw_888 kc_3261 rfl ?_
                  refine am_ifc (tgt := 150) (am_fd ck_X9_unitsBelow (pc := 136) rfl) rfl (fun hc91 => ?_) (fun hc91 => ?_)
                  · replace hm := am_it hm hc91
                    refine am_steps ck_X9_unitsBelow 3 (pc' := 19) (lv' := [(3, .int (am_i 0)), (4, .int q4.1), (0, .ref 3261), (1, .int y1), (2, .int y2)]) (st' := []) rfl ?_
                    refine am_subp [2, 3, 4, 0] rfl ?_
                    exact ih _ _ hm K
                  · replace hm := am_if hm hc91
                    refine am_steps ck_X9_unitsBelow 1 (pc' := 140) (lv' := [(4, .int q4.1), (0, .ref 3261), (1, .int y1), (2, .int y2), (3, .int z3)]) (st' := [.ref 3261]) rfl ?_
                    obtain ⟨q92, hq92, hm⟩ := am_bE hm
                    refine ms_callV (M2 := mt_X9_isDigitNext) (d2 := 2) (ci := 7) [] (am_fd ck_X9_unitsBelow (pc := 140) rfl) ok_X9_isDigitNext tw_1129 tw_1131 ts_53 (by decide) kc_3261 (by omega) (Nat.le_of_ble_eq_true rfl) (x_X9_isDigitNext hL hq92) ?_
                    refine am_ifc (tgt := 150) (am_fd ck_X9_unitsBelow (pc := 143) rfl) rfl (fun hc93 => ?_) (fun hc93 => ?_)
                    · replace hm := am_it hm hc93
                      refine am_steps ck_X9_unitsBelow 3 (pc' := 19) (lv' := [(3, .int (am_i 0)), (4, .int q4.1), (0, .ref 3261), (1, .int y1), (2, .int y2)]) (st' := []) rfl ?_
                      refine am_subp [2, 3, 4, 0] rfl ?_
                      exact ih _ _ hm K
                    · replace hm := am_if hm hc93
                      refine am_steps ck_X9_unitsBelow 4 (pc' := 19) (lv' := [(3, .int (am_i 1)), (4, .int q4.1), (0, .ref 3261), (1, .int y1), (2, .int y2)]) (st' := []) rfl ?_
                      refine am_subp [2, 3, 4, 0] rfl ?_
                      exact ih _ _ hm K
                · replace hm := am_if hm hc90
                  refine am_steps ck_X9_unitsBelow 5 (pc' := 129) (lv' := [(4, .int q4.1), (0, .ref 3261), (1, .int y1), (2, .int y2), (3, .int z3)]) (st' := [.int (y2 + (am_i 1)), .int q4.1, .ref 3261]) rfl ?_
                  obtain ⟨q94, hq94, hm⟩ := am_bE hm
                  refine ms_callVv (M2 := mt_X9_unitsBelow) (d2 := dd) (ci := 7) [.int q4.1, .int (y2 + (am_i 1))] (am_fd ck_X9_unitsBelow (pc := 129) rfl) ok_X9_unitsBelow tw_1141 tw_1143 ts_56 (by decide) kc_3261 (by omega) (Nat.le_of_ble_eq_true rfl) (sh hL hq94) ?_
                  refine am_steps ck_X9_unitsBelow 1 (pc' := 133) (lv' := [(4, .int q4.1), (0, .ref 3261), (1, .int y1), (2, .int y2), (3, .int z3)]) (st' := [.ref 3261]) rfl ?_
                  refine ms_geti (ci := 7) (k := 13) (am_fd ck_X9_unitsBelow (pc := 133) rfl) tw_888 kc_3261 rfl ?_
                  refine am_ifc (tgt := 150) (am_fd ck_X9_unitsBelow (pc := 136) rfl) rfl (fun hc95 => ?_) (fun hc95 => ?_)
                  · replace hm := am_it hm hc95
                    refine am_steps ck_X9_unitsBelow 3 (pc' := 19) (lv' := [(3, .int (am_i 0)), (4, .int q4.1), (0, .ref 3261), (1, .int y1), (2, .int y2)]) (st' := []) rfl ?_
                    refine am_subp [2, 3, 4, 0] rfl ?_
                    exact ih _ _ hm K
                  · replace hm := am_if hm hc95
                    refine am_steps ck_X9_unitsBelow 1 (pc' := 140) (lv' := [(4, .int q4.1), (0, .ref 3261), (1, .int y1), (2, .int y2), (3, .int z3)]) (st' := [.ref 3261]) rfl ?_
                    obtain ⟨q96, hq96, hm⟩ := am_bE hm
                    refine ms_callV (M2 := mt_X9_isDigitNext) (d2 := 2) (ci := 7) [] (am_fd ck_X9_unitsBelow (pc := 140) rfl) ok_X9_isDigitNext tw_1129 tw_1131 ts_53 (by decide) kc_3261 (by omega) (Nat.le_of_ble_eq_true rfl) (x_X9_isDigitNext hL hq96) ?_
                    refine am_ifc (tgt := 150) (am_fd ck_X9_unitsBelow (pc := 143) rfl) rfl (fun hc97 => ?_) (fun hc97 => ?_)
                    · replace hm := am_it hm hc97
                      refine am_steps ck_X9_unitsBelow 3 (pc' := 19) (lv' := [(3, .int (am_i 0)), (4, .int q4.1), (0, .ref 3261), (1, .int y1), (2, .int y2)]) (st' := []) rfl ?_
                      refine am_subp [2, 3, 4, 0] rfl ?_
                      exact ih _ _ hm K
                    · replace hm := am_if hm hc97
                      refine am_steps ck_X9_unitsBelow 4 (pc' := 19) (lv' := [(3, .int (am_i 1)), (4, .int q4.1), (0, .ref 3261), (1, .int y1), (2, .int y2)]) (st' := []) rfl ?_
                      refine am_subp [2, 3, 4, 0] rfl ?_
                      exact ih _ _ hm K
              · replace hm := am_if hm hc84
                cases hm
                exact am_end (am_fd ck_X9_unitsBelow (pc := 92) rfl) am_rV rfl rfl
        · replace hm := am_if hm hc52
          refine am_steps ck_X9_unitsBelow 3 (pc' := 55) (lv' := [(4, .int q4.1), (0, .ref 3261), (1, .int y1), (2, .int y2), (3, .int z3)]) (st' := [.ref 3261, .int (am_i 3), .ref 3261]) rfl ?_
          refine ms_geti (ci := 7) (k := 14) (am_fd ck_X9_unitsBelow (pc := 55) rfl) tw_889 kc_3261 rfl ?_
          obtain ⟨q98, hq98, hm⟩ := am_bE hm
          refine ms_callVv (M2 := mt_X9_wrong) (d2 := 1) (ci := 7) [.int (am_i 3), .int (q4.2 3261 14)] (am_fd ck_X9_unitsBelow (pc := 58) rfl) ok_X9_wrong tw_1137 tw_1139 ts_55 (by decide) kc_3261 (by omega) (Nat.le_of_ble_eq_true rfl) (x_X9_wrong hL hq98) ?_
          refine am_steps ck_X9_unitsBelow 1 (pc' := 62) (lv' := [(4, .int q4.1), (0, .ref 3261), (1, .int y1), (2, .int y2), (3, .int z3)]) (st' := [.ref 3261]) rfl ?_
          refine ms_geti (ci := 7) (k := 13) (am_fd ck_X9_unitsBelow (pc := 62) rfl) tw_888 kc_3261 rfl ?_
          refine am_ifc (tgt := 85) (am_fd ck_X9_unitsBelow (pc := 65) rfl) rfl (fun hc99 => ?_) (fun hc99 => ?_)
          · replace hm := am_it hm hc99
            refine am_steps ck_X9_unitsBelow 1 (pc' := 86) (lv' := [(4, .int q4.1), (0, .ref 3261), (1, .int y1), (2, .int y2), (3, .int z3)]) (st' := [.ref 3261]) rfl ?_
            refine ms_geti (ci := 7) (k := 13) (am_fd ck_X9_unitsBelow (pc := 86) rfl) tw_888 kc_3261 rfl ?_
            refine am_ifc (tgt := 93) (am_fd ck_X9_unitsBelow (pc := 89) rfl) rfl (fun hc100 => ?_) (fun hc100 => ?_)
            · replace hm := am_it hm hc100
              refine am_steps ck_X9_unitsBelow 1 (pc' := 94) (lv' := [(4, .int q4.1), (0, .ref 3261), (1, .int y1), (2, .int y2), (3, .int z3)]) (st' := [.ref 3261]) rfl ?_
              refine ms_getr (ci := 7) (k := 0) (v := 3262) (am_fd ck_X9_unitsBelow (pc := 94) rfl) tw_875 kc_3261 rfl (ly_3261_0 hL) kc_3262 ?_
              refine am_steps ck_X9_unitsBelow 4 (pc' := 102) (lv' := [(4, .int q4.1), (0, .ref 3261), (1, .int y1), (2, .int y2), (3, .int z3)]) (st' := [.int (am_i 1), .int ((am_i 0) + q4.1), .ref 3262]) rfl ?_
              obtain ⟨hb101, hm⟩ := am_gE hm
              refine ms_iast (n := 15517) (am_fd ck_X9_unitsBelow (pc := 102) rfl) kc_3262 hb101 (fun m102 em102 => ?_)
              replace hm := am_letE em102 hm
              refine am_steps ck_X9_unitsBelow 1 (pc' := 104) (lv' := [(4, .int q4.1), (0, .ref 3261), (1, .int y1), (2, .int y2), (3, .int z3)]) (st' := [.ref 3261]) rfl ?_
              refine ms_getr (ci := 7) (k := 0) (v := 3262) (am_fd ck_X9_unitsBelow (pc := 104) rfl) tw_875 kc_3261 rfl (ly_3261_0 hL) kc_3262 ?_
              refine am_steps ck_X9_unitsBelow 4 (pc' := 113) (lv' := [(4, .int q4.1), (0, .ref 3261), (1, .int y1), (2, .int y2), (3, .int z3)]) (st' := [.int y1, .int ((am_i 24) + q4.1), .ref 3262]) rfl ?_
              obtain ⟨hb103, hm⟩ := am_gE hm
              refine ms_iast (n := 15517) (am_fd ck_X9_unitsBelow (pc := 113) rfl) kc_3262 hb103 (fun m104 em104 => ?_)
              replace hm := am_letE em104 hm
              refine am_steps ck_X9_unitsBelow 2 (pc' := 117) (lv' := [(4, .int q4.1), (0, .ref 3261), (1, .int y1), (2, .int y2), (3, .int z3)]) (st' := [.int (am_i 40), .ref 3261]) rfl ?_
              obtain ⟨q105, hq105, hm⟩ := am_bE hm
              refine ms_callV (M2 := mt_X9_isNext) (d2 := 1) (ci := 7) [.int (am_i 40)] (am_fd ck_X9_unitsBelow (pc := 117) rfl) ok_X9_isNext tw_1133 tw_1135 ts_54 (by decide) kc_3261 (by omega) (Nat.le_of_ble_eq_true rfl) (x_X9_isNext hL hq105) ?_
              refine am_ifc (tgt := 132) (am_fd ck_X9_unitsBelow (pc := 120) rfl) rfl (fun hc106 => ?_) (fun hc106 => ?_)
              · replace hm := am_it hm hc106
                refine am_steps ck_X9_unitsBelow 1 (pc' := 133) (lv' := [(4, .int q4.1), (0, .ref 3261), (1, .int y1), (2, .int y2), (3, .int z3)]) (st' := [.ref 3261]) rfl ?_
                refine ms_geti (ci := 7) (k := 13) (am_fd ck_X9_unitsBelow (pc := 133) rfl) tw_888 kc_3261 rfl ?_
                refine am_ifc (tgt := 150) (am_fd ck_X9_unitsBelow (pc := 136) rfl) rfl (fun hc107 => ?_) (fun hc107 => ?_)
                · replace hm := am_it hm hc107
                  refine am_steps ck_X9_unitsBelow 3 (pc' := 19) (lv' := [(3, .int (am_i 0)), (4, .int q4.1), (0, .ref 3261), (1, .int y1), (2, .int y2)]) (st' := []) rfl ?_
                  refine am_subp [2, 3, 4, 0] rfl ?_
                  exact ih _ _ hm K
                · replace hm := am_if hm hc107
                  refine am_steps ck_X9_unitsBelow 1 (pc' := 140) (lv' := [(4, .int q4.1), (0, .ref 3261), (1, .int y1), (2, .int y2), (3, .int z3)]) (st' := [.ref 3261]) rfl ?_
                  obtain ⟨q108, hq108, hm⟩ := am_bE hm
                  refine ms_callV (M2 := mt_X9_isDigitNext) (d2 := 2) (ci := 7) [] (am_fd ck_X9_unitsBelow (pc := 140) rfl) ok_X9_isDigitNext tw_1129 tw_1131 ts_53 (by decide) kc_3261 (by omega) (Nat.le_of_ble_eq_true rfl) (x_X9_isDigitNext hL hq108) ?_
                  refine am_ifc (tgt := 150) (am_fd ck_X9_unitsBelow (pc := 143) rfl) rfl (fun hc109 => ?_) (fun hc109 => ?_)
                  · replace hm := am_it hm hc109
                    refine am_steps ck_X9_unitsBelow 3 (pc' := 19) (lv' := [(3, .int (am_i 0)), (4, .int q4.1), (0, .ref 3261), (1, .int y1), (2, .int y2)]) (st' := []) rfl ?_
                    refine am_subp [2, 3, 4, 0] rfl ?_
                    exact ih _ _ hm K
                  · replace hm := am_if hm hc109
                    refine am_steps ck_X9_unitsBelow 4 (pc' := 19) (lv' := [(3, .int (am_i 1)), (4, .int q4.1), (0, .ref 3261), (1, .int y1), (2, .int y2)]) (st' := []) rfl ?_
                    refine am_subp [2, 3, 4, 0] rfl ?_
                    exact ih _ _ hm K
              · replace hm := am_if hm hc106
                refine am_steps ck_X9_unitsBelow 5 (pc' := 129) (lv' := [(4, .int q4.1), (0, .ref 3261), (1, .int y1), (2, .int y2), (3, .int z3)]) (st' := [.int (y2 + (am_i 1)), .int q4.1, .ref 3261]) rfl ?_
                obtain ⟨q110, hq110, hm⟩ := am_bE hm
                refine ms_callVv (M2 := mt_X9_unitsBelow) (d2 := dd) (ci := 7) [.int q4.1, .int (y2 + (am_i 1))] (am_fd ck_X9_unitsBelow (pc := 129) rfl) ok_X9_unitsBelow tw_1141 tw_1143 ts_56 (by decide) kc_3261 (by omega) (Nat.le_of_ble_eq_true rfl) (sh hL hq110) ?_
                refine am_steps ck_X9_unitsBelow 1 (pc' := 133) (lv' := [(4, .int q4.1), (0, .ref 3261), (1, .int y1), (2, .int y2), (3, .int z3)]) (st' := [.ref 3261]) rfl ?_
                refine ms_geti (ci := 7) (k := 13) (am_fd ck_X9_unitsBelow (pc := 133) rfl) tw_888 kc_3261 rfl ?_
                refine am_ifc (tgt := 150) (am_fd ck_X9_unitsBelow (pc := 136) rfl) rfl (fun hc111 => ?_) (fun hc111 => ?_)
                · replace hm := am_it hm hc111
                  refine am_steps ck_X9_unitsBelow 3 (pc' := 19) (lv' := [(3, .int (am_i 0)), (4, .int q4.1), (0, .ref 3261), (1, .int y1), (2, .int y2)]) (st' := []) rfl ?_
                  refine am_subp [2, 3, 4, 0] rfl ?_
                  exact ih _ _ hm K
                · replace hm := am_if hm hc111
                  refine am_steps ck_X9_unitsBelow 1 (pc' := 140) (lv' := [(4, .int q4.1), (0, .ref 3261), (1, .int y1), (2, .int y2), (3, .int z3)]) (st' := [.ref 3261]) rfl ?_
                  obtain ⟨q112, hq112, hm⟩ := am_bE hm
                  refine ms_callV (M2 := mt_X9_isDigitNext) (d2 := 2) (ci := 7) [] (am_fd ck_X9_unitsBelow (pc := 140) rfl) ok_X9_isDigitNext tw_1129 tw_1131 ts_53 (by decide) kc_3261 (by omega) (Nat.le_of_ble_eq_true rfl) (x_X9_isDigitNext hL hq112) ?_
                  refine am_ifc (tgt := 150) (am_fd ck_X9_unitsBelow (pc := 143) rfl) rfl (fun hc113 => ?_) (fun hc113 => ?_)
                  · replace hm := am_it hm hc113
                    refine am_steps ck_X9_unitsBelow 3 (pc' := 19) (lv' := [(3, .int (am_i 0)), (4, .int q4.1), (0, .ref 3261), (1, .int y1), (2, .int y2)]) (st' := []) rfl ?_
                    refine am_subp [2, 3, 4, 0] rfl ?_
                    exact ih _ _ hm K
                  · replace hm := am_if hm hc113
                    refine am_steps ck_X9_unitsBelow 4 (pc' := 19) (lv' := [(3, .int (am_i 1)), (4, .int q4.1), (0, .ref 3261), (1, .int y1), (2, .int y2)]) (st' := []) rfl ?_
                    refine am_subp [2, 3, 4, 0] rfl ?_
                    exact ih _ _ hm K
            · replace hm := am_if hm hc100
              cases hm
              exact am_end (am_fd ck_X9_unitsBelow (pc := 92) rfl) am_rV rfl rfl
          · replace hm := am_if hm hc99
            refine am_steps ck_X9_unitsBelow 4 (pc' := 73) (lv' := [(4, .int q4.1), (0, .ref 3261), (1, .int y1), (2, .int y2), (3, .int z3)]) (st' := [.int (am_i 12), .int (y2 + (am_i 1))]) rfl ?_
            refine am_icmp (tgt := 85) (am_fd ck_X9_unitsBelow (pc := 73) rfl) rfl (fun hc114 => ?_) (fun hc114 => ?_)
            · replace hm := am_it hm hc114
              refine am_steps ck_X9_unitsBelow 1 (pc' := 86) (lv' := [(4, .int q4.1), (0, .ref 3261), (1, .int y1), (2, .int y2), (3, .int z3)]) (st' := [.ref 3261]) rfl ?_
              refine ms_geti (ci := 7) (k := 13) (am_fd ck_X9_unitsBelow (pc := 86) rfl) tw_888 kc_3261 rfl ?_
              refine am_ifc (tgt := 93) (am_fd ck_X9_unitsBelow (pc := 89) rfl) rfl (fun hc115 => ?_) (fun hc115 => ?_)
              · replace hm := am_it hm hc115
                refine am_steps ck_X9_unitsBelow 1 (pc' := 94) (lv' := [(4, .int q4.1), (0, .ref 3261), (1, .int y1), (2, .int y2), (3, .int z3)]) (st' := [.ref 3261]) rfl ?_
                refine ms_getr (ci := 7) (k := 0) (v := 3262) (am_fd ck_X9_unitsBelow (pc := 94) rfl) tw_875 kc_3261 rfl (ly_3261_0 hL) kc_3262 ?_
                refine am_steps ck_X9_unitsBelow 4 (pc' := 102) (lv' := [(4, .int q4.1), (0, .ref 3261), (1, .int y1), (2, .int y2), (3, .int z3)]) (st' := [.int (am_i 1), .int ((am_i 0) + q4.1), .ref 3262]) rfl ?_
                obtain ⟨hb116, hm⟩ := am_gE hm
                refine ms_iast (n := 15517) (am_fd ck_X9_unitsBelow (pc := 102) rfl) kc_3262 hb116 (fun m117 em117 => ?_)
                replace hm := am_letE em117 hm
                refine am_steps ck_X9_unitsBelow 1 (pc' := 104) (lv' := [(4, .int q4.1), (0, .ref 3261), (1, .int y1), (2, .int y2), (3, .int z3)]) (st' := [.ref 3261]) rfl ?_
                refine ms_getr (ci := 7) (k := 0) (v := 3262) (am_fd ck_X9_unitsBelow (pc := 104) rfl) tw_875 kc_3261 rfl (ly_3261_0 hL) kc_3262 ?_
                refine am_steps ck_X9_unitsBelow 4 (pc' := 113) (lv' := [(4, .int q4.1), (0, .ref 3261), (1, .int y1), (2, .int y2), (3, .int z3)]) (st' := [.int y1, .int ((am_i 24) + q4.1), .ref 3262]) rfl ?_
                obtain ⟨hb118, hm⟩ := am_gE hm
                refine ms_iast (n := 15517) (am_fd ck_X9_unitsBelow (pc := 113) rfl) kc_3262 hb118 (fun m119 em119 => ?_)
                replace hm := am_letE em119 hm
                refine am_steps ck_X9_unitsBelow 2 (pc' := 117) (lv' := [(4, .int q4.1), (0, .ref 3261), (1, .int y1), (2, .int y2), (3, .int z3)]) (st' := [.int (am_i 40), .ref 3261]) rfl ?_
                obtain ⟨q120, hq120, hm⟩ := am_bE hm
                refine ms_callV (M2 := mt_X9_isNext) (d2 := 1) (ci := 7) [.int (am_i 40)] (am_fd ck_X9_unitsBelow (pc := 117) rfl) ok_X9_isNext tw_1133 tw_1135 ts_54 (by decide) kc_3261 (by omega) (Nat.le_of_ble_eq_true rfl) (x_X9_isNext hL hq120) ?_
                refine am_ifc (tgt := 132) (am_fd ck_X9_unitsBelow (pc := 120) rfl) rfl (fun hc121 => ?_) (fun hc121 => ?_)
                · replace hm := am_it hm hc121
                  refine am_steps ck_X9_unitsBelow 1 (pc' := 133) (lv' := [(4, .int q4.1), (0, .ref 3261), (1, .int y1), (2, .int y2), (3, .int z3)]) (st' := [.ref 3261]) rfl ?_
                  refine ms_geti (ci := 7) (k := 13) (am_fd ck_X9_unitsBelow (pc := 133) rfl) tw_888 kc_3261 rfl ?_
                  refine am_ifc (tgt := 150) (am_fd ck_X9_unitsBelow (pc := 136) rfl) rfl (fun hc122 => ?_) (fun hc122 => ?_)
                  · replace hm := am_it hm hc122
                    refine am_steps ck_X9_unitsBelow 3 (pc' := 19) (lv' := [(3, .int (am_i 0)), (4, .int q4.1), (0, .ref 3261), (1, .int y1), (2, .int y2)]) (st' := []) rfl ?_
                    refine am_subp [2, 3, 4, 0] rfl ?_
                    exact ih _ _ hm K
                  · replace hm := am_if hm hc122
                    refine am_steps ck_X9_unitsBelow 1 (pc' := 140) (lv' := [(4, .int q4.1), (0, .ref 3261), (1, .int y1), (2, .int y2), (3, .int z3)]) (st' := [.ref 3261]) rfl ?_
                    obtain ⟨q123, hq123, hm⟩ := am_bE hm
                    refine ms_callV (M2 := mt_X9_isDigitNext) (d2 := 2) (ci := 7) [] (am_fd ck_X9_unitsBelow (pc := 140) rfl) ok_X9_isDigitNext tw_1129 tw_1131 ts_53 (by decide) kc_3261 (by omega) (Nat.le_of_ble_eq_true rfl) (x_X9_isDigitNext hL hq123) ?_
                    refine am_ifc (tgt := 150) (am_fd ck_X9_unitsBelow (pc := 143) rfl) rfl (fun hc124 => ?_) (fun hc124 => ?_)
                    · replace hm := am_it hm hc124
                      refine am_steps ck_X9_unitsBelow 3 (pc' := 19) (lv' := [(3, .int (am_i 0)), (4, .int q4.1), (0, .ref 3261), (1, .int y1), (2, .int y2)]) (st' := []) rfl ?_
                      refine am_subp [2, 3, 4, 0] rfl ?_
                      exact ih _ _ hm K
                    · replace hm := am_if hm hc124
                      refine am_steps ck_X9_unitsBelow 4 (pc' := 19) (lv' := [(3, .int (am_i 1)), (4, .int q4.1), (0, .ref 3261), (1, .int y1), (2, .int y2)]) (st' := []) rfl ?_
                      refine am_subp [2, 3, 4, 0] rfl ?_
                      exact ih _ _ hm K
                · replace hm := am_if hm hc121
                  refine am_steps ck_X9_unitsBelow 5 (pc' := 129) (lv' := [(4, .int q4.1), (0, .ref 3261), (1, .int y1), (2, .int y2), (3, .int z3)]) (st' := [.int (y2 + (am_i 1)), .int q4.1, .ref 3261]) rfl ?_
                  obtain ⟨q125, hq125, hm⟩ := am_bE hm
                  refine ms_callVv (M2 := mt_X9_unitsBelow) (d2 := dd) (ci := 7) [.int q4.1, .int (y2 + (am_i 1))] (am_fd ck_X9_unitsBelow (pc := 129) rfl) ok_X9_unitsBelow tw_1141 tw_1143 ts_56 (by decide) kc_3261 (by omega) (Nat.le_of_ble_eq_true rfl) (sh hL hq125) ?_
                  refine am_steps ck_X9_unitsBelow 1 (pc' := 133) (lv' := [(4, .int q4.1), (0, .ref 3261), (1, .int y1), (2, .int y2), (3, .int z3)]) (st' := [.ref 3261]) rfl ?_
                  refine ms_geti (ci := 7) (k := 13) (am_fd ck_X9_unitsBelow (pc := 133) rfl) tw_888 kc_3261 rfl ?_
                  refine am_ifc (tgt := 150) (am_fd ck_X9_unitsBelow (pc := 136) rfl) rfl (fun hc126 => ?_) (fun hc126 => ?_)
                  · replace hm := am_it hm hc126
                    refine am_steps ck_X9_unitsBelow 3 (pc' := 19) (lv' := [(3, .int (am_i 0)), (4, .int q4.1), (0, .ref 3261), (1, .int y1), (2, .int y2)]) (st' := []) rfl ?_
                    refine am_subp [2, 3, 4, 0] rfl ?_
                    exact ih _ _ hm K
                  · replace hm := am_if hm hc126
                    refine am_steps ck_X9_unitsBelow 1 (pc' := 140) (lv' := [(4, .int q4.1), (0, .ref 3261), (1, .int y1), (2, .int y2), (3, .int z3)]) (st' := [.ref 3261]) rfl ?_
                    obtain ⟨q127, hq127, hm⟩ := am_bE hm
                    refine ms_callV (M2 := mt_X9_isDigitNext) (d2 := 2) (ci := 7) [] (am_fd ck_X9_unitsBelow (pc := 140) rfl) ok_X9_isDigitNext tw_1129 tw_1131 ts_53 (by decide) kc_3261 (by omega) (Nat.le_of_ble_eq_true rfl) (x_X9_isDigitNext hL hq127) ?_
                    refine am_ifc (tgt := 150) (am_fd ck_X9_unitsBelow (pc := 143) rfl) rfl (fun hc128 => ?_) (fun hc128 => ?_)
                    · replace hm := am_it hm hc128
                      refine am_steps ck_X9_unitsBelow 3 (pc' := 19) (lv' := [(3, .int (am_i 0)), (4, .int q4.1), (0, .ref 3261), (1, .int y1), (2, .int y2)]) (st' := []) rfl ?_
                      refine am_subp [2, 3, 4, 0] rfl ?_
                      exact ih _ _ hm K
                    · replace hm := am_if hm hc128
                      refine am_steps ck_X9_unitsBelow 4 (pc' := 19) (lv' := [(3, .int (am_i 1)), (4, .int q4.1), (0, .ref 3261), (1, .int y1), (2, .int y2)]) (st' := []) rfl ?_
                      refine am_subp [2, 3, 4, 0] rfl ?_
                      exact ih _ _ hm K
              · replace hm := am_if hm hc115
                cases hm
                exact am_end (am_fd ck_X9_unitsBelow (pc := 92) rfl) am_rV rfl rfl
            · replace hm := am_if hm hc114
              refine am_steps ck_X9_unitsBelow 3 (pc' := 79) (lv' := [(4, .int q4.1), (0, .ref 3261), (1, .int y1), (2, .int y2), (3, .int z3)]) (st' := [.ref 3261, .int (am_i 4), .ref 3261]) rfl ?_
              refine ms_geti (ci := 7) (k := 14) (am_fd ck_X9_unitsBelow (pc := 79) rfl) tw_889 kc_3261 rfl ?_
              obtain ⟨q129, hq129, hm⟩ := am_bE hm
              refine ms_callVv (M2 := mt_X9_wrong) (d2 := 1) (ci := 7) [.int (am_i 4), .int (q98 3261 14)] (am_fd ck_X9_unitsBelow (pc := 82) rfl) ok_X9_wrong tw_1137 tw_1139 ts_55 (by decide) kc_3261 (by omega) (Nat.le_of_ble_eq_true rfl) (x_X9_wrong hL hq129) ?_
              refine am_steps ck_X9_unitsBelow 1 (pc' := 86) (lv' := [(4, .int q4.1), (0, .ref 3261), (1, .int y1), (2, .int y2), (3, .int z3)]) (st' := [.ref 3261]) rfl ?_
              refine ms_geti (ci := 7) (k := 13) (am_fd ck_X9_unitsBelow (pc := 86) rfl) tw_888 kc_3261 rfl ?_
              refine am_ifc (tgt := 93) (am_fd ck_X9_unitsBelow (pc := 89) rfl) rfl (fun hc130 => ?_) (fun hc130 => ?_)
              · replace hm := am_it hm hc130
                refine am_steps ck_X9_unitsBelow 1 (pc' := 94) (lv' := [(4, .int q4.1), (0, .ref 3261), (1, .int y1), (2, .int y2), (3, .int z3)]) (st' := [.ref 3261]) rfl ?_
                refine ms_getr (ci := 7) (k := 0) (v := 3262) (am_fd ck_X9_unitsBelow (pc := 94) rfl) tw_875 kc_3261 rfl (ly_3261_0 hL) kc_3262 ?_
                refine am_steps ck_X9_unitsBelow 4 (pc' := 102) (lv' := [(4, .int q4.1), (0, .ref 3261), (1, .int y1), (2, .int y2), (3, .int z3)]) (st' := [.int (am_i 1), .int ((am_i 0) + q4.1), .ref 3262]) rfl ?_
                obtain ⟨hb131, hm⟩ := am_gE hm
                refine ms_iast (n := 15517) (am_fd ck_X9_unitsBelow (pc := 102) rfl) kc_3262 hb131 (fun m132 em132 => ?_)
                replace hm := am_letE em132 hm
                refine am_steps ck_X9_unitsBelow 1 (pc' := 104) (lv' := [(4, .int q4.1), (0, .ref 3261), (1, .int y1), (2, .int y2), (3, .int z3)]) (st' := [.ref 3261]) rfl ?_
                refine ms_getr (ci := 7) (k := 0) (v := 3262) (am_fd ck_X9_unitsBelow (pc := 104) rfl) tw_875 kc_3261 rfl (ly_3261_0 hL) kc_3262 ?_
                refine am_steps ck_X9_unitsBelow 4 (pc' := 113) (lv' := [(4, .int q4.1), (0, .ref 3261), (1, .int y1), (2, .int y2), (3, .int z3)]) (st' := [.int y1, .int ((am_i 24) + q4.1), .ref 3262]) rfl ?_
                obtain ⟨hb133, hm⟩ := am_gE hm
                refine ms_iast (n := 15517) (am_fd ck_X9_unitsBelow (pc := 113) rfl) kc_3262 hb133 (fun m134 em134 => ?_)
                replace hm := am_letE em134 hm
                refine am_steps ck_X9_unitsBelow 2 (pc' := 117) (lv' := [(4, .int q4.1), (0, .ref 3261), (1, .int y1), (2, .int y2), (3, .int z3)]) (st' := [.int (am_i 40), .ref 3261]) rfl ?_
                obtain ⟨q135, hq135, hm⟩ := am_bE hm
                refine ms_callV (M2 := mt_X9_isNext) (d2 := 1) (ci := 7) [.int (am_i 40)] (am_fd ck_X9_unitsBelow (pc := 117) rfl) ok_X9_isNext tw_1133 tw_1135 ts_54 (by decide) kc_3261 (by omega) (Nat.le_of_ble_eq_true rfl) (x_X9_isNext hL hq135) ?_
                refine am_ifc (tgt := 132) (am_fd ck_X9_unitsBelow (pc := 120) rfl) rfl (fun hc136 => ?_) (fun hc136 => ?_)
                · replace hm := am_it hm hc136
                  refine am_steps ck_X9_unitsBelow 1 (pc' := 133) (lv' := [(4, .int q4.1), (0, .ref 3261), (1, .int y1), (2, .int y2), (3, .int z3)]) (st' := [.ref 3261]) rfl ?_
                  refine ms_geti (ci := 7) (k := 13) (am_fd ck_X9_unitsBelow (pc := 133) rfl) tw_888 kc_3261 rfl ?_
                  refine am_ifc (tgt := 150) (am_fd ck_X9_unitsBelow (pc := 136) rfl) rfl (fun hc137 => ?_) (fun hc137 => ?_)
                  · replace hm := am_it hm hc137
                    refine am_steps ck_X9_unitsBelow 3 (pc' := 19) (lv' := [(3, .int (am_i 0)), (4, .int q4.1), (0, .ref 3261), (1, .int y1), (2, .int y2)]) (st' := []) rfl ?_
                    refine am_subp [2, 3, 4, 0] rfl ?_
                    exact ih _ _ hm K
                  · replace hm := am_if hm hc137
                    refine am_steps ck_X9_unitsBelow 1 (pc' := 140) (lv' := [(4, .int q4.1), (0, .ref 3261), (1, .int y1), (2, .int y2), (3, .int z3)]) (st' := [.ref 3261]) rfl ?_
                    obtain ⟨q138, hq138, hm⟩ := am_bE hm
                    refine ms_callV (M2 := mt_X9_isDigitNext) (d2 := 2) (ci := 7) [] (am_fd ck_X9_unitsBelow (pc := 140) rfl) ok_X9_isDigitNext tw_1129 tw_1131 ts_53 (by decide) kc_3261 (by omega) (Nat.le_of_ble_eq_true rfl) (x_X9_isDigitNext hL hq138) ?_
                    refine am_ifc (tgt := 150) (am_fd ck_X9_unitsBelow (pc := 143) rfl) rfl (fun hc139 => ?_) (fun hc139 => ?_)
                    · replace hm := am_it hm hc139
                      refine am_steps ck_X9_unitsBelow 3 (pc' := 19) (lv' := [(3, .int (am_i 0)), (4, .int q4.1), (0, .ref 3261), (1, .int y1), (2, .int y2)]) (st' := []) rfl ?_
                      refine am_subp [2, 3, 4, 0] rfl ?_
                      exact ih _ _ hm K
                    · replace hm := am_if hm hc139
                      refine am_steps ck_X9_unitsBelow 4 (pc' := 19) (lv' := [(3, .int (am_i 1)), (4, .int q4.1), (0, .ref 3261), (1, .int y1), (2, .int y2)]) (st' := []) rfl ?_
                      refine am_subp [2, 3, 4, 0] rfl ?_
                      exact ih _ _ hm K
                · replace hm := am_if hm hc136
                  refine am_steps ck_X9_unitsBelow 5 (pc' := 129) (lv' := [(4, .int q4.1), (0, .ref 3261), (1, .int y1), (2, .int y2), (3, .int z3)]) (st' := [.int (y2 + (am_i 1)), .int q4.1, .ref 3261]) rfl ?_
                  obtain ⟨q140, hq140, hm⟩ := am_bE hm
                  refine ms_callVv (M2 := mt_X9_unitsBelow) (d2 := dd) (ci := 7) [.int q4.1, .int (y2 + (am_i 1))] (am_fd ck_X9_unitsBelow (pc := 129) rfl) ok_X9_unitsBelow tw_1141 tw_1143 ts_56 (by decide) kc_3261 (by omega) (Nat.le_of_ble_eq_true rfl) (sh hL hq140) ?_
                  refine am_steps ck_X9_unitsBelow 1 (pc' := 133) (lv' := [(4, .int q4.1), (0, .ref 3261), (1, .int y1), (2, .int y2), (3, .int z3)]) (st' := [.ref 3261]) rfl ?_
                  refine ms_geti (ci := 7) (k := 13) (am_fd ck_X9_unitsBelow (pc := 133) rfl) tw_888 kc_3261 rfl ?_
                  refine am_ifc (tgt := 150) (am_fd ck_X9_unitsBelow (pc := 136) rfl) rfl (fun hc141 => ?_) (fun hc141 => ?_)
                  · replace hm := am_it hm hc141
                    refine am_steps ck_X9_unitsBelow 3 (pc' := 19) (lv' := [(3, .int (am_i 0)), (4, .int q4.1), (0, .ref 3261), (1, .int y1), (2, .int y2)]) (st' := []) rfl ?_
                    refine am_subp [2, 3, 4, 0] rfl ?_
                    exact ih _ _ hm K
                  · replace hm := am_if hm hc141
                    refine am_steps ck_X9_unitsBelow 1 (pc' := 140) (lv' := [(4, .int q4.1), (0, .ref 3261), (1, .int y1), (2, .int y2), (3, .int z3)]) (st' := [.ref 3261]) rfl ?_
                    obtain ⟨q142, hq142, hm⟩ := am_bE hm
                    refine ms_callV (M2 := mt_X9_isDigitNext) (d2 := 2) (ci := 7) [] (am_fd ck_X9_unitsBelow (pc := 140) rfl) ok_X9_isDigitNext tw_1129 tw_1131 ts_53 (by decide) kc_3261 (by omega) (Nat.le_of_ble_eq_true rfl) (x_X9_isDigitNext hL hq142) ?_
                    refine am_ifc (tgt := 150) (am_fd ck_X9_unitsBelow (pc := 143) rfl) rfl (fun hc143 => ?_) (fun hc143 => ?_)
                    · replace hm := am_it hm hc143
                      refine am_steps ck_X9_unitsBelow 3 (pc' := 19) (lv' := [(3, .int (am_i 0)), (4, .int q4.1), (0, .ref 3261), (1, .int y1), (2, .int y2)]) (st' := []) rfl ?_
                      refine am_subp [2, 3, 4, 0] rfl ?_
                      exact ih _ _ hm K
                    · replace hm := am_if hm hc143
                      refine am_steps ck_X9_unitsBelow 4 (pc' := 19) (lv' := [(3, .int (am_i 1)), (4, .int q4.1), (0, .ref 3261), (1, .int y1), (2, .int y2)]) (st' := []) rfl ?_
                      refine am_subp [2, 3, 4, 0] rfl ?_
                      exact ih _ _ hm K
              · replace hm := am_if hm hc130
                cases hm
                exact am_end (am_fd ck_X9_unitsBelow (pc := 92) rfl) am_rV rfl rfl
set_option maxRecDepth 100000 in
set_option maxHeartbeats 4000000 in
theorem x_X9_unitsBelow {G : am_G} : ∀ (f : Nat) {m : am_m} {r : am_rr} {x1 : Int32} {x2 : Int32} {res : am_m}, am_Lay r → m_X9_unitsBelow f m x1 x2 = some res → am_Met G mt_X9_unitsBelow (4 + f) [.ref 3261, .int x1, .int x2] (am_hh m r) none (am_hh res r) := by
  intro f
  induction f with
  | zero => intro m r x1 x2 res hL hm; cases hm
  | succ f sh =>
    intro m r x1 x2 res hL hm
    refine am_of (by decide) (Nat.le_of_ble_eq_true rfl) ?_
    have hdd : 4 ≤ 4 + f := Nat.le_add_right _ _
    change ((m_X9_must m (am_i 40)).bind fun q1 => if ¬ (q1 3261 13) = 0 then m_X9_unitsBelow_19 (m_X9_unitsBelow f) x1 x2 x1 x2 (fun m144 => (m_X9_must m144 (am_i 41)).bind fun q145 => some q145) am_F (am_i 0) q1 else m_X9_unitsBelow_19 (m_X9_unitsBelow f) x1 x2 x1 x2 (fun m146 => (m_X9_must m146 (am_i 41)).bind fun q147 => some q147) am_F (am_i 1) q1) = some res at hm
    show am_W G mt_X9_unitsBelow (4 + f + 1) _ _ 0 [(0, .ref 3261), (1, .int x1), (2, .int x2)] [] (am_hh m r)
    refine am_steps ck_X9_unitsBelow 2 (pc' := 3) (lv' := [(0, .ref 3261), (1, .int x1), (2, .int x2)]) (st' := [.int (am_i 40), .ref 3261]) rfl ?_
    obtain ⟨q1, hq1, hm⟩ := am_bE hm
    refine ms_callVv (M2 := mt_X9_must) (d2 := 2) (ci := 7) [.int (am_i 40)] (am_fd ck_X9_unitsBelow (pc := 3) rfl) ok_X9_must tw_1145 tw_1147 ts_57 (by decide) kc_3261 (by omega) (Nat.le_of_ble_eq_true rfl) (x_X9_must hL hq1) ?_
    refine am_steps ck_X9_unitsBelow 1 (pc' := 7) (lv' := [(0, .ref 3261), (1, .int x1), (2, .int x2)]) (st' := [.ref 3261]) rfl ?_
    refine ms_geti (ci := 7) (k := 13) (am_fd ck_X9_unitsBelow (pc := 7) rfl) tw_888 kc_3261 rfl ?_
    refine am_ifc (tgt := 17) (am_fd ck_X9_unitsBelow (pc := 10) rfl) rfl (fun hc2 => ?_) (fun hc2 => ?_)
    · replace hm := am_it hm hc2
      refine am_steps ck_X9_unitsBelow 2 (pc' := 19) (lv' := [(3, .int (am_i 0)), (0, .ref 3261), (1, .int x1), (2, .int x2)]) (st' := []) rfl ?_
      refine am_subp [1, 2, 3, 0] rfl ?_
      refine x_X9_unitsBelow_19 hL hdd sh am_F _ _ hm (fun m144 hm => ?_)
      refine am_steps ck_X9_unitsBelow 2 (pc' := 158) (lv' := [(0, .ref 3261)]) (st' := [.int (am_i 41), .ref 3261]) rfl ?_
      obtain ⟨q145, hq145, hm⟩ := am_bE hm
      refine ms_callVv (M2 := mt_X9_must) (d2 := 2) (ci := 7) [.int (am_i 41)] (am_fd ck_X9_unitsBelow (pc := 158) rfl) ok_X9_must tw_1145 tw_1147 ts_57 (by decide) kc_3261 (by omega) (Nat.le_of_ble_eq_true rfl) (x_X9_must hL hq145) ?_
      cases hm
      exact am_end (am_fd ck_X9_unitsBelow (pc := 161) rfl) am_rV rfl rfl
    · replace hm := am_if hm hc2
      refine am_steps ck_X9_unitsBelow 3 (pc' := 19) (lv' := [(3, .int (am_i 1)), (0, .ref 3261), (1, .int x1), (2, .int x2)]) (st' := []) rfl ?_
      refine am_subp [1, 2, 3, 0] rfl ?_
      refine x_X9_unitsBelow_19 hL hdd sh am_F _ _ hm (fun m146 hm => ?_)
      refine am_steps ck_X9_unitsBelow 2 (pc' := 158) (lv' := [(0, .ref 3261)]) (st' := [.int (am_i 41), .ref 3261]) rfl ?_
      obtain ⟨q147, hq147, hm⟩ := am_bE hm
      refine ms_callVv (M2 := mt_X9_must) (d2 := 2) (ci := 7) [.int (am_i 41)] (am_fd ck_X9_unitsBelow (pc := 158) rfl) ok_X9_must tw_1145 tw_1147 ts_57 (by decide) kc_3261 (by omega) (Nat.le_of_ble_eq_true rfl) (x_X9_must hL hq147) ?_
      cases hm
      exact am_end (am_fd ck_X9_unitsBelow (pc := 161) rfl) am_rV rfl rfl
set_option maxRecDepth 100000 in
set_option maxHeartbeats 4000000 in
theorem x_X9_entry_54 {G : am_G} {r : am_rr} {y1 : Int32} {res : am_m} {k : am_m → Option (am_m)} (hL : am_Lay r) : ∀ (n : Nat) (z2 : Int32) (m : am_m), m_X9_entry_54 y1 k n z2 m = some res → (∀ (m1 : am_m), k m1 = some res → am_W G mt_X9_entry 4 none (am_hh res r) 157 [] [] (am_hh m1 r)) → am_W G mt_X9_entry 4 none (am_hh res r) 54 [(0, .ref 3261), (1, .int y1), (2, .int z2)] [] (am_hh m r) := by
  intro n
  induction n with
  | zero => intro z2 m hm K; cases hm
  | succ n ih =>
    intro z2 m hm K
    unfold m_X9_entry_54 at hm
    refine am_steps ck_X9_entry 1 (pc' := 55) (lv' := [(0, .ref 3261), (1, .int y1), (2, .int z2)]) (st' := [.int z2]) rfl ?_
    refine am_ifc (tgt := 157) (am_fd ck_X9_entry (pc := 55) rfl) rfl (fun hc5 => ?_) (fun hc5 => ?_)
    · replace hm := am_it hm hc5
      refine am_subp [] rfl ?_
      exact K _ hm
    · replace hm := am_if hm hc5
      refine am_steps ck_X9_entry 3 (pc' := 62) (lv' := [(0, .ref 3261), (1, .int y1), (2, .int z2)]) (st' := [.int (am_i 63), .int (am_i 0), .ref 3261]) rfl ?_
      obtain ⟨q6, hq6, hm⟩ := am_bE hm
      refine ms_callV (M2 := mt_X9_number) (d2 := 3) (ci := 7) [.int (am_i 0), .int (am_i 63)] (am_fd ck_X9_entry (pc := 62) rfl) ok_X9_number tw_1125 tw_1127 ts_52 (by decide) kc_3261 (Nat.le_of_ble_eq_true rfl) (Nat.le_of_ble_eq_true rfl) (x_X9_number hL hq6) ?_
      refine am_steps ck_X9_entry 2 (pc' := 67) (lv' := [(3, .int q6.1), (0, .ref 3261), (1, .int y1), (2, .int z2)]) (st' := [.ref 3261]) rfl ?_
      refine ms_geti (ci := 7) (k := 13) (am_fd ck_X9_entry (pc := 67) rfl) tw_888 kc_3261 rfl ?_
      refine am_ifc (tgt := 96) (am_fd ck_X9_entry (pc := 70) rfl) rfl (fun hc7 => ?_) (fun hc7 => ?_)
      · replace hm := am_it hm hc7
        refine am_steps ck_X9_entry 2 (pc' := 99) (lv' := [(3, .int q6.1), (0, .ref 3261), (1, .int y1), (2, .int z2)]) (st' := [.int (am_i 120), .ref 3261]) rfl ?_
        obtain ⟨q8, hq8, hm⟩ := am_bE hm
        refine ms_callVv (M2 := mt_X9_must) (d2 := 2) (ci := 7) [.int (am_i 120)] (am_fd ck_X9_entry (pc := 99) rfl) ok_X9_must tw_1145 tw_1147 ts_57 (by decide) kc_3261 (Nat.le_of_ble_eq_true rfl) (Nat.le_of_ble_eq_true rfl) (x_X9_must hL hq8) ?_
        refine am_steps ck_X9_entry 3 (pc' := 107) (lv' := [(3, .int q6.1), (0, .ref 3261), (1, .int y1), (2, .int z2)]) (st' := [.int (am_i 9999), .int (am_i 1), .ref 3261]) rfl ?_
        obtain ⟨q9, hq9, hm⟩ := am_bE hm
        refine ms_callV (M2 := mt_X9_number) (d2 := 3) (ci := 7) [.int (am_i 1), .int (am_i 9999)] (am_fd ck_X9_entry (pc := 107) rfl) ok_X9_number tw_1125 tw_1127 ts_52 (by decide) kc_3261 (Nat.le_of_ble_eq_true rfl) (Nat.le_of_ble_eq_true rfl) (x_X9_number hL hq9) ?_
        refine am_steps ck_X9_entry 2 (pc' := 113) (lv' := [(4, .int q9.1), (3, .int q6.1), (0, .ref 3261), (1, .int y1), (2, .int z2)]) (st' := [.ref 3261]) rfl ?_
        refine ms_geti (ci := 7) (k := 13) (am_fd ck_X9_entry (pc := 113) rfl) tw_888 kc_3261 rfl ?_
        refine am_ifc (tgt := 120) (am_fd ck_X9_entry (pc := 116) rfl) rfl (fun hc10 => ?_) (fun hc10 => ?_)
        · replace hm := am_it hm hc10
          refine am_steps ck_X9_entry 1 (pc' := 121) (lv' := [(4, .int q9.1), (3, .int q6.1), (0, .ref 3261), (1, .int y1), (2, .int z2)]) (st' := [.ref 3261]) rfl ?_
          refine ms_getr (ci := 7) (k := 0) (v := 3262) (am_fd ck_X9_entry (pc := 121) rfl) tw_875 kc_3261 rfl (ly_3261_0 hL) kc_3262 ?_
          refine am_steps ck_X9_entry 1 (pc' := 125) (lv' := [(4, .int q9.1), (3, .int q6.1), (0, .ref 3261), (1, .int y1), (2, .int z2)]) (st' := [.int y1, .ref 3262]) rfl ?_
          obtain ⟨q11, hq11, hm⟩ := am_bE hm
          refine ms_callS (M2 := mt_X9_ownAt) (d2 := 1) [.int y1] (am_fd ck_X9_entry (pc := 125) rfl) ok_X9_ownAt tw_959 tw_960 (Nat.le_of_ble_eq_true rfl) (Nat.le_of_ble_eq_true rfl) (x_X9_ownAt hL hq11) ?_
          refine am_steps ck_X9_entry 3 (pc' := 132) (lv' := [(4, .int q9.1), (3, .int q6.1), (0, .ref 3261), (1, .int y1), (2, .int z2)]) (st' := [.int q9.1, .int (q11 + q6.1), .ref 3262]) rfl ?_
          obtain ⟨hb12, hm⟩ := am_gE hm
          refine ms_iast (n := 15517) (am_fd ck_X9_entry (pc := 132) rfl) kc_3262 hb12 (fun m13 em13 => ?_)
          replace hm := am_letE em13 hm
          refine am_steps ck_X9_entry 2 (pc' := 136) (lv' := [(4, .int q9.1), (3, .int q6.1), (0, .ref 3261), (1, .int y1), (2, .int z2)]) (st' := [.int (am_i 44), .ref 3261]) rfl ?_
          obtain ⟨q14, hq14, hm⟩ := am_bE hm
          refine ms_callV (M2 := mt_X9_isNext) (d2 := 1) (ci := 7) [.int (am_i 44)] (am_fd ck_X9_entry (pc := 136) rfl) ok_X9_isNext tw_1133 tw_1135 ts_54 (by decide) kc_3261 (Nat.le_of_ble_eq_true rfl) (Nat.le_of_ble_eq_true rfl) (x_X9_isNext hL hq14) ?_
          refine am_steps ck_X9_entry 2 (pc' := 141) (lv' := [(2, .int q14.1), (4, .int q9.1), (3, .int q6.1), (0, .ref 3261), (1, .int y1)]) (st' := [.int q14.1]) rfl ?_
          refine am_ifc (tgt := 154) (am_fd ck_X9_entry (pc := 141) rfl) rfl (fun hc15 => ?_) (fun hc15 => ?_)
          · replace hm := am_it hm hc15
            refine am_steps ck_X9_entry 1 (pc' := 54) (lv' := [(2, .int q14.1), (4, .int q9.1), (3, .int q6.1), (0, .ref 3261), (1, .int y1)]) (st' := []) rfl ?_
            refine am_subp [3, 4, 0] rfl ?_
            exact ih _ _ hm K
          · replace hm := am_if hm hc15
            refine am_steps ck_X9_entry 2 (pc' := 146) (lv' := [(2, .int q14.1), (4, .int q9.1), (3, .int q6.1), (0, .ref 3261), (1, .int y1)]) (st' := [.ref 3261, .ref 3261]) rfl ?_
            refine ms_geti (ci := 7) (k := 10) (am_fd ck_X9_entry (pc := 146) rfl) tw_885 kc_3261 rfl ?_
            refine am_steps ck_X9_entry 2 (pc' := 151) (lv' := [(2, .int q14.1), (4, .int q9.1), (3, .int q6.1), (0, .ref 3261), (1, .int y1)]) (st' := [.int ((q14.2 3261 10) + (am_i 1)), .ref 3261]) rfl ?_
            refine ms_puti (ci := 7) (k := 10) (am_fd ck_X9_entry (pc := 151) rfl) tw_885 kc_3261 rfl rfl (fun m16 em16 => ?_)
            replace hm := am_letE em16 hm
            refine am_steps ck_X9_entry 1 (pc' := 54) (lv' := [(2, .int q14.1), (4, .int q9.1), (3, .int q6.1), (0, .ref 3261), (1, .int y1)]) (st' := []) rfl ?_
            refine am_subp [3, 4, 0] rfl ?_
            exact ih _ _ hm K
        · replace hm := am_if hm hc10
          cases hm
          exact am_end (am_fd ck_X9_entry (pc := 119) rfl) am_rV rfl rfl
      · replace hm := am_if hm hc7
        refine am_steps ck_X9_entry 1 (pc' := 74) (lv' := [(3, .int q6.1), (0, .ref 3261), (1, .int y1), (2, .int z2)]) (st' := [.ref 3261]) rfl ?_
        refine ms_getr (ci := 7) (k := 0) (v := 3262) (am_fd ck_X9_entry (pc := 74) rfl) tw_875 kc_3261 rfl (ly_3261_0 hL) kc_3262 ?_
        refine am_steps ck_X9_entry 1 (pc' := 78) (lv' := [(3, .int q6.1), (0, .ref 3261), (1, .int y1), (2, .int z2)]) (st' := [.int y1, .ref 3262]) rfl ?_
        obtain ⟨q17, hq17, hm⟩ := am_bE hm
        refine ms_callS (M2 := mt_X9_ownAt) (d2 := 1) [.int y1] (am_fd ck_X9_entry (pc := 78) rfl) ok_X9_ownAt tw_959 tw_960 (Nat.le_of_ble_eq_true rfl) (Nat.le_of_ble_eq_true rfl) (x_X9_ownAt hL hq17) ?_
        refine am_steps ck_X9_entry 2 (pc' := 83) (lv' := [(3, .int q6.1), (0, .ref 3261), (1, .int y1), (2, .int z2)]) (st' := [.int (q17 + q6.1), .ref 3262]) rfl ?_
        obtain ⟨hb18, hm⟩ := am_gE hm
        refine ms_iald (n := 15517) (am_fd ck_X9_entry (pc := 83) rfl) kc_3262 hb18 ?_
        refine am_ifc (tgt := 96) (am_fd ck_X9_entry (pc := 84) rfl) rfl (fun hc19 => ?_) (fun hc19 => ?_)
        · replace hm := am_it hm hc19
          refine am_steps ck_X9_entry 2 (pc' := 99) (lv' := [(3, .int q6.1), (0, .ref 3261), (1, .int y1), (2, .int z2)]) (st' := [.int (am_i 120), .ref 3261]) rfl ?_
          obtain ⟨q20, hq20, hm⟩ := am_bE hm
          refine ms_callVv (M2 := mt_X9_must) (d2 := 2) (ci := 7) [.int (am_i 120)] (am_fd ck_X9_entry (pc := 99) rfl) ok_X9_must tw_1145 tw_1147 ts_57 (by decide) kc_3261 (Nat.le_of_ble_eq_true rfl) (Nat.le_of_ble_eq_true rfl) (x_X9_must hL hq20) ?_
          refine am_steps ck_X9_entry 3 (pc' := 107) (lv' := [(3, .int q6.1), (0, .ref 3261), (1, .int y1), (2, .int z2)]) (st' := [.int (am_i 9999), .int (am_i 1), .ref 3261]) rfl ?_
          obtain ⟨q21, hq21, hm⟩ := am_bE hm
          refine ms_callV (M2 := mt_X9_number) (d2 := 3) (ci := 7) [.int (am_i 1), .int (am_i 9999)] (am_fd ck_X9_entry (pc := 107) rfl) ok_X9_number tw_1125 tw_1127 ts_52 (by decide) kc_3261 (Nat.le_of_ble_eq_true rfl) (Nat.le_of_ble_eq_true rfl) (x_X9_number hL hq21) ?_
          refine am_steps ck_X9_entry 2 (pc' := 113) (lv' := [(4, .int q21.1), (3, .int q6.1), (0, .ref 3261), (1, .int y1), (2, .int z2)]) (st' := [.ref 3261]) rfl ?_
          refine ms_geti (ci := 7) (k := 13) (am_fd ck_X9_entry (pc := 113) rfl) tw_888 kc_3261 rfl ?_
          refine am_ifc (tgt := 120) (am_fd ck_X9_entry (pc := 116) rfl) rfl (fun hc22 => ?_) (fun hc22 => ?_)
          · replace hm := am_it hm hc22
            refine am_steps ck_X9_entry 1 (pc' := 121) (lv' := [(4, .int q21.1), (3, .int q6.1), (0, .ref 3261), (1, .int y1), (2, .int z2)]) (st' := [.ref 3261]) rfl ?_
            refine ms_getr (ci := 7) (k := 0) (v := 3262) (am_fd ck_X9_entry (pc := 121) rfl) tw_875 kc_3261 rfl (ly_3261_0 hL) kc_3262 ?_
            refine am_steps ck_X9_entry 1 (pc' := 125) (lv' := [(4, .int q21.1), (3, .int q6.1), (0, .ref 3261), (1, .int y1), (2, .int z2)]) (st' := [.int y1, .ref 3262]) rfl ?_
            obtain ⟨q23, hq23, hm⟩ := am_bE hm
            refine ms_callS (M2 := mt_X9_ownAt) (d2 := 1) [.int y1] (am_fd ck_X9_entry (pc := 125) rfl) ok_X9_ownAt tw_959 tw_960 (Nat.le_of_ble_eq_true rfl) (Nat.le_of_ble_eq_true rfl) (x_X9_ownAt hL hq23) ?_
            refine am_steps ck_X9_entry 3 (pc' := 132) (lv' := [(4, .int q21.1), (3, .int q6.1), (0, .ref 3261), (1, .int y1), (2, .int z2)]) (st' := [.int q21.1, .int (q23 + q6.1), .ref 3262]) rfl ?_
            obtain ⟨hb24, hm⟩ := am_gE hm
            refine ms_iast (n := 15517) (am_fd ck_X9_entry (pc := 132) rfl) kc_3262 hb24 (fun m25 em25 => ?_)
            replace hm := am_letE em25 hm
            refine am_steps ck_X9_entry 2 (pc' := 136) (lv' := [(4, .int q21.1), (3, .int q6.1), (0, .ref 3261), (1, .int y1), (2, .int z2)]) (st' := [.int (am_i 44), .ref 3261]) rfl ?_
            obtain ⟨q26, hq26, hm⟩ := am_bE hm
            refine ms_callV (M2 := mt_X9_isNext) (d2 := 1) (ci := 7) [.int (am_i 44)] (am_fd ck_X9_entry (pc := 136) rfl) ok_X9_isNext tw_1133 tw_1135 ts_54 (by decide) kc_3261 (Nat.le_of_ble_eq_true rfl) (Nat.le_of_ble_eq_true rfl) (x_X9_isNext hL hq26) ?_
            refine am_steps ck_X9_entry 2 (pc' := 141) (lv' := [(2, .int q26.1), (4, .int q21.1), (3, .int q6.1), (0, .ref 3261), (1, .int y1)]) (st' := [.int q26.1]) rfl ?_
            refine am_ifc (tgt := 154) (am_fd ck_X9_entry (pc := 141) rfl) rfl (fun hc27 => ?_) (fun hc27 => ?_)
            · replace hm := am_it hm hc27
              refine am_steps ck_X9_entry 1 (pc' := 54) (lv' := [(2, .int q26.1), (4, .int q21.1), (3, .int q6.1), (0, .ref 3261), (1, .int y1)]) (st' := []) rfl ?_
              refine am_subp [3, 4, 0] rfl ?_
              exact ih _ _ hm K
            · replace hm := am_if hm hc27
              refine am_steps ck_X9_entry 2 (pc' := 146) (lv' := [(2, .int q26.1), (4, .int q21.1), (3, .int q6.1), (0, .ref 3261), (1, .int y1)]) (st' := [.ref 3261, .ref 3261]) rfl ?_
              refine ms_geti (ci := 7) (k := 10) (am_fd ck_X9_entry (pc := 146) rfl) tw_885 kc_3261 rfl ?_
              refine am_steps ck_X9_entry 2 (pc' := 151) (lv' := [(2, .int q26.1), (4, .int q21.1), (3, .int q6.1), (0, .ref 3261), (1, .int y1)]) (st' := [.int ((q26.2 3261 10) + (am_i 1)), .ref 3261]) rfl ?_
              refine ms_puti (ci := 7) (k := 10) (am_fd ck_X9_entry (pc := 151) rfl) tw_885 kc_3261 rfl rfl (fun m28 em28 => ?_)
              replace hm := am_letE em28 hm
              refine am_steps ck_X9_entry 1 (pc' := 54) (lv' := [(2, .int q26.1), (4, .int q21.1), (3, .int q6.1), (0, .ref 3261), (1, .int y1)]) (st' := []) rfl ?_
              refine am_subp [3, 4, 0] rfl ?_
              exact ih _ _ hm K
          · replace hm := am_if hm hc22
            cases hm
            exact am_end (am_fd ck_X9_entry (pc := 119) rfl) am_rV rfl rfl
        · replace hm := am_if hm hc19
          refine am_steps ck_X9_entry 3 (pc' := 90) (lv' := [(3, .int q6.1), (0, .ref 3261), (1, .int y1), (2, .int z2)]) (st' := [.ref 3261, .int (am_i 3), .ref 3261]) rfl ?_
          refine ms_geti (ci := 7) (k := 14) (am_fd ck_X9_entry (pc := 90) rfl) tw_889 kc_3261 rfl ?_
          obtain ⟨q29, hq29, hm⟩ := am_bE hm
          refine ms_callVv (M2 := mt_X9_wrong) (d2 := 1) (ci := 7) [.int (am_i 3), .int (q6.2 3261 14)] (am_fd ck_X9_entry (pc := 93) rfl) ok_X9_wrong tw_1137 tw_1139 ts_55 (by decide) kc_3261 (Nat.le_of_ble_eq_true rfl) (Nat.le_of_ble_eq_true rfl) (x_X9_wrong hL hq29) ?_
          refine am_steps ck_X9_entry 2 (pc' := 99) (lv' := [(3, .int q6.1), (0, .ref 3261), (1, .int y1), (2, .int z2)]) (st' := [.int (am_i 120), .ref 3261]) rfl ?_
          obtain ⟨q30, hq30, hm⟩ := am_bE hm
          refine ms_callVv (M2 := mt_X9_must) (d2 := 2) (ci := 7) [.int (am_i 120)] (am_fd ck_X9_entry (pc := 99) rfl) ok_X9_must tw_1145 tw_1147 ts_57 (by decide) kc_3261 (Nat.le_of_ble_eq_true rfl) (Nat.le_of_ble_eq_true rfl) (x_X9_must hL hq30) ?_
          refine am_steps ck_X9_entry 3 (pc' := 107) (lv' := [(3, .int q6.1), (0, .ref 3261), (1, .int y1), (2, .int z2)]) (st' := [.int (am_i 9999), .int (am_i 1), .ref 3261]) rfl ?_
          obtain ⟨q31, hq31, hm⟩ := am_bE hm
          refine ms_callV (M2 := mt_X9_number) (d2 := 3) (ci := 7) [.int (am_i 1), .int (am_i 9999)] (am_fd ck_X9_entry (pc := 107) rfl) ok_X9_number tw_1125 tw_1127 ts_52 (by decide) kc_3261 (Nat.le_of_ble_eq_true rfl) (Nat.le_of_ble_eq_true rfl) (x_X9_number hL hq31) ?_
          refine am_steps ck_X9_entry 2 (pc' := 113) (lv' := [(4, .int q31.1), (3, .int q6.1), (0, .ref 3261), (1, .int y1), (2, .int z2)]) (st' := [.ref 3261]) rfl ?_
          refine ms_geti (ci := 7) (k := 13) (am_fd ck_X9_entry (pc := 113) rfl) tw_888 kc_3261 rfl ?_
          refine am_ifc (tgt := 120) (am_fd ck_X9_entry (pc := 116) rfl) rfl (fun hc32 => ?_) (fun hc32 => ?_)
          · replace hm := am_it hm hc32
            refine am_steps ck_X9_entry 1 (pc' := 121) (lv' := [(4, .int q31.1), (3, .int q6.1), (0, .ref 3261), (1, .int y1), (2, .int z2)]) (st' := [.ref 3261]) rfl ?_
            refine ms_getr (ci := 7) (k := 0) (v := 3262) (am_fd ck_X9_entry (pc := 121) rfl) tw_875 kc_3261 rfl (ly_3261_0 hL) kc_3262 ?_
            refine am_steps ck_X9_entry 1 (pc' := 125) (lv' := [(4, .int q31.1), (3, .int q6.1), (0, .ref 3261), (1, .int y1), (2, .int z2)]) (st' := [.int y1, .ref 3262]) rfl ?_
            obtain ⟨q33, hq33, hm⟩ := am_bE hm
            refine ms_callS (M2 := mt_X9_ownAt) (d2 := 1) [.int y1] (am_fd ck_X9_entry (pc := 125) rfl) ok_X9_ownAt tw_959 tw_960 (Nat.le_of_ble_eq_true rfl) (Nat.le_of_ble_eq_true rfl) (x_X9_ownAt hL hq33) ?_
            refine am_steps ck_X9_entry 3 (pc' := 132) (lv' := [(4, .int q31.1), (3, .int q6.1), (0, .ref 3261), (1, .int y1), (2, .int z2)]) (st' := [.int q31.1, .int (q33 + q6.1), .ref 3262]) rfl ?_
            obtain ⟨hb34, hm⟩ := am_gE hm
            refine ms_iast (n := 15517) (am_fd ck_X9_entry (pc := 132) rfl) kc_3262 hb34 (fun m35 em35 => ?_)
            replace hm := am_letE em35 hm
            refine am_steps ck_X9_entry 2 (pc' := 136) (lv' := [(4, .int q31.1), (3, .int q6.1), (0, .ref 3261), (1, .int y1), (2, .int z2)]) (st' := [.int (am_i 44), .ref 3261]) rfl ?_
            obtain ⟨q36, hq36, hm⟩ := am_bE hm
            refine ms_callV (M2 := mt_X9_isNext) (d2 := 1) (ci := 7) [.int (am_i 44)] (am_fd ck_X9_entry (pc := 136) rfl) ok_X9_isNext tw_1133 tw_1135 ts_54 (by decide) kc_3261 (Nat.le_of_ble_eq_true rfl) (Nat.le_of_ble_eq_true rfl) (x_X9_isNext hL hq36) ?_
            refine am_steps ck_X9_entry 2 (pc' := 141) (lv' := [(2, .int q36.1), (4, .int q31.1), (3, .int q6.1), (0, .ref 3261), (1, .int y1)]) (st' := [.int q36.1]) rfl ?_
            refine am_ifc (tgt := 154) (am_fd ck_X9_entry (pc := 141) rfl) rfl (fun hc37 => ?_) (fun hc37 => ?_)
            · replace hm := am_it hm hc37
              refine am_steps ck_X9_entry 1 (pc' := 54) (lv' := [(2, .int q36.1), (4, .int q31.1), (3, .int q6.1), (0, .ref 3261), (1, .int y1)]) (st' := []) rfl ?_
              refine am_subp [3, 4, 0] rfl ?_
              exact ih _ _ hm K
            · replace hm := am_if hm hc37
              refine am_steps ck_X9_entry 2 (pc' := 146) (lv' := [(2, .int q36.1), (4, .int q31.1), (3, .int q6.1), (0, .ref 3261), (1, .int y1)]) (st' := [.ref 3261, .ref 3261]) rfl ?_
              refine ms_geti (ci := 7) (k := 10) (am_fd ck_X9_entry (pc := 146) rfl) tw_885 kc_3261 rfl ?_
              refine am_steps ck_X9_entry 2 (pc' := 151) (lv' := [(2, .int q36.1), (4, .int q31.1), (3, .int q6.1), (0, .ref 3261), (1, .int y1)]) (st' := [.int ((q36.2 3261 10) + (am_i 1)), .ref 3261]) rfl ?_
              refine ms_puti (ci := 7) (k := 10) (am_fd ck_X9_entry (pc := 151) rfl) tw_885 kc_3261 rfl rfl (fun m38 em38 => ?_)
              replace hm := am_letE em38 hm
              refine am_steps ck_X9_entry 1 (pc' := 54) (lv' := [(2, .int q36.1), (4, .int q31.1), (3, .int q6.1), (0, .ref 3261), (1, .int y1)]) (st' := []) rfl ?_
              refine am_subp [3, 4, 0] rfl ?_
              exact ih _ _ hm K
          · replace hm := am_if hm hc32
            cases hm
            exact am_end (am_fd ck_X9_entry (pc := 119) rfl) am_rV rfl rfl
set_option maxRecDepth 100000 in
set_option maxHeartbeats 4000000 in
theorem x_X9_entry {G : am_G} {m : am_m} {r : am_rr} {res : am_m} (hL : am_Lay r) (hm : m_X9_entry m  = some res) : am_Met G mt_X9_entry 4 [.ref 3261] (am_hh m r) none (am_hh res r) := by
  refine am_of (by decide) (Nat.le_of_ble_eq_true rfl) ?_
  unfold m_X9_entry at hm
  show am_W G mt_X9_entry 4 _ _ 0 [(0, .ref 3261)] [] (am_hh m r)
  refine am_steps ck_X9_entry 3 (pc' := 4) (lv' := [(0, .ref 3261)]) (st' := [.int (am_i 23), .int (am_i 0), .ref 3261]) rfl ?_
  obtain ⟨q1, hq1, hm⟩ := am_bE hm
  refine ms_callV (M2 := mt_X9_number) (d2 := 3) (ci := 7) [.int (am_i 0), .int (am_i 23)] (am_fd ck_X9_entry (pc := 4) rfl) ok_X9_number tw_1125 tw_1127 ts_52 (by decide) kc_3261 (Nat.le_of_ble_eq_true rfl) (Nat.le_of_ble_eq_true rfl) (x_X9_number hL hq1) ?_
  refine am_steps ck_X9_entry 2 (pc' := 9) (lv' := [(1, .int q1.1), (0, .ref 3261)]) (st' := [.ref 3261]) rfl ?_
  refine ms_geti (ci := 7) (k := 13) (am_fd ck_X9_entry (pc := 9) rfl) tw_888 kc_3261 rfl ?_
  refine am_ifc (tgt := 35) (am_fd ck_X9_entry (pc := 12) rfl) rfl (fun hc2 => ?_) (fun hc2 => ?_)
  · replace hm := am_it hm hc2
    refine am_steps ck_X9_entry 2 (pc' := 38) (lv' := [(1, .int q1.1), (0, .ref 3261)]) (st' := [.int (am_i 58), .ref 3261]) rfl ?_
    obtain ⟨q3, hq3, hm⟩ := am_bE hm
    refine ms_callVv (M2 := mt_X9_must) (d2 := 2) (ci := 7) [.int (am_i 58)] (am_fd ck_X9_entry (pc := 38) rfl) ok_X9_must tw_1145 tw_1147 ts_57 (by decide) kc_3261 (Nat.le_of_ble_eq_true rfl) (Nat.le_of_ble_eq_true rfl) (x_X9_must hL hq3) ?_
    refine am_steps ck_X9_entry 1 (pc' := 42) (lv' := [(1, .int q1.1), (0, .ref 3261)]) (st' := [.ref 3261]) rfl ?_
    refine ms_geti (ci := 7) (k := 13) (am_fd ck_X9_entry (pc := 42) rfl) tw_888 kc_3261 rfl ?_
    refine am_ifc (tgt := 52) (am_fd ck_X9_entry (pc := 45) rfl) rfl (fun hc4 => ?_) (fun hc4 => ?_)
    · replace hm := am_it hm hc4
      refine am_steps ck_X9_entry 2 (pc' := 54) (lv' := [(2, .int (am_i 0)), (1, .int q1.1), (0, .ref 3261)]) (st' := []) rfl ?_
      refine am_subp [2, 1, 0] rfl ?_
      refine x_X9_entry_54 hL am_F _ _ hm (fun m39 hm => ?_)
      cases hm
      exact am_end (am_fd ck_X9_entry (pc := 157) rfl) am_rV rfl rfl
    · replace hm := am_if hm hc4
      refine am_steps ck_X9_entry 3 (pc' := 54) (lv' := [(2, .int (am_i 1)), (1, .int q1.1), (0, .ref 3261)]) (st' := []) rfl ?_
      refine am_subp [2, 1, 0] rfl ?_
      refine x_X9_entry_54 hL am_F _ _ hm (fun m40 hm => ?_)
      cases hm
      exact am_end (am_fd ck_X9_entry (pc := 157) rfl) am_rV rfl rfl
  · replace hm := am_if hm hc2
    refine am_steps ck_X9_entry 1 (pc' := 16) (lv' := [(1, .int q1.1), (0, .ref 3261)]) (st' := [.ref 3261]) rfl ?_
    refine ms_getr (ci := 7) (k := 0) (v := 3262) (am_fd ck_X9_entry (pc := 16) rfl) tw_875 kc_3261 rfl (ly_3261_0 hL) kc_3262 ?_
    refine am_steps ck_X9_entry 3 (pc' := 22) (lv' := [(1, .int q1.1), (0, .ref 3261)]) (st' := [.int ((am_i 0) + q1.1), .ref 3262]) rfl ?_
    obtain ⟨hb41, hm⟩ := am_gE hm
    refine ms_iald (n := 15517) (am_fd ck_X9_entry (pc := 22) rfl) kc_3262 hb41 ?_
    refine am_ifc (tgt := 35) (am_fd ck_X9_entry (pc := 23) rfl) rfl (fun hc42 => ?_) (fun hc42 => ?_)
    · replace hm := am_it hm hc42
      refine am_steps ck_X9_entry 2 (pc' := 38) (lv' := [(1, .int q1.1), (0, .ref 3261)]) (st' := [.int (am_i 58), .ref 3261]) rfl ?_
      obtain ⟨q43, hq43, hm⟩ := am_bE hm
      refine ms_callVv (M2 := mt_X9_must) (d2 := 2) (ci := 7) [.int (am_i 58)] (am_fd ck_X9_entry (pc := 38) rfl) ok_X9_must tw_1145 tw_1147 ts_57 (by decide) kc_3261 (Nat.le_of_ble_eq_true rfl) (Nat.le_of_ble_eq_true rfl) (x_X9_must hL hq43) ?_
      refine am_steps ck_X9_entry 1 (pc' := 42) (lv' := [(1, .int q1.1), (0, .ref 3261)]) (st' := [.ref 3261]) rfl ?_
      refine ms_geti (ci := 7) (k := 13) (am_fd ck_X9_entry (pc := 42) rfl) tw_888 kc_3261 rfl ?_
      refine am_ifc (tgt := 52) (am_fd ck_X9_entry (pc := 45) rfl) rfl (fun hc44 => ?_) (fun hc44 => ?_)
      · replace hm := am_it hm hc44
        refine am_steps ck_X9_entry 2 (pc' := 54) (lv' := [(2, .int (am_i 0)), (1, .int q1.1), (0, .ref 3261)]) (st' := []) rfl ?_
        refine am_subp [2, 1, 0] rfl ?_
        refine x_X9_entry_54 hL am_F _ _ hm (fun m45 hm => ?_)
        cases hm
        exact am_end (am_fd ck_X9_entry (pc := 157) rfl) am_rV rfl rfl
      · replace hm := am_if hm hc44
        refine am_steps ck_X9_entry 3 (pc' := 54) (lv' := [(2, .int (am_i 1)), (1, .int q1.1), (0, .ref 3261)]) (st' := []) rfl ?_
        refine am_subp [2, 1, 0] rfl ?_
        refine x_X9_entry_54 hL am_F _ _ hm (fun m46 hm => ?_)
        cases hm
        exact am_end (am_fd ck_X9_entry (pc := 157) rfl) am_rV rfl rfl
    · replace hm := am_if hm hc42
      refine am_steps ck_X9_entry 3 (pc' := 29) (lv' := [(1, .int q1.1), (0, .ref 3261)]) (st' := [.ref 3261, .int (am_i 2), .ref 3261]) rfl ?_
      refine ms_geti (ci := 7) (k := 14) (am_fd ck_X9_entry (pc := 29) rfl) tw_889 kc_3261 rfl ?_
      obtain ⟨q47, hq47, hm⟩ := am_bE hm
      refine ms_callVv (M2 := mt_X9_wrong) (d2 := 1) (ci := 7) [.int (am_i 2), .int (q1.2 3261 14)] (am_fd ck_X9_entry (pc := 32) rfl) ok_X9_wrong tw_1137 tw_1139 ts_55 (by decide) kc_3261 (Nat.le_of_ble_eq_true rfl) (Nat.le_of_ble_eq_true rfl) (x_X9_wrong hL hq47) ?_
      refine am_steps ck_X9_entry 2 (pc' := 38) (lv' := [(1, .int q1.1), (0, .ref 3261)]) (st' := [.int (am_i 58), .ref 3261]) rfl ?_
      obtain ⟨q48, hq48, hm⟩ := am_bE hm
      refine ms_callVv (M2 := mt_X9_must) (d2 := 2) (ci := 7) [.int (am_i 58)] (am_fd ck_X9_entry (pc := 38) rfl) ok_X9_must tw_1145 tw_1147 ts_57 (by decide) kc_3261 (Nat.le_of_ble_eq_true rfl) (Nat.le_of_ble_eq_true rfl) (x_X9_must hL hq48) ?_
      refine am_steps ck_X9_entry 1 (pc' := 42) (lv' := [(1, .int q1.1), (0, .ref 3261)]) (st' := [.ref 3261]) rfl ?_
      refine ms_geti (ci := 7) (k := 13) (am_fd ck_X9_entry (pc := 42) rfl) tw_888 kc_3261 rfl ?_
      refine am_ifc (tgt := 52) (am_fd ck_X9_entry (pc := 45) rfl) rfl (fun hc49 => ?_) (fun hc49 => ?_)
      · replace hm := am_it hm hc49
        refine am_steps ck_X9_entry 2 (pc' := 54) (lv' := [(2, .int (am_i 0)), (1, .int q1.1), (0, .ref 3261)]) (st' := []) rfl ?_
        refine am_subp [2, 1, 0] rfl ?_
        refine x_X9_entry_54 hL am_F _ _ hm (fun m50 hm => ?_)
        cases hm
        exact am_end (am_fd ck_X9_entry (pc := 157) rfl) am_rV rfl rfl
      · replace hm := am_if hm hc49
        refine am_steps ck_X9_entry 3 (pc' := 54) (lv' := [(2, .int (am_i 1)), (1, .int q1.1), (0, .ref 3261)]) (st' := []) rfl ?_
        refine am_subp [2, 1, 0] rfl ?_
        refine x_X9_entry_54 hL am_F _ _ hm (fun m51 hm => ?_)
        cases hm
        exact am_end (am_fd ck_X9_entry (pc := 157) rfl) am_rV rfl rfl
set_option maxRecDepth 100000 in
set_option maxHeartbeats 4000000 in
theorem x_X9_reads_29 {G : am_G} {r : am_rr} {res : am_m} {k : am_m → Option (am_m)} (hL : am_Lay r) : ∀ (n : Nat) (m : am_m), m_X9_reads_29 k n m = some res → (∀ (m1 : am_m), k m1 = some res → am_W G mt_X9_reads 25 none (am_hh res r) 88 [(0, .ref 3261)] [] (am_hh m1 r)) → am_W G mt_X9_reads 25 none (am_hh res r) 29 [(0, .ref 3261)] [] (am_hh m r) := by
  intro n
  induction n with
  | zero => intro m hm K; cases hm
  | succ n ih =>
    intro m hm K
    unfold m_X9_reads_29 at hm
    refine am_steps ck_X9_reads 1 (pc' := 30) (lv' := [(0, .ref 3261)]) (st' := [.ref 3261]) rfl ?_
    refine ms_geti (ci := 7) (k := 13) (am_fd ck_X9_reads (pc := 30) rfl) tw_888 kc_3261 rfl ?_
    refine am_ifc (tgt := 88) (am_fd ck_X9_reads (pc := 33) rfl) rfl (fun hc3 => ?_) (fun hc3 => ?_)
    · replace hm := am_it hm hc3
      exact K _ hm
    · replace hm := am_if hm hc3
      refine am_steps ck_X9_reads 2 (pc' := 39) (lv' := [(0, .ref 3261)]) (st' := [.int (am_i 59), .ref 3261]) rfl ?_
      obtain ⟨q4, hq4, hm⟩ := am_bE hm
      refine ms_callV (M2 := mt_X9_isNext) (d2 := 1) (ci := 7) [.int (am_i 59)] (am_fd ck_X9_reads (pc := 39) rfl) ok_X9_isNext tw_1133 tw_1135 ts_54 (by decide) kc_3261 (Nat.le_of_ble_eq_true rfl) (Nat.le_of_ble_eq_true rfl) (x_X9_isNext hL hq4) ?_
      refine am_ifc (tgt := 88) (am_fd ck_X9_reads (pc := 42) rfl) rfl (fun hc5 => ?_) (fun hc5 => ?_)
      · replace hm := am_it hm hc5
        exact K _ hm
      · replace hm := am_if hm hc5
        refine am_steps ck_X9_reads 2 (pc' := 47) (lv' := [(0, .ref 3261)]) (st' := [.ref 3261, .ref 3261]) rfl ?_
        refine ms_geti (ci := 7) (k := 10) (am_fd ck_X9_reads (pc := 47) rfl) tw_885 kc_3261 rfl ?_
        refine am_steps ck_X9_reads 2 (pc' := 52) (lv' := [(0, .ref 3261)]) (st' := [.int ((q4.2 3261 10) + (am_i 1)), .ref 3261]) rfl ?_
        refine ms_puti (ci := 7) (k := 10) (am_fd ck_X9_reads (pc := 52) rfl) tw_885 kc_3261 rfl rfl (fun m6 em6 => ?_)
        replace hm := am_letE em6 hm
        refine am_steps ck_X9_reads 2 (pc' := 58) (lv' := [(0, .ref 3261)]) (st' := [.int (am_i 32), .ref 3261]) rfl ?_
        obtain ⟨q7, hq7, hm⟩ := am_bE hm
        refine ms_callV (M2 := mt_X9_isNext) (d2 := 1) (ci := 7) [.int (am_i 32)] (am_fd ck_X9_reads (pc := 58) rfl) ok_X9_isNext tw_1133 tw_1135 ts_54 (by decide) kc_3261 (Nat.le_of_ble_eq_true rfl) (Nat.le_of_ble_eq_true rfl) (x_X9_isNext hL hq7) ?_
        refine am_steps ck_X9_reads 2 (pc' := 63) (lv' := [(2, .int q7.1), (0, .ref 3261)]) (st' := [.int q7.1]) rfl ?_
        refine am_ifc (tgt := 77) (am_fd ck_X9_reads (pc := 63) rfl) rfl (fun hc8 => ?_) (fun hc8 => ?_)
        · replace hm := am_it hm hc8
          refine am_steps ck_X9_reads 1 (pc' := 78) (lv' := [(2, .int q7.1), (0, .ref 3261)]) (st' := [.ref 3261]) rfl ?_
          obtain ⟨q9, hq9, hm⟩ := am_bE hm
          refine ms_callVv (M2 := mt_X9_entry) (d2 := 4) (ci := 7) [] (am_fd ck_X9_reads (pc := 78) rfl) ok_X9_entry tw_1149 tw_1151 ts_58 (by decide) kc_3261 (Nat.le_of_ble_eq_true rfl) (Nat.le_of_ble_eq_true rfl) (x_X9_entry hL hq9) ?_
          refine am_steps ck_X9_reads 2 (pc' := 29) (lv' := [(2, .int q7.1), (0, .ref 3261)]) (st' := []) rfl ?_
          refine am_subp [1] rfl ?_
          exact ih _ hm K
        · replace hm := am_if hm hc8
          refine am_steps ck_X9_reads 1 (pc' := 67) (lv' := [(2, .int q7.1), (0, .ref 3261)]) (st' := [.ref 3261]) rfl ?_
          refine ms_geti (ci := 7) (k := 10) (am_fd ck_X9_reads (pc := 67) rfl) tw_885 kc_3261 rfl ?_
          refine am_steps ck_X9_reads 1 (pc' := 71) (lv' := [(2, .int q7.1), (0, .ref 3261)]) (st' := [.ref 3261, .int (q7.2 3261 10)]) rfl ?_
          refine ms_geti (ci := 7) (k := 9) (am_fd ck_X9_reads (pc := 71) rfl) tw_884 kc_3261 rfl ?_
          refine am_icmp (tgt := 84) (am_fd ck_X9_reads (pc := 74) rfl) rfl (fun hc10 => ?_) (fun hc10 => ?_)
          · replace hm := am_it hm hc10
            cases hm
            exact am_end (am_fd ck_X9_reads (pc := 84) rfl) am_rV rfl rfl
          · replace hm := am_if hm hc10
            refine am_steps ck_X9_reads 1 (pc' := 78) (lv' := [(2, .int q7.1), (0, .ref 3261)]) (st' := [.ref 3261]) rfl ?_
            obtain ⟨q11, hq11, hm⟩ := am_bE hm
            refine ms_callVv (M2 := mt_X9_entry) (d2 := 4) (ci := 7) [] (am_fd ck_X9_reads (pc := 78) rfl) ok_X9_entry tw_1149 tw_1151 ts_58 (by decide) kc_3261 (Nat.le_of_ble_eq_true rfl) (Nat.le_of_ble_eq_true rfl) (x_X9_entry hL hq11) ?_
            refine am_steps ck_X9_reads 2 (pc' := 29) (lv' := [(2, .int q7.1), (0, .ref 3261)]) (st' := []) rfl ?_
            refine am_subp [1] rfl ?_
            exact ih _ hm K
set_option maxRecDepth 100000 in
set_option maxHeartbeats 4000000 in
theorem x_X9_reads {G : am_G} {m : am_m} {r : am_rr} {res : am_m} (hL : am_Lay r) (hm : m_X9_reads m  = some res) : am_Met G mt_X9_reads 25 [.ref 3261] (am_hh m r) none (am_hh res r) := by
  refine am_of (by decide) (Nat.le_of_ble_eq_true rfl) ?_
  unfold m_X9_reads at hm
  show am_W G mt_X9_reads 25 _ _ 0 [(0, .ref 3261)] [] (am_hh m r)
  refine am_steps ck_X9_reads 3 (pc' := 3) (lv' := [(0, .ref 3261)]) (st' := [.int (am_i 0), .int (am_i 0), .ref 3261]) rfl ?_
  obtain ⟨q1, hq1, hm⟩ := am_bE hm
  refine ms_callV (M2 := mt_X9_number) (d2 := 3) (ci := 7) [.int (am_i 0), .int (am_i 0)] (am_fd ck_X9_reads (pc := 3) rfl) ok_X9_number tw_1125 tw_1127 ts_52 (by decide) kc_3261 (Nat.le_of_ble_eq_true rfl) (Nat.le_of_ble_eq_true rfl) (x_X9_number hL hq1) ?_
  refine am_steps ck_X9_reads 2 (pc' := 8) (lv' := [(1, .int q1.1), (0, .ref 3261)]) (st' := [.ref 3261]) rfl ?_
  refine ms_geti (ci := 7) (k := 13) (am_fd ck_X9_reads (pc := 8) rfl) tw_888 kc_3261 rfl ?_
  refine am_ifc (tgt := 29) (am_fd ck_X9_reads (pc := 11) rfl) rfl (fun hc2 => ?_) (fun hc2 => ?_)
  · replace hm := am_it hm hc2
    refine am_subp [1] rfl ?_
    refine x_X9_reads_29 hL am_F _ hm (fun m12 hm => ?_)
    refine am_steps ck_X9_reads 1 (pc' := 89) (lv' := [(0, .ref 3261)]) (st' := [.ref 3261]) rfl ?_
    refine ms_geti (ci := 7) (k := 13) (am_fd ck_X9_reads (pc := 89) rfl) tw_888 kc_3261 rfl ?_
    refine am_ifc (tgt := 115) (am_fd ck_X9_reads (pc := 92) rfl) rfl (fun hc13 => ?_) (fun hc13 => ?_)
    · replace hm := am_it hm hc13
      cases hm
      exact am_end (am_fd ck_X9_reads (pc := 115) rfl) am_rV rfl rfl
    · replace hm := am_if hm hc13
      refine am_steps ck_X9_reads 1 (pc' := 96) (lv' := [(0, .ref 3261)]) (st' := [.ref 3261]) rfl ?_
      refine ms_geti (ci := 7) (k := 10) (am_fd ck_X9_reads (pc := 96) rfl) tw_885 kc_3261 rfl ?_
      refine am_steps ck_X9_reads 1 (pc' := 100) (lv' := [(0, .ref 3261)]) (st' := [.ref 3261, .int (m12 3261 10)]) rfl ?_
      refine ms_geti (ci := 7) (k := 9) (am_fd ck_X9_reads (pc := 100) rfl) tw_884 kc_3261 rfl ?_
      refine am_icmp (tgt := 115) (am_fd ck_X9_reads (pc := 103) rfl) rfl (fun hc14 => ?_) (fun hc14 => ?_)
      · replace hm := am_it hm hc14
        cases hm
        exact am_end (am_fd ck_X9_reads (pc := 115) rfl) am_rV rfl rfl
      · replace hm := am_if hm hc14
        refine am_steps ck_X9_reads 3 (pc' := 109) (lv' := [(0, .ref 3261)]) (st' := [.ref 3261, .int (am_i 1), .ref 3261]) rfl ?_
        refine ms_geti (ci := 7) (k := 10) (am_fd ck_X9_reads (pc := 109) rfl) tw_885 kc_3261 rfl ?_
        obtain ⟨q15, hq15, hm⟩ := am_bE hm
        refine ms_callVv (M2 := mt_X9_wrong) (d2 := 1) (ci := 7) [.int (am_i 1), .int (m12 3261 10)] (am_fd ck_X9_reads (pc := 112) rfl) ok_X9_wrong tw_1137 tw_1139 ts_55 (by decide) kc_3261 (Nat.le_of_ble_eq_true rfl) (Nat.le_of_ble_eq_true rfl) (x_X9_wrong hL hq15) ?_
        cases hm
        exact am_end (am_fd ck_X9_reads (pc := 115) rfl) am_rV rfl rfl
  · replace hm := am_if hm hc2
    refine am_steps ck_X9_reads 2 (pc' := 17) (lv' := [(1, .int q1.1), (0, .ref 3261)]) (st' := [.int (am_i 40), .ref 3261]) rfl ?_
    obtain ⟨q16, hq16, hm⟩ := am_bE hm
    refine ms_callV (M2 := mt_X9_isNext) (d2 := 1) (ci := 7) [.int (am_i 40)] (am_fd ck_X9_reads (pc := 17) rfl) ok_X9_isNext tw_1133 tw_1135 ts_54 (by decide) kc_3261 (Nat.le_of_ble_eq_true rfl) (Nat.le_of_ble_eq_true rfl) (x_X9_isNext hL hq16) ?_
    refine am_ifc (tgt := 29) (am_fd ck_X9_reads (pc := 20) rfl) rfl (fun hc17 => ?_) (fun hc17 => ?_)
    · replace hm := am_it hm hc17
      refine am_subp [1] rfl ?_
      refine x_X9_reads_29 hL am_F _ hm (fun m18 hm => ?_)
      refine am_steps ck_X9_reads 1 (pc' := 89) (lv' := [(0, .ref 3261)]) (st' := [.ref 3261]) rfl ?_
      refine ms_geti (ci := 7) (k := 13) (am_fd ck_X9_reads (pc := 89) rfl) tw_888 kc_3261 rfl ?_
      refine am_ifc (tgt := 115) (am_fd ck_X9_reads (pc := 92) rfl) rfl (fun hc19 => ?_) (fun hc19 => ?_)
      · replace hm := am_it hm hc19
        cases hm
        exact am_end (am_fd ck_X9_reads (pc := 115) rfl) am_rV rfl rfl
      · replace hm := am_if hm hc19
        refine am_steps ck_X9_reads 1 (pc' := 96) (lv' := [(0, .ref 3261)]) (st' := [.ref 3261]) rfl ?_
        refine ms_geti (ci := 7) (k := 10) (am_fd ck_X9_reads (pc := 96) rfl) tw_885 kc_3261 rfl ?_
        refine am_steps ck_X9_reads 1 (pc' := 100) (lv' := [(0, .ref 3261)]) (st' := [.ref 3261, .int (m18 3261 10)]) rfl ?_
        refine ms_geti (ci := 7) (k := 9) (am_fd ck_X9_reads (pc := 100) rfl) tw_884 kc_3261 rfl ?_
        refine am_icmp (tgt := 115) (am_fd ck_X9_reads (pc := 103) rfl) rfl (fun hc20 => ?_) (fun hc20 => ?_)
        · replace hm := am_it hm hc20
          cases hm
          exact am_end (am_fd ck_X9_reads (pc := 115) rfl) am_rV rfl rfl
        · replace hm := am_if hm hc20
          refine am_steps ck_X9_reads 3 (pc' := 109) (lv' := [(0, .ref 3261)]) (st' := [.ref 3261, .int (am_i 1), .ref 3261]) rfl ?_
          refine ms_geti (ci := 7) (k := 10) (am_fd ck_X9_reads (pc := 109) rfl) tw_885 kc_3261 rfl ?_
          obtain ⟨q21, hq21, hm⟩ := am_bE hm
          refine ms_callVv (M2 := mt_X9_wrong) (d2 := 1) (ci := 7) [.int (am_i 1), .int (m18 3261 10)] (am_fd ck_X9_reads (pc := 112) rfl) ok_X9_wrong tw_1137 tw_1139 ts_55 (by decide) kc_3261 (Nat.le_of_ble_eq_true rfl) (Nat.le_of_ble_eq_true rfl) (x_X9_wrong hL hq21) ?_
          cases hm
          exact am_end (am_fd ck_X9_reads (pc := 115) rfl) am_rV rfl rfl
    · replace hm := am_if hm hc17
      refine am_steps ck_X9_reads 3 (pc' := 26) (lv' := [(1, .int q1.1), (0, .ref 3261)]) (st' := [.int (am_i 0), .int q1.1, .ref 3261]) rfl ?_
      obtain ⟨q22, hq22, hm⟩ := am_bE hm
      refine ms_callVv (M2 := mt_X9_unitsBelow) (d2 := 24) (ci := 7) [.int q1.1, .int (am_i 0)] (am_fd ck_X9_reads (pc := 26) rfl) ok_X9_unitsBelow tw_1141 tw_1143 ts_56 (by decide) kc_3261 (Nat.le_of_ble_eq_true rfl) (Nat.le_of_ble_eq_true rfl) (x_X9_unitsBelow 20 hL hq22) ?_
      refine am_subp [1] rfl ?_
      refine x_X9_reads_29 hL am_F _ hm (fun m23 hm => ?_)
      refine am_steps ck_X9_reads 1 (pc' := 89) (lv' := [(0, .ref 3261)]) (st' := [.ref 3261]) rfl ?_
      refine ms_geti (ci := 7) (k := 13) (am_fd ck_X9_reads (pc := 89) rfl) tw_888 kc_3261 rfl ?_
      refine am_ifc (tgt := 115) (am_fd ck_X9_reads (pc := 92) rfl) rfl (fun hc24 => ?_) (fun hc24 => ?_)
      · replace hm := am_it hm hc24
        cases hm
        exact am_end (am_fd ck_X9_reads (pc := 115) rfl) am_rV rfl rfl
      · replace hm := am_if hm hc24
        refine am_steps ck_X9_reads 1 (pc' := 96) (lv' := [(0, .ref 3261)]) (st' := [.ref 3261]) rfl ?_
        refine ms_geti (ci := 7) (k := 10) (am_fd ck_X9_reads (pc := 96) rfl) tw_885 kc_3261 rfl ?_
        refine am_steps ck_X9_reads 1 (pc' := 100) (lv' := [(0, .ref 3261)]) (st' := [.ref 3261, .int (m23 3261 10)]) rfl ?_
        refine ms_geti (ci := 7) (k := 9) (am_fd ck_X9_reads (pc := 100) rfl) tw_884 kc_3261 rfl ?_
        refine am_icmp (tgt := 115) (am_fd ck_X9_reads (pc := 103) rfl) rfl (fun hc25 => ?_) (fun hc25 => ?_)
        · replace hm := am_it hm hc25
          cases hm
          exact am_end (am_fd ck_X9_reads (pc := 115) rfl) am_rV rfl rfl
        · replace hm := am_if hm hc25
          refine am_steps ck_X9_reads 3 (pc' := 109) (lv' := [(0, .ref 3261)]) (st' := [.ref 3261, .int (am_i 1), .ref 3261]) rfl ?_
          refine ms_geti (ci := 7) (k := 10) (am_fd ck_X9_reads (pc := 109) rfl) tw_885 kc_3261 rfl ?_
          obtain ⟨q26, hq26, hm⟩ := am_bE hm
          refine ms_callVv (M2 := mt_X9_wrong) (d2 := 1) (ci := 7) [.int (am_i 1), .int (m23 3261 10)] (am_fd ck_X9_reads (pc := 112) rfl) ok_X9_wrong tw_1137 tw_1139 ts_55 (by decide) kc_3261 (Nat.le_of_ble_eq_true rfl) (Nat.le_of_ble_eq_true rfl) (x_X9_wrong hL hq26) ?_
          cases hm
          exact am_end (am_fd ck_X9_reads (pc := 115) rfl) am_rV rfl rfl
set_option maxRecDepth 100000 in
set_option maxHeartbeats 4000000 in
theorem x_X9_comesBack_2 {G : am_G} {r : am_rr} {res : am_m} {k : am_m → Option (am_m)} (hL : am_Lay r) : ∀ (n : Nat) (z1 : Int32) (m : am_m), m_X9_comesBack_2 k n z1 m = some res → (∀ (m1 : am_m), k m1 = some res → am_W G mt_X9_comesBack 1 none (am_hh res r) 27 [] [] (am_hh m1 r)) → am_W G mt_X9_comesBack 1 none (am_hh res r) 2 [(0, .ref 3261), (1, .int z1)] [] (am_hh m r) := by
  intro n
  induction n with
  | zero => intro z1 m hm K; cases hm
  | succ n ih =>
    intro z1 m hm K
    unfold m_X9_comesBack_2 at hm
    refine am_steps ck_X9_comesBack 2 (pc' := 6) (lv' := [(0, .ref 3261), (1, .int z1)]) (st' := [.int (am_i 15517), .int z1]) rfl ?_
    refine am_icmp (tgt := 27) (am_fd ck_X9_comesBack (pc := 6) rfl) rfl (fun hc1 => ?_) (fun hc1 => ?_)
    · replace hm := am_it hm hc1
      refine am_subp [] rfl ?_
      exact K _ hm
    · replace hm := am_if hm hc1
      refine am_steps ck_X9_comesBack 1 (pc' := 10) (lv' := [(0, .ref 3261), (1, .int z1)]) (st' := [.ref 3261]) rfl ?_
      refine ms_getr (ci := 7) (k := 0) (v := 3262) (am_fd ck_X9_comesBack (pc := 10) rfl) tw_875 kc_3261 rfl (ly_3261_0 hL) kc_3262 ?_
      refine am_steps ck_X9_comesBack 2 (pc' := 15) (lv' := [(0, .ref 3261), (1, .int z1)]) (st' := [.ref 3261, .int z1, .ref 3262]) rfl ?_
      refine ms_getr (ci := 7) (k := 1) (v := 3263) (am_fd ck_X9_comesBack (pc := 15) rfl) tw_876 kc_3261 rfl (ly_3261_1 hL) kc_3263 ?_
      refine am_steps ck_X9_comesBack 1 (pc' := 19) (lv' := [(0, .ref 3261), (1, .int z1)]) (st' := [.int z1, .ref 3263, .int z1, .ref 3262]) rfl ?_
      obtain ⟨hb2, hm⟩ := am_gE hm
      refine ms_iald (n := 15517) (am_fd ck_X9_comesBack (pc := 19) rfl) kc_3263 hb2 ?_
      obtain ⟨hb3, hm⟩ := am_gE hm
      refine ms_iast (n := 15517) (am_fd ck_X9_comesBack (pc := 20) rfl) kc_3262 hb3 (fun m4 em4 => ?_)
      replace hm := am_letE em4 hm
      refine am_steps ck_X9_comesBack 2 (pc' := 2) (lv' := [(1, .int (z1 + am_i 1)), (0, .ref 3261)]) (st' := []) rfl ?_
      refine am_subp [1, 0] rfl ?_
      exact ih _ _ hm K
set_option maxRecDepth 100000 in
set_option maxHeartbeats 4000000 in
theorem x_X9_comesBack {G : am_G} {m : am_m} {r : am_rr} {res : am_m} (hL : am_Lay r) (hm : m_X9_comesBack m  = some res) : am_Met G mt_X9_comesBack 1 [.ref 3261] (am_hh m r) none (am_hh res r) := by
  refine am_of (by decide) (Nat.le_of_ble_eq_true rfl) ?_
  unfold m_X9_comesBack at hm
  show am_W G mt_X9_comesBack 1 _ _ 0 [(0, .ref 3261)] [] (am_hh m r)
  refine am_steps ck_X9_comesBack 2 (pc' := 2) (lv' := [(1, .int (am_i 0)), (0, .ref 3261)]) (st' := []) rfl ?_
  refine am_subp [1, 0] rfl ?_
  refine x_X9_comesBack_2 hL am_F _ _ hm (fun m5 hm => ?_)
  cases hm
  exact am_end (am_fd ck_X9_comesBack (pc := 27) rfl) am_rV rfl rfl
set_option maxRecDepth 100000 in
set_option maxHeartbeats 4000000 in
theorem x_X9_keepsAside_53 {G : am_G} {r : am_rr} {res : am_m} {k : am_m → Option (am_m)} (hL : am_Lay r) : ∀ (n : Nat) (z1 : Int32) (m : am_m), m_X9_keepsAside_53 k n z1 m = some res → (∀ (m1 : am_m), k m1 = some res → am_W G mt_X9_keepsAside 1 none (am_hh res r) 87 [(0, .ref 3261)] [] (am_hh m1 r)) → am_W G mt_X9_keepsAside 1 none (am_hh res r) 53 [(0, .ref 3261), (1, .int z1)] [] (am_hh m r) := by
  intro n
  induction n with
  | zero => intro z1 m hm K; cases hm
  | succ n ih =>
    intro z1 m hm K
    unfold m_X9_keepsAside_53 at hm
    refine am_steps ck_X9_keepsAside 2 (pc' := 57) (lv' := [(0, .ref 3261), (1, .int z1)]) (st' := [.int (am_i 15456), .int z1]) rfl ?_
    refine am_icmp (tgt := 87) (am_fd ck_X9_keepsAside (pc := 57) rfl) rfl (fun hc2 => ?_) (fun hc2 => ?_)
    · replace hm := am_it hm hc2
      refine am_subp [0] rfl ?_
      exact K _ hm
    · replace hm := am_if hm hc2
      refine am_steps ck_X9_keepsAside 1 (pc' := 61) (lv' := [(0, .ref 3261), (1, .int z1)]) (st' := [.ref 3261]) rfl ?_
      refine ms_getr (ci := 7) (k := 3) (v := 3265) (am_fd ck_X9_keepsAside (pc := 61) rfl) tw_878 kc_3261 rfl (ly_3261_3 hL) kc_3265 ?_
      refine am_steps ck_X9_keepsAside 2 (pc' := 68) (lv' := [(0, .ref 3261), (1, .int z1)]) (st' := [.ref 3261, .int (am_i 15456), .ref 3265]) rfl ?_
      refine ms_geti (ci := 7) (k := 4) (am_fd ck_X9_keepsAside (pc := 68) rfl) tw_879 kc_3261 rfl ?_
      refine am_steps ck_X9_keepsAside 4 (pc' := 75) (lv' := [(0, .ref 3261), (1, .int z1)]) (st' := [.ref 3261, .int (((am_i 15456) * (m 3261 4)) + z1), .ref 3265]) rfl ?_
      refine ms_getr (ci := 7) (k := 1) (v := 3263) (am_fd ck_X9_keepsAside (pc := 75) rfl) tw_876 kc_3261 rfl (ly_3261_1 hL) kc_3263 ?_
      refine am_steps ck_X9_keepsAside 1 (pc' := 79) (lv' := [(0, .ref 3261), (1, .int z1)]) (st' := [.int z1, .ref 3263, .int (((am_i 15456) * (m 3261 4)) + z1), .ref 3265]) rfl ?_
      obtain ⟨hb3, hm⟩ := am_gE hm
      refine ms_iald (n := 15517) (am_fd ck_X9_keepsAside (pc := 79) rfl) kc_3263 hb3 ?_
      obtain ⟨hb4, hm⟩ := am_gE hm
      refine ms_iast (n := 154560) (am_fd ck_X9_keepsAside (pc := 80) rfl) kc_3265 hb4 (fun m5 em5 => ?_)
      replace hm := am_letE em5 hm
      refine am_steps ck_X9_keepsAside 2 (pc' := 53) (lv' := [(1, .int (z1 + am_i 1)), (0, .ref 3261)]) (st' := []) rfl ?_
      refine am_subp [1, 0] rfl ?_
      exact ih _ _ hm K
set_option maxRecDepth 100000 in
set_option maxHeartbeats 4000000 in
theorem x_X9_keepsAside_13 {G : am_G} {r : am_rr} {res : am_m} {k : am_m → Option (am_m)} (hL : am_Lay r) : ∀ (n : Nat) (z1 : Int32) (m : am_m), m_X9_keepsAside_13 k n z1 m = some res → (∀ (m1 : am_m), k m1 = some res → am_W G mt_X9_keepsAside 1 none (am_hh res r) 41 [(0, .ref 3261)] [] (am_hh m1 r)) → am_W G mt_X9_keepsAside 1 none (am_hh res r) 13 [(0, .ref 3261), (1, .int z1)] [] (am_hh m r) := by
  intro n
  induction n with
  | zero => intro z1 m hm K; cases hm
  | succ n ih =>
    intro z1 m hm K
    unfold m_X9_keepsAside_13 at hm
    refine am_steps ck_X9_keepsAside 1 (pc' := 14) (lv' := [(0, .ref 3261), (1, .int z1)]) (st' := [.int z1]) rfl ?_
    refine am_ldc (am_fd ck_X9_keepsAside (pc := 14) rfl) tw_874 ?_
    refine am_icmp (tgt := 41) (am_fd ck_X9_keepsAside (pc := 16) rfl) rfl (fun hc8 => ?_) (fun hc8 => ?_)
    · replace hm := am_it hm hc8
      refine am_subp [0] rfl ?_
      exact K _ hm
    · replace hm := am_if hm hc8
      refine am_steps ck_X9_keepsAside 1 (pc' := 20) (lv' := [(0, .ref 3261), (1, .int z1)]) (st' := [.ref 3261]) rfl ?_
      refine ms_getr (ci := 7) (k := 3) (v := 3265) (am_fd ck_X9_keepsAside (pc := 20) rfl) tw_878 kc_3261 rfl (ly_3261_3 hL) kc_3265 ?_
      refine am_steps ck_X9_keepsAside 4 (pc' := 29) (lv' := [(0, .ref 3261), (1, .int z1)]) (st' := [.ref 3261, .int (z1 - (am_i 15456)), .ref 3265]) rfl ?_
      refine ms_getr (ci := 7) (k := 3) (v := 3265) (am_fd ck_X9_keepsAside (pc := 29) rfl) tw_878 kc_3261 rfl (ly_3261_3 hL) kc_3265 ?_
      refine am_steps ck_X9_keepsAside 1 (pc' := 33) (lv' := [(0, .ref 3261), (1, .int z1)]) (st' := [.int z1, .ref 3265, .int (z1 - (am_i 15456)), .ref 3265]) rfl ?_
      obtain ⟨hb9, hm⟩ := am_gE hm
      refine ms_iald (n := 154560) (am_fd ck_X9_keepsAside (pc := 33) rfl) kc_3265 hb9 ?_
      obtain ⟨hb10, hm⟩ := am_gE hm
      refine ms_iast (n := 154560) (am_fd ck_X9_keepsAside (pc := 34) rfl) kc_3265 hb10 (fun m11 em11 => ?_)
      replace hm := am_letE em11 hm
      refine am_steps ck_X9_keepsAside 2 (pc' := 13) (lv' := [(1, .int (z1 + am_i 1)), (0, .ref 3261)]) (st' := []) rfl ?_
      refine am_subp [1, 0] rfl ?_
      exact ih _ _ hm K
set_option maxRecDepth 100000 in
set_option maxHeartbeats 4000000 in
theorem x_X9_keepsAside {G : am_G} {m : am_m} {r : am_rr} {res : am_m} (hL : am_Lay r) (hm : m_X9_keepsAside m  = some res) : am_Met G mt_X9_keepsAside 1 [.ref 3261] (am_hh m r) none (am_hh res r) := by
  refine am_of (by decide) (Nat.le_of_ble_eq_true rfl) ?_
  unfold m_X9_keepsAside at hm
  show am_W G mt_X9_keepsAside 1 _ _ 0 [(0, .ref 3261)] [] (am_hh m r)
  refine am_steps ck_X9_keepsAside 1 (pc' := 1) (lv' := [(0, .ref 3261)]) (st' := [.ref 3261]) rfl ?_
  refine ms_geti (ci := 7) (k := 4) (am_fd ck_X9_keepsAside (pc := 1) rfl) tw_879 kc_3261 rfl ?_
  refine am_steps ck_X9_keepsAside 1 (pc' := 6) (lv' := [(0, .ref 3261)]) (st' := [.int (am_i 10), .int (m 3261 4)]) rfl ?_
  refine am_icmp (tgt := 51) (am_fd ck_X9_keepsAside (pc := 6) rfl) rfl (fun hc1 => ?_) (fun hc1 => ?_)
  · replace hm := am_it hm hc1
    refine am_steps ck_X9_keepsAside 2 (pc' := 53) (lv' := [(1, .int (am_i 0)), (0, .ref 3261)]) (st' := []) rfl ?_
    refine am_subp [1, 0] rfl ?_
    refine x_X9_keepsAside_53 hL am_F _ _ hm (fun m6 hm => ?_)
    refine am_steps ck_X9_keepsAside 2 (pc' := 89) (lv' := [(0, .ref 3261)]) (st' := [.ref 3261, .ref 3261]) rfl ?_
    refine ms_geti (ci := 7) (k := 4) (am_fd ck_X9_keepsAside (pc := 89) rfl) tw_879 kc_3261 rfl ?_
    refine am_steps ck_X9_keepsAside 2 (pc' := 94) (lv' := [(0, .ref 3261)]) (st' := [.int ((m6 3261 4) + (am_i 1)), .ref 3261]) rfl ?_
    refine ms_puti (ci := 7) (k := 4) (am_fd ck_X9_keepsAside (pc := 94) rfl) tw_879 kc_3261 rfl rfl (fun m7 em7 => ?_)
    replace hm := am_letE em7 hm
    cases hm
    exact am_end (am_fd ck_X9_keepsAside (pc := 97) rfl) am_rV rfl rfl
  · replace hm := am_if hm hc1
    refine am_steps ck_X9_keepsAside 2 (pc' := 13) (lv' := [(1, .int (am_i 15456)), (0, .ref 3261)]) (st' := []) rfl ?_
    refine am_subp [1, 0] rfl ?_
    refine x_X9_keepsAside_13 hL am_F _ _ hm (fun m12 hm => ?_)
    refine am_steps ck_X9_keepsAside 2 (pc' := 43) (lv' := [(0, .ref 3261)]) (st' := [.ref 3261, .ref 3261]) rfl ?_
    refine ms_geti (ci := 7) (k := 4) (am_fd ck_X9_keepsAside (pc := 43) rfl) tw_879 kc_3261 rfl ?_
    refine am_steps ck_X9_keepsAside 2 (pc' := 48) (lv' := [(0, .ref 3261)]) (st' := [.int ((m12 3261 4) - (am_i 1)), .ref 3261]) rfl ?_
    refine ms_puti (ci := 7) (k := 4) (am_fd ck_X9_keepsAside (pc := 48) rfl) tw_879 kc_3261 rfl rfl (fun m13 em13 => ?_)
    replace hm := am_letE em13 hm
    refine am_steps ck_X9_keepsAside 2 (pc' := 53) (lv' := [(1, .int (am_i 0)), (0, .ref 3261)]) (st' := []) rfl ?_
    refine am_subp [1, 0] rfl ?_
    refine x_X9_keepsAside_53 hL am_F _ _ hm (fun m14 hm => ?_)
    refine am_steps ck_X9_keepsAside 2 (pc' := 89) (lv' := [(0, .ref 3261)]) (st' := [.ref 3261, .ref 3261]) rfl ?_
    refine ms_geti (ci := 7) (k := 4) (am_fd ck_X9_keepsAside (pc := 89) rfl) tw_879 kc_3261 rfl ?_
    refine am_steps ck_X9_keepsAside 2 (pc' := 94) (lv' := [(0, .ref 3261)]) (st' := [.int ((m14 3261 4) + (am_i 1)), .ref 3261]) rfl ?_
    refine ms_puti (ci := 7) (k := 4) (am_fd ck_X9_keepsAside (pc := 94) rfl) tw_879 kc_3261 rfl rfl (fun m15 em15 => ?_)
    replace hm := am_letE em15 hm
    cases hm
    exact am_end (am_fd ck_X9_keepsAside (pc := 97) rfl) am_rV rfl rfl
set_option maxRecDepth 100000 in
set_option maxHeartbeats 4000000 in
theorem x_X9_text_2 {G : am_G} {r : am_rr} {res : Int32 × am_m} {k : am_m → Option (Int32 × am_m)} (hL : am_Lay r) : ∀ (n : Nat) (z1 : Int32) (m : am_m), m_X9_text_2 k n z1 m = some res → (∀ (m1 : am_m), k m1 = some res → am_W G mt_X9_text 26 (some (.int res.1)) (am_hh res.2 r) 27 [(0, .ref 3261)] [] (am_hh m1 r)) → am_W G mt_X9_text 26 (some (.int res.1)) (am_hh res.2 r) 2 [(0, .ref 3261), (1, .int z1)] [] (am_hh m r) := by
  intro n
  induction n with
  | zero => intro z1 m hm K; cases hm
  | succ n ih =>
    intro z1 m hm K
    unfold m_X9_text_2 at hm
    refine am_steps ck_X9_text 2 (pc' := 6) (lv' := [(0, .ref 3261), (1, .int z1)]) (st' := [.int (am_i 15517), .int z1]) rfl ?_
    refine am_icmp (tgt := 27) (am_fd ck_X9_text (pc := 6) rfl) rfl (fun hc1 => ?_) (fun hc1 => ?_)
    · replace hm := am_it hm hc1
      refine am_subp [0] rfl ?_
      exact K _ hm
    · replace hm := am_if hm hc1
      refine am_steps ck_X9_text 1 (pc' := 10) (lv' := [(0, .ref 3261), (1, .int z1)]) (st' := [.ref 3261]) rfl ?_
      refine ms_getr (ci := 7) (k := 1) (v := 3263) (am_fd ck_X9_text (pc := 10) rfl) tw_876 kc_3261 rfl (ly_3261_1 hL) kc_3263 ?_
      refine am_steps ck_X9_text 2 (pc' := 15) (lv' := [(0, .ref 3261), (1, .int z1)]) (st' := [.ref 3261, .int z1, .ref 3263]) rfl ?_
      refine ms_getr (ci := 7) (k := 0) (v := 3262) (am_fd ck_X9_text (pc := 15) rfl) tw_875 kc_3261 rfl (ly_3261_0 hL) kc_3262 ?_
      refine am_steps ck_X9_text 1 (pc' := 19) (lv' := [(0, .ref 3261), (1, .int z1)]) (st' := [.int z1, .ref 3262, .int z1, .ref 3263]) rfl ?_
      obtain ⟨hb2, hm⟩ := am_gE hm
      refine ms_iald (n := 15517) (am_fd ck_X9_text (pc := 19) rfl) kc_3262 hb2 ?_
      obtain ⟨hb3, hm⟩ := am_gE hm
      refine ms_iast (n := 15517) (am_fd ck_X9_text (pc := 20) rfl) kc_3263 hb3 (fun m4 em4 => ?_)
      replace hm := am_letE em4 hm
      refine am_steps ck_X9_text 2 (pc' := 2) (lv' := [(1, .int (z1 + am_i 1)), (0, .ref 3261)]) (st' := []) rfl ?_
      refine am_subp [1, 0] rfl ?_
      exact ih _ _ hm K
set_option maxRecDepth 100000 in
set_option maxHeartbeats 4000000 in
theorem x_X9_text_29 {G : am_G} {r : am_rr} {res : Int32 × am_m} {k : am_m → Option (Int32 × am_m)} (hL : am_Lay r) : ∀ (n : Nat) (z1 : Int32) (m : am_m), m_X9_text_29 k n z1 m = some res → (∀ (m1 : am_m), k m1 = some res → am_W G mt_X9_text 26 (some (.int res.1)) (am_hh res.2 r) 49 [(0, .ref 3261)] [] (am_hh m1 r)) → am_W G mt_X9_text 26 (some (.int res.1)) (am_hh res.2 r) 29 [(0, .ref 3261), (1, .int z1)] [] (am_hh m r) := by
  intro n
  induction n with
  | zero => intro z1 m hm K; cases hm
  | succ n ih =>
    intro z1 m hm K
    unfold m_X9_text_29 at hm
    refine am_steps ck_X9_text 2 (pc' := 33) (lv' := [(0, .ref 3261), (1, .int z1)]) (st' := [.int (am_i 15456), .int z1]) rfl ?_
    refine am_icmp (tgt := 49) (am_fd ck_X9_text (pc := 33) rfl) rfl (fun hc6 => ?_) (fun hc6 => ?_)
    · replace hm := am_it hm hc6
      refine am_subp [0] rfl ?_
      exact K _ hm
    · replace hm := am_if hm hc6
      refine am_steps ck_X9_text 1 (pc' := 37) (lv' := [(0, .ref 3261), (1, .int z1)]) (st' := [.ref 3261]) rfl ?_
      refine ms_getr (ci := 7) (k := 0) (v := 3262) (am_fd ck_X9_text (pc := 37) rfl) tw_875 kc_3261 rfl (ly_3261_0 hL) kc_3262 ?_
      refine am_steps ck_X9_text 2 (pc' := 42) (lv' := [(0, .ref 3261), (1, .int z1)]) (st' := [.int (am_i 0), .int z1, .ref 3262]) rfl ?_
      obtain ⟨hb7, hm⟩ := am_gE hm
      refine ms_iast (n := 15517) (am_fd ck_X9_text (pc := 42) rfl) kc_3262 hb7 (fun m8 em8 => ?_)
      replace hm := am_letE em8 hm
      refine am_steps ck_X9_text 2 (pc' := 29) (lv' := [(1, .int (z1 + am_i 1)), (0, .ref 3261)]) (st' := []) rfl ?_
      refine am_subp [1, 0] rfl ?_
      exact ih _ _ hm K
set_option maxRecDepth 100000 in
set_option maxHeartbeats 4000000 in
theorem x_X9_text_110 {G : am_G} {r : am_rr} {res : Int32 × am_m} {k : Int32 → am_m → Option (Int32 × am_m)} (hL : am_Lay r) : ∀ (n : Nat) (z1 : Int32) (z2 : Int32) (m : am_m), m_X9_text_110 k n z1 z2 m = some res → (∀ (u1 : Int32) (m1 : am_m), k u1 m1 = some res → am_W G mt_X9_text 26 (some (.int res.1)) (am_hh res.2 r) 150 [(0, .ref 3261), (1, .int u1)] [] (am_hh m1 r)) → am_W G mt_X9_text 26 (some (.int res.1)) (am_hh res.2 r) 110 [(0, .ref 3261), (1, .int z1), (2, .int z2)] [] (am_hh m r) := by
  intro n
  induction n with
  | zero => intro z1 z2 m hm K; cases hm
  | succ n ih =>
    intro z1 z2 m hm K
    unfold m_X9_text_110 at hm
    refine am_steps ck_X9_text 2 (pc' := 113) (lv' := [(0, .ref 3261), (1, .int z1), (2, .int z2)]) (st' := [.int (am_i 24), .int z2]) rfl ?_
    refine am_icmp (tgt := 150) (am_fd ck_X9_text (pc := 113) rfl) rfl (fun hc21 => ?_) (fun hc21 => ?_)
    · replace hm := am_it hm hc21
      refine am_subp [0, 1] rfl ?_
      exact K _ _ hm
    · replace hm := am_if hm hc21
      refine am_steps ck_X9_text 1 (pc' := 117) (lv' := [(0, .ref 3261), (1, .int z1), (2, .int z2)]) (st' := [.ref 3261]) rfl ?_
      refine ms_getr (ci := 7) (k := 0) (v := 3262) (am_fd ck_X9_text (pc := 117) rfl) tw_875 kc_3261 rfl (ly_3261_0 hL) kc_3262 ?_
      refine am_steps ck_X9_text 4 (pc' := 125) (lv' := [(0, .ref 3261), (1, .int z1), (2, .int z2)]) (st' := [.ref 3261, .int ((am_i 48) + z2), .ref 3262]) rfl ?_
      refine ms_getr (ci := 7) (k := 0) (v := 3262) (am_fd ck_X9_text (pc := 125) rfl) tw_875 kc_3261 rfl (ly_3261_0 hL) kc_3262 ?_
      refine am_steps ck_X9_text 3 (pc' := 131) (lv' := [(0, .ref 3261), (1, .int z1), (2, .int z2)]) (st' := [.int ((am_i 0) + z2), .ref 3262, .int ((am_i 48) + z2), .ref 3262]) rfl ?_
      obtain ⟨hb22, hm⟩ := am_gE hm
      refine ms_iald (n := 15517) (am_fd ck_X9_text (pc := 131) rfl) kc_3262 hb22 ?_
      obtain ⟨hb23, hm⟩ := am_gE hm
      refine ms_iast (n := 15517) (am_fd ck_X9_text (pc := 132) rfl) kc_3262 hb23 (fun m24 em24 => ?_)
      replace hm := am_letE em24 hm
      refine am_steps ck_X9_text 2 (pc' := 135) (lv' := [(0, .ref 3261), (1, .int z1), (2, .int z2)]) (st' := [.ref 3261, .int z1]) rfl ?_
      refine ms_getr (ci := 7) (k := 0) (v := 3262) (am_fd ck_X9_text (pc := 135) rfl) tw_875 kc_3261 rfl (ly_3261_0 hL) kc_3262 ?_
      refine am_steps ck_X9_text 3 (pc' := 141) (lv' := [(0, .ref 3261), (1, .int z1), (2, .int z2)]) (st' := [.int ((am_i 0) + z2), .ref 3262, .int z1]) rfl ?_
      obtain ⟨hb25, hm⟩ := am_gE hm
      refine ms_iald (n := 15517) (am_fd ck_X9_text (pc := 141) rfl) kc_3262 hb25 ?_
      refine am_steps ck_X9_text 4 (pc' := 110) (lv' := [(2, .int (z2 + am_i 1)), (1, .int (z1 + (m24 3262 (am_ix ((am_i 0) + z2))))), (0, .ref 3261)]) (st' := []) rfl ?_
      refine am_subp [2, 1, 0] rfl ?_
      exact ih _ _ _ hm K
set_option maxRecDepth 100000 in
set_option maxHeartbeats 4000000 in
theorem x_X9_text {G : am_G} {m : am_m} {r : am_rr} {res : Int32 × am_m} (hL : am_Lay r) (hm : m_X9_text m  = some res) : am_Met G mt_X9_text 26 [.ref 3261] (am_hh m r) (some (.int res.1)) (am_hh res.2 r) := by
  refine am_of (by decide) (Nat.le_of_ble_eq_true rfl) ?_
  unfold m_X9_text at hm
  show am_W G mt_X9_text 26 _ _ 0 [(0, .ref 3261)] [] (am_hh m r)
  refine am_steps ck_X9_text 2 (pc' := 2) (lv' := [(1, .int (am_i 0)), (0, .ref 3261)]) (st' := []) rfl ?_
  refine am_subp [1, 0] rfl ?_
  refine x_X9_text_2 hL am_F _ _ hm (fun m5 hm => ?_)
  refine am_steps ck_X9_text 2 (pc' := 29) (lv' := [(1, .int (am_i 0)), (0, .ref 3261)]) (st' := []) rfl ?_
  refine am_subp [1, 0] rfl ?_
  refine x_X9_text_29 hL am_F _ _ hm (fun m9 hm => ?_)
  refine am_steps ck_X9_text 1 (pc' := 50) (lv' := [(0, .ref 3261)]) (st' := [.ref 3261]) rfl ?_
  refine ms_getr (ci := 7) (k := 0) (v := 3262) (am_fd ck_X9_text (pc := 50) rfl) tw_875 kc_3261 rfl (ly_3261_0 hL) kc_3262 ?_
  refine am_steps ck_X9_text 2 (pc' := 55) (lv' := [(0, .ref 3261)]) (st' := [.int (am_i 1), .int (am_i 0), .ref 3262]) rfl ?_
  obtain ⟨hb10, hm⟩ := am_gE hm
  refine ms_iast (n := 15517) (am_fd ck_X9_text (pc := 55) rfl) kc_3262 hb10 (fun m11 em11 => ?_)
  replace hm := am_letE em11 hm
  refine am_steps ck_X9_text 1 (pc' := 57) (lv' := [(0, .ref 3261)]) (st' := [.ref 3261]) rfl ?_
  refine ms_getr (ci := 7) (k := 0) (v := 3262) (am_fd ck_X9_text (pc := 57) rfl) tw_875 kc_3261 rfl (ly_3261_0 hL) kc_3262 ?_
  refine am_steps ck_X9_text 2 (pc' := 63) (lv' := [(0, .ref 3261)]) (st' := [.int (am_i (-1)), .int (am_i 24), .ref 3262]) rfl ?_
  obtain ⟨hb12, hm⟩ := am_gE hm
  refine ms_iast (n := 15517) (am_fd ck_X9_text (pc := 63) rfl) kc_3262 hb12 (fun m13 em13 => ?_)
  replace hm := am_letE em13 hm
  refine am_steps ck_X9_text 2 (pc' := 66) (lv' := [(0, .ref 3261)]) (st' := [.int (am_i 0), .ref 3261]) rfl ?_
  refine ms_putz (ci := 7) (k := 13) (am_fd ck_X9_text (pc := 66) rfl) tw_888 kc_3261 rfl rfl (Or.inl am_i0) (fun m14 em14 => ?_)
  replace hm := am_letE em14 hm
  refine am_steps ck_X9_text 2 (pc' := 71) (lv' := [(0, .ref 3261)]) (st' := [.int (am_i 0), .ref 3261]) rfl ?_
  refine ms_puti (ci := 7) (k := 11) (am_fd ck_X9_text (pc := 71) rfl) tw_886 kc_3261 rfl rfl (fun m15 em15 => ?_)
  replace hm := am_letE em15 hm
  refine am_steps ck_X9_text 2 (pc' := 76) (lv' := [(0, .ref 3261)]) (st' := [.int (am_i (-1)), .ref 3261]) rfl ?_
  refine ms_puti (ci := 7) (k := 12) (am_fd ck_X9_text (pc := 76) rfl) tw_887 kc_3261 rfl rfl (fun m16 em16 => ?_)
  replace hm := am_letE em16 hm
  refine am_steps ck_X9_text 2 (pc' := 81) (lv' := [(0, .ref 3261)]) (st' := [.int (am_i 0), .ref 3261]) rfl ?_
  refine ms_puti (ci := 7) (k := 10) (am_fd ck_X9_text (pc := 81) rfl) tw_885 kc_3261 rfl rfl (fun m17 em17 => ?_)
  replace hm := am_letE em17 hm
  refine am_steps ck_X9_text 1 (pc' := 85) (lv' := [(0, .ref 3261)]) (st' := [.ref 3261]) rfl ?_
  obtain ⟨q18, hq18, hm⟩ := am_bE hm
  refine ms_callVv (M2 := mt_X9_reads) (d2 := 25) (ci := 7) [] (am_fd ck_X9_text (pc := 85) rfl) ok_X9_reads tw_1121 tw_1123 ts_51 (by decide) kc_3261 (Nat.le_of_ble_eq_true rfl) (Nat.le_of_ble_eq_true rfl) (x_X9_reads hL hq18) ?_
  refine am_steps ck_X9_text 2 (pc' := 90) (lv' := [(0, .ref 3261)]) (st' := [.int (am_i 0), .ref 3261]) rfl ?_
  refine ms_puti (ci := 7) (k := 9) (am_fd ck_X9_text (pc := 90) rfl) tw_884 kc_3261 rfl rfl (fun m19 em19 => ?_)
  replace hm := am_letE em19 hm
  refine am_steps ck_X9_text 1 (pc' := 94) (lv' := [(0, .ref 3261)]) (st' := [.ref 3261]) rfl ?_
  refine ms_geti (ci := 7) (k := 13) (am_fd ck_X9_text (pc := 94) rfl) tw_888 kc_3261 rfl ?_
  refine am_ifc (tgt := 106) (am_fd ck_X9_text (pc := 97) rfl) rfl (fun hc20 => ?_) (fun hc20 => ?_)
  · replace hm := am_it hm hc20
    refine am_steps ck_X9_text 4 (pc' := 110) (lv' := [(2, .int (am_i 0)), (1, .int (am_i 0)), (0, .ref 3261)]) (st' := []) rfl ?_
    refine am_subp [2, 1, 0] rfl ?_
    refine x_X9_text_110 hL am_F _ _ _ hm (fun u26 m27 hm => ?_)
    refine am_steps ck_X9_text 1 (pc' := 151) (lv' := [(0, .ref 3261), (1, .int u26)]) (st' := [.ref 3261]) rfl ?_
    obtain ⟨q28, hq28, hm⟩ := am_bE hm
    refine ms_callVv (M2 := mt_X9_keepsAside) (d2 := 1) (ci := 7) [] (am_fd ck_X9_text (pc := 151) rfl) ok_X9_keepsAside tw_1157 tw_1159 ts_60 (by decide) kc_3261 (Nat.le_of_ble_eq_true rfl) (Nat.le_of_ble_eq_true rfl) (x_X9_keepsAside hL hq28) ?_
    refine am_steps ck_X9_text 1 (pc' := 155) (lv' := [(0, .ref 3261), (1, .int u26)]) (st' := [.int u26]) rfl ?_
    cases hm
    exact am_end (am_fd ck_X9_text (pc := 155) rfl) am_rI rfl rfl
  · replace hm := am_if hm hc20
    refine am_steps ck_X9_text 1 (pc' := 101) (lv' := [(0, .ref 3261)]) (st' := [.ref 3261]) rfl ?_
    obtain ⟨q29, hq29, hm⟩ := am_bE hm
    refine ms_callVv (M2 := mt_X9_comesBack) (d2 := 1) (ci := 7) [] (am_fd ck_X9_text (pc := 101) rfl) ok_X9_comesBack tw_1153 tw_1155 ts_59 (by decide) kc_3261 (Nat.le_of_ble_eq_true rfl) (Nat.le_of_ble_eq_true rfl) (x_X9_comesBack hL hq29) ?_
    refine am_steps ck_X9_text 1 (pc' := 105) (lv' := [(0, .ref 3261)]) (st' := [.int (am_i (-1))]) rfl ?_
    cases hm
    exact am_end (am_fd ck_X9_text (pc := 105) rfl) am_rI rfl rfl
set_option maxRecDepth 100000 in
set_option maxHeartbeats 4000000 in
theorem x_X9_positive_4 {G : am_G} {a1 : Nat} {m : am_m} {r : am_rr} {res : Int32} {k : Int32 → Option (Int32)} (hL : am_Lay r) (ha1 : am_k a1 11 64) : ∀ (n : Nat) (z2 : Int32) (z3 : Int32), m_X9_positive_4 a1 m k n z2 z3 = some res → (∀ (u2 : Int32), k u2 = some res → am_W G mt_X9_positive 1 (some (.int res)) (am_hh m r) 30 [(2, .int u2)] [] (am_hh m r)) → am_W G mt_X9_positive 1 (some (.int res)) (am_hh m r) 4 [(1, .ref a1), (2, .int z2), (3, .int z3)] [] (am_hh m r) := by
  intro n
  induction n with
  | zero => intro z2 z3 hm K; cases hm
  | succ n ih =>
    intro z2 z3 hm K
    unfold m_X9_positive_4 at hm
    refine am_steps ck_X9_positive 2 (pc' := 7) (lv' := [(1, .ref a1), (2, .int z2), (3, .int z3)]) (st' := [.int (am_i 64), .int z3]) rfl ?_
    refine am_icmp (tgt := 30) (am_fd ck_X9_positive (pc := 7) rfl) rfl (fun hc1 => ?_) (fun hc1 => ?_)
    · replace hm := am_it hm hc1
      refine am_subp [1] rfl ?_
      exact K _ hm
    · replace hm := am_if hm hc1
      refine am_steps ck_X9_positive 3 (pc' := 13) (lv' := [(1, .ref a1), (2, .int z2), (3, .int z3)]) (st' := [.int z3, .ref a1, .int z2]) rfl ?_
      obtain ⟨hb2, hm⟩ := am_gE hm
      refine ms_iald (n := 64) (am_fd ck_X9_positive (pc := 13) rfl) ha1 hb2 ?_
      refine am_ifc (tgt := 21) (am_fd ck_X9_positive (pc := 14) rfl) rfl (fun hc3 => ?_) (fun hc3 => ?_)
      · replace hm := am_it hm hc3
        refine am_steps ck_X9_positive 5 (pc' := 4) (lv' := [(3, .int (z3 + am_i 1)), (2, .int (z2 + (am_i 0))), (1, .ref a1)]) (st' := []) rfl ?_
        refine am_subp [2, 1, 0] rfl ?_
        exact ih _ _ hm K
      · replace hm := am_if hm hc3
        refine am_steps ck_X9_positive 6 (pc' := 4) (lv' := [(3, .int (z3 + am_i 1)), (2, .int (z2 + (am_i 1))), (1, .ref a1)]) (st' := []) rfl ?_
        refine am_subp [2, 1, 0] rfl ?_
        exact ih _ _ hm K
set_option maxRecDepth 100000 in
set_option maxHeartbeats 4000000 in
theorem x_X9_positive {G : am_G} {m : am_m} {r : am_rr} {a1 : Nat} {res : Int32} (hL : am_Lay r) (ha1 : am_k a1 11 64) (hm : m_X9_positive m a1 = some res) : am_Met G mt_X9_positive 1 [.ref 3261, .ref a1] (am_hh m r) (some (.int res)) (am_hh m r) := by
  refine am_of (by decide) (Nat.le_of_ble_eq_true rfl) ?_
  unfold m_X9_positive at hm
  show am_W G mt_X9_positive 1 _ _ 0 [(0, .ref 3261), (1, .ref a1)] [] (am_hh m r)
  refine am_steps ck_X9_positive 4 (pc' := 4) (lv' := [(3, .int (am_i 0)), (2, .int (am_i 0)), (0, .ref 3261), (1, .ref a1)]) (st' := []) rfl ?_
  refine am_subp [3, 1, 0] rfl ?_
  refine x_X9_positive_4 hL ha1 am_F _ _ hm (fun u4 hm => ?_)
  refine am_steps ck_X9_positive 1 (pc' := 31) (lv' := [(2, .int u4)]) (st' := [.int u4]) rfl ?_
  cases hm
  exact am_end (am_fd ck_X9_positive (pc := 31) rfl) am_rI rfl rfl
set_option maxRecDepth 100000 in
set_option maxHeartbeats 4000000 in
theorem x_X9_isRight_11 {G : am_G} {x1 : Int32} {m : am_m} {r : am_rr} {y1 : Int32} {res : Int32 × am_m} {k : Option (Int32 × am_m)} (hL : am_Lay r) : ∀ (n : Nat) (z2 : Int32), m_X9_isRight_11 x1 m y1 k n z2 = some res → (k = some res → am_W G mt_X9_isRight 4 (some (.int res.1)) (am_hh res.2 r) 45 [] [] (am_hh m r)) → am_W G mt_X9_isRight 4 (some (.int res.1)) (am_hh res.2 r) 11 [(0, .ref 3261), (1, .int y1), (2, .int z2)] [] (am_hh m r) := by
  intro n
  induction n with
  | zero => intro z2 hm K; cases hm
  | succ n ih =>
    intro z2 hm K
    unfold m_X9_isRight_11 at hm
    refine am_steps ck_X9_isRight 2 (pc' := 14) (lv' := [(0, .ref 3261), (1, .int y1), (2, .int z2)]) (st' := [.int (am_i 64), .int z2]) rfl ?_
    refine am_icmp (tgt := 45) (am_fd ck_X9_isRight (pc := 14) rfl) rfl (fun hc2 => ?_) (fun hc2 => ?_)
    · replace hm := am_it hm hc2
      refine am_subp [] rfl ?_
      exact K hm
    · replace hm := am_if hm hc2
      refine am_steps ck_X9_isRight 1 (pc' := 18) (lv' := [(0, .ref 3261), (1, .int y1), (2, .int z2)]) (st' := [.ref 3261]) rfl ?_
      refine ms_getr (ci := 7) (k := 6) (v := 3266) (am_fd ck_X9_isRight (pc := 18) rfl) tw_881 kc_3261 rfl (ly_3261_6 hL) kc_3266 ?_
      refine am_steps ck_X9_isRight 1 (pc' := 22) (lv' := [(0, .ref 3261), (1, .int y1), (2, .int z2)]) (st' := [.int z2, .ref 3266]) rfl ?_
      obtain ⟨hb3, hm⟩ := am_gE hm
      refine ms_iald (n := 64) (am_fd ck_X9_isRight (pc := 22) rfl) kc_3266 hb3 ?_
      refine am_steps ck_X9_isRight 1 (pc' := 24) (lv' := [(0, .ref 3261), (1, .int y1), (2, .int z2)]) (st' := [.ref 3261, .int (m 3266 (am_ix z2))]) rfl ?_
      refine ms_getr (ci := 7) (k := 0) (v := 3262) (am_fd ck_X9_isRight (pc := 24) rfl) tw_875 kc_3261 rfl (ly_3261_0 hL) kc_3262 ?_
      refine am_steps ck_X9_isRight 1 (pc' := 28) (lv' := [(0, .ref 3261), (1, .int y1), (2, .int z2)]) (st' := [.int y1, .ref 3262, .int (m 3266 (am_ix z2))]) rfl ?_
      obtain ⟨q4, hq4, hm⟩ := am_bE hm
      refine ms_callS (M2 := mt_X9_sumAt) (d2 := 1) [.int y1] (am_fd ck_X9_isRight (pc := 28) rfl) ok_X9_sumAt tw_982 tw_983 (Nat.le_of_ble_eq_true rfl) (Nat.le_of_ble_eq_true rfl) (x_X9_sumAt hL hq4) ?_
      refine am_steps ck_X9_isRight 2 (pc' := 33) (lv' := [(0, .ref 3261), (1, .int y1), (2, .int z2)]) (st' := [.int (q4 + z2), .ref 3262, .int (m 3266 (am_ix z2))]) rfl ?_
      obtain ⟨hb5, hm⟩ := am_gE hm
      refine ms_iald (n := 15517) (am_fd ck_X9_isRight (pc := 33) rfl) kc_3262 hb5 ?_
      refine am_icmp (tgt := 39) (am_fd ck_X9_isRight (pc := 34) rfl) rfl (fun hc6 => ?_) (fun hc6 => ?_)
      · replace hm := am_it hm hc6
        refine am_steps ck_X9_isRight 2 (pc' := 11) (lv' := [(2, .int (z2 + am_i 1)), (0, .ref 3261), (1, .int y1)]) (st' := []) rfl ?_
        refine am_subp [1, 2, 0] rfl ?_
        exact ih _ hm K
      · replace hm := am_if hm hc6
        refine am_steps ck_X9_isRight 1 (pc' := 38) (lv' := [(0, .ref 3261), (1, .int y1), (2, .int z2)]) (st' := [.int (am_i 0)]) rfl ?_
        cases hm
        exact am_end (am_fd ck_X9_isRight (pc := 38) rfl) am_rZ0 rfl rfl
set_option maxRecDepth 100000 in
set_option maxHeartbeats 4000000 in
theorem x_X9_isRight {G : am_G} {m : am_m} {r : am_rr} {x1 : Int32} {res : Int32 × am_m} (hL : am_Lay r) (hm : m_X9_isRight m x1 = some res) : am_Met G mt_X9_isRight 4 [.ref 3261, .int x1] (am_hh m r) (some (.int res.1)) (am_hh res.2 r) := by
  refine am_of (by decide) (Nat.le_of_ble_eq_true rfl) ?_
  unfold m_X9_isRight at hm
  show am_W G mt_X9_isRight 4 _ _ 0 [(0, .ref 3261), (1, .int x1)] [] (am_hh m r)
  refine am_steps ck_X9_isRight 3 (pc' := 3) (lv' := [(0, .ref 3261), (1, .int x1)]) (st' := [.ref 3261, .int x1, .ref 3261]) rfl ?_
  refine ms_getr (ci := 7) (k := 6) (v := 3266) (am_fd ck_X9_isRight (pc := 3) rfl) tw_881 kc_3261 rfl (ly_3261_6 hL) kc_3266 ?_
  obtain ⟨q1, hq1, hm⟩ := am_bE hm
  refine ms_callVv (M2 := mt_X9_laysBranch) (d2 := 3) (ci := 7) [.int x1, .ref 3266] (am_fd ck_X9_isRight (pc := 6) rfl) ok_X9_laysBranch tw_1169 tw_1171 ts_62 (by decide) kc_3261 (Nat.le_of_ble_eq_true rfl) (Nat.le_of_ble_eq_true rfl) (x_X9_laysBranch hL kc_3266 hq1) ?_
  refine am_steps ck_X9_isRight 2 (pc' := 11) (lv' := [(2, .int (am_i 0)), (0, .ref 3261), (1, .int x1)]) (st' := []) rfl ?_
  refine am_subp [1, 2, 0] rfl ?_
  refine x_X9_isRight_11 hL am_F _ hm (fun hm => ?_)
  refine am_steps ck_X9_isRight 1 (pc' := 46) (lv' := []) (st' := [.int (am_i 1)]) rfl ?_
  cases hm
  exact am_end (am_fd ck_X9_isRight (pc := 46) rfl) am_rZ1 rfl rfl
theorem sw_X9_unit_35 : decode mt_X9_unit.2.1 35 = .ok (.tableswitch 171 0 11 #[61, 71, 77, 83, 89, 99, 113, 121, 129, 137, 145, 154], 61) := by decide +kernel
set_option maxRecDepth 100000 in
set_option maxHeartbeats 4000000 in
theorem x_X9_unit {G : am_G} {m : am_m} {r : am_rr} {x1 : Int32} {x2 : Int32} {res : Int32 × am_m} (hL : am_Lay r) (hm : m_X9_unit m x1 x2 = some res) : am_Met G mt_X9_unit 5 [.ref 3261, .int x1, .int x2] (am_hh m r) (some (.int res.1)) (am_hh res.2 r) := by
  refine am_of (by decide) (Nat.le_of_ble_eq_true rfl) ?_
  unfold m_X9_unit at hm
  show am_W G mt_X9_unit 5 _ _ 0 [(0, .ref 3261), (1, .int x1), (2, .int x2)] [] (am_hh m r)
  refine am_steps ck_X9_unit 2 (pc' := 2) (lv' := [(0, .ref 3261), (1, .int x1), (2, .int x2)]) (st' := [.int x1, .ref 3261]) rfl ?_
  obtain ⟨q1, hq1, hm⟩ := am_bE hm
  refine ms_callV (M2 := mt_X9_isUnit) (d2 := 2) (ci := 7) [.int x1] (am_fd ck_X9_unit (pc := 2) rfl) ok_X9_isUnit tw_949 tw_951 ts_28 (by decide) kc_3261 (Nat.le_of_ble_eq_true rfl) (Nat.le_of_ble_eq_true rfl) (x_X9_isUnit hL hq1) ?_
  refine am_ifc (tgt := 10) (am_fd ck_X9_unit (pc := 5) rfl) rfl (fun hc2 => ?_) (fun hc2 => ?_)
  · replace hm := am_it hm hc2
    refine am_steps ck_X9_unit 2 (pc' := 12) (lv' := [(0, .ref 3261), (1, .int x1), (2, .int x2)]) (st' := [.int x1, .ref 3261]) rfl ?_
    obtain ⟨q3, hq3, hm⟩ := am_bE hm
    refine ms_callS (M2 := mt_X9_sumAt) (d2 := 1) [.int x1] (am_fd ck_X9_unit (pc := 12) rfl) ok_X9_sumAt tw_982 tw_983 (Nat.le_of_ble_eq_true rfl) (Nat.le_of_ble_eq_true rfl) (x_X9_sumAt hL hq3) ?_
    refine am_steps ck_X9_unit 1 (pc' := 16) (lv' := [(0, .ref 3261), (1, .int x1), (2, .int x2)]) (st' := [.ref 3261, .int q3, .ref 3261]) rfl ?_
    refine ms_getr (ci := 7) (k := 6) (v := 3266) (am_fd ck_X9_unit (pc := 16) rfl) tw_881 kc_3261 rfl (ly_3261_6 hL) kc_3266 ?_
    obtain ⟨q4, hq4, hm⟩ := am_bE hm
    refine ms_callVv (M2 := mt_X9_lays) (d2 := 1) (ci := 7) [.int q3, .ref 3266] (am_fd ck_X9_unit (pc := 19) rfl) ok_X9_lays tw_1001 tw_1003 ts_36 (by decide) kc_3261 (Nat.le_of_ble_eq_true rfl) (Nat.le_of_ble_eq_true rfl) (x_X9_lays hL kc_3266 hq4) ?_
    refine am_steps ck_X9_unit 2 (pc' := 24) (lv' := [(0, .ref 3261), (1, .int x1), (2, .int x2)]) (st' := [.int x1, .ref 3261]) rfl ?_
    obtain ⟨q5, hq5, hm⟩ := am_bE hm
    refine ms_callS (M2 := mt_X9_ownAt) (d2 := 1) [.int x1] (am_fd ck_X9_unit (pc := 24) rfl) ok_X9_ownAt tw_959 tw_960 (Nat.le_of_ble_eq_true rfl) (Nat.le_of_ble_eq_true rfl) (x_X9_ownAt hL hq5) ?_
    refine am_steps ck_X9_unit 1 (pc' := 28) (lv' := [(0, .ref 3261), (1, .int x1), (2, .int x2)]) (st' := [.ref 3261, .int q5, .ref 3261]) rfl ?_
    refine ms_getr (ci := 7) (k := 7) (v := 3267) (am_fd ck_X9_unit (pc := 28) rfl) tw_882 kc_3261 rfl (ly_3261_7 hL) kc_3267 ?_
    obtain ⟨q6, hq6, hm⟩ := am_bE hm
    refine ms_callVv (M2 := mt_X9_lays) (d2 := 1) (ci := 7) [.int q5, .ref 3267] (am_fd ck_X9_unit (pc := 31) rfl) ok_X9_lays tw_1001 tw_1003 ts_36 (by decide) kc_3261 (Nat.le_of_ble_eq_true rfl) (Nat.le_of_ble_eq_true rfl) (x_X9_lays hL kc_3267 hq6) ?_
    refine am_steps ck_X9_unit 1 (pc' := 35) (lv' := [(0, .ref 3261), (1, .int x1), (2, .int x2)]) (st' := [.int x2]) rfl ?_
    by_cases hs8 : x2 = am_i 0
    · replace hm := am_it hm hs8
      refine ms_sw (v := 0) (off := 61) (tgt := 96) sw_X9_unit_35 hs8 (by decide) (by decide) (by decide) rfl rfl ?_
      refine am_steps ck_X9_unit 1 (pc' := 97) (lv' := [(0, .ref 3261), (1, .int x1), (2, .int x2)]) (st' := [.ref 3261]) rfl ?_
      refine ms_getr (ci := 7) (k := 0) (v := 3262) (am_fd ck_X9_unit (pc := 97) rfl) tw_875 kc_3261 rfl (ly_3261_0 hL) kc_3262 ?_
      refine am_steps ck_X9_unit 3 (pc' := 104) (lv' := [(0, .ref 3261), (1, .int x1), (2, .int x2)]) (st' := [.int ((am_i 24) + x1), .ref 3262]) rfl ?_
      obtain ⟨hb7, hm⟩ := am_gE hm
      refine ms_iald (n := 15517) (am_fd ck_X9_unit (pc := 104) rfl) kc_3262 hb7 ?_
      cases hm
      exact am_end (am_fd ck_X9_unit (pc := 105) rfl) am_rI rfl rfl
    · replace hm := am_if hm hs8
      by_cases hs10 : x2 = am_i 1
      · replace hm := am_it hm hs10
        refine ms_sw (v := 1) (off := 71) (tgt := 106) sw_X9_unit_35 hs10 (by decide) (by decide) (by decide) rfl rfl ?_
        refine am_steps ck_X9_unit 2 (pc' := 108) (lv' := [(0, .ref 3261), (1, .int x1), (2, .int x2)]) (st' := [.int x1, .ref 3261]) rfl ?_
        obtain ⟨q9, hq9, hm⟩ := am_bE hm
        refine ms_callV (M2 := mt_X9_depth) (d2 := 1) (ci := 7) [.int x1] (am_fd ck_X9_unit (pc := 108) rfl) ok_X9_depth tw_974 tw_976 ts_31 (by decide) kc_3261 (Nat.le_of_ble_eq_true rfl) (Nat.le_of_ble_eq_true rfl) (x_X9_depth hL hq9) ?_
        cases hm
        exact am_end (am_fd ck_X9_unit (pc := 111) rfl) am_rI rfl rfl
      · replace hm := am_if hm hs10
        by_cases hs12 : x2 = am_i 2
        · replace hm := am_it hm hs12
          refine ms_sw (v := 2) (off := 77) (tgt := 112) sw_X9_unit_35 hs12 (by decide) (by decide) (by decide) rfl rfl ?_
          refine am_steps ck_X9_unit 2 (pc' := 114) (lv' := [(0, .ref 3261), (1, .int x1), (2, .int x2)]) (st' := [.int x1, .ref 3261]) rfl ?_
          obtain ⟨q11, hq11, hm⟩ := am_bE hm
          refine ms_callV (M2 := mt_X9_belowMany) (d2 := 3) (ci := 7) [.int x1] (am_fd ck_X9_unit (pc := 114) rfl) ok_X9_belowMany tw_989 tw_991 ts_33 (by decide) kc_3261 (Nat.le_of_ble_eq_true rfl) (Nat.le_of_ble_eq_true rfl) (x_X9_belowMany hL hq11) ?_
          cases hm
          exact am_end (am_fd ck_X9_unit (pc := 117) rfl) am_rI rfl rfl
        · replace hm := am_if hm hs12
          by_cases hs14 : x2 = am_i 3
          · replace hm := am_it hm hs14
            refine ms_sw (v := 3) (off := 83) (tgt := 118) sw_X9_unit_35 hs14 (by decide) (by decide) (by decide) rfl rfl ?_
            refine am_steps ck_X9_unit 2 (pc' := 120) (lv' := [(0, .ref 3261), (1, .int x1), (2, .int x2)]) (st' := [.int x1, .ref 3261]) rfl ?_
            obtain ⟨q13, hq13, hm⟩ := am_bE hm
            refine ms_callV (M2 := mt_X9_branchMany) (d2 := 3) (ci := 7) [.int x1] (am_fd ck_X9_unit (pc := 120) rfl) ok_X9_branchMany tw_1031 tw_1033 ts_41 (by decide) kc_3261 (Nat.le_of_ble_eq_true rfl) (Nat.le_of_ble_eq_true rfl) (x_X9_branchMany hL hq13) ?_
            cases hm
            exact am_end (am_fd ck_X9_unit (pc := 123) rfl) am_rI rfl rfl
          · replace hm := am_if hm hs14
            by_cases hs16 : x2 = am_i 4
            · replace hm := am_it hm hs16
              refine ms_sw (v := 4) (off := 89) (tgt := 124) sw_X9_unit_35 hs16 (by decide) (by decide) (by decide) rfl rfl ?_
              refine am_steps ck_X9_unit 1 (pc' := 125) (lv' := [(0, .ref 3261), (1, .int x1), (2, .int x2)]) (st' := [.ref 3261]) rfl ?_
              refine ms_getr (ci := 7) (k := 0) (v := 3262) (am_fd ck_X9_unit (pc := 125) rfl) tw_875 kc_3261 rfl (ly_3261_0 hL) kc_3262 ?_
              refine am_steps ck_X9_unit 3 (pc' := 132) (lv' := [(0, .ref 3261), (1, .int x1), (2, .int x2)]) (st' := [.int ((am_i 48) + x1), .ref 3262]) rfl ?_
              obtain ⟨hb15, hm⟩ := am_gE hm
              refine ms_iald (n := 15517) (am_fd ck_X9_unit (pc := 132) rfl) kc_3262 hb15 ?_
              cases hm
              exact am_end (am_fd ck_X9_unit (pc := 133) rfl) am_rI rfl rfl
            · replace hm := am_if hm hs16
              by_cases hs19 : x2 = am_i 5
              · replace hm := am_it hm hs19
                refine ms_sw (v := 5) (off := 99) (tgt := 134) sw_X9_unit_35 hs19 (by decide) (by decide) (by decide) rfl rfl ?_
                refine am_steps ck_X9_unit 2 (pc' := 136) (lv' := [(0, .ref 3261), (1, .int x1), (2, .int x2)]) (st' := [.int x1, .ref 3261]) rfl ?_
                obtain ⟨q17, hq17, hm⟩ := am_bE hm
                refine ms_callV (M2 := mt_X9_isRight) (d2 := 4) (ci := 7) [.int x1] (am_fd ck_X9_unit (pc := 136) rfl) ok_X9_isRight tw_1165 tw_1167 ts_61 (by decide) kc_3261 (Nat.le_of_ble_eq_true rfl) (Nat.le_of_ble_eq_true rfl) (x_X9_isRight hL hq17) ?_
                refine am_ifc (tgt := 146) (am_fd ck_X9_unit (pc := 139) rfl) rfl (fun hc18 => ?_) (fun hc18 => ?_)
                · replace hm := am_it hm hc18
                  refine am_steps ck_X9_unit 1 (pc' := 147) (lv' := [(0, .ref 3261), (1, .int x1), (2, .int x2)]) (st' := [.int (am_i 0)]) rfl ?_
                  cases hm
                  exact am_end (am_fd ck_X9_unit (pc := 147) rfl) am_rI rfl rfl
                · replace hm := am_if hm hc18
                  refine am_steps ck_X9_unit 2 (pc' := 147) (lv' := [(0, .ref 3261), (1, .int x1), (2, .int x2)]) (st' := [.int (am_i 1)]) rfl ?_
                  cases hm
                  exact am_end (am_fd ck_X9_unit (pc := 147) rfl) am_rI rfl rfl
              · replace hm := am_if hm hs19
                by_cases hs21 : x2 = am_i 6
                · replace hm := am_it hm hs21
                  refine ms_sw (v := 6) (off := 113) (tgt := 148) sw_X9_unit_35 hs21 (by decide) (by decide) (by decide) rfl rfl ?_
                  refine am_steps ck_X9_unit 1 (pc' := 149) (lv' := [(0, .ref 3261), (1, .int x1), (2, .int x2)]) (st' := [.ref 3261]) rfl ?_
                  refine ms_getr (ci := 7) (k := 7) (v := 3267) (am_fd ck_X9_unit (pc := 149) rfl) tw_882 kc_3261 rfl (ly_3261_7 hL) kc_3267 ?_
                  obtain ⟨q20, hq20, hm⟩ := am_bE hm
                  refine ms_callS (M2 := mt_X9_all) (d2 := 1) [.ref 3267] (am_fd ck_X9_unit (pc := 152) rfl) ok_X9_all tw_1043 tw_1044 (Nat.le_of_ble_eq_true rfl) (Nat.le_of_ble_eq_true rfl) (x_X9_all hL kc_3267 hq20) ?_
                  cases hm
                  exact am_end (am_fd ck_X9_unit (pc := 155) rfl) am_rI rfl rfl
                · replace hm := am_if hm hs21
                  by_cases hs23 : x2 = am_i 7
                  · replace hm := am_it hm hs23
                    refine ms_sw (v := 7) (off := 121) (tgt := 156) sw_X9_unit_35 hs23 (by decide) (by decide) (by decide) rfl rfl ?_
                    refine am_steps ck_X9_unit 1 (pc' := 157) (lv' := [(0, .ref 3261), (1, .int x1), (2, .int x2)]) (st' := [.ref 3261]) rfl ?_
                    refine ms_getr (ci := 7) (k := 7) (v := 3267) (am_fd ck_X9_unit (pc := 157) rfl) tw_882 kc_3261 rfl (ly_3261_7 hL) kc_3267 ?_
                    obtain ⟨q22, hq22, hm⟩ := am_bE hm
                    refine ms_callS (M2 := mt_X9_nodes) (d2 := 3) [.ref 3267] (am_fd ck_X9_unit (pc := 160) rfl) ok_X9_nodes tw_1062 tw_1063 (Nat.le_of_ble_eq_true rfl) (Nat.le_of_ble_eq_true rfl) (x_X9_nodes hL kc_3267 hq22) ?_
                    cases hm
                    exact am_end (am_fd ck_X9_unit (pc := 163) rfl) am_rI rfl rfl
                  · replace hm := am_if hm hs23
                    by_cases hs25 : x2 = am_i 8
                    · replace hm := am_it hm hs25
                      refine ms_sw (v := 8) (off := 129) (tgt := 164) sw_X9_unit_35 hs25 (by decide) (by decide) (by decide) rfl rfl ?_
                      refine am_steps ck_X9_unit 1 (pc' := 165) (lv' := [(0, .ref 3261), (1, .int x1), (2, .int x2)]) (st' := [.ref 3261]) rfl ?_
                      refine ms_getr (ci := 7) (k := 6) (v := 3266) (am_fd ck_X9_unit (pc := 165) rfl) tw_881 kc_3261 rfl (ly_3261_6 hL) kc_3266 ?_
                      obtain ⟨q24, hq24, hm⟩ := am_bE hm
                      refine ms_callS (M2 := mt_X9_all) (d2 := 1) [.ref 3266] (am_fd ck_X9_unit (pc := 168) rfl) ok_X9_all tw_1043 tw_1044 (Nat.le_of_ble_eq_true rfl) (Nat.le_of_ble_eq_true rfl) (x_X9_all hL kc_3266 hq24) ?_
                      cases hm
                      exact am_end (am_fd ck_X9_unit (pc := 171) rfl) am_rI rfl rfl
                    · replace hm := am_if hm hs25
                      by_cases hs27 : x2 = am_i 9
                      · replace hm := am_it hm hs27
                        refine ms_sw (v := 9) (off := 137) (tgt := 172) sw_X9_unit_35 hs27 (by decide) (by decide) (by decide) rfl rfl ?_
                        refine am_steps ck_X9_unit 1 (pc' := 173) (lv' := [(0, .ref 3261), (1, .int x1), (2, .int x2)]) (st' := [.ref 3261]) rfl ?_
                        refine ms_getr (ci := 7) (k := 6) (v := 3266) (am_fd ck_X9_unit (pc := 173) rfl) tw_881 kc_3261 rfl (ly_3261_6 hL) kc_3266 ?_
                        obtain ⟨q26, hq26, hm⟩ := am_bE hm
                        refine ms_callS (M2 := mt_X9_nodes) (d2 := 3) [.ref 3266] (am_fd ck_X9_unit (pc := 176) rfl) ok_X9_nodes tw_1062 tw_1063 (Nat.le_of_ble_eq_true rfl) (Nat.le_of_ble_eq_true rfl) (x_X9_nodes hL kc_3266 hq26) ?_
                        cases hm
                        exact am_end (am_fd ck_X9_unit (pc := 179) rfl) am_rI rfl rfl
                      · replace hm := am_if hm hs27
                        by_cases hs29 : x2 = am_i 10
                        · replace hm := am_it hm hs29
                          refine ms_sw (v := 10) (off := 145) (tgt := 180) sw_X9_unit_35 hs29 (by decide) (by decide) (by decide) rfl rfl ?_
                          refine am_steps ck_X9_unit 2 (pc' := 182) (lv' := [(0, .ref 3261), (1, .int x1), (2, .int x2)]) (st' := [.ref 3261, .ref 3261]) rfl ?_
                          refine ms_getr (ci := 7) (k := 6) (v := 3266) (am_fd ck_X9_unit (pc := 182) rfl) tw_881 kc_3261 rfl (ly_3261_6 hL) kc_3266 ?_
                          obtain ⟨q28, hq28, hm⟩ := am_bE hm
                          refine ms_callV (M2 := mt_X9_positive) (d2 := 1) (ci := 7) [.ref 3266] (am_fd ck_X9_unit (pc := 185) rfl) ok_X9_positive tw_1173 tw_1175 ts_63 (by decide) kc_3261 (Nat.le_of_ble_eq_true rfl) (Nat.le_of_ble_eq_true rfl) (x_X9_positive hL kc_3266 hq28) ?_
                          cases hm
                          exact am_end (am_fd ck_X9_unit (pc := 188) rfl) am_rI rfl rfl
                        · replace hm := am_if hm hs29
                          by_cases hs32 : x2 = am_i 11
                          · replace hm := am_it hm hs32
                            refine ms_sw (v := 11) (off := 154) (tgt := 189) sw_X9_unit_35 hs32 (by decide) (by decide) (by decide) rfl rfl ?_
                            refine am_steps ck_X9_unit 3 (pc' := 192) (lv' := [(0, .ref 3261), (1, .int x1), (2, .int x2)]) (st' := [.ref 3261, .int x1, .ref 3261]) rfl ?_
                            refine ms_getr (ci := 7) (k := 6) (v := 3266) (am_fd ck_X9_unit (pc := 192) rfl) tw_881 kc_3261 rfl (ly_3261_6 hL) kc_3266 ?_
                            obtain ⟨q30, hq30, hm⟩ := am_bE hm
                            refine ms_callVv (M2 := mt_X9_laysBranch) (d2 := 3) (ci := 7) [.int x1, .ref 3266] (am_fd ck_X9_unit (pc := 195) rfl) ok_X9_laysBranch tw_1169 tw_1171 ts_62 (by decide) kc_3261 (Nat.le_of_ble_eq_true rfl) (Nat.le_of_ble_eq_true rfl) (x_X9_laysBranch hL kc_3266 hq30) ?_
                            refine am_steps ck_X9_unit 1 (pc' := 199) (lv' := [(0, .ref 3261), (1, .int x1), (2, .int x2)]) (st' := [.ref 3261]) rfl ?_
                            refine ms_getr (ci := 7) (k := 6) (v := 3266) (am_fd ck_X9_unit (pc := 199) rfl) tw_881 kc_3261 rfl (ly_3261_6 hL) kc_3266 ?_
                            obtain ⟨q31, hq31, hm⟩ := am_bE hm
                            refine ms_callS (M2 := mt_X9_all) (d2 := 1) [.ref 3266] (am_fd ck_X9_unit (pc := 202) rfl) ok_X9_all tw_1043 tw_1044 (Nat.le_of_ble_eq_true rfl) (Nat.le_of_ble_eq_true rfl) (x_X9_all hL kc_3266 hq31) ?_
                            cases hm
                            exact am_end (am_fd ck_X9_unit (pc := 205) rfl) am_rI rfl rfl
                          · replace hm := am_if hm hs32
                            refine ms_swd (tgt := 206) sw_X9_unit_35 (fun j hj => ?_) rfl ?_
                            · have hj2 : j ≤ 11 := by omega
                              match j, hj2 with
                              | 0, _ => exact hs8
                              | 1, _ => exact hs10
                              | 2, _ => exact hs12
                              | 3, _ => exact hs14
                              | 4, _ => exact hs16
                              | 5, _ => exact hs19
                              | 6, _ => exact hs21
                              | 7, _ => exact hs23
                              | 8, _ => exact hs25
                              | 9, _ => exact hs27
                              | 10, _ => exact hs29
                              | 11, _ => exact hs32
                              | j + 12, h9 => omega
                            · refine am_steps ck_X9_unit 1 (pc' := 207) (lv' := [(0, .ref 3261), (1, .int x1), (2, .int x2)]) (st' := [.int (am_i (-1))]) rfl ?_
                              cases hm
                              exact am_end (am_fd ck_X9_unit (pc := 207) rfl) am_rI rfl rfl
  · replace hm := am_if hm hc2
    refine am_steps ck_X9_unit 1 (pc' := 9) (lv' := [(0, .ref 3261), (1, .int x1), (2, .int x2)]) (st' := [.int (am_i (-1))]) rfl ?_
    cases hm
    exact am_end (am_fd ck_X9_unit (pc := 9) rfl) am_rI rfl rfl
set_option maxRecDepth 100000 in
set_option maxHeartbeats 4000000 in
theorem x_X9_below_15 {G : am_G} {x1 : Int32} {x2 : Int32} {m : am_m} {r : am_rr} {y1 : Int32} {y2 : Int32} {res : Int32} {k : Option (Int32)} (hL : am_Lay r) : ∀ (n : Nat) (z3 : Int32) (z4 : Int32), m_X9_below_15 x1 x2 m y1 y2 k n z3 z4 = some res → (k = some res → am_W G mt_X9_below 3 (some (.int res)) (am_hh m r) 65 [] [] (am_hh m r)) → am_W G mt_X9_below 3 (some (.int res)) (am_hh m r) 15 [(0, .ref 3261), (1, .int y1), (2, .int y2), (3, .int z3), (4, .int z4)] [] (am_hh m r) := by
  intro n
  induction n with
  | zero => intro z3 z4 hm K; cases hm
  | succ n ih =>
    intro z3 z4 hm K
    unfold m_X9_below_15 at hm
    refine am_steps ck_X9_below 2 (pc' := 19) (lv' := [(0, .ref 3261), (1, .int y1), (2, .int y2), (3, .int z3), (4, .int z4)]) (st' := [.int (am_i 24), .int z4]) rfl ?_
    refine am_icmp (tgt := 65) (am_fd ck_X9_below (pc := 19) rfl) rfl (fun hc3 => ?_) (fun hc3 => ?_)
    · replace hm := am_it hm hc3
      refine am_subp [] rfl ?_
      exact K hm
    · replace hm := am_if hm hc3
      refine am_steps ck_X9_below 2 (pc' := 25) (lv' := [(0, .ref 3261), (1, .int y1), (2, .int y2), (3, .int z3), (4, .int z4)]) (st' := [.int z4, .ref 3261]) rfl ?_
      obtain ⟨q4, hq4, hm⟩ := am_bE hm
      refine ms_callV (M2 := mt_X9_isUnit) (d2 := 2) (ci := 7) [.int z4] (am_fd ck_X9_below (pc := 25) rfl) ok_X9_isUnit tw_949 tw_951 ts_28 (by decide) kc_3261 (Nat.le_of_ble_eq_true rfl) (Nat.le_of_ble_eq_true rfl) (x_X9_isUnit hL hq4) ?_
      refine am_ifc (tgt := 59) (am_fd ck_X9_below (pc := 28) rfl) rfl (fun hc5 => ?_) (fun hc5 => ?_)
      · replace hm := am_it hm hc5
        refine am_steps ck_X9_below 2 (pc' := 15) (lv' := [(4, .int (z4 + am_i 1)), (0, .ref 3261), (1, .int y1), (2, .int y2), (3, .int z3)]) (st' := []) rfl ?_
        refine am_subp [1, 2, 3, 4, 0] rfl ?_
        exact ih _ _ hm K
      · replace hm := am_if hm hc5
        refine am_steps ck_X9_below 1 (pc' := 32) (lv' := [(0, .ref 3261), (1, .int y1), (2, .int y2), (3, .int z3), (4, .int z4)]) (st' := [.ref 3261]) rfl ?_
        refine ms_getr (ci := 7) (k := 0) (v := 3262) (am_fd ck_X9_below (pc := 32) rfl) tw_875 kc_3261 rfl (ly_3261_0 hL) kc_3262 ?_
        refine am_steps ck_X9_below 3 (pc' := 40) (lv' := [(0, .ref 3261), (1, .int y1), (2, .int y2), (3, .int z3), (4, .int z4)]) (st' := [.int ((am_i 24) + z4), .ref 3262]) rfl ?_
        obtain ⟨hb6, hm⟩ := am_gE hm
        refine ms_iald (n := 15517) (am_fd ck_X9_below (pc := 40) rfl) kc_3262 hb6 ?_
        refine am_steps ck_X9_below 1 (pc' := 42) (lv' := [(0, .ref 3261), (1, .int y1), (2, .int y2), (3, .int z3), (4, .int z4)]) (st' := [.int y1, .int (m 3262 (am_ix ((am_i 24) + z4)))]) rfl ?_
        refine am_icmp (tgt := 48) (am_fd ck_X9_below (pc := 42) rfl) rfl (fun hc7 => ?_) (fun hc7 => ?_)
        · replace hm := am_it hm hc7
          refine am_steps ck_X9_below 2 (pc' := 50) (lv' := [(0, .ref 3261), (1, .int y1), (2, .int y2), (3, .int z3), (4, .int z4)]) (st' := [.int y2, .int z3]) rfl ?_
          refine am_icmp (tgt := 56) (am_fd ck_X9_below (pc := 50) rfl) rfl (fun hc8 => ?_) (fun hc8 => ?_)
          · replace hm := am_it hm hc8
            refine am_steps ck_X9_below 3 (pc' := 15) (lv' := [(4, .int (z4 + am_i 1)), (3, .int (z3 + am_i 1)), (0, .ref 3261), (1, .int y1), (2, .int y2)]) (st' := []) rfl ?_
            refine am_subp [2, 3, 4, 1, 0] rfl ?_
            exact ih _ _ hm K
          · replace hm := am_if hm hc8
            refine am_steps ck_X9_below 1 (pc' := 55) (lv' := [(0, .ref 3261), (1, .int y1), (2, .int y2), (3, .int z3), (4, .int z4)]) (st' := [.int z4]) rfl ?_
            cases hm
            exact am_end (am_fd ck_X9_below (pc := 55) rfl) am_rI rfl rfl
        · replace hm := am_if hm hc7
          refine am_steps ck_X9_below 3 (pc' := 15) (lv' := [(4, .int (z4 + am_i 1)), (0, .ref 3261), (1, .int y1), (2, .int y2), (3, .int z3)]) (st' := []) rfl ?_
          refine am_subp [1, 2, 3, 4, 0] rfl ?_
          exact ih _ _ hm K
set_option maxRecDepth 100000 in
set_option maxHeartbeats 4000000 in
theorem x_X9_below {G : am_G} {m : am_m} {r : am_rr} {x1 : Int32} {x2 : Int32} {res : Int32} (hL : am_Lay r) (hm : m_X9_below m x1 x2 = some res) : am_Met G mt_X9_below 3 [.ref 3261, .int x1, .int x2] (am_hh m r) (some (.int res)) (am_hh m r) := by
  refine am_of (by decide) (Nat.le_of_ble_eq_true rfl) ?_
  unfold m_X9_below at hm
  show am_W G mt_X9_below 3 _ _ 0 [(0, .ref 3261), (1, .int x1), (2, .int x2)] [] (am_hh m r)
  refine am_steps ck_X9_below 2 (pc' := 2) (lv' := [(0, .ref 3261), (1, .int x1), (2, .int x2)]) (st' := [.int x1, .ref 3261]) rfl ?_
  obtain ⟨q1, hq1, hm⟩ := am_bE hm
  refine ms_callV (M2 := mt_X9_isUnit) (d2 := 2) (ci := 7) [.int x1] (am_fd ck_X9_below (pc := 2) rfl) ok_X9_isUnit tw_949 tw_951 ts_28 (by decide) kc_3261 (Nat.le_of_ble_eq_true rfl) (Nat.le_of_ble_eq_true rfl) (x_X9_isUnit hL hq1) ?_
  refine am_ifc (tgt := 10) (am_fd ck_X9_below (pc := 5) rfl) rfl (fun hc2 => ?_) (fun hc2 => ?_)
  · replace hm := am_it hm hc2
    refine am_steps ck_X9_below 4 (pc' := 15) (lv' := [(4, .int (am_i 0)), (3, .int (am_i 0)), (0, .ref 3261), (1, .int x1), (2, .int x2)]) (st' := []) rfl ?_
    refine am_subp [2, 3, 4, 1, 0] rfl ?_
    refine x_X9_below_15 hL am_F _ _ hm (fun hm => ?_)
    refine am_steps ck_X9_below 1 (pc' := 66) (lv' := []) (st' := [.int (am_i (-1))]) rfl ?_
    cases hm
    exact am_end (am_fd ck_X9_below (pc := 66) rfl) am_rI rfl rfl
  · replace hm := am_if hm hc2
    refine am_steps ck_X9_below 1 (pc' := 9) (lv' := [(0, .ref 3261), (1, .int x1), (2, .int x2)]) (st' := [.int (am_i (-1))]) rfl ?_
    cases hm
    exact am_end (am_fd ck_X9_below (pc := 9) rfl) am_rI rfl rfl
set_option maxRecDepth 100000 in
set_option maxHeartbeats 4000000 in
theorem x_X9_above_19 {G : am_G} {x1 : Int32} {x2 : Int32} {m : am_m} {r : am_rr} {y2 : Int32} {res : Int32} {k : Int32 → Option (Int32)} (hL : am_Lay r) : ∀ (n : Nat) (z3 : Int32) (z4 : Int32), m_X9_above_19 x1 x2 m y2 k n z3 z4 = some res → (∀ (u3 : Int32), k u3 = some res → am_W G mt_X9_above 3 (some (.int res)) (am_hh m r) 46 [(3, .int u3)] [] (am_hh m r)) → am_W G mt_X9_above 3 (some (.int res)) (am_hh m r) 19 [(0, .ref 3261), (2, .int y2), (3, .int z3), (4, .int z4)] [] (am_hh m r) := by
  intro n
  induction n with
  | zero => intro z3 z4 hm K; cases hm
  | succ n ih =>
    intro z3 z4 hm K
    unfold m_X9_above_19 at hm
    refine am_steps ck_X9_above 2 (pc' := 22) (lv' := [(0, .ref 3261), (2, .int y2), (3, .int z3), (4, .int z4)]) (st' := [.int y2, .int z4]) rfl ?_
    refine am_icmp (tgt := 46) (am_fd ck_X9_above (pc := 22) rfl) rfl (fun hc4 => ?_) (fun hc4 => ?_)
    · replace hm := am_it hm hc4
      refine am_subp [2] rfl ?_
      exact K _ hm
    · replace hm := am_if hm hc4
      refine am_steps ck_X9_above 2 (pc' := 27) (lv' := [(0, .ref 3261), (2, .int y2), (3, .int z3), (4, .int z4)]) (st' := [.int (am_i (-1)), .int z3]) rfl ?_
      refine am_icmp (tgt := 46) (am_fd ck_X9_above (pc := 27) rfl) rfl (fun hc5 => ?_) (fun hc5 => ?_)
      · replace hm := am_it hm hc5
        refine am_subp [2] rfl ?_
        exact K _ hm
      · replace hm := am_if hm hc5
        refine am_steps ck_X9_above 1 (pc' := 31) (lv' := [(0, .ref 3261), (2, .int y2), (3, .int z3), (4, .int z4)]) (st' := [.ref 3261]) rfl ?_
        refine ms_getr (ci := 7) (k := 0) (v := 3262) (am_fd ck_X9_above (pc := 31) rfl) tw_875 kc_3261 rfl (ly_3261_0 hL) kc_3262 ?_
        refine am_steps ck_X9_above 3 (pc' := 38) (lv' := [(0, .ref 3261), (2, .int y2), (3, .int z3), (4, .int z4)]) (st' := [.int ((am_i 24) + z3), .ref 3262]) rfl ?_
        obtain ⟨hb6, hm⟩ := am_gE hm
        refine ms_iald (n := 15517) (am_fd ck_X9_above (pc := 38) rfl) kc_3262 hb6 ?_
        refine am_steps ck_X9_above 3 (pc' := 19) (lv' := [(4, .int (z4 + am_i 1)), (3, .int (m 3262 (am_ix ((am_i 24) + z3)))), (0, .ref 3261), (2, .int y2)]) (st' := []) rfl ?_
        refine am_subp [2, 3, 1, 0] rfl ?_
        exact ih _ _ hm K
set_option maxRecDepth 100000 in
set_option maxHeartbeats 4000000 in
theorem x_X9_above {G : am_G} {m : am_m} {r : am_rr} {x1 : Int32} {x2 : Int32} {res : Int32} (hL : am_Lay r) (hm : m_X9_above m x1 x2 = some res) : am_Met G mt_X9_above 3 [.ref 3261, .int x1, .int x2] (am_hh m r) (some (.int res)) (am_hh m r) := by
  refine am_of (by decide) (Nat.le_of_ble_eq_true rfl) ?_
  unfold m_X9_above at hm
  show am_W G mt_X9_above 3 _ _ 0 [(0, .ref 3261), (1, .int x1), (2, .int x2)] [] (am_hh m r)
  refine am_steps ck_X9_above 2 (pc' := 2) (lv' := [(0, .ref 3261), (1, .int x1), (2, .int x2)]) (st' := [.int x1, .ref 3261]) rfl ?_
  obtain ⟨q1, hq1, hm⟩ := am_bE hm
  refine ms_callV (M2 := mt_X9_isUnit) (d2 := 2) (ci := 7) [.int x1] (am_fd ck_X9_above (pc := 2) rfl) ok_X9_isUnit tw_949 tw_951 ts_28 (by decide) kc_3261 (Nat.le_of_ble_eq_true rfl) (Nat.le_of_ble_eq_true rfl) (x_X9_isUnit hL hq1) ?_
  refine am_ifc (tgt := 12) (am_fd ck_X9_above (pc := 5) rfl) rfl (fun hc2 => ?_) (fun hc2 => ?_)
  · replace hm := am_it hm hc2
    refine am_steps ck_X9_above 1 (pc' := 13) (lv' := [(0, .ref 3261), (1, .int x1), (2, .int x2)]) (st' := [.int (am_i (-1))]) rfl ?_
    cases hm
    exact am_end (am_fd ck_X9_above (pc := 13) rfl) am_rI rfl rfl
  · replace hm := am_if hm hc2
    refine am_steps ck_X9_above 1 (pc' := 9) (lv' := [(0, .ref 3261), (1, .int x1), (2, .int x2)]) (st' := [.int x2]) rfl ?_
    refine am_ifc (tgt := 14) (am_fd ck_X9_above (pc := 9) rfl) rfl (fun hc3 => ?_) (fun hc3 => ?_)
    · replace hm := am_it hm hc3
      refine am_steps ck_X9_above 4 (pc' := 19) (lv' := [(4, .int (am_i 0)), (3, .int x1), (0, .ref 3261), (1, .int x1), (2, .int x2)]) (st' := []) rfl ?_
      refine am_subp [2, 4, 1, 0] rfl ?_
      refine x_X9_above_19 hL am_F _ _ hm (fun u7 hm => ?_)
      refine am_steps ck_X9_above 1 (pc' := 47) (lv' := [(3, .int u7)]) (st' := [.int u7]) rfl ?_
      cases hm
      exact am_end (am_fd ck_X9_above (pc := 47) rfl) am_rI rfl rfl
    · replace hm := am_if hm hc3
      refine am_steps ck_X9_above 1 (pc' := 13) (lv' := [(0, .ref 3261), (1, .int x1), (2, .int x2)]) (st' := [.int (am_i (-1))]) rfl ?_
      cases hm
      exact am_end (am_fd ck_X9_above (pc := 13) rfl) am_rI rfl rfl
set_option maxRecDepth 100000 in
set_option maxHeartbeats 4000000 in
theorem x_X9_both_20 {G : am_G} {x1 : Int32} {x2 : Int32} {m : am_m} {r : am_rr} {y2 : Int32} {res : Int32} {k : Int32 → Option (Int32)} (hL : am_Lay r) : ∀ (n : Nat) (z3 : Int32), m_X9_both_20 x1 x2 m y2 k n z3 = some res → (∀ (u3 : Int32), k u3 = some res → am_W G mt_X9_both 3 (some (.int res)) (am_hh m r) 42 [(3, .int u3)] [] (am_hh m r)) → am_W G mt_X9_both 3 (some (.int res)) (am_hh m r) 20 [(0, .ref 3261), (2, .int y2), (3, .int z3)] [] (am_hh m r) := by
  intro n
  induction n with
  | zero => intro z3 hm K; cases hm
  | succ n ih =>
    intro z3 hm K
    unfold m_X9_both_20 at hm
    refine am_steps ck_X9_both 3 (pc' := 23) (lv' := [(0, .ref 3261), (2, .int y2), (3, .int z3)]) (st' := [.int z3, .int y2, .ref 3261]) rfl ?_
    obtain ⟨q5, hq5, hm⟩ := am_bE hm
    refine ms_callV (M2 := mt_X9_isIn_) (d2 := 1) (ci := 7) [.int y2, .int z3] (am_fd ck_X9_both (pc := 23) rfl) ok_X9_isIn_ tw_1019 tw_1021 ts_38 (by decide) kc_3261 (Nat.le_of_ble_eq_true rfl) (Nat.le_of_ble_eq_true rfl) (x_X9_isIn_ hL hq5) ?_
    refine am_ifc (tgt := 42) (am_fd ck_X9_both (pc := 26) rfl) rfl (fun hc6 => ?_) (fun hc6 => ?_)
    · replace hm := am_it hm hc6
      refine am_subp [2] rfl ?_
      exact K _ hm
    · replace hm := am_if hm hc6
      refine am_steps ck_X9_both 1 (pc' := 30) (lv' := [(0, .ref 3261), (2, .int y2), (3, .int z3)]) (st' := [.ref 3261]) rfl ?_
      refine ms_getr (ci := 7) (k := 0) (v := 3262) (am_fd ck_X9_both (pc := 30) rfl) tw_875 kc_3261 rfl (ly_3261_0 hL) kc_3262 ?_
      refine am_steps ck_X9_both 3 (pc' := 37) (lv' := [(0, .ref 3261), (2, .int y2), (3, .int z3)]) (st' := [.int ((am_i 24) + z3), .ref 3262]) rfl ?_
      obtain ⟨hb7, hm⟩ := am_gE hm
      refine ms_iald (n := 15517) (am_fd ck_X9_both (pc := 37) rfl) kc_3262 hb7 ?_
      refine am_steps ck_X9_both 2 (pc' := 20) (lv' := [(3, .int (m 3262 (am_ix ((am_i 24) + z3)))), (0, .ref 3261), (2, .int y2)]) (st' := []) rfl ?_
      refine am_subp [1, 2, 0] rfl ?_
      exact ih _ hm K
set_option maxRecDepth 100000 in
set_option maxHeartbeats 4000000 in
theorem x_X9_both {G : am_G} {m : am_m} {r : am_rr} {x1 : Int32} {x2 : Int32} {res : Int32} (hL : am_Lay r) (hm : m_X9_both m x1 x2 = some res) : am_Met G mt_X9_both 3 [.ref 3261, .int x1, .int x2] (am_hh m r) (some (.int res)) (am_hh m r) := by
  refine am_of (by decide) (Nat.le_of_ble_eq_true rfl) ?_
  unfold m_X9_both at hm
  show am_W G mt_X9_both 3 _ _ 0 [(0, .ref 3261), (1, .int x1), (2, .int x2)] [] (am_hh m r)
  refine am_steps ck_X9_both 2 (pc' := 2) (lv' := [(0, .ref 3261), (1, .int x1), (2, .int x2)]) (st' := [.int x1, .ref 3261]) rfl ?_
  obtain ⟨q1, hq1, hm⟩ := am_bE hm
  refine ms_callV (M2 := mt_X9_isUnit) (d2 := 2) (ci := 7) [.int x1] (am_fd ck_X9_both (pc := 2) rfl) ok_X9_isUnit tw_949 tw_951 ts_28 (by decide) kc_3261 (Nat.le_of_ble_eq_true rfl) (Nat.le_of_ble_eq_true rfl) (x_X9_isUnit hL hq1) ?_
  refine am_ifc (tgt := 16) (am_fd ck_X9_both (pc := 5) rfl) rfl (fun hc2 => ?_) (fun hc2 => ?_)
  · replace hm := am_it hm hc2
    refine am_steps ck_X9_both 1 (pc' := 17) (lv' := [(0, .ref 3261), (1, .int x1), (2, .int x2)]) (st' := [.int (am_i (-1))]) rfl ?_
    cases hm
    exact am_end (am_fd ck_X9_both (pc := 17) rfl) am_rI rfl rfl
  · replace hm := am_if hm hc2
    refine am_steps ck_X9_both 2 (pc' := 10) (lv' := [(0, .ref 3261), (1, .int x1), (2, .int x2)]) (st' := [.int x2, .ref 3261]) rfl ?_
    obtain ⟨q3, hq3, hm⟩ := am_bE hm
    refine ms_callV (M2 := mt_X9_isUnit) (d2 := 2) (ci := 7) [.int x2] (am_fd ck_X9_both (pc := 10) rfl) ok_X9_isUnit tw_949 tw_951 ts_28 (by decide) kc_3261 (Nat.le_of_ble_eq_true rfl) (Nat.le_of_ble_eq_true rfl) (x_X9_isUnit hL hq3) ?_
    refine am_ifc (tgt := 18) (am_fd ck_X9_both (pc := 13) rfl) rfl (fun hc4 => ?_) (fun hc4 => ?_)
    · replace hm := am_it hm hc4
      refine am_steps ck_X9_both 2 (pc' := 20) (lv' := [(3, .int x1), (0, .ref 3261), (1, .int x1), (2, .int x2)]) (st' := []) rfl ?_
      refine am_subp [1, 3, 0] rfl ?_
      refine x_X9_both_20 hL am_F _ hm (fun u8 hm => ?_)
      refine am_steps ck_X9_both 1 (pc' := 43) (lv' := [(3, .int u8)]) (st' := [.int u8]) rfl ?_
      cases hm
      exact am_end (am_fd ck_X9_both (pc := 43) rfl) am_rI rfl rfl
    · replace hm := am_if hm hc4
      refine am_steps ck_X9_both 1 (pc' := 17) (lv' := [(0, .ref 3261), (1, .int x1), (2, .int x2)]) (st' := [.int (am_i (-1))]) rfl ?_
      cases hm
      exact am_end (am_fd ck_X9_both (pc := 17) rfl) am_rI rfl rfl
set_option maxRecDepth 100000 in
set_option maxHeartbeats 4000000 in
theorem x_X9_of {G : am_G} {m : am_m} {r : am_rr} {x1 : Int32} {x2 : Int32} {x3 : Int32} {res : Int32 × am_m} (hL : am_Lay r) (hm : m_X9_of m x1 x2 x3 = some res) : am_Met G mt_X9_of 4 [.ref 3261, .int x1, .int x2, .int x3] (am_hh m r) (some (.int res.1)) (am_hh res.2 r) := by
  refine am_of (by decide) (Nat.le_of_ble_eq_true rfl) ?_
  unfold m_X9_of at hm
  show am_W G mt_X9_of 4 _ _ 0 [(0, .ref 3261), (1, .int x1), (2, .int x2), (3, .int x3)] [] (am_hh m r)
  refine am_steps ck_X9_of 2 (pc' := 2) (lv' := [(0, .ref 3261), (1, .int x1), (2, .int x2), (3, .int x3)]) (st' := [.int x1, .ref 3261]) rfl ?_
  obtain ⟨q1, hq1, hm⟩ := am_bE hm
  refine ms_callV (M2 := mt_X9_isUnit) (d2 := 2) (ci := 7) [.int x1] (am_fd ck_X9_of (pc := 2) rfl) ok_X9_isUnit tw_949 tw_951 ts_28 (by decide) kc_3261 (Nat.le_of_ble_eq_true rfl) (Nat.le_of_ble_eq_true rfl) (x_X9_isUnit hL hq1) ?_
  refine am_ifc (tgt := 15) (am_fd ck_X9_of (pc := 5) rfl) rfl (fun hc2 => ?_) (fun hc2 => ?_)
  · replace hm := am_it hm hc2
    refine am_steps ck_X9_of 1 (pc' := 16) (lv' := [(0, .ref 3261), (1, .int x1), (2, .int x2), (3, .int x3)]) (st' := [.int (am_i (-1))]) rfl ?_
    cases hm
    exact am_end (am_fd ck_X9_of (pc := 16) rfl) am_rI rfl rfl
  · replace hm := am_if hm hc2
    refine am_steps ck_X9_of 1 (pc' := 9) (lv' := [(0, .ref 3261), (1, .int x1), (2, .int x2), (3, .int x3)]) (st' := [.int x2]) rfl ?_
    obtain ⟨q3, hq3, hm⟩ := am_bE hm
    refine ms_callS (M2 := mt_X9_isCategory) (d2 := 2) [.int x2] (am_fd ck_X9_of (pc := 9) rfl) ok_X9_isCategory tw_956 tw_957 (Nat.le_of_ble_eq_true rfl) (Nat.le_of_ble_eq_true rfl) (x_X9_isCategory hL hq3) ?_
    refine am_ifc (tgt := 17) (am_fd ck_X9_of (pc := 12) rfl) rfl (fun hc4 => ?_) (fun hc4 => ?_)
    · replace hm := am_it hm hc4
      refine am_steps ck_X9_of 2 (pc' := 19) (lv' := [(0, .ref 3261), (1, .int x1), (2, .int x2), (3, .int x3)]) (st' := [.int (am_i 2), .int x3]) rfl ?_
      refine am_icmp (tgt := 31) (am_fd ck_X9_of (pc := 19) rfl) rfl (fun hc5 => ?_) (fun hc5 => ?_)
      · replace hm := am_it hm hc5
        refine am_steps ck_X9_of 1 (pc' := 32) (lv' := [(0, .ref 3261), (1, .int x1), (2, .int x2), (3, .int x3)]) (st' := [.int x3]) rfl ?_
        refine am_ifc (tgt := 49) (am_fd ck_X9_of (pc := 32) rfl) rfl (fun hc6 => ?_) (fun hc6 => ?_)
        · replace hm := am_it hm hc6
          refine am_steps ck_X9_of 2 (pc' := 51) (lv' := [(0, .ref 3261), (1, .int x1), (2, .int x2), (3, .int x3)]) (st' := [.int (am_i 1), .int x3]) rfl ?_
          refine am_icmp (tgt := 68) (am_fd ck_X9_of (pc := 51) rfl) rfl (fun hc7 => ?_) (fun hc7 => ?_)
          · replace hm := am_it hm hc7
            refine am_steps ck_X9_of 2 (pc' := 70) (lv' := [(0, .ref 3261), (1, .int x1), (2, .int x2), (3, .int x3)]) (st' := [.int (am_i 2), .int x3]) rfl ?_
            refine am_icmp (tgt := 82) (am_fd ck_X9_of (pc := 70) rfl) rfl (fun hc8 => ?_) (fun hc8 => ?_)
            · replace hm := am_it hm hc8
              refine am_steps ck_X9_of 1 (pc' := 83) (lv' := [(0, .ref 3261), (1, .int x1), (2, .int x2), (3, .int x3)]) (st' := [.int (am_i (-1))]) rfl ?_
              cases hm
              exact am_end (am_fd ck_X9_of (pc := 83) rfl) am_rI rfl rfl
            · replace hm := am_if hm hc8
              refine am_steps ck_X9_of 1 (pc' := 74) (lv' := [(0, .ref 3261), (1, .int x1), (2, .int x2), (3, .int x3)]) (st' := [.ref 3261]) rfl ?_
              refine ms_getr (ci := 7) (k := 6) (v := 3266) (am_fd ck_X9_of (pc := 74) rfl) tw_881 kc_3261 rfl (ly_3261_6 hL) kc_3266 ?_
              refine am_steps ck_X9_of 1 (pc' := 78) (lv' := [(0, .ref 3261), (1, .int x1), (2, .int x2), (3, .int x3)]) (st' := [.int x2, .ref 3266]) rfl ?_
              obtain ⟨hb9, hm⟩ := am_gE hm
              refine ms_iald (n := 64) (am_fd ck_X9_of (pc := 78) rfl) kc_3266 hb9 ?_
              refine am_steps ck_X9_of 1 (pc' := 83) (lv' := [(0, .ref 3261), (1, .int x1), (2, .int x2), (3, .int x3)]) (st' := [.int (m 3266 (am_ix x2))]) rfl ?_
              cases hm
              exact am_end (am_fd ck_X9_of (pc := 83) rfl) am_rI rfl rfl
          · replace hm := am_if hm hc7
            refine am_steps ck_X9_of 1 (pc' := 55) (lv' := [(0, .ref 3261), (1, .int x1), (2, .int x2), (3, .int x3)]) (st' := [.ref 3261]) rfl ?_
            refine ms_getr (ci := 7) (k := 0) (v := 3262) (am_fd ck_X9_of (pc := 55) rfl) tw_875 kc_3261 rfl (ly_3261_0 hL) kc_3262 ?_
            refine am_steps ck_X9_of 1 (pc' := 59) (lv' := [(0, .ref 3261), (1, .int x1), (2, .int x2), (3, .int x3)]) (st' := [.int x1, .ref 3262]) rfl ?_
            obtain ⟨q10, hq10, hm⟩ := am_bE hm
            refine ms_callS (M2 := mt_X9_sumAt) (d2 := 1) [.int x1] (am_fd ck_X9_of (pc := 59) rfl) ok_X9_sumAt tw_982 tw_983 (Nat.le_of_ble_eq_true rfl) (Nat.le_of_ble_eq_true rfl) (x_X9_sumAt hL hq10) ?_
            refine am_steps ck_X9_of 2 (pc' := 64) (lv' := [(0, .ref 3261), (1, .int x1), (2, .int x2), (3, .int x3)]) (st' := [.int (q10 + x2), .ref 3262]) rfl ?_
            obtain ⟨hb11, hm⟩ := am_gE hm
            refine ms_iald (n := 15517) (am_fd ck_X9_of (pc := 64) rfl) kc_3262 hb11 ?_
            refine am_steps ck_X9_of 1 (pc' := 83) (lv' := [(0, .ref 3261), (1, .int x1), (2, .int x2), (3, .int x3)]) (st' := [.int (m 3262 (am_ix (q10 + x2)))]) rfl ?_
            cases hm
            exact am_end (am_fd ck_X9_of (pc := 83) rfl) am_rI rfl rfl
        · replace hm := am_if hm hc6
          refine am_steps ck_X9_of 1 (pc' := 36) (lv' := [(0, .ref 3261), (1, .int x1), (2, .int x2), (3, .int x3)]) (st' := [.ref 3261]) rfl ?_
          refine ms_getr (ci := 7) (k := 0) (v := 3262) (am_fd ck_X9_of (pc := 36) rfl) tw_875 kc_3261 rfl (ly_3261_0 hL) kc_3262 ?_
          refine am_steps ck_X9_of 1 (pc' := 40) (lv' := [(0, .ref 3261), (1, .int x1), (2, .int x2), (3, .int x3)]) (st' := [.int x1, .ref 3262]) rfl ?_
          obtain ⟨q12, hq12, hm⟩ := am_bE hm
          refine ms_callS (M2 := mt_X9_ownAt) (d2 := 1) [.int x1] (am_fd ck_X9_of (pc := 40) rfl) ok_X9_ownAt tw_959 tw_960 (Nat.le_of_ble_eq_true rfl) (Nat.le_of_ble_eq_true rfl) (x_X9_ownAt hL hq12) ?_
          refine am_steps ck_X9_of 2 (pc' := 45) (lv' := [(0, .ref 3261), (1, .int x1), (2, .int x2), (3, .int x3)]) (st' := [.int (q12 + x2), .ref 3262]) rfl ?_
          obtain ⟨hb13, hm⟩ := am_gE hm
          refine ms_iald (n := 15517) (am_fd ck_X9_of (pc := 45) rfl) kc_3262 hb13 ?_
          refine am_steps ck_X9_of 1 (pc' := 83) (lv' := [(0, .ref 3261), (1, .int x1), (2, .int x2), (3, .int x3)]) (st' := [.int (m 3262 (am_ix (q12 + x2)))]) rfl ?_
          cases hm
          exact am_end (am_fd ck_X9_of (pc := 83) rfl) am_rI rfl rfl
      · replace hm := am_if hm hc5
        refine am_steps ck_X9_of 3 (pc' := 25) (lv' := [(0, .ref 3261), (1, .int x1), (2, .int x2), (3, .int x3)]) (st' := [.ref 3261, .int x1, .ref 3261]) rfl ?_
        refine ms_getr (ci := 7) (k := 6) (v := 3266) (am_fd ck_X9_of (pc := 25) rfl) tw_881 kc_3261 rfl (ly_3261_6 hL) kc_3266 ?_
        obtain ⟨q14, hq14, hm⟩ := am_bE hm
        refine ms_callVv (M2 := mt_X9_laysBranch) (d2 := 3) (ci := 7) [.int x1, .ref 3266] (am_fd ck_X9_of (pc := 28) rfl) ok_X9_laysBranch tw_1169 tw_1171 ts_62 (by decide) kc_3261 (Nat.le_of_ble_eq_true rfl) (Nat.le_of_ble_eq_true rfl) (x_X9_laysBranch hL kc_3266 hq14) ?_
        refine am_steps ck_X9_of 1 (pc' := 32) (lv' := [(0, .ref 3261), (1, .int x1), (2, .int x2), (3, .int x3)]) (st' := [.int x3]) rfl ?_
        refine am_ifc (tgt := 49) (am_fd ck_X9_of (pc := 32) rfl) rfl (fun hc15 => ?_) (fun hc15 => ?_)
        · replace hm := am_it hm hc15
          refine am_steps ck_X9_of 2 (pc' := 51) (lv' := [(0, .ref 3261), (1, .int x1), (2, .int x2), (3, .int x3)]) (st' := [.int (am_i 1), .int x3]) rfl ?_
          refine am_icmp (tgt := 68) (am_fd ck_X9_of (pc := 51) rfl) rfl (fun hc16 => ?_) (fun hc16 => ?_)
          · replace hm := am_it hm hc16
            refine am_steps ck_X9_of 2 (pc' := 70) (lv' := [(0, .ref 3261), (1, .int x1), (2, .int x2), (3, .int x3)]) (st' := [.int (am_i 2), .int x3]) rfl ?_
            refine am_icmp (tgt := 82) (am_fd ck_X9_of (pc := 70) rfl) rfl (fun hc17 => ?_) (fun hc17 => ?_)
            · replace hm := am_it hm hc17
              refine am_steps ck_X9_of 1 (pc' := 83) (lv' := [(0, .ref 3261), (1, .int x1), (2, .int x2), (3, .int x3)]) (st' := [.int (am_i (-1))]) rfl ?_
              cases hm
              exact am_end (am_fd ck_X9_of (pc := 83) rfl) am_rI rfl rfl
            · replace hm := am_if hm hc17
              refine am_steps ck_X9_of 1 (pc' := 74) (lv' := [(0, .ref 3261), (1, .int x1), (2, .int x2), (3, .int x3)]) (st' := [.ref 3261]) rfl ?_
              refine ms_getr (ci := 7) (k := 6) (v := 3266) (am_fd ck_X9_of (pc := 74) rfl) tw_881 kc_3261 rfl (ly_3261_6 hL) kc_3266 ?_
              refine am_steps ck_X9_of 1 (pc' := 78) (lv' := [(0, .ref 3261), (1, .int x1), (2, .int x2), (3, .int x3)]) (st' := [.int x2, .ref 3266]) rfl ?_
              obtain ⟨hb18, hm⟩ := am_gE hm
              refine ms_iald (n := 64) (am_fd ck_X9_of (pc := 78) rfl) kc_3266 hb18 ?_
              refine am_steps ck_X9_of 1 (pc' := 83) (lv' := [(0, .ref 3261), (1, .int x1), (2, .int x2), (3, .int x3)]) (st' := [.int (q14 3266 (am_ix x2))]) rfl ?_
              cases hm
              exact am_end (am_fd ck_X9_of (pc := 83) rfl) am_rI rfl rfl
          · replace hm := am_if hm hc16
            refine am_steps ck_X9_of 1 (pc' := 55) (lv' := [(0, .ref 3261), (1, .int x1), (2, .int x2), (3, .int x3)]) (st' := [.ref 3261]) rfl ?_
            refine ms_getr (ci := 7) (k := 0) (v := 3262) (am_fd ck_X9_of (pc := 55) rfl) tw_875 kc_3261 rfl (ly_3261_0 hL) kc_3262 ?_
            refine am_steps ck_X9_of 1 (pc' := 59) (lv' := [(0, .ref 3261), (1, .int x1), (2, .int x2), (3, .int x3)]) (st' := [.int x1, .ref 3262]) rfl ?_
            obtain ⟨q19, hq19, hm⟩ := am_bE hm
            refine ms_callS (M2 := mt_X9_sumAt) (d2 := 1) [.int x1] (am_fd ck_X9_of (pc := 59) rfl) ok_X9_sumAt tw_982 tw_983 (Nat.le_of_ble_eq_true rfl) (Nat.le_of_ble_eq_true rfl) (x_X9_sumAt hL hq19) ?_
            refine am_steps ck_X9_of 2 (pc' := 64) (lv' := [(0, .ref 3261), (1, .int x1), (2, .int x2), (3, .int x3)]) (st' := [.int (q19 + x2), .ref 3262]) rfl ?_
            obtain ⟨hb20, hm⟩ := am_gE hm
            refine ms_iald (n := 15517) (am_fd ck_X9_of (pc := 64) rfl) kc_3262 hb20 ?_
            refine am_steps ck_X9_of 1 (pc' := 83) (lv' := [(0, .ref 3261), (1, .int x1), (2, .int x2), (3, .int x3)]) (st' := [.int (q14 3262 (am_ix (q19 + x2)))]) rfl ?_
            cases hm
            exact am_end (am_fd ck_X9_of (pc := 83) rfl) am_rI rfl rfl
        · replace hm := am_if hm hc15
          refine am_steps ck_X9_of 1 (pc' := 36) (lv' := [(0, .ref 3261), (1, .int x1), (2, .int x2), (3, .int x3)]) (st' := [.ref 3261]) rfl ?_
          refine ms_getr (ci := 7) (k := 0) (v := 3262) (am_fd ck_X9_of (pc := 36) rfl) tw_875 kc_3261 rfl (ly_3261_0 hL) kc_3262 ?_
          refine am_steps ck_X9_of 1 (pc' := 40) (lv' := [(0, .ref 3261), (1, .int x1), (2, .int x2), (3, .int x3)]) (st' := [.int x1, .ref 3262]) rfl ?_
          obtain ⟨q21, hq21, hm⟩ := am_bE hm
          refine ms_callS (M2 := mt_X9_ownAt) (d2 := 1) [.int x1] (am_fd ck_X9_of (pc := 40) rfl) ok_X9_ownAt tw_959 tw_960 (Nat.le_of_ble_eq_true rfl) (Nat.le_of_ble_eq_true rfl) (x_X9_ownAt hL hq21) ?_
          refine am_steps ck_X9_of 2 (pc' := 45) (lv' := [(0, .ref 3261), (1, .int x1), (2, .int x2), (3, .int x3)]) (st' := [.int (q21 + x2), .ref 3262]) rfl ?_
          obtain ⟨hb22, hm⟩ := am_gE hm
          refine ms_iald (n := 15517) (am_fd ck_X9_of (pc := 45) rfl) kc_3262 hb22 ?_
          refine am_steps ck_X9_of 1 (pc' := 83) (lv' := [(0, .ref 3261), (1, .int x1), (2, .int x2), (3, .int x3)]) (st' := [.int (q14 3262 (am_ix (q21 + x2)))]) rfl ?_
          cases hm
          exact am_end (am_fd ck_X9_of (pc := 83) rfl) am_rI rfl rfl
    · replace hm := am_if hm hc4
      refine am_steps ck_X9_of 1 (pc' := 16) (lv' := [(0, .ref 3261), (1, .int x1), (2, .int x2), (3, .int x3)]) (st' := [.int (am_i (-1))]) rfl ?_
      cases hm
      exact am_end (am_fd ck_X9_of (pc := 16) rfl) am_rI rfl rfl
set_option maxRecDepth 100000 in
set_option maxHeartbeats 4000000 in
theorem x_X9_rankedIn_11 {G : am_G} {x1 : Int32} {x2 : Int32} {m : am_m} {r : am_rr} {y1 : Int32} {res : Int32} {k : Option (Int32)} (hL : am_Lay r) : ∀ (n : Nat) (z3 : Int32) (z4 : Int32), m_X9_rankedIn_11 x1 x2 m y1 k n z3 z4 = some res → (k = some res → am_W G mt_X9_rankedIn 2 (some (.int res)) (am_hh m r) 46 [] [] (am_hh m r)) → am_W G mt_X9_rankedIn 2 (some (.int res)) (am_hh m r) 11 [(0, .ref 3261), (1, .int y1), (3, .int z3), (4, .int z4)] [] (am_hh m r) := by
  intro n
  induction n with
  | zero => intro z3 z4 hm K; cases hm
  | succ n ih =>
    intro z3 z4 hm K
    unfold m_X9_rankedIn_11 at hm
    refine am_steps ck_X9_rankedIn 2 (pc' := 15) (lv' := [(0, .ref 3261), (1, .int y1), (3, .int z3), (4, .int z4)]) (st' := [.int (am_i 64), .int z4]) rfl ?_
    refine am_icmp (tgt := 46) (am_fd ck_X9_rankedIn (pc := 15) rfl) rfl (fun hc2 => ?_) (fun hc2 => ?_)
    · replace hm := am_it hm hc2
      refine am_subp [] rfl ?_
      exact K hm
    · replace hm := am_if hm hc2
      refine am_steps ck_X9_rankedIn 2 (pc' := 20) (lv' := [(0, .ref 3261), (1, .int y1), (3, .int z3), (4, .int z4)]) (st' := [.ref 3261, .int z3]) rfl ?_
      refine ms_getr (ci := 7) (k := 0) (v := 3262) (am_fd ck_X9_rankedIn (pc := 20) rfl) tw_875 kc_3261 rfl (ly_3261_0 hL) kc_3262 ?_
      refine am_steps ck_X9_rankedIn 1 (pc' := 24) (lv' := [(0, .ref 3261), (1, .int y1), (3, .int z3), (4, .int z4)]) (st' := [.int y1, .ref 3262, .int z3]) rfl ?_
      obtain ⟨q3, hq3, hm⟩ := am_bE hm
      refine ms_callS (M2 := mt_X9_sumAt) (d2 := 1) [.int y1] (am_fd ck_X9_rankedIn (pc := 24) rfl) ok_X9_sumAt tw_982 tw_983 (Nat.le_of_ble_eq_true rfl) (Nat.le_of_ble_eq_true rfl) (x_X9_sumAt hL hq3) ?_
      refine am_steps ck_X9_rankedIn 2 (pc' := 30) (lv' := [(0, .ref 3261), (1, .int y1), (3, .int z3), (4, .int z4)]) (st' := [.int (q3 + z4), .ref 3262, .int z3]) rfl ?_
      obtain ⟨hb4, hm⟩ := am_gE hm
      refine ms_iald (n := 15517) (am_fd ck_X9_rankedIn (pc := 30) rfl) kc_3262 hb4 ?_
      refine am_steps ck_X9_rankedIn 3 (pc' := 34) (lv' := [(3, .int (z3 - (m 3262 (am_ix (q3 + z4))))), (0, .ref 3261), (1, .int y1), (4, .int z4)]) (st' := [.int (z3 - (m 3262 (am_ix (q3 + z4))))]) rfl ?_
      refine am_ifc (tgt := 40) (am_fd ck_X9_rankedIn (pc := 34) rfl) rfl (fun hc5 => ?_) (fun hc5 => ?_)
      · replace hm := am_it hm hc5
        refine am_steps ck_X9_rankedIn 2 (pc' := 11) (lv' := [(4, .int (z4 + am_i 1)), (3, .int (z3 - (m 3262 (am_ix (q3 + z4))))), (0, .ref 3261), (1, .int y1)]) (st' := []) rfl ?_
        refine am_subp [2, 3, 1, 0] rfl ?_
        exact ih _ _ hm K
      · replace hm := am_if hm hc5
        refine am_steps ck_X9_rankedIn 1 (pc' := 39) (lv' := [(3, .int (z3 - (m 3262 (am_ix (q3 + z4))))), (0, .ref 3261), (1, .int y1), (4, .int z4)]) (st' := [.int z4]) rfl ?_
        cases hm
        exact am_end (am_fd ck_X9_rankedIn (pc := 39) rfl) am_rI rfl rfl
set_option maxRecDepth 100000 in
set_option maxHeartbeats 4000000 in
theorem x_X9_rankedIn {G : am_G} {m : am_m} {r : am_rr} {x1 : Int32} {x2 : Int32} {res : Int32} (hL : am_Lay r) (hm : m_X9_rankedIn m x1 x2 = some res) : am_Met G mt_X9_rankedIn 2 [.ref 3261, .int x1, .int x2] (am_hh m r) (some (.int res)) (am_hh m r) := by
  refine am_of (by decide) (Nat.le_of_ble_eq_true rfl) ?_
  unfold m_X9_rankedIn at hm
  show am_W G mt_X9_rankedIn 2 _ _ 0 [(0, .ref 3261), (1, .int x1), (2, .int x2)] [] (am_hh m r)
  refine am_steps ck_X9_rankedIn 1 (pc' := 1) (lv' := [(0, .ref 3261), (1, .int x1), (2, .int x2)]) (st' := [.int x2]) rfl ?_
  refine am_ifc (tgt := 6) (am_fd ck_X9_rankedIn (pc := 1) rfl) rfl (fun hc1 => ?_) (fun hc1 => ?_)
  · replace hm := am_it hm hc1
    refine am_steps ck_X9_rankedIn 4 (pc' := 11) (lv' := [(4, .int (am_i 0)), (3, .int x2), (0, .ref 3261), (1, .int x1), (2, .int x2)]) (st' := []) rfl ?_
    refine am_subp [2, 3, 1, 0] rfl ?_
    refine x_X9_rankedIn_11 hL am_F _ _ hm (fun hm => ?_)
    refine am_steps ck_X9_rankedIn 1 (pc' := 47) (lv' := []) (st' := [.int (am_i (-1))]) rfl ?_
    cases hm
    exact am_end (am_fd ck_X9_rankedIn (pc := 47) rfl) am_rI rfl rfl
  · replace hm := am_if hm hc1
    refine am_steps ck_X9_rankedIn 1 (pc' := 5) (lv' := [(0, .ref 3261), (1, .int x1), (2, .int x2)]) (st' := [.int (am_i (-1))]) rfl ?_
    cases hm
    exact am_end (am_fd ck_X9_rankedIn (pc := 5) rfl) am_rI rfl rfl
set_option maxRecDepth 100000 in
set_option maxHeartbeats 4000000 in
theorem x_X9_allOf {G : am_G} {m : am_m} {r : am_rr} {x1 : Int32} {res : Int32 × am_m} (hL : am_Lay r) (hm : m_X9_allOf m x1 = some res) : am_Met G mt_X9_allOf 2 [.ref 3261, .int x1] (am_hh m r) (some (.int res.1)) (am_hh res.2 r) := by
  refine am_of (by decide) (Nat.le_of_ble_eq_true rfl) ?_
  unfold m_X9_allOf at hm
  show am_W G mt_X9_allOf 2 _ _ 0 [(0, .ref 3261), (1, .int x1)] [] (am_hh m r)
  refine am_steps ck_X9_allOf 2 (pc' := 2) (lv' := [(0, .ref 3261), (1, .int x1)]) (st' := [.int x1, .ref 3261]) rfl ?_
  obtain ⟨q1, hq1, hm⟩ := am_bE hm
  refine ms_callS (M2 := mt_X9_sumAt) (d2 := 1) [.int x1] (am_fd ck_X9_allOf (pc := 2) rfl) ok_X9_sumAt tw_982 tw_983 (Nat.le_of_ble_eq_true rfl) (Nat.le_of_ble_eq_true rfl) (x_X9_sumAt hL hq1) ?_
  refine am_steps ck_X9_allOf 1 (pc' := 6) (lv' := [(0, .ref 3261), (1, .int x1)]) (st' := [.ref 3261, .int q1, .ref 3261]) rfl ?_
  refine ms_getr (ci := 7) (k := 6) (v := 3266) (am_fd ck_X9_allOf (pc := 6) rfl) tw_881 kc_3261 rfl (ly_3261_6 hL) kc_3266 ?_
  obtain ⟨q2, hq2, hm⟩ := am_bE hm
  refine ms_callVv (M2 := mt_X9_lays) (d2 := 1) (ci := 7) [.int q1, .ref 3266] (am_fd ck_X9_allOf (pc := 9) rfl) ok_X9_lays tw_1001 tw_1003 ts_36 (by decide) kc_3261 (Nat.le_of_ble_eq_true rfl) (Nat.le_of_ble_eq_true rfl) (x_X9_lays hL kc_3266 hq2) ?_
  refine am_steps ck_X9_allOf 1 (pc' := 13) (lv' := [(0, .ref 3261), (1, .int x1)]) (st' := [.ref 3261]) rfl ?_
  refine ms_getr (ci := 7) (k := 6) (v := 3266) (am_fd ck_X9_allOf (pc := 13) rfl) tw_881 kc_3261 rfl (ly_3261_6 hL) kc_3266 ?_
  obtain ⟨q3, hq3, hm⟩ := am_bE hm
  refine ms_callS (M2 := mt_X9_all) (d2 := 1) [.ref 3266] (am_fd ck_X9_allOf (pc := 16) rfl) ok_X9_all tw_1043 tw_1044 (Nat.le_of_ble_eq_true rfl) (Nat.le_of_ble_eq_true rfl) (x_X9_all hL kc_3266 hq3) ?_
  cases hm
  exact am_end (am_fd ck_X9_allOf (pc := 19) rfl) am_rI rfl rfl
set_option maxRecDepth 100000 in
set_option maxHeartbeats 4000000 in
theorem x_X9_ranked {G : am_G} {m : am_m} {r : am_rr} {x1 : Int32} {x2 : Int32} {res : Int32} (hL : am_Lay r) (hm : m_X9_ranked m x1 x2 = some res) : am_Met G mt_X9_ranked 3 [.ref 3261, .int x1, .int x2] (am_hh m r) (some (.int res)) (am_hh m r) := by
  refine am_of (by decide) (Nat.le_of_ble_eq_true rfl) ?_
  unfold m_X9_ranked at hm
  show am_W G mt_X9_ranked 3 _ _ 0 [(0, .ref 3261), (1, .int x1), (2, .int x2)] [] (am_hh m r)
  refine am_steps ck_X9_ranked 2 (pc' := 2) (lv' := [(0, .ref 3261), (1, .int x1), (2, .int x2)]) (st' := [.int x1, .ref 3261]) rfl ?_
  obtain ⟨q1, hq1, hm⟩ := am_bE hm
  refine ms_callV (M2 := mt_X9_isUnit) (d2 := 2) (ci := 7) [.int x1] (am_fd ck_X9_ranked (pc := 2) rfl) ok_X9_isUnit tw_949 tw_951 ts_28 (by decide) kc_3261 (Nat.le_of_ble_eq_true rfl) (Nat.le_of_ble_eq_true rfl) (x_X9_isUnit hL hq1) ?_
  refine am_ifc (tgt := 17) (am_fd ck_X9_ranked (pc := 5) rfl) rfl (fun hc2 => ?_) (fun hc2 => ?_)
  · replace hm := am_it hm hc2
    refine am_steps ck_X9_ranked 1 (pc' := 18) (lv' := [(0, .ref 3261), (1, .int x1), (2, .int x2)]) (st' := [.int (am_i (-1))]) rfl ?_
    cases hm
    exact am_end (am_fd ck_X9_ranked (pc := 18) rfl) am_rI rfl rfl
  · replace hm := am_if hm hc2
    refine am_steps ck_X9_ranked 3 (pc' := 11) (lv' := [(0, .ref 3261), (1, .int x1), (2, .int x2)]) (st' := [.int x2, .int x1, .ref 3261]) rfl ?_
    obtain ⟨q3, hq3, hm⟩ := am_bE hm
    refine ms_callV (M2 := mt_X9_rankedIn) (d2 := 2) (ci := 7) [.int x1, .int x2] (am_fd ck_X9_ranked (pc := 11) rfl) ok_X9_rankedIn tw_1197 tw_1199 ts_64 (by decide) kc_3261 (Nat.le_of_ble_eq_true rfl) (Nat.le_of_ble_eq_true rfl) (x_X9_rankedIn hL hq3) ?_
    refine am_steps ck_X9_ranked 1 (pc' := 18) (lv' := [(0, .ref 3261), (1, .int x1), (2, .int x2)]) (st' := [.int q3]) rfl ?_
    cases hm
    exact am_end (am_fd ck_X9_ranked (pc := 18) rfl) am_rI rfl rfl
set_option maxRecDepth 100000 in
set_option maxHeartbeats 4000000 in
theorem x_X9_less_25 {G : am_G} {x1 : Int32} {x2 : Int32} {m : am_m} {r : am_rr} {y1 : Int32} {y2 : Int32} {res : Int32} {k : Int32 → Option (Int32)} (hL : am_Lay r) : ∀ (n : Nat) (z3 : Int32) (z4 : Int32), m_X9_less_25 x1 x2 m y1 y2 k n z3 z4 = some res → (∀ (u3 : Int32), k u3 = some res → am_W G mt_X9_less 3 (some (.int res)) (am_hh m r) 52 [(3, .int u3)] [] (am_hh m r)) → am_W G mt_X9_less 3 (some (.int res)) (am_hh m r) 25 [(0, .ref 3261), (1, .int y1), (2, .int y2), (3, .int z3), (4, .int z4)] [] (am_hh m r) := by
  intro n
  induction n with
  | zero => intro z3 z4 hm K; cases hm
  | succ n ih =>
    intro z3 z4 hm K
    unfold m_X9_less_25 at hm
    refine am_steps ck_X9_less 2 (pc' := 28) (lv' := [(0, .ref 3261), (1, .int y1), (2, .int y2), (3, .int z3), (4, .int z4)]) (st' := [.int y2, .int z4]) rfl ?_
    refine am_icmp (tgt := 52) (am_fd ck_X9_less (pc := 28) rfl) rfl (fun hc5 => ?_) (fun hc5 => ?_)
    · replace hm := am_it hm hc5
      refine am_subp [3] rfl ?_
      exact K _ hm
    · replace hm := am_if hm hc5
      refine am_steps ck_X9_less 2 (pc' := 33) (lv' := [(0, .ref 3261), (1, .int y1), (2, .int y2), (3, .int z3), (4, .int z4)]) (st' := [.ref 3261, .int z3]) rfl ?_
      refine ms_getr (ci := 7) (k := 0) (v := 3262) (am_fd ck_X9_less (pc := 33) rfl) tw_875 kc_3261 rfl (ly_3261_0 hL) kc_3262 ?_
      refine am_steps ck_X9_less 1 (pc' := 37) (lv' := [(0, .ref 3261), (1, .int y1), (2, .int y2), (3, .int z3), (4, .int z4)]) (st' := [.int y1, .ref 3262, .int z3]) rfl ?_
      obtain ⟨q6, hq6, hm⟩ := am_bE hm
      refine ms_callS (M2 := mt_X9_sumAt) (d2 := 1) [.int y1] (am_fd ck_X9_less (pc := 37) rfl) ok_X9_sumAt tw_982 tw_983 (Nat.le_of_ble_eq_true rfl) (Nat.le_of_ble_eq_true rfl) (x_X9_sumAt hL hq6) ?_
      refine am_steps ck_X9_less 2 (pc' := 43) (lv' := [(0, .ref 3261), (1, .int y1), (2, .int y2), (3, .int z3), (4, .int z4)]) (st' := [.int (q6 + z4), .ref 3262, .int z3]) rfl ?_
      obtain ⟨hb7, hm⟩ := am_gE hm
      refine ms_iald (n := 15517) (am_fd ck_X9_less (pc := 43) rfl) kc_3262 hb7 ?_
      refine am_steps ck_X9_less 4 (pc' := 25) (lv' := [(4, .int (z4 + am_i 1)), (3, .int (z3 + (m 3262 (am_ix (q6 + z4))))), (0, .ref 3261), (1, .int y1), (2, .int y2)]) (st' := []) rfl ?_
      refine am_subp [2, 3, 4, 1, 0] rfl ?_
      exact ih _ _ hm K
set_option maxRecDepth 100000 in
set_option maxHeartbeats 4000000 in
theorem x_X9_less {G : am_G} {m : am_m} {r : am_rr} {x1 : Int32} {x2 : Int32} {res : Int32} (hL : am_Lay r) (hm : m_X9_less m x1 x2 = some res) : am_Met G mt_X9_less 3 [.ref 3261, .int x1, .int x2] (am_hh m r) (some (.int res)) (am_hh m r) := by
  refine am_of (by decide) (Nat.le_of_ble_eq_true rfl) ?_
  unfold m_X9_less at hm
  show am_W G mt_X9_less 3 _ _ 0 [(0, .ref 3261), (1, .int x1), (2, .int x2)] [] (am_hh m r)
  refine am_steps ck_X9_less 2 (pc' := 2) (lv' := [(0, .ref 3261), (1, .int x1), (2, .int x2)]) (st' := [.int x1, .ref 3261]) rfl ?_
  obtain ⟨q1, hq1, hm⟩ := am_bE hm
  refine ms_callV (M2 := mt_X9_isUnit) (d2 := 2) (ci := 7) [.int x1] (am_fd ck_X9_less (pc := 2) rfl) ok_X9_isUnit tw_949 tw_951 ts_28 (by decide) kc_3261 (Nat.le_of_ble_eq_true rfl) (Nat.le_of_ble_eq_true rfl) (x_X9_isUnit hL hq1) ?_
  refine am_ifc (tgt := 18) (am_fd ck_X9_less (pc := 5) rfl) rfl (fun hc2 => ?_) (fun hc2 => ?_)
  · replace hm := am_it hm hc2
    refine am_steps ck_X9_less 1 (pc' := 19) (lv' := [(0, .ref 3261), (1, .int x1), (2, .int x2)]) (st' := [.int (am_i (-1))]) rfl ?_
    cases hm
    exact am_end (am_fd ck_X9_less (pc := 19) rfl) am_rI rfl rfl
  · replace hm := am_if hm hc2
    refine am_steps ck_X9_less 3 (pc' := 12) (lv' := [(0, .ref 3261), (1, .int x1), (2, .int x2)]) (st' := [.int (am_i 64), .int (am_i 0), .int x2]) rfl ?_
    obtain ⟨q3, hq3, hm⟩ := am_bE hm
    refine ms_callS (M2 := mt_X9_isIn) (d2 := 1) [.int x2, .int (am_i 0), .int (am_i 64)] (am_fd ck_X9_less (pc := 12) rfl) ok_X9_isIn tw_953 tw_954 (Nat.le_of_ble_eq_true rfl) (Nat.le_of_ble_eq_true rfl) (x_X9_isIn hL hq3) ?_
    refine am_ifc (tgt := 20) (am_fd ck_X9_less (pc := 15) rfl) rfl (fun hc4 => ?_) (fun hc4 => ?_)
    · replace hm := am_it hm hc4
      refine am_steps ck_X9_less 4 (pc' := 25) (lv' := [(4, .int (am_i 0)), (3, .int (am_i 0)), (0, .ref 3261), (1, .int x1), (2, .int x2)]) (st' := []) rfl ?_
      refine am_subp [2, 3, 4, 1, 0] rfl ?_
      refine x_X9_less_25 hL am_F _ _ hm (fun u8 hm => ?_)
      refine am_steps ck_X9_less 1 (pc' := 53) (lv' := [(3, .int u8)]) (st' := [.int u8]) rfl ?_
      cases hm
      exact am_end (am_fd ck_X9_less (pc := 53) rfl) am_rI rfl rfl
    · replace hm := am_if hm hc4
      refine am_steps ck_X9_less 1 (pc' := 19) (lv' := [(0, .ref 3261), (1, .int x1), (2, .int x2)]) (st' := [.int (am_i (-1))]) rfl ?_
      cases hm
      exact am_end (am_fd ck_X9_less (pc := 19) rfl) am_rI rfl rfl
set_option maxRecDepth 100000 in
set_option maxHeartbeats 4000000 in
theorem x_X9_leadsAhead {G : am_G} {m : am_m} {r : am_rr} {x1 : Int32} {x2 : Int32} {x3 : Int32} {res : Int32} (hL : am_Lay r) (hm : m_X9_leadsAhead m x1 x2 x3 = some res) : am_Met G mt_X9_leadsAhead 2 [.ref 3261, .int x1, .int x2, .int x3] (am_hh m r) (some (.int res)) (am_hh m r) := by
  refine am_of (by decide) (Nat.le_of_ble_eq_true rfl) ?_
  unfold m_X9_leadsAhead at hm
  show am_W G mt_X9_leadsAhead 2 _ _ 0 [(0, .ref 3261), (1, .int x1), (2, .int x2), (3, .int x3)] [] (am_hh m r)
  refine am_steps ck_X9_leadsAhead 1 (pc' := 1) (lv' := [(0, .ref 3261), (1, .int x1), (2, .int x2), (3, .int x3)]) (st' := [.ref 3261]) rfl ?_
  refine ms_getr (ci := 7) (k := 0) (v := 3262) (am_fd ck_X9_leadsAhead (pc := 1) rfl) tw_875 kc_3261 rfl (ly_3261_0 hL) kc_3262 ?_
  refine am_steps ck_X9_leadsAhead 1 (pc' := 5) (lv' := [(0, .ref 3261), (1, .int x1), (2, .int x2), (3, .int x3)]) (st' := [.int x1, .ref 3262]) rfl ?_
  obtain ⟨q1, hq1, hm⟩ := am_bE hm
  refine ms_callS (M2 := mt_X9_sumAt) (d2 := 1) [.int x1] (am_fd ck_X9_leadsAhead (pc := 5) rfl) ok_X9_sumAt tw_982 tw_983 (Nat.le_of_ble_eq_true rfl) (Nat.le_of_ble_eq_true rfl) (x_X9_sumAt hL hq1) ?_
  refine am_steps ck_X9_leadsAhead 2 (pc' := 10) (lv' := [(0, .ref 3261), (1, .int x1), (2, .int x2), (3, .int x3)]) (st' := [.int (q1 + x2), .ref 3262]) rfl ?_
  obtain ⟨hb2, hm⟩ := am_gE hm
  refine ms_iald (n := 15517) (am_fd ck_X9_leadsAhead (pc := 10) rfl) kc_3262 hb2 ?_
  refine am_steps ck_X9_leadsAhead 2 (pc' := 14) (lv' := [(4, .int (m 3262 (am_ix (q1 + x2)))), (0, .ref 3261), (1, .int x1), (2, .int x2), (3, .int x3)]) (st' := [.ref 3261]) rfl ?_
  refine ms_getr (ci := 7) (k := 0) (v := 3262) (am_fd ck_X9_leadsAhead (pc := 14) rfl) tw_875 kc_3261 rfl (ly_3261_0 hL) kc_3262 ?_
  refine am_steps ck_X9_leadsAhead 1 (pc' := 18) (lv' := [(4, .int (m 3262 (am_ix (q1 + x2)))), (0, .ref 3261), (1, .int x1), (2, .int x2), (3, .int x3)]) (st' := [.int x1, .ref 3262]) rfl ?_
  obtain ⟨q3, hq3, hm⟩ := am_bE hm
  refine ms_callS (M2 := mt_X9_sumAt) (d2 := 1) [.int x1] (am_fd ck_X9_leadsAhead (pc := 18) rfl) ok_X9_sumAt tw_982 tw_983 (Nat.le_of_ble_eq_true rfl) (Nat.le_of_ble_eq_true rfl) (x_X9_sumAt hL hq3) ?_
  refine am_steps ck_X9_leadsAhead 2 (pc' := 23) (lv' := [(4, .int (m 3262 (am_ix (q1 + x2)))), (0, .ref 3261), (1, .int x1), (2, .int x2), (3, .int x3)]) (st' := [.int (q3 + x3), .ref 3262]) rfl ?_
  obtain ⟨hb4, hm⟩ := am_gE hm
  refine ms_iald (n := 15517) (am_fd ck_X9_leadsAhead (pc := 23) rfl) kc_3262 hb4 ?_
  refine am_steps ck_X9_leadsAhead 3 (pc' := 30) (lv' := [(5, .int (m 3262 (am_ix (q3 + x3)))), (4, .int (m 3262 (am_ix (q1 + x2)))), (0, .ref 3261), (1, .int x1), (2, .int x2), (3, .int x3)]) (st' := [.int (m 3262 (am_ix (q3 + x3))), .int (m 3262 (am_ix (q1 + x2)))]) rfl ?_
  refine am_icmp (tgt := 48) (am_fd ck_X9_leadsAhead (pc := 30) rfl) rfl (fun hc5 => ?_) (fun hc5 => ?_)
  · replace hm := am_it hm hc5
    refine am_steps ck_X9_leadsAhead 2 (pc' := 50) (lv' := [(5, .int (m 3262 (am_ix (q3 + x3)))), (4, .int (m 3262 (am_ix (q1 + x2)))), (0, .ref 3261), (1, .int x1), (2, .int x2), (3, .int x3)]) (st' := [.int x3, .int x2]) rfl ?_
    refine am_icmp (tgt := 57) (am_fd ck_X9_leadsAhead (pc := 50) rfl) rfl (fun hc6 => ?_) (fun hc6 => ?_)
    · replace hm := am_it hm hc6
      refine am_steps ck_X9_leadsAhead 1 (pc' := 58) (lv' := [(5, .int (m 3262 (am_ix (q3 + x3)))), (4, .int (m 3262 (am_ix (q1 + x2)))), (0, .ref 3261), (1, .int x1), (2, .int x2), (3, .int x3)]) (st' := [.int (am_i 0)]) rfl ?_
      cases hm
      exact am_end (am_fd ck_X9_leadsAhead (pc := 58) rfl) am_rZ0 rfl rfl
    · replace hm := am_if hm hc6
      refine am_steps ck_X9_leadsAhead 2 (pc' := 58) (lv' := [(5, .int (m 3262 (am_ix (q3 + x3)))), (4, .int (m 3262 (am_ix (q1 + x2)))), (0, .ref 3261), (1, .int x1), (2, .int x2), (3, .int x3)]) (st' := [.int (am_i 1)]) rfl ?_
      cases hm
      exact am_end (am_fd ck_X9_leadsAhead (pc := 58) rfl) am_rZ1 rfl rfl
  · replace hm := am_if hm hc5
    refine am_steps ck_X9_leadsAhead 2 (pc' := 37) (lv' := [(5, .int (m 3262 (am_ix (q3 + x3)))), (4, .int (m 3262 (am_ix (q1 + x2)))), (0, .ref 3261), (1, .int x1), (2, .int x2), (3, .int x3)]) (st' := [.int (m 3262 (am_ix (q3 + x3))), .int (m 3262 (am_ix (q1 + x2)))]) rfl ?_
    refine am_icmp (tgt := 44) (am_fd ck_X9_leadsAhead (pc := 37) rfl) rfl (fun hc7 => ?_) (fun hc7 => ?_)
    · replace hm := am_it hm hc7
      refine am_steps ck_X9_leadsAhead 2 (pc' := 58) (lv' := [(5, .int (m 3262 (am_ix (q3 + x3)))), (4, .int (m 3262 (am_ix (q1 + x2)))), (0, .ref 3261), (1, .int x1), (2, .int x2), (3, .int x3)]) (st' := [.int (am_i 0)]) rfl ?_
      cases hm
      exact am_end (am_fd ck_X9_leadsAhead (pc := 58) rfl) am_rZ0 rfl rfl
    · replace hm := am_if hm hc7
      refine am_steps ck_X9_leadsAhead 2 (pc' := 58) (lv' := [(5, .int (m 3262 (am_ix (q3 + x3)))), (4, .int (m 3262 (am_ix (q1 + x2)))), (0, .ref 3261), (1, .int x1), (2, .int x2), (3, .int x3)]) (st' := [.int (am_i 1)]) rfl ?_
      cases hm
      exact am_end (am_fd ck_X9_leadsAhead (pc := 58) rfl) am_rZ1 rfl rfl
set_option maxRecDepth 100000 in
set_option maxHeartbeats 4000000 in
theorem x_X9_leaderOf_31 {G : am_G} {x1 : Int32} {x2 : Int32} {m : am_m} {r : am_rr} {y1 : Int32} {y2 : Int32} {y3 : Int32} {res : Int32} {k : Int32 → Option (Int32)} (hL : am_Lay r) : ∀ (n : Nat) (z4 : Int32) (z5 : Int32), m_X9_leaderOf_31 x1 x2 m y1 y2 y3 k n z4 z5 = some res → (∀ (u4 : Int32), k u4 = some res → am_W G mt_X9_leaderOf 3 (some (.int res)) (am_hh m r) 86 [(0, .ref 3261), (1, .int y1), (2, .int y2), (3, .int y3), (4, .int u4)] [] (am_hh m r)) → am_W G mt_X9_leaderOf 3 (some (.int res)) (am_hh m r) 31 [(0, .ref 3261), (1, .int y1), (2, .int y2), (3, .int y3), (4, .int z4), (5, .int z5)] [] (am_hh m r) := by
  intro n
  induction n with
  | zero => intro z4 z5 hm K; cases hm
  | succ n ih =>
    intro z4 z5 hm K
    unfold m_X9_leaderOf_31 at hm
    refine am_steps ck_X9_leaderOf 2 (pc' := 35) (lv' := [(0, .ref 3261), (1, .int y1), (2, .int y2), (3, .int y3), (4, .int z4), (5, .int z5)]) (st' := [.int (am_i 64), .int z5]) rfl ?_
    refine am_icmp (tgt := 86) (am_fd ck_X9_leaderOf (pc := 35) rfl) rfl (fun hc5 => ?_) (fun hc5 => ?_)
    · replace hm := am_it hm hc5
      refine am_subp [0, 1, 2, 3, 4] rfl ?_
      exact K _ hm
    · replace hm := am_if hm hc5
      refine am_steps ck_X9_leaderOf 3 (pc' := 43) (lv' := [(0, .ref 3261), (1, .int y1), (2, .int y2), (3, .int y3), (4, .int z4), (5, .int z5)]) (st' := [.int y3, .int z5, .int z4]) rfl ?_
      refine am_icmp (tgt := 76) (am_fd ck_X9_leaderOf (pc := 43) rfl) rfl (fun hc6 => ?_) (fun hc6 => ?_)
      · replace hm := am_it hm hc6
        refine am_steps ck_X9_leaderOf 5 (pc' := 31) (lv' := [(5, .int (z5 + am_i 1)), (4, .int (z4 + (am_i 0))), (0, .ref 3261), (1, .int y1), (2, .int y2), (3, .int y3)]) (st' := []) rfl ?_
        refine am_subp [2, 3, 4, 5, 1, 0] rfl ?_
        exact ih _ _ hm K
      · replace hm := am_if hm hc6
        refine am_steps ck_X9_leaderOf 1 (pc' := 47) (lv' := [(0, .ref 3261), (1, .int y1), (2, .int y2), (3, .int y3), (4, .int z4), (5, .int z5)]) (st' := [.ref 3261, .int z4]) rfl ?_
        refine ms_getr (ci := 7) (k := 0) (v := 3262) (am_fd ck_X9_leaderOf (pc := 47) rfl) tw_875 kc_3261 rfl (ly_3261_0 hL) kc_3262 ?_
        refine am_steps ck_X9_leaderOf 1 (pc' := 51) (lv' := [(0, .ref 3261), (1, .int y1), (2, .int y2), (3, .int y3), (4, .int z4), (5, .int z5)]) (st' := [.int y1, .ref 3262, .int z4]) rfl ?_
        obtain ⟨q7, hq7, hm⟩ := am_bE hm
        refine ms_callS (M2 := mt_X9_sumAt) (d2 := 1) [.int y1] (am_fd ck_X9_leaderOf (pc := 51) rfl) ok_X9_sumAt tw_982 tw_983 (Nat.le_of_ble_eq_true rfl) (Nat.le_of_ble_eq_true rfl) (x_X9_sumAt hL hq7) ?_
        refine am_steps ck_X9_leaderOf 2 (pc' := 57) (lv' := [(0, .ref 3261), (1, .int y1), (2, .int y2), (3, .int y3), (4, .int z4), (5, .int z5)]) (st' := [.int (q7 + z5), .ref 3262, .int z4]) rfl ?_
        obtain ⟨hb8, hm⟩ := am_gE hm
        refine ms_iald (n := 15517) (am_fd ck_X9_leaderOf (pc := 57) rfl) kc_3262 hb8 ?_
        refine am_ifc (tgt := 76) (am_fd ck_X9_leaderOf (pc := 58) rfl) rfl (fun hc9 => ?_) (fun hc9 => ?_)
        · replace hm := am_it hm hc9
          refine am_steps ck_X9_leaderOf 5 (pc' := 31) (lv' := [(5, .int (z5 + am_i 1)), (4, .int (z4 + (am_i 0))), (0, .ref 3261), (1, .int y1), (2, .int y2), (3, .int y3)]) (st' := []) rfl ?_
          refine am_subp [2, 3, 4, 5, 1, 0] rfl ?_
          exact ih _ _ hm K
        · replace hm := am_if hm hc9
          refine am_steps ck_X9_leaderOf 4 (pc' := 66) (lv' := [(0, .ref 3261), (1, .int y1), (2, .int y2), (3, .int y3), (4, .int z4), (5, .int z5)]) (st' := [.int y3, .int z5, .int y1, .ref 3261, .int z4]) rfl ?_
          obtain ⟨q10, hq10, hm⟩ := am_bE hm
          refine ms_callV (M2 := mt_X9_leadsAhead) (d2 := 2) (ci := 7) [.int y1, .int z5, .int y3] (am_fd ck_X9_leaderOf (pc := 66) rfl) ok_X9_leadsAhead tw_1213 tw_1215 ts_66 (by decide) kc_3261 (Nat.le_of_ble_eq_true rfl) (Nat.le_of_ble_eq_true rfl) (x_X9_leadsAhead hL hq10) ?_
          refine am_ifc (tgt := 76) (am_fd ck_X9_leaderOf (pc := 69) rfl) rfl (fun hc11 => ?_) (fun hc11 => ?_)
          · replace hm := am_it hm hc11
            refine am_steps ck_X9_leaderOf 5 (pc' := 31) (lv' := [(5, .int (z5 + am_i 1)), (4, .int (z4 + (am_i 0))), (0, .ref 3261), (1, .int y1), (2, .int y2), (3, .int y3)]) (st' := []) rfl ?_
            refine am_subp [2, 3, 4, 5, 1, 0] rfl ?_
            exact ih _ _ hm K
          · replace hm := am_if hm hc11
            refine am_steps ck_X9_leaderOf 6 (pc' := 31) (lv' := [(5, .int (z5 + am_i 1)), (4, .int (z4 + (am_i 1))), (0, .ref 3261), (1, .int y1), (2, .int y2), (3, .int y3)]) (st' := []) rfl ?_
            refine am_subp [2, 3, 4, 5, 1, 0] rfl ?_
            exact ih _ _ hm K
set_option maxRecDepth 100000 in
set_option maxHeartbeats 4000000 in
theorem x_X9_leaderOf_2 {G : am_G} {x1 : Int32} {x2 : Int32} {m : am_m} {r : am_rr} {y1 : Int32} {y2 : Int32} {res : Int32} {k : Option (Int32)} (hL : am_Lay r) : ∀ (n : Nat) (z3 : Int32), m_X9_leaderOf_2 x1 x2 m y1 y2 k n z3 = some res → (k = some res → am_W G mt_X9_leaderOf 3 (some (.int res)) (am_hh m r) 100 [] [] (am_hh m r)) → am_W G mt_X9_leaderOf 3 (some (.int res)) (am_hh m r) 2 [(0, .ref 3261), (1, .int y1), (2, .int y2), (3, .int z3)] [] (am_hh m r) := by
  intro n
  induction n with
  | zero => intro z3 hm K; cases hm
  | succ n ih =>
    intro z3 hm K
    unfold m_X9_leaderOf_2 at hm
    refine am_steps ck_X9_leaderOf 2 (pc' := 5) (lv' := [(0, .ref 3261), (1, .int y1), (2, .int y2), (3, .int z3)]) (st' := [.int (am_i 64), .int z3]) rfl ?_
    refine am_icmp (tgt := 100) (am_fd ck_X9_leaderOf (pc := 5) rfl) rfl (fun hc1 => ?_) (fun hc1 => ?_)
    · replace hm := am_it hm hc1
      refine am_subp [] rfl ?_
      exact K hm
    · replace hm := am_if hm hc1
      refine am_steps ck_X9_leaderOf 1 (pc' := 9) (lv' := [(0, .ref 3261), (1, .int y1), (2, .int y2), (3, .int z3)]) (st' := [.ref 3261]) rfl ?_
      refine ms_getr (ci := 7) (k := 0) (v := 3262) (am_fd ck_X9_leaderOf (pc := 9) rfl) tw_875 kc_3261 rfl (ly_3261_0 hL) kc_3262 ?_
      refine am_steps ck_X9_leaderOf 1 (pc' := 13) (lv' := [(0, .ref 3261), (1, .int y1), (2, .int y2), (3, .int z3)]) (st' := [.int y1, .ref 3262]) rfl ?_
      obtain ⟨q2, hq2, hm⟩ := am_bE hm
      refine ms_callS (M2 := mt_X9_sumAt) (d2 := 1) [.int y1] (am_fd ck_X9_leaderOf (pc := 13) rfl) ok_X9_sumAt tw_982 tw_983 (Nat.le_of_ble_eq_true rfl) (Nat.le_of_ble_eq_true rfl) (x_X9_sumAt hL hq2) ?_
      refine am_steps ck_X9_leaderOf 2 (pc' := 18) (lv' := [(0, .ref 3261), (1, .int y1), (2, .int y2), (3, .int z3)]) (st' := [.int (q2 + z3), .ref 3262]) rfl ?_
      obtain ⟨hb3, hm⟩ := am_gE hm
      refine ms_iald (n := 15517) (am_fd ck_X9_leaderOf (pc := 18) rfl) kc_3262 hb3 ?_
      refine am_ifc (tgt := 25) (am_fd ck_X9_leaderOf (pc := 19) rfl) rfl (fun hc4 => ?_) (fun hc4 => ?_)
      · replace hm := am_it hm hc4
        refine am_steps ck_X9_leaderOf 4 (pc' := 31) (lv' := [(5, .int (am_i 0)), (4, .int (am_i 0)), (0, .ref 3261), (1, .int y1), (2, .int y2), (3, .int z3)]) (st' := []) rfl ?_
        refine am_subp [2, 3, 4, 5, 1, 0] rfl ?_
        refine x_X9_leaderOf_31 hL am_F _ _ hm (fun u12 hm => ?_)
        refine am_steps ck_X9_leaderOf 2 (pc' := 89) (lv' := [(0, .ref 3261), (1, .int y1), (2, .int y2), (3, .int z3), (4, .int u12)]) (st' := [.int y2, .int u12]) rfl ?_
        refine am_icmp (tgt := 94) (am_fd ck_X9_leaderOf (pc := 89) rfl) rfl (fun hc13 => ?_) (fun hc13 => ?_)
        · replace hm := am_it hm hc13
          refine am_steps ck_X9_leaderOf 2 (pc' := 2) (lv' := [(3, .int (z3 + am_i 1)), (0, .ref 3261), (1, .int y1), (2, .int y2), (4, .int u12)]) (st' := []) rfl ?_
          refine am_subp [1, 2, 3, 0] rfl ?_
          exact ih _ hm K
        · replace hm := am_if hm hc13
          refine am_steps ck_X9_leaderOf 1 (pc' := 93) (lv' := [(0, .ref 3261), (1, .int y1), (2, .int y2), (3, .int z3), (4, .int u12)]) (st' := [.int z3]) rfl ?_
          cases hm
          exact am_end (am_fd ck_X9_leaderOf (pc := 93) rfl) am_rI rfl rfl
      · replace hm := am_if hm hc4
        refine am_steps ck_X9_leaderOf 3 (pc' := 2) (lv' := [(3, .int (z3 + am_i 1)), (0, .ref 3261), (1, .int y1), (2, .int y2)]) (st' := []) rfl ?_
        refine am_subp [1, 2, 3, 0] rfl ?_
        exact ih _ hm K
set_option maxRecDepth 100000 in
set_option maxHeartbeats 4000000 in
theorem x_X9_leaderOf {G : am_G} {m : am_m} {r : am_rr} {x1 : Int32} {x2 : Int32} {res : Int32} (hL : am_Lay r) (hm : m_X9_leaderOf m x1 x2 = some res) : am_Met G mt_X9_leaderOf 3 [.ref 3261, .int x1, .int x2] (am_hh m r) (some (.int res)) (am_hh m r) := by
  refine am_of (by decide) (Nat.le_of_ble_eq_true rfl) ?_
  unfold m_X9_leaderOf at hm
  show am_W G mt_X9_leaderOf 3 _ _ 0 [(0, .ref 3261), (1, .int x1), (2, .int x2)] [] (am_hh m r)
  refine am_steps ck_X9_leaderOf 2 (pc' := 2) (lv' := [(3, .int (am_i 0)), (0, .ref 3261), (1, .int x1), (2, .int x2)]) (st' := []) rfl ?_
  refine am_subp [1, 2, 3, 0] rfl ?_
  refine x_X9_leaderOf_2 hL am_F _ hm (fun hm => ?_)
  refine am_steps ck_X9_leaderOf 1 (pc' := 101) (lv' := []) (st' := [.int (am_i (-1))]) rfl ?_
  cases hm
  exact am_end (am_fd ck_X9_leaderOf (pc := 101) rfl) am_rI rfl rfl
set_option maxRecDepth 100000 in
set_option maxHeartbeats 4000000 in
theorem x_X9_leader {G : am_G} {m : am_m} {r : am_rr} {x1 : Int32} {x2 : Int32} {x3 : Int32} {res : Int32} (hL : am_Lay r) (hm : m_X9_leader m x1 x2 x3 = some res) : am_Met G mt_X9_leader 4 [.ref 3261, .int x1, .int x2, .int x3] (am_hh m r) (some (.int res)) (am_hh m r) := by
  refine am_of (by decide) (Nat.le_of_ble_eq_true rfl) ?_
  unfold m_X9_leader at hm
  show am_W G mt_X9_leader 4 _ _ 0 [(0, .ref 3261), (1, .int x1), (2, .int x2), (3, .int x3)] [] (am_hh m r)
  refine am_steps ck_X9_leader 2 (pc' := 2) (lv' := [(0, .ref 3261), (1, .int x1), (2, .int x2), (3, .int x3)]) (st' := [.int x1, .ref 3261]) rfl ?_
  obtain ⟨q1, hq1, hm⟩ := am_bE hm
  refine ms_callV (M2 := mt_X9_isUnit) (d2 := 2) (ci := 7) [.int x1] (am_fd ck_X9_leader (pc := 2) rfl) ok_X9_isUnit tw_949 tw_951 ts_28 (by decide) kc_3261 (Nat.le_of_ble_eq_true rfl) (Nat.le_of_ble_eq_true rfl) (x_X9_isUnit hL hq1) ?_
  refine am_ifc (tgt := 17) (am_fd ck_X9_leader (pc := 5) rfl) rfl (fun hc2 => ?_) (fun hc2 => ?_)
  · replace hm := am_it hm hc2
    refine am_steps ck_X9_leader 1 (pc' := 18) (lv' := [(0, .ref 3261), (1, .int x1), (2, .int x2), (3, .int x3)]) (st' := [.int (am_i (-1))]) rfl ?_
    cases hm
    exact am_end (am_fd ck_X9_leader (pc := 18) rfl) am_rI rfl rfl
  · replace hm := am_if hm hc2
    refine am_steps ck_X9_leader 3 (pc' := 11) (lv' := [(0, .ref 3261), (1, .int x1), (2, .int x2), (3, .int x3)]) (st' := [.int (am_i 1), .int (am_i 0), .int x3]) rfl ?_
    obtain ⟨q3, hq3, hm⟩ := am_bE hm
    refine ms_callS (M2 := mt_X9_isIn) (d2 := 1) [.int x3, .int (am_i 0), .int (am_i 1)] (am_fd ck_X9_leader (pc := 11) rfl) ok_X9_isIn tw_953 tw_954 (Nat.le_of_ble_eq_true rfl) (Nat.le_of_ble_eq_true rfl) (x_X9_isIn hL hq3) ?_
    refine am_ifc (tgt := 19) (am_fd ck_X9_leader (pc := 14) rfl) rfl (fun hc4 => ?_) (fun hc4 => ?_)
    · replace hm := am_it hm hc4
      refine am_steps ck_X9_leader 3 (pc' := 22) (lv' := [(0, .ref 3261), (1, .int x1), (2, .int x2), (3, .int x3)]) (st' := [.int x2, .int x1, .ref 3261]) rfl ?_
      obtain ⟨q5, hq5, hm⟩ := am_bE hm
      refine ms_callV (M2 := mt_X9_leaderOf) (d2 := 3) (ci := 7) [.int x1, .int x2] (am_fd ck_X9_leader (pc := 22) rfl) ok_X9_leaderOf tw_1209 tw_1211 ts_65 (by decide) kc_3261 (Nat.le_of_ble_eq_true rfl) (Nat.le_of_ble_eq_true rfl) (x_X9_leaderOf hL hq5) ?_
      refine am_steps ck_X9_leader 3 (pc' := 30) (lv' := [(4, .int q5), (0, .ref 3261), (1, .int x1), (2, .int x2), (3, .int x3)]) (st' := [.int (am_i (-1)), .int q5]) rfl ?_
      refine am_icmp (tgt := 37) (am_fd ck_X9_leader (pc := 30) rfl) rfl (fun hc6 => ?_) (fun hc6 => ?_)
      · replace hm := am_it hm hc6
        refine am_steps ck_X9_leader 1 (pc' := 38) (lv' := [(4, .int q5), (0, .ref 3261), (1, .int x1), (2, .int x2), (3, .int x3)]) (st' := [.int x3]) rfl ?_
        refine am_ifc (tgt := 46) (am_fd ck_X9_leader (pc := 38) rfl) rfl (fun hc7 => ?_) (fun hc7 => ?_)
        · replace hm := am_it hm hc7
          refine am_steps ck_X9_leader 1 (pc' := 47) (lv' := [(4, .int q5), (0, .ref 3261), (1, .int x1), (2, .int x2), (3, .int x3)]) (st' := [.ref 3261]) rfl ?_
          refine ms_getr (ci := 7) (k := 0) (v := 3262) (am_fd ck_X9_leader (pc := 47) rfl) tw_875 kc_3261 rfl (ly_3261_0 hL) kc_3262 ?_
          refine am_steps ck_X9_leader 1 (pc' := 51) (lv' := [(4, .int q5), (0, .ref 3261), (1, .int x1), (2, .int x2), (3, .int x3)]) (st' := [.int x1, .ref 3262]) rfl ?_
          obtain ⟨q8, hq8, hm⟩ := am_bE hm
          refine ms_callS (M2 := mt_X9_sumAt) (d2 := 1) [.int x1] (am_fd ck_X9_leader (pc := 51) rfl) ok_X9_sumAt tw_982 tw_983 (Nat.le_of_ble_eq_true rfl) (Nat.le_of_ble_eq_true rfl) (x_X9_sumAt hL hq8) ?_
          refine am_steps ck_X9_leader 2 (pc' := 57) (lv' := [(4, .int q5), (0, .ref 3261), (1, .int x1), (2, .int x2), (3, .int x3)]) (st' := [.int (q8 + q5), .ref 3262]) rfl ?_
          obtain ⟨hb9, hm⟩ := am_gE hm
          refine ms_iald (n := 15517) (am_fd ck_X9_leader (pc := 57) rfl) kc_3262 hb9 ?_
          cases hm
          exact am_end (am_fd ck_X9_leader (pc := 58) rfl) am_rI rfl rfl
        · replace hm := am_if hm hc7
          refine am_steps ck_X9_leader 2 (pc' := 58) (lv' := [(4, .int q5), (0, .ref 3261), (1, .int x1), (2, .int x2), (3, .int x3)]) (st' := [.int q5]) rfl ?_
          cases hm
          exact am_end (am_fd ck_X9_leader (pc := 58) rfl) am_rI rfl rfl
      · replace hm := am_if hm hc6
        refine am_steps ck_X9_leader 2 (pc' := 58) (lv' := [(4, .int q5), (0, .ref 3261), (1, .int x1), (2, .int x2), (3, .int x3)]) (st' := [.int (am_i (-1))]) rfl ?_
        cases hm
        exact am_end (am_fd ck_X9_leader (pc := 58) rfl) am_rI rfl rfl
    · replace hm := am_if hm hc4
      refine am_steps ck_X9_leader 1 (pc' := 18) (lv' := [(0, .ref 3261), (1, .int x1), (2, .int x2), (3, .int x3)]) (st' := [.int (am_i (-1))]) rfl ?_
      cases hm
      exact am_end (am_fd ck_X9_leader (pc := 18) rfl) am_rI rfl rfl
set_option maxRecDepth 100000 in
set_option maxHeartbeats 4000000 in
theorem x_X9_median {G : am_G} {m : am_m} {r : am_rr} {x1 : Int32} {res : Int32 × am_m} (hL : am_Lay r) (hm : m_X9_median m x1 = some res) : am_Met G mt_X9_median 3 [.ref 3261, .int x1] (am_hh m r) (some (.int res.1)) (am_hh res.2 r) := by
  refine am_of (by decide) (Nat.le_of_ble_eq_true rfl) ?_
  unfold m_X9_median at hm
  show am_W G mt_X9_median 3 _ _ 0 [(0, .ref 3261), (1, .int x1)] [] (am_hh m r)
  refine am_steps ck_X9_median 2 (pc' := 2) (lv' := [(0, .ref 3261), (1, .int x1)]) (st' := [.int x1, .ref 3261]) rfl ?_
  obtain ⟨q1, hq1, hm⟩ := am_bE hm
  refine ms_callV (M2 := mt_X9_isUnit) (d2 := 2) (ci := 7) [.int x1] (am_fd ck_X9_median (pc := 2) rfl) ok_X9_isUnit tw_949 tw_951 ts_28 (by decide) kc_3261 (Nat.le_of_ble_eq_true rfl) (Nat.le_of_ble_eq_true rfl) (x_X9_isUnit hL hq1) ?_
  refine am_ifc (tgt := 16) (am_fd ck_X9_median (pc := 5) rfl) rfl (fun hc2 => ?_) (fun hc2 => ?_)
  · replace hm := am_it hm hc2
    refine am_steps ck_X9_median 1 (pc' := 17) (lv' := [(0, .ref 3261), (1, .int x1)]) (st' := [.int (am_i (-1))]) rfl ?_
    cases hm
    exact am_end (am_fd ck_X9_median (pc := 17) rfl) am_rI rfl rfl
  · replace hm := am_if hm hc2
    refine am_steps ck_X9_median 2 (pc' := 10) (lv' := [(0, .ref 3261), (1, .int x1)]) (st' := [.int x1, .ref 3261]) rfl ?_
    obtain ⟨q3, hq3, hm⟩ := am_bE hm
    refine ms_callV (M2 := mt_X9_allOf) (d2 := 2) (ci := 7) [.int x1] (am_fd ck_X9_median (pc := 10) rfl) ok_X9_allOf tw_1221 tw_1223 ts_67 (by decide) kc_3261 (Nat.le_of_ble_eq_true rfl) (Nat.le_of_ble_eq_true rfl) (x_X9_allOf hL hq3) ?_
    refine am_ifc (tgt := 18) (am_fd ck_X9_median (pc := 13) rfl) rfl (fun hc4 => ?_) (fun hc4 => ?_)
    · replace hm := am_it hm hc4
      refine am_steps ck_X9_median 4 (pc' := 22) (lv' := [(0, .ref 3261), (1, .int x1)]) (st' := [.int x1, .ref 3261, .int x1, .ref 3261]) rfl ?_
      obtain ⟨q5, hq5, hm⟩ := am_bE hm
      refine ms_callV (M2 := mt_X9_allOf) (d2 := 2) (ci := 7) [.int x1] (am_fd ck_X9_median (pc := 22) rfl) ok_X9_allOf tw_1221 tw_1223 ts_67 (by decide) kc_3261 (Nat.le_of_ble_eq_true rfl) (Nat.le_of_ble_eq_true rfl) (x_X9_allOf hL hq5) ?_
      refine am_steps ck_X9_median 3 (pc' := 28) (lv' := [(0, .ref 3261), (1, .int x1)]) (st' := [.int (am_i 2), .int (q5.1 - (am_i 1)), .int x1, .ref 3261]) rfl ?_
      refine am_idiv (am_fd ck_X9_median (pc := 28) rfl) (by decide) ?_
      obtain ⟨q6, hq6, hm⟩ := am_bE hm
      refine ms_callV (M2 := mt_X9_rankedIn) (d2 := 2) (ci := 7) [.int x1, .int ((q5.1 - (am_i 1)) / (am_i 2))] (am_fd ck_X9_median (pc := 29) rfl) ok_X9_rankedIn tw_1197 tw_1199 ts_64 (by decide) kc_3261 (Nat.le_of_ble_eq_true rfl) (Nat.le_of_ble_eq_true rfl) (x_X9_rankedIn hL hq6) ?_
      cases hm
      exact am_end (am_fd ck_X9_median (pc := 32) rfl) am_rI rfl rfl
    · replace hm := am_if hm hc4
      refine am_steps ck_X9_median 1 (pc' := 17) (lv' := [(0, .ref 3261), (1, .int x1)]) (st' := [.int (am_i (-1))]) rfl ?_
      cases hm
      exact am_end (am_fd ck_X9_median (pc := 17) rfl) am_rI rfl rfl
set_option maxRecDepth 100000 in
set_option maxHeartbeats 4000000 in
theorem x_X9_heavy_32 {G : am_G} {x1 : Int32} {x2 : Int32} {m : am_m} {r : am_rr} {y1 : Int32} {y2 : Int32} {y3 : Int32} {res : Int64 × am_m} {k : Int64 → Option (Int64 × am_m)} (hL : am_Lay r) : ∀ (n : Nat) (z4 : Int64) (z6 : Int32), m_X9_heavy_32 x1 x2 m y1 y2 y3 k n z4 z6 = some res → (∀ (u4 : Int64), k u4 = some res → am_W G mt_X9_heavy 3 (some (.long res.1)) (am_hh res.2 r) 80 [(4, .long u4)] [] (am_hh m r)) → am_W G mt_X9_heavy 3 (some (.long res.1)) (am_hh res.2 r) 32 [(0, .ref 3261), (1, .int y1), (2, .int y2), (3, .int y3), (4, .long z4), (6, .int z6)] [] (am_hh m r) := by
  intro n
  induction n with
  | zero => intro z4 z6 hm K; cases hm
  | succ n ih =>
    intro z4 z6 hm K
    unfold m_X9_heavy_32 at hm
    refine am_steps ck_X9_heavy 2 (pc' := 36) (lv' := [(0, .ref 3261), (1, .int y1), (2, .int y2), (3, .int y3), (4, .long z4), (6, .int z6)]) (st' := [.int (am_i 64), .int z6]) rfl ?_
    refine am_icmp (tgt := 80) (am_fd ck_X9_heavy (pc := 36) rfl) rfl (fun hc6 => ?_) (fun hc6 => ?_)
    · replace hm := am_it hm hc6
      refine am_subp [4] rfl ?_
      exact K _ hm
    · replace hm := am_if hm hc6
      refine am_ldc2 (am_fd ck_X9_heavy (pc := 39) rfl) tw_1229 ?_
      refine am_steps ck_X9_heavy 1 (pc' := 43) (lv' := [(0, .ref 3261), (1, .int y1), (2, .int y2), (3, .int y3), (4, .long z4), (6, .int z6)]) (st' := [.ref 3261, .long (100 : Int64)]) rfl ?_
      refine ms_getr (ci := 7) (k := 0) (v := 3262) (am_fd ck_X9_heavy (pc := 43) rfl) tw_875 kc_3261 rfl (ly_3261_0 hL) kc_3262 ?_
      refine am_steps ck_X9_heavy 1 (pc' := 47) (lv' := [(0, .ref 3261), (1, .int y1), (2, .int y2), (3, .int y3), (4, .long z4), (6, .int z6)]) (st' := [.int y1, .ref 3262, .long (100 : Int64)]) rfl ?_
      obtain ⟨q7, hq7, hm⟩ := am_bE hm
      refine ms_callS (M2 := mt_X9_sumAt) (d2 := 1) [.int y1] (am_fd ck_X9_heavy (pc := 47) rfl) ok_X9_sumAt tw_982 tw_983 (Nat.le_of_ble_eq_true rfl) (Nat.le_of_ble_eq_true rfl) (x_X9_sumAt hL hq7) ?_
      refine am_steps ck_X9_heavy 2 (pc' := 53) (lv' := [(0, .ref 3261), (1, .int y1), (2, .int y2), (3, .int y3), (4, .long z4), (6, .int z6)]) (st' := [.int (q7 + z6), .ref 3262, .long (100 : Int64)]) rfl ?_
      obtain ⟨hb8, hm⟩ := am_gE hm
      refine ms_iald (n := 15517) (am_fd ck_X9_heavy (pc := 53) rfl) kc_3262 hb8 ?_
      refine am_steps ck_X9_heavy 8 (pc' := 62) (lv' := [(0, .ref 3261), (1, .int y1), (2, .int y2), (3, .int y3), (4, .long z4), (6, .int z6)]) (st' := [.int (lg_cmp ((100 : Int64) * (m 3262 (am_ix (q7 + z6))).toInt64) (y2.toInt64 * y3.toInt64))]) rfl ?_
      refine am_ifc (tgt := 74) (am_fd ck_X9_heavy (pc := 62) rfl) rfl (fun hc9 => ?_) (fun hc9 => ?_)
      · replace hm := am_it hm hc9
        refine am_steps ck_X9_heavy 2 (pc' := 32) (lv' := [(6, .int (z6 + am_i 1)), (0, .ref 3261), (1, .int y1), (2, .int y2), (3, .int y3), (4, .long z4)]) (st' := []) rfl ?_
        refine am_subp [1, 2, 3, 4, 5, 0] rfl ?_
        exact ih _ _ hm K
      · replace hm := am_if hm hc9
        refine am_steps ck_X9_heavy 8 (pc' := 32) (lv' := [(6, .int (z6 + am_i 1)), (4, .long (z4 ||| ((Int64.ofNat 1) <<< (z6.toInt64 &&& 63)))), (0, .ref 3261), (1, .int y1), (2, .int y2), (3, .int y3)]) (st' := []) rfl ?_
        refine am_subp [2, 3, 4, 5, 1, 0] rfl ?_
        exact ih _ _ hm K
set_option maxRecDepth 100000 in
set_option maxHeartbeats 4000000 in
theorem x_X9_heavy {G : am_G} {m : am_m} {r : am_rr} {x1 : Int32} {x2 : Int32} {res : Int64 × am_m} (hL : am_Lay r) (hm : m_X9_heavy m x1 x2 = some res) : am_Met G mt_X9_heavy 3 [.ref 3261, .int x1, .int x2] (am_hh m r) (some (.long res.1)) (am_hh res.2 r) := by
  refine am_of (by decide) (Nat.le_of_ble_eq_true rfl) ?_
  unfold m_X9_heavy at hm
  show am_W G mt_X9_heavy 3 _ _ 0 [(0, .ref 3261), (1, .int x1), (2, .int x2)] [] (am_hh m r)
  refine am_steps ck_X9_heavy 2 (pc' := 2) (lv' := [(0, .ref 3261), (1, .int x1), (2, .int x2)]) (st' := [.int x1, .ref 3261]) rfl ?_
  obtain ⟨q1, hq1, hm⟩ := am_bE hm
  refine ms_callV (M2 := mt_X9_isUnit) (d2 := 2) (ci := 7) [.int x1] (am_fd ck_X9_heavy (pc := 2) rfl) ok_X9_isUnit tw_949 tw_951 ts_28 (by decide) kc_3261 (Nat.le_of_ble_eq_true rfl) (Nat.le_of_ble_eq_true rfl) (x_X9_isUnit hL hq1) ?_
  refine am_ifc (tgt := 18) (am_fd ck_X9_heavy (pc := 5) rfl) rfl (fun hc2 => ?_) (fun hc2 => ?_)
  · replace hm := am_it hm hc2
    refine am_steps ck_X9_heavy 1 (pc' := 19) (lv' := [(0, .ref 3261), (1, .int x1), (2, .int x2)]) (st' := [.long (Int64.ofNat 0)]) rfl ?_
    cases hm
    exact am_end (am_fd ck_X9_heavy (pc := 19) rfl) am_rJ rfl rfl
  · replace hm := am_if hm hc2
    refine am_steps ck_X9_heavy 3 (pc' := 12) (lv' := [(0, .ref 3261), (1, .int x1), (2, .int x2)]) (st' := [.int (am_i 100), .int (am_i 0), .int x2]) rfl ?_
    obtain ⟨q3, hq3, hm⟩ := am_bE hm
    refine ms_callS (M2 := mt_X9_isIn) (d2 := 1) [.int x2, .int (am_i 0), .int (am_i 100)] (am_fd ck_X9_heavy (pc := 12) rfl) ok_X9_isIn tw_953 tw_954 (Nat.le_of_ble_eq_true rfl) (Nat.le_of_ble_eq_true rfl) (x_X9_isIn hL hq3) ?_
    refine am_ifc (tgt := 20) (am_fd ck_X9_heavy (pc := 15) rfl) rfl (fun hc4 => ?_) (fun hc4 => ?_)
    · replace hm := am_it hm hc4
      refine am_steps ck_X9_heavy 2 (pc' := 22) (lv' := [(0, .ref 3261), (1, .int x1), (2, .int x2)]) (st' := [.int x1, .ref 3261]) rfl ?_
      obtain ⟨q5, hq5, hm⟩ := am_bE hm
      refine ms_callV (M2 := mt_X9_allOf) (d2 := 2) (ci := 7) [.int x1] (am_fd ck_X9_heavy (pc := 22) rfl) ok_X9_allOf tw_1221 tw_1223 ts_67 (by decide) kc_3261 (Nat.le_of_ble_eq_true rfl) (Nat.le_of_ble_eq_true rfl) (x_X9_allOf hL hq5) ?_
      refine am_steps ck_X9_heavy 5 (pc' := 32) (lv' := [(6, .int (am_i 0)), (4, .long (Int64.ofNat 0)), (3, .int q5.1), (0, .ref 3261), (1, .int x1), (2, .int x2)]) (st' := []) rfl ?_
      refine am_subp [3, 4, 5, 2, 1, 0] rfl ?_
      refine x_X9_heavy_32 hL am_F _ _ hm (fun u10 hm => ?_)
      refine am_steps ck_X9_heavy 1 (pc' := 82) (lv' := [(4, .long u10)]) (st' := [.long u10]) rfl ?_
      cases hm
      exact am_end (am_fd ck_X9_heavy (pc := 82) rfl) am_rJ rfl rfl
    · replace hm := am_if hm hc4
      refine am_steps ck_X9_heavy 1 (pc' := 19) (lv' := [(0, .ref 3261), (1, .int x1), (2, .int x2)]) (st' := [.long (Int64.ofNat 0)]) rfl ?_
      cases hm
      exact am_end (am_fd ck_X9_heavy (pc := 19) rfl) am_rJ rfl rfl
set_option maxRecDepth 100000 in
set_option maxHeartbeats 4000000 in
theorem x_X9_squares_17 {G : am_G} {x1 : Int32} {m : am_m} {r : am_rr} {y1 : Int32} {res : Int64} {k : Int64 → Option (Int64)} (hL : am_Lay r) : ∀ (n : Nat) (z2 : Int64) (z4 : Int32), m_X9_squares_17 x1 m y1 k n z2 z4 = some res → (∀ (u2 : Int64), k u2 = some res → am_W G mt_X9_squares 3 (some (.long res)) (am_hh m r) 60 [(2, .long u2)] [] (am_hh m r)) → am_W G mt_X9_squares 3 (some (.long res)) (am_hh m r) 17 [(0, .ref 3261), (1, .int y1), (2, .long z2), (4, .int z4)] [] (am_hh m r) := by
  intro n
  induction n with
  | zero => intro z2 z4 hm K; cases hm
  | succ n ih =>
    intro z2 z4 hm K
    unfold m_X9_squares_17 at hm
    refine am_steps ck_X9_squares 2 (pc' := 21) (lv' := [(0, .ref 3261), (1, .int y1), (2, .long z2), (4, .int z4)]) (st' := [.int (am_i 64), .int z4]) rfl ?_
    refine am_icmp (tgt := 60) (am_fd ck_X9_squares (pc := 21) rfl) rfl (fun hc3 => ?_) (fun hc3 => ?_)
    · replace hm := am_it hm hc3
      refine am_subp [2] rfl ?_
      exact K _ hm
    · replace hm := am_if hm hc3
      refine am_steps ck_X9_squares 2 (pc' := 26) (lv' := [(0, .ref 3261), (1, .int y1), (2, .long z2), (4, .int z4)]) (st' := [.ref 3261, .long z2]) rfl ?_
      refine ms_getr (ci := 7) (k := 0) (v := 3262) (am_fd ck_X9_squares (pc := 26) rfl) tw_875 kc_3261 rfl (ly_3261_0 hL) kc_3262 ?_
      refine am_steps ck_X9_squares 1 (pc' := 30) (lv' := [(0, .ref 3261), (1, .int y1), (2, .long z2), (4, .int z4)]) (st' := [.int y1, .ref 3262, .long z2]) rfl ?_
      obtain ⟨q4, hq4, hm⟩ := am_bE hm
      refine ms_callS (M2 := mt_X9_sumAt) (d2 := 1) [.int y1] (am_fd ck_X9_squares (pc := 30) rfl) ok_X9_sumAt tw_982 tw_983 (Nat.le_of_ble_eq_true rfl) (Nat.le_of_ble_eq_true rfl) (x_X9_sumAt hL hq4) ?_
      refine am_steps ck_X9_squares 2 (pc' := 36) (lv' := [(0, .ref 3261), (1, .int y1), (2, .long z2), (4, .int z4)]) (st' := [.int (q4 + z4), .ref 3262, .long z2]) rfl ?_
      obtain ⟨hb5, hm⟩ := am_gE hm
      refine ms_iald (n := 15517) (am_fd ck_X9_squares (pc := 36) rfl) kc_3262 hb5 ?_
      refine am_steps ck_X9_squares 2 (pc' := 39) (lv' := [(0, .ref 3261), (1, .int y1), (2, .long z2), (4, .int z4)]) (st' := [.ref 3261, .long (m 3262 (am_ix (q4 + z4))).toInt64, .long z2]) rfl ?_
      refine ms_getr (ci := 7) (k := 0) (v := 3262) (am_fd ck_X9_squares (pc := 39) rfl) tw_875 kc_3261 rfl (ly_3261_0 hL) kc_3262 ?_
      refine am_steps ck_X9_squares 1 (pc' := 43) (lv' := [(0, .ref 3261), (1, .int y1), (2, .long z2), (4, .int z4)]) (st' := [.int y1, .ref 3262, .long (m 3262 (am_ix (q4 + z4))).toInt64, .long z2]) rfl ?_
      obtain ⟨q6, hq6, hm⟩ := am_bE hm
      refine ms_callS (M2 := mt_X9_sumAt) (d2 := 1) [.int y1] (am_fd ck_X9_squares (pc := 43) rfl) ok_X9_sumAt tw_982 tw_983 (Nat.le_of_ble_eq_true rfl) (Nat.le_of_ble_eq_true rfl) (x_X9_sumAt hL hq6) ?_
      refine am_steps ck_X9_squares 2 (pc' := 49) (lv' := [(0, .ref 3261), (1, .int y1), (2, .long z2), (4, .int z4)]) (st' := [.int (q6 + z4), .ref 3262, .long (m 3262 (am_ix (q4 + z4))).toInt64, .long z2]) rfl ?_
      obtain ⟨hb7, hm⟩ := am_gE hm
      refine ms_iald (n := 15517) (am_fd ck_X9_squares (pc := 49) rfl) kc_3262 hb7 ?_
      refine am_steps ck_X9_squares 6 (pc' := 17) (lv' := [(4, .int (z4 + am_i 1)), (2, .long (z2 + ((m 3262 (am_ix (q4 + z4))).toInt64 * (m 3262 (am_ix (q6 + z4))).toInt64))), (0, .ref 3261), (1, .int y1)]) (st' := []) rfl ?_
      refine am_subp [2, 3, 1, 0] rfl ?_
      exact ih _ _ hm K
set_option maxRecDepth 100000 in
set_option maxHeartbeats 4000000 in
theorem x_X9_squares {G : am_G} {m : am_m} {r : am_rr} {x1 : Int32} {res : Int64} (hL : am_Lay r) (hm : m_X9_squares m x1 = some res) : am_Met G mt_X9_squares 3 [.ref 3261, .int x1] (am_hh m r) (some (.long res)) (am_hh m r) := by
  refine am_of (by decide) (Nat.le_of_ble_eq_true rfl) ?_
  unfold m_X9_squares at hm
  show am_W G mt_X9_squares 3 _ _ 0 [(0, .ref 3261), (1, .int x1)] [] (am_hh m r)
  refine am_steps ck_X9_squares 2 (pc' := 2) (lv' := [(0, .ref 3261), (1, .int x1)]) (st' := [.int x1, .ref 3261]) rfl ?_
  obtain ⟨q1, hq1, hm⟩ := am_bE hm
  refine ms_callV (M2 := mt_X9_isUnit) (d2 := 2) (ci := 7) [.int x1] (am_fd ck_X9_squares (pc := 2) rfl) ok_X9_isUnit tw_949 tw_951 ts_28 (by decide) kc_3261 (Nat.le_of_ble_eq_true rfl) (Nat.le_of_ble_eq_true rfl) (x_X9_isUnit hL hq1) ?_
  refine am_ifc (tgt := 12) (am_fd ck_X9_squares (pc := 5) rfl) rfl (fun hc2 => ?_) (fun hc2 => ?_)
  · replace hm := am_it hm hc2
    refine am_steps ck_X9_squares 4 (pc' := 17) (lv' := [(4, .int (am_i 0)), (2, .long (Int64.ofNat 0)), (0, .ref 3261), (1, .int x1)]) (st' := []) rfl ?_
    refine am_subp [2, 3, 1, 0] rfl ?_
    refine x_X9_squares_17 hL am_F _ _ hm (fun u8 hm => ?_)
    refine am_steps ck_X9_squares 1 (pc' := 61) (lv' := [(2, .long u8)]) (st' := [.long u8]) rfl ?_
    cases hm
    exact am_end (am_fd ck_X9_squares (pc := 61) rfl) am_rJ rfl rfl
  · replace hm := am_if hm hc2
    refine am_ldc2 (am_fd ck_X9_squares (pc := 8) rfl) tw_1234 ?_
    cases hm
    exact am_end (am_fd ck_X9_squares (pc := 11) rfl) am_rJ rfl rfl
set_option maxRecDepth 100000 in
set_option maxHeartbeats 4000000 in
theorem x_X9_seats_4 {G : am_G} {x1 : Int32} {m : am_m} {r : am_rr} {y1 : Int32} {res : am_m} {k : Int32 → Option (am_m)} (hL : am_Lay r) : ∀ (n : Nat) (z2 : Int32) (z3 : Int32), m_X9_seats_4 x1 m y1 k n z2 z3 = some res → (∀ (u2 : Int32), k u2 = some res → am_W G mt_X9_seats 2 none (am_hh res r) 85 [(0, .ref 3261), (2, .int u2)] [] (am_hh m r)) → am_W G mt_X9_seats 2 none (am_hh res r) 4 [(0, .ref 3261), (1, .int y1), (2, .int z2), (3, .int z3)] [] (am_hh m r) := by
  intro n
  induction n with
  | zero => intro z2 z3 hm K; cases hm
  | succ n ih =>
    intro z2 z3 hm K
    unfold m_X9_seats_4 at hm
    refine am_steps ck_X9_seats 2 (pc' := 7) (lv' := [(0, .ref 3261), (1, .int y1), (2, .int z2), (3, .int z3)]) (st' := [.int (am_i 64), .int z3]) rfl ?_
    refine am_icmp (tgt := 85) (am_fd ck_X9_seats (pc := 7) rfl) rfl (fun hc1 => ?_) (fun hc1 => ?_)
    · replace hm := am_it hm hc1
      refine am_subp [0, 2] rfl ?_
      exact K _ hm
    · replace hm := am_if hm hc1
      refine am_steps ck_X9_seats 1 (pc' := 11) (lv' := [(0, .ref 3261), (1, .int y1), (2, .int z2), (3, .int z3)]) (st' := [.ref 3261]) rfl ?_
      refine ms_getr (ci := 7) (k := 0) (v := 3262) (am_fd ck_X9_seats (pc := 11) rfl) tw_875 kc_3261 rfl (ly_3261_0 hL) kc_3262 ?_
      refine am_steps ck_X9_seats 1 (pc' := 15) (lv' := [(0, .ref 3261), (1, .int y1), (2, .int z2), (3, .int z3)]) (st' := [.int y1, .ref 3262]) rfl ?_
      obtain ⟨q2, hq2, hm⟩ := am_bE hm
      refine ms_callS (M2 := mt_X9_sumAt) (d2 := 1) [.int y1] (am_fd ck_X9_seats (pc := 15) rfl) ok_X9_sumAt tw_982 tw_983 (Nat.le_of_ble_eq_true rfl) (Nat.le_of_ble_eq_true rfl) (x_X9_sumAt hL hq2) ?_
      refine am_steps ck_X9_seats 2 (pc' := 20) (lv' := [(0, .ref 3261), (1, .int y1), (2, .int z2), (3, .int z3)]) (st' := [.int (q2 + z3), .ref 3262]) rfl ?_
      obtain ⟨hb3, hm⟩ := am_gE hm
      refine ms_iald (n := 15517) (am_fd ck_X9_seats (pc := 20) rfl) kc_3262 hb3 ?_
      refine am_steps ck_X9_seats 5 (pc' := 28) (lv' := [(4, .long (m 3262 (am_ix (q2 + z3))).toInt64), (0, .ref 3261), (1, .int y1), (2, .int z2), (3, .int z3)]) (st' := [.int (lg_cmp (m 3262 (am_ix (q2 + z3))).toInt64 (Int64.ofNat 0))]) rfl ?_
      refine am_ifc (tgt := 34) (am_fd ck_X9_seats (pc := 28) rfl) rfl (fun hc4 => ?_) (fun hc4 => ?_)
      · replace hm := am_it hm hc4
        refine am_steps ck_X9_seats 2 (pc' := 36) (lv' := [(4, .long (m 3262 (am_ix (q2 + z3))).toInt64), (0, .ref 3261), (1, .int y1), (2, .int z2), (3, .int z3)]) (st' := [.int (am_i (-1)), .int z2]) rfl ?_
        refine am_icmp (tgt := 77) (am_fd ck_X9_seats (pc := 36) rfl) rfl (fun hc5 => ?_) (fun hc5 => ?_)
        · replace hm := am_it hm hc5
          refine am_steps ck_X9_seats 4 (pc' := 4) (lv' := [(3, .int (z3 + am_i 1)), (2, .int z3), (4, .long (m 3262 (am_ix (q2 + z3))).toInt64), (0, .ref 3261), (1, .int y1)]) (st' := []) rfl ?_
          refine am_subp [3, 4, 1, 0] rfl ?_
          exact ih _ _ hm K
        · replace hm := am_if hm hc5
          refine am_steps ck_X9_seats 2 (pc' := 42) (lv' := [(4, .long (m 3262 (am_ix (q2 + z3))).toInt64), (0, .ref 3261), (1, .int y1), (2, .int z2), (3, .int z3)]) (st' := [.ref 3261, .long (m 3262 (am_ix (q2 + z3))).toInt64]) rfl ?_
          refine ms_getr (ci := 7) (k := 15) (v := 3269) (am_fd ck_X9_seats (pc := 42) rfl) tw_890 kc_3261 rfl (ly_3261_15 hL) kc_3269 ?_
          refine am_steps ck_X9_seats 1 (pc' := 46) (lv' := [(4, .long (m 3262 (am_ix (q2 + z3))).toInt64), (0, .ref 3261), (1, .int y1), (2, .int z2), (3, .int z3)]) (st' := [.int z2, .ref 3269, .long (m 3262 (am_ix (q2 + z3))).toInt64]) rfl ?_
          obtain ⟨hb6, hm⟩ := am_gE hm
          refine ms_iald (n := 64) (am_fd ck_X9_seats (pc := 46) rfl) kc_3269 hb6 ?_
          refine am_steps ck_X9_seats 5 (pc' := 52) (lv' := [(4, .long (m 3262 (am_ix (q2 + z3))).toInt64), (0, .ref 3261), (1, .int y1), (2, .int z2), (3, .int z3)]) (st' := [.ref 3261, .long ((m 3262 (am_ix (q2 + z3))).toInt64 * ((m 3269 (am_ix z2)) + (am_i 1)).toInt64)]) rfl ?_
          refine ms_getr (ci := 7) (k := 0) (v := 3262) (am_fd ck_X9_seats (pc := 52) rfl) tw_875 kc_3261 rfl (ly_3261_0 hL) kc_3262 ?_
          refine am_steps ck_X9_seats 1 (pc' := 56) (lv' := [(4, .long (m 3262 (am_ix (q2 + z3))).toInt64), (0, .ref 3261), (1, .int y1), (2, .int z2), (3, .int z3)]) (st' := [.int y1, .ref 3262, .long ((m 3262 (am_ix (q2 + z3))).toInt64 * ((m 3269 (am_ix z2)) + (am_i 1)).toInt64)]) rfl ?_
          obtain ⟨q7, hq7, hm⟩ := am_bE hm
          refine ms_callS (M2 := mt_X9_sumAt) (d2 := 1) [.int y1] (am_fd ck_X9_seats (pc := 56) rfl) ok_X9_sumAt tw_982 tw_983 (Nat.le_of_ble_eq_true rfl) (Nat.le_of_ble_eq_true rfl) (x_X9_sumAt hL hq7) ?_
          refine am_steps ck_X9_seats 2 (pc' := 61) (lv' := [(4, .long (m 3262 (am_ix (q2 + z3))).toInt64), (0, .ref 3261), (1, .int y1), (2, .int z2), (3, .int z3)]) (st' := [.int (q7 + z2), .ref 3262, .long ((m 3262 (am_ix (q2 + z3))).toInt64 * ((m 3269 (am_ix z2)) + (am_i 1)).toInt64)]) rfl ?_
          obtain ⟨hb8, hm⟩ := am_gE hm
          refine ms_iald (n := 15517) (am_fd ck_X9_seats (pc := 61) rfl) kc_3262 hb8 ?_
          refine am_steps ck_X9_seats 2 (pc' := 64) (lv' := [(4, .long (m 3262 (am_ix (q2 + z3))).toInt64), (0, .ref 3261), (1, .int y1), (2, .int z2), (3, .int z3)]) (st' := [.ref 3261, .long (m 3262 (am_ix (q7 + z2))).toInt64, .long ((m 3262 (am_ix (q2 + z3))).toInt64 * ((m 3269 (am_ix z2)) + (am_i 1)).toInt64)]) rfl ?_
          refine ms_getr (ci := 7) (k := 15) (v := 3269) (am_fd ck_X9_seats (pc := 64) rfl) tw_890 kc_3261 rfl (ly_3261_15 hL) kc_3269 ?_
          refine am_steps ck_X9_seats 1 (pc' := 68) (lv' := [(4, .long (m 3262 (am_ix (q2 + z3))).toInt64), (0, .ref 3261), (1, .int y1), (2, .int z2), (3, .int z3)]) (st' := [.int z3, .ref 3269, .long (m 3262 (am_ix (q7 + z2))).toInt64, .long ((m 3262 (am_ix (q2 + z3))).toInt64 * ((m 3269 (am_ix z2)) + (am_i 1)).toInt64)]) rfl ?_
          obtain ⟨hb9, hm⟩ := am_gE hm
          refine ms_iald (n := 64) (am_fd ck_X9_seats (pc := 68) rfl) kc_3269 hb9 ?_
          refine am_steps ck_X9_seats 5 (pc' := 74) (lv' := [(4, .long (m 3262 (am_ix (q2 + z3))).toInt64), (0, .ref 3261), (1, .int y1), (2, .int z2), (3, .int z3)]) (st' := [.int (lg_cmp ((m 3262 (am_ix (q2 + z3))).toInt64 * ((m 3269 (am_ix z2)) + (am_i 1)).toInt64) ((m 3262 (am_ix (q7 + z2))).toInt64 * ((m 3269 (am_ix z3)) + (am_i 1)).toInt64))]) rfl ?_
          refine am_ifc (tgt := 79) (am_fd ck_X9_seats (pc := 74) rfl) rfl (fun hc10 => ?_) (fun hc10 => ?_)
          · replace hm := am_it hm hc10
            refine am_steps ck_X9_seats 2 (pc' := 4) (lv' := [(3, .int (z3 + am_i 1)), (4, .long (m 3262 (am_ix (q2 + z3))).toInt64), (0, .ref 3261), (1, .int y1), (2, .int z2)]) (st' := []) rfl ?_
            refine am_subp [2, 3, 4, 0] rfl ?_
            exact ih _ _ hm K
          · replace hm := am_if hm hc10
            refine am_steps ck_X9_seats 4 (pc' := 4) (lv' := [(3, .int (z3 + am_i 1)), (2, .int z3), (4, .long (m 3262 (am_ix (q2 + z3))).toInt64), (0, .ref 3261), (1, .int y1)]) (st' := []) rfl ?_
            refine am_subp [3, 4, 1, 0] rfl ?_
            exact ih _ _ hm K
      · replace hm := am_if hm hc4
        refine am_steps ck_X9_seats 3 (pc' := 4) (lv' := [(3, .int (z3 + am_i 1)), (4, .long (m 3262 (am_ix (q2 + z3))).toInt64), (0, .ref 3261), (1, .int y1), (2, .int z2)]) (st' := []) rfl ?_
        refine am_subp [2, 3, 4, 0] rfl ?_
        exact ih _ _ hm K
set_option maxRecDepth 100000 in
set_option maxHeartbeats 4000000 in
theorem x_X9_seats {G : am_G} {m : am_m} {r : am_rr} {x1 : Int32} {res : am_m} (hL : am_Lay r) (hm : m_X9_seats m x1 = some res) : am_Met G mt_X9_seats 2 [.ref 3261, .int x1] (am_hh m r) none (am_hh res r) := by
  refine am_of (by decide) (Nat.le_of_ble_eq_true rfl) ?_
  unfold m_X9_seats at hm
  show am_W G mt_X9_seats 2 _ _ 0 [(0, .ref 3261), (1, .int x1)] [] (am_hh m r)
  refine am_steps ck_X9_seats 4 (pc' := 4) (lv' := [(3, .int (am_i 0)), (2, .int (am_i (-1))), (0, .ref 3261), (1, .int x1)]) (st' := []) rfl ?_
  refine am_subp [2, 3, 1, 0] rfl ?_
  refine x_X9_seats_4 hL am_F _ _ hm (fun u11 hm => ?_)
  refine am_steps ck_X9_seats 2 (pc' := 87) (lv' := [(0, .ref 3261), (2, .int u11)]) (st' := [.int (am_i (-1)), .int u11]) rfl ?_
  refine am_icmp (tgt := 100) (am_fd ck_X9_seats (pc := 87) rfl) rfl (fun hc12 => ?_) (fun hc12 => ?_)
  · replace hm := am_it hm hc12
    cases hm
    exact am_end (am_fd ck_X9_seats (pc := 100) rfl) am_rV rfl rfl
  · replace hm := am_if hm hc12
    refine am_steps ck_X9_seats 1 (pc' := 91) (lv' := [(0, .ref 3261), (2, .int u11)]) (st' := [.ref 3261]) rfl ?_
    refine ms_getr (ci := 7) (k := 15) (v := 3269) (am_fd ck_X9_seats (pc := 91) rfl) tw_890 kc_3261 rfl (ly_3261_15 hL) kc_3269 ?_
    refine am_steps ck_X9_seats 2 (pc' := 96) (lv' := [(0, .ref 3261), (2, .int u11)]) (st' := [.int u11, .ref 3269, .int u11, .ref 3269]) rfl ?_
    obtain ⟨hb13, hm⟩ := am_gE hm
    refine ms_iald (n := 64) (am_fd ck_X9_seats (pc := 96) rfl) kc_3269 hb13 ?_
    refine am_steps ck_X9_seats 2 (pc' := 99) (lv' := [(0, .ref 3261), (2, .int u11)]) (st' := [.int ((m 3269 (am_ix u11)) + (am_i 1)), .int u11, .ref 3269]) rfl ?_
    obtain ⟨hb14, hm⟩ := am_gE hm
    refine ms_iast (n := 64) (am_fd ck_X9_seats (pc := 99) rfl) kc_3269 hb14 (fun m15 em15 => ?_)
    replace hm := am_letE em15 hm
    cases hm
    exact am_end (am_fd ck_X9_seats (pc := 100) rfl) am_rV rfl rfl
