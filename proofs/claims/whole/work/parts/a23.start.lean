/-! THE CLAIM OUT OF ONE WALK OF THE LAW'S BODY. Your part is whole_start (and what it stands on); all else here is the same for every law, but numbers. -/
def R_law : String := "BranchSumsLaw"
def lw_P (b : Addr) (xs : List Int32) (args : Array Value) (s : State) : Prop := args = #[.ref b] ∧ s.IntsAt b xs ∧ xs.length ≤ 3072 ∧ (Jvm.Cond.and given_1 narrow_1).before args s = true
def lw_Q (_ : Array Value) (s : State) (o : Outcome) (t : State) : Prop := o = .returned (some (.int 1)) ∧ Framed s o t [] 600000 7302250
def lw_Z (below : List Frame) (a : Array Value) (s : State) : State → Prop := fun t => ∃ o, t.status = .running ∧ Ended t below o ∧ lw_Q a s o t
/-- the law's own end, with 1 on the stack, nothing written that was there before, its room as the claim has it -/
theorem lw_ret {p : Program} {l : Launch} {e : Env} {s : State} {m : MethodId} {below : List Frame} {meth : Method} {c : Code} {b : Nat} (hx : p.tables.exec = Jvm.exec) (hb : c.code = code) (hr : meth.sig.returnType = ret) (hlocks : meth.locks = false) {pc : Nat} {H : Heap} {ls : Array Slot} (hdg : decode code pc = .ok (.ireturn, 1)) : W p l e room_1 s m #[Value.ref b] below meth c H [] 600000 7302250 (lw_Z below #[Value.ref b] s) (F0 m pc ls [.int 1]) := by
  intro T hT X
  obtain ⟨fs, hret, hrun, hended, hW, hframe⟩ := X.leave (v := some (.int 1)) (hlocks := hlocks) (fun h => by rw [hr] at h; cases h)
  have hmeth' : T.vm.method? m = some meth := X.method'
  refine ⟨T.setFrames fs, ?_, .returned (some (.int 1)), hrun, hended, rfl, ⟨_, rfl⟩, hW, hframe⟩
  jvm_step X.here [X.here.top, hx, hb, hdg, hmeth', hr, ret, narrow_b1]
  (try refine ⟨rfl, ?_⟩); (try refine ⟨rfl, ?_⟩)
  first | (intro acts; rw [hret _ acts rfl rfl rfl]) | rw [hret _ _ rfl rfl rfl]
  exact Steps.refl _
/-- what holds at the law's entry: the machine, the code, the tables' words (any of lw_tbl by 'hts w (by decide +kernel)'), the script of L ints xs at the cell b, what the Statement gives of the start (any of its parts by flat_of_before) -/
def lw_At (p : Program) (s : State) (m : MethodId) (meth : Method) (c : Code) (b L : Nat) (xs : Nat → Int32) : Prop :=
  p.tables.exec = Jvm.exec ∧ c.code = code ∧ meth.sig.returnType = ret ∧ c.maxLocals = 4 ∧ s.vm.findClass R_law = some m.cls ∧ (∀ w ∈ lw_tbl, w.before #[Value.ref b] s = true) ∧ va_X b L xs s s.heap ∧ b < s.heap.size ∧ meth.locks = false ∧ (Jvm.Cond.and given_1 narrow_1).before #[Value.ref b] s = true
theorem tw_16 : Jvm.Cond.classLink "BranchSumsLaw" (7 : Nat) "BranchSums" ∈ am_tbl := am_mem (i := 16) (by decide +kernel) rfl
theorem tw_17 : Jvm.Cond.instantiable "BranchSums" (12 : Nat) ∈ am_tbl := am_mem (i := 17) (by decide +kernel) rfl
theorem tw_18 : Jvm.Cond.methodLink "BranchSumsLaw" (9 : Nat) yX8_init ∈ am_tbl := am_mem (i := 18) (by decide +kernel) rfl
theorem tw_19 : Jvm.Cond.instanceMethod yX8_init ∈ am_tbl := am_mem (i := 19) (by decide +kernel) rfl
theorem tw_868 : Jvm.Cond.classLink "BranchSumsLaw" (10 : Nat) "BranchSumsModel" ∈ am_tbl := am_mem (i := 868) (by decide +kernel) rfl
theorem tw_869 : Jvm.Cond.instantiable "BranchSumsModel" (20 : Nat) ∈ am_tbl := am_mem (i := 869) (by decide +kernel) rfl
theorem tw_870 : Jvm.Cond.methodLink "BranchSumsLaw" (12 : Nat) yX9_init ∈ am_tbl := am_mem (i := 870) (by decide +kernel) rfl
theorem tw_871 : Jvm.Cond.instanceMethod yX9_init ∈ am_tbl := am_mem (i := 871) (by decide +kernel) rfl
/-! ===== the law from its entry, over the mirror of its loop ===== -/
def am_h0 (xs : Nat → Int32) : am_H := (3, fun a j => if a = 1 then xs j else 0, fun _ _ => 0)
theorem am_hh_of {h : am_H} {r : am_rr} (hn : h.1 = 3273) (hr : h.2.2 = r) : h = am_hh h.2.1 r := Prod.ext hn (Prod.ext rfl hr)
set_option maxRecDepth 100000 in
set_option maxHeartbeats 4000000 in
theorem law_W {G : am_G} {N : Nat} {xs : Nat → Int32} {p : am_m × am_rr} {hI : am_H} {r : am_rr} (hN : am_n G = N) (hX : am_xs G = xs) (eI : c_X9_init (am_nx (c_X8_init (am_nx (am_h0 xs)))) = hI) (hr : hI.2.2 = r) (hL : am_Lay r) (hm : m_L_loop N xs am_F (am_i 0) hI.2.1 r = some p) : am_W G mt_L_law 28 (some (.int (am_i 1))) (am_hh p.1 p.2) 0 [(0, .ref 1)] [] (am_h0 xs) := by
  have n0 : (am_h0 xs).1 = 3 := rfl
  refine am_new (ci := 6) (am_fd ck_L_hd (pc := 0) rfl) tw_16 tw_17 tw_1 (by decide) (by rw [n0]; rfl) (by rw [n0]; rfl) (by rw [n0]; decide) ?_
  rw [n0]
  have n1 : (am_nx (am_h0 xs)).1 = 4 := rfl
  refine am_steps ck_L_hd 1 (pc' := 4) (lv' := [(0, .ref 1)]) (st' := [.ref 3, .ref 3]) rfl ?_
  refine am_callI (M2 := mt_X8_init) (d2 := 5) (am_fd ck_L_hd (pc := 4) rfl) ok_X8_init rfl tw_18 tw_19 rfl (Nat.le_of_ble_eq_true rfl) (Nat.le_of_ble_eq_true rfl) (x_X8_init n1) ?_
  have n2 := n_X8_init n1
  refine am_steps ck_L_hd 1 (pc' := 8) (lv' := [(1, .ref 3), (0, .ref 1)]) (st' := []) rfl ?_
  refine am_new (ci := 7) (am_fd ck_L_hd (pc := 8) rfl) tw_868 tw_869 tw_9 (by decide) (by rw [n2]; rfl) (by rw [n2]; rfl) (by rw [n2]; decide) ?_
  rw [n2]
  have n3 : (am_nx (c_X8_init (am_nx (am_h0 xs)))).1 = 3262 := by show _ + 1 = _; rw [n2]
  refine am_steps ck_L_hd 1 (pc' := 12) (lv' := [(1, .ref 3), (0, .ref 1)]) (st' := [.ref 3261, .ref 3261]) rfl ?_
  refine am_callI (M2 := mt_X9_init) (d2 := 2) (am_fd ck_L_hd (pc := 12) rfl) ok_X9_init rfl tw_870 tw_871 rfl (Nat.le_of_ble_eq_true rfl) (Nat.le_of_ble_eq_true rfl) (x_X9_init n3) ?_
  have n4 := n_X9_init n3
  rw [eI] at n4 ⊢
  rw [am_hh_of n4 hr]
  refine am_steps ck_L_hd 3 (pc' := 18) (lv' := [(3, .int (am_i 0)), (2, .ref 3261), (1, .ref 3), (0, .ref 1)]) (st' := []) rfl ?_
  refine am_subp [3, 2, 1, 0] rfl ?_
  exact x_L_loop hN hX am_F _ _ _ hL hm
