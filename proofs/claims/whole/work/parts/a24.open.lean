/-! ===== the entry: what the law's start gives to the abstract machine ===== -/
theorem op_inst : ∀ ci, ci < 8 → Jvm.Cond.instantiable (am_fC ci) (am_fN ci) ∈ am_tbl := by
  intro ci h
  match ci, h with
  | 0, _ => exact am_mem (i := 89) (by decide +kernel) rfl
  | 1, _ => exact am_mem (i := 25) (by decide +kernel) rfl
  | 2, _ => exact am_mem (i := 69) (by decide +kernel) rfl
  | 3, _ => exact am_mem (i := 176) (by decide +kernel) rfl
  | 4, _ => exact am_mem (i := 124) (by decide +kernel) rfl
  | 5, _ => exact am_mem (i := 145) (by decide +kernel) rfl
  | 6, _ => exact am_mem (i := 17) (by decide +kernel) rfl
  | 7, _ => exact am_mem (i := 869) (by decide +kernel) rfl
  | n + 8, h => omega
theorem op_t {i : Nat} {w : Jvm.Cond} (h : tables_1[i]? = some w) : w ∈ lw_tbl := List.mem_append_right _ (List.mem_of_getElem? h)
theorem op_arr {s : State} {args : Array Value} {ty : FieldType} (h : (Jvm.Cond.arrayClass ty).before args s = true) : ∃ c, s.vm.findClass ("[" ++ ty.toString) = some c ∧ ArrOfT s c ty := by
  obtain ⟨c, k, comp, h1, h2, h3⟩ := Cond.arrayClass_spec h
  exact ⟨c, h1, fun N z => ⟨(fun k h => by cases h), k, h2, comp, h3⟩⟩
def op_cA (c10 c11 c12 c13 c14 : ClassId) (k : Nat) : ClassId := match k with
  | 10 => c10
  | 11 => c11
  | 12 => c12
  | 13 => c13
  | _ => c14
theorem op_K {s : State} {args : Array Value} (hts : ∀ w ∈ am_tbl, w.before args s = true) : ∃ D : va_G, ∀ (c : Nat) (q : vw_C), vwCl[c]? = some q → u_Kn s q.1 q.2.1 q.2.2 (D.1 c) (D.2 c) := by
  have K : ∀ ci, ∃ (cC : ClassId) (iS : Nat → Nat), ci < 8 → u_Kn s (am_fC ci) (am_fT ci) (am_fN ci) cC iS := by
    intro ci
    by_cases h : ci < 8
    · obtain ⟨cC, iS, h1⟩ := u_known hts (am_in ci h) (hts _ (op_inst ci h))
      exact ⟨cC, iS, fun _ => h1⟩
    · exact ⟨default, fun _ => 0, fun h2 => absurd h2 h⟩
  refine ⟨(fun c => (K c).choose, fun c => (K c).choose_spec.choose), fun c q hq => ?_⟩
  have hc : c < 8 := by
    have := (List.getElem?_eq_some_iff.mp hq).1
    exact this
  rw [am_cl c hc] at hq
  rw [← Option.some.inj hq]
  exact (K c).choose_spec.choose_spec hc
theorem op_lm : ∀ j : Nat, j < 7 → ∃ z : Int64, am_lm j = z ∧ Jvm.Cond.eq (.elem (.static "BranchSums$Spans" "FIRSTS" "[J") (.int (Int32.ofNat j))) (.long z) ∈ flatC (Jvm.Cond.and given_1 narrow_1) := by
  intro j h
  match j, h with
  | 0, _ => exact ⟨_, rfl, by decide +kernel⟩
  | 1, _ => exact ⟨_, rfl, by decide +kernel⟩
  | 2, _ => exact ⟨_, rfl, by decide +kernel⟩
  | 3, _ => exact ⟨_, rfl, by decide +kernel⟩
  | 4, _ => exact ⟨_, rfl, by decide +kernel⟩
  | 5, _ => exact ⟨_, rfl, by decide +kernel⟩
  | 6, _ => exact ⟨_, rfl, by decide +kernel⟩
  | n + 7, h => omega
theorem op_C {p : Program} {s : State} {m : MethodId} {meth : Method} {c : Code} {b L : Nat} {xs : Nat → Int32} (l : Launch) (hL : L ≤ 3072) (C0 : lw_At p s m meth c b L xs) : ∃ (D : va_G) (cA : Nat → ClassId) (tf : Nat), am_C (l, D, cA, b, L, tf, s.heap.size, s.heap, xs) s := by
  obtain ⟨hx, hb, hr, hml, hown, hts, hX, hbl, hlk, hgv⟩ := C0
  have hts2 : ∀ w ∈ am_tbl, w.before #[Value.ref b] s = true := fun w hw => hts w (List.mem_filter.mp hw).1
  have hq := flat_of_before _ hgv
  obtain ⟨D, hD⟩ := op_K hts2
  obtain ⟨c10, f10, a10⟩ := op_arr (hts _ (op_t (i := 936) (w := .arrayClass .byte) (by decide +kernel)))
  obtain ⟨c11, f11, a11⟩ := op_arr (hts _ (op_t (i := 66) (w := .arrayClass .int) (by decide +kernel)))
  obtain ⟨c12, f12, a12⟩ := op_arr (hts _ (op_t (i := 67) (w := .arrayClass .boolean) (by decide +kernel)))
  have w13 := hts _ (op_t (i := 75) (w := .arrayOver (.object RX1)) (by decide +kernel))
  have w14 := hts _ (op_t (i := 31) (w := .arrayOver (.array .int)) (by decide +kernel))
  obtain ⟨comp13, c13, k13, g1, g2, g3, g4, g5⟩ := Cond.arrayOver_spec w13
  obtain ⟨comp14, c14, k14, i1, i2, i3, i4⟩ := Cond.arrayOver_specA w14
  have e11 : comp14 = c11 := by
    have e : (FieldType.array .int).toString = "[" ++ FieldType.int.toString := by decide +kernel
    rw [e, f11] at i1
    exact (Option.some.inj i1).symm
  have harr : (Cond.arrayOf (.static "BranchSums$Spans" "FIRSTS" "[J") .long).before #[Value.ref b] s = true := hq _ (by decide +kernel)
  have hlen := va_eqt (hq (Jvm.Cond.eq (.length (.static "BranchSums$Spans" "FIRSTS" "[J")) (.int 7)) (by decide +kernel))
  obtain ⟨tf, ht, hT⟩ := va_Tof (N := 7) (f := fun j => .long (am_lm j)) (A := fun q => s.heap.size ≤ q) (by decide) harr hlen (fun j hj => by
    obtain ⟨z, e, hz⟩ := op_lm j hj
    rw [e]
    exact va_eqtl (hq _ hz)) (fun a h => Nat.not_le_of_lt h)
  have hZ : va_Z RX6 "FIRSTS" "[J" (.ref tf) (fun q => s.heap.size ≤ q) s s.heap := va_Zof (hts _ (op_t (i := 299) (w := .laysStatic RX6 "FIRSTS" "[J") (by decide +kernel))) (hts2 _ tw_13) ht (fun a h => Nat.not_le_of_lt h)
  refine ⟨D, op_cA c10 c11 c12 c13 c14, tf, ⟨hD, ?_⟩, hX, hZ, hT, rfl, Nat.lt_of_le_of_lt hL (by decide), ⟨va_AO.of w13, w14, ?_⟩, k14, comp14, i2, i3, e11, ?_⟩
  · intro k q hk
    match k, hk with
    | 0, hk => cases hk; exact ⟨a10, f10⟩
    | 1, hk => cases hk; exact ⟨a11, f11⟩
    | 2, hk => cases hk; exact ⟨a12, f12⟩
    | 3, hk => cases hk; exact ⟨fun N z => ⟨(fun k h => by cases h), k13, g3, comp13, g4⟩, k13, comp13, g3, g4, g1, g5⟩
    | 4, hk => cases hk; exact ⟨fun N z => ⟨(fun k h => by cases h), k14, i2, comp14, i3⟩, i4⟩
    | n + 5, hk => cases hk
  · intro w hw
    rcases List.mem_cons.mp hw with rfl | hw
    · exact va_Nw.of rfl (hts _ (op_t (i := 90) (by decide +kernel)))
    rcases List.mem_cons.mp hw with rfl | hw
    · exact va_Nw.of rfl (hts _ (op_t (i := 125) (by decide +kernel)))
    rcases List.mem_cons.mp hw with rfl | hw
    · exact va_Nw.of rfl (hts _ (op_t (i := 146) (by decide +kernel)))
    rcases List.mem_cons.mp hw with rfl | hw
    · exact va_Nw.of rfl (hts _ (op_t (i := 177) (by decide +kernel)))
    rcases List.mem_cons.mp hw with rfl | hw
    · exact va_Nw.of rfl (hts _ (op_t (i := 472) (by decide +kernel)))
    · cases hw
  · have e : "[" ++ FieldType.int.toString = "[I" := by decide +kernel
    rw [e, ← e11] at f11
    obtain ⟨-, kB, hkB, -⟩ := a11 0 (fun _ => .null)
    exact ⟨kB, by rw [e11]; exact hkB, f11⟩
theorem op_R {l : Launch} {D : va_G} {cA : Nat → ClassId} {b L tf : Nat} {xs : Nat → Int32} {H : Heap} : am_R (l, D, cA, b, L, tf, H.size, H, xs) (am_h0 xs) H :=
  ⟨Nat.le_refl _, (by decide : 3 ≤ 3273), rfl, fun _ _ => rfl, fun a h1 h2 => absurd h2 (Nat.not_lt_of_le h1), fun j => rfl, fun a h => ⟨fun j => if_neg (fun e => by rw [e] at h; exact absurd h (by decide : ¬ 3 ≤ 1)), fun j => rfl⟩⟩
/-- the machine's whole part of the claim: what is left is of the mirrors alone -/
def op_math : Prop := ∀ (N : Nat) (xs : Nat → Int32), N ≤ 3072 → ∃ p : am_m × am_rr, m_L_loop N xs am_F (am_i 0) (c_X9_init (am_nx (c_X8_init (am_nx (am_h0 xs))))).2.1 am_r9 = some p
set_option maxHeartbeats 4000000 in
theorem open_start (hmath : op_math) {p : Program} {e : Env} {s : State} {m : MethodId} {below : List Frame} {meth : Method} {c : Code} (l : Launch) {b L : Nat} {xs : Nat → Int32} (hL : L ≤ 3072) (hnm : meth.name = x.name) (C0 : lw_At p s m meth c b L xs) : W p l e room_1 s m #[Value.ref b] below meth c s.heap [] 0 0 (lw_Z below #[Value.ref b] s) (entryFrame m ([Value.ref b] : List Value).toArray 4) := by
  obtain ⟨D, cA, tf, hC⟩ := op_C l hL C0
  obtain ⟨hx, hb, hr, hml, hown, hts, hX, hbl, hlk, hgv⟩ := C0
  have hts2 : ∀ w ∈ am_tbl, w.before #[Value.ref b] s = true := fun w hw => hts w (List.mem_filter.mp hw).1
  obtain ⟨q, hq⟩ := hmath L xs hL
  have r9 : (c_X9_init (am_nx (c_X8_init (am_nx (am_h0 xs))))).2.2 = am_r9 := by
    unfold am_h0
    exact am_r9_of
  have K := law_W (G := (l, D, cA, b, L, tf, s.heap.size, s.heap, xs)) (N := L) (xs := xs) (p := q) rfl rfl rfl r9 am_lay9 hq
  have Kz : ∀ (pc : Nat) (ls : Array Slot) (H : Heap) (locs : List Loc) (ins : Instr), am_ret ret (some (.int (am_i 1))) ins → decode code pc = .ok (ins, 1) → (∀ q ∈ locs, s.heap.size ≤ q.base) →
      W p l e room_1 s m #[Value.ref b] below meth c H locs ((am_hh q.1 q.2).1 - 3) (am_SL (am_hh q.1 q.2).1 - am_SL 3) (lw_Z below #[Value.ref b] s) (F0 m pc ls [.int 1]) := by
    intro pc ls H locs ins hins hd hlocs
    have ei : ins = .ireturn := by
      rcases hins with ⟨-, -, h⟩ | ⟨-, -, h⟩ | ⟨h, -⟩ | ⟨h, -⟩ | ⟨⟨t, h⟩, -⟩
      · exact h
      · exact h
      · exact absurd h (by decide)
      · exact absurd h (by decide)
      · cases h
    rw [ei] at hd
    refine va_forget hlocs (W.widen (k := 600000) (n := 7302250) ?_ ?_ (lw_ret hx hb hr hlk hd))
    · show 3273 - 3 ≤ 600000
      decide
    · show am_SL 3273 - am_SL 3 ≤ 7302250
      decide +kernel
  have hsl : am_SL 3273 - am_SL 3 ≤ 7302250 := by decide +kernel
  have hrm : 28 ≤ room_1.frames ∧ 60 * 28 ≤ room_1.locals ∧ (am_hh q.1 q.2).1 - 3 ≤ room_1.cells ∧ am_SL (am_hh q.1 q.2).1 - am_SL 3 ≤ room_1.slots :=
    ⟨(by decide : 28 ≤ 2048), (by decide : 60 * 28 ≤ 84000), (by decide : 3273 - 3 ≤ 600000), hsl⟩
  have hlv : lv_has ((lg_sl [Value.ref b] ++ List.replicate (4 - (lg_sl [Value.ref b]).length) Slot.unset).toArray) 4 (am_vL (l, D, cA, b, L, tf, s.heap.size, s.heap, xs) [(0, .ref 1)]) := lv_entry [Value.ref b] (Nat.le_of_ble_eq_true rfl)
  have M := K.2 p e room_1 s m #[Value.ref b] below meth c ((lg_sl [Value.ref b] ++ List.replicate (4 - (lg_sl [Value.ref b]).length) Slot.unset).toArray) s.heap [] 3 (lw_Z below #[Value.ref b] s) hx hb hml hnm hown hts2 hC (Nat.le_refl _) hrm (fun pc ls H locs ins h1 h2 _ h4 => Kz pc ls H locs ins h1 h2 h4) op_R (fun _ h => absurd h List.not_mem_nil) hlv
  have e0 : (am_h0 xs).1 - 3 = 0 := rfl
  have e1 : am_SL (am_h0 xs).1 - am_SL 3 = 0 := Nat.sub_self _
  rw [e0, e1] at M
  rw [lg_entry_eq]
  exact M
