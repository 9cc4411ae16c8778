/-! ===== THE ABSTRACT MACHINE, 1: its heap, its values, what it is a picture of ===== -/
/-- heap: the next address; ints by address and slot; references by address and slot (0 is null) -/
abbrev am_H : Type := Nat × (Nat → Nat → Int32) × (Nat → Nat → Nat)
abbrev am_L : Type := List (Nat × Value)
/-- a run's fixed things: launch, classes, array classes by kind, script's address and length, FIRSTS' address, first own address, heap at the start, the script -/
abbrev am_G : Type := Launch × va_G × (Nat → ClassId) × Nat × Nat × Nat × Nat × Heap × (Nat → Int32)
abbrev am_l (G : am_G) : Launch := G.1
abbrev am_D (G : am_G) : va_G := G.2.1
abbrev am_cA (G : am_G) : Nat → ClassId := G.2.2.1
abbrev am_b (G : am_G) : Nat := G.2.2.2.1
abbrev am_n (G : am_G) : Nat := G.2.2.2.2.1
abbrev am_tf (G : am_G) : Nat := G.2.2.2.2.2.1
abbrev am_bs (G : am_G) : Nat := G.2.2.2.2.2.2.1
abbrev am_Hb (G : am_G) : Heap := G.2.2.2.2.2.2.2.1
abbrev am_xs (G : am_G) : Nat → Int32 := G.2.2.2.2.2.2.2.2
/-- a method: name, bytes, locals, what it returns -/
abbrev am_M : Type := MethodName × ByteArray × Nat × Option FieldType
/-- where an address lies -/
def am_r (G : am_G) (a : Nat) : Nat := if a = 1 then am_b G else if a = 2 then am_tf G else am_bs G + (a - 3)
def am_o (G : am_G) (a : Nat) : Option Nat := if a = 0 then none else some (am_r G a)
def am_v (G : am_G) : Value → Value
  | .ref a => .ref (am_r G a)
  | v => v
def am_vL (G : am_G) (lv : am_L) : am_L := lv.map (fun q => (q.1, am_v G q.2))
theorem am_v_cat (G : am_G) (v : Value) : (am_v G v).category = v.category := by cases v <;> rfl
/-- a reference by its number -/
def am_q (a : Nat) : Value := if a = 0 then .null else .ref a
theorem am_v_q (G : am_G) (a : Nat) : am_v G (am_q a) = va_rf (am_o G a) := by
  unfold am_q am_o
  by_cases h : a = 0
  · rw [if_pos h, if_pos h]; rfl
  · rw [if_neg h, if_neg h]; rfl
/-- the cells of an Org, from its first -/
def am_org (k : Nat) : Nat × Nat :=
  bif Nat.beq k 0 then (1, 6) else bif Nat.beq k 1 then (11, 24) else bif Nat.beq k 2 then (12, 24) else bif Nat.beq k 3 then (14, 24) else bif Nat.ble k 27 then (11, 64) else
  bif Nat.beq k 28 then (14, 24) else bif Nat.ble k 52 then (11, 64) else bif Nat.beq k 53 then (11, 24) else bif Nat.beq k 54 then (14, 192) else (11, 64)
/-- kind and size of the cell at an address: kinds 0 .. 7 objects of vwCl, 10 bytes, 11 ints, 12 booleans, 13 Orgs, 14 rows -/
def am_sh (a : Nat) : Nat × Nat :=
  bif Nat.ble a 2 then (11, 0) else bif Nat.beq a 3 then (6, 12) else bif Nat.ble a 497 then am_org ((a - 4) % 247) else bif Nat.beq a 498 then (2, 3) else bif Nat.beq a 499 then (13, 10) else
  bif Nat.ble a 2969 then am_org ((a - 500) % 247) else bif Nat.ble a 2981 then (bif Nat.beq ((a - 2970) % 6) 0 then (0, 7) else bif Nat.beq ((a - 2970) % 6) 1 then (11, 11) else (11, 12)) else
  bif Nat.beq a 2982 then (4, 4) else bif Nat.beq a 2983 then (11, 64) else bif Nat.beq a 2984 then (5, 7) else bif Nat.beq a 2985 then (11, 400) else bif Nat.beq a 2986 then (3, 2) else
  bif Nat.beq a 2987 then (11, 64) else bif Nat.beq a 2988 then (14, 24) else bif Nat.ble a 3013 then (11, 64) else bif Nat.ble a 3260 then am_org (a - 3014) else bif Nat.beq a 3261 then (7, 20) else
  bif Nat.ble a 3264 then (11, 15517) else bif Nat.beq a 3265 then (11, 154560) else bif Nat.ble a 3267 then (11, 64) else bif Nat.beq a 3268 then (10, 400) else bif Nat.beq a 3269 then (11, 64) else
  bif Nat.beq a 3270 then (11, 96) else bif Nat.beq a 3271 then (11, 120) else (11, 24)
def am_len (G : am_G) (a : Nat) : Nat := bif Nat.beq a 1 then am_n G else (am_sh a).2
/-- all slots of the cells below an address -/
def am_SL : Nat → Nat
  | 0 => 0
  | n + 1 => am_SL n + (bif Nat.ble n 2 then 0 else (am_sh n).2)
theorem am_SL_le {a b : Nat} (h : a ≤ b) : am_SL a ≤ am_SL b := by
  induction b with
  | zero => rw [Nat.le_zero.mp h]; exact Nat.le_refl _
  | succ b ih =>
    by_cases h2 : a = b + 1
    · rw [h2]; exact Nat.le_refl _
    · exact Nat.le_trans (ih (by omega)) (Nat.le_add_right _ _)
/-- the fields' types by kind and place -/
def am_ty (ci k : Nat) : FieldType := match ci with
  | 0 => tyX0 k
  | 1 => tyX1 k
  | 2 => tyX2 k
  | 3 => tyX3 k
  | 4 => tyX4 k
  | 5 => tyX7 k
  | 6 => tyX8 k
  | _ => tyX9 k
def am_fT (ci : Nat) : u_T := match ci with
  | 0 => TX0
  | 1 => TX1
  | 2 => TX2
  | 3 => TX3
  | 4 => TX4
  | 5 => TX7
  | 6 => TX8
  | _ => TX9
def am_fN (ci : Nat) : Nat := match ci with
  | 0 => 7
  | 1 => 6
  | 2 => 3
  | 3 => 2
  | 4 => 4
  | 5 => 7
  | 6 => 12
  | _ => 20
def am_fC (ci : Nat) : String := match ci with
  | 0 => RX0
  | 1 => RX1
  | 2 => RX2
  | 3 => RX3
  | 4 => RX4
  | 5 => RX7
  | 6 => RX8
  | _ => RX9
/-- whether a field holds a reference -/
def am_isr (ci k : Nat) : Bool := match am_ty ci k with
  | .int => false
  | .boolean => false
  | _ => true
theorem am_cl : ∀ ci, ci < 8 → vwCl[ci]? = some (am_fC ci, am_fT ci, am_fN ci) := by
  intro ci h
  match ci, h with
  | 0, _ => rfl
  | 1, _ => rfl
  | 2, _ => rfl
  | 3, _ => rfl
  | 4, _ => rfl
  | 5, _ => rfl
  | 6, _ => rfl
  | 7, _ => rfl
  | n + 8, h => omega
set_option maxRecDepth 100000 in
theorem am_shN0 : ∀ k, k < 33 → ∀ j, j < 100 → (am_sh (100 * k + j)).1 < 8 → (am_sh (100 * k + j)).2 = am_fN (am_sh (100 * k + j)).1 := by decide +kernel
theorem am_shN (n : Nat) (h : n < 3300) : (am_sh n).1 < 8 → (am_sh n).2 = am_fN (am_sh n).1 := by
  have h2 := am_shN0 (n / 100) (by omega) (n % 100) (Nat.mod_lt _ (by decide))
  rwa [Nat.div_add_mod] at h2
/-- what a field holds -/
def am_f (G : am_G) (h : am_H) (ci a j : Nat) : Value := bif am_isr ci j then va_rf (am_o G (h.2.2 a j)) else .int (h.2.1 a j)
/-- the cell at an address -/
def am_e (G : am_G) (h : am_H) (a : Nat) : va_E :=
  if (am_sh a).1 < 8 then .inr ((am_sh a).1, (List.range (am_fN (am_sh a).1)).map (am_f G h (am_sh a).1 a))
  else if (am_sh a).1 < 13 then .inl (am_cA G (am_sh a).1, (am_sh a).2, .inl (h.2.1 a))
  else .inl (am_cA G (am_sh a).1, (am_sh a).2, .inr (.inr (.inr (.inr (fun j => am_o G (h.2.2 a j))))))
/-- the machine's heap is a picture of the abstract one -/
def am_R (G : am_G) (h : am_H) (H : Heap) : Prop :=
  3 ≤ h.1 ∧ h.1 ≤ 3273 ∧ H.size + 3 = am_bs G + h.1 ∧ (∀ q, q < am_bs G → H[q]? = (am_Hb G)[q]?) ∧ (∀ a, 3 ≤ a → a < h.1 → va_at (am_D G) vwCl (am_r G a, am_e G h a) H) ∧ (∀ j, h.2.1 1 j = am_xs G j) ∧
  (∀ a, h.1 ≤ a → (∀ j, h.2.1 a j = 0) ∧ ∀ j, h.2.2 a j = 0)
def am_lm (j : Nat) : Int64 := match j with
  | 0 => -1
  | 1 => 0x5555555555555555
  | 2 => 0x1111111111111111
  | 3 => 0x0101010101010101
  | 4 => 0x0001000100010001
  | 5 => 0x0000000100000001
  | _ => 1
abbrev am_own (G : am_G) : Nat → Prop := fun q => am_bs G ≤ q
def am_tys (G : am_G) : List (ClassId × FieldType) := [(am_cA G 10, .byte), (am_cA G 11, .int), (am_cA G 12, .boolean), (am_cA G 13, .object RX1), (am_cA G 14, .array .int)]
/-- the tables' words that hold in every later state -/
def am_tbl : List Jvm.Cond := lw_tbl.filter goodWord
/-- the links to a nest mate's private methods -/
def am_nest : List Jvm.Cond := [.methodLinkNest RX8 28 yX0_init RX8, .methodLinkNest RX8 38 yX4_init RX8, .methodLinkNest RX8 45 yX7_init RX8, .methodLinkNest RX8 52 yX3_init RX8, .methodLinkNest RX7 110 yX8_isCategory RX8]
def am_N (s : State) : Prop := va_AO RX1 s ∧ (Jvm.Cond.arrayOver (.array .int)).before #[] s = true ∧ ∀ w ∈ am_nest, va_Nw w s
theorem am_N.warm {s U : State} (hW : s.WarmedH U.vm) (h : am_N s) : am_N U := by
  obtain ⟨h1, h2, h3⟩ := h
  refine ⟨h1.moved hW.alike, over_moved hW.alike h2, fun w hw => ?_⟩
  have h4 := h3 w hw
  rcases List.mem_cons.mp hw with rfl | hw
  · exact va_Nw.warmM hW h4
  rcases List.mem_cons.mp hw with rfl | hw
  · exact va_Nw.warmM hW h4
  rcases List.mem_cons.mp hw with rfl | hw
  · exact va_Nw.warmM hW h4
  rcases List.mem_cons.mp hw with rfl | hw
  · exact va_Nw.warmM hW h4
  rcases List.mem_cons.mp hw with rfl | hw
  · exact va_Nw.warmM hW h4
  · cases hw
/-- what a state knows of classes, of the script and of FIRSTS -/
def am_C (G : am_G) (s : State) : Prop :=
  va_K (am_D G) vwCl (am_tys G) s ∧ va_X (am_b G) (am_n G) (am_xs G) s (am_Hb G) ∧ va_Z RX6 "FIRSTS" "[J" (.ref (am_tf G)) (am_own G) s (am_Hb G) ∧
  va_T .long (am_tf G) 7 (fun j => .long (am_lm j)) (am_own G) s (am_Hb G) ∧ (am_Hb G).size = am_bs G ∧ am_n G < 2 ^ 31 ∧
  am_N s ∧ (∃ (kA : Class) (comp : ClassId), s.vm.classes[am_cA G 14]? = some kA ∧ kA.kind = .array comp (.array .int) ∧ comp = am_cA G 11 ∧ ∃ kB : Class, s.vm.classes[comp]? = some kB ∧ s.vm.findClass "[I" = some comp)
theorem am_isArr {u U : State} (hvm : u.vm.Alike U.vm) {cell : Cell} {ty : FieldType} (h : u.isArrayOf cell ty) : U.isArrayOf cell ty := State.isArrayOf_alike hvm h
theorem am_C.warm {G : am_G} {u U : State} (hW : u.WarmedH U.vm) (h : am_C G u) : am_C G U := by
  have hvm := hW.alike
  obtain ⟨h1, h2, h3, ⟨cell, q1, q2, q3⟩, h5, h6, hN, kA, comp, h7, h8, h9, kB, h10, h11⟩ := h
  obtain ⟨kA', hA', eA⟩ := hvm.2.2 _ _ h7
  obtain ⟨kB', hB', eB⟩ := hvm.2.2 _ _ h10
  refine ⟨h1.moved hvm, h2.moved hvm, h3.moved hvm, ⟨cell, q1, am_isArr hvm q2, q3⟩, h5, h6, hN.warm hW, kA', comp, hA', by rw [eA]; exact h8, h9, kB', hB', by rw [hvm.findClass]; exact h11⟩
/-- room for calls d deep that make so many cells and slots -/
def am_rm (d mc ms : Nat) : Room := { frames := d, cells := mc, slots := ms, locals := 60 * d }
abbrev am_ws (M : am_M) : List Cond := .code M.1 M.2.1 M.2.2.1 M.2.2.2 :: am_tbl
def am_Q (G : am_G) (r : Option Value) (h' : am_H) : Array Value → State → Outcome → State → Prop := fun _ _ o t => o = .returned (r.map (am_v G)) ∧ am_R G h' t.heap
/-- M's contract: with these arguments on this heap it gives r and h' -/
def am_Met (G : am_G) (M : am_M) (d : Nat) (as : List Value) (h : am_H) (r : Option Value) (h' : am_H) : Prop :=
  h.1 ≤ h'.1 ∧ Met (am_l G) M.1 (am_ws M) (am_rm d (h'.1 - h.1) (am_SL h'.1 - am_SL h.1)) (fun v U => v = (as.map (am_v G)).toArray ∧ am_C G U ∧ am_R G h U.heap) (am_Q G r h') (h'.1 - h.1) (am_SL h'.1 - am_SL h.1) (am_own G)
/-- the instruction that gives this answer -/
def am_ret (ret : Option FieldType) (r : Option Value) (ins : Instr) : Prop :=
  (ret = some .int ∧ (∃ v, r = some (.int v)) ∧ ins = .ireturn) ∨ (ret = some .boolean ∧ (r = some (.int 0) ∨ r = some (.int 1)) ∧ ins = .ireturn) ∨ (ret = some .long ∧ (∃ v, r = some (.long v)) ∧ ins = .lreturn) ∨
  (ret = none ∧ r = none ∧ ins = .return_) ∨ ((∃ t, ret = some (.array t)) ∧ (∃ a, r = some (.ref a)) ∧ ins = .areturn)
/-- within M, d calls deep at most, from here it comes to the answer r and the heap h' -/
def am_W (G : am_G) (M : am_M) (d : Nat) (r : Option Value) (h' : am_H) (pc : Nat) (lv : am_L) (st : List Value) (h : am_H) : Prop :=
  h.1 ≤ h'.1 ∧ ∀ (p : Program) (e : Env) (R : Room) (s : State) (m : MethodId) (args : Array Value) (below : List Frame) (meth : Method) (c : Code) (ls : Array Slot) (H : Heap) (locs : List Loc) (n0 : Nat) (Q : State → Prop),
    p.tables.exec = Jvm.exec → c.code = M.2.1 → c.maxLocals = M.2.2.1 → meth.name = M.1.name → s.vm.findClass M.1.cls = some m.cls → (∀ w ∈ am_tbl, w.before args s = true) → am_C G s → n0 ≤ h.1 →
    (d ≤ R.frames ∧ 60 * d ≤ R.locals ∧ h'.1 - n0 ≤ R.cells ∧ am_SL h'.1 - am_SL n0 ≤ R.slots) →
    (∀ (pc : Nat) (ls : Array Slot) (H : Heap) (locs : List Loc) (ins : Instr), am_ret M.2.2.2 r ins → decode M.2.1 pc = .ok (ins, 1) → am_R G h' H → (∀ q ∈ locs, am_own G q.base) →
      W p (am_l G) e R s m args below meth c H locs (h'.1 - n0) (am_SL h'.1 - am_SL n0) Q (F0 m pc ls (r.toList.map (am_v G)))) →
    am_R G h H → (∀ q ∈ locs, am_own G q.base) → lv_has ls M.2.2.1 (am_vL G lv) →
    W p (am_l G) e R s m args below meth c H locs (h.1 - n0) (am_SL h.1 - am_SL n0) Q (F0 m pc ls (st.map (am_v G)))
/-! ===== THE ABSTRACT MACHINE, 2: instructions that touch no heap ===== -/
def am_i (n : Int) : Int32 := Int32.ofInt n
def am_lk (i : Nat) : am_L → Option Value
  | [] => none
  | q :: t => bif Nat.beq q.1 i then some q.2 else am_lk i t
theorem am_lk_mem {i : Nat} {v : Value} : ∀ {lv : am_L}, am_lk i lv = some v → (i, v) ∈ lv
  | [], h => by cases h
  | q :: t, h => by
    unfold am_lk at h
    cases hq : Nat.beq q.1 i with
    | true =>
      rw [hq] at h
      have e1 : q.1 = i := Nat.eq_of_beq_eq_true hq
      have e2 : q.2 = v := Option.some.inj h
      rw [← e1, ← e2]
      exact List.mem_cons_self
    | false =>
      rw [hq] at h
      exact List.mem_cons_of_mem _ (am_lk_mem h)
theorem am_at {G : am_G} {ls : Array Slot} {nL i : Nat} {lv : am_L} {v : Value} (h : lv_has ls nL (am_vL G lv)) (hk : am_lk i lv = some v) : ls[i]? = some (.val (am_v G v)) :=
  h.2.2 (i, am_v G v) (List.mem_map.mpr ⟨(i, v), am_lk_mem hk, rfl⟩)
def am_s1 (i : Nat) (v : Value) (lv : am_L) : am_L := (i, v) :: lv.filter (fun q => !(Nat.beq q.1 i) && !(Nat.beq (q.1 + 1) i && Nat.beq q.2.category 2))
def am_s2 (i : Nat) (v : Value) (lv : am_L) : am_L := (i, v) :: lv.filter (fun q => !(Nat.beq q.1 i) && (!(Nat.beq q.1 (i + 1)) && !(Nat.beq (q.1 + 1) i && Nat.beq q.2.category 2)))
theorem am_beq (a b : Nat) : (a == b) = Nat.beq a b := by
  rw [Bool.eq_iff_iff, beq_iff_eq]
  exact ⟨fun h => by rw [h]; exact Nat.beq_refl b, Nat.eq_of_beq_eq_true⟩
theorem am_vs1 (G : am_G) (i : Nat) (v : Value) (lv : am_L) : (i, am_v G v) :: (am_vL G lv).filter (fun q => !(q.1 == i) && !(q.1 + 1 == i && q.2.category == 2)) = am_vL G (am_s1 i v lv) := by
  unfold am_vL am_s1
  rw [List.map_cons, List.filter_map]
  refine congrArg (fun t => (i, am_v G v) :: t) (congrArg _ (List.filter_congr fun q _ => ?_))
  show (!(q.1 == i) && !(q.1 + 1 == i && (am_v G q.2).category == 2)) = _
  simp only [am_v_cat, am_beq]
theorem am_vs2 (G : am_G) (i : Nat) (v : Value) (lv : am_L) : (i, am_v G v) :: (am_vL G lv).filter (fun q => !(q.1 == i) && (!(q.1 == i + 1) && !(q.1 + 1 == i && q.2.category == 2))) = am_vL G (am_s2 i v lv) := by
  unfold am_vL am_s2
  rw [List.map_cons, List.filter_map]
  refine congrArg (fun t => (i, am_v G v) :: t) (congrArg _ (List.filter_congr fun q _ => ?_))
  show (!(q.1 == i) && (!(q.1 == i + 1) && !(q.1 + 1 == i && (am_v G q.2).category == 2))) = _
  simp only [am_v_cat, am_beq]
/-- where a jump goes -/
def am_to (pc : Nat) (off : Int) : Nat := ((pc : Int) + off).toNat
/-- a pure instruction's step: next place, locals, stack -/
abbrev am_S : Type := Nat × am_L × List Value
def am_cmp (c : Jvm.ClassFile.Cond) (x y : Int32) : Prop := match c with
  | .eq => x = y
  | .ne => ¬ x = y
  | .lt => x < y
  | .ge => y ≤ x
  | .gt => y < x
  | .le => x ≤ y
def am_p (nL : Nat) (i : Instr) (pc : Nat) (lv : am_L) (st : List Value) : Option am_S := match i with
  | .iconst n => some (pc + 1, lv, .int (am_i n) :: st)
  | .bipush n => bif decide (-128 ≤ n) && decide (n ≤ 127) then some (pc + 2, lv, .int (am_i n) :: st) else none
  | .sipush n => bif decide (-32768 ≤ n) && decide (n ≤ 32767) then some (pc + 3, lv, .int (am_i n) :: st) else none
  | .lconst n => some (pc + 1, lv, .long (Int64.ofNat n.val) :: st)
  | .iload_n k => match am_lk k.val lv with
    | some (.int x) => some (pc + 1, lv, .int x :: st)
    | _ => none
  | .iload k => match am_lk k lv with
    | some (.int x) => some (pc + 2, lv, .int x :: st)
    | _ => none
  | .lload_n k => match am_lk k.val lv with
    | some (.long x) => some (pc + 1, lv, .long x :: st)
    | _ => none
  | .lload k => match am_lk k lv with
    | some (.long x) => some (pc + 2, lv, .long x :: st)
    | _ => none
  | .aload_n k => match am_lk k.val lv with
    | some (.ref x) => some (pc + 1, lv, .ref x :: st)
    | _ => none
  | .aload k => match am_lk k lv with
    | some (.ref x) => some (pc + 2, lv, .ref x :: st)
    | _ => none
  | .istore_n k => match st with
    | .int x :: t => bif Nat.blt k.val nL then some (pc + 1, am_s1 k.val (.int x) lv, t) else none
    | _ => none
  | .istore k => match st with
    | .int x :: t => bif Nat.blt k nL then some (pc + 2, am_s1 k (.int x) lv, t) else none
    | _ => none
  | .lstore_n k => match st with
    | .long x :: t => bif Nat.blt (k.val + 1) nL then some (pc + 1, am_s2 k.val (.long x) lv, t) else none
    | _ => none
  | .lstore k => match st with
    | .long x :: t => bif Nat.blt (k + 1) nL then some (pc + 2, am_s2 k (.long x) lv, t) else none
    | _ => none
  | .astore_n k => match st with
    | .ref x :: t => bif Nat.blt k.val nL then some (pc + 1, am_s1 k.val (.ref x) lv, t) else none
    | _ => none
  | .astore k => match st with
    | .ref x :: t => bif Nat.blt k nL then some (pc + 2, am_s1 k (.ref x) lv, t) else none
    | _ => none
  | .iinc k n => match am_lk k lv with
    | some (.int x) => bif Nat.blt k nL then some (pc + 3, am_s1 k (.int (x + am_i n)) lv, st) else none
    | _ => none
  | .iadd => match st with
    | .int y :: .int x :: t => some (pc + 1, lv, .int (x + y) :: t)
    | _ => none
  | .isub => match st with
    | .int y :: .int x :: t => some (pc + 1, lv, .int (x - y) :: t)
    | _ => none
  | .imul => match st with
    | .int y :: .int x :: t => some (pc + 1, lv, .int (x * y) :: t)
    | _ => none
  | .iand => match st with
    | .int y :: .int x :: t => some (pc + 1, lv, .int (x &&& y) :: t)
    | _ => none
  | .ior => match st with
    | .int y :: .int x :: t => some (pc + 1, lv, .int (x ||| y) :: t)
    | _ => none
  | .ineg => match st with
    | .int x :: t => some (pc + 1, lv, .int (-x) :: t)
    | _ => none
  | .ishl => match st with
    | .int y :: .int x :: t => some (pc + 1, lv, .int (x <<< (y &&& 31)) :: t)
    | _ => none
  | .ishr => match st with
    | .int y :: .int x :: t => some (pc + 1, lv, .int (x >>> (y &&& 31)) :: t)
    | _ => none
  | .iushr => match st with
    | .int y :: .int x :: t => some (pc + 1, lv, .int ((x.toUInt32 >>> (y.toUInt32 &&& Int32.toUInt32 31)).toInt32) :: t)
    | _ => none
  | .i2l => match st with
    | .int x :: t => some (pc + 1, lv, .long x.toInt64 :: t)
    | _ => none
  | .l2i => match st with
    | .long x :: t => some (pc + 1, lv, .int x.toInt32 :: t)
    | _ => none
  | .i2b => match st with
    | .int x :: t => some (pc + 1, lv, .int x.toInt8.toInt32 :: t)
    | _ => none
  | .ladd => match st with
    | .long y :: .long x :: t => some (pc + 1, lv, .long (x + y) :: t)
    | _ => none
  | .lsub => match st with
    | .long y :: .long x :: t => some (pc + 1, lv, .long (x - y) :: t)
    | _ => none
  | .lmul => match st with
    | .long y :: .long x :: t => some (pc + 1, lv, .long (x * y) :: t)
    | _ => none
  | .land => match st with
    | .long y :: .long x :: t => some (pc + 1, lv, .long (x &&& y) :: t)
    | _ => none
  | .lor => match st with
    | .long y :: .long x :: t => some (pc + 1, lv, .long (x ||| y) :: t)
    | _ => none
  | .lxor => match st with
    | .long y :: .long x :: t => some (pc + 1, lv, .long (x ^^^ y) :: t)
    | _ => none
  | .lshl => match st with
    | .int y :: .long x :: t => some (pc + 1, lv, .long (x <<< (y.toInt64 &&& 63)) :: t)
    | _ => none
  | .lushr => match st with
    | .int y :: .long x :: t => some (pc + 1, lv, .long ((x.toUInt64 >>> (y.toInt64.toUInt64 &&& Int64.toUInt64 63)).toInt64) :: t)
    | _ => none
  | .lcmp => match st with
    | .long y :: .long x :: t => some (pc + 1, lv, .int (lg_cmp x y) :: t)
    | _ => none
  | .dup => match st with
    | .int x :: t => some (pc + 1, lv, .int x :: .int x :: t)
    | .ref x :: t => some (pc + 1, lv, .ref x :: .ref x :: t)
    | _ => none
  | .dup2 => match st with
    | .int y :: .int x :: t => some (pc + 1, lv, .int y :: .int x :: .int y :: .int x :: t)
    | .int y :: .ref x :: t => some (pc + 1, lv, .int y :: .ref x :: .int y :: .ref x :: t)
    | _ => none
  | .pop => match st with
    | .int _ :: t => some (pc + 1, lv, t)
    | _ => none
  | .goto off => bif decide (0 ≤ (pc : Int) + off) then some (am_to pc off, lv, st) else none
  | _ => none

section AMP
variable {G : am_G} {M : am_M} {d : Nat} {r : Option Value} {h' h : am_H} {pc : Nat} {lv : am_L} {st : List Value}
/-- fewer locals are known -/
theorem am_sub {lv' : am_L} (hs : ∀ q ∈ lv', q ∈ lv) (k : am_W G M d r h' pc lv' st h) : am_W G M d r h' pc lv st h := by
  refine ⟨k.1, fun p e R s m args below meth c ls H locs n0 Q a1 a2 a3 a4 a5 a6 a7 a8 a9 a10 a11 a12 hl => k.2 p e R s m args below meth c ls H locs n0 Q a1 a2 a3 a4 a5 a6 a7 a8 a9 a10 a11 a12 ⟨hl.1, hl.2.1, fun q hq => ?_⟩⟩
  obtain ⟨x, hx, rfl⟩ := List.mem_map.mp hq
  exact hl.2.2 _ (List.mem_map.mpr ⟨x, hs x hx, rfl⟩)
theorem am_off {off : Int} (h : decide (0 ≤ (pc : Int) + off) = true) : (pc : Int) + off = (am_to pc off : Int) := by
  have h := of_decide_eq_true h
  unfold am_to
  omega
theorem am_i8 {n : Int} (h : (decide (-128 ≤ n) && decide (n ≤ 127)) = true) : (Int8.ofInt n).toInt32 = am_i n := by
  simp only [Bool.and_eq_true, decide_eq_true_eq] at h
  apply Int32.toInt_inj.mp
  rw [Int8.toInt_toInt32, am_i, Int8.toInt_ofInt_of_le (by omega) (by omega), Int32.toInt_ofInt_of_le (by omega) (by omega)]
theorem am_i16 {n : Int} (h : (decide (-32768 ≤ n) && decide (n ≤ 32767)) = true) : (Int16.ofInt n).toInt32 = am_i n := by
  simp only [Bool.and_eq_true, decide_eq_true_eq] at h
  apply Int32.toInt_inj.mp
  rw [Int16.toInt_toInt32, am_i, Int16.toInt_ofInt_of_le (by omega) (by omega), Int32.toInt_ofInt_of_le (by omega) (by omega)]
theorem am_bif {α : Type} {b : Bool} {x : α} {y : Option α} (h : (bif b then some x else none) = y) {z : α} (hy : y = some z) : b = true ∧ x = z := by
  cases b
  · rw [hy] at h; cases h
  · rw [hy] at h; exact ⟨rfl, Option.some.inj h⟩
end AMP
/-! ===== THE ABSTRACT MACHINE, 3: the rule of the pure instructions ===== -/
def am_ln (i : Instr) : Nat := match i with
  | .bipush _ => 2
  | .sipush _ => 3
  | .iload _ => 2
  | .lload _ => 2
  | .aload _ => 2
  | .istore _ => 2
  | .lstore _ => 2
  | .astore _ => 2
  | .iinc _ _ => 3
  | .goto _ => 3
  | .getfield _ => 3
  | .putfield _ => 3
  | .getstatic _ => 3
  | .if_icmp _ _ => 3
  | .ifCond _ _ => 3
  | .ifnull _ => 3
  | .ifnonnull _ => 3
  | .invokevirtual _ => 3
  | .invokespecial _ => 3
  | .invokestatic _ => 3
  | .ldc _ => 2
  | .ldc_w _ => 3
  | .ldc2_w _ => 3
  | .new _ => 3
  | .newarray _ => 2
  | .anewarray _ => 3
  | .multianewarray _ _ => 4
  | _ => 1
section AMP3
variable {G : am_G} {M : am_M} {d : Nat} {r : Option Value} {h' h : am_H} {pc : Nat} {lv : am_L} {st : List Value}
set_option maxHeartbeats 4000000 in
theorem am_pure {i : Instr} {pc' : Nat} {lv' : am_L} {st' : List Value} (hd : decode M.2.1 pc = .ok (i, am_ln i)) (hp : am_p M.2.2.1 i pc lv st = some (pc', lv', st')) (kk0 : am_W G M d r h' pc' lv' st' h) : am_W G M d r h' pc lv st h := by
  refine ⟨kk0.1, fun p e R s m args below meth c ls H locs n0 Q hx hb hml hnm hown hts hC hn0 hRm hret hR hL hl => ?_⟩
  have K := fun ls' (hl' : lv_has ls' M.2.2.1 (am_vL G lv')) => kk0.2 p e R s m args below meth c ls' H locs n0 Q hx hb hml hnm hown hts hC hn0 hRm hret hR hL hl'
  cases i with
  | iconst n =>
    cases hp
    exact lv_iconst hx hb hd rfl (K ls hl)
  | bipush n =>
    obtain ⟨hb1, e⟩ := am_bif (x := ((pc + 2, lv, Value.int (am_i n) :: st) : am_S)) rfl hp
    cases e
    exact lv_bipush hx hb hd (am_i8 hb1) (K ls hl)
  | sipush n =>
    obtain ⟨hb1, e⟩ := am_bif (x := ((pc + 3, lv, Value.int (am_i n) :: st) : am_S)) rfl hp
    cases e
    exact lv_sipush hx hb hd (am_i16 hb1) (K ls hl)
  | lconst n =>
    cases hp
    exact lv_lconst hx hb hd rfl (K ls hl)
  | iload_n k =>
    simp only [am_p] at hp
    split at hp
    · rename_i x hk
      cases hp
      exact lv_iload_n hx hb hd rfl (am_at hl hk) (K ls hl)
    · cases hp
  | iload k =>
    simp only [am_p] at hp
    split at hp
    · rename_i x hk
      cases hp
      exact lv_iload hx hb hd (am_at hl hk) (K ls hl)
    · cases hp
  | lload_n k =>
    simp only [am_p] at hp
    split at hp
    · rename_i x hk
      cases hp
      exact lv_lload_n hx hb hd rfl (am_at hl hk) (K ls hl)
    · cases hp
  | lload k =>
    simp only [am_p] at hp
    split at hp
    · rename_i x hk
      cases hp
      exact lv_lload hx hb hd (am_at hl hk) (K ls hl)
    · cases hp
  | aload_n k =>
    simp only [am_p] at hp
    split at hp
    · rename_i x hk
      cases hp
      exact lv_aload_n hx hb hd rfl (am_at hl hk) (K ls hl)
    · cases hp
  | aload k =>
    simp only [am_p] at hp
    split at hp
    · rename_i x hk
      cases hp
      exact lv_aload hx hb hd (am_at hl hk) (K ls hl)
    · cases hp
  | istore_n k =>
    simp only [am_p] at hp
    split at hp
    · rename_i x t
      obtain ⟨hb1, e⟩ := am_bif (x := ((pc + 1, am_s1 k.val (.int x) lv, t) : am_S)) rfl hp
      cases e
      exact lv_istore_n hx hb hd rfl hl (Nat.le_of_ble_eq_true hb1) (am_vs1 G k.val (.int x) lv) (fun ls hl => K ls hl)
    · cases hp
  | istore k =>
    simp only [am_p] at hp
    split at hp
    · rename_i x t
      obtain ⟨hb1, e⟩ := am_bif (x := ((pc + 2, am_s1 k (.int x) lv, t) : am_S)) rfl hp
      cases e
      exact lv_istore hx hb hd hl (Nat.le_of_ble_eq_true hb1) (am_vs1 G k (.int x) lv) (fun ls hl => K ls hl)
    · cases hp
  | astore_n k =>
    simp only [am_p] at hp
    split at hp
    · rename_i x t
      obtain ⟨hb1, e⟩ := am_bif (x := ((pc + 1, am_s1 k.val (.ref x) lv, t) : am_S)) rfl hp
      cases e
      exact lv_astore_n hx hb hd rfl hl (Nat.le_of_ble_eq_true hb1) (am_vs1 G k.val (.ref x) lv) (fun ls hl => K ls hl)
    · cases hp
  | astore k =>
    simp only [am_p] at hp
    split at hp
    · rename_i x t
      obtain ⟨hb1, e⟩ := am_bif (x := ((pc + 2, am_s1 k (.ref x) lv, t) : am_S)) rfl hp
      cases e
      exact lv_astore hx hb hd hl (Nat.le_of_ble_eq_true hb1) (am_vs1 G k (.ref x) lv) (fun ls hl => K ls hl)
    · cases hp
  | lstore_n k =>
    simp only [am_p] at hp
    split at hp
    · rename_i x t
      obtain ⟨hb1, e⟩ := am_bif (x := ((pc + 1, am_s2 k.val (.long x) lv, t) : am_S)) rfl hp
      cases e
      exact lv_lstore_n hx hb hd rfl hl (Nat.le_of_ble_eq_true hb1) (am_vs2 G k.val (.long x) lv) (fun ls hl => K ls hl)
    · cases hp
  | lstore k =>
    simp only [am_p] at hp
    split at hp
    · rename_i x t
      obtain ⟨hb1, e⟩ := am_bif (x := ((pc + 2, am_s2 k (.long x) lv, t) : am_S)) rfl hp
      cases e
      exact lv_lstore hx hb hd hl (Nat.le_of_ble_eq_true hb1) (am_vs2 G k (.long x) lv) (fun ls hl => K ls hl)
    · cases hp
  | iinc k n =>
    simp only [am_p] at hp
    split at hp
    · rename_i x hk
      obtain ⟨hb1, e⟩ := am_bif (x := ((pc + 3, am_s1 k (.int (x + am_i n)) lv, st) : am_S)) rfl hp
      cases e
      obtain ⟨q, hq⟩ := List.getElem?_of_mem (List.mem_map.mpr ⟨(k, Value.int x), am_lk_mem hk, rfl⟩ : (k, am_v G (Value.int x)) ∈ am_vL G lv)
      exact lv_iinc hx hb hd hl (k := q) hq rfl (Nat.le_of_ble_eq_true hb1) (am_vs1 G k (.int (x + am_i n)) lv) (fun ls hl => K ls hl)
    · cases hp
  | iadd =>
    simp only [am_p] at hp
    split at hp
    · cases hp
      exact lv_iadd hx hb hd (K ls hl)
    · cases hp
  | isub =>
    simp only [am_p] at hp
    split at hp
    · cases hp
      exact lv_isub hx hb hd (K ls hl)
    · cases hp
  | imul =>
    simp only [am_p] at hp
    split at hp
    · cases hp
      exact lv_imul hx hb hd (K ls hl)
    · cases hp
  | iand =>
    simp only [am_p] at hp
    split at hp
    · cases hp
      exact lv_iand hx hb hd (K ls hl)
    · cases hp
  | ior =>
    simp only [am_p] at hp
    split at hp
    · cases hp
      exact lv_ior hx hb hd (K ls hl)
    · cases hp
  | ishl =>
    simp only [am_p] at hp
    split at hp
    · cases hp
      exact lv_ishl hx hb hd (K ls hl)
    · cases hp
  | ishr =>
    simp only [am_p] at hp
    split at hp
    · cases hp
      exact lv_ishr hx hb hd (K ls hl)
    · cases hp
  | ineg =>
    simp only [am_p] at hp
    split at hp
    · cases hp
      exact lv_ineg hx hb hd (K ls hl)
    · cases hp
  | iushr =>
    simp only [am_p] at hp
    split at hp
    · cases hp
      exact lv_iushr hx hb hd rfl (K ls hl)
    · cases hp
  | i2l =>
    simp only [am_p] at hp
    split at hp
    · cases hp
      exact lv_i2l hx hb hd rfl (K ls hl)
    · cases hp
  | l2i =>
    simp only [am_p] at hp
    split at hp
    · cases hp
      exact lv_l2i hx hb hd rfl (K ls hl)
    · cases hp
  | i2b =>
    simp only [am_p] at hp
    split at hp
    · cases hp
      exact lv_i2b hx hb hd rfl (K ls hl)
    · cases hp
  | lshl =>
    simp only [am_p] at hp
    split at hp
    · cases hp
      exact lv_lshl hx hb hd rfl (K ls hl)
    · cases hp
  | lushr =>
    simp only [am_p] at hp
    split at hp
    · cases hp
      exact lv_lushr hx hb hd rfl (K ls hl)
    · cases hp
  | ladd =>
    simp only [am_p] at hp
    split at hp
    · cases hp
      exact lv_ladd hx hb hd (K ls hl)
    · cases hp
  | lsub =>
    simp only [am_p] at hp
    split at hp
    · cases hp
      exact lv_lsub hx hb hd (K ls hl)
    · cases hp
  | lmul =>
    simp only [am_p] at hp
    split at hp
    · cases hp
      exact lv_lmul hx hb hd (K ls hl)
    · cases hp
  | land =>
    simp only [am_p] at hp
    split at hp
    · cases hp
      exact lv_land hx hb hd (K ls hl)
    · cases hp
  | lor =>
    simp only [am_p] at hp
    split at hp
    · cases hp
      exact lv_lor hx hb hd (K ls hl)
    · cases hp
  | lxor =>
    simp only [am_p] at hp
    split at hp
    · cases hp
      exact lv_lxor hx hb hd (K ls hl)
    · cases hp
  | lcmp =>
    simp only [am_p] at hp
    split at hp
    · cases hp
      exact W.lcmp hx hb hd (K ls hl)
    · cases hp
  | dup =>
    simp only [am_p] at hp
    split at hp
    · cases hp
      exact lv_dup hx hb hd rfl (K ls hl)
    · cases hp
      exact lv_dup hx hb hd rfl (K ls hl)
    · cases hp
  | dup2 =>
    simp only [am_p] at hp
    split at hp
    · cases hp
      exact lv_dup2_11 hx hb hd rfl rfl (K ls hl)
    · cases hp
      exact lv_dup2_11 hx hb hd rfl rfl (K ls hl)
    · cases hp
  | pop =>
    simp only [am_p] at hp
    split at hp
    · cases hp
      exact lv_pop hx hb hd rfl (K ls hl)
    · cases hp
  | goto off =>
    obtain ⟨hb1, e⟩ := am_bif (x := ((am_to pc off, lv, st) : am_S)) rfl hp
    cases e
    exact lv_goto hx hb hd (am_off hb1) (K ls hl)
  | _ =>
    exact absurd hp (by simp only [am_p]; exact fun q => by cases q)
end AMP3
/-! ===== THE ABSTRACT MACHINE, 4: branches; the heap read and written ===== -/
def am_up {α : Type} (f : Nat → α) (a : Nat) (v : α) : Nat → α := fun b => if b = a then v else f b
theorem am_up_same {α : Type} (f : Nat → α) (a : Nat) (v : α) : am_up f a v a = v := if_pos rfl
theorem am_up_ne {α : Type} (f : Nat → α) {a b : Nat} (v : α) (h : b ≠ a) : am_up f a v b = f b := if_neg h
/-- an int stored; a reference stored -/
def am_ui (h : am_H) (a k : Nat) (x : Int32) : am_H := (h.1, am_up h.2.1 a (am_up (h.2.1 a) k x), h.2.2)
def am_ur (h : am_H) (a k : Nat) (x : Nat) : am_H := (h.1, h.2.1, am_up h.2.2 a (am_up (h.2.2 a) k x))
/-- a made cell of kind ci (or kinds 10 ..) -/
def am_is (h : am_H) (a ci : Nat) : Prop := 3 ≤ a ∧ a < h.1 ∧ (am_sh a).1 = ci
theorem am_P1 {D : va_G} {cl : List vw_C} {q : Nat × va_E} {H : Heap} (h : va_at D cl q H) : va_P D cl [q] H := by
  intro k x hx
  cases k with
  | zero => cases hx; exact h
  | succ k => simp at hx
section AMH
variable {G : am_G} {h h1 : am_H} {H H1 : Heap} {a : Nat}
theorem am_r3 (ha : 3 ≤ a) : am_r G a = am_bs G + (a - 3) := by
  unfold am_r
  rw [if_neg (by omega), if_neg (by omega)]
theorem am_e_congr (e1 : h1.2.1 a = h.2.1 a) (e2 : h1.2.2 a = h.2.2 a) : am_e G h1 a = am_e G h a := by
  have e3 : am_f G h1 (am_sh a).1 a = am_f G h (am_sh a).1 a := by
    funext j
    unfold am_f
    rw [e1, e2]
  unfold am_e
  rw [e1, e2, e3]
theorem am_e_obj {ci : Nat} (hk : (am_sh a).1 = ci) (hc : ci < 8) : am_e G h a = .inr (ci, (List.range (am_fN ci)).map (am_f G h ci a)) := by
  unfold am_e
  rw [hk, if_pos hc]
theorem am_e_arr {ci : Nat} (hk : (am_sh a).1 = ci) (hc : 8 ≤ ci) (hc2 : ci < 13) : am_e G h a = .inl (am_cA G ci, (am_sh a).2, .inl (h.2.1 a)) := by
  unfold am_e
  rw [hk, if_neg (by omega), if_pos hc2]
theorem am_e_ref {ci : Nat} (hk : (am_sh a).1 = ci) (hc : 13 ≤ ci) : am_e G h a = .inl (am_cA G ci, (am_sh a).2, .inr (.inr (.inr (.inr (fun j => am_o G (h.2.2 a j)))))) := by
  unfold am_e
  rw [hk, if_neg (by omega), if_neg (by omega)]
theorem am_R.upd (hR : am_R G h H) (ha : 3 ≤ a) (hl : a < h.1) (hz : H1.size = H.size) (ho : ∀ q, q ≠ am_r G a → H1[q]? = H[q]?) (hm : ∀ b, b ≠ a → h1.2.1 b = h.2.1 b ∧ h1.2.2 b = h.2.2 b) (hn : h1.1 = h.1) (hat : va_at (am_D G) vwCl (am_r G a, am_e G h1 a) H1) : am_R G h1 H1 := by
  obtain ⟨r1, r2, r3, r4, r5, r6, r7⟩ := hR
  have hra := am_r3 (G := G) ha
  refine ⟨by rw [hn]; exact r1, by rw [hn]; exact r2, by rw [hz, hn]; exact r3, fun q hq => ?_, fun b hb hbl => ?_, fun j => ?_, fun b hb => ?_⟩
  · rw [ho q (by rw [hra]; omega)]
    exact r4 q hq
  · by_cases hba : b = a
    · rw [hba]; exact hat
    · have e := hm b hba
      rw [am_e_congr e.1 e.2]
      exact (r5 b hb (by rw [← hn]; exact hbl)).kept (ho _ (by show am_r G b ≠ am_r G a; rw [hra, am_r3 hb]; omega))
  · rw [(hm 1 (by omega)).1]
    exact r6 j
  · have e := hm b (by rw [hn] at hb; omega)
    rw [e.1, e.2]
    exact r7 b (by rw [← hn]; exact hb)
theorem am_R.at (hR : am_R G h H) (ha : 3 ≤ a) (hl : a < h.1) : va_at (am_D G) vwCl (am_r G a, am_e G h a) H := hR.2.2.2.2.1 a ha hl
end AMH
section AMB
variable {G : am_G} {M : am_M} {d : Nat} {r : Option Value} {h' h : am_H} {pc : Nat} {lv : am_L} {st : List Value}
set_option maxHeartbeats 1000000 in
theorem am_icmp {cnd : Jvm.ClassFile.Cond} {off : Int} {x y : Int32} {tgt : Nat} (hd : decode M.2.1 pc = .ok (.if_icmp cnd off, 3)) (ht : (pc : Int) + off = (tgt : Int)) (kt : am_cmp cnd x y → am_W G M d r h' tgt lv st h) (kf : ¬ am_cmp cnd x y → am_W G M d r h' (pc + 3) lv st h) : am_W G M d r h' pc lv (.int y :: .int x :: st) h := by
  refine ⟨(Classical.em (am_cmp cnd x y)).elim (fun q => (kt q).1) (fun q => (kf q).1), fun p e R s m args below meth c ls H locs n0 Q hx hb hml hnm hown hts hC hn0 hRm hret hR hL hl => ?_⟩
  have Kt := fun q => (kt q).2 p e R s m args below meth c ls H locs n0 Q hx hb hml hnm hown hts hC hn0 hRm hret hR hL hl
  have Kf := fun q => (kf q).2 p e R s m args below meth c ls H locs n0 Q hx hb hml hnm hown hts hC hn0 hRm hret hR hL hl
  cases cnd with
  | eq => exact lv_icmp_eq hx hb hd ht Kt Kf
  | ne => exact lv_icmp_ne hx hb hd ht Kt (fun q => Kf (fun z => z q))
  | lt => exact lv_icmp_lt hx hb hd ht Kt Kf
  | ge => exact lv_icmp_ge hx hb hd ht Kt Kf
  | gt => exact lv_icmp_gt hx hb hd ht Kt Kf
  | le => exact lv_icmp_le hx hb hd ht Kt Kf
set_option maxHeartbeats 1000000 in
theorem am_ifc {cnd : Jvm.ClassFile.Cond} {off : Int} {x : Int32} {tgt : Nat} (hd : decode M.2.1 pc = .ok (.ifCond cnd off, 3)) (ht : (pc : Int) + off = (tgt : Int)) (kt : am_cmp cnd x 0 → am_W G M d r h' tgt lv st h) (kf : ¬ am_cmp cnd x 0 → am_W G M d r h' (pc + 3) lv st h) : am_W G M d r h' pc lv (.int x :: st) h := by
  refine ⟨(Classical.em (am_cmp cnd x 0)).elim (fun q => (kt q).1) (fun q => (kf q).1), fun p e R s m args below meth c ls H locs n0 Q hx hb hml hnm hown hts hC hn0 hRm hret hR hL hl => ?_⟩
  have Kt := fun q => (kt q).2 p e R s m args below meth c ls H locs n0 Q hx hb hml hnm hown hts hC hn0 hRm hret hR hL hl
  have Kf := fun q => (kf q).2 p e R s m args below meth c ls H locs n0 Q hx hb hml hnm hown hts hC hn0 hRm hret hR hL hl
  cases cnd with
  | eq => exact lv_if_eq hx hb hd ht Kt Kf
  | ne => exact lv_if_ne hx hb hd ht Kt (fun q => Kf (fun z => z q))
  | lt => exact lv_if_lt hx hb hd ht Kt Kf
  | ge => exact lv_if_ge hx hb hd ht Kt Kf
  | gt => exact lv_if_gt hx hb hd ht Kt Kf
  | le => exact lv_if_le hx hb hd ht Kt Kf
/-- ifnonnull with a reference that is there: it jumps -/
theorem am_ifnn {off : Int} {x tgt : Nat} (hd : decode M.2.1 pc = .ok (.ifnonnull off, 3)) (ht : (pc : Int) + off = (tgt : Int)) (k : am_W G M d r h' tgt lv st h) : am_W G M d r h' pc lv (.ref x :: st) h := by
  refine ⟨k.1, fun p e R s m args below meth c ls H locs n0 Q hx hb hml hnm hown hts hC hn0 hRm hret hR hL hl => ?_⟩
  exact lv_ifnonnull hx hb hd ht (k.2 p e R s m args below meth c ls H locs n0 Q hx hb hml hnm hown hts hC hn0 hRm hret hR hL hl)
theorem am_idiv {x y : Int32} (hd : decode M.2.1 pc = .ok (.idiv, 1)) (hy : ¬ y = 0) (k : am_W G M d r h' (pc + 1) lv (.int (x / y) :: st) h) : am_W G M d r h' pc lv (.int y :: .int x :: st) h := by
  refine ⟨k.1, fun p e R s m args below meth c ls H locs n0 Q hx hb hml hnm hown hts hC hn0 hRm hret hR hL hl => ?_⟩
  exact lv_idiv hx hb hd hy (k.2 p e R s m args below meth c ls H locs n0 Q hx hb hml hnm hown hts hC hn0 hRm hret hR hL hl)
theorem am_irem {x y : Int32} (hd : decode M.2.1 pc = .ok (.irem, 1)) (hy : ¬ y = 0) (k : am_W G M d r h' (pc + 1) lv (.int (x - x / y * y) :: st) h) : am_W G M d r h' pc lv (.int y :: .int x :: st) h := by
  refine ⟨k.1, fun p e R s m args below meth c ls H locs n0 Q hx hb hml hnm hown hts hC hn0 hRm hret hR hL hl => ?_⟩
  exact lv_irem hx hb hd hy (k.2 p e R s m args below meth c ls H locs n0 Q hx hb hml hnm hown hts hC hn0 hRm hret hR hL hl)
theorem am_tswO {dflt lo hi : Int} {offs : Array Int} {len : Nat} {x : Int32} {tgt : Nat} (hd : decode M.2.1 pc = .ok (.tableswitch dflt lo hi offs, len)) (hi1 : x.toInt < lo ∨ hi < x.toInt) (ht : (pc : Int) + dflt = (tgt : Int)) (k : am_W G M d r h' tgt lv st h) : am_W G M d r h' pc lv (.int x :: st) h := by
  refine ⟨k.1, fun p e R s m args below meth c ls H locs n0 Q hx hb hml hnm hown hts hC hn0 hRm hret hR hL hl => ?_⟩
  exact lv_tableOut hx hb hd hi1 ht (k.2 p e R s m args below meth c ls H locs n0 Q hx hb hml hnm hown hts hC hn0 hRm hret hR hL hl)
theorem am_tswI {dflt lo hi : Int} {offs : Array Int} {len : Nat} {x : Int32} {off : Int} {tgt : Nat} (hd : decode M.2.1 pc = .ok (.tableswitch dflt lo hi offs, len)) (h1 : ¬ x.toInt < lo) (h2 : ¬ hi < x.toInt) (ho : offs[(x.toInt - lo).toNat]? = some off) (ht : (pc : Int) + off = (tgt : Int)) (k : am_W G M d r h' tgt lv st h) : am_W G M d r h' pc lv (.int x :: st) h := by
  refine ⟨k.1, fun p e R s m args below meth c ls H locs n0 Q hx hb hml hnm hown hts hC hn0 hRm hret hR hL hl => ?_⟩
  exact lv_tableIn hx hb hd h1 h2 ho ht (k.2 p e R s m args below meth c ls H locs n0 Q hx hb hml hnm hown hts hC hn0 hRm hret hR hL hl)
/-- constants of the pool -/
theorem am_ldc {idx : Nat} {v : Int32} (hd : decode M.2.1 pc = .ok (.ldc idx, 2)) (hw : Jvm.Cond.constant M.1.cls idx v ∈ am_tbl) (k : am_W G M d r h' (pc + 2) lv (.int v :: st) h) : am_W G M d r h' pc lv st h := by
  refine ⟨k.1, fun p e R s m args below meth c ls H locs n0 Q hx hb hml hnm hown hts hC hn0 hRm hret hR hL hl => ?_⟩
  exact lv_ldc hx hb hown (hts _ hw) hd (k.2 p e R s m args below meth c ls H locs n0 Q hx hb hml hnm hown hts hC hn0 hRm hret hR hL hl)
theorem am_ldcw {idx : Nat} {v : Int32} (hd : decode M.2.1 pc = .ok (.ldc_w idx, 3)) (hw : Jvm.Cond.constant M.1.cls idx v ∈ am_tbl) (k : am_W G M d r h' (pc + 3) lv (.int v :: st) h) : am_W G M d r h' pc lv st h := by
  refine ⟨k.1, fun p e R s m args below meth c ls H locs n0 Q hx hb hml hnm hown hts hC hn0 hRm hret hR hL hl => ?_⟩
  exact lv_ldcw hx hb hown (hts _ hw) hd (k.2 p e R s m args below meth c ls H locs n0 Q hx hb hml hnm hown hts hC hn0 hRm hret hR hL hl)
theorem am_ldc2 {idx : Nat} {v : Int64} (hd : decode M.2.1 pc = .ok (.ldc2_w idx, 3)) (hw : Jvm.Cond.constantLong M.1.cls idx v ∈ am_tbl) (k : am_W G M d r h' (pc + 3) lv (.long v :: st) h) : am_W G M d r h' pc lv st h := by
  refine ⟨k.1, fun p e R s m args below meth c ls H locs n0 Q hx hb hml hnm hown hts hC hn0 hRm hret hR hL hl => ?_⟩
  exact lv_ldc2 hx hb hown (hts _ hw) hd (k.2 p e R s m args below meth c ls H locs n0 Q hx hb hml hnm hown hts hC hn0 hRm hret hR hL hl)
/-- a method's end -/
theorem am_end {ins : Instr} (hd : decode M.2.1 pc = .ok (ins, 1)) (hr : am_ret M.2.2.2 r ins) (hst : st = r.toList) (he : h = h') : am_W G M d r h' pc lv st h := by
  subst hst
  subst he
  refine ⟨Nat.le_refl _, fun p e R s m args below meth c ls H locs n0 Q hx hb hml hnm hown hts hC hn0 hRm hret hR hL hl => ?_⟩
  exact hret pc ls H locs ins hr hd hR hL
/-- a field read -/
theorem am_get {idx ci k a : Nat} (hd : decode M.2.1 pc = .ok (.getfield idx, 3)) (hw : Jvm.Cond.fieldLink M.1.cls idx (am_fT ci k).1 (am_fT ci k).2.1 (am_fT ci k).2.2.1 ∈ am_tbl) (hin : ∀ w ∈ u_ws (am_fC ci) (am_fT ci) (am_fN ci), w ∈ am_tbl) (hci : ci < 8) (hk : k < am_fN ci) (ha : am_is h a ci)
    (kk : am_W G M d r h' (pc + 3) lv ((bif am_isr ci k then am_q (h.2.2 a k) else .int (h.2.1 a k)) :: st) h) : am_W G M d r h' pc lv (.ref a :: st) h := by
  refine ⟨kk.1, fun p e R s m args below meth c ls H locs n0 Q hx hb hml hnm hown hts hC hn0 hRm hret hR hL hl => ?_⟩
  have K := kk.2 p e R s m args below meth c ls H locs n0 Q hx hb hml hnm hown hts hC hn0 hRm hret hR hL hl
  have hat := hR.at ha.1 ha.2.1
  rw [am_e_obj ha.2.2 hci] at hat
  refine va_get (cl := vwCl) (D := am_D G) (tys := am_tys G) (ws := [(am_r G a, .inr (ci, (List.range (am_fN ci)).map (am_f G h ci a)))]) (C := am_fC ci) (T := am_fT ci) (N := am_fN ci) (ci := ci) hx hb hts hin hown hC.1 (am_P1 hat) 0 rfl (am_cl ci hci) k hk (hts _ hw) (fun _ q => q) (v := am_f G h ci a k) (by simp [hk]) hd ?_
  have e : am_v G (bif am_isr ci k then am_q (h.2.2 a k) else .int (h.2.1 a k)) = am_f G h ci a k := by
    unfold am_f
    cases am_isr ci k
    · rfl
    · exact am_v_q G _
  rw [← e]
  exact K
end AMB
/-! ===== THE ABSTRACT MACHINE, 5: arrays read; fields and arrays written ===== -/
section AMA
variable {G : am_G} {M : am_M} {d : Nat} {r : Option Value} {h' h : am_H} {pc : Nat} {lv : am_L} {st : List Value}
theorem am_len3 {a : Nat} (ha : 3 ≤ a) : am_len G a = (am_sh a).2 := by
  unfold am_len
  rw [show Nat.beq a 1 = false from by rw [← am_beq]; exact beq_false_of_ne (by omega)]
  rfl
theorem am_len1 : am_len G 1 = am_n G := rfl
/-- an int of an array -/
theorem am_iald {a : Nat} {i : Int32} (hd : decode M.2.1 pc = .ok (.iaload, 1)) (ha : am_is h a 11) (hi : vp_in i (am_sh a).2) (kk : am_W G M d r h' (pc + 1) lv (.int (h.2.1 a i.toNatClampNeg) :: st) h) : am_W G M d r h' pc lv (.int i :: .ref a :: st) h := by
  refine ⟨kk.1, fun p e R s m args below meth c ls H locs n0 Q hx hb hml hnm hown hts hC hn0 hRm hret hR hL hl => ?_⟩
  have hat := hR.at ha.1 ha.2.1
  rw [am_e_arr ha.2.2 (by decide) (by decide)] at hat
  exact va_iald hx hb hC.1 (am_P1 hat) 0 1 rfl rfl hi hd (kk.2 p e R s m args below meth c ls H locs n0 Q hx hb hml hnm hown hts hC hn0 hRm hret hR hL hl)
theorem am_bald {a : Nat} {i : Int32} (hd : decode M.2.1 pc = .ok (.baload, 1)) (ha : am_is h a 10) (hi : vp_in i (am_sh a).2) (kk : am_W G M d r h' (pc + 1) lv (.int (h.2.1 a i.toNatClampNeg) :: st) h) : am_W G M d r h' pc lv (.int i :: .ref a :: st) h := by
  refine ⟨kk.1, fun p e R s m args below meth c ls H locs n0 Q hx hb hml hnm hown hts hC hn0 hRm hret hR hL hl => ?_⟩
  have hat := hR.at ha.1 ha.2.1
  rw [am_e_arr ha.2.2 (by decide) (by decide)] at hat
  exact va_bald hx hb hC.1 (am_P1 hat) 0 0 rfl rfl hi hd (kk.2 p e R s m args below meth c ls H locs n0 Q hx hb hml hnm hown hts hC hn0 hRm hret hR hL hl)
theorem am_zald {a : Nat} {i : Int32} (hd : decode M.2.1 pc = .ok (.baload, 1)) (ha : am_is h a 12) (hi : vp_in i (am_sh a).2) (kk : am_W G M d r h' (pc + 1) lv (.int (h.2.1 a i.toNatClampNeg) :: st) h) : am_W G M d r h' pc lv (.int i :: .ref a :: st) h := by
  refine ⟨kk.1, fun p e R s m args below meth c ls H locs n0 Q hx hb hml hnm hown hts hC hn0 hRm hret hR hL hl => ?_⟩
  have hat := hR.at ha.1 ha.2.1
  rw [am_e_arr ha.2.2 (by decide) (by decide)] at hat
  exact va_zald hx hb hC.1 (am_P1 hat) 0 2 rfl rfl hi hd (kk.2 p e R s m args below meth c ls H locs n0 Q hx hb hml hnm hown hts hC hn0 hRm hret hR hL hl)
/-- a reference of an array of Orgs, of rows -/
theorem am_oald {a : Nat} {i : Int32} (hd : decode M.2.1 pc = .ok (.aaload, 1)) (ha : am_is h a 13) (hi : vp_in i (am_sh a).2) (kk : am_W G M d r h' (pc + 1) lv (am_q (h.2.2 a i.toNatClampNeg) :: st) h) : am_W G M d r h' pc lv (.int i :: .ref a :: st) h := by
  refine ⟨kk.1, fun p e R s m args below meth c ls H locs n0 Q hx hb hml hnm hown hts hC hn0 hRm hret hR hL hl => ?_⟩
  have hat := hR.at ha.1 ha.2.1
  rw [am_e_ref ha.2.2 (by decide)] at hat
  refine va_aldq (C := RX1) hx hb hC.1 (am_P1 hat) 0 3 rfl rfl hi hd ?_
  rw [← am_v_q]
  exact kk.2 p e R s m args below meth c ls H locs n0 Q hx hb hml hnm hown hts hC hn0 hRm hret hR hL hl
theorem am_rald {a : Nat} {i : Int32} (hd : decode M.2.1 pc = .ok (.aaload, 1)) (ha : am_is h a 14) (hi : vp_in i (am_sh a).2) (kk : am_W G M d r h' (pc + 1) lv (am_q (h.2.2 a i.toNatClampNeg) :: st) h) : am_W G M d r h' pc lv (.int i :: .ref a :: st) h := by
  refine ⟨kk.1, fun p e R s m args below meth c ls H locs n0 Q hx hb hml hnm hown hts hC hn0 hRm hret hR hL hl => ?_⟩
  have hat := hR.at ha.1 ha.2.1
  rw [am_e_ref ha.2.2 (by decide)] at hat
  have hlt : i.toNatClampNeg < (am_sh a).2 := Nat.not_le.mp fun q => hi (Or.inr q)
  refine W.aald (v := va_rf (am_o G (h.2.2 a i.toNatClampNeg))) (ty := .array .int) hx hb hat ((hC.1.2 4 (am_cA G 14, .array .int) rfl).1 (am_sh a).2 (fun j => va_rf (am_o G (h.2.2 a j)))) rfl (fun q => by cases q) (by show ¬ (i < 0 ∨ (arrV _ _ _).slots.size ≤ _); rw [arrV_size]; exact hi) (by show (arrV _ _ _).slots[_]? = _; rw [arrV_read _ _ hlt]) rfl rfl hd ?_
  rw [← am_v_q]
  exact kk.2 p e R s m args below meth c ls H locs n0 Q hx hb hml hnm hown hts hC hn0 hRm hret hR hL hl
/-- the script -/
theorem am_sald {i : Int32} (hd : decode M.2.1 pc = .ok (.iaload, 1)) (hi : vp_in i (am_n G)) (kk : am_W G M d r h' (pc + 1) lv (.int (h.2.1 1 i.toNatClampNeg) :: st) h) : am_W G M d r h' pc lv (.int i :: .ref 1 :: st) h := by
  refine ⟨kk.1, fun p e R s m args below meth c ls H locs n0 Q hx hb hml hnm hown hts hC hn0 hRm hret hR hL hl => ?_⟩
  obtain ⟨scr, x1, x2, x3, x4, x5⟩ := hC.2.1
  have hlt : i.toNatClampNeg < am_n G := Nat.not_le.mp fun q => hi (Or.inr q)
  have hbl : am_b G < am_bs G := by rw [← hC.2.2.2.2.1]; exact (Array.getElem?_eq_some_iff.mp x1).1
  have e0 : am_v G (.ref 1) = .ref (am_b G) := rfl
  show W p (am_l G) e R s m args below meth c H locs (h.1 - n0) (am_SL h.1 - am_SL n0) Q (F0 m pc ls (.int i :: am_v G (.ref 1) :: st.map (am_v G)))
  rw [e0]
  refine W.iald (v := .int (am_xs G i.toNatClampNeg)) hx hb (by rw [hR.2.2.2.1 _ hbl]; exact x1) x2 x3 (by rw [x4]; exact hi) (x5 _ hlt) rfl rfl hd ?_
  rw [← hR.2.2.2.2.2.1]
  exact kk.2 p e R s m args below meth c ls H locs n0 Q hx hb hml hnm hown hts hC hn0 hRm hret hR hL hl
theorem am_slen (hd : decode M.2.1 pc = .ok (.arraylength, 1)) (kk : am_W G M d r h' (pc + 1) lv (.int (Int32.ofNat (am_n G)) :: st) h) : am_W G M d r h' pc lv (.ref 1 :: st) h := by
  refine ⟨kk.1, fun p e R s m args below meth c ls H locs n0 Q hx hb hml hnm hown hts hC hn0 hRm hret hR hL hl => ?_⟩
  obtain ⟨scr, x1, x2, x3, x4, x5⟩ := hC.2.1
  have hbl : am_b G < am_bs G := by rw [← hC.2.2.2.2.1]; exact (Array.getElem?_eq_some_iff.mp x1).1
  have e0 : am_v G (.ref 1) = .ref (am_b G) := rfl
  show W p (am_l G) e R s m args below meth c H locs (h.1 - n0) (am_SL h.1 - am_SL n0) Q (F0 m pc ls (am_v G (.ref 1) :: st.map (am_v G)))
  rw [e0]
  exact W.alen (n := Int32.ofNat (am_n G)) hx hb (by rw [hR.2.2.2.1 _ hbl]; exact x1) x2 (by rw [x4] <;> rfl) rfl rfl hd (kk.2 p e R s m args below meth c ls H locs n0 Q hx hb hml hnm hown hts hC hn0 hRm hret hR hL hl)
theorem am_alen {a : Nat} (hd : decode M.2.1 pc = .ok (.arraylength, 1)) (ha : am_is h a 11) (kk : am_W G M d r h' (pc + 1) lv (.int (Int32.ofNat (am_sh a).2) :: st) h) : am_W G M d r h' pc lv (.ref a :: st) h := by
  refine ⟨kk.1, fun p e R s m args below meth c ls H locs n0 Q hx hb hml hnm hown hts hC hn0 hRm hret hR hL hl => ?_⟩
  have hat := hR.at ha.1 ha.2.1
  rw [am_e_arr ha.2.2 (by decide) (by decide)] at hat
  exact va_alen hx hb hC.1 (am_P1 hat) 0 1 rfl rfl rfl hd (kk.2 p e R s m args below meth c ls H locs n0 Q hx hb hml hnm hown hts hC hn0 hRm hret hR hL hl)
/-- FIRSTS -/
theorem am_gets {idx : Nat} (hd : decode M.2.1 pc = .ok (.getstatic idx, 3)) (hw : Jvm.Cond.fieldLink M.1.cls idx RX6 "FIRSTS" "[J" ∈ am_tbl) (kk : am_W G M d r h' (pc + 3) lv (.ref 2 :: st) h) : am_W G M d r h' pc lv st h := by
  refine ⟨kk.1, fun p e R s m args below meth c ls H locs n0 Q hx hb hml hnm hown hts hC hn0 hRm hret hR hL hl => ?_⟩
  obtain ⟨cf, kf, fi, f, a, cell, z1, z2, z3, z4, z5, z6, z7, z8⟩ := hC.2.2.1
  have hbl : a < am_bs G := by rw [← hC.2.2.2.2.1]; exact (Array.getElem?_eq_some_iff.mp z5).1
  exact W.gets hx hb hown (hts _ hw) z1 z2 z3 z4 (by rw [hR.2.2.2.1 _ hbl]; exact z5) (fun q => by rw [q] at z6; cases z6) z7 rfl hd (kk.2 p e R s m args below meth c ls H locs n0 Q hx hb hml hnm hown hts hC hn0 hRm hret hR hL hl)
theorem am_lald {i : Int32} (hd : decode M.2.1 pc = .ok (.laload, 1)) (hi : vp_in i 7) (kk : am_W G M d r h' (pc + 1) lv (.long (am_lm i.toNatClampNeg) :: st) h) : am_W G M d r h' pc lv (.int i :: .ref 2 :: st) h := by
  refine ⟨kk.1, fun p e R s m args below meth c ls H locs n0 Q hx hb hml hnm hown hts hC hn0 hRm hret hR hL hl => ?_⟩
  obtain ⟨cell, x1, x2, x3, x4, x6, x5, x7⟩ := hC.2.2.2.1
  have hlt : i.toNatClampNeg < 7 := Nat.not_le.mp fun q => hi (Or.inr q)
  have hbl : am_tf G < am_bs G := by rw [← hC.2.2.2.2.1]; exact (Array.getElem?_eq_some_iff.mp x1).1
  exact W.lald (a := am_tf G) (v := .long (am_lm i.toNatClampNeg)) hx hb (by rw [hR.2.2.2.1 _ hbl]; exact x1) x2 x3 (fun q => hi (q.imp id (fun z => Nat.le_trans x4 z))) (x5 _ hlt) rfl rfl hd (kk.2 p e R s m args below meth c ls H locs n0 Q hx hb hml hnm hown hts hC hn0 hRm hret hR hL hl)
theorem am_ui_m {a k b : Nat} {x : Int32} (hb : b ≠ a) : (am_ui h a k x).2.1 b = h.2.1 b ∧ (am_ui h a k x).2.2 b = h.2.2 b := ⟨am_up_ne _ _ hb, rfl⟩
theorem am_ur_m {a k b : Nat} {x : Nat} (hb : b ≠ a) : (am_ur h a k x).2.1 b = h.2.1 b ∧ (am_ur h a k x).2.2 b = h.2.2 b := ⟨rfl, am_up_ne _ _ hb⟩
/-- an int stored in an array -/
theorem am_iast {a : Nat} {i x : Int32} (hd : decode M.2.1 pc = .ok (.iastore, 1)) (ha : am_is h a 11) (hi : vp_in i (am_sh a).2) (kk : am_W G M d r h' (pc + 1) lv st (am_ui h a i.toNatClampNeg x)) : am_W G M d r h' pc lv (.int x :: .int i :: .ref a :: st) h := by
  refine ⟨kk.1, fun p e R s m args below meth c ls H locs n0 Q hx hb hml hnm hown hts hC hn0 hRm hret hR hL hl => ?_⟩
  have hat := hR.at ha.1 ha.2.1
  rw [am_e_arr ha.2.2 (by decide) (by decide)] at hat
  refine W.iast (a := am_r G a) hx hb hat ((hC.1.2 1 (am_cA G 11, .int) rfl).1 (am_sh a).2 (fun j => .int (h.2.1 a j))) (fun q => by cases q) (by show ¬ (i < 0 ∨ (arrV _ _ _).slots.size ≤ _); rw [arrV_size]; exact hi) rfl rfl hd fun H1 e1 z oq => ?_
  refine kk.2 p e R s m args below meth c ls H1 _ n0 Q hx hb hml hnm hown hts hC hn0 hRm hret (hR.upd ha.1 ha.2.1 z oq (fun b hb => am_ui_m hb) rfl ?_) ?_ hl
  · rw [am_e_arr ha.2.2 (by decide) (by decide)]
    show H1[_]? = some (vp_cell _ _)
    rw [e1, vp_cell_i, vp_cell_i, arrV_store]
    congr 2
    funext q
    show _ = Value.int (am_up h.2.1 a _ a q)
    rw [am_up_same]
    by_cases hq : q = i.toNatClampNeg
    · subst hq
      rw [am_up_same]
      simp [updV]
    · rw [am_up_ne _ _ hq]
      simp [updV, hq]
  · intro q hq
    rcases List.mem_append.mp hq with q1 | q1
    · exact hL q q1
    · rw [List.mem_singleton.mp q1]
      show am_bs G ≤ am_r G a
      rw [am_r3 ha.1]
      omega
theorem am_bast {a : Nat} {i x : Int32} (hd : decode M.2.1 pc = .ok (.bastore, 1)) (ha : am_is h a 10) (hi : vp_in i (am_sh a).2) (kk : am_W G M d r h' (pc + 1) lv st (am_ui h a i.toNatClampNeg (vp_nar .byte x))) : am_W G M d r h' pc lv (.int x :: .int i :: .ref a :: st) h := by
  refine ⟨kk.1, fun p e R s m args below meth c ls H locs n0 Q hx hb hml hnm hown hts hC hn0 hRm hret hR hL hl => ?_⟩
  have hat := hR.at ha.1 ha.2.1
  rw [am_e_arr ha.2.2 (by decide) (by decide)] at hat
  refine W.bast (a := am_r G a) hx hb hat ((hC.1.2 0 (am_cA G 10, .byte) rfl).1 (am_sh a).2 (fun j => .int (h.2.1 a j))) (fun q => by cases q) (by show ¬ (i < 0 ∨ (arrV _ _ _).slots.size ≤ _); rw [arrV_size]; exact hi) rfl rfl hd fun H1 e1 z oq => ?_
  refine kk.2 p e R s m args below meth c ls H1 _ n0 Q hx hb hml hnm hown hts hC hn0 hRm hret (hR.upd ha.1 ha.2.1 z oq (fun b hb => am_ui_m hb) rfl ?_) ?_ hl
  · rw [am_e_arr ha.2.2 (by decide) (by decide)]
    show H1[_]? = some (vp_cell _ _)
    rw [e1, vp_cell_i, vp_cell_i, arrV_store]
    congr 2
    funext q
    show _ = Value.int (am_up h.2.1 a _ a q)
    rw [am_up_same]
    by_cases hq : q = i.toNatClampNeg
    · subst hq
      rw [am_up_same]
      simp [updV]
      rfl
    · rw [am_up_ne _ _ hq]
      simp [updV, hq]
  · intro q hq
    rcases List.mem_append.mp hq with q1 | q1
    · exact hL q q1
    · rw [List.mem_singleton.mp q1]
      show am_bs G ≤ am_r G a
      rw [am_r3 ha.1]
      omega
end AMA
/-! ===== THE ABSTRACT MACHINE, 6: fields and references stored ===== -/
theorem am_in0 : ∀ w ∈ u_ws (am_fC 0) (am_fT 0) (am_fN 0), w ∈ am_tbl := by
  intro w hw
  have g : (u_ws (am_fC 0) (am_fT 0) (am_fN 0)).all goodWord = true := by decide +kernel
  have g := List.all_eq_true.mp g w hw
  have e : u_ws (am_fC 0) (am_fT 0) (am_fN 0) = ([108, 110, 112, 114, 116, 118, 120] : List Nat).filterMap (fun i => tables_1[i]?) := by decide +kernel
  rw [e] at hw
  obtain ⟨i, -, hi⟩ := List.mem_filterMap.mp hw
  exact List.mem_filter.mpr ⟨List.mem_append_right _ (List.mem_of_getElem? hi), g⟩
theorem am_in1 : ∀ w ∈ u_ws (am_fC 1) (am_fT 1) (am_fN 1), w ∈ am_tbl := by
  intro w hw
  have g : (u_ws (am_fC 1) (am_fT 1) (am_fN 1)).all goodWord = true := by decide +kernel
  have g := List.all_eq_true.mp g w hw
  have e : u_ws (am_fC 1) (am_fT 1) (am_fN 1) = ([53, 55, 57, 59, 61, 63] : List Nat).filterMap (fun i => tables_1[i]?) := by decide +kernel
  rw [e] at hw
  obtain ⟨i, -, hi⟩ := List.mem_filterMap.mp hw
  exact List.mem_filter.mpr ⟨List.mem_append_right _ (List.mem_of_getElem? hi), g⟩
theorem am_in2 : ∀ w ∈ u_ws (am_fC 2) (am_fT 2) (am_fN 2), w ∈ am_tbl := by
  intro w hw
  have g : (u_ws (am_fC 2) (am_fT 2) (am_fN 2)).all goodWord = true := by decide +kernel
  have g := List.all_eq_true.mp g w hw
  have e : u_ws (am_fC 2) (am_fT 2) (am_fN 2) = ([81, 83, 85] : List Nat).filterMap (fun i => tables_1[i]?) := by decide +kernel
  rw [e] at hw
  obtain ⟨i, -, hi⟩ := List.mem_filterMap.mp hw
  exact List.mem_filter.mpr ⟨List.mem_append_right _ (List.mem_of_getElem? hi), g⟩
theorem am_in3 : ∀ w ∈ u_ws (am_fC 3) (am_fT 3) (am_fN 3), w ∈ am_tbl := by
  intro w hw
  have g : (u_ws (am_fC 3) (am_fT 3) (am_fN 3)).all goodWord = true := by decide +kernel
  have g := List.all_eq_true.mp g w hw
  have e : u_ws (am_fC 3) (am_fT 3) (am_fN 3) = ([184, 186] : List Nat).filterMap (fun i => tables_1[i]?) := by decide +kernel
  rw [e] at hw
  obtain ⟨i, -, hi⟩ := List.mem_filterMap.mp hw
  exact List.mem_filter.mpr ⟨List.mem_append_right _ (List.mem_of_getElem? hi), g⟩
theorem am_in4 : ∀ w ∈ u_ws (am_fC 4) (am_fT 4) (am_fN 4), w ∈ am_tbl := by
  intro w hw
  have g : (u_ws (am_fC 4) (am_fT 4) (am_fN 4)).all goodWord = true := by decide +kernel
  have g := List.all_eq_true.mp g w hw
  have e : u_ws (am_fC 4) (am_fT 4) (am_fN 4) = ([135, 137, 139, 141] : List Nat).filterMap (fun i => tables_1[i]?) := by decide +kernel
  rw [e] at hw
  obtain ⟨i, -, hi⟩ := List.mem_filterMap.mp hw
  exact List.mem_filter.mpr ⟨List.mem_append_right _ (List.mem_of_getElem? hi), g⟩
theorem am_in5 : ∀ w ∈ u_ws (am_fC 5) (am_fT 5) (am_fN 5), w ∈ am_tbl := by
  intro w hw
  have g : (u_ws (am_fC 5) (am_fT 5) (am_fN 5)).all goodWord = true := by decide +kernel
  have g := List.all_eq_true.mp g w hw
  have e : u_ws (am_fC 5) (am_fT 5) (am_fN 5) = ([160, 162, 164, 166, 168, 170, 172] : List Nat).filterMap (fun i => tables_1[i]?) := by decide +kernel
  rw [e] at hw
  obtain ⟨i, -, hi⟩ := List.mem_filterMap.mp hw
  exact List.mem_filter.mpr ⟨List.mem_append_right _ (List.mem_of_getElem? hi), g⟩
theorem am_in6 : ∀ w ∈ u_ws (am_fC 6) (am_fT 6) (am_fN 6), w ∈ am_tbl := by
  intro w hw
  have g : (u_ws (am_fC 6) (am_fT 6) (am_fN 6)).all goodWord = true := by decide +kernel
  have g := List.all_eq_true.mp g w hw
  have e : u_ws (am_fC 6) (am_fT 6) (am_fN 6) = ([202, 204, 206, 208, 210, 212, 214, 216, 218, 220, 222, 224] : List Nat).filterMap (fun i => tables_1[i]?) := by decide +kernel
  rw [e] at hw
  obtain ⟨i, -, hi⟩ := List.mem_filterMap.mp hw
  exact List.mem_filter.mpr ⟨List.mem_append_right _ (List.mem_of_getElem? hi), g⟩
theorem am_in7 : ∀ w ∈ u_ws (am_fC 7) (am_fT 7) (am_fN 7), w ∈ am_tbl := by
  intro w hw
  have g : (u_ws (am_fC 7) (am_fT 7) (am_fN 7)).all goodWord = true := by decide +kernel
  have g := List.all_eq_true.mp g w hw
  have e : u_ws (am_fC 7) (am_fT 7) (am_fN 7) = ([895, 897, 899, 901, 903, 905, 907, 909, 911, 913, 915, 917, 919, 921, 923, 925, 927, 929, 931, 933] : List Nat).filterMap (fun i => tables_1[i]?) := by decide +kernel
  rw [e] at hw
  obtain ⟨i, -, hi⟩ := List.mem_filterMap.mp hw
  exact List.mem_filter.mpr ⟨List.mem_append_right _ (List.mem_of_getElem? hi), g⟩
theorem am_in : ∀ ci, ci < 8 → ∀ w ∈ u_ws (am_fC ci) (am_fT ci) (am_fN ci), w ∈ am_tbl := by
  intro ci h
  match ci, h with
  | 0, _ => exact am_in0
  | 1, _ => exact am_in1
  | 2, _ => exact am_in2
  | 3, _ => exact am_in3
  | 4, _ => exact am_in4
  | 5, _ => exact am_in5
  | 6, _ => exact am_in6
  | 7, _ => exact am_in7
  | n + 8, h => omega
theorem am_nm : ∀ ci, ci < 8 → ∀ a, a < am_fN ci → ∀ b, b < am_fN ci → a ≠ b → (am_fT ci a).2.1 ≠ (am_fT ci b).2.1 := by
  intro ci h
  match ci, h with
  | 0, _ => exact nmX0
  | 1, _ => exact nmX1
  | 2, _ => exact nmX2
  | 3, _ => exact nmX3
  | 4, _ => exact nmX4
  | 5, _ => exact nmX7
  | 6, _ => exact nmX8
  | 7, _ => exact nmX9
  | n + 8, h => omega
theorem am_tyok : ∀ ci, ci < 8 → ∀ k, k < am_fN ci → parseFieldDescriptor (am_fT ci k).2.2.1 = some (am_ty ci k) := by
  intro ci h
  match ci, h with
  | 0, _ => exact tyX0_ok
  | 1, _ => exact tyX1_ok
  | 2, _ => exact tyX2_ok
  | 3, _ => exact tyX3_ok
  | 4, _ => exact tyX4_ok
  | 5, _ => exact tyX7_ok
  | 6, _ => exact tyX8_ok
  | 7, _ => exact tyX9_ok
  | n + 8, h => omega
theorem am_vpV {f : Nat → Value} {N j : Nat} (h : j < N) : vp_V ((List.range N).map f) j = f j := by simp [vp_V, h]
section AM6
variable {G : am_G} {M : am_M} {d : Nat} {r : Option Value} {h' h : am_H} {pc : Nat} {lv : am_L} {st : List Value}
theorem am_locs {locs : List Loc} {a k : Nat} (ha : 3 ≤ a) (hL : ∀ q ∈ locs, am_own G q.base) : ∀ q ∈ locs ++ [(⟨am_r G a, k⟩ : Loc)], am_own G q.base := by
  intro q hq
  rcases List.mem_append.mp hq with q1 | q1
  · exact hL q q1
  · rw [List.mem_singleton.mp q1]
    show am_bs G ≤ am_r G a
    rw [am_r3 ha]
    omega
/-- a field stored: the common part -/
theorem am_put {idx ci k a : Nat} {v : Value} {h1 : am_H} (hd : decode M.2.1 pc = .ok (.putfield idx, 3)) (hw : Jvm.Cond.fieldLink M.1.cls idx (am_fT ci k).1 (am_fT ci k).2.1 (am_fT ci k).2.2.1 ∈ am_tbl) (hci : ci < 8) (hk : k < am_fN ci) (ha : am_is h a ci)
    (hfin : (am_fT ci k).2.2.2 = false ∨ ((am_fT ci k).2.2.2 = true ∧ M.1.name = "<init>" ∧ (am_fT ci k).1 = M.1.cls)) (hnr : narrow (am_ty ci k) (am_v G v) = am_v G v) (hfit : fits (am_ty ci k) (am_v G v) = true)
    (hn1 : h1.1 = h.1) (hm : ∀ b, b ≠ a → h1.2.1 b = h.2.1 b ∧ h1.2.2 b = h.2.2 b) (hf : ∀ j, j < am_fN ci → am_f G h1 ci a j = if j = k then am_v G v else am_f G h ci a j)
    (kk : am_W G M d r h' (pc + 3) lv st h1) : am_W G M d r h' pc lv (v :: .ref a :: st) h := by
  refine ⟨by rw [← hn1]; exact kk.1, fun p e R s m args below meth c ls H locs n0 Q hx hb hml hnm hown hts hC hn0 hRm hret hR hL hl => ?_⟩
  have K := fun H1 locs1 (z : am_R G h1 H1) (y : ∀ q ∈ locs1, am_own G q.base) => kk.2 p e R s m args below meth c ls H1 locs1 n0 Q hx hb hml hnm hown hts hC (by rw [hn1]; exact hn0) hRm hret z y hl
  rw [hn1] at K
  have hat := hR.at ha.1 ha.2.1
  rw [am_e_obj ha.2.2 hci] at hat
  have hin := am_in ci hci
  have hty := am_tyok ci hci
  have hap := va_apart (s := s) (args := args) (own := M.1.cls) (C := am_fC ci) (T := am_fT ci) (N := am_fN ci) (ci := ci) hts hin (am_ty ci) hty (am_nm ci hci) hC.1 (am_cl ci hci)
  obtain ⟨w, h1', cell, q1, q2, q3, q4⟩ := hat
  have hr : w = (am_fC ci, am_fT ci, am_fN ci) := Option.some.inj (h1'.symm.trans (am_cl ci hci))
  subst hr
  obtain ⟨hS, hfc, kC, hkC, hkind⟩ := hC.1.1 ci _ (am_cl ci hci)
  obtain ⟨cf, kf, fi, f, hi, hsl⟩ := hS k hk
  have hlay := hts _ (hin _ (u_in_lay hk))
  unfold u_lay at hlay
  have hst := (u_facts hfc hkC (u_lays hts hin hk) hi).1
  have hlt : f.slot < cell.slots.size := by rw [hsl]; exact k2_hasslot (q4 k hk)
  have G1 : ∀ H' : Heap, H'[am_r G a]? = some (cell.setSlot f.slot (am_v G v)) → H'.size = H.size → (∀ q, q ≠ am_r G a → H'[q]? = H[q]?) → W p (am_l G) e R s m args below meth c H' (locs ++ [⟨am_r G a, f.slot⟩]) (h.1 - n0) (am_SL h.1 - am_SL n0) Q (F0 m (pc + 3) ls (st.map (am_v G))) := by
    intro H' e1 e2 e3
    refine K H' _ (hR.upd ha.1 ha.2.1 e2 e3 hm hn1 ?_) (am_locs ha.1 hL)
    rw [am_e_obj ha.2.2 hci]
    rw [hsl] at e1
    refine ⟨_, am_cl ci hci, t_OB.to (V := updV (vp_V ((List.range (am_fN ci)).map (am_f G h ci a))) k (am_v G v)) ⟨_, e1, q2, q3, t_set q4 hap hk (am_v G v)⟩ (fun j hj => ?_)⟩
    rw [am_vpV hj, hf j hj]
    by_cases hjk : j = k
    · rw [if_pos hjk, hjk]; simp [updV]
    · rw [if_neg hjk]
      simp only [updV, if_neg hjk]
      exact am_vpV hj
  rcases hfin with hfin | ⟨hfin, hin2, hdecl⟩
  · rw [if_neg (by rw [hfin]; decide)] at hlay
    have h6 := u_store hfc hkC hkind hlay hi (hty k hk) hnr hfit
    exact W.putK hx hb (f := f) ⟨hown, hts _ hw, ⟨_, _, _, hi⟩, hst⟩ (by rw [q2]; exact h6) q1 q3 hlt rfl rfl hd G1
  · rw [if_pos hfin] at hlay
    have hcf : m.cls = cf := by
      obtain ⟨_, _, c', _, _, _, -, -, hf', -, -, -, hown2, -⟩ := Cond.laysFinal_spec hlay
      have e1 : c' = cf := by have := hi.symm.trans hf'; simp at this; exact this.1.symm
      rw [hdecl] at hown2
      rw [← e1]; exact Option.some.inj (hown.symm.trans hown2)
    have h6 := u_fits hfc hkC hkind (Or.inr hlay) hi (hty k hk) hnr hfit
    exact W.putFinK hx hb hown (hts _ hw) hi hst hcf (hnm.trans hin2) (by rw [q2]; exact h6) q1 q3 hlt rfl rfl hd G1
theorem am_f_ui {ci a k j : Nat} {x : Int32} (hk : am_isr ci k = false) : am_f G (am_ui h a k x) ci a j = if j = k then .int x else am_f G h ci a j := by
  unfold am_f am_ui
  dsimp only
  rw [am_up_same]
  by_cases hj : j = k
  · subst hj
    rw [if_pos rfl, hk, am_up_same]; rfl
  · rw [if_neg hj, am_up_ne _ _ hj]
theorem am_f_ur {ci a k j : Nat} {x : Nat} (hk : am_isr ci k = true) : am_f G (am_ur h a k x) ci a j = if j = k then va_rf (am_o G x) else am_f G h ci a j := by
  unfold am_f am_ur
  dsimp only
  rw [am_up_same]
  by_cases hj : j = k
  · subst hj
    rw [if_pos rfl, hk, am_up_same]; rfl
  · rw [if_neg hj, am_up_ne _ _ hj]
/-- an int field -/
theorem am_puti {idx ci k a : Nat} {x : Int32} (hd : decode M.2.1 pc = .ok (.putfield idx, 3)) (hw : Jvm.Cond.fieldLink M.1.cls idx (am_fT ci k).1 (am_fT ci k).2.1 (am_fT ci k).2.2.1 ∈ am_tbl) (hci : ci < 8) (hk : k < am_fN ci) (ha : am_is h a ci)
    (hfin : (am_fT ci k).2.2.2 = false) (ht : am_ty ci k = .int) (kk : am_W G M d r h' (pc + 3) lv st (am_ui h a k x)) : am_W G M d r h' pc lv (.int x :: .ref a :: st) h :=
  am_put (h1 := am_ui h a k x) hd hw hci hk ha (Or.inl hfin) (by rw [ht]; rfl) (by rw [ht]; rfl) rfl (fun b hb => am_ui_m hb) (fun j _ => am_f_ui (by unfold am_isr; rw [ht])) kk
/-- a boolean field -/
theorem am_putz {idx ci k a : Nat} {x : Int32} (hd : decode M.2.1 pc = .ok (.putfield idx, 3)) (hw : Jvm.Cond.fieldLink M.1.cls idx (am_fT ci k).1 (am_fT ci k).2.1 (am_fT ci k).2.2.1 ∈ am_tbl) (hci : ci < 8) (hk : k < am_fN ci) (ha : am_is h a ci)
    (hfin : (am_fT ci k).2.2.2 = false) (ht : am_ty ci k = .boolean) (hx : x = 0 ∨ x = 1) (kk : am_W G M d r h' (pc + 3) lv st (am_ui h a k x)) : am_W G M d r h' pc lv (.int x :: .ref a :: st) h :=
  am_put (h1 := am_ui h a k x) hd hw hci hk ha (Or.inl hfin) (by rw [ht]; rcases hx with rfl | rfl <;> rfl) (by rw [ht]; rcases hx with rfl | rfl <;> rfl) rfl (fun b hb => am_ui_m hb) (fun j _ => am_f_ui (by unfold am_isr; rw [ht])) kk
/-- a final field that holds a reference, in the constructor -/
theorem am_putr {idx ci k a x : Nat} (hd : decode M.2.1 pc = .ok (.putfield idx, 3)) (hw : Jvm.Cond.fieldLink M.1.cls idx (am_fT ci k).1 (am_fT ci k).2.1 (am_fT ci k).2.2.1 ∈ am_tbl) (hci : ci < 8) (hk : k < am_fN ci) (ha : am_is h a ci)
    (hfin : (am_fT ci k).2.2.2 = true ∧ M.1.name = "<init>" ∧ (am_fT ci k).1 = M.1.cls) (ht : (∃ n, am_ty ci k = .object n) ∨ ∃ t, am_ty ci k = .array t) (hx0 : x ≠ 0) (kk : am_W G M d r h' (pc + 3) lv st (am_ur h a k x)) : am_W G M d r h' pc lv (.ref x :: .ref a :: st) h := by
  have e : am_v G (.ref x) = va_rf (am_o G x) := by unfold am_o; rw [if_neg hx0]; rfl
  refine am_put (h1 := am_ur h a k x) hd hw hci hk ha (Or.inr hfin) ?_ ?_ rfl (fun b hb => am_ur_m hb) (fun j _ => ?_) kk
  · rcases ht with ⟨n, e1⟩ | ⟨t, e1⟩ <;> rw [e1] <;> rfl
  · rcases ht with ⟨n, e1⟩ | ⟨t, e1⟩ <;> rw [e1] <;> rfl
  · rw [e]
    exact am_f_ur (by unfold am_isr; rcases ht with ⟨n, e1⟩ | ⟨t, e1⟩ <;> rw [e1])
/-- a boolean of an array -/
theorem am_zast {a : Nat} {i x : Int32} (hd : decode M.2.1 pc = .ok (.bastore, 1)) (ha : am_is h a 12) (hi : vp_in i (am_sh a).2) (hx : x = 0 ∨ x = 1) (kk : am_W G M d r h' (pc + 1) lv st (am_ui h a i.toNatClampNeg x)) : am_W G M d r h' pc lv (.int x :: .int i :: .ref a :: st) h := by
  have hxn : narrow .boolean (.int x) = .int x := by rcases hx with rfl | rfl <;> rfl
  refine ⟨kk.1, fun p e R s m args below meth c ls H locs n0 Q hx hb hml hnm hown hts hC hn0 hRm hret hR hL hl => ?_⟩
  have hat := hR.at ha.1 ha.2.1
  rw [am_e_arr ha.2.2 (by decide) (by decide)] at hat
  refine W.zast (a := am_r G a) hx hb hat ((hC.1.2 2 (am_cA G 12, .boolean) rfl).1 (am_sh a).2 (fun j => .int (h.2.1 a j))) (fun q => by cases q) (by show ¬ (i < 0 ∨ (arrV _ _ _).slots.size ≤ _); rw [arrV_size]; exact hi) rfl rfl hd fun H1 e1 z oq => ?_
  refine kk.2 p e R s m args below meth c ls H1 _ n0 Q hx hb hml hnm hown hts hC hn0 hRm hret (hR.upd ha.1 ha.2.1 z oq (fun b hb => am_ui_m hb) rfl ?_) (am_locs ha.1 hL) hl
  rw [am_e_arr ha.2.2 (by decide) (by decide)]
  show H1[_]? = some (vp_cell _ _)
  rw [e1, hxn, vp_cell_i, vp_cell_i, arrV_store]
  congr 2
  funext q
  show _ = Value.int (am_up h.2.1 a _ a q)
  rw [am_up_same]
  by_cases hq : q = i.toNatClampNeg
  · subst hq
    rw [am_up_same]
    simp [updV]
  · rw [am_up_ne _ _ hq]
    simp [updV, hq]
/-- a reference stored in an array: what the cells hold -/
theorem am_ref_cell {a i x : Nat} {c : ClassId} {n : Nat} (hx0 : x ≠ 0) : (arrV c n (fun j => va_rf (am_o G (h.2.2 a j)))).setSlot i (am_v G (.ref x)) = arrV c n (fun j => va_rf (am_o G ((am_ur h a i x).2.2 a j))) := by
  rw [arrV_store]
  congr 1
  funext q
  show _ = va_rf (am_o G (am_up h.2.2 a _ a q))
  rw [am_up_same]
  by_cases hq : q = i
  · subst hq
    rw [am_up_same]
    simp [updV, am_o, hx0, va_rf, am_v]
  · rw [am_up_ne _ _ hq]
    simp [updV, hq]
/-- an Org in an array of Orgs -/
theorem am_oast {a x : Nat} {i : Int32} (hd : decode M.2.1 pc = .ok (.aastore, 1)) (ha : am_is h a 13) (hx1 : am_is h x 1) (hi : vp_in i (am_sh a).2) (kk : am_W G M d r h' (pc + 1) lv st (am_ur h a i.toNatClampNeg x)) : am_W G M d r h' pc lv (.ref x :: .int i :: .ref a :: st) h := by
  have hx0 : x ≠ 0 := by have := hx1.1; omega
  refine ⟨kk.1, fun p e R s m args below meth c ls H locs n0 Q hx hb hml hnm hown hts hC hn0 hRm hret hR hL hl => ?_⟩
  have hat := hR.at ha.1 ha.2.1
  rw [am_e_ref ha.2.2 (by decide)] at hat
  have hav := hR.at hx1.1 hx1.2.1
  rw [am_e_obj hx1.2.2 (by decide)] at hav
  obtain ⟨r', hr', cellV, g1, g2, g3, -⟩ := hav
  have hcls := (hC.1.1 1 _ (am_cl 1 (by decide))).2
  obtain ⟨kA, comp, k1, k2, k3, -⟩ := (hC.1.2 3 (am_cA G 13, .object RX1) rfl).2
  have hcomp : comp = (am_D G).1 1 := Option.some.inj (k3.symm.trans hcls.1)
  subst hcomp
  obtain ⟨kC, hkC, -⟩ := hcls.2
  refine W.aast (a := am_r G a) (v := am_r G x) hx hb hat (fun q z => by cases z) (fun z => by cases z) k1 k2 rfl hkC ⟨fun q => hi (Or.inl q), by show _ < (arrV _ _ _).slots.size; rw [arrV_size]; exact Nat.not_le.mp fun q => hi (Or.inr q)⟩ g1 (fun q z => by rw [g3] at z; cases z) (by rw [g2]; exact hkC) (by rw [g2]; exact va_assign hcls) rfl rfl hd fun H1 e1 z oq => ?_
  refine kk.2 p e R s m args below meth c ls H1 _ n0 Q hx hb hml hnm hown hts hC hn0 hRm hret (hR.upd ha.1 ha.2.1 z oq (fun b hb => am_ur_m hb) rfl ?_) (am_locs ha.1 hL) hl
  rw [am_e_ref ha.2.2 (by decide)]
  show H1[_]? = some (vp_cell _ _)
  rw [e1, vp_cell_q, vp_cell_q]
  exact congrArg some (am_ref_cell hx0)
theorem am_asg (vm : Vm) (c : ClassId) : vm.assignable c c = true := by
  show vm.assignableAux (255 + 1) c c = true
  rw [Vm.assignableAux]
  simp only [beq_self_eq_true, Bool.true_or]
/-- a row in an array of rows -/
theorem am_rast {a x : Nat} {i : Int32} (hd : decode M.2.1 pc = .ok (.aastore, 1)) (ha : am_is h a 14) (hx1 : am_is h x 11) (hi : vp_in i (am_sh a).2) (kk : am_W G M d r h' (pc + 1) lv st (am_ur h a i.toNatClampNeg x)) : am_W G M d r h' pc lv (.ref x :: .int i :: .ref a :: st) h := by
  have hx0 : x ≠ 0 := by have := hx1.1; omega
  refine ⟨kk.1, fun p e R s m args below meth c ls H locs n0 Q hx hb hml hnm hown hts hC hn0 hRm hret hR hL hl => ?_⟩
  have hat := hR.at ha.1 ha.2.1
  rw [am_e_ref ha.2.2 (by decide)] at hat
  have hav := hR.at hx1.1 hx1.2.1
  rw [am_e_arr hx1.2.2 (by decide) (by decide)] at hav
  obtain ⟨kA, comp, k1, k2, rfl, kB, k3, k4⟩ := hC.2.2.2.2.2.2.2
  refine W.aast (a := am_r G a) (v := am_r G x) hx hb hat (fun q z => by cases z) (fun z => by cases z) k1 k2 rfl k3 ⟨fun q => hi (Or.inl q), by show _ < (arrV _ _ _).slots.size; rw [arrV_size]; exact Nat.not_le.mp fun q => hi (Or.inr q)⟩ hav (fun q z => by cases z) k3 (am_asg _ _) rfl rfl hd fun H1 e1 z oq => ?_
  refine kk.2 p e R s m args below meth c ls H1 _ n0 Q hx hb hml hnm hown hts hC hn0 hRm hret (hR.upd ha.1 ha.2.1 z oq (fun b hb => am_ur_m hb) rfl ?_) (am_locs ha.1 hL) hl
  rw [am_e_ref ha.2.2 (by decide)]
  show H1[_]? = some (vp_cell _ _)
  rw [e1, vp_cell_q, vp_cell_q]
  exact congrArg some (am_ref_cell hx0)
end AM6
/-! ===== THE ABSTRACT MACHINE, 7: what is made ===== -/
def am_nx (h : am_H) : am_H := (h.1 + 1, h.2.1, h.2.2)
section AM7
variable {G : am_G} {M : am_M} {d : Nat} {r : Option Value} {h' h : am_H} {pc : Nat} {lv : am_L} {st : List Value} {H H1 : Heap}
theorem am_SL_nx {n : Nat} (hn : 3 ≤ n) : am_SL (n + 1) = am_SL n + (am_sh n).2 := by
  show am_SL n + (bif Nat.ble n 2 then 0 else (am_sh n).2) = _
  rw [show Nat.ble n 2 = false from by
    cases hb : Nat.ble n 2 with
    | false => rfl
    | true => exact absurd (Nat.le_of_ble_eq_true hb) (by omega)]
  rfl
theorem am_R.push (hR : am_R G h H) (hz : H1.size = H.size + 1) (ho : ∀ q, q < H.size → H1[q]? = H[q]?) (hn : h.1 + 1 ≤ 3273) (hat : va_at (am_D G) vwCl (am_r G h.1, am_e G h h.1) H1) : am_R G (am_nx h) H1 := by
  obtain ⟨r1, r2, r3, r4, r5, r6, r7⟩ := hR
  refine ⟨Nat.le_succ_of_le r1, hn, by show H1.size + 3 = _ + (h.1 + 1); omega, fun q hq => ?_, fun b hb hbl => ?_, r6, fun b hb => r7 b (Nat.le_of_succ_le hb)⟩
  · rw [ho q (by omega)]
    exact r4 q hq
  · by_cases hbn : b = h.1
    · rw [hbn]
      exact hat
    · have hl : b < h.1 := by
        have : b < h.1 + 1 := hbl
        omega
      exact (r5 b hb hl).kept (ho _ (by show am_r G b < _; rw [am_r3 hb]; omega))
theorem am_R.top (hR : am_R G h H) : am_r G h.1 = H.size := by
  obtain ⟨r1, r2, r3, -⟩ := hR
  rw [am_r3 r1]
  omega
theorem am_f0 (hR : am_R G h H) {ci j : Nat} : am_f G h ci h.1 j = bif am_isr ci j then .null else .int 0 := by
  obtain ⟨-, -, -, -, -, -, r7⟩ := hR
  unfold am_f
  rw [(r7 h.1 (Nat.le_refl _)).1, (r7 h.1 (Nat.le_refl _)).2]
  rfl
theorem am_def (ci j : Nat) : (bif am_isr ci j then Value.null else .int 0) = defaultValue (am_ty ci j) ∨ (∃ t, am_ty ci j = t ∧ t ≠ .int ∧ t ≠ .boolean ∧ (∀ n, t ≠ .object n) ∧ ∀ n, t ≠ .array n) := by
  unfold am_isr
  cases h : am_ty ci j <;> first | exact Or.inl rfl | exact Or.inr ⟨_, rfl, by simp, by simp, by simp, by simp⟩
theorem am_def_ok : ∀ ci, ci < 8 → ∀ j, j < am_fN ci → (bif am_isr ci j then Value.null else .int 0) = defaultValue (am_ty ci j) := by
  intro ci hci j hj
  have key : ∀ ci, ci < 8 → ∀ j, j < am_fN ci → (bif am_isr ci j then Value.null else .int 0) = defaultValue (am_ty ci j) := by decide +kernel
  exact key ci hci j hj
theorem am_room {n0 m : Nat} (h0 : n0 ≤ h.1) (h3 : 3 ≤ h.1) (hm : h.1 ≤ m) : am_SL h.1 - am_SL n0 + (am_SL m - am_SL h.1) = am_SL m - am_SL n0 := by
  have a := am_SL_le h0
  have b := am_SL_le hm
  omega
/-- an object -/
theorem am_new {idx ci : Nat} (hd : decode M.2.1 pc = .ok (.new idx, 3)) (hw1 : Jvm.Cond.classLink M.1.cls idx (am_fC ci) ∈ am_tbl) (hw2 : Jvm.Cond.instantiable (am_fC ci) (am_fN ci) ∈ am_tbl) (hw3 : Jvm.Cond.initialized (am_fC ci) ∈ am_tbl) (hci : ci < 8) (hsh : (am_sh h.1).1 = ci) (hsz : (am_sh h.1).2 = am_fN ci) (hmx : h.1 + 1 ≤ 3273)
    (kk : am_W G M d r h' (pc + 3) lv (.ref h.1 :: st) (am_nx h)) : am_W G M d r h' pc lv st h := by
  refine ⟨Nat.le_of_succ_le kk.1, fun p e R s m args below meth c ls H locs n0 Q hx hb hml hnm hown hts hC hn0 hRm hret hR hL hl => ?_⟩
  have h3 : 3 ≤ h.1 := hR.1
  have hle : h.1 + 1 ≤ h'.1 := kk.1
  have hs1 := am_SL_nx h3
  have hs2 := am_SL_le hle
  have hs3 := am_SL_le hn0
  rw [hsz] at hs1
  obtain ⟨k1, k2, k3, k4⟩ := hRm
  have hKn := hC.1.1 ci _ (am_cl ci hci)
  refine W.newcK hx hb hown (hts _ hw1) (hts _ hw2) (hts _ hw3) (n := am_fN ci) rfl hd (by omega) (by omega) hKn.2.1 rfl fun H1 kC hkC e1 z1 o1 => ?_
  have htop := hR.top
  have hR1 : am_R G (am_nx h) H1 := by
    refine hR.push z1 o1 hmx ?_
    rw [am_e_obj hsh hci, htop]
    refine ⟨_, am_cl ci hci, (u_born (am_ty ci) hts (am_in ci hci) hKn hkC e1 (am_tyok ci hci)).to (fun j hj => ?_)⟩
    rw [am_vpV hj, am_f0 hR]
    exact (am_def_ok ci hci j hj).symm
  have K := kk.2 p e R s m args below meth c ls H1 locs n0 Q hx hb hml hnm hown hts hC (Nat.le_succ_of_le hn0) ⟨k1, k2, k3, k4⟩ hret hR1 hL hl
  have e2 : (am_nx h).1 - n0 = h.1 - n0 + 1 := by show h.1 + 1 - n0 = _; omega
  have e3 : am_SL (am_nx h).1 - am_SL n0 = am_SL h.1 - am_SL n0 + am_fN ci := by show am_SL (h.1 + 1) - _ = _; omega
  rw [e2, e3] at K
  rw [← htop]
  exact K
/-- an array of ints, booleans, bytes -/
theorem am_newa {ty : FieldType} {atype : ArrayType} {n : Int32} {kd : Nat} (hkd : (atype = .int ∧ kd = 11) ∨ (atype = .boolean ∧ kd = 12) ∨ (atype = .byte ∧ kd = 10)) (hd : decode M.2.1 pc = .ok (.newarray atype, 2)) (hw : Jvm.Cond.arrayClass (newarray.typeOf atype) ∈ am_tbl) (hsh : (am_sh h.1).1 = kd) (hn : ¬ n < 0) (hN : n.toNatClampNeg = (am_sh h.1).2) (hbig : (am_sh h.1).2 ≤ 200000) (hmx : h.1 + 1 ≤ 3273)
    (kk : am_W G M d r h' (pc + 2) lv (.ref h.1 :: st) (am_nx h)) : am_W G M d r h' pc lv (.int n :: st) h := by
  refine ⟨Nat.le_of_succ_le kk.1, fun p e R s m args below meth c ls H locs n0 Q hx hb hml hnm hown hts hC hn0 hRm hret hR hL hl => ?_⟩
  have h3 : 3 ≤ h.1 := hR.1
  have hle : h.1 + 1 ≤ h'.1 := kk.1
  have hs1 := am_SL_nx h3
  have hs2 := am_SL_le hle
  have hs3 := am_SL_le hn0
  obtain ⟨k1, k2, k3, k4⟩ := hRm
  have htop := hR.top
  have e2 : (am_nx h).1 - n0 = h.1 - n0 + 1 := by show h.1 + 1 - n0 = _; omega
  have e3 : am_SL (am_nx h).1 - am_SL n0 = am_SL h.1 - am_SL n0 + (am_sh h.1).2 := by show am_SL (h.1 + 1) - _ = _; omega
  have hby : (am_sh h.1).2 * componentBytes (newarray.typeOf atype) ≤ 536870912 := by
    have : componentBytes (newarray.typeOf atype) ≤ 8 := by cases atype <;> decide
    calc _ ≤ 200000 * 8 := Nat.mul_le_mul hbig this
      _ ≤ _ := by decide
  refine va_newaK hx hb (hts _ hw) rfl hd rfl hn hN hby (by omega) (by omega) rfl fun H1 cA e1 z1 o1 hAr hNm => ?_
  have hR1 : am_R G (am_nx h) H1 := by
    refine hR.push z1 o1 hmx ?_
    obtain ⟨-, -, -, -, -, -, r7⟩ := hR
    have hz := funext (r7 h.1 (Nat.le_refl _)).1
    rcases hkd with ⟨rfl, rfl⟩ | ⟨rfl, rfl⟩ | ⟨rfl, rfl⟩
    · have hc : cA = am_cA G 11 := Option.some.inj (hNm.symm.trans (hC.1.2 1 (am_cA G 11, .int) rfl).2)
      subst hc
      rw [am_e_arr hsh (by decide) (by decide), htop]
      show H1[_]? = some (vp_cell _ _)
      rw [vp_cell_i, e1, hz]
      rfl
    · have hc : cA = am_cA G 12 := Option.some.inj (hNm.symm.trans (hC.1.2 2 (am_cA G 12, .boolean) rfl).2)
      subst hc
      rw [am_e_arr hsh (by decide) (by decide), htop]
      show H1[_]? = some (vp_cell _ _)
      rw [vp_cell_i, e1, hz]
      rfl
    · have hc : cA = am_cA G 10 := Option.some.inj (hNm.symm.trans (hC.1.2 0 (am_cA G 10, .byte) rfl).2)
      subst hc
      rw [am_e_arr hsh (by decide) (by decide), htop]
      show H1[_]? = some (vp_cell _ _)
      rw [vp_cell_i, e1, hz]
      rfl
  have K := kk.2 p e R s m args below meth c ls H1 locs n0 Q hx hb hml hnm hown hts hC (Nat.le_succ_of_le hn0) ⟨k1, k2, k3, k4⟩ hret hR1 hL hl
  rw [e2, e3] at K
  rw [← htop]
  exact K
/-- an array of Orgs -/
theorem am_newq {idx : Nat} {n : Int32} (hd : decode M.2.1 pc = .ok (.anewarray idx, 3)) (hw : Jvm.Cond.classLink M.1.cls idx RX1 ∈ am_tbl) (hsh : (am_sh h.1).1 = 13) (hn : ¬ n < 0) (hN : n.toNatClampNeg = (am_sh h.1).2) (hbig : (am_sh h.1).2 ≤ 200000) (hmx : h.1 + 1 ≤ 3273)
    (kk : am_W G M d r h' (pc + 3) lv (.ref h.1 :: st) (am_nx h)) : am_W G M d r h' pc lv (.int n :: st) h := by
  refine ⟨Nat.le_of_succ_le kk.1, fun p e R s m args below meth c ls H locs n0 Q hx hb hml hnm hown hts hC hn0 hRm hret hR hL hl => ?_⟩
  have h3 : 3 ≤ h.1 := hR.1
  have hle : h.1 + 1 ≤ h'.1 := kk.1
  have hs1 := am_SL_nx h3
  have hs2 := am_SL_le hle
  have hs3 := am_SL_le hn0
  obtain ⟨k1, k2, k3, k4⟩ := hRm
  have htop := hR.top
  have e2 : (am_nx h).1 - n0 = h.1 - n0 + 1 := by show h.1 + 1 - n0 = _; omega
  have e3 : am_SL (am_nx h).1 - am_SL n0 = am_SL h.1 - am_SL n0 + (am_sh h.1).2 := by show am_SL (h.1 + 1) - _ = _; omega
  refine W.anew hx hb hown (hts _ hw) (va_AO.use hC.2.2.2.2.2.2.1.1) rfl hd rfl hn (by rw [hN]; omega) (by omega) (by rw [hN]; omega) fun cA kA comp f1 f2 f3 f4 => ?_
  rw [hN]
  have hR1 : am_R G (am_nx h) (H.push ({ cls := cA, slots := Array.replicate (am_sh h.1).2 .null, vm := .none } : Cell)) := by
    refine hR.push (by rw [Array.size_push]) (fun q hq => by rw [Array.getElem?_push, if_neg (Nat.ne_of_lt hq)]) hmx ?_
    obtain ⟨-, -, -, -, -, -, r7⟩ := hR
    have hz := funext (r7 h.1 (Nat.le_refl _)).2
    obtain ⟨kA9, comp9, -, -, -, h4⟩ := (hC.1.2 3 (am_cA G 13, .object RX1) rfl).2
    have hc : cA = am_cA G 13 := Option.some.inj (f1.symm.trans h4)
    subst hc
    rw [am_e_ref hsh (by decide), htop]
    show (H.push _)[_]? = some (vp_cell _ _)
    rw [vp_cell_q, Array.getElem?_push_size, hz, arrV_new]
    rfl
  have K := kk.2 p e R s m args below meth c ls _ locs n0 Q hx hb hml hnm hown hts hC (Nat.le_succ_of_le hn0) ⟨k1, k2, k3, k4⟩ hret hR1 hL hl
  rw [e2, e3] at K
  rw [← htop]
  exact K
end AM7
/-! ===== THE ABSTRACT MACHINE, 8: calls ===== -/
theorem am_goodIn {M2 : am_M} (hc : Jvm.Cond.code M2.1 M2.2.1 M2.2.2.1 M2.2.2.2 ∈ am_tbl) : GoodIn am_tbl (am_ws M2) := by
  intro w hw
  rcases List.mem_cons.mp hw with rfl | hw
  · exact ⟨hc, Or.inl rfl⟩
  · exact ⟨hw, good_of_word (List.mem_filter.mp hw).2⟩
/-- what a call of M2 wants of the tables -/
def am_ok (M2 : am_M) (n : Nat) : Prop :=
  Jvm.Cond.code M2.1 M2.2.1 M2.2.2.1 M2.2.2.2 ∈ am_tbl ∧ Jvm.Cond.initialized M2.1.cls ∈ am_tbl ∧ (M2.1.cls ≠ "java/lang/invoke/MethodHandle" ∧ M2.1.cls ≠ "java/lang/invoke/VarHandle") ∧ (parseMethodDescriptor M2.1.desc).map (fun d => d.parameters.length) = some n ∧ M2.2.2.1 ≤ 41
section AM8
variable {G : am_G} {M M2 : am_M} {d d2 : Nat} {r r2 : Option Value} {h' h h2 : am_H} {pc : Nat} {lv : am_L} {st : List Value}
theorem am_blind (as : List Value) : FrameBlind (fun v U => v = (as.map (am_v G)).toArray ∧ am_C G U ∧ am_R G h U.heap) := by
  intro a U g mk q
  exact ⟨q.1, am_C.warm (u := U) (U := U.calling g mk a) (State.WarmedH.refl U) q.2.1, q.2.2⟩
theorem am_cat (st : List Value) : ((st.map (am_v G)).map fun v => v.category).sum = (st.map fun v => v.category).sum := by
  rw [List.map_map]
  congr 1
  apply List.map_congr_left
  intro v _
  exact am_v_cat G v
theorem am_tl (r2 : Option Value) (st : List Value) : (r2.map (am_v G)).toList ++ st.map (am_v G) = (r2.toList ++ st).map (am_v G) := by
  cases r2 <;> simp
/-- what goes on behind a call -/
theorem am_go {p : Program} {e : Env} {R : Room} {s : State} {m : MethodId} {args : Array Value} {below : List Frame} {meth : Method} {c : Code} {ls : Array Slot} {H : Heap} {locs : List Loc} {n0 : Nat} {Q : State → Prop} {st0 : List Value} {a : Array Value}
    (hle : h.1 ≤ h2.1) (hn0 : n0 ≤ h.1) (hL : ∀ q ∈ locs, am_own G q.base)
    (hr : va_Run p (am_l G) e R s m args below meth c H locs (h.1 - n0) (am_SL h.1 - am_SL n0) (h2.1 - h.1) (am_SL h2.1 - am_SL h.1) (F0 m pc ls st0) (st.map (am_v G)) (am_Q G r2 h2 a) (am_own G))
    (K : ∀ (H1 : Heap) (locs1 : List Loc), am_R G h2 H1 → (∀ q ∈ locs1, am_own G q.base) → W p (am_l G) e R s m args below meth c H1 locs1 (h2.1 - n0) (am_SL h2.1 - am_SL n0) Q (F0 m (pc + 3) ls ((r2.toList ++ st).map (am_v G)))) :
    W p (am_l G) e R s m args below meth c H locs (h.1 - n0) (am_SL h.1 - am_SL n0) Q (F0 m pc ls st0) := by
  intro T hT X
  obtain ⟨v, st₀, t, T', L, h0, X', hL2, e1, e2, ⟨hv, hR2⟩, goes⟩ := hr T hT X
  have hv := Outcome.returned.inj hv
  subst hv
  have a1 := am_SL_le hle
  have a2 := am_SL_le hn0
  rw [show h.1 - n0 + (h2.1 - h.1) = h2.1 - n0 from by omega, show am_SL h.1 - am_SL n0 + (am_SL h2.1 - am_SL h.1) = am_SL h2.1 - am_SL n0 from by omega] at X'
  obtain ⟨t2, b1, b2⟩ := K T'.heap (locs ++ L) (by rw [e1]; exact hR2) (fun q hq => by
    rcases List.mem_append.mp hq with q1 | q1
    · exact hL q q1
    · exact hL2 q q1) T' rfl X'
  refine ⟨t2, goes t2 ?_, b2⟩
  rw [am_tl]
  exact b1
/-- the common part of what a call wants -/
theorem am_cb {s : State} {args : Array Value} {R : Room} {own : String} {idx n : Nat} (hts : ∀ w ∈ am_tbl, w.before args s = true) (hM2 : am_ok M2 n) (hl : Jvm.Cond.methodLink own idx M2.1 ∈ am_tbl) (hd2 : d2 + 1 ≤ d) (k1 : d ≤ R.frames) (k2 : 60 * d ≤ R.locals) {mc ms : Nat} :
    CallB R s args own idx M2.1 M2.2.1 M2.2.2.1 M2.2.2.2 (am_ws M2) (am_rm d2 mc ms) mc ms n := by
  obtain ⟨hc, hini, hy, hpar, hmx⟩ := hM2
  refine callB_of (Ts := am_tbl) n hts (am_goodIn hc) rfl rfl rfl (hts _ hini) (hts _ hl) ⟨hy.1, hy.2, hpar⟩ ⟨by show d2 + 1 ≤ _; omega, by show 8 + (M2.2.2.1 + 11) + 60 * d2 ≤ _; omega⟩
theorem am_callV {idx ci a : Nat} (As : List Value) (hd : decode M.2.1 pc = .ok (.invokevirtual idx, 3)) (hok : am_ok M2 As.length) (hl : Jvm.Cond.methodLink M.1.cls idx M2.1 ∈ am_tbl) (hi : Jvm.Cond.instanceMethod M2.1 ∈ am_tbl) (hse : Jvm.Cond.selects (am_fC ci) M2.1 M2.1 ∈ am_tbl) (hci : ci < 8) (ha : am_is h a ci) (hd2 : d2 + 1 ≤ d) (hst : (st.map fun v => v.category).sum ≤ 8)
    (hM : am_Met G M2 d2 (.ref a :: As) h r2 h2) (kk : am_W G M d r h' (pc + 3) lv (r2.toList ++ st) h2) : am_W G M d r h' pc lv (As.reverse ++ .ref a :: st) h := by
  refine ⟨Nat.le_trans hM.1 kk.1, fun p e R s m args below meth c ls H locs n0 Q hx hb hml hnm hown hts hC hn0 hRm hret hR hL hl => ?_⟩
  obtain ⟨k1, k2, k3, k4⟩ := hRm
  have hat := hR.at ha.1 ha.2.1
  rw [am_e_obj ha.2.2 hci] at hat
  have s1 := am_SL_le hM.1
  have s2 := am_SL_le kk.1
  have s3 := am_SL_le hn0
  have l1 := hM.1
  have l2 := kk.1
  have hr := va_runV (p := p) (l := am_l G) (e := e) (R := R) (s := s) (m := m) (args := args) (below := below) (meth := meth) (c := c) (H := H) (locs := locs) (cells := h.1 - n0) (slots := am_SL h.1 - am_SL n0) (Ts := am_tbl) (As := As.map (am_v G)) (rest := st.map (am_v G)) (b := am_r G a) (g := F0 m pc ls ((As.reverse ++ .ref a :: st).map (am_v G)))
    ⟨hx, hb, hml, hown, hts⟩ hM.2 ⟨am_cb hts hok (by assumption) hd2 k1 k2, hts _ hi, hts _ hse⟩ ⟨am_blind _, va_recv hC.1 (am_P1 hat) (ci := ci) (q0 := 0) (am_cl ci hci) rfl, fun U hU hW => ⟨rfl, hC.warm hW, by rw [hU]; exact hR⟩⟩ rfl (by rw [List.length_map]) hl.1 (by
      show (As.reverse ++ Value.ref a :: st).map (am_v G) = _
      rw [List.map_append, List.map_reverse]
      rfl) (lv_room (by rw [am_cat]; exact hst)) hd ⟨by omega, by omega⟩
  exact am_go hM.1 hn0 hL hr (fun H1 locs1 z y => kk.2 p e R s m args below meth c ls H1 locs1 n0 Q hx hb hml hnm hown hts hC (Nat.le_trans hn0 hM.1) ⟨k1, k2, k3, k4⟩ hret z y hl)
theorem am_callS {idx : Nat} (As : List Value) (hd : decode M.2.1 pc = .ok (.invokestatic idx, 3)) (hok : am_ok M2 As.length) (hl : Jvm.Cond.methodLink M.1.cls idx M2.1 ∈ am_tbl) (hi : Jvm.Cond.static M2.1 ∈ am_tbl) (hd2 : d2 + 1 ≤ d) (hst : (st.map fun v => v.category).sum ≤ 8)
    (hM : am_Met G M2 d2 As h r2 h2) (kk : am_W G M d r h' (pc + 3) lv (r2.toList ++ st) h2) : am_W G M d r h' pc lv (As.reverse ++ st) h := by
  refine ⟨Nat.le_trans hM.1 kk.1, fun p e R s m args below meth c ls H locs n0 Q hx hb hml hnm hown hts hC hn0 hRm hret hR hL hl => ?_⟩
  obtain ⟨k1, k2, k3, k4⟩ := hRm
  have s1 := am_SL_le hM.1
  have s2 := am_SL_le kk.1
  have s3 := am_SL_le hn0
  have l1 := hM.1
  have l2 := kk.1
  have hr := va_runS (p := p) (l := am_l G) (e := e) (R := R) (s := s) (m := m) (args := args) (below := below) (meth := meth) (c := c) (H := H) (locs := locs) (cells := h.1 - n0) (slots := am_SL h.1 - am_SL n0) (Ts := am_tbl) (As := As.map (am_v G)) (rest := st.map (am_v G)) (g := F0 m pc ls ((As.reverse ++ st).map (am_v G)))
    ⟨hx, hb, hml, hown, hts⟩ hM.2 ⟨am_cb hts hok (by assumption) hd2 k1 k2, hts _ hi⟩ ⟨am_blind _, fun U hU hW => ⟨rfl, hC.warm hW, by rw [hU]; exact hR⟩⟩ rfl (by rw [List.length_map]) hl.1 (by
      show (As.reverse ++ st).map (am_v G) = _
      rw [List.map_append, List.map_reverse]) (lv_room (by rw [am_cat]; exact hst)) hd ⟨by omega, by omega⟩
  exact am_go hM.1 hn0 hL hr (fun H1 locs1 z y => kk.2 p e R s m args below meth c ls H1 locs1 n0 Q hx hb hml hnm hown hts hC (Nat.le_trans hn0 hM.1) ⟨k1, k2, k3, k4⟩ hret z y hl)
/-- a static method of a nest mate that is private there -/
theorem am_callSN {idx : Nat} {host : String} (As : List Value) (hd : decode M.2.1 pc = .ok (.invokestatic idx, 3)) (hok : am_ok M2 As.length) (hl : Jvm.Cond.methodLinkNest M.1.cls idx M2.1 host ∈ am_nest) (hi : Jvm.Cond.static M2.1 ∈ am_tbl) (hd2 : d2 + 1 ≤ d) (hst : (st.map fun v => v.category).sum ≤ 8)
    (hM : am_Met G M2 d2 As h r2 h2) (kk : am_W G M d r h' (pc + 3) lv (r2.toList ++ st) h2) : am_W G M d r h' pc lv (As.reverse ++ st) h := by
  refine ⟨Nat.le_trans hM.1 kk.1, fun p e R s m args below meth c ls H locs n0 Q hx hb hml hnm hown hts hC hn0 hRm hret hR hL hl9 => ?_⟩
  obtain ⟨k1, k2, k3, k4⟩ := hRm
  have s1 := am_SL_le hM.1
  have s2 := am_SL_le kk.1
  have s3 := am_SL_le hn0
  have l1 := hM.1
  have l2 := kk.1
  have hr := va_runSN (p := p) (l := am_l G) (e := e) (R := R) (s := s) (m := m) (args := args) (below := below) (meth := meth) (c := c) (H := H) (locs := locs) (cells := h.1 - n0) (slots := am_SL h.1 - am_SL n0) (Ts := am_tbl) (As := As.map (am_v G)) (rest := st.map (am_v G)) (g := F0 m pc ls ((As.reverse ++ st).map (am_v G)))
    ⟨hx, hb, hml, hown, hts⟩ hM.2 ⟨va_cnB (Ts := am_tbl) As.length hts (am_goodIn hok.1) rfl rfl rfl (hC.2.2.2.2.2.2.1.2.2 _ hl) (hts _ hok.2.1) ⟨hok.2.2.1.1, hok.2.2.1.2, hok.2.2.2.1⟩ ⟨by show d2 + 1 ≤ _; omega, by show 8 + (M2.2.2.1 + 11) + 60 * d2 ≤ _; have := hok.2.2.2.2; omega⟩, hts _ hi, trivial⟩ ⟨am_blind _, fun U hU hW => ⟨rfl, hC.warm hW, by rw [hU]; exact hR⟩⟩ rfl (by rw [List.length_map]) hl9.1 (by
      show (As.reverse ++ st).map (am_v G) = _
      rw [List.map_append, List.map_reverse]) (lv_room (by rw [am_cat]; exact hst)) hd ⟨by omega, by omega⟩
  exact am_go hM.1 hn0 hL hr (fun H1 locs1 z y => kk.2 p e R s m args below meth c ls H1 locs1 n0 Q hx hb hml hnm hown hts hC (Nat.le_trans hn0 hM.1) ⟨k1, k2, k3, k4⟩ hret z y hl9)
/-- a constructor without arguments -/
theorem am_callI {idx a : Nat} (hd : decode M.2.1 pc = .ok (.invokespecial idx, 3)) (hok : am_ok M2 0) (hnone : M2.2.2.2 = none) (hl : Jvm.Cond.methodLink M.1.cls idx M2.1 ∈ am_tbl) (hi : Jvm.Cond.instanceMethod M2.1 ∈ am_tbl) (hnm2 : M2.1.name = "<init>") (hd2 : d2 + 1 ≤ d) (hst : (st.map fun v => v.category).sum ≤ 8)
    (hM : am_Met G M2 d2 [.ref a] h none h2) (kk : am_W G M d r h' (pc + 3) lv st h2) : am_W G M d r h' pc lv (.ref a :: st) h := by
  refine ⟨Nat.le_trans hM.1 kk.1, fun p e R s m args below meth c ls H locs n0 Q hx hb hml hnm hown hts hC hn0 hRm hret hR hL hl9 => ?_⟩
  obtain ⟨k1, k2, k3, k4⟩ := hRm
  have s1 := am_SL_le hM.1
  have s2 := am_SL_le kk.1
  have s3 := am_SL_le hn0
  have l1 := hM.1
  have l2 := kk.1
  have hcb := am_cb (R := R) (M2 := M2) (d2 := d2) (d := d) (mc := h2.1 - h.1) (ms := am_SL h2.1 - am_SL h.1) hts hok hl hd2 k1 k2
  rw [hnone] at hcb
  have hr := va_runI (p := p) (l := am_l G) (e := e) (R := R) (s := s) (m := m) (args := args) (below := below) (meth := meth) (c := c) (H := H) (locs := locs) (cells := h.1 - n0) (slots := am_SL h.1 - am_SL n0) (Ts := am_tbl) (As := []) (rest := st.map (am_v G)) (b := am_r G a) (g := F0 m pc ls ((Value.ref a :: st).map (am_v G)))
    ⟨hx, hb, hml, hown, hts⟩ hM.2 ⟨hcb, hnm2, hts _ hi⟩ ⟨am_blind _, fun U hU hW => ⟨rfl, hC.warm hW, by rw [hU]; exact hR⟩⟩ rfl rfl hl9.1 rfl (lv_room (by rw [am_cat]; exact hst)) hd ⟨by omega, by omega⟩
  exact am_go hM.1 hn0 hL hr (fun H1 locs1 z y => kk.2 p e R s m args below meth c ls H1 locs1 n0 Q hx hb hml hnm hown hts hC (Nat.le_trans hn0 hM.1) ⟨k1, k2, k3, k4⟩ hret z y hl9)
/-- a nest mate's private constructor without arguments -/
theorem am_callIN {idx a : Nat} {host : String} (hd : decode M.2.1 pc = .ok (.invokespecial idx, 3)) (hok : am_ok M2 0) (hnone : M2.2.2.2 = none) (hl : Jvm.Cond.methodLinkNest M.1.cls idx M2.1 host ∈ am_nest) (hi : Jvm.Cond.instanceMethod M2.1 ∈ am_tbl) (hnm2 : M2.1.name = "<init>") (hd2 : d2 + 1 ≤ d) (hst : (st.map fun v => v.category).sum ≤ 8)
    (hM : am_Met G M2 d2 [.ref a] h none h2) (kk : am_W G M d r h' (pc + 3) lv st h2) : am_W G M d r h' pc lv (.ref a :: st) h := by
  refine ⟨Nat.le_trans hM.1 kk.1, fun p e R s m args below meth c ls H locs n0 Q hx hb hml hnm hown hts hC hn0 hRm hret hR hL hl9 => ?_⟩
  obtain ⟨k1, k2, k3, k4⟩ := hRm
  have s1 := am_SL_le hM.1
  have s2 := am_SL_le kk.1
  have s3 := am_SL_le hn0
  have l1 := hM.1
  have l2 := kk.1
  have hcb := va_cnB (s := s) (args := args) (R := R) (Ts := am_tbl) (rm := am_rm d2 (h2.1 - h.1) (am_SL h2.1 - am_SL h.1)) 0 hts (am_goodIn hok.1) rfl rfl rfl (hC.2.2.2.2.2.2.1.2.2 _ hl) (hts _ hok.2.1) ⟨hok.2.2.1.1, hok.2.2.1.2, hok.2.2.2.1⟩ ⟨by show d2 + 1 ≤ _; omega, by show 8 + (M2.2.2.1 + 11) + 60 * d2 ≤ _; have := hok.2.2.2.2; omega⟩
  rw [hnone] at hcb
  have hr := va_runIN (p := p) (l := am_l G) (e := e) (R := R) (s := s) (m := m) (args := args) (below := below) (meth := meth) (c := c) (H := H) (locs := locs) (cells := h.1 - n0) (slots := am_SL h.1 - am_SL n0) (Ts := am_tbl) (As := []) (rest := st.map (am_v G)) (b := am_r G a) (g := F0 m pc ls ((Value.ref a :: st).map (am_v G)))
    ⟨hx, hb, hml, hown, hts⟩ hM.2 ⟨hcb, hnm2, hts _ hi⟩ ⟨am_blind _, fun U hU hW => ⟨rfl, hC.warm hW, by rw [hU]; exact hR⟩⟩ rfl rfl hl9.1 rfl (lv_room (by rw [am_cat]; exact hst)) hd ⟨by omega, by omega⟩
  exact am_go hM.1 hn0 hL hr (fun H1 locs1 z y => kk.2 p e R s m args below meth c ls H1 locs1 n0 Q hx hb hml hnm hown hts hC (Nat.le_trans hn0 hM.1) ⟨k1, k2, k3, k4⟩ hret z y hl9)
/-- Object's constructor -/
theorem am_oinit {idx a : Nat} (hd : decode M.2.1 pc = .ok (.invokespecial idx, 3)) (hl : Jvm.Cond.methodLink M.1.cls idx Lib.objectInit ∈ am_tbl) (hi : Jvm.Cond.instanceMethod Lib.objectInit ∈ am_tbl) (hc : Jvm.Cond.code Lib.objectInit ⟨#[0xb1]⟩ 1 none ∈ am_tbl) (hd2 : 1 ≤ d) (hst : (st.map fun v => v.category).sum ≤ 8) (kk : am_W G M d r h' (pc + 3) lv st h) : am_W G M d r h' pc lv (.ref a :: st) h := by
  refine ⟨kk.1, fun p e R s m args below meth c ls H locs n0 Q hx hb hml hnm hown hts hC hn0 hRm hret hR hL hl9 => ?_⟩
  obtain ⟨k1, k2, k3, k4⟩ := hRm
  have hroom : 2 * (F0 m pc ls ((Value.ref a :: st).map (am_v G))).monitorRoom + ((st.map (am_v G)).map fun v => v.category).sum ≤ 8 := lv_room (by rw [am_cat]; exact hst)
  exact W.objInit hx hb hown (hts _ hl) (hts _ hi) (hts _ hc) rfl (by rw [hml]; exact hl9.1) rfl hd (by omega) (by omega) (kk.2 p e R s m args below meth c ls H locs n0 Q hx hb hml hnm hown hts hC hn0 ⟨k1, k2, k3, k4⟩ hret hR hL hl9)
theorem am_vL_args (G : am_G) : ∀ (i : Nat) (as : List Value), am_vL G (lv_args i as) = lv_args i (as.map (am_v G))
  | _, [] => rfl
  | i, v :: vs => by
    show (i, am_v G v) :: am_vL G (lv_args _ vs) = (i, am_v G v) :: lv_args _ (vs.map (am_v G))
    rw [am_vL_args G, am_v_cat]
theorem am_sl_len : ∀ (as : List Value), (lg_sl (as.map (am_v G))).length = (lg_sl as).length
  | [] => rfl
  | v :: vs => by
    show (List.length ((if (am_v G v).category = 2 then _ else _) ++ lg_sl (vs.map (am_v G)))) = List.length ((if v.category = 2 then _ else _) ++ lg_sl vs)
    rw [List.length_append, List.length_append, am_sl_len vs, am_v_cat]
    by_cases h : v.category = 2
    · rw [if_pos h, if_pos h]; rfl
    · rw [if_neg h, if_neg h]; rfl
/-- a contract out of a walk -/
theorem am_of {as : List Value} (hpl : plainName M.1.cls = true) (hlen : (lg_sl as).length ≤ M.2.2.1) (hw : am_W G M d r h' 0 (lv_args 0 as) [] h) : am_Met G M d as h r h' := by
  refine ⟨hw.1, Met.ofW (cc := M.2.1) (maxL := M.2.2.1) (ret := M.2.2.2) hpl rfl ?_⟩
  intro p e s m args below meth c s₁ B hml hv
  obtain ⟨rfl, hC, hR⟩ := hv
  have hb := B.bytes
  have hx := B.exec
  have hts0 := atoms_spec (ws := am_ws M) B.pre
  have hts : ∀ w ∈ am_tbl, w.before ((as.map (am_v G)).toArray) s = true := fun w h => hts0 w (List.mem_cons_of_mem _ h)
  have hown : s.vm.findClass M.1.cls = some m.cls := findClass_of_methodNamed B.named
  have hnm : meth.name = M.1.name := (name_of_methodNamed B.named B.method).1
  have hlocks := B.notSynchronized
  have hl := lv_entry (as.map (am_v G)) (n := M.2.2.1) (by rw [am_sl_len]; exact hlen)
  rw [lg_entry_eq]
  rw [← am_vL_args] at hl
  have K := hw.2 p e (headSpec (am_ws M) (am_rm d (h'.1 - h.1) (am_SL h'.1 - am_SL h.1))).room s m _ below meth c _ s.heap [] h.1 (MQ below (am_Q G r h') ((as.map (am_v G)).toArray) s (h'.1 - h.1) (am_SL h'.1 - am_SL h.1) (am_own G)) hx hb hml hnm hown hts hC (Nat.le_refl _) ⟨Nat.le_refl _, Nat.le_refl _, Nat.le_refl _, Nat.le_refl _⟩ ?_ hR (fun q hq => by cases hq) hl
  · rw [Nat.sub_self, Nat.sub_self] at K
    exact K
  · intro pc ls H locs ins hr hd hR2 hL2
    have hq : ∀ (o : Option Value), o = r → ∀ t : State, t.heap = H → am_Q G r h' ((as.map (am_v G)).toArray) s (.returned (o.map (am_v G))) t := fun o ho t ht => ⟨by rw [ho], by rw [ht]; exact hR2⟩
    rcases hr with ⟨h1, ⟨v, rfl⟩, rfl⟩ | ⟨h1, hv, rfl⟩ | ⟨h1, ⟨v, rfl⟩, rfl⟩ | ⟨h1, rfl, rfl⟩ | ⟨⟨t, h1⟩, ⟨a, rfl⟩, rfl⟩
    · exact W.iret (v := v) hx hb (B.returns.trans h1) (fun t ht _ => hq (some (.int v)) rfl t ht) hL2 hd hlocks
    · rcases hv with rfl | rfl
      · exact W.zret (v := 0) (ty := .boolean) hx hb (B.returns.trans h1) rfl (fun t ht _ => hq (some (.int 0)) rfl t ht) hL2 hd hlocks
      · exact W.zret (v := 1) (ty := .boolean) hx hb (B.returns.trans h1) rfl (fun t ht _ => hq (some (.int 1)) rfl t ht) hL2 hd hlocks
    · exact W.lret (v := v) hx hb (B.returns.trans h1) (fun t ht _ => hq (some (.long v)) rfl t ht) hL2 hd hlocks
    · exact W.vret hx hb (B.returns.trans h1) (fun t ht _ => hq none rfl t ht) hL2 hd hlocks
    · exact W.aret (v := .ref (am_r G a)) (rt := .array t) hx hb (B.returns.trans h1) (Or.inr ⟨t, rfl⟩) (Or.inr ⟨_, rfl⟩) (fun t ht _ => hq (some (.ref a)) rfl t ht) hL2 hd hlocks
end AM8
/-! ===== THE ABSTRACT MACHINE, 9: System.arraycopy of ints, of booleans ===== -/
def am_cp (h : am_H) (src sp dst dp n : Nat) : am_H := (h.1, am_up h.2.1 dst (va_cpy (h.2.1 src) (h.2.1 dst) sp dp n), h.2.2)
section AM9
variable {G : am_G} {M : am_M} {d : Nat} {r : Option Value} {h' h : am_H} {pc : Nat} {lv : am_L} {st : List Value}
theorem am_nn (z : Int32) (hz : ¬ z < 0) : z.toInt = (z.toNatClampNeg : Int) := by
  have hz0 : (0 : Int) ≤ z.toInt := by
    have := Int32.not_lt.mp hz
    simpa using Int32.le_iff_toInt_le.mp this
  show z.toInt = ((z.toInt.toNat : Nat) : Int)
  omega
theorem am_gd {c : ClassId} {n i : Nat} {f : Nat → Int32} (hi : i < n) : (arrV c n (fun j => .int (f j))).slots.getD i .null = .int (f i) := by
  rw [Array.getD_eq_getD_getElem?, arrV_read _ _ hi]
  rfl
set_option maxHeartbeats 1000000 in
theorem am_copy {idx kd src dst : Nat} {sp dp n : Int32} (hkd : kd = 11 ∨ kd = 12) (hd : decode M.2.1 pc = .ok (.invokestatic idx, 3)) (hw : Jvm.Cond.methodLink M.1.cls idx arraycopyName ∈ am_tbl) (hw2 : Jvm.Cond.native arraycopyName ∈ am_tbl) (hw3 : Jvm.Cond.static arraycopyName ∈ am_tbl) (hw4 : Jvm.Cond.initialized "java/lang/System" ∈ am_tbl)
    (hs : am_is h src kd) (ht : am_is h dst kd) (h1 : ¬ sp < 0) (h2 : ¬ dp < 0) (h3 : ¬ n < 0) (h4 : sp.toNatClampNeg + n.toNatClampNeg ≤ (am_sh src).2) (h5 : dp.toNatClampNeg + n.toNatClampNeg ≤ (am_sh dst).2) (hbit : kd = 12 → ∀ i, i < n.toNatClampNeg → h.2.1 src (sp.toNatClampNeg + i) = 0 ∨ h.2.1 src (sp.toNatClampNeg + i) = 1) (hd1 : 2 ≤ d) (hst : (st.map fun v => v.category).sum ≤ 8)
    (kk : am_W G M d r h' (pc + 3) lv st (am_cp h src sp.toNatClampNeg dst dp.toNatClampNeg n.toNatClampNeg)) : am_W G M d r h' pc lv (.int n :: .int dp :: .ref dst :: .int sp :: .ref src :: st) h := by
  refine ⟨kk.1, fun p e R s m args below meth c ls H locs n0 Q hx hb hml hnm hown hts hC hn0 hRm hret hR hL hl => ?_⟩
  obtain ⟨k1, k2, k3, k4⟩ := hRm
  have hats := hR.at hs.1 hs.2.1
  have hatt := hR.at ht.1 ht.2.1
  have hk8 : 8 ≤ kd := by omega
  have hk13 : kd < 13 := by omega
  rw [am_e_arr hs.2.2 hk8 hk13] at hats
  rw [am_e_arr ht.2.2 hk8 hk13] at hatt
  obtain ⟨ty, hty, hprim, hfit⟩ : ∃ ty : FieldType, (∃ k, (am_tys G)[k]? = some (am_cA G kd, ty)) ∧ refKind ty = false ∧ ∀ i, i < n.toNatClampNeg → fits ty (.int (h.2.1 src (sp.toNatClampNeg + i))) = true := by
    rcases hkd with rfl | rfl
    · exact ⟨.int, ⟨1, rfl⟩, rfl, fun _ _ => rfl⟩
    · refine ⟨.boolean, ⟨2, rfl⟩, rfl, fun j hj => ?_⟩
      rcases hbit rfl j hj with q | q <;> rw [q] <;> rfl
  obtain ⟨k, hk⟩ := hty
  obtain ⟨-, k0, hk0, cm0, hkk0⟩ := (hC.1.2 k _ hk).1 (am_sh src).2 (fun j => .int (h.2.1 src j))
  obtain ⟨-, k9, hk9, cm9, hkk9⟩ := (hC.1.2 k _ hk).1 (am_sh dst).2 (fun j => .int (h.2.1 dst j))
  have K := fun H1 locs1 (z : am_R G (am_cp h src sp.toNatClampNeg dst dp.toNatClampNeg n.toNatClampNeg) H1) (y : ∀ q ∈ locs1, am_own G q.base) => kk.2 p e R s m args below meth c ls H1 locs1 n0 Q hx hb hml hnm hown hts hC hn0 ⟨k1, k2, k3, k4⟩ hret z y hl
  have hroom : 2 * (F0 m pc ls ((Value.int n :: .int dp :: .ref dst :: .int sp :: .ref src :: st).map (am_v G))).monitorRoom + ((st.map (am_v G)).map fun v => v.category).sum ≤ 8 := lv_room (by rw [am_cat]; exact hst)
  have hnw : nativeFrameWords "java/lang/System" "arraycopy" 5 ≤ 60 := by decide +kernel
  intro T hT X
  have hTs : T.heap[am_r G src]? = some (arrV (am_cA G kd) (am_sh src).2 (fun j => .int (h.2.1 src j))) := by rw [hT]; exact hats
  have hTt : T.heap[am_r G dst]? = some (arrV (am_cA G kd) (am_sh dst).2 (fun j => .int (h.2.1 dst j))) := by rw [hT]; exact hatt
  obtain ⟨vm', X', step⟩ := X.arraycopy hx hown (hts _ hw) (hts _ hw2) (hts _ hw3) (hts _ hw4) (src := am_r G src) (dst := am_r G dst) (srcPos := sp) (destPos := dp) (n := n) hTs hTt
    (fun _ z => by cases z) (fun _ z => by cases z) (fun z => by cases z) (fun z => by cases z) hk0 hk9 hkk0 hkk9 (by simp [hprim]) h1 h2 h3
    (by rw [am_nn sp h1, am_nn n h3, arrV_size]; omega) (by rw [am_nn dp h2, am_nn n h3, arrV_size]; omega)
    (fun vm₁ _ i hi => by
      rw [am_gd (by omega)]
      exact ⟨hfit _ hi, trivial⟩)
    (g := F0 m pc ls ((Value.int n :: .int dp :: .ref dst :: .int sp :: .ref src :: st).map (am_v G))) rfl (by rw [hml]; exact hl.1) (rest := st.map (am_v G)) rfl (by rw [hb]; exact hd) (by omega) (by omega)
  have e1 : copied (arrV (am_cA G kd) (am_sh src).2 (fun j => .int (h.2.1 src j))) (arrV (am_cA G kd) (am_sh dst).2 (fun j => .int (h.2.1 dst j))) sp dp n = arrV (am_cA G kd) (am_sh dst).2 (fun j => .int (va_cpy (h.2.1 src) (h.2.1 dst) sp.toNatClampNeg dp.toNatClampNeg n.toNatClampNeg j)) := va_copied (fun z => .int z) _ _ _ _ h4
  rw [e1] at X' step
  have hlt : am_r G dst < T.heap.size := (Array.getElem?_eq_some_iff.mp hTt).1
  obtain ⟨t, b1, b2⟩ := K _ _ (hR.upd (H1 := ((T.setVm vm').setCell (am_r G dst) (arrV (am_cA G kd) (am_sh dst).2 (fun j => .int (va_cpy (h.2.1 src) (h.2.1 dst) sp.toNatClampNeg dp.toNatClampNeg n.toNatClampNeg j)))).heap) (h1 := am_cp h src sp.toNatClampNeg dst dp.toNatClampNeg n.toNatClampNeg) (a := dst) ht.1 ht.2.1 (by rw [← hT]; exact size_setCell ..) (fun q hq => by rw [← hT]; exact heapAt_setCell_ne _ (Ne.symm hq)) (fun b hb => ⟨am_up_ne _ _ hb, rfl⟩) rfl (by
      rw [am_e_arr ht.2.2 hk8 hk13]
      show _ = some (vp_cell _ _)
      rw [vp_cell_i, show (am_cp h src sp.toNatClampNeg dst dp.toNatClampNeg n.toNatClampNeg).2.1 dst = va_cpy (h.2.1 src) (h.2.1 dst) sp.toNatClampNeg dp.toNatClampNeg n.toNatClampNeg from am_up_same _ _ _]
      exact heapAt_setCell_self _ hlt)) (fun q hq => by
      rcases List.mem_append.mp hq with q1 | q1
      · exact hL q q1
      · obtain ⟨z, -, hz⟩ := List.mem_map.mp q1
        rw [← hz]
        show am_bs G ≤ am_r G dst
        rw [am_r3 ht.1]
        omega) _ rfl X'
  exact ⟨t, step t b1, b2⟩
end AM9
