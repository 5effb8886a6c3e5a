/-! programs of the methods, and the rows that their bytecode answers so: written by wip/gen/gen.py out of the printed decode rows -/
/-! ReportBlocks.tear -/
def rm_X7_tear : Room := { frames := 0, cells := 0, slots := 0, locals := 0 }
theorem hd_X7_tear : jHd yX7_tear 0 := by unfold jHd; decide +kernel
theorem pf_X7_114 {ρ : Type} {l : Launch} {p : Program} {e : Env} {R : Room} {s : State} {m : MethodId} {args : Array Value} {below : List Frame} {meth : Method} {c : Code} {D : va_G} {cs : JC} {b nL : Nat} {H0 : Heap} {Qf : ρ × JM → State → Prop} {M : JM} {ks sl : Nat} {lv : List (Nat × Value)} {pc : Nat} {st : List Value} {cc : ByteArray} {k : Nat} {K : JM → Option (ρ × JM)} (X : jX p c cc nL s m args RX7 D cs b meth H0) {x : Int32} (hdg : decode cc pc = .ok (.putfield 114, 3)) (ho : oty M k 14) (kk : ∀ M2 : JM, gn M ≤ gn M2 → AWO p l e R s m args below meth c D cs b nL H0 Qf (K M2) M2 ks sl lv (pc + 3) st) : AWO p l e R s m args below meth c D cs b nL H0 Qf (sq (si M k 1 x) K) M ks sl lv pc (.int x :: .ref (b + k) :: st) := aw_putI (ci := 4) X 1 rfl gy_X4 tyX4 tyX4_ok nmX4 (by decide) (by decide) rfl rfl wf_X7_114 rfl (Or.inl rfl) hdg ho (kk _ (Nat.le_refl _))
def f_X7_tear (a0 : Nat) (M : JM) : Option (Int32 × JM) := orf (gr M a0 2) fun r1 => sv (gi M r1 1) fun i2 => orf (gr M a0 2) fun r3 => sq (si M r3 1 (0 : Int32)) fun M4 => some (i2, M4)
set_option maxRecDepth 10000 in
set_option maxHeartbeats 4000000 in
theorem t_X7_tear {l : Launch} {D : va_G} {cs : JC} {b : Nat} (a0 : Nat) (M : JM) (h_a0 : oty M a0 17) : ∀ q, f_X7_tear a0 M = some q → CTy l yX7_tear (.code yX7_tear cX7_tear 2 (Option.some Jvm.ClassFile.FieldType.int) :: GB) rm_X7_tear D cs b evI [.ref (b + a0)] M rm_X7_tear.cells rm_X7_tear.slots q := fun q hq => ct_of [(0, .ref (b + a0))] rfl rfl (Nat.le_of_ble_eq_true rfl) hq (fun p e s m args below meth c X hr hin => by
  refine aw_callq (F' := orf (gr M a0 2) fun r1 => sv (gi M r1 1) fun i2 => orf (gr M a0 2) fun r3 => sq (si M r3 1 (0 : Int32)) fun M4 => some (i2, M4)) rfl ?_
  refine aw_aload_n (pc := 0) X 0 dX7_tear_0 rfl ?_
  refine gf_X7_18 (pc := 1) X dX7_tear_1 h_a0 (fun r1 h_r1 => ?_)
  refine gf_X7_114 (pc := 4) X dX7_tear_4 h_r1 ?_
  refine aw_istoreV_n (pc := 7) X (fun y => [(1, .int y), (0, .ref (b + a0))]) dX7_tear_7 (by decide) (fun _ => rfl) (fun i2 => ?_)
  refine aw_aload_n (pc := 8) X 1 dX7_tear_8 rfl ?_
  refine gf_X7_18 (pc := 9) X dX7_tear_9 h_a0 (fun r3 h_r3 => ?_)
  refine aw_iconst (pc := 12) X (0 : Int32) dX7_tear_12 (by decide) ?_
  refine pf_X7_114 (pc := 13) X dX7_tear_13 h_r3 (fun M4 g5 => ?_)
  have h_a0 := h_a0.mono g5
  refine aw_iload_n (pc := 16) X 0 dX7_tear_16 rfl ?_
  exact aw_iret (pc := 17) X hr dX7_tear_17 (Nat.le_of_ble_eq_true rfl) (Nat.le_of_ble_eq_true rfl))
/-! ReportBlocksModel.tear -/
def rm_X8_tear : Room := { frames := 0, cells := 0, slots := 0, locals := 0 }
theorem hd_X8_tear : jHd yX8_tear 0 := by unfold jHd; decide +kernel
def f_X8_tear (a0 : Nat) (M : JM) : Option (Int32 × JM) := sv (gi M a0 8) fun i1 => sq (si M a0 8 (0 : Int32)) fun M2 => some (i1, M2)
set_option maxRecDepth 10000 in
set_option maxHeartbeats 4000000 in
theorem t_X8_tear {l : Launch} {D : va_G} {cs : JC} {b : Nat} (a0 : Nat) (M : JM) (h_a0 : oty M a0 18) : ∀ q, f_X8_tear a0 M = some q → CTy l yX8_tear (.code yX8_tear cX8_tear 2 (Option.some Jvm.ClassFile.FieldType.int) :: GB) rm_X8_tear D cs b evI [.ref (b + a0)] M rm_X8_tear.cells rm_X8_tear.slots q := fun q hq => ct_of [(0, .ref (b + a0))] rfl rfl (Nat.le_of_ble_eq_true rfl) hq (fun p e s m args below meth c X hr hin => by
  refine aw_callq (F' := sv (gi M a0 8) fun i1 => sq (si M a0 8 (0 : Int32)) fun M2 => some (i1, M2)) rfl ?_
  refine aw_aload_n (pc := 0) X 0 dX8_tear_0 rfl ?_
  refine gf_X8_133 (pc := 1) X dX8_tear_1 h_a0 ?_
  refine aw_istoreV_n (pc := 4) X (fun y => [(1, .int y), (0, .ref (b + a0))]) dX8_tear_4 (by decide) (fun _ => rfl) (fun i1 => ?_)
  refine aw_aload_n (pc := 5) X 1 dX8_tear_5 rfl ?_
  refine aw_iconst (pc := 6) X (0 : Int32) dX8_tear_6 (by decide) ?_
  refine pf_X8_133 (pc := 7) X dX8_tear_7 h_a0 (fun M2 g3 => ?_)
  have h_a0 := h_a0.mono g3
  refine aw_iload_n (pc := 10) X 0 dX8_tear_10 rfl ?_
  exact aw_iret (pc := 11) X hr dX8_tear_11 (Nat.le_of_ble_eq_true rfl) (Nat.le_of_ble_eq_true rfl))
/-! ReportBlocks$Block.clear -/
def rm_X0_clear : Room := { frames := 1, cells := 0, slots := 0, locals := 23 }
theorem hd_X0_clear : jHd yX0_clear 0 := by unfold jHd; decide +kernel
theorem pf_X0_28 {ρ : Type} {l : Launch} {p : Program} {e : Env} {R : Room} {s : State} {m : MethodId} {args : Array Value} {below : List Frame} {meth : Method} {c : Code} {D : va_G} {cs : JC} {b nL : Nat} {H0 : Heap} {Qf : ρ × JM → State → Prop} {M : JM} {ks sl : Nat} {lv : List (Nat × Value)} {pc : Nat} {st : List Value} {cc : ByteArray} {k : Nat} {K : JM → Option (ρ × JM)} (X : jX p c cc nL s m args RX0 D cs b meth H0) {x : Int32} (hdg : decode cc pc = .ok (.putfield 28, 3)) (ho : oty M k 10) (kk : ∀ M2 : JM, gn M ≤ gn M2 → AWO p l e R s m args below meth c D cs b nL H0 Qf (K M2) M2 ks sl lv (pc + 3) st) : AWO p l e R s m args below meth c D cs b nL H0 Qf (sq (si M k 1 x) K) M ks sl lv pc (.int x :: .ref (b + k) :: st) := aw_putI (ci := 0) X 1 rfl gy_X0 tyX0 tyX0_ok nmX0 (by decide) (by decide) rfl rfl wf_X0_28 rfl (Or.inl rfl) hdg ho (kk _ (Nat.le_refl _))
theorem gf_X0_25 {ρ : Type} {l : Launch} {p : Program} {e : Env} {R : Room} {s : State} {m : MethodId} {args : Array Value} {below : List Frame} {meth : Method} {c : Code} {D : va_G} {cs : JC} {b nL : Nat} {H0 : Heap} {Qf : ρ × JM → State → Prop} {M : JM} {ks sl : Nat} {lv : List (Nat × Value)} {pc : Nat} {st : List Value} {cc : ByteArray} {k : Nat} (X : jX p c cc nL s m args RX0 D cs b meth H0) {K : Nat → Option (ρ × JM)} (hdg : decode cc pc = .ok (.getfield 25, 3)) (ho : oty M k 10) (kk : ∀ r : Nat, oty M r 1 → AWO p l e R s m args below meth c D cs b nL H0 Qf (K r) M ks sl lv (pc + 3) (.ref (b + r) :: st)) : AWO p l e R s m args below meth c D cs b nL H0 Qf (orf (gr M k 6) K) M ks sl lv pc (.ref (b + k) :: st) := aw_getR (ci := 0) (τ := 1) X 6 rfl gy_X0 (by decide) (by decide) rfl rfl (by decide) wf_X0_25 hdg ho kk
theorem cl_X0_31 {ρ : Type} {l : Launch} {p : Program} {e : Env} {R : Room} {s : State} {m : MethodId} {args : Array Value} {below : List Frame} {meth : Method} {c : Code} {D : va_G} {cs : JC} {b nL : Nat} {H0 : Heap} {Qf : ρ × JM → State → Prop} {M : JM} {ks sl : Nat} {lv : List (Nat × Value)} {pc : Nat} {st : List Value} {cc : ByteArray} (X : jX p c cc nL s m args RX0 D cs b meth H0) {z0 : Nat} {z1 : Int32} {K : JM → Option (ρ × JM)} (hrm : jRm rm_J7_fill_53178 4 R) (hW : (st.map fun v => v.category).sum ≤ 8) {ks2 sl2 : Nat} (hk2 : ks + rm_J7_fill_53178.cells = ks2) (hs2 : sl + rm_J7_fill_53178.slots = sl2) (hroom : ks2 ≤ R.cells ∧ sl2 ≤ R.slots) (hdg : decode cc pc = .ok (.invokestatic 31, 3)) (h0 : oty M z0 1) (kk : ∀ (M2 : JM), gn M ≤ gn M2 → AWO p l e R s m args below meth c D cs b nL H0 Qf (K M2) M2 ks2 sl2 lv (pc + 3) (st)) : AWO p l e R s m args below meth c D cs b nL H0 Qf (ob (f_J7_fill_53178 z0 z1 M) (fun _ => K)) M ks sl lv pc (.int z1 :: .ref (b + z0) :: st) := by
  subst hk2
  subst hs2
  exact aw_callS X [.ref (b + z0), .int z1] st rfl wl_X0_31 wt_J7_fill_53178 wc_J7_fill_53178 wn_J7 (n := 2) hd_J7_fill_53178 rfl hrm hW hroom hdg (t_J7_fill_53178 z0 z1 M h0) (fun _ M2 g _ => kk M2 g)
def f_X0_clear (a0 : Nat) (M : JM) : Option (Unit × JM) := sq (si M a0 1 (0 : Int32)) fun M1 => orf (gr M1 a0 6) fun r3 => ob (f_J7_fill_53178 r3 (0 : Int32) M1) fun _ M4 => some ((), M4)
set_option maxRecDepth 10000 in
set_option maxHeartbeats 4000000 in
theorem t_X0_clear {l : Launch} {D : va_G} {cs : JC} {b : Nat} (a0 : Nat) (M : JM) (h_a0 : oty M a0 10) : ∀ q, f_X0_clear a0 M = some q → CTy l yX0_clear (.code yX0_clear cX0_clear 1 (Option.none) :: GB) rm_X0_clear D cs b evV [.ref (b + a0)] M rm_X0_clear.cells rm_X0_clear.slots q := fun q hq => ct_of [(0, .ref (b + a0))] rfl rfl (Nat.le_of_ble_eq_true rfl) hq (fun p e s m args below meth c X hr hin => by
  refine aw_callq (F' := sq (si M a0 1 (0 : Int32)) fun M1 => orf (gr M1 a0 6) fun r3 => ob (f_J7_fill_53178 r3 (0 : Int32) M1) fun _ M4 => some ((), M4)) rfl ?_
  refine aw_aload_n (pc := 0) X 0 dX0_clear_0 rfl ?_
  refine aw_iconst (pc := 1) X (0 : Int32) dX0_clear_1 (by decide) ?_
  refine pf_X0_28 (pc := 2) X dX0_clear_2 h_a0 (fun M1 g2 => ?_)
  have h_a0 := h_a0.mono g2
  refine aw_aload_n (pc := 5) X 0 dX0_clear_5 rfl ?_
  refine gf_X0_25 (pc := 6) X dX0_clear_6 h_a0 (fun r3 h_r3 => ?_)
  refine aw_iconst (pc := 9) X (0 : Int32) dX0_clear_9 (by decide) ?_
  refine cl_X0_31 (pc := 10) X ⟨Nat.le_of_ble_eq_true rfl, Nat.le_of_ble_eq_true rfl⟩ (Nat.le_of_ble_eq_true rfl) (ks2 := 0) (sl2 := 0) rfl rfl ⟨(Nat.le_of_ble_eq_true rfl), (Nat.le_of_ble_eq_true rfl)⟩ dX0_clear_10 h_r3 (fun M4 g5 => ?_)
  have h_a0 := h_a0.mono g5
  exact aw_vret (pc := 13) X hr dX0_clear_13 (Nat.le_of_ble_eq_true rfl) (Nat.le_of_ble_eq_true rfl))
/-! ReportBlocks$Reader.start -/
def rm_X3_start : Room := { frames := 0, cells := 0, slots := 0, locals := 0 }
theorem hd_X3_start : jHd yX3_start 1 := by unfold jHd; decide +kernel
theorem pf_X3_18 {ρ : Type} {l : Launch} {p : Program} {e : Env} {R : Room} {s : State} {m : MethodId} {args : Array Value} {below : List Frame} {meth : Method} {c : Code} {D : va_G} {cs : JC} {b nL : Nat} {H0 : Heap} {Qf : ρ × JM → State → Prop} {M : JM} {ks sl : Nat} {lv : List (Nat × Value)} {pc : Nat} {st : List Value} {cc : ByteArray} {k : Nat} {K : JM → Option (ρ × JM)} (X : jX p c cc nL s m args RX3 D cs b meth H0) {x : Int32} (hdg : decode cc pc = .ok (.putfield 18, 3)) (ho : oty M k 13) (kk : ∀ M2 : JM, gn M ≤ gn M2 → AWO p l e R s m args below meth c D cs b nL H0 Qf (K M2) M2 ks sl lv (pc + 3) st) : AWO p l e R s m args below meth c D cs b nL H0 Qf (sq (si M k 2 x) K) M ks sl lv pc (.int x :: .ref (b + k) :: st) := aw_putI (ci := 3) X 2 rfl gy_X3 tyX3 tyX3_ok nmX3 (by decide) (by decide) rfl rfl wf_X3_18 rfl (Or.inl rfl) hdg ho (kk _ (Nat.le_refl _))
theorem pf_X3_22 {ρ : Type} {l : Launch} {p : Program} {e : Env} {R : Room} {s : State} {m : MethodId} {args : Array Value} {below : List Frame} {meth : Method} {c : Code} {D : va_G} {cs : JC} {b nL : Nat} {H0 : Heap} {Qf : ρ × JM → State → Prop} {M : JM} {ks sl : Nat} {lv : List (Nat × Value)} {pc : Nat} {st : List Value} {cc : ByteArray} {k : Nat} {K : JM → Option (ρ × JM)} (X : jX p c cc nL s m args RX3 D cs b meth H0) {x : Int32} (hdg : decode cc pc = .ok (.putfield 22, 3)) (ho : oty M k 13) (kk : ∀ M2 : JM, gn M ≤ gn M2 → AWO p l e R s m args below meth c D cs b nL H0 Qf (K M2) M2 ks sl lv (pc + 3) st) : AWO p l e R s m args below meth c D cs b nL H0 Qf (sq (si M k 3 x) K) M ks sl lv pc (.int x :: .ref (b + k) :: st) := aw_putI (ci := 3) X 3 rfl gy_X3 tyX3 tyX3_ok nmX3 (by decide) (by decide) rfl rfl wf_X3_22 rfl (Or.inl rfl) hdg ho (kk _ (Nat.le_refl _))
theorem pf_X3_25 {ρ : Type} {l : Launch} {p : Program} {e : Env} {R : Room} {s : State} {m : MethodId} {args : Array Value} {below : List Frame} {meth : Method} {c : Code} {D : va_G} {cs : JC} {b nL : Nat} {H0 : Heap} {Qf : ρ × JM → State → Prop} {M : JM} {ks sl : Nat} {lv : List (Nat × Value)} {pc : Nat} {st : List Value} {cc : ByteArray} {k : Nat} {K : JM → Option (ρ × JM)} (X : jX p c cc nL s m args RX3 D cs b meth H0) {x : Int32} (hdg : decode cc pc = .ok (.putfield 25, 3)) (ho : oty M k 13) (kk : ∀ M2 : JM, gn M ≤ gn M2 → AWO p l e R s m args below meth c D cs b nL H0 Qf (K M2) M2 ks sl lv (pc + 3) st) : AWO p l e R s m args below meth c D cs b nL H0 Qf (sq (si M k 4 x) K) M ks sl lv pc (.int x :: .ref (b + k) :: st) := aw_putI (ci := 3) X 4 rfl gy_X3 tyX3 tyX3_ok nmX3 (by decide) (by decide) rfl rfl wf_X3_25 rfl (Or.inl rfl) hdg ho (kk _ (Nat.le_refl _))
def f_X3_start (a0 : Nat) (v1 : Int32) (M : JM) : Option (Unit × JM) := sq (si M a0 2 (0 : Int32)) fun M1 => sq (si M1 a0 3 v1) fun M3 => sq (si M3 a0 4 (0 : Int32)) fun M5 => some ((), M5)
set_option maxRecDepth 10000 in
set_option maxHeartbeats 4000000 in
theorem t_X3_start {l : Launch} {D : va_G} {cs : JC} {b : Nat} (a0 : Nat) (v1 : Int32) (M : JM) (h_a0 : oty M a0 13) : ∀ q, f_X3_start a0 v1 M = some q → CTy l yX3_start (.code yX3_start cX3_start 2 (Option.none) :: GB) rm_X3_start D cs b evV [.ref (b + a0), .int v1] M rm_X3_start.cells rm_X3_start.slots q := fun q hq => ct_of [(0, .ref (b + a0)), (1, .int v1)] rfl rfl (Nat.le_of_ble_eq_true rfl) hq (fun p e s m args below meth c X hr hin => by
  refine aw_callq (F' := sq (si M a0 2 (0 : Int32)) fun M1 => sq (si M1 a0 3 v1) fun M3 => sq (si M3 a0 4 (0 : Int32)) fun M5 => some ((), M5)) rfl ?_
  refine aw_aload_n (pc := 0) X 0 dX3_start_0 rfl ?_
  refine aw_iconst (pc := 1) X (0 : Int32) dX3_start_1 (by decide) ?_
  refine pf_X3_18 (pc := 2) X dX3_start_2 h_a0 (fun M1 g2 => ?_)
  have h_a0 := h_a0.mono g2
  refine aw_aload_n (pc := 5) X 0 dX3_start_5 rfl ?_
  refine aw_iload_n (pc := 6) X 1 dX3_start_6 rfl ?_
  refine pf_X3_22 (pc := 7) X dX3_start_7 h_a0 (fun M3 g4 => ?_)
  have h_a0 := h_a0.mono g4
  refine aw_aload_n (pc := 10) X 0 dX3_start_10 rfl ?_
  refine aw_iconst (pc := 11) X (0 : Int32) dX3_start_11 (by decide) ?_
  refine pf_X3_25 (pc := 12) X dX3_start_12 h_a0 (fun M5 g6 => ?_)
  have h_a0 := h_a0.mono g6
  exact aw_vret (pc := 15) X hr dX3_start_15 (Nat.le_of_ble_eq_true rfl) (Nat.le_of_ble_eq_true rfl))
/-! ReportBlocks$Reader.fail -/
def rm_X3_fail : Room := { frames := 0, cells := 0, slots := 0, locals := 0 }
theorem hd_X3_fail : jHd yX3_fail 2 := by unfold jHd; decide +kernel
theorem gf_X3_25 {ρ : Type} {l : Launch} {p : Program} {e : Env} {R : Room} {s : State} {m : MethodId} {args : Array Value} {below : List Frame} {meth : Method} {c : Code} {D : va_G} {cs : JC} {b nL : Nat} {H0 : Heap} {Qf : ρ × JM → State → Prop} {M : JM} {ks sl : Nat} {lv : List (Nat × Value)} {pc : Nat} {st : List Value} {cc : ByteArray} {k : Nat} (X : jX p c cc nL s m args RX3 D cs b meth H0) {F : Option (ρ × JM)} (hdg : decode cc pc = .ok (.getfield 25, 3)) (ho : oty M k 13) (kk : AWO p l e R s m args below meth c D cs b nL H0 Qf F M ks sl lv (pc + 3) (.int (gi M k 4) :: st)) : AWO p l e R s m args below meth c D cs b nL H0 Qf F M ks sl lv pc (.ref (b + k) :: st) := aw_getI (ci := 3) X 4 rfl gy_X3 (by decide) rfl rfl wf_X3_25 hdg ho kk
theorem pf_X3_28 {ρ : Type} {l : Launch} {p : Program} {e : Env} {R : Room} {s : State} {m : MethodId} {args : Array Value} {below : List Frame} {meth : Method} {c : Code} {D : va_G} {cs : JC} {b nL : Nat} {H0 : Heap} {Qf : ρ × JM → State → Prop} {M : JM} {ks sl : Nat} {lv : List (Nat × Value)} {pc : Nat} {st : List Value} {cc : ByteArray} {k : Nat} {K : JM → Option (ρ × JM)} (X : jX p c cc nL s m args RX3 D cs b meth H0) {x : Int32} (hdg : decode cc pc = .ok (.putfield 28, 3)) (ho : oty M k 13) (kk : ∀ M2 : JM, gn M ≤ gn M2 → AWO p l e R s m args below meth c D cs b nL H0 Qf (K M2) M2 ks sl lv (pc + 3) st) : AWO p l e R s m args below meth c D cs b nL H0 Qf (sq (si M k 5 x) K) M ks sl lv pc (.int x :: .ref (b + k) :: st) := aw_putI (ci := 3) X 5 rfl gy_X3 tyX3 tyX3_ok nmX3 (by decide) (by decide) rfl rfl wf_X3_28 rfl (Or.inl rfl) hdg ho (kk _ (Nat.le_refl _))
def f_X3_fail (a0 : Nat) (v1 : Int32) (v2 : Int32) (M : JM) : Option (Unit × JM) := if (gi M a0 4) = 0 then (sq (si M a0 4 v1) fun M1 => sq (si M1 a0 5 v2) fun M3 => some ((), M3)) else (some ((), M))
set_option maxRecDepth 10000 in
set_option maxHeartbeats 4000000 in
theorem t_X3_fail {l : Launch} {D : va_G} {cs : JC} {b : Nat} (a0 : Nat) (v1 : Int32) (v2 : Int32) (M : JM) (h_a0 : oty M a0 13) : ∀ q, f_X3_fail a0 v1 v2 M = some q → CTy l yX3_fail (.code yX3_fail cX3_fail 3 (Option.none) :: GB) rm_X3_fail D cs b evV [.ref (b + a0), .int v1, .int v2] M rm_X3_fail.cells rm_X3_fail.slots q := fun q hq => ct_of [(0, .ref (b + a0)), (1, .int v1), (2, .int v2)] rfl rfl (Nat.le_of_ble_eq_true rfl) hq (fun p e s m args below meth c X hr hin => by
  refine aw_callq (F' := if (gi M a0 4) = 0 then (sq (si M a0 4 v1) fun M1 => sq (si M1 a0 5 v2) fun M3 => some ((), M3)) else (some ((), M))) rfl ?_
  refine aw_aload_n (pc := 0) X 0 dX3_fail_0 rfl ?_
  refine gf_X3_25 (pc := 1) X dX3_fail_1 h_a0 ?_
  refine aw_ifne (pc := 4) X 17 dX3_fail_4 (by decide) ?_ ?_
  · refine aw_aload_n (pc := 7) X 0 dX3_fail_7 rfl ?_
    refine aw_iload_n (pc := 8) X 1 dX3_fail_8 rfl ?_
    refine pf_X3_25 (pc := 9) X dX3_fail_9 h_a0 (fun M1 g2 => ?_)
    have h_a0 := h_a0.mono g2
    refine aw_aload_n (pc := 12) X 0 dX3_fail_12 rfl ?_
    refine aw_iload_n (pc := 13) X 2 dX3_fail_13 rfl ?_
    refine pf_X3_28 (pc := 14) X dX3_fail_14 h_a0 (fun M3 g4 => ?_)
    have h_a0 := h_a0.mono g4
    exact aw_vret (pc := 17) X hr dX3_fail_17 (Nat.le_of_ble_eq_true rfl) (Nat.le_of_ble_eq_true rfl)
  · exact aw_vret (pc := 17) X hr dX3_fail_17 (Nat.le_of_ble_eq_true rfl) (Nat.le_of_ble_eq_true rfl))
/-! ReportBlocks$Reader.hasMore -/
def rm_X3_hasMore : Room := { frames := 0, cells := 0, slots := 0, locals := 0 }
theorem hd_X3_hasMore : jHd yX3_hasMore 0 := by unfold jHd; decide +kernel
theorem gf_X3_18 {ρ : Type} {l : Launch} {p : Program} {e : Env} {R : Room} {s : State} {m : MethodId} {args : Array Value} {below : List Frame} {meth : Method} {c : Code} {D : va_G} {cs : JC} {b nL : Nat} {H0 : Heap} {Qf : ρ × JM → State → Prop} {M : JM} {ks sl : Nat} {lv : List (Nat × Value)} {pc : Nat} {st : List Value} {cc : ByteArray} {k : Nat} (X : jX p c cc nL s m args RX3 D cs b meth H0) {F : Option (ρ × JM)} (hdg : decode cc pc = .ok (.getfield 18, 3)) (ho : oty M k 13) (kk : AWO p l e R s m args below meth c D cs b nL H0 Qf F M ks sl lv (pc + 3) (.int (gi M k 2) :: st)) : AWO p l e R s m args below meth c D cs b nL H0 Qf F M ks sl lv pc (.ref (b + k) :: st) := aw_getI (ci := 3) X 2 rfl gy_X3 (by decide) rfl rfl wf_X3_18 hdg ho kk
theorem gf_X3_22 {ρ : Type} {l : Launch} {p : Program} {e : Env} {R : Room} {s : State} {m : MethodId} {args : Array Value} {below : List Frame} {meth : Method} {c : Code} {D : va_G} {cs : JC} {b nL : Nat} {H0 : Heap} {Qf : ρ × JM → State → Prop} {M : JM} {ks sl : Nat} {lv : List (Nat × Value)} {pc : Nat} {st : List Value} {cc : ByteArray} {k : Nat} (X : jX p c cc nL s m args RX3 D cs b meth H0) {F : Option (ρ × JM)} (hdg : decode cc pc = .ok (.getfield 22, 3)) (ho : oty M k 13) (kk : AWO p l e R s m args below meth c D cs b nL H0 Qf F M ks sl lv (pc + 3) (.int (gi M k 3) :: st)) : AWO p l e R s m args below meth c D cs b nL H0 Qf F M ks sl lv pc (.ref (b + k) :: st) := aw_getI (ci := 3) X 3 rfl gy_X3 (by decide) rfl rfl wf_X3_22 hdg ho kk
def f_X3_hasMore (a0 : Nat) (M : JM) : Option (Bool × JM) := if (gi M a0 4) = 0 then (if (gi M a0 2) < (gi M a0 3) then (some (true, M)) else (some (false, M))) else (some (false, M))
set_option maxRecDepth 10000 in
set_option maxHeartbeats 4000000 in
theorem t_X3_hasMore {l : Launch} {D : va_G} {cs : JC} {b : Nat} (a0 : Nat) (M : JM) (h_a0 : oty M a0 13) : ∀ q, f_X3_hasMore a0 M = some q → CTy l yX3_hasMore (.code yX3_hasMore cX3_hasMore 1 (Option.some Jvm.ClassFile.FieldType.boolean) :: GB) rm_X3_hasMore D cs b evB [.ref (b + a0)] M rm_X3_hasMore.cells rm_X3_hasMore.slots q := fun q hq => ct_of [(0, .ref (b + a0))] rfl rfl (Nat.le_of_ble_eq_true rfl) hq (fun p e s m args below meth c X hr hin => by
  refine aw_callq (F' := if (gi M a0 4) = 0 then (if (gi M a0 2) < (gi M a0 3) then (some (true, M)) else (some (false, M))) else (some (false, M))) rfl ?_
  refine aw_aload_n (pc := 0) X 0 dX3_hasMore_0 rfl ?_
  refine gf_X3_25 (pc := 1) X dX3_hasMore_1 h_a0 ?_
  refine aw_ifne (pc := 4) X 22 dX3_hasMore_4 (by decide) ?_ ?_
  · refine aw_aload_n (pc := 7) X 0 dX3_hasMore_7 rfl ?_
    refine gf_X3_18 (pc := 8) X dX3_hasMore_8 h_a0 ?_
    refine aw_aload_n (pc := 11) X 0 dX3_hasMore_11 rfl ?_
    refine gf_X3_22 (pc := 12) X dX3_hasMore_12 h_a0 ?_
    refine aw_icmpge (pc := 15) X 22 dX3_hasMore_15 (by decide) ?_ ?_
    · refine aw_iconst (pc := 18) X (1 : Int32) dX3_hasMore_18 (by decide) ?_
      refine aw_goto (pc := 19) X 23 dX3_hasMore_19 (by decide) ?_
      exact aw_zret (pc := 23) X hr true rfl dX3_hasMore_23 (Nat.le_of_ble_eq_true rfl) (Nat.le_of_ble_eq_true rfl)
    · refine aw_iconst (pc := 22) X (0 : Int32) dX3_hasMore_22 (by decide) ?_
      exact aw_zret (pc := 23) X hr false rfl dX3_hasMore_23 (Nat.le_of_ble_eq_true rfl) (Nat.le_of_ble_eq_true rfl)
  · refine aw_iconst (pc := 22) X (0 : Int32) dX3_hasMore_22 (by decide) ?_
    exact aw_zret (pc := 23) X hr false rfl dX3_hasMore_23 (Nat.le_of_ble_eq_true rfl) (Nat.le_of_ble_eq_true rfl))
/-! ReportBlocks$Reader.passBits -/
def rm_X3_passBits : Room := { frames := 1, cells := 0, slots := 0, locals := 22 }
theorem hd_X3_passBits : jHd yX3_passBits 1 := by unfold jHd; decide +kernel
theorem gf_X3_15 {ρ : Type} {l : Launch} {p : Program} {e : Env} {R : Room} {s : State} {m : MethodId} {args : Array Value} {below : List Frame} {meth : Method} {c : Code} {D : va_G} {cs : JC} {b nL : Nat} {H0 : Heap} {Qf : ρ × JM → State → Prop} {M : JM} {ks sl : Nat} {lv : List (Nat × Value)} {pc : Nat} {st : List Value} {cc : ByteArray} {k : Nat} (X : jX p c cc nL s m args RX3 D cs b meth H0) {K : Nat → Option (ρ × JM)} (hdg : decode cc pc = .ok (.getfield 15, 3)) (ho : oty M k 13) (kk : ∀ r : Nat, oty M r 1 → AWO p l e R s m args below meth c D cs b nL H0 Qf (K r) M ks sl lv (pc + 3) (.ref (b + r) :: st)) : AWO p l e R s m args below meth c D cs b nL H0 Qf (orf (gr M k 0) K) M ks sl lv pc (.ref (b + k) :: st) := aw_getR (ci := 3) (τ := 1) X 0 rfl gy_X3 (by decide) (by decide) rfl rfl (by decide) wf_X3_15 hdg ho kk
def f_X3_passBits_L96 : Int32 → JM → Option (Int32 × JM) := fun v2 M => some ((v2 * (7 : Int32)), M)
set_option maxRecDepth 10000 in
set_option maxHeartbeats 4000000 in
theorem t_X3_passBits_L96 {p : Program} {l : Launch} {e : Env} {s : State} {m : MethodId} {args : Array Value} {below : List Frame} {meth : Method} {c : Code} {D : va_G} {cs : JC} {b : Nat} (X : jX p c cX3_passBits 5 s m args RX3 D cs b meth s.heap) (hr : meth.sig.returnType = Option.some Jvm.ClassFile.FieldType.int) : ∀ (v2 : Int32) (M : JM), AWO p l e rm_X3_passBits s m args below meth c D cs b 5 s.heap (jE below D cs b evI args s rm_X3_passBits.cells rm_X3_passBits.slots) (f_X3_passBits_L96 v2 M) M 0 0 [(2, .int v2)] 96 [] := by
  intro v2 M
  refine aw_callq (F' := some ((v2 * (7 : Int32)), M)) rfl ?_
  refine aw_iload_n (pc := 96) X 0 dX3_passBits_96 rfl ?_
  refine aw_bipush (pc := 97) X (7 : Int32) dX3_passBits_97 (by decide) ?_
  refine aw_imul (pc := 99) X dX3_passBits_99 ?_
  exact aw_iret (pc := 100) X hr dX3_passBits_100 (Nat.le_of_ble_eq_true rfl) (Nat.le_of_ble_eq_true rfl)
def f_X3_passBits_L81 (k2 : Nat → Int32 → Int32 → JM → Option (Int32 × JM)) : Nat → Int32 → Int32 → Int32 → JM → Option (Int32 × JM) := fun a0 v1 v2 v4 M => sq (si M a0 2 ((gi M a0 2) + (1 : Int32))) fun M5 => if v4 = 0 then (f_X3_passBits_L96 v2 M5) else (sv (v2 + (1 : Int32)) fun i7 => k2 a0 v1 i7 M5)
set_option maxRecDepth 10000 in
set_option maxHeartbeats 4000000 in
theorem t_X3_passBits_L81 {p : Program} {l : Launch} {e : Env} {s : State} {m : MethodId} {args : Array Value} {below : List Frame} {meth : Method} {c : Code} {D : va_G} {cs : JC} {b : Nat} (X : jX p c cX3_passBits 5 s m args RX3 D cs b meth s.heap) (hr : meth.sig.returnType = Option.some Jvm.ClassFile.FieldType.int) (k2 : Nat → Int32 → Int32 → JM → Option (Int32 × JM)) (hk2 : ∀ (a0 : Nat) (v1 : Int32) (v2 : Int32) (M : JM), oty M a0 13 → AWO p l e rm_X3_passBits s m args below meth c D cs b 5 s.heap (jE below D cs b evI args s rm_X3_passBits.cells rm_X3_passBits.slots) (k2 a0 v1 v2 M) M 0 0 [(0, .ref (b + a0)), (1, .int v1), (2, .int v2)] 2 []) : ∀ (a0 : Nat) (v1 : Int32) (v2 : Int32) (v4 : Int32) (M : JM), oty M a0 13 → AWO p l e rm_X3_passBits s m args below meth c D cs b 5 s.heap (jE below D cs b evI args s rm_X3_passBits.cells rm_X3_passBits.slots) (f_X3_passBits_L81 k2 a0 v1 v2 v4 M) M 0 0 [(0, .ref (b + a0)), (1, .int v1), (2, .int v2), (4, .int v4)] 81 [] := by
  intro a0 v1 v2 v4 M h_a0
  refine aw_callq (F' := sq (si M a0 2 ((gi M a0 2) + (1 : Int32))) fun M5 => if v4 = 0 then (f_X3_passBits_L96 v2 M5) else (sv (v2 + (1 : Int32)) fun i7 => k2 a0 v1 i7 M5)) rfl ?_
  refine aw_aload_n (pc := 81) X 0 dX3_passBits_81 rfl ?_
  refine aw_dup_a (pc := 82) X dX3_passBits_82 ?_
  refine gf_X3_18 (pc := 83) X dX3_passBits_83 h_a0 ?_
  refine aw_iconst (pc := 86) X (1 : Int32) dX3_passBits_86 (by decide) ?_
  refine aw_iadd (pc := 87) X dX3_passBits_87 ?_
  refine pf_X3_18 (pc := 88) X dX3_passBits_88 h_a0 (fun M5 g6 => ?_)
  have h_a0 := h_a0.mono g6
  refine aw_iload (pc := 91) X 3 dX3_passBits_91 rfl ?_
  refine aw_ifne (pc := 93) X 101 dX3_passBits_93 (by decide) ?_ ?_
  · refine aw_sub [2] rfl ?_
    exact t_X3_passBits_L96 X hr v2 M5 
  · refine aw_iincV (pc := 101) X (fun y => [(2, .int y), (0, .ref (b + a0)), (1, .int v1), (4, .int v4)]) 2 (v := (v2 + (1 : Int32))) dX3_passBits_101 rfl rfl (by decide) (fun _ => rfl) (fun i7 => ?_)
    refine aw_goto (pc := 104) X 2 dX3_passBits_104 (by decide) ?_
    refine aw_sub [1, 2, 0] rfl ?_
    exact hk2 a0 v1 i7 M5 h_a0
theorem cl_X3_56 {ρ : Type} {l : Launch} {p : Program} {e : Env} {R : Room} {s : State} {m : MethodId} {args : Array Value} {below : List Frame} {meth : Method} {c : Code} {D : va_G} {cs : JC} {b nL : Nat} {H0 : Heap} {Qf : ρ × JM → State → Prop} {M : JM} {ks sl : Nat} {lv : List (Nat × Value)} {pc : Nat} {st : List Value} {cc : ByteArray} (X : jX p c cc nL s m args RX3 D cs b meth H0) {z0 : Nat} {z1 : Int32} {z2 : Int32} {K : JM → Option (ρ × JM)} (hrm : jRm rm_X3_fail 3 R) (hW : (st.map fun v => v.category).sum ≤ 8) {ks2 sl2 : Nat} (hk2 : ks + rm_X3_fail.cells = ks2) (hs2 : sl + rm_X3_fail.slots = sl2) (hroom : ks2 ≤ R.cells ∧ sl2 ≤ R.slots) (hdg : decode cc pc = .ok (.invokevirtual 56, 3)) (h0 : oty M z0 13) (kk : ∀ (M2 : JM), gn M ≤ gn M2 → AWO p l e R s m args below meth c D cs b nL H0 Qf (K M2) M2 ks2 sl2 lv (pc + 3) (st)) : AWO p l e R s m args below meth c D cs b nL H0 Qf (ob (f_X3_fail z0 z1 z2 M) (fun _ => K)) M ks sl lv pc (.int z2 :: .int z1 :: .ref (b + z0) :: st) := by
  subst hk2
  subst hs2
  exact aw_callV (ci := 3) X [.int z1, .int z2] st rfl rfl wl_X3_56 wi_X3_fail wv_X3_fail wc_X3_fail wn_X3 (n := 2) hd_X3_fail rfl hrm hW hroom hdg h0 (t_X3_fail z0 z1 z2 M h0) (fun _ M2 g _ => kk M2 g)
def f_X3_passBits_L70 : Nat → JM → Option (Int32 × JM) := fun a0 M => ob (f_X3_fail a0 (4 : Int32) (gi M a0 2) M) fun _ M8 => some ((0 : Int32), M8)
set_option maxRecDepth 10000 in
set_option maxHeartbeats 4000000 in
theorem t_X3_passBits_L70 {p : Program} {l : Launch} {e : Env} {s : State} {m : MethodId} {args : Array Value} {below : List Frame} {meth : Method} {c : Code} {D : va_G} {cs : JC} {b : Nat} (X : jX p c cX3_passBits 5 s m args RX3 D cs b meth s.heap) (hr : meth.sig.returnType = Option.some Jvm.ClassFile.FieldType.int) : ∀ (a0 : Nat) (M : JM), oty M a0 13 → AWO p l e rm_X3_passBits s m args below meth c D cs b 5 s.heap (jE below D cs b evI args s rm_X3_passBits.cells rm_X3_passBits.slots) (f_X3_passBits_L70 a0 M) M 0 0 [(0, .ref (b + a0))] 70 [] := by
  intro a0 M h_a0
  refine aw_callq (F' := ob (f_X3_fail a0 (4 : Int32) (gi M a0 2) M) fun _ M8 => some ((0 : Int32), M8)) rfl ?_
  refine aw_aload_n (pc := 70) X 0 dX3_passBits_70 rfl ?_
  refine aw_iconst (pc := 71) X (4 : Int32) dX3_passBits_71 (by decide) ?_
  refine aw_aload_n (pc := 72) X 0 dX3_passBits_72 rfl ?_
  refine gf_X3_18 (pc := 73) X dX3_passBits_73 h_a0 ?_
  refine cl_X3_56 (pc := 76) X ⟨Nat.le_of_ble_eq_true rfl, Nat.le_of_ble_eq_true rfl⟩ (Nat.le_of_ble_eq_true rfl) (ks2 := 0) (sl2 := 0) rfl rfl ⟨(Nat.le_of_ble_eq_true rfl), (Nat.le_of_ble_eq_true rfl)⟩ dX3_passBits_76 h_a0 (fun M8 g9 => ?_)
  have h_a0 := h_a0.mono g9
  refine aw_iconst (pc := 79) X (0 : Int32) dX3_passBits_79 (by decide) ?_
  exact aw_iret (pc := 80) X hr dX3_passBits_80 (Nat.le_of_ble_eq_true rfl) (Nat.le_of_ble_eq_true rfl)
def f_X3_passBits_L63 : Nat → JM → Option (Int32 × JM) := fun a0 M => f_X3_passBits_L70 a0 M
set_option maxRecDepth 10000 in
set_option maxHeartbeats 4000000 in
theorem t_X3_passBits_L63 {p : Program} {l : Launch} {e : Env} {s : State} {m : MethodId} {args : Array Value} {below : List Frame} {meth : Method} {c : Code} {D : va_G} {cs : JC} {b : Nat} (X : jX p c cX3_passBits 5 s m args RX3 D cs b meth s.heap) (hr : meth.sig.returnType = Option.some Jvm.ClassFile.FieldType.int) : ∀ (a0 : Nat) (M : JM), oty M a0 13 → AWO p l e rm_X3_passBits s m args below meth c D cs b 5 s.heap (jE below D cs b evI args s rm_X3_passBits.cells rm_X3_passBits.slots) (f_X3_passBits_L63 a0 M) M 0 0 [(0, .ref (b + a0))] 63 [] := by
  intro a0 M h_a0
  refine aw_callq (F' := f_X3_passBits_L70 a0 M) rfl ?_
  refine aw_goto (pc := 63) X 70 dX3_passBits_63 (by decide) ?_
  refine aw_sub [0] rfl ?_
  exact t_X3_passBits_L70 X hr a0 M h_a0
def f_X3_passBits_L51 (k2 : Nat → Int32 → Int32 → JM → Option (Int32 × JM)) : Nat → Int32 → Int32 → Int32 → Int32 → JM → Option (Int32 × JM) := fun a0 v1 v2 v3 u0 M => sv u0 fun i4 => if i4 = 0 then (if v3 = 0 then (f_X3_passBits_L70 a0 M) else (f_X3_passBits_L81 k2 a0 v1 v2 i4 M)) else (if v2 = v1 then (f_X3_passBits_L63 a0 M) else (f_X3_passBits_L81 k2 a0 v1 v2 i4 M))
set_option maxRecDepth 10000 in
set_option maxHeartbeats 4000000 in
theorem t_X3_passBits_L51 {p : Program} {l : Launch} {e : Env} {s : State} {m : MethodId} {args : Array Value} {below : List Frame} {meth : Method} {c : Code} {D : va_G} {cs : JC} {b : Nat} (X : jX p c cX3_passBits 5 s m args RX3 D cs b meth s.heap) (hr : meth.sig.returnType = Option.some Jvm.ClassFile.FieldType.int) (k2 : Nat → Int32 → Int32 → JM → Option (Int32 × JM)) (hk2 : ∀ (a0 : Nat) (v1 : Int32) (v2 : Int32) (M : JM), oty M a0 13 → AWO p l e rm_X3_passBits s m args below meth c D cs b 5 s.heap (jE below D cs b evI args s rm_X3_passBits.cells rm_X3_passBits.slots) (k2 a0 v1 v2 M) M 0 0 [(0, .ref (b + a0)), (1, .int v1), (2, .int v2)] 2 []) : ∀ (a0 : Nat) (v1 : Int32) (v2 : Int32) (v3 : Int32) (u0 : Int32) (M : JM), oty M a0 13 → AWO p l e rm_X3_passBits s m args below meth c D cs b 5 s.heap (jE below D cs b evI args s rm_X3_passBits.cells rm_X3_passBits.slots) (f_X3_passBits_L51 k2 a0 v1 v2 v3 u0 M) M 0 0 [(0, .ref (b + a0)), (1, .int v1), (2, .int v2), (3, .int v3)] 51 [.int u0] := by
  intro a0 v1 v2 v3 u0 M h_a0
  refine aw_callq (F' := sv u0 fun i4 => if i4 = 0 then (if v3 = 0 then (f_X3_passBits_L70 a0 M) else (f_X3_passBits_L81 k2 a0 v1 v2 i4 M)) else (if v2 = v1 then (f_X3_passBits_L63 a0 M) else (f_X3_passBits_L81 k2 a0 v1 v2 i4 M))) rfl ?_
  refine aw_istoreV (pc := 51) X (fun y => [(4, .int y), (0, .ref (b + a0)), (1, .int v1), (2, .int v2), (3, .int v3)]) dX3_passBits_51 (by decide) (fun _ => rfl) (fun i4 => ?_)
  refine aw_iload (pc := 53) X 0 dX3_passBits_53 rfl ?_
  refine aw_ifeq (pc := 55) X 66 dX3_passBits_55 (by decide) ?_ ?_
  · refine aw_iload_n (pc := 66) X 4 dX3_passBits_66 rfl ?_
    refine aw_ifne (pc := 67) X 81 dX3_passBits_67 (by decide) ?_ ?_
    · refine aw_sub [1] rfl ?_
      exact t_X3_passBits_L70 X hr a0 M h_a0
    · refine aw_sub [1, 2, 3, 0] rfl ?_
      exact t_X3_passBits_L81 X hr k2 hk2 a0 v1 v2 i4 M h_a0
  · refine aw_iload_n (pc := 58) X 3 dX3_passBits_58 rfl ?_
    refine aw_iload_n (pc := 59) X 2 dX3_passBits_59 rfl ?_
    refine aw_icmpne (pc := 60) X 81 dX3_passBits_60 (by decide) ?_ ?_
    · refine aw_sub [1] rfl ?_
      exact t_X3_passBits_L63 X hr a0 M h_a0
    · refine aw_sub [1, 2, 3, 0] rfl ?_
      exact t_X3_passBits_L81 X hr k2 hk2 a0 v1 v2 i4 M h_a0
def f_X3_passBits_L18 : Nat → JM → Option (Int32 × JM) := fun a0 M => ob (f_X3_fail a0 (3 : Int32) (gi M a0 3) M) fun _ M10 => some ((0 : Int32), M10)
set_option maxRecDepth 10000 in
set_option maxHeartbeats 4000000 in
theorem t_X3_passBits_L18 {p : Program} {l : Launch} {e : Env} {s : State} {m : MethodId} {args : Array Value} {below : List Frame} {meth : Method} {c : Code} {D : va_G} {cs : JC} {b : Nat} (X : jX p c cX3_passBits 5 s m args RX3 D cs b meth s.heap) (hr : meth.sig.returnType = Option.some Jvm.ClassFile.FieldType.int) : ∀ (a0 : Nat) (M : JM), oty M a0 13 → AWO p l e rm_X3_passBits s m args below meth c D cs b 5 s.heap (jE below D cs b evI args s rm_X3_passBits.cells rm_X3_passBits.slots) (f_X3_passBits_L18 a0 M) M 0 0 [(0, .ref (b + a0))] 18 [] := by
  intro a0 M h_a0
  refine aw_callq (F' := ob (f_X3_fail a0 (3 : Int32) (gi M a0 3) M) fun _ M10 => some ((0 : Int32), M10)) rfl ?_
  refine aw_aload_n (pc := 18) X 0 dX3_passBits_18 rfl ?_
  refine aw_iconst (pc := 19) X (3 : Int32) dX3_passBits_19 (by decide) ?_
  refine aw_aload_n (pc := 20) X 0 dX3_passBits_20 rfl ?_
  refine gf_X3_22 (pc := 21) X dX3_passBits_21 h_a0 ?_
  refine cl_X3_56 (pc := 24) X ⟨Nat.le_of_ble_eq_true rfl, Nat.le_of_ble_eq_true rfl⟩ (Nat.le_of_ble_eq_true rfl) (ks2 := 0) (sl2 := 0) rfl rfl ⟨(Nat.le_of_ble_eq_true rfl), (Nat.le_of_ble_eq_true rfl)⟩ dX3_passBits_24 h_a0 (fun M10 g11 => ?_)
  have h_a0 := h_a0.mono g11
  refine aw_iconst (pc := 27) X (0 : Int32) dX3_passBits_27 (by decide) ?_
  exact aw_iret (pc := 28) X hr dX3_passBits_28 (Nat.le_of_ble_eq_true rfl) (Nat.le_of_ble_eq_true rfl)
def f_X3_passBits_L2 : Nat → Nat → Int32 → Int32 → JM → Option (Int32 × JM)
  | 0, _, _, _, _ => none
  | n + 1, a0, v1, v2, M => if v1 < v2 then (some ((0 : Int32), M)) else (if (gi M a0 2) < (gi M a0 3) then (orf (gr M a0 0) fun r2 => if 0 ≤ (gi M a0 2) ∧ (gi M a0 2) < ln r2 then (sv (gi M r2 (gi M a0 2)) fun i3 => if (i3 &&& (1 : Int32)) = (1 : Int32) then (f_X3_passBits_L51 (f_X3_passBits_L2 n) a0 v1 v2 i3 (1 : Int32) M) else (f_X3_passBits_L51 (f_X3_passBits_L2 n) a0 v1 v2 i3 (0 : Int32) M)) else none) else (f_X3_passBits_L18 a0 M))
set_option maxRecDepth 10000 in
set_option maxHeartbeats 4000000 in
theorem t_X3_passBits_L2 {p : Program} {l : Launch} {e : Env} {s : State} {m : MethodId} {args : Array Value} {below : List Frame} {meth : Method} {c : Code} {D : va_G} {cs : JC} {b : Nat} (X : jX p c cX3_passBits 5 s m args RX3 D cs b meth s.heap) (hr : meth.sig.returnType = Option.some Jvm.ClassFile.FieldType.int) : ∀ (n : Nat) (a0 : Nat) (v1 : Int32) (v2 : Int32) (M : JM), oty M a0 13 → AWO p l e rm_X3_passBits s m args below meth c D cs b 5 s.heap (jE below D cs b evI args s rm_X3_passBits.cells rm_X3_passBits.slots) (f_X3_passBits_L2 n a0 v1 v2 M) M 0 0 [(0, .ref (b + a0)), (1, .int v1), (2, .int v2)] 2 [] := by
  intro n
  induction n with
  | zero => intro a0 v1 v2 M h_a0; exact aw_none
  | succ n ih =>
    intro a0 v1 v2 M h_a0
    refine aw_callq (F' := if v1 < v2 then (some ((0 : Int32), M)) else (if (gi M a0 2) < (gi M a0 3) then (orf (gr M a0 0) fun r2 => if 0 ≤ (gi M a0 2) ∧ (gi M a0 2) < ln r2 then (sv (gi M r2 (gi M a0 2)) fun i3 => if (i3 &&& (1 : Int32)) = (1 : Int32) then (f_X3_passBits_L51 (f_X3_passBits_L2 n) a0 v1 v2 i3 (1 : Int32) M) else (f_X3_passBits_L51 (f_X3_passBits_L2 n) a0 v1 v2 i3 (0 : Int32) M)) else none) else (f_X3_passBits_L18 a0 M))) rfl ?_
    refine aw_iload_n (pc := 2) X 2 dX3_passBits_2 rfl ?_
    refine aw_iload_n (pc := 3) X 1 dX3_passBits_3 rfl ?_
    refine aw_icmpgt (pc := 4) X 107 dX3_passBits_4 (by decide) ?_ ?_
    · refine aw_iconst (pc := 107) X (0 : Int32) dX3_passBits_107 (by decide) ?_
      exact aw_iret (pc := 108) X hr dX3_passBits_108 (Nat.le_of_ble_eq_true rfl) (Nat.le_of_ble_eq_true rfl)
    · refine aw_aload_n (pc := 7) X 0 dX3_passBits_7 rfl ?_
      refine gf_X3_18 (pc := 8) X dX3_passBits_8 h_a0 ?_
      refine aw_aload_n (pc := 11) X 0 dX3_passBits_11 rfl ?_
      refine gf_X3_22 (pc := 12) X dX3_passBits_12 h_a0 ?_
      refine aw_icmplt (pc := 15) X 29 dX3_passBits_15 (by decide) ?_ ?_
      · refine aw_aload_n (pc := 29) X 0 dX3_passBits_29 rfl ?_
        refine gf_X3_15 (pc := 30) X dX3_passBits_30 h_a0 (fun r2 h_r2 => ?_)
        refine aw_aload_n (pc := 33) X 0 dX3_passBits_33 rfl ?_
        refine gf_X3_18 (pc := 34) X dX3_passBits_34 h_a0 ?_
        refine aw_iald (pc := 37) X dX3_passBits_37 h_r2 ?_
        refine aw_istoreV_n (pc := 38) X (fun y => [(3, .int y), (0, .ref (b + a0)), (1, .int v1), (2, .int v2)]) dX3_passBits_38 (by decide) (fun _ => rfl) (fun i3 => ?_)
        refine aw_iload_n (pc := 39) X 0 dX3_passBits_39 rfl ?_
        refine aw_iconst (pc := 40) X (1 : Int32) dX3_passBits_40 (by decide) ?_
        refine aw_iand (pc := 41) X dX3_passBits_41 ?_
        refine aw_iconst (pc := 42) X (1 : Int32) dX3_passBits_42 (by decide) ?_
        refine aw_icmpne (pc := 43) X 50 dX3_passBits_43 (by decide) ?_ ?_
        · refine aw_iconst (pc := 46) X (1 : Int32) dX3_passBits_46 (by decide) ?_
          refine aw_goto (pc := 47) X 51 dX3_passBits_47 (by decide) ?_
          refine aw_sub [1, 2, 3, 0] rfl ?_
          exact t_X3_passBits_L51 X hr (f_X3_passBits_L2 n) ih a0 v1 v2 i3 (1 : Int32) M h_a0
        · refine aw_iconst (pc := 50) X (0 : Int32) dX3_passBits_50 (by decide) ?_
          refine aw_sub [1, 2, 3, 0] rfl ?_
          exact t_X3_passBits_L51 X hr (f_X3_passBits_L2 n) ih a0 v1 v2 i3 (0 : Int32) M h_a0
      · refine aw_sub [0] rfl ?_
        exact t_X3_passBits_L18 X hr a0 M h_a0
def f_X3_passBits (a0 : Nat) (v1 : Int32) (M : JM) : Option (Int32 × JM) := sv (1 : Int32) fun i1 => f_X3_passBits_L2 FU a0 v1 i1 M
set_option maxRecDepth 10000 in
set_option maxHeartbeats 4000000 in
theorem t_X3_passBits {l : Launch} {D : va_G} {cs : JC} {b : Nat} (a0 : Nat) (v1 : Int32) (M : JM) (h_a0 : oty M a0 13) : ∀ q, f_X3_passBits a0 v1 M = some q → CTy l yX3_passBits (.code yX3_passBits cX3_passBits 5 (Option.some Jvm.ClassFile.FieldType.int) :: GB) rm_X3_passBits D cs b evI [.ref (b + a0), .int v1] M rm_X3_passBits.cells rm_X3_passBits.slots q := fun q hq => ct_of [(0, .ref (b + a0)), (1, .int v1)] rfl rfl (Nat.le_of_ble_eq_true rfl) hq (fun p e s m args below meth c X hr hin => by
  refine aw_callq (F' := sv (1 : Int32) fun i1 => f_X3_passBits_L2 FU a0 v1 i1 M) rfl ?_
  refine aw_iconst (pc := 0) X (1 : Int32) dX3_passBits_0 (by decide) ?_
  refine aw_istoreV_n (pc := 1) X (fun y => [(2, .int y), (0, .ref (b + a0)), (1, .int v1)]) dX3_passBits_1 (by decide) (fun _ => rfl) (fun i1 => ?_)
  refine aw_sub [1, 2, 0] rfl ?_
  exact t_X3_passBits_L2 X hr FU a0 v1 i1 M h_a0)
/-! ReportBlocks.isOne -/
def rm_X7_isOne : Room := { frames := 0, cells := 0, slots := 0, locals := 0 }
theorem hd_X7_isOne : jHd yX7_isOne 3 := by unfold jHd; decide +kernel
def f_X7_isOne (a0 : Nat) (v1 : Int32) (v2 : Int32) (M : JM) : Option (Bool × JM) := sv (v1 + (v2 / (7 : Int32))) fun i1 => if i1 < (ln a0) then (if 0 ≤ i1 ∧ i1 < ln a0 then (if (((gi M a0 i1) >>> (((7 : Int32) - (v2 - v2 / (7 : Int32) * (7 : Int32))) &&& 31)) &&& (1 : Int32)) = (1 : Int32) then (some (true, M)) else (some (false, M))) else none) else (some (false, M))
set_option maxRecDepth 10000 in
set_option maxHeartbeats 4000000 in
theorem t_X7_isOne {l : Launch} {D : va_G} {cs : JC} {b : Nat} (a0 : Nat) (v1 : Int32) (v2 : Int32) (M : JM) (h_a0 : oty M a0 1) : ∀ q, f_X7_isOne a0 v1 v2 M = some q → CTy l yX7_isOne (.code yX7_isOne cX7_isOne 4 (Option.some Jvm.ClassFile.FieldType.boolean) :: GB) rm_X7_isOne D cs b evB [.ref (b + a0), .int v1, .int v2] M rm_X7_isOne.cells rm_X7_isOne.slots q := fun q hq => ct_of [(0, .ref (b + a0)), (1, .int v1), (2, .int v2)] rfl rfl (Nat.le_of_ble_eq_true rfl) hq (fun p e s m args below meth c X hr hin => by
  refine aw_callq (F' := sv (v1 + (v2 / (7 : Int32))) fun i1 => if i1 < (ln a0) then (if 0 ≤ i1 ∧ i1 < ln a0 then (if (((gi M a0 i1) >>> (((7 : Int32) - (v2 - v2 / (7 : Int32) * (7 : Int32))) &&& 31)) &&& (1 : Int32)) = (1 : Int32) then (some (true, M)) else (some (false, M))) else none) else (some (false, M))) rfl ?_
  refine aw_iload_n (pc := 0) X 1 dX7_isOne_0 rfl ?_
  refine aw_iload_n (pc := 1) X 2 dX7_isOne_1 rfl ?_
  refine aw_bipush (pc := 2) X (7 : Int32) dX7_isOne_2 (by decide) ?_
  refine aw_idivK (pc := 4) X dX7_isOne_4 (by decide) ?_
  refine aw_iadd (pc := 5) X dX7_isOne_5 ?_
  refine aw_istoreV_n (pc := 6) X (fun y => [(3, .int y), (0, .ref (b + a0)), (1, .int v1), (2, .int v2)]) dX7_isOne_6 (by decide) (fun _ => rfl) (fun i1 => ?_)
  refine aw_iload_n (pc := 7) X 0 dX7_isOne_7 rfl ?_
  refine aw_aload_n (pc := 8) X 1 dX7_isOne_8 rfl ?_
  refine aw_alen (pc := 9) X dX7_isOne_9 h_a0 ?_
  refine aw_icmpge (pc := 10) X 34 dX7_isOne_10 (by decide) ?_ ?_
  · refine aw_aload_n (pc := 13) X 1 dX7_isOne_13 rfl ?_
    refine aw_iload_n (pc := 14) X 0 dX7_isOne_14 rfl ?_
    refine aw_iald (pc := 15) X dX7_isOne_15 h_a0 ?_
    refine aw_bipush (pc := 16) X (7 : Int32) dX7_isOne_16 (by decide) ?_
    refine aw_iload_n (pc := 18) X 3 dX7_isOne_18 rfl ?_
    refine aw_bipush (pc := 19) X (7 : Int32) dX7_isOne_19 (by decide) ?_
    refine aw_iremK (pc := 21) X dX7_isOne_21 (by decide) ?_
    refine aw_isub (pc := 22) X dX7_isOne_22 ?_
    refine aw_ishr (pc := 23) X dX7_isOne_23 ?_
    refine aw_iconst (pc := 24) X (1 : Int32) dX7_isOne_24 (by decide) ?_
    refine aw_iand (pc := 25) X dX7_isOne_25 ?_
    refine aw_iconst (pc := 26) X (1 : Int32) dX7_isOne_26 (by decide) ?_
    refine aw_icmpne (pc := 27) X 34 dX7_isOne_27 (by decide) ?_ ?_
    · refine aw_iconst (pc := 30) X (1 : Int32) dX7_isOne_30 (by decide) ?_
      refine aw_goto (pc := 31) X 35 dX7_isOne_31 (by decide) ?_
      exact aw_zret (pc := 35) X hr true rfl dX7_isOne_35 (Nat.le_of_ble_eq_true rfl) (Nat.le_of_ble_eq_true rfl)
    · refine aw_iconst (pc := 34) X (0 : Int32) dX7_isOne_34 (by decide) ?_
      exact aw_zret (pc := 35) X hr false rfl dX7_isOne_35 (Nat.le_of_ble_eq_true rfl) (Nat.le_of_ble_eq_true rfl)
  · refine aw_iconst (pc := 34) X (0 : Int32) dX7_isOne_34 (by decide) ?_
    exact aw_zret (pc := 35) X hr false rfl dX7_isOne_35 (Nat.le_of_ble_eq_true rfl) (Nat.le_of_ble_eq_true rfl))
/-! ReportBlocks$Reader.lookForPlaces -/
def rm_X3_lookForPlaces : Room := { frames := 1, cells := 0, slots := 0, locals := 23 }
theorem hd_X3_lookForPlaces : jHd yX3_lookForPlaces 2 := by unfold jHd; decide +kernel
theorem cl_X3_44 {ρ : Type} {l : Launch} {p : Program} {e : Env} {R : Room} {s : State} {m : MethodId} {args : Array Value} {below : List Frame} {meth : Method} {c : Code} {D : va_G} {cs : JC} {b nL : Nat} {H0 : Heap} {Qf : ρ × JM → State → Prop} {M : JM} {ks sl : Nat} {lv : List (Nat × Value)} {pc : Nat} {st : List Value} {cc : ByteArray} (X : jX p c cc nL s m args RX3 D cs b meth H0) {z0 : Nat} {z1 : Int32} {z2 : Int32} {K : Bool → JM → Option (ρ × JM)} (hrm : jRm rm_X7_isOne 4 R) (hW : (st.map fun v => v.category).sum ≤ 8) {ks2 sl2 : Nat} (hk2 : ks + rm_X7_isOne.cells = ks2) (hs2 : sl + rm_X7_isOne.slots = sl2) (hroom : ks2 ≤ R.cells ∧ sl2 ≤ R.slots) (hdg : decode cc pc = .ok (.invokestatic 44, 3)) (h0 : oty M z0 1) (kk : ∀ (r : Bool) (M2 : JM), gn M ≤ gn M2 → AWO p l e R s m args below meth c D cs b nL H0 Qf (K r M2) M2 ks2 sl2 lv (pc + 3) (.int (bI r) :: st)) : AWO p l e R s m args below meth c D cs b nL H0 Qf (ob (f_X7_isOne z0 z1 z2 M) K) M ks sl lv pc (.int z2 :: .int z1 :: .ref (b + z0) :: st) := by
  subst hk2
  subst hs2
  exact aw_callSN X "ReportBlocks" [.ref (b + z0), .int z1, .int z2] st rfl (X.2.2.2.2.2.1.2.2.1) wt_X7_isOne wc_X7_isOne wn_X7 (n := 3) hd_X7_isOne rfl hrm hW hroom hdg (t_X7_isOne z0 z1 z2 M h0) (fun r M2 g _ => kk r M2 g)
def f_X3_lookForPlaces_L46 (k2 : Nat → Int32 → Int32 → Int32 → JM → Option (Unit × JM)) : Nat → Int32 → Int32 → Int32 → JM → Option (Unit × JM) := fun a0 v1 v2 v3 M => sv (v3 + (1 : Int32)) fun i6 => k2 a0 v1 v2 i6 M
set_option maxRecDepth 10000 in
set_option maxHeartbeats 4000000 in
theorem t_X3_lookForPlaces_L46 {p : Program} {l : Launch} {e : Env} {s : State} {m : MethodId} {args : Array Value} {below : List Frame} {meth : Method} {c : Code} {D : va_G} {cs : JC} {b : Nat} (X : jX p c cX3_lookForPlaces 4 s m args RX3 D cs b meth s.heap) (hr : meth.sig.returnType = Option.none) (k2 : Nat → Int32 → Int32 → Int32 → JM → Option (Unit × JM)) (hk2 : ∀ (a0 : Nat) (v1 : Int32) (v2 : Int32) (v3 : Int32) (M : JM), oty M a0 13 → AWO p l e rm_X3_lookForPlaces s m args below meth c D cs b 4 s.heap (jE below D cs b evV args s rm_X3_lookForPlaces.cells rm_X3_lookForPlaces.slots) (k2 a0 v1 v2 v3 M) M 0 0 [(0, .ref (b + a0)), (1, .int v1), (2, .int v2), (3, .int v3)] 2 []) : ∀ (a0 : Nat) (v1 : Int32) (v2 : Int32) (v3 : Int32) (M : JM), oty M a0 13 → AWO p l e rm_X3_lookForPlaces s m args below meth c D cs b 4 s.heap (jE below D cs b evV args s rm_X3_lookForPlaces.cells rm_X3_lookForPlaces.slots) (f_X3_lookForPlaces_L46 k2 a0 v1 v2 v3 M) M 0 0 [(0, .ref (b + a0)), (1, .int v1), (2, .int v2), (3, .int v3)] 46 [] := by
  intro a0 v1 v2 v3 M h_a0
  refine aw_callq (F' := sv (v3 + (1 : Int32)) fun i6 => k2 a0 v1 v2 i6 M) rfl ?_
  refine aw_iincV (pc := 46) X (fun y => [(3, .int y), (0, .ref (b + a0)), (1, .int v1), (2, .int v2)]) 3 (v := (v3 + (1 : Int32))) dX3_lookForPlaces_46 rfl rfl (by decide) (fun _ => rfl) (fun i6 => ?_)
  refine aw_goto (pc := 49) X 2 dX3_lookForPlaces_49 (by decide) ?_
  refine aw_sub [1, 2, 3, 0] rfl ?_
  exact hk2 a0 v1 v2 i6 M h_a0
theorem gf_X3_59 {ρ : Type} {l : Launch} {p : Program} {e : Env} {R : Room} {s : State} {m : MethodId} {args : Array Value} {below : List Frame} {meth : Method} {c : Code} {D : va_G} {cs : JC} {b nL : Nat} {H0 : Heap} {Qf : ρ × JM → State → Prop} {M : JM} {ks sl : Nat} {lv : List (Nat × Value)} {pc : Nat} {st : List Value} {cc : ByteArray} {k : Nat} (X : jX p c cc nL s m args RX3 D cs b meth H0) {K : Nat → Option (ρ × JM)} (hdg : decode cc pc = .ok (.getfield 59, 3)) (ho : oty M k 13) (kk : ∀ r : Nat, oty M r 11 → AWO p l e R s m args below meth c D cs b nL H0 Qf (K r) M ks sl lv (pc + 3) (.ref (b + r) :: st)) : AWO p l e R s m args below meth c D cs b nL H0 Qf (orf (gr M k 1) K) M ks sl lv pc (.ref (b + k) :: st) := aw_getR (ci := 3) (τ := 11) X 1 rfl gy_X3 (by decide) (by decide) rfl rfl (by decide) wf_X3_59 hdg ho kk
theorem gf_X3_63 {ρ : Type} {l : Launch} {p : Program} {e : Env} {R : Room} {s : State} {m : MethodId} {args : Array Value} {below : List Frame} {meth : Method} {c : Code} {D : va_G} {cs : JC} {b nL : Nat} {H0 : Heap} {Qf : ρ × JM → State → Prop} {M : JM} {ks sl : Nat} {lv : List (Nat × Value)} {pc : Nat} {st : List Value} {cc : ByteArray} {k : Nat} (X : jX p c cc nL s m args RX3 D cs b meth H0) {K : Nat → Option (ρ × JM)} (hdg : decode cc pc = .ok (.getfield 63, 3)) (ho : oty M k 11) (kk : ∀ r : Nat, oty M r 1 → AWO p l e R s m args below meth c D cs b nL H0 Qf (K r) M ks sl lv (pc + 3) (.ref (b + r) :: st)) : AWO p l e R s m args below meth c D cs b nL H0 Qf (orf (gr M k 1) K) M ks sl lv pc (.ref (b + k) :: st) := aw_getR (ci := 1) (τ := 1) X 1 rfl gy_X1 (by decide) (by decide) rfl rfl (by decide) wf_X3_63 hdg ho kk
def f_X3_lookForPlaces_L2 : Nat → Nat → Int32 → Int32 → Int32 → JM → Option (Unit × JM)
  | 0, _, _, _, _, _ => none
  | n + 1, a0, v1, v2, v3, M => if v3 < v2 then (orf (gr M a0 0) fun r2 => ob (f_X7_isOne r2 v1 v3 M) fun r5 M3 => if r5 = true then (orf (gr M3 a0 1) fun r7 => orf (gr M3 r7 1) fun r8 => if 0 ≤ (v3 + (1 : Int32)) ∧ (v3 + (1 : Int32)) < ln r8 then (if (gi M3 r8 (v3 + (1 : Int32))) = (-9 : Int32) then (ob (f_X3_fail a0 (5 : Int32) (v1 + (v3 / (7 : Int32))) M3) fun _ M9 => f_X3_lookForPlaces_L46 (f_X3_lookForPlaces_L2 n) a0 v1 v2 v3 M9) else (f_X3_lookForPlaces_L46 (f_X3_lookForPlaces_L2 n) a0 v1 v2 v3 M3)) else none) else (f_X3_lookForPlaces_L46 (f_X3_lookForPlaces_L2 n) a0 v1 v2 v3 M3)) else (some ((), M))
set_option maxRecDepth 10000 in
set_option maxHeartbeats 4000000 in
theorem t_X3_lookForPlaces_L2 {p : Program} {l : Launch} {e : Env} {s : State} {m : MethodId} {args : Array Value} {below : List Frame} {meth : Method} {c : Code} {D : va_G} {cs : JC} {b : Nat} (X : jX p c cX3_lookForPlaces 4 s m args RX3 D cs b meth s.heap) (hr : meth.sig.returnType = Option.none) : ∀ (n : Nat) (a0 : Nat) (v1 : Int32) (v2 : Int32) (v3 : Int32) (M : JM), oty M a0 13 → AWO p l e rm_X3_lookForPlaces s m args below meth c D cs b 4 s.heap (jE below D cs b evV args s rm_X3_lookForPlaces.cells rm_X3_lookForPlaces.slots) (f_X3_lookForPlaces_L2 n a0 v1 v2 v3 M) M 0 0 [(0, .ref (b + a0)), (1, .int v1), (2, .int v2), (3, .int v3)] 2 [] := by
  intro n
  induction n with
  | zero => intro a0 v1 v2 v3 M h_a0; exact aw_none
  | succ n ih =>
    intro a0 v1 v2 v3 M h_a0
    refine aw_callq (F' := if v3 < v2 then (orf (gr M a0 0) fun r2 => ob (f_X7_isOne r2 v1 v3 M) fun r5 M3 => if r5 = true then (orf (gr M3 a0 1) fun r7 => orf (gr M3 r7 1) fun r8 => if 0 ≤ (v3 + (1 : Int32)) ∧ (v3 + (1 : Int32)) < ln r8 then (if (gi M3 r8 (v3 + (1 : Int32))) = (-9 : Int32) then (ob (f_X3_fail a0 (5 : Int32) (v1 + (v3 / (7 : Int32))) M3) fun _ M9 => f_X3_lookForPlaces_L46 (f_X3_lookForPlaces_L2 n) a0 v1 v2 v3 M9) else (f_X3_lookForPlaces_L46 (f_X3_lookForPlaces_L2 n) a0 v1 v2 v3 M3)) else none) else (f_X3_lookForPlaces_L46 (f_X3_lookForPlaces_L2 n) a0 v1 v2 v3 M3)) else (some ((), M))) rfl ?_
    refine aw_iload_n (pc := 2) X 3 dX3_lookForPlaces_2 rfl ?_
    refine aw_iload_n (pc := 3) X 2 dX3_lookForPlaces_3 rfl ?_
    refine aw_icmpge (pc := 4) X 52 dX3_lookForPlaces_4 (by decide) ?_ ?_
    · refine aw_aload_n (pc := 7) X 0 dX3_lookForPlaces_7 rfl ?_
      refine gf_X3_15 (pc := 8) X dX3_lookForPlaces_8 h_a0 (fun r2 h_r2 => ?_)
      refine aw_iload_n (pc := 11) X 1 dX3_lookForPlaces_11 rfl ?_
      refine aw_iload_n (pc := 12) X 3 dX3_lookForPlaces_12 rfl ?_
      refine cl_X3_44 (pc := 13) X ⟨Nat.le_of_ble_eq_true rfl, Nat.le_of_ble_eq_true rfl⟩ (Nat.le_of_ble_eq_true rfl) (ks2 := 0) (sl2 := 0) rfl rfl ⟨(Nat.le_of_ble_eq_true rfl), (Nat.le_of_ble_eq_true rfl)⟩ dX3_lookForPlaces_13 h_r2 (fun r5 M3 g4 => ?_)
      have h_a0 := h_a0.mono g4
      refine aw_ifeqB (pc := 16) X 46 dX3_lookForPlaces_16 (by decide) ?_ ?_
      · refine aw_aload_n (pc := 19) X 0 dX3_lookForPlaces_19 rfl ?_
        refine gf_X3_59 (pc := 20) X dX3_lookForPlaces_20 h_a0 (fun r7 h_r7 => ?_)
        refine gf_X3_63 (pc := 23) X dX3_lookForPlaces_23 h_r7 (fun r8 h_r8 => ?_)
        refine aw_iload_n (pc := 26) X 3 dX3_lookForPlaces_26 rfl ?_
        refine aw_iconst (pc := 27) X (1 : Int32) dX3_lookForPlaces_27 (by decide) ?_
        refine aw_iadd (pc := 28) X dX3_lookForPlaces_28 ?_
        refine aw_iald (pc := 29) X dX3_lookForPlaces_29 h_r8 ?_
        refine aw_bipush (pc := 30) X (-9 : Int32) dX3_lookForPlaces_30 (by decide) ?_
        refine aw_icmpne (pc := 32) X 46 dX3_lookForPlaces_32 (by decide) ?_ ?_
        · refine aw_aload_n (pc := 35) X 0 dX3_lookForPlaces_35 rfl ?_
          refine aw_iconst (pc := 36) X (5 : Int32) dX3_lookForPlaces_36 (by decide) ?_
          refine aw_iload_n (pc := 37) X 1 dX3_lookForPlaces_37 rfl ?_
          refine aw_iload_n (pc := 38) X 3 dX3_lookForPlaces_38 rfl ?_
          refine aw_bipush (pc := 39) X (7 : Int32) dX3_lookForPlaces_39 (by decide) ?_
          refine aw_idivK (pc := 41) X dX3_lookForPlaces_41 (by decide) ?_
          refine aw_iadd (pc := 42) X dX3_lookForPlaces_42 ?_
          refine cl_X3_56 (pc := 43) X ⟨Nat.le_of_ble_eq_true rfl, Nat.le_of_ble_eq_true rfl⟩ (Nat.le_of_ble_eq_true rfl) (ks2 := 0) (sl2 := 0) rfl rfl ⟨(Nat.le_of_ble_eq_true rfl), (Nat.le_of_ble_eq_true rfl)⟩ dX3_lookForPlaces_43 h_a0 (fun M9 g10 => ?_)
          have h_a0 := h_a0.mono g10
          refine aw_sub [0, 1, 2, 3] rfl ?_
          exact t_X3_lookForPlaces_L46 X hr (f_X3_lookForPlaces_L2 n) ih a0 v1 v2 v3 M9 h_a0
        · refine aw_sub [0, 1, 2, 3] rfl ?_
          exact t_X3_lookForPlaces_L46 X hr (f_X3_lookForPlaces_L2 n) ih a0 v1 v2 v3 M3 h_a0
      · refine aw_sub [0, 1, 2, 3] rfl ?_
        exact t_X3_lookForPlaces_L46 X hr (f_X3_lookForPlaces_L2 n) ih a0 v1 v2 v3 M3 h_a0
    · exact aw_vret (pc := 52) X hr dX3_lookForPlaces_52 (Nat.le_of_ble_eq_true rfl) (Nat.le_of_ble_eq_true rfl)
def f_X3_lookForPlaces (a0 : Nat) (v1 : Int32) (v2 : Int32) (M : JM) : Option (Unit × JM) := sv (0 : Int32) fun i1 => f_X3_lookForPlaces_L2 FU a0 v1 v2 i1 M
set_option maxRecDepth 10000 in
set_option maxHeartbeats 4000000 in
theorem t_X3_lookForPlaces {l : Launch} {D : va_G} {cs : JC} {b : Nat} (a0 : Nat) (v1 : Int32) (v2 : Int32) (M : JM) (h_a0 : oty M a0 13) : ∀ q, f_X3_lookForPlaces a0 v1 v2 M = some q → CTy l yX3_lookForPlaces (.code yX3_lookForPlaces cX3_lookForPlaces 4 (Option.none) :: GB) rm_X3_lookForPlaces D cs b evV [.ref (b + a0), .int v1, .int v2] M rm_X3_lookForPlaces.cells rm_X3_lookForPlaces.slots q := fun q hq => ct_of [(0, .ref (b + a0)), (1, .int v1), (2, .int v2)] rfl rfl (Nat.le_of_ble_eq_true rfl) hq (fun p e s m args below meth c X hr hin => by
  refine aw_callq (F' := sv (0 : Int32) fun i1 => f_X3_lookForPlaces_L2 FU a0 v1 v2 i1 M) rfl ?_
  refine aw_iconst (pc := 0) X (0 : Int32) dX3_lookForPlaces_0 (by decide) ?_
  refine aw_istoreV_n (pc := 1) X (fun y => [(3, .int y), (0, .ref (b + a0)), (1, .int v1), (2, .int v2)]) dX3_lookForPlaces_1 (by decide) (fun _ => rfl) (fun i1 => ?_)
  refine aw_sub [1, 2, 3, 0] rfl ?_
  exact t_X3_lookForPlaces_L2 X hr FU a0 v1 v2 i1 M h_a0)
/-! ReportBlocks$Block.startRecord -/
def rm_X0_startRecord : Room := { frames := 0, cells := 0, slots := 0, locals := 0 }
theorem hd_X0_startRecord : jHd yX0_startRecord 1 := by unfold jHd; decide +kernel
theorem gf_X0_19 {ρ : Type} {l : Launch} {p : Program} {e : Env} {R : Room} {s : State} {m : MethodId} {args : Array Value} {below : List Frame} {meth : Method} {c : Code} {D : va_G} {cs : JC} {b nL : Nat} {H0 : Heap} {Qf : ρ × JM → State → Prop} {M : JM} {ks sl : Nat} {lv : List (Nat × Value)} {pc : Nat} {st : List Value} {cc : ByteArray} {k : Nat} (X : jX p c cc nL s m args RX0 D cs b meth H0) {K : Nat → Option (ρ × JM)} (hdg : decode cc pc = .ok (.getfield 19, 3)) (ho : oty M k 10) (kk : ∀ r : Nat, oty M r 1 → AWO p l e R s m args below meth c D cs b nL H0 Qf (K r) M ks sl lv (pc + 3) (.ref (b + r) :: st)) : AWO p l e R s m args below meth c D cs b nL H0 Qf (orf (gr M k 4) K) M ks sl lv pc (.ref (b + k) :: st) := aw_getR (ci := 0) (τ := 1) X 4 rfl gy_X0 (by decide) (by decide) rfl rfl (by decide) wf_X0_19 hdg ho kk
theorem gf_X0_28 {ρ : Type} {l : Launch} {p : Program} {e : Env} {R : Room} {s : State} {m : MethodId} {args : Array Value} {below : List Frame} {meth : Method} {c : Code} {D : va_G} {cs : JC} {b nL : Nat} {H0 : Heap} {Qf : ρ × JM → State → Prop} {M : JM} {ks sl : Nat} {lv : List (Nat × Value)} {pc : Nat} {st : List Value} {cc : ByteArray} {k : Nat} (X : jX p c cc nL s m args RX0 D cs b meth H0) {F : Option (ρ × JM)} (hdg : decode cc pc = .ok (.getfield 28, 3)) (ho : oty M k 10) (kk : AWO p l e R s m args below meth c D cs b nL H0 Qf F M ks sl lv (pc + 3) (.int (gi M k 1) :: st)) : AWO p l e R s m args below meth c D cs b nL H0 Qf F M ks sl lv pc (.ref (b + k) :: st) := aw_getI (ci := 0) X 1 rfl gy_X0 (by decide) rfl rfl wf_X0_28 hdg ho kk
def f_X0_startRecord (a0 : Nat) (v1 : Int32) (M : JM) : Option (Int32 × JM) := orf (gr M a0 4) fun r1 => if 0 ≤ (gi M a0 1) ∧ (gi M a0 1) < ln r1 then (sq (si M r1 (gi M a0 1) v1) fun M2 => sq (si M2 a0 1 ((gi M2 a0 1) + (1 : Int32))) fun M4 => some (((gi M4 a0 1) - (1 : Int32)), M4)) else none
set_option maxRecDepth 10000 in
set_option maxHeartbeats 4000000 in
theorem t_X0_startRecord {l : Launch} {D : va_G} {cs : JC} {b : Nat} (a0 : Nat) (v1 : Int32) (M : JM) (h_a0 : oty M a0 10) : ∀ q, f_X0_startRecord a0 v1 M = some q → CTy l yX0_startRecord (.code yX0_startRecord cX0_startRecord 2 (Option.some Jvm.ClassFile.FieldType.int) :: GB) rm_X0_startRecord D cs b evI [.ref (b + a0), .int v1] M rm_X0_startRecord.cells rm_X0_startRecord.slots q := fun q hq => ct_of [(0, .ref (b + a0)), (1, .int v1)] rfl rfl (Nat.le_of_ble_eq_true rfl) hq (fun p e s m args below meth c X hr hin => by
  refine aw_callq (F' := orf (gr M a0 4) fun r1 => if 0 ≤ (gi M a0 1) ∧ (gi M a0 1) < ln r1 then (sq (si M r1 (gi M a0 1) v1) fun M2 => sq (si M2 a0 1 ((gi M2 a0 1) + (1 : Int32))) fun M4 => some (((gi M4 a0 1) - (1 : Int32)), M4)) else none) rfl ?_
  refine aw_aload_n (pc := 0) X 0 dX0_startRecord_0 rfl ?_
  refine gf_X0_19 (pc := 1) X dX0_startRecord_1 h_a0 (fun r1 h_r1 => ?_)
  refine aw_aload_n (pc := 4) X 0 dX0_startRecord_4 rfl ?_
  refine gf_X0_28 (pc := 5) X dX0_startRecord_5 h_a0 ?_
  refine aw_iload_n (pc := 8) X 1 dX0_startRecord_8 rfl ?_
  refine aw_iastQ (pc := 9) X dX0_startRecord_9 h_r1 (fun M2 g3 => ?_)
  have h_a0 := h_a0.mono g3
  refine aw_aload_n (pc := 10) X 0 dX0_startRecord_10 rfl ?_
  refine aw_dup_a (pc := 11) X dX0_startRecord_11 ?_
  refine gf_X0_28 (pc := 12) X dX0_startRecord_12 h_a0 ?_
  refine aw_iconst (pc := 15) X (1 : Int32) dX0_startRecord_15 (by decide) ?_
  refine aw_iadd (pc := 16) X dX0_startRecord_16 ?_
  refine pf_X0_28 (pc := 17) X dX0_startRecord_17 h_a0 (fun M4 g5 => ?_)
  have h_a0 := h_a0.mono g5
  refine aw_aload_n (pc := 20) X 0 dX0_startRecord_20 rfl ?_
  refine gf_X0_28 (pc := 21) X dX0_startRecord_21 h_a0 ?_
  refine aw_iconst (pc := 24) X (1 : Int32) dX0_startRecord_24 (by decide) ?_
  refine aw_isub (pc := 25) X dX0_startRecord_25 ?_
  exact aw_iret (pc := 26) X hr dX0_startRecord_26 (Nat.le_of_ble_eq_true rfl) (Nat.le_of_ble_eq_true rfl))
/-! ReportBlocks$Reader.pass -/
def rm_X3_pass : Room := { frames := 1, cells := 0, slots := 0, locals := 22 }
theorem hd_X3_pass : jHd yX3_pass 1 := by unfold jHd; decide +kernel
def f_X3_pass (a0 : Nat) (v1 : Int32) (M : JM) : Option (Unit × JM) := if ((gi M a0 3) - (gi M a0 2)) < v1 then (ob (f_X3_fail a0 (3 : Int32) (gi M a0 3) M) fun _ M3 => some ((), M3)) else (sq (si M a0 2 ((gi M a0 2) + v1)) fun M1 => some ((), M1))
set_option maxRecDepth 10000 in
set_option maxHeartbeats 4000000 in
theorem t_X3_pass {l : Launch} {D : va_G} {cs : JC} {b : Nat} (a0 : Nat) (v1 : Int32) (M : JM) (h_a0 : oty M a0 13) : ∀ q, f_X3_pass a0 v1 M = some q → CTy l yX3_pass (.code yX3_pass cX3_pass 2 (Option.none) :: GB) rm_X3_pass D cs b evV [.ref (b + a0), .int v1] M rm_X3_pass.cells rm_X3_pass.slots q := fun q hq => ct_of [(0, .ref (b + a0)), (1, .int v1)] rfl rfl (Nat.le_of_ble_eq_true rfl) hq (fun p e s m args below meth c X hr hin => by
  refine aw_callq (F' := if ((gi M a0 3) - (gi M a0 2)) < v1 then (ob (f_X3_fail a0 (3 : Int32) (gi M a0 3) M) fun _ M3 => some ((), M3)) else (sq (si M a0 2 ((gi M a0 2) + v1)) fun M1 => some ((), M1))) rfl ?_
  refine aw_iload_n (pc := 0) X 1 dX3_pass_0 rfl ?_
  refine aw_aload_n (pc := 1) X 0 dX3_pass_1 rfl ?_
  refine gf_X3_22 (pc := 2) X dX3_pass_2 h_a0 ?_
  refine aw_aload_n (pc := 5) X 0 dX3_pass_5 rfl ?_
  refine gf_X3_18 (pc := 6) X dX3_pass_6 h_a0 ?_
  refine aw_isub (pc := 9) X dX3_pass_9 ?_
  refine aw_icmple (pc := 10) X 25 dX3_pass_10 (by decide) ?_ ?_
  · refine aw_aload_n (pc := 13) X 0 dX3_pass_13 rfl ?_
    refine aw_iconst (pc := 14) X (3 : Int32) dX3_pass_14 (by decide) ?_
    refine aw_aload_n (pc := 15) X 0 dX3_pass_15 rfl ?_
    refine gf_X3_22 (pc := 16) X dX3_pass_16 h_a0 ?_
    refine cl_X3_56 (pc := 19) X ⟨Nat.le_of_ble_eq_true rfl, Nat.le_of_ble_eq_true rfl⟩ (Nat.le_of_ble_eq_true rfl) (ks2 := 0) (sl2 := 0) rfl rfl ⟨(Nat.le_of_ble_eq_true rfl), (Nat.le_of_ble_eq_true rfl)⟩ dX3_pass_19 h_a0 (fun M3 g4 => ?_)
    have h_a0 := h_a0.mono g4
    refine aw_goto (pc := 22) X 35 dX3_pass_22 (by decide) ?_
    exact aw_vret (pc := 35) X hr dX3_pass_35 (Nat.le_of_ble_eq_true rfl) (Nat.le_of_ble_eq_true rfl)
  · refine aw_aload_n (pc := 25) X 0 dX3_pass_25 rfl ?_
    refine aw_dup_a (pc := 26) X dX3_pass_26 ?_
    refine gf_X3_18 (pc := 27) X dX3_pass_27 h_a0 ?_
    refine aw_iload_n (pc := 30) X 1 dX3_pass_30 rfl ?_
    refine aw_iadd (pc := 31) X dX3_pass_31 ?_
    refine pf_X3_18 (pc := 32) X dX3_pass_32 h_a0 (fun M1 g2 => ?_)
    have h_a0 := h_a0.mono g2
    exact aw_vret (pc := 35) X hr dX3_pass_35 (Nat.le_of_ble_eq_true rfl) (Nat.le_of_ble_eq_true rfl))
/-! ReportBlocks$Reader.passGoing -/
def rm_X3_passGoing : Room := { frames := 1, cells := 0, slots := 0, locals := 22 }
theorem hd_X3_passGoing : jHd yX3_passGoing 0 := by unfold jHd; decide +kernel
def f_X3_passGoing_L70 (k2 : Nat → Int32 → JM → Option (Unit × JM)) : Nat → Int32 → Int32 → JM → Option (Unit × JM) := fun a0 v1 v2 M => sq (si M a0 2 ((gi M a0 2) + (1 : Int32))) fun M4 => if v2 = 0 then (some ((), M4)) else (sv (v1 + (1 : Int32)) fun i6 => k2 a0 i6 M4)
set_option maxRecDepth 10000 in
set_option maxHeartbeats 4000000 in
theorem t_X3_passGoing_L70 {p : Program} {l : Launch} {e : Env} {s : State} {m : MethodId} {args : Array Value} {below : List Frame} {meth : Method} {c : Code} {D : va_G} {cs : JC} {b : Nat} (X : jX p c cX3_passGoing 3 s m args RX3 D cs b meth s.heap) (hr : meth.sig.returnType = Option.none) (k2 : Nat → Int32 → JM → Option (Unit × JM)) (hk2 : ∀ (a0 : Nat) (v1 : Int32) (M : JM), oty M a0 13 → AWO p l e rm_X3_passGoing s m args below meth c D cs b 3 s.heap (jE below D cs b evV args s rm_X3_passGoing.cells rm_X3_passGoing.slots) (k2 a0 v1 M) M 0 0 [(0, .ref (b + a0)), (1, .int v1)] 2 []) : ∀ (a0 : Nat) (v1 : Int32) (v2 : Int32) (M : JM), oty M a0 13 → AWO p l e rm_X3_passGoing s m args below meth c D cs b 3 s.heap (jE below D cs b evV args s rm_X3_passGoing.cells rm_X3_passGoing.slots) (f_X3_passGoing_L70 k2 a0 v1 v2 M) M 0 0 [(0, .ref (b + a0)), (1, .int v1), (2, .int v2)] 70 [] := by
  intro a0 v1 v2 M h_a0
  refine aw_callq (F' := sq (si M a0 2 ((gi M a0 2) + (1 : Int32))) fun M4 => if v2 = 0 then (some ((), M4)) else (sv (v1 + (1 : Int32)) fun i6 => k2 a0 i6 M4)) rfl ?_
  refine aw_aload_n (pc := 70) X 0 dX3_passGoing_70 rfl ?_
  refine aw_dup_a (pc := 71) X dX3_passGoing_71 ?_
  refine gf_X3_18 (pc := 72) X dX3_passGoing_72 h_a0 ?_
  refine aw_iconst (pc := 75) X (1 : Int32) dX3_passGoing_75 (by decide) ?_
  refine aw_iadd (pc := 76) X dX3_passGoing_76 ?_
  refine pf_X3_18 (pc := 77) X dX3_passGoing_77 h_a0 (fun M4 g5 => ?_)
  have h_a0 := h_a0.mono g5
  refine aw_iload_n (pc := 80) X 2 dX3_passGoing_80 rfl ?_
  refine aw_ifne (pc := 81) X 85 dX3_passGoing_81 (by decide) ?_ ?_
  · exact aw_vret (pc := 84) X hr dX3_passGoing_84 (Nat.le_of_ble_eq_true rfl) (Nat.le_of_ble_eq_true rfl)
  · refine aw_iincV (pc := 85) X (fun y => [(1, .int y), (0, .ref (b + a0)), (2, .int v2)]) 1 (v := (v1 + (1 : Int32))) dX3_passGoing_85 rfl rfl (by decide) (fun _ => rfl) (fun i6 => ?_)
    refine aw_goto (pc := 88) X 2 dX3_passGoing_88 (by decide) ?_
    refine aw_sub [1, 0] rfl ?_
    exact hk2 a0 i6 M4 h_a0
def f_X3_passGoing_L59 : Nat → JM → Option (Unit × JM) := fun a0 M => ob (f_X3_fail a0 (7 : Int32) (gi M a0 2) M) fun _ M7 => some ((), M7)
set_option maxRecDepth 10000 in
set_option maxHeartbeats 4000000 in
theorem t_X3_passGoing_L59 {p : Program} {l : Launch} {e : Env} {s : State} {m : MethodId} {args : Array Value} {below : List Frame} {meth : Method} {c : Code} {D : va_G} {cs : JC} {b : Nat} (X : jX p c cX3_passGoing 3 s m args RX3 D cs b meth s.heap) (hr : meth.sig.returnType = Option.none) : ∀ (a0 : Nat) (M : JM), oty M a0 13 → AWO p l e rm_X3_passGoing s m args below meth c D cs b 3 s.heap (jE below D cs b evV args s rm_X3_passGoing.cells rm_X3_passGoing.slots) (f_X3_passGoing_L59 a0 M) M 0 0 [(0, .ref (b + a0))] 59 [] := by
  intro a0 M h_a0
  refine aw_callq (F' := ob (f_X3_fail a0 (7 : Int32) (gi M a0 2) M) fun _ M7 => some ((), M7)) rfl ?_
  refine aw_aload_n (pc := 59) X 0 dX3_passGoing_59 rfl ?_
  refine aw_bipush (pc := 60) X (7 : Int32) dX3_passGoing_60 (by decide) ?_
  refine aw_aload_n (pc := 62) X 0 dX3_passGoing_62 rfl ?_
  refine gf_X3_18 (pc := 63) X dX3_passGoing_63 h_a0 ?_
  refine cl_X3_56 (pc := 66) X ⟨Nat.le_of_ble_eq_true rfl, Nat.le_of_ble_eq_true rfl⟩ (Nat.le_of_ble_eq_true rfl) (ks2 := 0) (sl2 := 0) rfl rfl ⟨(Nat.le_of_ble_eq_true rfl), (Nat.le_of_ble_eq_true rfl)⟩ dX3_passGoing_66 h_a0 (fun M7 g8 => ?_)
  have h_a0 := h_a0.mono g8
  exact aw_vret (pc := 69) X hr dX3_passGoing_69 (Nat.le_of_ble_eq_true rfl) (Nat.le_of_ble_eq_true rfl)
def f_X3_passGoing_L49 (k2 : Nat → Int32 → JM → Option (Unit × JM)) : Nat → Int32 → Int32 → JM → Option (Unit × JM) := fun a0 v1 u0 M => sv u0 fun i3 => if i3 = 0 then (f_X3_passGoing_L70 k2 a0 v1 i3 M) else (if v1 = (5 : Int32) then (f_X3_passGoing_L59 a0 M) else (f_X3_passGoing_L70 k2 a0 v1 i3 M))
set_option maxRecDepth 10000 in
set_option maxHeartbeats 4000000 in
theorem t_X3_passGoing_L49 {p : Program} {l : Launch} {e : Env} {s : State} {m : MethodId} {args : Array Value} {below : List Frame} {meth : Method} {c : Code} {D : va_G} {cs : JC} {b : Nat} (X : jX p c cX3_passGoing 3 s m args RX3 D cs b meth s.heap) (hr : meth.sig.returnType = Option.none) (k2 : Nat → Int32 → JM → Option (Unit × JM)) (hk2 : ∀ (a0 : Nat) (v1 : Int32) (M : JM), oty M a0 13 → AWO p l e rm_X3_passGoing s m args below meth c D cs b 3 s.heap (jE below D cs b evV args s rm_X3_passGoing.cells rm_X3_passGoing.slots) (k2 a0 v1 M) M 0 0 [(0, .ref (b + a0)), (1, .int v1)] 2 []) : ∀ (a0 : Nat) (v1 : Int32) (u0 : Int32) (M : JM), oty M a0 13 → AWO p l e rm_X3_passGoing s m args below meth c D cs b 3 s.heap (jE below D cs b evV args s rm_X3_passGoing.cells rm_X3_passGoing.slots) (f_X3_passGoing_L49 k2 a0 v1 u0 M) M 0 0 [(0, .ref (b + a0)), (1, .int v1)] 49 [.int u0] := by
  intro a0 v1 u0 M h_a0
  refine aw_callq (F' := sv u0 fun i3 => if i3 = 0 then (f_X3_passGoing_L70 k2 a0 v1 i3 M) else (if v1 = (5 : Int32) then (f_X3_passGoing_L59 a0 M) else (f_X3_passGoing_L70 k2 a0 v1 i3 M))) rfl ?_
  refine aw_istoreV_n (pc := 49) X (fun y => [(2, .int y), (0, .ref (b + a0)), (1, .int v1)]) dX3_passGoing_49 (by decide) (fun _ => rfl) (fun i3 => ?_)
  refine aw_iload_n (pc := 50) X 0 dX3_passGoing_50 rfl ?_
  refine aw_ifeq (pc := 51) X 70 dX3_passGoing_51 (by decide) ?_ ?_
  · refine aw_sub [1, 2, 0] rfl ?_
    exact t_X3_passGoing_L70 X hr k2 hk2 a0 v1 i3 M h_a0
  · refine aw_iload_n (pc := 54) X 2 dX3_passGoing_54 rfl ?_
    refine aw_iconst (pc := 55) X (5 : Int32) dX3_passGoing_55 (by decide) ?_
    refine aw_icmpne (pc := 56) X 70 dX3_passGoing_56 (by decide) ?_ ?_
    · refine aw_sub [1] rfl ?_
      exact t_X3_passGoing_L59 X hr a0 M h_a0
    · refine aw_sub [1, 2, 0] rfl ?_
      exact t_X3_passGoing_L70 X hr k2 hk2 a0 v1 i3 M h_a0
def f_X3_passGoing_L19 : Nat → JM → Option (Unit × JM) := fun a0 M => ob (f_X3_fail a0 (3 : Int32) (gi M a0 3) M) fun _ M9 => some ((), M9)
set_option maxRecDepth 10000 in
set_option maxHeartbeats 4000000 in
theorem t_X3_passGoing_L19 {p : Program} {l : Launch} {e : Env} {s : State} {m : MethodId} {args : Array Value} {below : List Frame} {meth : Method} {c : Code} {D : va_G} {cs : JC} {b : Nat} (X : jX p c cX3_passGoing 3 s m args RX3 D cs b meth s.heap) (hr : meth.sig.returnType = Option.none) : ∀ (a0 : Nat) (M : JM), oty M a0 13 → AWO p l e rm_X3_passGoing s m args below meth c D cs b 3 s.heap (jE below D cs b evV args s rm_X3_passGoing.cells rm_X3_passGoing.slots) (f_X3_passGoing_L19 a0 M) M 0 0 [(0, .ref (b + a0))] 19 [] := by
  intro a0 M h_a0
  refine aw_callq (F' := ob (f_X3_fail a0 (3 : Int32) (gi M a0 3) M) fun _ M9 => some ((), M9)) rfl ?_
  refine aw_aload_n (pc := 19) X 0 dX3_passGoing_19 rfl ?_
  refine aw_iconst (pc := 20) X (3 : Int32) dX3_passGoing_20 (by decide) ?_
  refine aw_aload_n (pc := 21) X 0 dX3_passGoing_21 rfl ?_
  refine gf_X3_22 (pc := 22) X dX3_passGoing_22 h_a0 ?_
  refine cl_X3_56 (pc := 25) X ⟨Nat.le_of_ble_eq_true rfl, Nat.le_of_ble_eq_true rfl⟩ (Nat.le_of_ble_eq_true rfl) (ks2 := 0) (sl2 := 0) rfl rfl ⟨(Nat.le_of_ble_eq_true rfl), (Nat.le_of_ble_eq_true rfl)⟩ dX3_passGoing_25 h_a0 (fun M9 g10 => ?_)
  have h_a0 := h_a0.mono g10
  exact aw_vret (pc := 28) X hr dX3_passGoing_28 (Nat.le_of_ble_eq_true rfl) (Nat.le_of_ble_eq_true rfl)
def f_X3_passGoing_L2 : Nat → Nat → Int32 → JM → Option (Unit × JM)
  | 0, _, _, _ => none
  | n + 1, a0, v1, M => if v1 < (6 : Int32) then (if (gi M a0 2) < (gi M a0 3) then (orf (gr M a0 0) fun r2 => if 0 ≤ (gi M a0 2) ∧ (gi M a0 2) < ln r2 then (if ((gi M r2 (gi M a0 2)) &&& (1 : Int32)) = (1 : Int32) then (f_X3_passGoing_L49 (f_X3_passGoing_L2 n) a0 v1 (1 : Int32) M) else (f_X3_passGoing_L49 (f_X3_passGoing_L2 n) a0 v1 (0 : Int32) M)) else none) else (f_X3_passGoing_L19 a0 M)) else (some ((), M))
set_option maxRecDepth 10000 in
set_option maxHeartbeats 4000000 in
theorem t_X3_passGoing_L2 {p : Program} {l : Launch} {e : Env} {s : State} {m : MethodId} {args : Array Value} {below : List Frame} {meth : Method} {c : Code} {D : va_G} {cs : JC} {b : Nat} (X : jX p c cX3_passGoing 3 s m args RX3 D cs b meth s.heap) (hr : meth.sig.returnType = Option.none) : ∀ (n : Nat) (a0 : Nat) (v1 : Int32) (M : JM), oty M a0 13 → AWO p l e rm_X3_passGoing s m args below meth c D cs b 3 s.heap (jE below D cs b evV args s rm_X3_passGoing.cells rm_X3_passGoing.slots) (f_X3_passGoing_L2 n a0 v1 M) M 0 0 [(0, .ref (b + a0)), (1, .int v1)] 2 [] := by
  intro n
  induction n with
  | zero => intro a0 v1 M h_a0; exact aw_none
  | succ n ih =>
    intro a0 v1 M h_a0
    refine aw_callq (F' := if v1 < (6 : Int32) then (if (gi M a0 2) < (gi M a0 3) then (orf (gr M a0 0) fun r2 => if 0 ≤ (gi M a0 2) ∧ (gi M a0 2) < ln r2 then (if ((gi M r2 (gi M a0 2)) &&& (1 : Int32)) = (1 : Int32) then (f_X3_passGoing_L49 (f_X3_passGoing_L2 n) a0 v1 (1 : Int32) M) else (f_X3_passGoing_L49 (f_X3_passGoing_L2 n) a0 v1 (0 : Int32) M)) else none) else (f_X3_passGoing_L19 a0 M)) else (some ((), M))) rfl ?_
    refine aw_iload_n (pc := 2) X 1 dX3_passGoing_2 rfl ?_
    refine aw_bipush (pc := 3) X (6 : Int32) dX3_passGoing_3 (by decide) ?_
    refine aw_icmpge (pc := 5) X 91 dX3_passGoing_5 (by decide) ?_ ?_
    · refine aw_aload_n (pc := 8) X 0 dX3_passGoing_8 rfl ?_
      refine gf_X3_18 (pc := 9) X dX3_passGoing_9 h_a0 ?_
      refine aw_aload_n (pc := 12) X 0 dX3_passGoing_12 rfl ?_
      refine gf_X3_22 (pc := 13) X dX3_passGoing_13 h_a0 ?_
      refine aw_icmplt (pc := 16) X 29 dX3_passGoing_16 (by decide) ?_ ?_
      · refine aw_aload_n (pc := 29) X 0 dX3_passGoing_29 rfl ?_
        refine gf_X3_15 (pc := 30) X dX3_passGoing_30 h_a0 (fun r2 h_r2 => ?_)
        refine aw_aload_n (pc := 33) X 0 dX3_passGoing_33 rfl ?_
        refine gf_X3_18 (pc := 34) X dX3_passGoing_34 h_a0 ?_
        refine aw_iald (pc := 37) X dX3_passGoing_37 h_r2 ?_
        refine aw_iconst (pc := 38) X (1 : Int32) dX3_passGoing_38 (by decide) ?_
        refine aw_iand (pc := 39) X dX3_passGoing_39 ?_
        refine aw_iconst (pc := 40) X (1 : Int32) dX3_passGoing_40 (by decide) ?_
        refine aw_icmpne (pc := 41) X 48 dX3_passGoing_41 (by decide) ?_ ?_
        · refine aw_iconst (pc := 44) X (1 : Int32) dX3_passGoing_44 (by decide) ?_
          refine aw_goto (pc := 45) X 49 dX3_passGoing_45 (by decide) ?_
          refine aw_sub [0, 1] rfl ?_
          exact t_X3_passGoing_L49 X hr (f_X3_passGoing_L2 n) ih a0 v1 (1 : Int32) M h_a0
        · refine aw_iconst (pc := 48) X (0 : Int32) dX3_passGoing_48 (by decide) ?_
          refine aw_sub [0, 1] rfl ?_
          exact t_X3_passGoing_L49 X hr (f_X3_passGoing_L2 n) ih a0 v1 (0 : Int32) M h_a0
      · refine aw_sub [0] rfl ?_
        exact t_X3_passGoing_L19 X hr a0 M h_a0
    · exact aw_vret (pc := 91) X hr dX3_passGoing_91 (Nat.le_of_ble_eq_true rfl) (Nat.le_of_ble_eq_true rfl)
def f_X3_passGoing (a0 : Nat) (M : JM) : Option (Unit × JM) := sv (0 : Int32) fun i1 => f_X3_passGoing_L2 FU a0 i1 M
set_option maxRecDepth 10000 in
set_option maxHeartbeats 4000000 in
theorem t_X3_passGoing {l : Launch} {D : va_G} {cs : JC} {b : Nat} (a0 : Nat) (M : JM) (h_a0 : oty M a0 13) : ∀ q, f_X3_passGoing a0 M = some q → CTy l yX3_passGoing (.code yX3_passGoing cX3_passGoing 3 (Option.none) :: GB) rm_X3_passGoing D cs b evV [.ref (b + a0)] M rm_X3_passGoing.cells rm_X3_passGoing.slots q := fun q hq => ct_of [(0, .ref (b + a0))] rfl rfl (Nat.le_of_ble_eq_true rfl) hq (fun p e s m args below meth c X hr hin => by
  refine aw_callq (F' := sv (0 : Int32) fun i1 => f_X3_passGoing_L2 FU a0 i1 M) rfl ?_
  refine aw_iconst (pc := 0) X (0 : Int32) dX3_passGoing_0 (by decide) ?_
  refine aw_istoreV_n (pc := 1) X (fun y => [(1, .int y), (0, .ref (b + a0))]) dX3_passGoing_1 (by decide) (fun _ => rfl) (fun i1 => ?_)
  refine aw_sub [1, 0] rfl ?_
  exact t_X3_passGoing_L2 X hr FU a0 i1 M h_a0)
/-! ReportBlocks$Reader.passAgain -/
def rm_X3_passAgain : Room := { frames := 2, cells := 0, slots := 0, locals := 43 }
theorem hd_X3_passAgain : jHd yX3_passAgain 1 := by unfold jHd; decide +kernel
def f_X3_passAgain_L41 : Nat → JM → Option (Unit × JM) := fun a0 M => ob (f_X3_fail a0 (6 : Int32) (gi M a0 2) M) fun _ M3 => some ((), M3)
set_option maxRecDepth 10000 in
set_option maxHeartbeats 4000000 in
theorem t_X3_passAgain_L41 {p : Program} {l : Launch} {e : Env} {s : State} {m : MethodId} {args : Array Value} {below : List Frame} {meth : Method} {c : Code} {D : va_G} {cs : JC} {b : Nat} (X : jX p c cX3_passAgain 3 s m args RX3 D cs b meth s.heap) (hr : meth.sig.returnType = Option.none) : ∀ (a0 : Nat) (M : JM), oty M a0 13 → AWO p l e rm_X3_passAgain s m args below meth c D cs b 3 s.heap (jE below D cs b evV args s rm_X3_passAgain.cells rm_X3_passAgain.slots) (f_X3_passAgain_L41 a0 M) M 0 0 [(0, .ref (b + a0))] 41 [] := by
  intro a0 M h_a0
  refine aw_callq (F' := ob (f_X3_fail a0 (6 : Int32) (gi M a0 2) M) fun _ M3 => some ((), M3)) rfl ?_
  refine aw_aload_n (pc := 41) X 0 dX3_passAgain_41 rfl ?_
  refine aw_bipush (pc := 42) X (6 : Int32) dX3_passAgain_42 (by decide) ?_
  refine aw_aload_n (pc := 44) X 0 dX3_passAgain_44 rfl ?_
  refine gf_X3_18 (pc := 45) X dX3_passAgain_45 h_a0 ?_
  refine cl_X3_56 (pc := 48) X ⟨Nat.le_of_ble_eq_true rfl, Nat.le_of_ble_eq_true rfl⟩ (Nat.le_of_ble_eq_true rfl) (ks2 := 0) (sl2 := 0) rfl rfl ⟨(Nat.le_of_ble_eq_true rfl), (Nat.le_of_ble_eq_true rfl)⟩ dX3_passAgain_48 h_a0 (fun M3 g4 => ?_)
  have h_a0 := h_a0.mono g4
  exact aw_vret (pc := 51) X hr dX3_passAgain_51 (Nat.le_of_ble_eq_true rfl) (Nat.le_of_ble_eq_true rfl)
theorem cl_X3_71 {ρ : Type} {l : Launch} {p : Program} {e : Env} {R : Room} {s : State} {m : MethodId} {args : Array Value} {below : List Frame} {meth : Method} {c : Code} {D : va_G} {cs : JC} {b nL : Nat} {H0 : Heap} {Qf : ρ × JM → State → Prop} {M : JM} {ks sl : Nat} {lv : List (Nat × Value)} {pc : Nat} {st : List Value} {cc : ByteArray} (X : jX p c cc nL s m args RX3 D cs b meth H0) {z0 : Nat} {z1 : Int32} {K : JM → Option (ρ × JM)} (hrm : jRm rm_X3_pass 2 R) (hW : (st.map fun v => v.category).sum ≤ 8) {ks2 sl2 : Nat} (hk2 : ks + rm_X3_pass.cells = ks2) (hs2 : sl + rm_X3_pass.slots = sl2) (hroom : ks2 ≤ R.cells ∧ sl2 ≤ R.slots) (hdg : decode cc pc = .ok (.invokevirtual 71, 3)) (h0 : oty M z0 13) (kk : ∀ (M2 : JM), gn M ≤ gn M2 → AWO p l e R s m args below meth c D cs b nL H0 Qf (K M2) M2 ks2 sl2 lv (pc + 3) (st)) : AWO p l e R s m args below meth c D cs b nL H0 Qf (ob (f_X3_pass z0 z1 M) (fun _ => K)) M ks sl lv pc (.int z1 :: .ref (b + z0) :: st) := by
  subst hk2
  subst hs2
  exact aw_callV (ci := 3) X [.int z1] st rfl rfl wl_X3_71 wi_X3_pass wv_X3_pass wc_X3_pass wn_X3 (n := 1) hd_X3_pass rfl hrm hW hroom hdg h0 (t_X3_pass z0 z1 M h0) (fun _ M2 g _ => kk M2 g)
def f_X3_passAgain (a0 : Nat) (v1 : Int32) (M : JM) : Option (Unit × JM) := if (gi M a0 2) < (gi M a0 3) then (orf (gr M a0 0) fun r1 => if 0 ≤ (gi M a0 2) ∧ (gi M a0 2) < ln r1 then (sv (gi M r1 (gi M a0 2)) fun i2 => if i2 < (1 : Int32) then (f_X3_passAgain_L41 a0 M) else (if (5 : Int32) < i2 then (f_X3_passAgain_L41 a0 M) else (sq (si M a0 2 ((gi M a0 2) + (1 : Int32))) fun M5 => ob (f_X3_pass a0 (i2 * v1) M5) fun _ M7 => some ((), M7)))) else none) else (ob (f_X3_fail a0 (3 : Int32) (gi M a0 3) M) fun _ M9 => some ((), M9))
set_option maxRecDepth 10000 in
set_option maxHeartbeats 4000000 in
theorem t_X3_passAgain {l : Launch} {D : va_G} {cs : JC} {b : Nat} (a0 : Nat) (v1 : Int32) (M : JM) (h_a0 : oty M a0 13) : ∀ q, f_X3_passAgain a0 v1 M = some q → CTy l yX3_passAgain (.code yX3_passAgain cX3_passAgain 3 (Option.none) :: GB) rm_X3_passAgain D cs b evV [.ref (b + a0), .int v1] M rm_X3_passAgain.cells rm_X3_passAgain.slots q := fun q hq => ct_of [(0, .ref (b + a0)), (1, .int v1)] rfl rfl (Nat.le_of_ble_eq_true rfl) hq (fun p e s m args below meth c X hr hin => by
  refine aw_callq (F' := if (gi M a0 2) < (gi M a0 3) then (orf (gr M a0 0) fun r1 => if 0 ≤ (gi M a0 2) ∧ (gi M a0 2) < ln r1 then (sv (gi M r1 (gi M a0 2)) fun i2 => if i2 < (1 : Int32) then (f_X3_passAgain_L41 a0 M) else (if (5 : Int32) < i2 then (f_X3_passAgain_L41 a0 M) else (sq (si M a0 2 ((gi M a0 2) + (1 : Int32))) fun M5 => ob (f_X3_pass a0 (i2 * v1) M5) fun _ M7 => some ((), M7)))) else none) else (ob (f_X3_fail a0 (3 : Int32) (gi M a0 3) M) fun _ M9 => some ((), M9))) rfl ?_
  refine aw_aload_n (pc := 0) X 0 dX3_passAgain_0 rfl ?_
  refine gf_X3_18 (pc := 1) X dX3_passAgain_1 h_a0 ?_
  refine aw_aload_n (pc := 4) X 0 dX3_passAgain_4 rfl ?_
  refine gf_X3_22 (pc := 5) X dX3_passAgain_5 h_a0 ?_
  refine aw_icmplt (pc := 8) X 21 dX3_passAgain_8 (by decide) ?_ ?_
  · refine aw_aload_n (pc := 21) X 0 dX3_passAgain_21 rfl ?_
    refine gf_X3_15 (pc := 22) X dX3_passAgain_22 h_a0 (fun r1 h_r1 => ?_)
    refine aw_aload_n (pc := 25) X 0 dX3_passAgain_25 rfl ?_
    refine gf_X3_18 (pc := 26) X dX3_passAgain_26 h_a0 ?_
    refine aw_iald (pc := 29) X dX3_passAgain_29 h_r1 ?_
    refine aw_istoreV_n (pc := 30) X (fun y => [(2, .int y), (0, .ref (b + a0)), (1, .int v1)]) dX3_passAgain_30 (by decide) (fun _ => rfl) (fun i2 => ?_)
    refine aw_iload_n (pc := 31) X 0 dX3_passAgain_31 rfl ?_
    refine aw_iconst (pc := 32) X (1 : Int32) dX3_passAgain_32 (by decide) ?_
    refine aw_icmplt (pc := 33) X 41 dX3_passAgain_33 (by decide) ?_ ?_
    · refine aw_sub [1] rfl ?_
      exact t_X3_passAgain_L41 X hr a0 M h_a0
    · refine aw_iload_n (pc := 36) X 0 dX3_passAgain_36 rfl ?_
      refine aw_iconst (pc := 37) X (5 : Int32) dX3_passAgain_37 (by decide) ?_
      refine aw_icmple (pc := 38) X 52 dX3_passAgain_38 (by decide) ?_ ?_
      · refine aw_sub [1] rfl ?_
        exact t_X3_passAgain_L41 X hr a0 M h_a0
      · refine aw_aload_n (pc := 52) X 1 dX3_passAgain_52 rfl ?_
        refine aw_dup_a (pc := 53) X dX3_passAgain_53 ?_
        refine gf_X3_18 (pc := 54) X dX3_passAgain_54 h_a0 ?_
        refine aw_iconst (pc := 57) X (1 : Int32) dX3_passAgain_57 (by decide) ?_
        refine aw_iadd (pc := 58) X dX3_passAgain_58 ?_
        refine pf_X3_18 (pc := 59) X dX3_passAgain_59 h_a0 (fun M5 g6 => ?_)
        have h_a0 := h_a0.mono g6
        refine aw_aload_n (pc := 62) X 1 dX3_passAgain_62 rfl ?_
        refine aw_iload_n (pc := 63) X 0 dX3_passAgain_63 rfl ?_
        refine aw_iload_n (pc := 64) X 2 dX3_passAgain_64 rfl ?_
        refine aw_imul (pc := 65) X dX3_passAgain_65 ?_
        refine cl_X3_71 (pc := 66) X ⟨Nat.le_of_ble_eq_true rfl, Nat.le_of_ble_eq_true rfl⟩ (Nat.le_of_ble_eq_true rfl) (ks2 := 0) (sl2 := 0) rfl rfl ⟨(Nat.le_of_ble_eq_true rfl), (Nat.le_of_ble_eq_true rfl)⟩ dX3_passAgain_66 h_a0 (fun M7 g8 => ?_)
        have h_a0 := h_a0.mono g8
        exact aw_vret (pc := 69) X hr dX3_passAgain_69 (Nat.le_of_ble_eq_true rfl) (Nat.le_of_ble_eq_true rfl)
  · refine aw_aload_n (pc := 11) X 0 dX3_passAgain_11 rfl ?_
    refine aw_iconst (pc := 12) X (3 : Int32) dX3_passAgain_12 (by decide) ?_
    refine aw_aload_n (pc := 13) X 0 dX3_passAgain_13 rfl ?_
    refine gf_X3_22 (pc := 14) X dX3_passAgain_14 h_a0 ?_
    refine cl_X3_56 (pc := 17) X ⟨Nat.le_of_ble_eq_true rfl, Nat.le_of_ble_eq_true rfl⟩ (Nat.le_of_ble_eq_true rfl) (ks2 := 0) (sl2 := 0) rfl rfl ⟨(Nat.le_of_ble_eq_true rfl), (Nat.le_of_ble_eq_true rfl)⟩ dX3_passAgain_17 h_a0 (fun M9 g10 => ?_)
    have h_a0 := h_a0.mono g10
    exact aw_vret (pc := 20) X hr dX3_passAgain_20 (Nat.le_of_ble_eq_true rfl) (Nat.le_of_ble_eq_true rfl))
/-! ReportBlocks$Reader.passMade -/
def rm_X3_passMade : Room := { frames := 2, cells := 0, slots := 0, locals := 46 }
theorem hd_X3_passMade : jHd yX3_passMade 1 := by unfold jHd; decide +kernel
theorem cl_X3_31 {ρ : Type} {l : Launch} {p : Program} {e : Env} {R : Room} {s : State} {m : MethodId} {args : Array Value} {below : List Frame} {meth : Method} {c : Code} {D : va_G} {cs : JC} {b nL : Nat} {H0 : Heap} {Qf : ρ × JM → State → Prop} {M : JM} {ks sl : Nat} {lv : List (Nat × Value)} {pc : Nat} {st : List Value} {cc : ByteArray} (X : jX p c cc nL s m args RX3 D cs b meth H0) {z0 : Nat} {z1 : Int32} {K : Int32 → JM → Option (ρ × JM)} (hrm : jRm rm_X3_passBits 5 R) (hW : (st.map fun v => v.category).sum ≤ 8) {ks2 sl2 : Nat} (hk2 : ks + rm_X3_passBits.cells = ks2) (hs2 : sl + rm_X3_passBits.slots = sl2) (hroom : ks2 ≤ R.cells ∧ sl2 ≤ R.slots) (hdg : decode cc pc = .ok (.invokevirtual 31, 3)) (h0 : oty M z0 13) (kk : ∀ (r : Int32) (M2 : JM), gn M ≤ gn M2 → AWO p l e R s m args below meth c D cs b nL H0 Qf (K r M2) M2 ks2 sl2 lv (pc + 3) (.int r :: st)) : AWO p l e R s m args below meth c D cs b nL H0 Qf (ob (f_X3_passBits z0 z1 M) K) M ks sl lv pc (.int z1 :: .ref (b + z0) :: st) := by
  subst hk2
  subst hs2
  exact aw_callV (ci := 3) X [.int z1] st rfl rfl wl_X3_31 wi_X3_passBits wv_X3_passBits wc_X3_passBits wn_X3 (n := 1) hd_X3_passBits rfl hrm hW hroom hdg h0 (t_X3_passBits z0 z1 M h0) (fun r M2 g _ => kk r M2 g)
def f_X3_passMade_L114 (k74 : Nat → Int32 → Int32 → Int32 → Int32 → JM → Option (Unit × JM)) : Nat → Int32 → Int32 → Int32 → Int32 → JM → Option (Unit × JM) := fun a0 v1 v2 v3 v4 M => sv (v4 + (1 : Int32)) fun i12 => k74 a0 v1 v2 v3 i12 M
set_option maxRecDepth 10000 in
set_option maxHeartbeats 4000000 in
theorem t_X3_passMade_L114 {p : Program} {l : Launch} {e : Env} {s : State} {m : MethodId} {args : Array Value} {below : List Frame} {meth : Method} {c : Code} {D : va_G} {cs : JC} {b : Nat} (X : jX p c cX3_passMade 5 s m args RX3 D cs b meth s.heap) (hr : meth.sig.returnType = Option.none) (k74 : Nat → Int32 → Int32 → Int32 → Int32 → JM → Option (Unit × JM)) (hk74 : ∀ (a0 : Nat) (v1 : Int32) (v2 : Int32) (v3 : Int32) (v4 : Int32) (M : JM), oty M a0 13 → AWO p l e rm_X3_passMade s m args below meth c D cs b 5 s.heap (jE below D cs b evV args s rm_X3_passMade.cells rm_X3_passMade.slots) (k74 a0 v1 v2 v3 v4 M) M 0 0 [(0, .ref (b + a0)), (1, .int v1), (2, .int v2), (3, .int v3), (4, .int v4)] 74 []) : ∀ (a0 : Nat) (v1 : Int32) (v2 : Int32) (v3 : Int32) (v4 : Int32) (M : JM), oty M a0 13 → AWO p l e rm_X3_passMade s m args below meth c D cs b 5 s.heap (jE below D cs b evV args s rm_X3_passMade.cells rm_X3_passMade.slots) (f_X3_passMade_L114 k74 a0 v1 v2 v3 v4 M) M 0 0 [(0, .ref (b + a0)), (1, .int v1), (2, .int v2), (3, .int v3), (4, .int v4)] 114 [] := by
  intro a0 v1 v2 v3 v4 M h_a0
  refine aw_callq (F' := sv (v4 + (1 : Int32)) fun i12 => k74 a0 v1 v2 v3 i12 M) rfl ?_
  refine aw_iincV (pc := 114) X (fun y => [(4, .int y), (0, .ref (b + a0)), (1, .int v1), (2, .int v2), (3, .int v3)]) 4 (v := (v4 + (1 : Int32))) dX3_passMade_114 rfl rfl (by decide) (fun _ => rfl) (fun i12 => ?_)
  refine aw_goto (pc := 117) X 74 dX3_passMade_117 (by decide) ?_
  refine aw_sub [1, 2, 3, 4, 0] rfl ?_
  exact hk74 a0 v1 v2 v3 i12 M h_a0
theorem cl_X3_83 {ρ : Type} {l : Launch} {p : Program} {e : Env} {R : Room} {s : State} {m : MethodId} {args : Array Value} {below : List Frame} {meth : Method} {c : Code} {D : va_G} {cs : JC} {b nL : Nat} {H0 : Heap} {Qf : ρ × JM → State → Prop} {M : JM} {ks sl : Nat} {lv : List (Nat × Value)} {pc : Nat} {st : List Value} {cc : ByteArray} (X : jX p c cc nL s m args RX3 D cs b meth H0) {z0 : Nat} {z1 : Int32} {z2 : Int32} {K : Int32 → JM → Option (ρ × JM)} (hrm : jRm rm_X1_partBytes 3 R) (hW : (st.map fun v => v.category).sum ≤ 8) {ks2 sl2 : Nat} (hk2 : ks + rm_X1_partBytes.cells = ks2) (hs2 : sl + rm_X1_partBytes.slots = sl2) (hroom : ks2 ≤ R.cells ∧ sl2 ≤ R.slots) (hdg : decode cc pc = .ok (.invokevirtual 83, 3)) (h0 : oty M z0 11) (kk : ∀ (r : Int32) (M2 : JM), gn M ≤ gn M2 → AWO p l e R s m args below meth c D cs b nL H0 Qf (K r M2) M2 ks2 sl2 lv (pc + 3) (.int r :: st)) : AWO p l e R s m args below meth c D cs b nL H0 Qf (ob (f_X1_partBytes z0 z1 z2 M) K) M ks sl lv pc (.int z2 :: .int z1 :: .ref (b + z0) :: st) := by
  subst hk2
  subst hs2
  exact aw_callV (ci := 1) X [.int z1, .int z2] st rfl rfl wl_X3_83 wi_X1_partBytes wv_X1_partBytes wc_X1_partBytes wn_X1 (n := 2) hd_X1_partBytes rfl hrm hW hroom hdg h0 (t_X1_partBytes z0 z1 z2 M h0) (fun r M2 g _ => kk r M2 g)
def f_X3_passMade_L74 : Nat → Nat → Int32 → Int32 → Int32 → Int32 → JM → Option (Unit × JM)
  | 0, _, _, _, _, _, _ => none
  | n + 1, a0, v1, v2, v3, v4, M => if v4 < v3 then (if (gi M a0 4) = 0 then (orf (gr M a0 0) fun r8 => ob (f_X7_isOne r8 v2 v4 M) fun r11 M9 => if r11 = true then (orf (gr M9 a0 1) fun r13 => ob (f_X1_partBytes r13 v1 v4 M9) fun r16 M14 => ob (f_X3_pass a0 r16 M14) fun _ M17 => f_X3_passMade_L114 (f_X3_passMade_L74 n) a0 v1 v2 v3 v4 M17) else (f_X3_passMade_L114 (f_X3_passMade_L74 n) a0 v1 v2 v3 v4 M9)) else (some ((), M))) else (some ((), M))
set_option maxRecDepth 10000 in
set_option maxHeartbeats 4000000 in
theorem t_X3_passMade_L74 {p : Program} {l : Launch} {e : Env} {s : State} {m : MethodId} {args : Array Value} {below : List Frame} {meth : Method} {c : Code} {D : va_G} {cs : JC} {b : Nat} (X : jX p c cX3_passMade 5 s m args RX3 D cs b meth s.heap) (hr : meth.sig.returnType = Option.none) : ∀ (n : Nat) (a0 : Nat) (v1 : Int32) (v2 : Int32) (v3 : Int32) (v4 : Int32) (M : JM), oty M a0 13 → AWO p l e rm_X3_passMade s m args below meth c D cs b 5 s.heap (jE below D cs b evV args s rm_X3_passMade.cells rm_X3_passMade.slots) (f_X3_passMade_L74 n a0 v1 v2 v3 v4 M) M 0 0 [(0, .ref (b + a0)), (1, .int v1), (2, .int v2), (3, .int v3), (4, .int v4)] 74 [] := by
  intro n
  induction n with
  | zero => intro a0 v1 v2 v3 v4 M h_a0; exact aw_none
  | succ n ih =>
    intro a0 v1 v2 v3 v4 M h_a0
    refine aw_callq (F' := if v4 < v3 then (if (gi M a0 4) = 0 then (orf (gr M a0 0) fun r8 => ob (f_X7_isOne r8 v2 v4 M) fun r11 M9 => if r11 = true then (orf (gr M9 a0 1) fun r13 => ob (f_X1_partBytes r13 v1 v4 M9) fun r16 M14 => ob (f_X3_pass a0 r16 M14) fun _ M17 => f_X3_passMade_L114 (f_X3_passMade_L74 n) a0 v1 v2 v3 v4 M17) else (f_X3_passMade_L114 (f_X3_passMade_L74 n) a0 v1 v2 v3 v4 M9)) else (some ((), M))) else (some ((), M))) rfl ?_
    refine aw_iload (pc := 74) X 4 dX3_passMade_74 rfl ?_
    refine aw_iload_n (pc := 76) X 3 dX3_passMade_76 rfl ?_
    refine aw_icmpge (pc := 77) X 120 dX3_passMade_77 (by decide) ?_ ?_
    · refine aw_aload_n (pc := 80) X 0 dX3_passMade_80 rfl ?_
      refine gf_X3_25 (pc := 81) X dX3_passMade_81 h_a0 ?_
      refine aw_ifne (pc := 84) X 120 dX3_passMade_84 (by decide) ?_ ?_
      · refine aw_aload_n (pc := 87) X 0 dX3_passMade_87 rfl ?_
        refine gf_X3_15 (pc := 88) X dX3_passMade_88 h_a0 (fun r8 h_r8 => ?_)
        refine aw_iload_n (pc := 91) X 2 dX3_passMade_91 rfl ?_
        refine aw_iload (pc := 92) X 4 dX3_passMade_92 rfl ?_
        refine cl_X3_44 (pc := 94) X ⟨Nat.le_of_ble_eq_true rfl, Nat.le_of_ble_eq_true rfl⟩ (Nat.le_of_ble_eq_true rfl) (ks2 := 0) (sl2 := 0) rfl rfl ⟨(Nat.le_of_ble_eq_true rfl), (Nat.le_of_ble_eq_true rfl)⟩ dX3_passMade_94 h_r8 (fun r11 M9 g10 => ?_)
        have h_a0 := h_a0.mono g10
        refine aw_ifeqB (pc := 97) X 114 dX3_passMade_97 (by decide) ?_ ?_
        · refine aw_aload_n (pc := 100) X 0 dX3_passMade_100 rfl ?_
          refine aw_aload_n (pc := 101) X 0 dX3_passMade_101 rfl ?_
          refine gf_X3_59 (pc := 102) X dX3_passMade_102 h_a0 (fun r13 h_r13 => ?_)
          refine aw_iload_n (pc := 105) X 1 dX3_passMade_105 rfl ?_
          refine aw_iload (pc := 106) X 4 dX3_passMade_106 rfl ?_
          refine cl_X3_83 (pc := 108) X ⟨Nat.le_of_ble_eq_true rfl, Nat.le_of_ble_eq_true rfl⟩ (Nat.le_of_ble_eq_true rfl) (ks2 := 0) (sl2 := 0) rfl rfl ⟨(Nat.le_of_ble_eq_true rfl), (Nat.le_of_ble_eq_true rfl)⟩ dX3_passMade_108 h_r13 (fun r16 M14 g15 => ?_)
          have h_a0 := h_a0.mono g15
          refine cl_X3_71 (pc := 111) X ⟨Nat.le_of_ble_eq_true rfl, Nat.le_of_ble_eq_true rfl⟩ (Nat.le_of_ble_eq_true rfl) (ks2 := 0) (sl2 := 0) rfl rfl ⟨(Nat.le_of_ble_eq_true rfl), (Nat.le_of_ble_eq_true rfl)⟩ dX3_passMade_111 h_a0 (fun M17 g18 => ?_)
          have h_a0 := h_a0.mono g18
          refine aw_sub [0, 1, 2, 3, 4] rfl ?_
          exact t_X3_passMade_L114 X hr (f_X3_passMade_L74 n) ih a0 v1 v2 v3 v4 M17 h_a0
        · refine aw_sub [0, 1, 2, 3, 4] rfl ?_
          exact t_X3_passMade_L114 X hr (f_X3_passMade_L74 n) ih a0 v1 v2 v3 v4 M9 h_a0
      · exact aw_vret (pc := 120) X hr dX3_passMade_120 (Nat.le_of_ble_eq_true rfl) (Nat.le_of_ble_eq_true rfl)
    · exact aw_vret (pc := 120) X hr dX3_passMade_120 (Nat.le_of_ble_eq_true rfl) (Nat.le_of_ble_eq_true rfl)
def f_X3_passMade_L71 : Nat → Int32 → Int32 → Int32 → JM → Option (Unit × JM) := fun a0 v1 v2 v3 M => sv (0 : Int32) fun i7 => f_X3_passMade_L74 FU a0 v1 v2 v3 i7 M
set_option maxRecDepth 10000 in
set_option maxHeartbeats 4000000 in
theorem t_X3_passMade_L71 {p : Program} {l : Launch} {e : Env} {s : State} {m : MethodId} {args : Array Value} {below : List Frame} {meth : Method} {c : Code} {D : va_G} {cs : JC} {b : Nat} (X : jX p c cX3_passMade 5 s m args RX3 D cs b meth s.heap) (hr : meth.sig.returnType = Option.none) : ∀ (a0 : Nat) (v1 : Int32) (v2 : Int32) (v3 : Int32) (M : JM), oty M a0 13 → AWO p l e rm_X3_passMade s m args below meth c D cs b 5 s.heap (jE below D cs b evV args s rm_X3_passMade.cells rm_X3_passMade.slots) (f_X3_passMade_L71 a0 v1 v2 v3 M) M 0 0 [(0, .ref (b + a0)), (1, .int v1), (2, .int v2), (3, .int v3)] 71 [] := by
  intro a0 v1 v2 v3 M h_a0
  refine aw_callq (F' := sv (0 : Int32) fun i7 => f_X3_passMade_L74 FU a0 v1 v2 v3 i7 M) rfl ?_
  refine aw_iconst (pc := 71) X (0 : Int32) dX3_passMade_71 (by decide) ?_
  refine aw_istoreV (pc := 72) X (fun y => [(4, .int y), (0, .ref (b + a0)), (1, .int v1), (2, .int v2), (3, .int v3)]) dX3_passMade_72 (by decide) (fun _ => rfl) (fun i7 => ?_)
  refine aw_sub [1, 2, 3, 4, 0] rfl ?_
  exact t_X3_passMade_L74 X hr FU a0 v1 v2 v3 i7 M h_a0
def f_X3_passMade_L65 (k14 : Nat → Int32 → Int32 → Int32 → Int32 → JM → Option (Unit × JM)) : Nat → Int32 → Int32 → Int32 → Int32 → JM → Option (Unit × JM) := fun a0 v1 v2 v3 v4 M => sv (v4 + (1 : Int32)) fun i23 => k14 a0 v1 v2 v3 i23 M
set_option maxRecDepth 10000 in
set_option maxHeartbeats 4000000 in
theorem t_X3_passMade_L65 {p : Program} {l : Launch} {e : Env} {s : State} {m : MethodId} {args : Array Value} {below : List Frame} {meth : Method} {c : Code} {D : va_G} {cs : JC} {b : Nat} (X : jX p c cX3_passMade 5 s m args RX3 D cs b meth s.heap) (hr : meth.sig.returnType = Option.none) (k14 : Nat → Int32 → Int32 → Int32 → Int32 → JM → Option (Unit × JM)) (hk14 : ∀ (a0 : Nat) (v1 : Int32) (v2 : Int32) (v3 : Int32) (v4 : Int32) (M : JM), oty M a0 13 → AWO p l e rm_X3_passMade s m args below meth c D cs b 5 s.heap (jE below D cs b evV args s rm_X3_passMade.cells rm_X3_passMade.slots) (k14 a0 v1 v2 v3 v4 M) M 0 0 [(0, .ref (b + a0)), (1, .int v1), (2, .int v2), (3, .int v3), (4, .int v4)] 14 []) : ∀ (a0 : Nat) (v1 : Int32) (v2 : Int32) (v3 : Int32) (v4 : Int32) (M : JM), oty M a0 13 → AWO p l e rm_X3_passMade s m args below meth c D cs b 5 s.heap (jE below D cs b evV args s rm_X3_passMade.cells rm_X3_passMade.slots) (f_X3_passMade_L65 k14 a0 v1 v2 v3 v4 M) M 0 0 [(0, .ref (b + a0)), (1, .int v1), (2, .int v2), (3, .int v3), (4, .int v4)] 65 [] := by
  intro a0 v1 v2 v3 v4 M h_a0
  refine aw_callq (F' := sv (v4 + (1 : Int32)) fun i23 => k14 a0 v1 v2 v3 i23 M) rfl ?_
  refine aw_iincV (pc := 65) X (fun y => [(4, .int y), (0, .ref (b + a0)), (1, .int v1), (2, .int v2), (3, .int v3)]) 4 (v := (v4 + (1 : Int32))) dX3_passMade_65 rfl rfl (by decide) (fun _ => rfl) (fun i23 => ?_)
  refine aw_goto (pc := 68) X 14 dX3_passMade_68 (by decide) ?_
  refine aw_sub [1, 2, 3, 4, 0] rfl ?_
  exact hk14 a0 v1 v2 v3 i23 M h_a0
def f_X3_passMade_L14 : Nat → Nat → Int32 → Int32 → Int32 → Int32 → JM → Option (Unit × JM)
  | 0, _, _, _, _, _, _ => none
  | n + 1, a0, v1, v2, v3, v4, M => if v4 < v3 then (if (gi M a0 4) = 0 then (orf (gr M a0 0) fun r19 => ob (f_X7_isOne r19 v2 v4 M) fun r22 M20 => if r22 = true then (orf (gr M20 a0 1) fun r24 => ob (f_X1_partBytes r24 v1 v4 M20) fun r27 M25 => if r27 = 0 then (ob (f_X3_fail a0 (5 : Int32) (v2 + (v4 / (7 : Int32))) M25) fun _ M28 => f_X3_passMade_L65 (f_X3_passMade_L14 n) a0 v1 v2 v3 v4 M28) else (f_X3_passMade_L65 (f_X3_passMade_L14 n) a0 v1 v2 v3 v4 M25)) else (f_X3_passMade_L65 (f_X3_passMade_L14 n) a0 v1 v2 v3 v4 M20)) else (f_X3_passMade_L71 a0 v1 v2 v3 M)) else (f_X3_passMade_L71 a0 v1 v2 v3 M)
set_option maxRecDepth 10000 in
set_option maxHeartbeats 4000000 in
theorem t_X3_passMade_L14 {p : Program} {l : Launch} {e : Env} {s : State} {m : MethodId} {args : Array Value} {below : List Frame} {meth : Method} {c : Code} {D : va_G} {cs : JC} {b : Nat} (X : jX p c cX3_passMade 5 s m args RX3 D cs b meth s.heap) (hr : meth.sig.returnType = Option.none) : ∀ (n : Nat) (a0 : Nat) (v1 : Int32) (v2 : Int32) (v3 : Int32) (v4 : Int32) (M : JM), oty M a0 13 → AWO p l e rm_X3_passMade s m args below meth c D cs b 5 s.heap (jE below D cs b evV args s rm_X3_passMade.cells rm_X3_passMade.slots) (f_X3_passMade_L14 n a0 v1 v2 v3 v4 M) M 0 0 [(0, .ref (b + a0)), (1, .int v1), (2, .int v2), (3, .int v3), (4, .int v4)] 14 [] := by
  intro n
  induction n with
  | zero => intro a0 v1 v2 v3 v4 M h_a0; exact aw_none
  | succ n ih =>
    intro a0 v1 v2 v3 v4 M h_a0
    refine aw_callq (F' := if v4 < v3 then (if (gi M a0 4) = 0 then (orf (gr M a0 0) fun r19 => ob (f_X7_isOne r19 v2 v4 M) fun r22 M20 => if r22 = true then (orf (gr M20 a0 1) fun r24 => ob (f_X1_partBytes r24 v1 v4 M20) fun r27 M25 => if r27 = 0 then (ob (f_X3_fail a0 (5 : Int32) (v2 + (v4 / (7 : Int32))) M25) fun _ M28 => f_X3_passMade_L65 (f_X3_passMade_L14 n) a0 v1 v2 v3 v4 M28) else (f_X3_passMade_L65 (f_X3_passMade_L14 n) a0 v1 v2 v3 v4 M25)) else (f_X3_passMade_L65 (f_X3_passMade_L14 n) a0 v1 v2 v3 v4 M20)) else (f_X3_passMade_L71 a0 v1 v2 v3 M)) else (f_X3_passMade_L71 a0 v1 v2 v3 M)) rfl ?_
    refine aw_iload (pc := 14) X 4 dX3_passMade_14 rfl ?_
    refine aw_iload_n (pc := 16) X 3 dX3_passMade_16 rfl ?_
    refine aw_icmpge (pc := 17) X 71 dX3_passMade_17 (by decide) ?_ ?_
    · refine aw_aload_n (pc := 20) X 0 dX3_passMade_20 rfl ?_
      refine gf_X3_25 (pc := 21) X dX3_passMade_21 h_a0 ?_
      refine aw_ifne (pc := 24) X 71 dX3_passMade_24 (by decide) ?_ ?_
      · refine aw_aload_n (pc := 27) X 0 dX3_passMade_27 rfl ?_
        refine gf_X3_15 (pc := 28) X dX3_passMade_28 h_a0 (fun r19 h_r19 => ?_)
        refine aw_iload_n (pc := 31) X 2 dX3_passMade_31 rfl ?_
        refine aw_iload (pc := 32) X 4 dX3_passMade_32 rfl ?_
        refine cl_X3_44 (pc := 34) X ⟨Nat.le_of_ble_eq_true rfl, Nat.le_of_ble_eq_true rfl⟩ (Nat.le_of_ble_eq_true rfl) (ks2 := 0) (sl2 := 0) rfl rfl ⟨(Nat.le_of_ble_eq_true rfl), (Nat.le_of_ble_eq_true rfl)⟩ dX3_passMade_34 h_r19 (fun r22 M20 g21 => ?_)
        have h_a0 := h_a0.mono g21
        refine aw_ifeqB (pc := 37) X 65 dX3_passMade_37 (by decide) ?_ ?_
        · refine aw_aload_n (pc := 40) X 0 dX3_passMade_40 rfl ?_
          refine gf_X3_59 (pc := 41) X dX3_passMade_41 h_a0 (fun r24 h_r24 => ?_)
          refine aw_iload_n (pc := 44) X 1 dX3_passMade_44 rfl ?_
          refine aw_iload (pc := 45) X 4 dX3_passMade_45 rfl ?_
          refine cl_X3_83 (pc := 47) X ⟨Nat.le_of_ble_eq_true rfl, Nat.le_of_ble_eq_true rfl⟩ (Nat.le_of_ble_eq_true rfl) (ks2 := 0) (sl2 := 0) rfl rfl ⟨(Nat.le_of_ble_eq_true rfl), (Nat.le_of_ble_eq_true rfl)⟩ dX3_passMade_47 h_r24 (fun r27 M25 g26 => ?_)
          have h_a0 := h_a0.mono g26
          refine aw_ifne (pc := 50) X 65 dX3_passMade_50 (by decide) ?_ ?_
          · refine aw_aload_n (pc := 53) X 0 dX3_passMade_53 rfl ?_
            refine aw_iconst (pc := 54) X (5 : Int32) dX3_passMade_54 (by decide) ?_
            refine aw_iload_n (pc := 55) X 2 dX3_passMade_55 rfl ?_
            refine aw_iload (pc := 56) X 4 dX3_passMade_56 rfl ?_
            refine aw_bipush (pc := 58) X (7 : Int32) dX3_passMade_58 (by decide) ?_
            refine aw_idivK (pc := 60) X dX3_passMade_60 (by decide) ?_
            refine aw_iadd (pc := 61) X dX3_passMade_61 ?_
            refine cl_X3_56 (pc := 62) X ⟨Nat.le_of_ble_eq_true rfl, Nat.le_of_ble_eq_true rfl⟩ (Nat.le_of_ble_eq_true rfl) (ks2 := 0) (sl2 := 0) rfl rfl ⟨(Nat.le_of_ble_eq_true rfl), (Nat.le_of_ble_eq_true rfl)⟩ dX3_passMade_62 h_a0 (fun M28 g29 => ?_)
            have h_a0 := h_a0.mono g29
            refine aw_sub [0, 1, 2, 3, 4] rfl ?_
            exact t_X3_passMade_L65 X hr (f_X3_passMade_L14 n) ih a0 v1 v2 v3 v4 M28 h_a0
          · refine aw_sub [0, 1, 2, 3, 4] rfl ?_
            exact t_X3_passMade_L65 X hr (f_X3_passMade_L14 n) ih a0 v1 v2 v3 v4 M25 h_a0
        · refine aw_sub [0, 1, 2, 3, 4] rfl ?_
          exact t_X3_passMade_L65 X hr (f_X3_passMade_L14 n) ih a0 v1 v2 v3 v4 M20 h_a0
      · refine aw_sub [0, 1, 2, 3] rfl ?_
        exact t_X3_passMade_L71 X hr a0 v1 v2 v3 M h_a0
    · refine aw_sub [0, 1, 2, 3] rfl ?_
      exact t_X3_passMade_L71 X hr a0 v1 v2 v3 M h_a0
def f_X3_passMade (a0 : Nat) (v1 : Int32) (M : JM) : Option (Unit × JM) := sv (gi M a0 2) fun i1 => ob (f_X3_passBits a0 (2 : Int32) M) fun r4 M2 => sv r4 fun i5 => sv (0 : Int32) fun i6 => f_X3_passMade_L14 FU a0 v1 i1 i5 i6 M2
set_option maxRecDepth 10000 in
set_option maxHeartbeats 4000000 in
theorem t_X3_passMade {l : Launch} {D : va_G} {cs : JC} {b : Nat} (a0 : Nat) (v1 : Int32) (M : JM) (h_a0 : oty M a0 13) : ∀ q, f_X3_passMade a0 v1 M = some q → CTy l yX3_passMade (.code yX3_passMade cX3_passMade 5 (Option.none) :: GB) rm_X3_passMade D cs b evV [.ref (b + a0), .int v1] M rm_X3_passMade.cells rm_X3_passMade.slots q := fun q hq => ct_of [(0, .ref (b + a0)), (1, .int v1)] rfl rfl (Nat.le_of_ble_eq_true rfl) hq (fun p e s m args below meth c X hr hin => by
  refine aw_callq (F' := sv (gi M a0 2) fun i1 => ob (f_X3_passBits a0 (2 : Int32) M) fun r4 M2 => sv r4 fun i5 => sv (0 : Int32) fun i6 => f_X3_passMade_L14 FU a0 v1 i1 i5 i6 M2) rfl ?_
  refine aw_aload_n (pc := 0) X 0 dX3_passMade_0 rfl ?_
  refine gf_X3_18 (pc := 1) X dX3_passMade_1 h_a0 ?_
  refine aw_istoreV_n (pc := 4) X (fun y => [(2, .int y), (0, .ref (b + a0)), (1, .int v1)]) dX3_passMade_4 (by decide) (fun _ => rfl) (fun i1 => ?_)
  refine aw_aload_n (pc := 5) X 1 dX3_passMade_5 rfl ?_
  refine aw_iconst (pc := 6) X (2 : Int32) dX3_passMade_6 (by decide) ?_
  refine cl_X3_31 (pc := 7) X ⟨Nat.le_of_ble_eq_true rfl, Nat.le_of_ble_eq_true rfl⟩ (Nat.le_of_ble_eq_true rfl) (ks2 := 0) (sl2 := 0) rfl rfl ⟨(Nat.le_of_ble_eq_true rfl), (Nat.le_of_ble_eq_true rfl)⟩ dX3_passMade_7 h_a0 (fun r4 M2 g3 => ?_)
  have h_a0 := h_a0.mono g3
  refine aw_istoreV_n (pc := 10) X (fun y => [(3, .int y), (2, .int i1), (0, .ref (b + a0)), (1, .int v1)]) dX3_passMade_10 (by decide) (fun _ => rfl) (fun i5 => ?_)
  refine aw_iconst (pc := 11) X (0 : Int32) dX3_passMade_11 (by decide) ?_
  refine aw_istoreV (pc := 12) X (fun y => [(4, .int y), (3, .int i5), (2, .int i1), (0, .ref (b + a0)), (1, .int v1)]) dX3_passMade_12 (by decide) (fun _ => rfl) (fun i6 => ?_)
  refine aw_sub [3, 4, 2, 1, 0] rfl ?_
  exact t_X3_passMade_L14 X hr FU a0 v1 i1 i5 i6 M2 h_a0)
