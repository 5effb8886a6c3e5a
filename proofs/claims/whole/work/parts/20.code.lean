/-! programs of the methods, and the rows that their bytecode answers so: written by wip/gen/gen.py out of the printed decode rows -/
/-! ReportBlocks$Tape.init -/
def rm_X4_init : Room := { frames := 1, cells := 1, slots := 300, locals := 20 }
theorem hd_X4_init : jHd yX4_init 0 := by unfold jHd; decide +kernel
theorem pf_X4_9 {ρ : Type} {l : Launch} {p : Program} {e : Env} {R : Room} {s : State} {m : MethodId} {args : Array Value} {below : List Frame} {meth : Method} {c : Code} {D : va_G} {cs : JC} {b nL : Nat} {H0 : Heap} {Qf : ρ × JM → State → Prop} {M : JM} {ks sl : Nat} {lv : List (Nat × Value)} {pc : Nat} {st : List Value} {cc : ByteArray} {k : Nat} {K : JM → Option (ρ × JM)} (X : jX p c cc nL s m args RX4 D cs b meth H0) (hin : meth.name = "<init>") {x : Nat} (hdg : decode cc pc = .ok (.putfield 9, 3)) (ho : oty M k 14) (hx : oty M x 1) (kk : ∀ M2 : JM, gn M ≤ gn M2 → AWO p l e R s m args below meth c D cs b nL H0 Qf (K M2) M2 ks sl lv (pc + 3) st) : AWO p l e R s m args below meth c D cs b nL H0 Qf (sq (sr M k 0 (some x)) K) M ks sl lv pc (.ref (b + x) :: .ref (b + k) :: st) := aw_putR (ci := 4) (τ := 1) X 0 rfl gy_X4 tyX4 tyX4_ok nmX4 (by decide) (by decide) rfl (by decide) rfl wf_X4_9 rfl (fun a => ⟨rfl, rfl⟩) (Or.inr ⟨rfl, hin, rfl⟩) hdg ho hx (kk _ (Nat.le_refl _))
def f_X4_init (a0 : Nat) (M : JM) : Option (Unit × JM) := if shp (gn M) = (1, 300) then (sq (al M) fun M1 => sq (sr M1 a0 0 (some (gn M))) fun M4 => some ((), M4)) else none
set_option maxRecDepth 10000 in
set_option maxHeartbeats 4000000 in
theorem t_X4_init {l : Launch} {D : va_G} {cs : JC} {b : Nat} (a0 : Nat) (M : JM) (h_a0 : oty M a0 14) : ∀ q, f_X4_init a0 M = some q → CTy l yX4_init (.code yX4_init cX4_init 1 (Option.none) :: GB) rm_X4_init D cs b evV [.ref (b + a0)] M rm_X4_init.cells rm_X4_init.slots q := fun q hq => ct_of [(0, .ref (b + a0))] rfl rfl (Nat.le_of_ble_eq_true rfl) hq (fun p e s m args below meth c X hr hin => by
  refine aw_callq (F' := if shp (gn M) = (1, 300) then (sq (al M) fun M1 => sq (sr M1 a0 0 (some (gn M))) fun M4 => some ((), M4)) else none) rfl ?_
  refine aw_aload_n (pc := 0) X 0 dX4_init_0 rfl ?_
  refine aw_objInit (pc := 1) X wl_X4_3 wi_objInit wc_objInit dX4_init_1 (Nat.le_of_ble_eq_true rfl) (Nat.le_of_ble_eq_true rfl) ?_
  refine aw_aload_n (pc := 4) X 0 dX4_init_4 rfl ?_
  refine aw_sipush (pc := 5) X (300 : Int32) dX4_init_5 (by decide) ?_
  refine aw_newIQ (pc := 8) X (N' := 300) (by decide) rfl (Nat.le_of_ble_eq_true rfl) (Nat.le_of_ble_eq_true rfl) (Nat.le_of_ble_eq_true rfl) wr_int dX4_init_8 (fun M1 g2 h_r3 => ?_)
  have h_a0 := h_a0.mono g2
  refine pf_X4_9 (pc := 10) X hin dX4_init_10 h_a0 h_r3 (fun M4 g5 => ?_)
  have h_a0 := h_a0.mono g5
  exact aw_vret (pc := 13) X hr dX4_init_13 (Nat.le_of_ble_eq_true rfl) (Nat.le_of_ble_eq_true rfl))
/-! ReportBlocks$Reader.init -/
def rm_X3_init : Room := { frames := 1, cells := 0, slots := 0, locals := 20 }
theorem hd_X3_init : jHd yX3_init 1 := by unfold jHd; decide +kernel
theorem gf_X3_9 {ρ : Type} {l : Launch} {p : Program} {e : Env} {R : Room} {s : State} {m : MethodId} {args : Array Value} {below : List Frame} {meth : Method} {c : Code} {D : va_G} {cs : JC} {b nL : Nat} {H0 : Heap} {Qf : ρ × JM → State → Prop} {M : JM} {ks sl : Nat} {lv : List (Nat × Value)} {pc : Nat} {st : List Value} {cc : ByteArray} {k : Nat} (X : jX p c cc nL s m args RX3 D cs b meth H0) {K : Nat → Option (ρ × JM)} (hdg : decode cc pc = .ok (.getfield 9, 3)) (ho : oty M k 14) (kk : ∀ r : Nat, oty M r 1 → AWO p l e R s m args below meth c D cs b nL H0 Qf (K r) M ks sl lv (pc + 3) (.ref (b + r) :: st)) : AWO p l e R s m args below meth c D cs b nL H0 Qf (orf (gr M k 0) K) M ks sl lv pc (.ref (b + k) :: st) := aw_getR (ci := 4) (τ := 1) X 0 rfl gy_X4 (by decide) (by decide) rfl rfl (by decide) wf_X3_9 hdg ho kk
theorem pf_X3_15 {ρ : Type} {l : Launch} {p : Program} {e : Env} {R : Room} {s : State} {m : MethodId} {args : Array Value} {below : List Frame} {meth : Method} {c : Code} {D : va_G} {cs : JC} {b nL : Nat} {H0 : Heap} {Qf : ρ × JM → State → Prop} {M : JM} {ks sl : Nat} {lv : List (Nat × Value)} {pc : Nat} {st : List Value} {cc : ByteArray} {k : Nat} {K : JM → Option (ρ × JM)} (X : jX p c cc nL s m args RX3 D cs b meth H0) (hin : meth.name = "<init>") {x : Nat} (hdg : decode cc pc = .ok (.putfield 15, 3)) (ho : oty M k 13) (hx : oty M x 1) (kk : ∀ M2 : JM, gn M ≤ gn M2 → AWO p l e R s m args below meth c D cs b nL H0 Qf (K M2) M2 ks sl lv (pc + 3) st) : AWO p l e R s m args below meth c D cs b nL H0 Qf (sq (sr M k 0 (some x)) K) M ks sl lv pc (.ref (b + x) :: .ref (b + k) :: st) := aw_putR (ci := 3) (τ := 1) X 0 rfl gy_X3 tyX3 tyX3_ok nmX3 (by decide) (by decide) rfl (by decide) rfl wf_X3_15 rfl (fun a => ⟨rfl, rfl⟩) (Or.inr ⟨rfl, hin, rfl⟩) hdg ho hx (kk _ (Nat.le_refl _))
def f_X3_init (a0 : Nat) (a1 : Nat) (M : JM) : Option (Unit × JM) := orf (gr M a1 0) fun r1 => sq (sr M a0 0 (some r1)) fun M2 => some ((), M2)
set_option maxRecDepth 10000 in
set_option maxHeartbeats 4000000 in
theorem t_X3_init {l : Launch} {D : va_G} {cs : JC} {b : Nat} (a0 : Nat) (a1 : Nat) (M : JM) (h_a0 : oty M a0 13) (h_a1 : oty M a1 14) : ∀ q, f_X3_init a0 a1 M = some q → CTy l yX3_init (.code yX3_init cX3_init 2 (Option.none) :: GB) rm_X3_init D cs b evV [.ref (b + a0), .ref (b + a1)] M rm_X3_init.cells rm_X3_init.slots q := fun q hq => ct_of [(0, .ref (b + a0)), (1, .ref (b + a1))] rfl rfl (Nat.le_of_ble_eq_true rfl) hq (fun p e s m args below meth c X hr hin => by
  refine aw_callq (F' := orf (gr M a1 0) fun r1 => sq (sr M a0 0 (some r1)) fun M2 => some ((), M2)) rfl ?_
  refine aw_aload_n (pc := 0) X 0 dX3_init_0 rfl ?_
  refine aw_objInit (pc := 1) X wl_X3_3 wi_objInit wc_objInit dX3_init_1 (Nat.le_of_ble_eq_true rfl) (Nat.le_of_ble_eq_true rfl) ?_
  refine aw_aload_n (pc := 4) X 0 dX3_init_4 rfl ?_
  refine aw_aload_n (pc := 5) X 1 dX3_init_5 rfl ?_
  refine gf_X3_9 (pc := 6) X dX3_init_6 h_a1 (fun r1 h_r1 => ?_)
  refine pf_X3_15 (pc := 9) X hin dX3_init_9 h_a0 h_r1 (fun M2 g3 => ?_)
  have h_a0 := h_a0.mono g3
  have h_a1 := h_a1.mono g3
  exact aw_vret (pc := 12) X hr dX3_init_12 (Nat.le_of_ble_eq_true rfl) (Nat.le_of_ble_eq_true rfl))
/-! ReportBlocks$Block.init -/
def rm_X0_init : Room := { frames := 1, cells := 4, slots := 644, locals := 20 }
theorem hd_X0_init : jHd yX0_init 0 := by unfold jHd; decide +kernel
theorem pf_X0_9 {ρ : Type} {l : Launch} {p : Program} {e : Env} {R : Room} {s : State} {m : MethodId} {args : Array Value} {below : List Frame} {meth : Method} {c : Code} {D : va_G} {cs : JC} {b nL : Nat} {H0 : Heap} {Qf : ρ × JM → State → Prop} {M : JM} {ks sl : Nat} {lv : List (Nat × Value)} {pc : Nat} {st : List Value} {cc : ByteArray} {k : Nat} {K : JM → Option (ρ × JM)} (X : jX p c cc nL s m args RX0 D cs b meth H0) {x : Int32} (hdg : decode cc pc = .ok (.putfield 9, 3)) (ho : oty M k 10) (kk : ∀ M2 : JM, gn M ≤ gn M2 → AWO p l e R s m args below meth c D cs b nL H0 Qf (K M2) M2 ks sl lv (pc + 3) st) : AWO p l e R s m args below meth c D cs b nL H0 Qf (sq (si M k 0 x) K) M ks sl lv pc (.int x :: .ref (b + k) :: st) := aw_putI (ci := 0) X 0 rfl gy_X0 tyX0 tyX0_ok nmX0 (by decide) (by decide) rfl rfl wf_X0_9 rfl (Or.inl rfl) hdg ho (kk _ (Nat.le_refl _))
theorem pf_X0_15 {ρ : Type} {l : Launch} {p : Program} {e : Env} {R : Room} {s : State} {m : MethodId} {args : Array Value} {below : List Frame} {meth : Method} {c : Code} {D : va_G} {cs : JC} {b nL : Nat} {H0 : Heap} {Qf : ρ × JM → State → Prop} {M : JM} {ks sl : Nat} {lv : List (Nat × Value)} {pc : Nat} {st : List Value} {cc : ByteArray} {k : Nat} {K : JM → Option (ρ × JM)} (X : jX p c cc nL s m args RX0 D cs b meth H0) (hin : meth.name = "<init>") {x : Nat} (hdg : decode cc pc = .ok (.putfield 15, 3)) (ho : oty M k 10) (hx : oty M x 1) (kk : ∀ M2 : JM, gn M ≤ gn M2 → AWO p l e R s m args below meth c D cs b nL H0 Qf (K M2) M2 ks sl lv (pc + 3) st) : AWO p l e R s m args below meth c D cs b nL H0 Qf (sq (sr M k 2 (some x)) K) M ks sl lv pc (.ref (b + x) :: .ref (b + k) :: st) := aw_putR (ci := 0) (τ := 1) X 2 rfl gy_X0 tyX0 tyX0_ok nmX0 (by decide) (by decide) rfl (by decide) rfl wf_X0_15 rfl (fun a => ⟨rfl, rfl⟩) (Or.inr ⟨rfl, hin, rfl⟩) hdg ho hx (kk _ (Nat.le_refl _))
theorem pf_X0_19 {ρ : Type} {l : Launch} {p : Program} {e : Env} {R : Room} {s : State} {m : MethodId} {args : Array Value} {below : List Frame} {meth : Method} {c : Code} {D : va_G} {cs : JC} {b nL : Nat} {H0 : Heap} {Qf : ρ × JM → State → Prop} {M : JM} {ks sl : Nat} {lv : List (Nat × Value)} {pc : Nat} {st : List Value} {cc : ByteArray} {k : Nat} {K : JM → Option (ρ × JM)} (X : jX p c cc nL s m args RX0 D cs b meth H0) (hin : meth.name = "<init>") {x : Nat} (hdg : decode cc pc = .ok (.putfield 19, 3)) (ho : oty M k 10) (hx : oty M x 1) (kk : ∀ M2 : JM, gn M ≤ gn M2 → AWO p l e R s m args below meth c D cs b nL H0 Qf (K M2) M2 ks sl lv (pc + 3) st) : AWO p l e R s m args below meth c D cs b nL H0 Qf (sq (sr M k 4 (some x)) K) M ks sl lv pc (.ref (b + x) :: .ref (b + k) :: st) := aw_putR (ci := 0) (τ := 1) X 4 rfl gy_X0 tyX0 tyX0_ok nmX0 (by decide) (by decide) rfl (by decide) rfl wf_X0_19 rfl (fun a => ⟨rfl, rfl⟩) (Or.inr ⟨rfl, hin, rfl⟩) hdg ho hx (kk _ (Nat.le_refl _))
theorem pf_X0_22 {ρ : Type} {l : Launch} {p : Program} {e : Env} {R : Room} {s : State} {m : MethodId} {args : Array Value} {below : List Frame} {meth : Method} {c : Code} {D : va_G} {cs : JC} {b nL : Nat} {H0 : Heap} {Qf : ρ × JM → State → Prop} {M : JM} {ks sl : Nat} {lv : List (Nat × Value)} {pc : Nat} {st : List Value} {cc : ByteArray} {k : Nat} {K : JM → Option (ρ × JM)} (X : jX p c cc nL s m args RX0 D cs b meth H0) (hin : meth.name = "<init>") {x : Nat} (hdg : decode cc pc = .ok (.putfield 22, 3)) (ho : oty M k 10) (hx : oty M x 1) (kk : ∀ M2 : JM, gn M ≤ gn M2 → AWO p l e R s m args below meth c D cs b nL H0 Qf (K M2) M2 ks sl lv (pc + 3) st) : AWO p l e R s m args below meth c D cs b nL H0 Qf (sq (sr M k 5 (some x)) K) M ks sl lv pc (.ref (b + x) :: .ref (b + k) :: st) := aw_putR (ci := 0) (τ := 1) X 5 rfl gy_X0 tyX0 tyX0_ok nmX0 (by decide) (by decide) rfl (by decide) rfl wf_X0_22 rfl (fun a => ⟨rfl, rfl⟩) (Or.inr ⟨rfl, hin, rfl⟩) hdg ho hx (kk _ (Nat.le_refl _))
theorem pf_X0_25 {ρ : Type} {l : Launch} {p : Program} {e : Env} {R : Room} {s : State} {m : MethodId} {args : Array Value} {below : List Frame} {meth : Method} {c : Code} {D : va_G} {cs : JC} {b nL : Nat} {H0 : Heap} {Qf : ρ × JM → State → Prop} {M : JM} {ks sl : Nat} {lv : List (Nat × Value)} {pc : Nat} {st : List Value} {cc : ByteArray} {k : Nat} {K : JM → Option (ρ × JM)} (X : jX p c cc nL s m args RX0 D cs b meth H0) (hin : meth.name = "<init>") {x : Nat} (hdg : decode cc pc = .ok (.putfield 25, 3)) (ho : oty M k 10) (hx : oty M x 1) (kk : ∀ M2 : JM, gn M ≤ gn M2 → AWO p l e R s m args below meth c D cs b nL H0 Qf (K M2) M2 ks sl lv (pc + 3) st) : AWO p l e R s m args below meth c D cs b nL H0 Qf (sq (sr M k 6 (some x)) K) M ks sl lv pc (.ref (b + x) :: .ref (b + k) :: st) := aw_putR (ci := 0) (τ := 1) X 6 rfl gy_X0 tyX0 tyX0_ok nmX0 (by decide) (by decide) rfl (by decide) rfl wf_X0_25 rfl (fun a => ⟨rfl, rfl⟩) (Or.inr ⟨rfl, hin, rfl⟩) hdg ho hx (kk _ (Nat.le_refl _))
def f_X0_init (a0 : Nat) (M : JM) : Option (Unit × JM) := sq (si M a0 0 (-9 : Int32)) fun M1 => if shp (gn M1) = (1, 300) then (sq (al M1) fun M3 => sq (sr M3 a0 2 (some (gn M1))) fun M6 => if shp (gn M6) = (1, 8) then (sq (al M6) fun M8 => sq (sr M8 a0 4 (some (gn M6))) fun M11 => if shp (gn M11) = (1, 168) then (sq (al M11) fun M13 => sq (sr M13 a0 5 (some (gn M11))) fun M16 => if shp (gn M16) = (1, 168) then (sq (al M16) fun M18 => sq (sr M18 a0 6 (some (gn M16))) fun M21 => some ((), M21)) else none) else none) else none) else none
set_option maxRecDepth 10000 in
set_option maxHeartbeats 4000000 in
theorem t_X0_init {l : Launch} {D : va_G} {cs : JC} {b : Nat} (a0 : Nat) (M : JM) (h_a0 : oty M a0 10) : ∀ q, f_X0_init a0 M = some q → CTy l yX0_init (.code yX0_init cX0_init 1 (Option.none) :: GB) rm_X0_init D cs b evV [.ref (b + a0)] M rm_X0_init.cells rm_X0_init.slots q := fun q hq => ct_of [(0, .ref (b + a0))] rfl rfl (Nat.le_of_ble_eq_true rfl) hq (fun p e s m args below meth c X hr hin => by
  refine aw_callq (F' := sq (si M a0 0 (-9 : Int32)) fun M1 => if shp (gn M1) = (1, 300) then (sq (al M1) fun M3 => sq (sr M3 a0 2 (some (gn M1))) fun M6 => if shp (gn M6) = (1, 8) then (sq (al M6) fun M8 => sq (sr M8 a0 4 (some (gn M6))) fun M11 => if shp (gn M11) = (1, 168) then (sq (al M11) fun M13 => sq (sr M13 a0 5 (some (gn M11))) fun M16 => if shp (gn M16) = (1, 168) then (sq (al M16) fun M18 => sq (sr M18 a0 6 (some (gn M16))) fun M21 => some ((), M21)) else none) else none) else none) else none) rfl ?_
  refine aw_aload_n (pc := 0) X 0 dX0_init_0 rfl ?_
  refine aw_objInit (pc := 1) X wl_X0_3 wi_objInit wc_objInit dX0_init_1 (Nat.le_of_ble_eq_true rfl) (Nat.le_of_ble_eq_true rfl) ?_
  refine aw_aload_n (pc := 4) X 0 dX0_init_4 rfl ?_
  refine aw_bipush (pc := 5) X (-9 : Int32) dX0_init_5 (by decide) ?_
  refine pf_X0_9 (pc := 7) X dX0_init_7 h_a0 (fun M1 g2 => ?_)
  have h_a0 := h_a0.mono g2
  refine aw_aload_n (pc := 10) X 0 dX0_init_10 rfl ?_
  refine aw_sipush (pc := 11) X (300 : Int32) dX0_init_11 (by decide) ?_
  refine aw_newIQ (pc := 14) X (N' := 300) (by decide) rfl (Nat.le_of_ble_eq_true rfl) (Nat.le_of_ble_eq_true rfl) (Nat.le_of_ble_eq_true rfl) wr_int dX0_init_14 (fun M3 g4 h_r5 => ?_)
  have h_a0 := h_a0.mono g4
  refine pf_X0_15 (pc := 16) X hin dX0_init_16 h_a0 h_r5 (fun M6 g7 => ?_)
  have h_a0 := h_a0.mono g7
  refine aw_aload_n (pc := 19) X 0 dX0_init_19 rfl ?_
  refine aw_bipush (pc := 20) X (8 : Int32) dX0_init_20 (by decide) ?_
  refine aw_newIQ (pc := 22) X (N' := 8) (by decide) rfl (Nat.le_of_ble_eq_true rfl) (Nat.le_of_ble_eq_true rfl) (Nat.le_of_ble_eq_true rfl) wr_int dX0_init_22 (fun M8 g9 h_r10 => ?_)
  have h_a0 := h_a0.mono g9
  refine pf_X0_19 (pc := 24) X hin dX0_init_24 h_a0 h_r10 (fun M11 g12 => ?_)
  have h_a0 := h_a0.mono g12
  refine aw_aload_n (pc := 27) X 0 dX0_init_27 rfl ?_
  refine aw_sipush (pc := 28) X (168 : Int32) dX0_init_28 (by decide) ?_
  refine aw_newIQ (pc := 31) X (N' := 168) (by decide) rfl (Nat.le_of_ble_eq_true rfl) (Nat.le_of_ble_eq_true rfl) (Nat.le_of_ble_eq_true rfl) wr_int dX0_init_31 (fun M13 g14 h_r15 => ?_)
  have h_a0 := h_a0.mono g14
  refine pf_X0_22 (pc := 33) X hin dX0_init_33 h_a0 h_r15 (fun M16 g17 => ?_)
  have h_a0 := h_a0.mono g17
  refine aw_aload_n (pc := 36) X 0 dX0_init_36 rfl ?_
  refine aw_sipush (pc := 37) X (168 : Int32) dX0_init_37 (by decide) ?_
  refine aw_newIQ (pc := 40) X (N' := 168) (by decide) rfl (Nat.le_of_ble_eq_true rfl) (Nat.le_of_ble_eq_true rfl) (Nat.le_of_ble_eq_true rfl) wr_int dX0_init_40 (fun M18 g19 h_r20 => ?_)
  have h_a0 := h_a0.mono g19
  refine pf_X0_25 (pc := 42) X hin dX0_init_42 h_a0 h_r20 (fun M21 g22 => ?_)
  have h_a0 := h_a0.mono g22
  exact aw_vret (pc := 45) X hr dX0_init_45 (Nat.le_of_ble_eq_true rfl) (Nat.le_of_ble_eq_true rfl))
/-! ReportBlocks$OwnRecord.init -/
def rm_X2_init : Room := { frames := 1, cells := 2, slots := 1240, locals := 20 }
theorem hd_X2_init : jHd yX2_init 0 := by unfold jHd; decide +kernel
theorem pf_X2_9 {ρ : Type} {l : Launch} {p : Program} {e : Env} {R : Room} {s : State} {m : MethodId} {args : Array Value} {below : List Frame} {meth : Method} {c : Code} {D : va_G} {cs : JC} {b nL : Nat} {H0 : Heap} {Qf : ρ × JM → State → Prop} {M : JM} {ks sl : Nat} {lv : List (Nat × Value)} {pc : Nat} {st : List Value} {cc : ByteArray} {k : Nat} {K : JM → Option (ρ × JM)} (X : jX p c cc nL s m args RX2 D cs b meth H0) {x : Int32} (hdg : decode cc pc = .ok (.putfield 9, 3)) (ho : oty M k 12) (kk : ∀ M2 : JM, gn M ≤ gn M2 → AWO p l e R s m args below meth c D cs b nL H0 Qf (K M2) M2 ks sl lv (pc + 3) st) : AWO p l e R s m args below meth c D cs b nL H0 Qf (sq (si M k 0 x) K) M ks sl lv pc (.int x :: .ref (b + k) :: st) := aw_putI (ci := 2) X 0 rfl gy_X2 tyX2 tyX2_ok nmX2 (by decide) (by decide) rfl rfl wf_X2_9 rfl (Or.inl rfl) hdg ho (kk _ (Nat.le_refl _))
theorem pf_X2_15 {ρ : Type} {l : Launch} {p : Program} {e : Env} {R : Room} {s : State} {m : MethodId} {args : Array Value} {below : List Frame} {meth : Method} {c : Code} {D : va_G} {cs : JC} {b nL : Nat} {H0 : Heap} {Qf : ρ × JM → State → Prop} {M : JM} {ks sl : Nat} {lv : List (Nat × Value)} {pc : Nat} {st : List Value} {cc : ByteArray} {k : Nat} {K : JM → Option (ρ × JM)} (X : jX p c cc nL s m args RX2 D cs b meth H0) (hin : meth.name = "<init>") {x : Nat} (hdg : decode cc pc = .ok (.putfield 15, 3)) (ho : oty M k 12) (hx : oty M x 1) (kk : ∀ M2 : JM, gn M ≤ gn M2 → AWO p l e R s m args below meth c D cs b nL H0 Qf (K M2) M2 ks sl lv (pc + 3) st) : AWO p l e R s m args below meth c D cs b nL H0 Qf (sq (sr M k 1 (some x)) K) M ks sl lv pc (.ref (b + x) :: .ref (b + k) :: st) := aw_putR (ci := 2) (τ := 1) X 1 rfl gy_X2 tyX2 tyX2_ok nmX2 (by decide) (by decide) rfl (by decide) rfl wf_X2_15 rfl (fun a => ⟨rfl, rfl⟩) (Or.inr ⟨rfl, hin, rfl⟩) hdg ho hx (kk _ (Nat.le_refl _))
theorem pf_X2_19 {ρ : Type} {l : Launch} {p : Program} {e : Env} {R : Room} {s : State} {m : MethodId} {args : Array Value} {below : List Frame} {meth : Method} {c : Code} {D : va_G} {cs : JC} {b nL : Nat} {H0 : Heap} {Qf : ρ × JM → State → Prop} {M : JM} {ks sl : Nat} {lv : List (Nat × Value)} {pc : Nat} {st : List Value} {cc : ByteArray} {k : Nat} {K : JM → Option (ρ × JM)} (X : jX p c cc nL s m args RX2 D cs b meth H0) (hin : meth.name = "<init>") {x : Nat} (hdg : decode cc pc = .ok (.putfield 19, 3)) (ho : oty M k 12) (hx : oty M x 1) (kk : ∀ M2 : JM, gn M ≤ gn M2 → AWO p l e R s m args below meth c D cs b nL H0 Qf (K M2) M2 ks sl lv (pc + 3) st) : AWO p l e R s m args below meth c D cs b nL H0 Qf (sq (sr M k 2 (some x)) K) M ks sl lv pc (.ref (b + x) :: .ref (b + k) :: st) := aw_putR (ci := 2) (τ := 1) X 2 rfl gy_X2 tyX2 tyX2_ok nmX2 (by decide) (by decide) rfl (by decide) rfl wf_X2_19 rfl (fun a => ⟨rfl, rfl⟩) (Or.inr ⟨rfl, hin, rfl⟩) hdg ho hx (kk _ (Nat.le_refl _))
def f_X2_init (a0 : Nat) (M : JM) : Option (Unit × JM) := sq (si M a0 0 (-9 : Int32)) fun M1 => if shp (gn M1) = (1, 1218) then (sq (al M1) fun M3 => sq (sr M3 a0 1 (some (gn M1))) fun M6 => if shp (gn M6) = (1, 22) then (sq (al M6) fun M8 => sq (sr M8 a0 2 (some (gn M6))) fun M11 => some ((), M11)) else none) else none
set_option maxRecDepth 10000 in
set_option maxHeartbeats 4000000 in
theorem t_X2_init {l : Launch} {D : va_G} {cs : JC} {b : Nat} (a0 : Nat) (M : JM) (h_a0 : oty M a0 12) : ∀ q, f_X2_init a0 M = some q → CTy l yX2_init (.code yX2_init cX2_init 1 (Option.none) :: GB) rm_X2_init D cs b evV [.ref (b + a0)] M rm_X2_init.cells rm_X2_init.slots q := fun q hq => ct_of [(0, .ref (b + a0))] rfl rfl (Nat.le_of_ble_eq_true rfl) hq (fun p e s m args below meth c X hr hin => by
  refine aw_callq (F' := sq (si M a0 0 (-9 : Int32)) fun M1 => if shp (gn M1) = (1, 1218) then (sq (al M1) fun M3 => sq (sr M3 a0 1 (some (gn M1))) fun M6 => if shp (gn M6) = (1, 22) then (sq (al M6) fun M8 => sq (sr M8 a0 2 (some (gn M6))) fun M11 => some ((), M11)) else none) else none) rfl ?_
  refine aw_aload_n (pc := 0) X 0 dX2_init_0 rfl ?_
  refine aw_objInit (pc := 1) X wl_X2_3 wi_objInit wc_objInit dX2_init_1 (Nat.le_of_ble_eq_true rfl) (Nat.le_of_ble_eq_true rfl) ?_
  refine aw_aload_n (pc := 4) X 0 dX2_init_4 rfl ?_
  refine aw_bipush (pc := 5) X (-9 : Int32) dX2_init_5 (by decide) ?_
  refine pf_X2_9 (pc := 7) X dX2_init_7 h_a0 (fun M1 g2 => ?_)
  have h_a0 := h_a0.mono g2
  refine aw_aload_n (pc := 10) X 0 dX2_init_10 rfl ?_
  refine aw_sipush (pc := 11) X (1218 : Int32) dX2_init_11 (by decide) ?_
  refine aw_newIQ (pc := 14) X (N' := 1218) (by decide) rfl (Nat.le_of_ble_eq_true rfl) (Nat.le_of_ble_eq_true rfl) (Nat.le_of_ble_eq_true rfl) wr_int dX2_init_14 (fun M3 g4 h_r5 => ?_)
  have h_a0 := h_a0.mono g4
  refine pf_X2_15 (pc := 16) X hin dX2_init_16 h_a0 h_r5 (fun M6 g7 => ?_)
  have h_a0 := h_a0.mono g7
  refine aw_aload_n (pc := 19) X 0 dX2_init_19 rfl ?_
  refine aw_bipush (pc := 20) X (22 : Int32) dX2_init_20 (by decide) ?_
  refine aw_newIQ (pc := 22) X (N' := 22) (by decide) rfl (Nat.le_of_ble_eq_true rfl) (Nat.le_of_ble_eq_true rfl) (Nat.le_of_ble_eq_true rfl) wr_int dX2_init_22 (fun M8 g9 h_r10 => ?_)
  have h_a0 := h_a0.mono g9
  refine pf_X2_19 (pc := 24) X hin dX2_init_24 h_a0 h_r10 (fun M11 g12 => ?_)
  have h_a0 := h_a0.mono g12
  exact aw_vret (pc := 27) X hr dX2_init_27 (Nat.le_of_ble_eq_true rfl) (Nat.le_of_ble_eq_true rfl))
/-! ReportBlocks$Track.init -/
def rm_X5_init : Room := { frames := 1, cells := 0, slots := 0, locals := 20 }
theorem hd_X5_init : jHd yX5_init 0 := by unfold jHd; decide +kernel
def f_X5_init (a0 : Nat) (M : JM) : Option (Unit × JM) := some ((), M)
set_option maxRecDepth 10000 in
set_option maxHeartbeats 4000000 in
theorem t_X5_init {l : Launch} {D : va_G} {cs : JC} {b : Nat} (a0 : Nat) (M : JM) (h_a0 : oty M a0 15) : ∀ q, f_X5_init a0 M = some q → CTy l yX5_init (.code yX5_init cX5_init 1 (Option.none) :: GB) rm_X5_init D cs b evV [.ref (b + a0)] M rm_X5_init.cells rm_X5_init.slots q := fun q hq => ct_of [(0, .ref (b + a0))] rfl rfl (Nat.le_of_ble_eq_true rfl) hq (fun p e s m args below meth c X hr hin => by
  refine aw_callq (F' := some ((), M)) rfl ?_
  refine aw_aload_n (pc := 0) X 0 dX5_init_0 rfl ?_
  refine aw_objInit (pc := 1) X wl_X5_3 wi_objInit wc_objInit dX5_init_1 (Nat.le_of_ble_eq_true rfl) (Nat.le_of_ble_eq_true rfl) ?_
  exact aw_vret (pc := 4) X hr dX5_init_4 (Nat.le_of_ble_eq_true rfl) (Nat.le_of_ble_eq_true rfl))
/-! ReportBlocks$TrackRow.init -/
def rm_X6_init : Room := { frames := 2, cells := 4148, slots := 41885, locals := 40 }
theorem hd_X6_init : jHd yX6_init 0 := by unfold jHd; decide +kernel
theorem pf_X6_11 {ρ : Type} {l : Launch} {p : Program} {e : Env} {R : Room} {s : State} {m : MethodId} {args : Array Value} {below : List Frame} {meth : Method} {c : Code} {D : va_G} {cs : JC} {b nL : Nat} {H0 : Heap} {Qf : ρ × JM → State → Prop} {M : JM} {ks sl : Nat} {lv : List (Nat × Value)} {pc : Nat} {st : List Value} {cc : ByteArray} {k : Nat} {K : JM → Option (ρ × JM)} (X : jX p c cc nL s m args RX6 D cs b meth H0) (hin : meth.name = "<init>") {x : Nat} (hdg : decode cc pc = .ok (.putfield 11, 3)) (ho : oty M k 16) (hx : oty M x 4) (kk : ∀ M2 : JM, gn M ≤ gn M2 → AWO p l e R s m args below meth c D cs b nL H0 Qf (K M2) M2 ks sl lv (pc + 3) st) : AWO p l e R s m args below meth c D cs b nL H0 Qf (sq (sr M k 0 (some x)) K) M ks sl lv pc (.ref (b + x) :: .ref (b + k) :: st) := aw_putR (ci := 6) (τ := 4) X 0 rfl gy_X6 tyX6 tyX6_ok nmX6 (by decide) (by decide) rfl (by decide) rfl wf_X6_11 rfl (fun a => ⟨rfl, rfl⟩) (Or.inr ⟨rfl, hin, rfl⟩) hdg ho hx (kk _ (Nat.le_refl _))
theorem gf_X6_11 {ρ : Type} {l : Launch} {p : Program} {e : Env} {R : Room} {s : State} {m : MethodId} {args : Array Value} {below : List Frame} {meth : Method} {c : Code} {D : va_G} {cs : JC} {b nL : Nat} {H0 : Heap} {Qf : ρ × JM → State → Prop} {M : JM} {ks sl : Nat} {lv : List (Nat × Value)} {pc : Nat} {st : List Value} {cc : ByteArray} {k : Nat} (X : jX p c cc nL s m args RX6 D cs b meth H0) {K : Nat → Option (ρ × JM)} (hdg : decode cc pc = .ok (.getfield 11, 3)) (ho : oty M k 16) (kk : ∀ r : Nat, oty M r 4 → AWO p l e R s m args below meth c D cs b nL H0 Qf (K r) M ks sl lv (pc + 3) (.ref (b + r) :: st)) : AWO p l e R s m args below meth c D cs b nL H0 Qf (orf (gr M k 0) K) M ks sl lv pc (.ref (b + k) :: st) := aw_getR (ci := 6) (τ := 4) X 0 rfl gy_X6 (by decide) (by decide) rfl rfl (by decide) wf_X6_11 hdg ho kk
theorem nwo_X6_9 {ρ : Type} {l : Launch} {p : Program} {e : Env} {R : Room} {s : State} {m : MethodId} {args : Array Value} {below : List Frame} {meth : Method} {c : Code} {D : va_G} {cs : JC} {b nL : Nat} {H0 : Heap} {Qf : ρ × JM → State → Prop} {M : JM} {ks sl : Nat} {lv : List (Nat × Value)} {pc : Nat} {st : List Value} {cc : ByteArray} {K : JM → Option (ρ × JM)} (X : jX p c cc nL s m args RX6 D cs b meth H0) (hcells : ks + 1 ≤ R.cells) (hslots : sl + 9 ≤ R.slots) (hdg : decode cc pc = .ok (.new 9, 3)) (kk : ∀ M2 : JM, gn M ≤ gn M2 → oty M2 (gn M) 15 → AWO p l e R s m args below meth c D cs b nL H0 Qf (K M2) M2 (ks + 1) (sl + 9) lv (pc + 3) (.ref (b + gn M) :: st)) : AWO p l e R s m args below meth c D cs b nL H0 Qf (if shp (gn M) = (0, 5) then sq (al M) K else none) M ks sl lv pc st := aw_new (ci := 5) X rfl gy_X5 tyX5 tyX5_ok rfl (by decide) wk_X6_9 wb_X5 wn_X5 hcells hslots hdg (fun h => kk _ (by rw [gn_al]; exact Nat.le_succ _) h)
theorem cl_X6_17 {ρ : Type} {l : Launch} {p : Program} {e : Env} {R : Room} {s : State} {m : MethodId} {args : Array Value} {below : List Frame} {meth : Method} {c : Code} {D : va_G} {cs : JC} {b nL : Nat} {H0 : Heap} {Qf : ρ × JM → State → Prop} {M : JM} {ks sl : Nat} {lv : List (Nat × Value)} {pc : Nat} {st : List Value} {cc : ByteArray} (X : jX p c cc nL s m args RX6 D cs b meth H0) {z0 : Nat} {K : JM → Option (ρ × JM)} (hrm : jRm rm_X5_init 1 R) (hW : (st.map fun v => v.category).sum ≤ 8) {ks2 sl2 : Nat} (hk2 : ks + rm_X5_init.cells = ks2) (hs2 : sl + rm_X5_init.slots = sl2) (hroom : ks2 ≤ R.cells ∧ sl2 ≤ R.slots) (hdg : decode cc pc = .ok (.invokespecial 17, 3)) (h0 : oty M z0 15) (kk : ∀ (M2 : JM), gn M ≤ gn M2 → AWO p l e R s m args below meth c D cs b nL H0 Qf (K M2) M2 ks2 sl2 lv (pc + 3) (st)) : AWO p l e R s m args below meth c D cs b nL H0 Qf (ob (f_X5_init z0 M) (fun _ => K)) M ks sl lv pc (.ref (b + z0) :: st) := by
  subst hk2
  subst hs2
  exact aw_callIN X "ReportBlocks" [] st rfl (X.2.2.2.2.2.1.2.1) wi_X5_init wc_X5_init wn_X5 rfl (n := 0) hd_X5_init rfl hrm hW hroom hdg (t_X5_init z0 M h0) (fun _ M2 g _ => kk M2 g)
def f_X6_init_L15 : Nat → Nat → Int32 → JM → Option (Unit × JM)
  | 0, _, _, _ => none
  | n + 1, a0, v1, M => if v1 < (12 : Int32) then (orf (gr M a0 0) fun r7 => if shp (gn M) = (0, 5) then (sq (al M) fun M8 => ob (f_X5_init (gn M) M8) fun _ M11 => if 0 ≤ v1 ∧ v1 < ln r7 then (sq (sr M11 r7 v1 (some (gn M))) fun M13 => sv (v1 + (1 : Int32)) fun i15 => (f_X6_init_L15 n) a0 i15 M13) else none) else none) else (some ((), M))
set_option maxRecDepth 10000 in
set_option maxHeartbeats 4000000 in
theorem t_X6_init_L15 {p : Program} {l : Launch} {e : Env} {s : State} {m : MethodId} {args : Array Value} {below : List Frame} {meth : Method} {c : Code} {D : va_G} {cs : JC} {b : Nat} (X : jX p c cX6_init 2 s m args RX6 D cs b meth s.heap) (hr : meth.sig.returnType = Option.none) (hin : meth.name = "<init>") : ∀ (n : Nat) (a0 : Nat) (v1 : Int32) (M : JM), oty M a0 16 → ∀ ks sl : Nat, ks + 1 * n + 20 ≤ 4148 → sl + 9 * n + 3000 ≤ 41885 → AWO p l e rm_X6_init s m args below meth c D cs b 2 s.heap (jE below D cs b evV args s rm_X6_init.cells rm_X6_init.slots) (f_X6_init_L15 n a0 v1 M) M ks sl [(0, .ref (b + a0)), (1, .int v1)] 15 [] := by
  intro n
  induction n with
  | zero => intro a0 v1 M h_a0 ks sl hks hsl; exact aw_none
  | succ n ih =>
    intro a0 v1 M h_a0 ks sl hks hsl
    refine aw_callq (F' := if v1 < (12 : Int32) then (orf (gr M a0 0) fun r7 => if shp (gn M) = (0, 5) then (sq (al M) fun M8 => ob (f_X5_init (gn M) M8) fun _ M11 => if 0 ≤ v1 ∧ v1 < ln r7 then (sq (sr M11 r7 v1 (some (gn M))) fun M13 => sv (v1 + (1 : Int32)) fun i15 => (f_X6_init_L15 n) a0 i15 M13) else none) else none) else (some ((), M))) rfl ?_
    refine aw_iload_n (pc := 15) X 1 dX6_init_15 rfl ?_
    refine aw_bipush (pc := 16) X (12 : Int32) dX6_init_16 (by decide) ?_
    refine aw_icmpge (pc := 18) X 40 dX6_init_18 (by decide) ?_ ?_
    · refine aw_aload_n (pc := 21) X 0 dX6_init_21 rfl ?_
      refine gf_X6_11 (pc := 22) X dX6_init_22 h_a0 (fun r7 h_r7 => ?_)
      refine aw_iload_n (pc := 25) X 1 dX6_init_25 rfl ?_
      refine nwo_X6_9 (pc := 26) X (by have e0 : FU = 4096 := rfl; have c9 : rm_X6_init.cells = 4148 := rfl; have s9 : rm_X6_init.slots = 41885 := rfl; omega) (by have e0 : FU = 4096 := rfl; have c9 : rm_X6_init.cells = 4148 := rfl; have s9 : rm_X6_init.slots = 41885 := rfl; omega) dX6_init_26 (fun M8 g9 h_r10 => ?_)
      have h_a0 := h_a0.mono g9
      have h_r7 := h_r7.mono g9
      refine aw_dup_a (pc := 29) X dX6_init_29 ?_
      refine cl_X6_17 (pc := 30) X ⟨Nat.le_of_ble_eq_true rfl, Nat.le_of_ble_eq_true rfl⟩ (Nat.le_of_ble_eq_true rfl) (ks2 := (ks + 1)) (sl2 := (sl + 9)) rfl rfl ⟨(by have e0 : FU = 4096 := rfl; have c9 : rm_X6_init.cells = 4148 := rfl; have s9 : rm_X6_init.slots = 41885 := rfl; omega), (by have e0 : FU = 4096 := rfl; have c9 : rm_X6_init.cells = 4148 := rfl; have s9 : rm_X6_init.slots = 41885 := rfl; omega)⟩ dX6_init_30 h_r10 (fun M11 g12 => ?_)
      have h_a0 := h_a0.mono g12
      have h_r10 := h_r10.mono g12
      have h_r7 := h_r7.mono g12
      refine aw_astTQ (pc := 33) X dX6_init_33 h_r7 h_r10 (fun M13 g14 => ?_)
      have h_a0 := h_a0.mono g14
      refine aw_iincV (pc := 34) X (fun y => [(1, .int y), (0, .ref (b + a0))]) 1 (v := (v1 + (1 : Int32))) dX6_init_34 rfl rfl (by decide) (fun _ => rfl) (fun i15 => ?_)
      refine aw_goto (pc := 37) X 15 dX6_init_37 (by decide) ?_
      refine aw_sub [1, 0] rfl ?_
      exact ih a0 i15 M13 h_a0 _ _ (by have e0 : FU = 4096 := rfl; have c9 : rm_X6_init.cells = 4148 := rfl; have s9 : rm_X6_init.slots = 41885 := rfl; omega) (by have e0 : FU = 4096 := rfl; have c9 : rm_X6_init.cells = 4148 := rfl; have s9 : rm_X6_init.slots = 41885 := rfl; omega)
    · exact aw_vret (pc := 40) X hr dX6_init_40 (by have e0 : FU = 4096 := rfl; have c9 : rm_X6_init.cells = 4148 := rfl; have s9 : rm_X6_init.slots = 41885 := rfl; omega) (by have e0 : FU = 4096 := rfl; have c9 : rm_X6_init.cells = 4148 := rfl; have s9 : rm_X6_init.slots = 41885 := rfl; omega)
def f_X6_init (a0 : Nat) (M : JM) : Option (Unit × JM) := if shp (gn M) = (4, 12) then (sq (al M) fun M1 => sq (sr M1 a0 0 (some (gn M))) fun M4 => sv (0 : Int32) fun i6 => f_X6_init_L15 FU a0 i6 M4) else none
set_option maxRecDepth 10000 in
set_option maxHeartbeats 4000000 in
theorem t_X6_init {l : Launch} {D : va_G} {cs : JC} {b : Nat} (a0 : Nat) (M : JM) (h_a0 : oty M a0 16) : ∀ q, f_X6_init a0 M = some q → CTy l yX6_init (.code yX6_init cX6_init 2 (Option.none) :: GB) rm_X6_init D cs b evV [.ref (b + a0)] M rm_X6_init.cells rm_X6_init.slots q := fun q hq => ct_of [(0, .ref (b + a0))] rfl rfl (Nat.le_of_ble_eq_true rfl) hq (fun p e s m args below meth c X hr hin => by
  refine aw_callq (F' := if shp (gn M) = (4, 12) then (sq (al M) fun M1 => sq (sr M1 a0 0 (some (gn M))) fun M4 => sv (0 : Int32) fun i6 => f_X6_init_L15 FU a0 i6 M4) else none) rfl ?_
  refine aw_aload_n (pc := 0) X 0 dX6_init_0 rfl ?_
  refine aw_objInit (pc := 1) X wl_X6_3 wi_objInit wc_objInit dX6_init_1 (Nat.le_of_ble_eq_true rfl) (Nat.le_of_ble_eq_true rfl) ?_
  refine aw_aload_n (pc := 4) X 0 dX6_init_4 rfl ?_
  refine aw_bipush (pc := 5) X (12 : Int32) dX6_init_5 (by decide) ?_
  refine aw_newTQ (pc := 7) X (N' := 12) (by decide) rfl (Nat.le_of_ble_eq_true rfl) (by have e0 : FU = 4096 := rfl; have c9 : rm_X6_init.cells = 4148 := rfl; have s9 : rm_X6_init.slots = 41885 := rfl; omega) (by have e0 : FU = 4096 := rfl; have c9 : rm_X6_init.cells = 4148 := rfl; have s9 : rm_X6_init.slots = 41885 := rfl; omega) wk_X6_9 dX6_init_7 (fun M1 g2 h_r3 => ?_)
  have h_a0 := h_a0.mono g2
  refine pf_X6_11 (pc := 10) X hin dX6_init_10 h_a0 h_r3 (fun M4 g5 => ?_)
  have h_a0 := h_a0.mono g5
  refine aw_iconst (pc := 13) X (0 : Int32) dX6_init_13 (by decide) ?_
  refine aw_istoreV_n (pc := 14) X (fun y => [(1, .int y), (0, .ref (b + a0))]) dX6_init_14 (by decide) (fun _ => rfl) (fun i6 => ?_)
  refine aw_sub [1, 0] rfl ?_
  exact t_X6_init_L15 X hr hin FU a0 i6 M4 h_a0 _ _ (by have e0 : FU = 4096 := rfl; have c9 : rm_X6_init.cells = 4148 := rfl; have s9 : rm_X6_init.slots = 41885 := rfl; omega) (by have e0 : FU = 4096 := rfl; have c9 : rm_X6_init.cells = 4148 := rfl; have s9 : rm_X6_init.slots = 41885 := rfl; omega))
/-! ReportBlocks.init -/
def rm_X7_init : Room := { frames := 3, cells := 4166, slots := 44746, locals := 61 }
theorem hd_X7_init : jHd yX7_init 0 := by unfold jHd; decide +kernel
theorem pf_X7_11 {ρ : Type} {l : Launch} {p : Program} {e : Env} {R : Room} {s : State} {m : MethodId} {args : Array Value} {below : List Frame} {meth : Method} {c : Code} {D : va_G} {cs : JC} {b nL : Nat} {H0 : Heap} {Qf : ρ × JM → State → Prop} {M : JM} {ks sl : Nat} {lv : List (Nat × Value)} {pc : Nat} {st : List Value} {cc : ByteArray} {k : Nat} {K : JM → Option (ρ × JM)} (X : jX p c cc nL s m args RX7 D cs b meth H0) (hin : meth.name = "<init>") {x : Nat} (hdg : decode cc pc = .ok (.putfield 11, 3)) (ho : oty M k 17) (hx : oty M x 3) (kk : ∀ M2 : JM, gn M ≤ gn M2 → AWO p l e R s m args below meth c D cs b nL H0 Qf (K M2) M2 ks sl lv (pc + 3) st) : AWO p l e R s m args below meth c D cs b nL H0 Qf (sq (sr M k 0 (some x)) K) M ks sl lv pc (.ref (b + x) :: .ref (b + k) :: st) := aw_putR (ci := 7) (τ := 3) X 0 rfl gy_X7 tyX7 tyX7_ok nmX7 (by decide) (by decide) rfl (by decide) rfl wf_X7_11 rfl (fun a => ⟨rfl, rfl⟩) (Or.inr ⟨rfl, hin, rfl⟩) hdg ho hx (kk _ (Nat.le_refl _))
theorem nwo_X7_15 {ρ : Type} {l : Launch} {p : Program} {e : Env} {R : Room} {s : State} {m : MethodId} {args : Array Value} {below : List Frame} {meth : Method} {c : Code} {D : va_G} {cs : JC} {b nL : Nat} {H0 : Heap} {Qf : ρ × JM → State → Prop} {M : JM} {ks sl : Nat} {lv : List (Nat × Value)} {pc : Nat} {st : List Value} {cc : ByteArray} {K : JM → Option (ρ × JM)} (X : jX p c cc nL s m args RX7 D cs b meth H0) (hcells : ks + 1 ≤ R.cells) (hslots : sl + 2 ≤ R.slots) (hdg : decode cc pc = .ok (.new 15, 3)) (kk : ∀ M2 : JM, gn M ≤ gn M2 → oty M2 (gn M) 14 → AWO p l e R s m args below meth c D cs b nL H0 Qf (K M2) M2 (ks + 1) (sl + 2) lv (pc + 3) (.ref (b + gn M) :: st)) : AWO p l e R s m args below meth c D cs b nL H0 Qf (if shp (gn M) = (0, 4) then sq (al M) K else none) M ks sl lv pc st := aw_new (ci := 4) X rfl gy_X4 tyX4 tyX4_ok rfl (by decide) wk_X7_15 wb_X4 wn_X4 hcells hslots hdg (fun h => kk _ (by rw [gn_al]; exact Nat.le_succ _) h)
theorem cl_X7_17 {ρ : Type} {l : Launch} {p : Program} {e : Env} {R : Room} {s : State} {m : MethodId} {args : Array Value} {below : List Frame} {meth : Method} {c : Code} {D : va_G} {cs : JC} {b nL : Nat} {H0 : Heap} {Qf : ρ × JM → State → Prop} {M : JM} {ks sl : Nat} {lv : List (Nat × Value)} {pc : Nat} {st : List Value} {cc : ByteArray} (X : jX p c cc nL s m args RX7 D cs b meth H0) {z0 : Nat} {K : JM → Option (ρ × JM)} (hrm : jRm rm_X4_init 1 R) (hW : (st.map fun v => v.category).sum ≤ 8) {ks2 sl2 : Nat} (hk2 : ks + rm_X4_init.cells = ks2) (hs2 : sl + rm_X4_init.slots = sl2) (hroom : ks2 ≤ R.cells ∧ sl2 ≤ R.slots) (hdg : decode cc pc = .ok (.invokespecial 17, 3)) (h0 : oty M z0 14) (kk : ∀ (M2 : JM), gn M ≤ gn M2 → AWO p l e R s m args below meth c D cs b nL H0 Qf (K M2) M2 ks2 sl2 lv (pc + 3) (st)) : AWO p l e R s m args below meth c D cs b nL H0 Qf (ob (f_X4_init z0 M) (fun _ => K)) M ks sl lv pc (.ref (b + z0) :: st) := by
  subst hk2
  subst hs2
  exact aw_callI X [] st rfl wl_X7_17 wi_X4_init wc_X4_init wn_X4 rfl (n := 0) hd_X4_init rfl hrm hW hroom hdg (t_X4_init z0 M h0) (fun _ M2 g _ => kk M2 g)
theorem pf_X7_18 {ρ : Type} {l : Launch} {p : Program} {e : Env} {R : Room} {s : State} {m : MethodId} {args : Array Value} {below : List Frame} {meth : Method} {c : Code} {D : va_G} {cs : JC} {b nL : Nat} {H0 : Heap} {Qf : ρ × JM → State → Prop} {M : JM} {ks sl : Nat} {lv : List (Nat × Value)} {pc : Nat} {st : List Value} {cc : ByteArray} {k : Nat} {K : JM → Option (ρ × JM)} (X : jX p c cc nL s m args RX7 D cs b meth H0) (hin : meth.name = "<init>") {x : Nat} (hdg : decode cc pc = .ok (.putfield 18, 3)) (ho : oty M k 17) (hx : oty M x 14) (kk : ∀ M2 : JM, gn M ≤ gn M2 → AWO p l e R s m args below meth c D cs b nL H0 Qf (K M2) M2 ks sl lv (pc + 3) st) : AWO p l e R s m args below meth c D cs b nL H0 Qf (sq (sr M k 2 (some x)) K) M ks sl lv pc (.ref (b + x) :: .ref (b + k) :: st) := aw_putR (ci := 7) (τ := 14) X 2 rfl gy_X7 tyX7 tyX7_ok nmX7 (by decide) (by decide) rfl (by decide) rfl wf_X7_18 rfl (fun a => ⟨rfl, rfl⟩) (Or.inr ⟨rfl, hin, rfl⟩) hdg ho hx (kk _ (Nat.le_refl _))
theorem nwo_X7_22 {ρ : Type} {l : Launch} {p : Program} {e : Env} {R : Room} {s : State} {m : MethodId} {args : Array Value} {below : List Frame} {meth : Method} {c : Code} {D : va_G} {cs : JC} {b nL : Nat} {H0 : Heap} {Qf : ρ × JM → State → Prop} {M : JM} {ks sl : Nat} {lv : List (Nat × Value)} {pc : Nat} {st : List Value} {cc : ByteArray} {K : JM → Option (ρ × JM)} (X : jX p c cc nL s m args RX7 D cs b meth H0) (hcells : ks + 1 ≤ R.cells) (hslots : sl + 6 ≤ R.slots) (hdg : decode cc pc = .ok (.new 22, 3)) (kk : ∀ M2 : JM, gn M ≤ gn M2 → oty M2 (gn M) 13 → AWO p l e R s m args below meth c D cs b nL H0 Qf (K M2) M2 (ks + 1) (sl + 6) lv (pc + 3) (.ref (b + gn M) :: st)) : AWO p l e R s m args below meth c D cs b nL H0 Qf (if shp (gn M) = (0, 3) then sq (al M) K else none) M ks sl lv pc st := aw_new (ci := 3) X rfl gy_X3 tyX3 tyX3_ok rfl (by decide) wk_X7_22 wb_X3 wn_X3 hcells hslots hdg (fun h => kk _ (by rw [gn_al]; exact Nat.le_succ _) h)
theorem gf_X7_18 {ρ : Type} {l : Launch} {p : Program} {e : Env} {R : Room} {s : State} {m : MethodId} {args : Array Value} {below : List Frame} {meth : Method} {c : Code} {D : va_G} {cs : JC} {b nL : Nat} {H0 : Heap} {Qf : ρ × JM → State → Prop} {M : JM} {ks sl : Nat} {lv : List (Nat × Value)} {pc : Nat} {st : List Value} {cc : ByteArray} {k : Nat} (X : jX p c cc nL s m args RX7 D cs b meth H0) {K : Nat → Option (ρ × JM)} (hdg : decode cc pc = .ok (.getfield 18, 3)) (ho : oty M k 17) (kk : ∀ r : Nat, oty M r 14 → AWO p l e R s m args below meth c D cs b nL H0 Qf (K r) M ks sl lv (pc + 3) (.ref (b + r) :: st)) : AWO p l e R s m args below meth c D cs b nL H0 Qf (orf (gr M k 2) K) M ks sl lv pc (.ref (b + k) :: st) := aw_getR (ci := 7) (τ := 14) X 2 rfl gy_X7 (by decide) (by decide) rfl rfl (by decide) wf_X7_18 hdg ho kk
theorem cl_X7_24 {ρ : Type} {l : Launch} {p : Program} {e : Env} {R : Room} {s : State} {m : MethodId} {args : Array Value} {below : List Frame} {meth : Method} {c : Code} {D : va_G} {cs : JC} {b nL : Nat} {H0 : Heap} {Qf : ρ × JM → State → Prop} {M : JM} {ks sl : Nat} {lv : List (Nat × Value)} {pc : Nat} {st : List Value} {cc : ByteArray} (X : jX p c cc nL s m args RX7 D cs b meth H0) {z0 : Nat} {z1 : Nat} {K : JM → Option (ρ × JM)} (hrm : jRm rm_X3_init 2 R) (hW : (st.map fun v => v.category).sum ≤ 8) {ks2 sl2 : Nat} (hk2 : ks + rm_X3_init.cells = ks2) (hs2 : sl + rm_X3_init.slots = sl2) (hroom : ks2 ≤ R.cells ∧ sl2 ≤ R.slots) (hdg : decode cc pc = .ok (.invokespecial 24, 3)) (h0 : oty M z0 13) (h1 : oty M z1 14) (kk : ∀ (M2 : JM), gn M ≤ gn M2 → AWO p l e R s m args below meth c D cs b nL H0 Qf (K M2) M2 ks2 sl2 lv (pc + 3) (st)) : AWO p l e R s m args below meth c D cs b nL H0 Qf (ob (f_X3_init z0 z1 M) (fun _ => K)) M ks sl lv pc (.ref (b + z1) :: .ref (b + z0) :: st) := by
  subst hk2
  subst hs2
  exact aw_callI X [.ref (b + z1)] st rfl wl_X7_24 wi_X3_init wc_X3_init wn_X3 rfl (n := 1) hd_X3_init rfl hrm hW hroom hdg (t_X3_init z0 z1 M h0 h1) (fun _ M2 g _ => kk M2 g)
theorem pf_X7_27 {ρ : Type} {l : Launch} {p : Program} {e : Env} {R : Room} {s : State} {m : MethodId} {args : Array Value} {below : List Frame} {meth : Method} {c : Code} {D : va_G} {cs : JC} {b nL : Nat} {H0 : Heap} {Qf : ρ × JM → State → Prop} {M : JM} {ks sl : Nat} {lv : List (Nat × Value)} {pc : Nat} {st : List Value} {cc : ByteArray} {k : Nat} {K : JM → Option (ρ × JM)} (X : jX p c cc nL s m args RX7 D cs b meth H0) (hin : meth.name = "<init>") {x : Nat} (hdg : decode cc pc = .ok (.putfield 27, 3)) (ho : oty M k 17) (hx : oty M x 13) (kk : ∀ M2 : JM, gn M ≤ gn M2 → AWO p l e R s m args below meth c D cs b nL H0 Qf (K M2) M2 ks sl lv (pc + 3) st) : AWO p l e R s m args below meth c D cs b nL H0 Qf (sq (sr M k 3 (some x)) K) M ks sl lv pc (.ref (b + x) :: .ref (b + k) :: st) := aw_putR (ci := 7) (τ := 13) X 3 rfl gy_X7 tyX7 tyX7_ok nmX7 (by decide) (by decide) rfl (by decide) rfl wf_X7_27 rfl (fun a => ⟨rfl, rfl⟩) (Or.inr ⟨rfl, hin, rfl⟩) hdg ho hx (kk _ (Nat.le_refl _))
theorem nwo_X7_31 {ρ : Type} {l : Launch} {p : Program} {e : Env} {R : Room} {s : State} {m : MethodId} {args : Array Value} {below : List Frame} {meth : Method} {c : Code} {D : va_G} {cs : JC} {b nL : Nat} {H0 : Heap} {Qf : ρ × JM → State → Prop} {M : JM} {ks sl : Nat} {lv : List (Nat × Value)} {pc : Nat} {st : List Value} {cc : ByteArray} {K : JM → Option (ρ × JM)} (X : jX p c cc nL s m args RX7 D cs b meth H0) (hcells : ks + 1 ≤ R.cells) (hslots : sl + 7 ≤ R.slots) (hdg : decode cc pc = .ok (.new 31, 3)) (kk : ∀ M2 : JM, gn M ≤ gn M2 → oty M2 (gn M) 10 → AWO p l e R s m args below meth c D cs b nL H0 Qf (K M2) M2 (ks + 1) (sl + 7) lv (pc + 3) (.ref (b + gn M) :: st)) : AWO p l e R s m args below meth c D cs b nL H0 Qf (if shp (gn M) = (0, 0) then sq (al M) K else none) M ks sl lv pc st := aw_new (ci := 0) X rfl gy_X0 tyX0 tyX0_ok rfl (by decide) wk_X7_31 wb_X0 wn_X0 hcells hslots hdg (fun h => kk _ (by rw [gn_al]; exact Nat.le_succ _) h)
theorem cl_X7_33 {ρ : Type} {l : Launch} {p : Program} {e : Env} {R : Room} {s : State} {m : MethodId} {args : Array Value} {below : List Frame} {meth : Method} {c : Code} {D : va_G} {cs : JC} {b nL : Nat} {H0 : Heap} {Qf : ρ × JM → State → Prop} {M : JM} {ks sl : Nat} {lv : List (Nat × Value)} {pc : Nat} {st : List Value} {cc : ByteArray} (X : jX p c cc nL s m args RX7 D cs b meth H0) {z0 : Nat} {K : JM → Option (ρ × JM)} (hrm : jRm rm_X0_init 1 R) (hW : (st.map fun v => v.category).sum ≤ 8) {ks2 sl2 : Nat} (hk2 : ks + rm_X0_init.cells = ks2) (hs2 : sl + rm_X0_init.slots = sl2) (hroom : ks2 ≤ R.cells ∧ sl2 ≤ R.slots) (hdg : decode cc pc = .ok (.invokespecial 33, 3)) (h0 : oty M z0 10) (kk : ∀ (M2 : JM), gn M ≤ gn M2 → AWO p l e R s m args below meth c D cs b nL H0 Qf (K M2) M2 ks2 sl2 lv (pc + 3) (st)) : AWO p l e R s m args below meth c D cs b nL H0 Qf (ob (f_X0_init z0 M) (fun _ => K)) M ks sl lv pc (.ref (b + z0) :: st) := by
  subst hk2
  subst hs2
  exact aw_callI X [] st rfl wl_X7_33 wi_X0_init wc_X0_init wn_X0 rfl (n := 0) hd_X0_init rfl hrm hW hroom hdg (t_X0_init z0 M h0) (fun _ M2 g _ => kk M2 g)
theorem pf_X7_34 {ρ : Type} {l : Launch} {p : Program} {e : Env} {R : Room} {s : State} {m : MethodId} {args : Array Value} {below : List Frame} {meth : Method} {c : Code} {D : va_G} {cs : JC} {b nL : Nat} {H0 : Heap} {Qf : ρ × JM → State → Prop} {M : JM} {ks sl : Nat} {lv : List (Nat × Value)} {pc : Nat} {st : List Value} {cc : ByteArray} {k : Nat} {K : JM → Option (ρ × JM)} (X : jX p c cc nL s m args RX7 D cs b meth H0) {x : Nat} (hdg : decode cc pc = .ok (.putfield 34, 3)) (ho : oty M k 17) (hx : oty M x 10) (kk : ∀ M2 : JM, gn M ≤ gn M2 → AWO p l e R s m args below meth c D cs b nL H0 Qf (K M2) M2 ks sl lv (pc + 3) st) : AWO p l e R s m args below meth c D cs b nL H0 Qf (sq (sr M k 4 (some x)) K) M ks sl lv pc (.ref (b + x) :: .ref (b + k) :: st) := aw_putR (ci := 7) (τ := 10) X 4 rfl gy_X7 tyX7 tyX7_ok nmX7 (by decide) (by decide) rfl (by decide) rfl wf_X7_34 rfl (fun a => ⟨rfl, rfl⟩) (Or.inl rfl) hdg ho hx (kk _ (Nat.le_refl _))
theorem pf_X7_38 {ρ : Type} {l : Launch} {p : Program} {e : Env} {R : Room} {s : State} {m : MethodId} {args : Array Value} {below : List Frame} {meth : Method} {c : Code} {D : va_G} {cs : JC} {b nL : Nat} {H0 : Heap} {Qf : ρ × JM → State → Prop} {M : JM} {ks sl : Nat} {lv : List (Nat × Value)} {pc : Nat} {st : List Value} {cc : ByteArray} {k : Nat} {K : JM → Option (ρ × JM)} (X : jX p c cc nL s m args RX7 D cs b meth H0) {x : Nat} (hdg : decode cc pc = .ok (.putfield 38, 3)) (ho : oty M k 17) (hx : oty M x 10) (kk : ∀ M2 : JM, gn M ≤ gn M2 → AWO p l e R s m args below meth c D cs b nL H0 Qf (K M2) M2 ks sl lv (pc + 3) st) : AWO p l e R s m args below meth c D cs b nL H0 Qf (sq (sr M k 5 (some x)) K) M ks sl lv pc (.ref (b + x) :: .ref (b + k) :: st) := aw_putR (ci := 7) (τ := 10) X 5 rfl gy_X7 tyX7 tyX7_ok nmX7 (by decide) (by decide) rfl (by decide) rfl wf_X7_38 rfl (fun a => ⟨rfl, rfl⟩) (Or.inl rfl) hdg ho hx (kk _ (Nat.le_refl _))
theorem nwo_X7_41 {ρ : Type} {l : Launch} {p : Program} {e : Env} {R : Room} {s : State} {m : MethodId} {args : Array Value} {below : List Frame} {meth : Method} {c : Code} {D : va_G} {cs : JC} {b nL : Nat} {H0 : Heap} {Qf : ρ × JM → State → Prop} {M : JM} {ks sl : Nat} {lv : List (Nat × Value)} {pc : Nat} {st : List Value} {cc : ByteArray} {K : JM → Option (ρ × JM)} (X : jX p c cc nL s m args RX7 D cs b meth H0) (hcells : ks + 1 ≤ R.cells) (hslots : sl + 3 ≤ R.slots) (hdg : decode cc pc = .ok (.new 41, 3)) (kk : ∀ M2 : JM, gn M ≤ gn M2 → oty M2 (gn M) 12 → AWO p l e R s m args below meth c D cs b nL H0 Qf (K M2) M2 (ks + 1) (sl + 3) lv (pc + 3) (.ref (b + gn M) :: st)) : AWO p l e R s m args below meth c D cs b nL H0 Qf (if shp (gn M) = (0, 2) then sq (al M) K else none) M ks sl lv pc st := aw_new (ci := 2) X rfl gy_X2 tyX2 tyX2_ok rfl (by decide) wk_X7_41 wb_X2 wn_X2 hcells hslots hdg (fun h => kk _ (by rw [gn_al]; exact Nat.le_succ _) h)
theorem cl_X7_43 {ρ : Type} {l : Launch} {p : Program} {e : Env} {R : Room} {s : State} {m : MethodId} {args : Array Value} {below : List Frame} {meth : Method} {c : Code} {D : va_G} {cs : JC} {b nL : Nat} {H0 : Heap} {Qf : ρ × JM → State → Prop} {M : JM} {ks sl : Nat} {lv : List (Nat × Value)} {pc : Nat} {st : List Value} {cc : ByteArray} (X : jX p c cc nL s m args RX7 D cs b meth H0) {z0 : Nat} {K : JM → Option (ρ × JM)} (hrm : jRm rm_X2_init 1 R) (hW : (st.map fun v => v.category).sum ≤ 8) {ks2 sl2 : Nat} (hk2 : ks + rm_X2_init.cells = ks2) (hs2 : sl + rm_X2_init.slots = sl2) (hroom : ks2 ≤ R.cells ∧ sl2 ≤ R.slots) (hdg : decode cc pc = .ok (.invokespecial 43, 3)) (h0 : oty M z0 12) (kk : ∀ (M2 : JM), gn M ≤ gn M2 → AWO p l e R s m args below meth c D cs b nL H0 Qf (K M2) M2 ks2 sl2 lv (pc + 3) (st)) : AWO p l e R s m args below meth c D cs b nL H0 Qf (ob (f_X2_init z0 M) (fun _ => K)) M ks sl lv pc (.ref (b + z0) :: st) := by
  subst hk2
  subst hs2
  exact aw_callI X [] st rfl wl_X7_43 wi_X2_init wc_X2_init wn_X2 rfl (n := 0) hd_X2_init rfl hrm hW hroom hdg (t_X2_init z0 M h0) (fun _ M2 g _ => kk M2 g)
theorem pf_X7_44 {ρ : Type} {l : Launch} {p : Program} {e : Env} {R : Room} {s : State} {m : MethodId} {args : Array Value} {below : List Frame} {meth : Method} {c : Code} {D : va_G} {cs : JC} {b nL : Nat} {H0 : Heap} {Qf : ρ × JM → State → Prop} {M : JM} {ks sl : Nat} {lv : List (Nat × Value)} {pc : Nat} {st : List Value} {cc : ByteArray} {k : Nat} {K : JM → Option (ρ × JM)} (X : jX p c cc nL s m args RX7 D cs b meth H0) (hin : meth.name = "<init>") {x : Nat} (hdg : decode cc pc = .ok (.putfield 44, 3)) (ho : oty M k 17) (hx : oty M x 12) (kk : ∀ M2 : JM, gn M ≤ gn M2 → AWO p l e R s m args below meth c D cs b nL H0 Qf (K M2) M2 ks sl lv (pc + 3) st) : AWO p l e R s m args below meth c D cs b nL H0 Qf (sq (sr M k 6 (some x)) K) M ks sl lv pc (.ref (b + x) :: .ref (b + k) :: st) := aw_putR (ci := 7) (τ := 12) X 6 rfl gy_X7 tyX7 tyX7_ok nmX7 (by decide) (by decide) rfl (by decide) rfl wf_X7_44 rfl (fun a => ⟨rfl, rfl⟩) (Or.inr ⟨rfl, hin, rfl⟩) hdg ho hx (kk _ (Nat.le_refl _))
theorem nwo_X7_48 {ρ : Type} {l : Launch} {p : Program} {e : Env} {R : Room} {s : State} {m : MethodId} {args : Array Value} {below : List Frame} {meth : Method} {c : Code} {D : va_G} {cs : JC} {b nL : Nat} {H0 : Heap} {Qf : ρ × JM → State → Prop} {M : JM} {ks sl : Nat} {lv : List (Nat × Value)} {pc : Nat} {st : List Value} {cc : ByteArray} {K : JM → Option (ρ × JM)} (X : jX p c cc nL s m args RX7 D cs b meth H0) (hcells : ks + 1 ≤ R.cells) (hslots : sl + 5 ≤ R.slots) (hdg : decode cc pc = .ok (.new 48, 3)) (kk : ∀ M2 : JM, gn M ≤ gn M2 → oty M2 (gn M) 16 → AWO p l e R s m args below meth c D cs b nL H0 Qf (K M2) M2 (ks + 1) (sl + 5) lv (pc + 3) (.ref (b + gn M) :: st)) : AWO p l e R s m args below meth c D cs b nL H0 Qf (if shp (gn M) = (0, 6) then sq (al M) K else none) M ks sl lv pc st := aw_new (ci := 6) X rfl gy_X6 tyX6 tyX6_ok rfl (by decide) wk_X7_48 wb_X6 wn_X6 hcells hslots hdg (fun h => kk _ (by rw [gn_al]; exact Nat.le_succ _) h)
theorem cl_X7_50 {ρ : Type} {l : Launch} {p : Program} {e : Env} {R : Room} {s : State} {m : MethodId} {args : Array Value} {below : List Frame} {meth : Method} {c : Code} {D : va_G} {cs : JC} {b nL : Nat} {H0 : Heap} {Qf : ρ × JM → State → Prop} {M : JM} {ks sl : Nat} {lv : List (Nat × Value)} {pc : Nat} {st : List Value} {cc : ByteArray} (X : jX p c cc nL s m args RX7 D cs b meth H0) {z0 : Nat} {K : JM → Option (ρ × JM)} (hrm : jRm rm_X6_init 2 R) (hW : (st.map fun v => v.category).sum ≤ 8) {ks2 sl2 : Nat} (hk2 : ks + rm_X6_init.cells = ks2) (hs2 : sl + rm_X6_init.slots = sl2) (hroom : ks2 ≤ R.cells ∧ sl2 ≤ R.slots) (hdg : decode cc pc = .ok (.invokespecial 50, 3)) (h0 : oty M z0 16) (kk : ∀ (M2 : JM), gn M ≤ gn M2 → AWO p l e R s m args below meth c D cs b nL H0 Qf (K M2) M2 ks2 sl2 lv (pc + 3) (st)) : AWO p l e R s m args below meth c D cs b nL H0 Qf (ob (f_X6_init z0 M) (fun _ => K)) M ks sl lv pc (.ref (b + z0) :: st) := by
  subst hk2
  subst hs2
  exact aw_callI X [] st rfl wl_X7_50 wi_X6_init wc_X6_init wn_X6 rfl (n := 0) hd_X6_init rfl hrm hW hroom hdg (t_X6_init z0 M h0) (fun _ M2 g _ => kk M2 g)
theorem pf_X7_51 {ρ : Type} {l : Launch} {p : Program} {e : Env} {R : Room} {s : State} {m : MethodId} {args : Array Value} {below : List Frame} {meth : Method} {c : Code} {D : va_G} {cs : JC} {b nL : Nat} {H0 : Heap} {Qf : ρ × JM → State → Prop} {M : JM} {ks sl : Nat} {lv : List (Nat × Value)} {pc : Nat} {st : List Value} {cc : ByteArray} {k : Nat} {K : JM → Option (ρ × JM)} (X : jX p c cc nL s m args RX7 D cs b meth H0) (hin : meth.name = "<init>") {x : Nat} (hdg : decode cc pc = .ok (.putfield 51, 3)) (ho : oty M k 17) (hx : oty M x 16) (kk : ∀ M2 : JM, gn M ≤ gn M2 → AWO p l e R s m args below meth c D cs b nL H0 Qf (K M2) M2 ks sl lv (pc + 3) st) : AWO p l e R s m args below meth c D cs b nL H0 Qf (sq (sr M k 7 (some x)) K) M ks sl lv pc (.ref (b + x) :: .ref (b + k) :: st) := aw_putR (ci := 7) (τ := 16) X 7 rfl gy_X7 tyX7 tyX7_ok nmX7 (by decide) (by decide) rfl (by decide) rfl wf_X7_51 rfl (fun a => ⟨rfl, rfl⟩) (Or.inr ⟨rfl, hin, rfl⟩) hdg ho hx (kk _ (Nat.le_refl _))
def f_X7_init (a0 : Nat) (M : JM) : Option (Unit × JM) := if shp (gn M) = (3, 3) then (sq (al M) fun M1 => sq (sr M1 a0 0 (some (gn M))) fun M4 => if shp (gn M4) = (0, 4) then (sq (al M4) fun M6 => ob (f_X4_init (gn M4) M6) fun _ M9 => sq (sr M9 a0 2 (some (gn M4))) fun M11 => if shp (gn M11) = (0, 3) then (sq (al M11) fun M13 => orf (gr M13 a0 2) fun r16 => ob (f_X3_init (gn M11) r16 M13) fun _ M17 => sq (sr M17 a0 3 (some (gn M11))) fun M19 => if shp (gn M19) = (0, 0) then (sq (al M19) fun M21 => ob (f_X0_init (gn M19) M21) fun _ M24 => sq (sr M24 a0 4 (some (gn M19))) fun M26 => if shp (gn M26) = (0, 0) then (sq (al M26) fun M28 => ob (f_X0_init (gn M26) M28) fun _ M31 => sq (sr M31 a0 5 (some (gn M26))) fun M33 => if shp (gn M33) = (0, 2) then (sq (al M33) fun M35 => ob (f_X2_init (gn M33) M35) fun _ M38 => sq (sr M38 a0 6 (some (gn M33))) fun M40 => if shp (gn M40) = (0, 6) then (sq (al M40) fun M42 => ob (f_X6_init (gn M40) M42) fun _ M45 => sq (sr M45 a0 7 (some (gn M40))) fun M47 => some ((), M47)) else none) else none) else none) else none) else none) else none) else none
set_option maxRecDepth 10000 in
set_option maxHeartbeats 4000000 in
theorem t_X7_init {l : Launch} {D : va_G} {cs : JC} {b : Nat} (a0 : Nat) (M : JM) (h_a0 : oty M a0 17) : ∀ q, f_X7_init a0 M = some q → CTy l yX7_init (.code yX7_init cX7_init 1 (Option.none) :: GB) rm_X7_init D cs b evV [.ref (b + a0)] M rm_X7_init.cells rm_X7_init.slots q := fun q hq => ct_of [(0, .ref (b + a0))] rfl rfl (Nat.le_of_ble_eq_true rfl) hq (fun p e s m args below meth c X hr hin => by
  refine aw_callq (F' := if shp (gn M) = (3, 3) then (sq (al M) fun M1 => sq (sr M1 a0 0 (some (gn M))) fun M4 => if shp (gn M4) = (0, 4) then (sq (al M4) fun M6 => ob (f_X4_init (gn M4) M6) fun _ M9 => sq (sr M9 a0 2 (some (gn M4))) fun M11 => if shp (gn M11) = (0, 3) then (sq (al M11) fun M13 => orf (gr M13 a0 2) fun r16 => ob (f_X3_init (gn M11) r16 M13) fun _ M17 => sq (sr M17 a0 3 (some (gn M11))) fun M19 => if shp (gn M19) = (0, 0) then (sq (al M19) fun M21 => ob (f_X0_init (gn M19) M21) fun _ M24 => sq (sr M24 a0 4 (some (gn M19))) fun M26 => if shp (gn M26) = (0, 0) then (sq (al M26) fun M28 => ob (f_X0_init (gn M26) M28) fun _ M31 => sq (sr M31 a0 5 (some (gn M26))) fun M33 => if shp (gn M33) = (0, 2) then (sq (al M33) fun M35 => ob (f_X2_init (gn M33) M35) fun _ M38 => sq (sr M38 a0 6 (some (gn M33))) fun M40 => if shp (gn M40) = (0, 6) then (sq (al M40) fun M42 => ob (f_X6_init (gn M40) M42) fun _ M45 => sq (sr M45 a0 7 (some (gn M40))) fun M47 => some ((), M47)) else none) else none) else none) else none) else none) else none) else none) rfl ?_
  refine aw_aload_n (pc := 0) X 0 dX7_init_0 rfl ?_
  refine aw_objInit (pc := 1) X wl_X7_3 wi_objInit wc_objInit dX7_init_1 (Nat.le_of_ble_eq_true rfl) (Nat.le_of_ble_eq_true rfl) ?_
  refine aw_aload_n (pc := 4) X 0 dX7_init_4 rfl ?_
  refine aw_iconst (pc := 5) X (3 : Int32) dX7_init_5 (by decide) ?_
  refine aw_newCQ (pc := 6) X (N' := 3) (by decide) rfl (Nat.le_of_ble_eq_true rfl) (Nat.le_of_ble_eq_true rfl) (Nat.le_of_ble_eq_true rfl) wk_X7_9 dX7_init_6 (fun M1 g2 h_r3 => ?_)
  have h_a0 := h_a0.mono g2
  refine pf_X7_11 (pc := 9) X hin dX7_init_9 h_a0 h_r3 (fun M4 g5 => ?_)
  have h_a0 := h_a0.mono g5
  refine aw_aload_n (pc := 12) X 0 dX7_init_12 rfl ?_
  refine nwo_X7_15 (pc := 13) X (Nat.le_of_ble_eq_true rfl) (Nat.le_of_ble_eq_true rfl) dX7_init_13 (fun M6 g7 h_r8 => ?_)
  have h_a0 := h_a0.mono g7
  refine aw_dup_a (pc := 16) X dX7_init_16 ?_
  refine cl_X7_17 (pc := 17) X ⟨Nat.le_of_ble_eq_true rfl, Nat.le_of_ble_eq_true rfl⟩ (Nat.le_of_ble_eq_true rfl) (ks2 := 3) (sl2 := 305) rfl rfl ⟨(Nat.le_of_ble_eq_true rfl), (Nat.le_of_ble_eq_true rfl)⟩ dX7_init_17 h_r8 (fun M9 g10 => ?_)
  have h_a0 := h_a0.mono g10
  have h_r8 := h_r8.mono g10
  refine pf_X7_18 (pc := 20) X hin dX7_init_20 h_a0 h_r8 (fun M11 g12 => ?_)
  have h_a0 := h_a0.mono g12
  refine aw_aload_n (pc := 23) X 0 dX7_init_23 rfl ?_
  refine nwo_X7_22 (pc := 24) X (Nat.le_of_ble_eq_true rfl) (Nat.le_of_ble_eq_true rfl) dX7_init_24 (fun M13 g14 h_r15 => ?_)
  have h_a0 := h_a0.mono g14
  refine aw_dup_a (pc := 27) X dX7_init_27 ?_
  refine aw_aload_n (pc := 28) X 0 dX7_init_28 rfl ?_
  refine gf_X7_18 (pc := 29) X dX7_init_29 h_a0 (fun r16 h_r16 => ?_)
  refine cl_X7_24 (pc := 32) X ⟨Nat.le_of_ble_eq_true rfl, Nat.le_of_ble_eq_true rfl⟩ (Nat.le_of_ble_eq_true rfl) (ks2 := 4) (sl2 := 311) rfl rfl ⟨(Nat.le_of_ble_eq_true rfl), (Nat.le_of_ble_eq_true rfl)⟩ dX7_init_32 h_r15 h_r16 (fun M17 g18 => ?_)
  have h_a0 := h_a0.mono g18
  have h_r15 := h_r15.mono g18
  refine pf_X7_27 (pc := 35) X hin dX7_init_35 h_a0 h_r15 (fun M19 g20 => ?_)
  have h_a0 := h_a0.mono g20
  refine aw_aload_n (pc := 38) X 0 dX7_init_38 rfl ?_
  refine nwo_X7_31 (pc := 39) X (Nat.le_of_ble_eq_true rfl) (Nat.le_of_ble_eq_true rfl) dX7_init_39 (fun M21 g22 h_r23 => ?_)
  have h_a0 := h_a0.mono g22
  refine aw_dup_a (pc := 42) X dX7_init_42 ?_
  refine cl_X7_33 (pc := 43) X ⟨Nat.le_of_ble_eq_true rfl, Nat.le_of_ble_eq_true rfl⟩ (Nat.le_of_ble_eq_true rfl) (ks2 := 9) (sl2 := 962) rfl rfl ⟨(Nat.le_of_ble_eq_true rfl), (Nat.le_of_ble_eq_true rfl)⟩ dX7_init_43 h_r23 (fun M24 g25 => ?_)
  have h_a0 := h_a0.mono g25
  have h_r23 := h_r23.mono g25
  refine pf_X7_34 (pc := 46) X dX7_init_46 h_a0 h_r23 (fun M26 g27 => ?_)
  have h_a0 := h_a0.mono g27
  refine aw_aload_n (pc := 49) X 0 dX7_init_49 rfl ?_
  refine nwo_X7_31 (pc := 50) X (Nat.le_of_ble_eq_true rfl) (Nat.le_of_ble_eq_true rfl) dX7_init_50 (fun M28 g29 h_r30 => ?_)
  have h_a0 := h_a0.mono g29
  refine aw_dup_a (pc := 53) X dX7_init_53 ?_
  refine cl_X7_33 (pc := 54) X ⟨Nat.le_of_ble_eq_true rfl, Nat.le_of_ble_eq_true rfl⟩ (Nat.le_of_ble_eq_true rfl) (ks2 := 14) (sl2 := 1613) rfl rfl ⟨(Nat.le_of_ble_eq_true rfl), (Nat.le_of_ble_eq_true rfl)⟩ dX7_init_54 h_r30 (fun M31 g32 => ?_)
  have h_a0 := h_a0.mono g32
  have h_r30 := h_r30.mono g32
  refine pf_X7_38 (pc := 57) X dX7_init_57 h_a0 h_r30 (fun M33 g34 => ?_)
  have h_a0 := h_a0.mono g34
  refine aw_aload_n (pc := 60) X 0 dX7_init_60 rfl ?_
  refine nwo_X7_41 (pc := 61) X (Nat.le_of_ble_eq_true rfl) (Nat.le_of_ble_eq_true rfl) dX7_init_61 (fun M35 g36 h_r37 => ?_)
  have h_a0 := h_a0.mono g36
  refine aw_dup_a (pc := 64) X dX7_init_64 ?_
  refine cl_X7_43 (pc := 65) X ⟨Nat.le_of_ble_eq_true rfl, Nat.le_of_ble_eq_true rfl⟩ (Nat.le_of_ble_eq_true rfl) (ks2 := 17) (sl2 := 2856) rfl rfl ⟨(Nat.le_of_ble_eq_true rfl), (Nat.le_of_ble_eq_true rfl)⟩ dX7_init_65 h_r37 (fun M38 g39 => ?_)
  have h_a0 := h_a0.mono g39
  have h_r37 := h_r37.mono g39
  refine pf_X7_44 (pc := 68) X hin dX7_init_68 h_a0 h_r37 (fun M40 g41 => ?_)
  have h_a0 := h_a0.mono g41
  refine aw_aload_n (pc := 71) X 0 dX7_init_71 rfl ?_
  refine nwo_X7_48 (pc := 72) X (Nat.le_of_ble_eq_true rfl) (Nat.le_of_ble_eq_true rfl) dX7_init_72 (fun M42 g43 h_r44 => ?_)
  have h_a0 := h_a0.mono g43
  refine aw_dup_a (pc := 75) X dX7_init_75 ?_
  refine cl_X7_50 (pc := 76) X ⟨Nat.le_of_ble_eq_true rfl, Nat.le_of_ble_eq_true rfl⟩ (Nat.le_of_ble_eq_true rfl) (ks2 := 4166) (sl2 := 44746) rfl rfl ⟨(Nat.le_of_ble_eq_true rfl), (Nat.le_of_ble_eq_true rfl)⟩ dX7_init_76 h_r44 (fun M45 g46 => ?_)
  have h_a0 := h_a0.mono g46
  have h_r44 := h_r44.mono g46
  refine pf_X7_51 (pc := 79) X hin dX7_init_79 h_a0 h_r44 (fun M47 g48 => ?_)
  have h_a0 := h_a0.mono g48
  exact aw_vret (pc := 82) X hr dX7_init_82 (Nat.le_of_ble_eq_true rfl) (Nat.le_of_ble_eq_true rfl))
/-! ReportBlocksModel.init -/
def rm_X8_init : Room := { frames := 1, cells := 28, slots := 3893, locals := 20 }
theorem hd_X8_init : jHd yX8_init 0 := by unfold jHd; decide +kernel
theorem pf_X8_7 {ρ : Type} {l : Launch} {p : Program} {e : Env} {R : Room} {s : State} {m : MethodId} {args : Array Value} {below : List Frame} {meth : Method} {c : Code} {D : va_G} {cs : JC} {b nL : Nat} {H0 : Heap} {Qf : ρ × JM → State → Prop} {M : JM} {ks sl : Nat} {lv : List (Nat × Value)} {pc : Nat} {st : List Value} {cc : ByteArray} {k : Nat} {K : JM → Option (ρ × JM)} (X : jX p c cc nL s m args RX8 D cs b meth H0) (hin : meth.name = "<init>") {x : Nat} (hdg : decode cc pc = .ok (.putfield 7, 3)) (ho : oty M k 18) (hx : oty M x 1) (kk : ∀ M2 : JM, gn M ≤ gn M2 → AWO p l e R s m args below meth c D cs b nL H0 Qf (K M2) M2 ks sl lv (pc + 3) st) : AWO p l e R s m args below meth c D cs b nL H0 Qf (sq (sr M k 1 (some x)) K) M ks sl lv pc (.ref (b + x) :: .ref (b + k) :: st) := aw_putR (ci := 8) (τ := 1) X 1 rfl gy_X8 tyX8 tyX8_ok nmX8 (by decide) (by decide) rfl (by decide) rfl wf_X8_7 rfl (fun a => ⟨rfl, rfl⟩) (Or.inr ⟨rfl, hin, rfl⟩) hdg ho hx (kk _ (Nat.le_refl _))
theorem pf_X8_13 {ρ : Type} {l : Launch} {p : Program} {e : Env} {R : Room} {s : State} {m : MethodId} {args : Array Value} {below : List Frame} {meth : Method} {c : Code} {D : va_G} {cs : JC} {b nL : Nat} {H0 : Heap} {Qf : ρ × JM → State → Prop} {M : JM} {ks sl : Nat} {lv : List (Nat × Value)} {pc : Nat} {st : List Value} {cc : ByteArray} {k : Nat} {K : JM → Option (ρ × JM)} (X : jX p c cc nL s m args RX8 D cs b meth H0) (hin : meth.name = "<init>") {x : Nat} (hdg : decode cc pc = .ok (.putfield 13, 3)) (ho : oty M k 18) (hx : oty M x 1) (kk : ∀ M2 : JM, gn M ≤ gn M2 → AWO p l e R s m args below meth c D cs b nL H0 Qf (K M2) M2 ks sl lv (pc + 3) st) : AWO p l e R s m args below meth c D cs b nL H0 Qf (sq (sr M k 2 (some x)) K) M ks sl lv pc (.ref (b + x) :: .ref (b + k) :: st) := aw_putR (ci := 8) (τ := 1) X 2 rfl gy_X8 tyX8 tyX8_ok nmX8 (by decide) (by decide) rfl (by decide) rfl wf_X8_13 rfl (fun a => ⟨rfl, rfl⟩) (Or.inr ⟨rfl, hin, rfl⟩) hdg ho hx (kk _ (Nat.le_refl _))
theorem pf_X8_16 {ρ : Type} {l : Launch} {p : Program} {e : Env} {R : Room} {s : State} {m : MethodId} {args : Array Value} {below : List Frame} {meth : Method} {c : Code} {D : va_G} {cs : JC} {b nL : Nat} {H0 : Heap} {Qf : ρ × JM → State → Prop} {M : JM} {ks sl : Nat} {lv : List (Nat × Value)} {pc : Nat} {st : List Value} {cc : ByteArray} {k : Nat} {K : JM → Option (ρ × JM)} (X : jX p c cc nL s m args RX8 D cs b meth H0) (hin : meth.name = "<init>") {x : Nat} (hdg : decode cc pc = .ok (.putfield 16, 3)) (ho : oty M k 18) (hx : oty M x 1) (kk : ∀ M2 : JM, gn M ≤ gn M2 → AWO p l e R s m args below meth c D cs b nL H0 Qf (K M2) M2 ks sl lv (pc + 3) st) : AWO p l e R s m args below meth c D cs b nL H0 Qf (sq (sr M k 3 (some x)) K) M ks sl lv pc (.ref (b + x) :: .ref (b + k) :: st) := aw_putR (ci := 8) (τ := 1) X 3 rfl gy_X8 tyX8 tyX8_ok nmX8 (by decide) (by decide) rfl (by decide) rfl wf_X8_16 rfl (fun a => ⟨rfl, rfl⟩) (Or.inr ⟨rfl, hin, rfl⟩) hdg ho hx (kk _ (Nat.le_refl _))
theorem pf_X8_19 {ρ : Type} {l : Launch} {p : Program} {e : Env} {R : Room} {s : State} {m : MethodId} {args : Array Value} {below : List Frame} {meth : Method} {c : Code} {D : va_G} {cs : JC} {b nL : Nat} {H0 : Heap} {Qf : ρ × JM → State → Prop} {M : JM} {ks sl : Nat} {lv : List (Nat × Value)} {pc : Nat} {st : List Value} {cc : ByteArray} {k : Nat} {K : JM → Option (ρ × JM)} (X : jX p c cc nL s m args RX8 D cs b meth H0) (hin : meth.name = "<init>") {x : Nat} (hdg : decode cc pc = .ok (.putfield 19, 3)) (ho : oty M k 18) (hx : oty M x 1) (kk : ∀ M2 : JM, gn M ≤ gn M2 → AWO p l e R s m args below meth c D cs b nL H0 Qf (K M2) M2 ks sl lv (pc + 3) st) : AWO p l e R s m args below meth c D cs b nL H0 Qf (sq (sr M k 4 (some x)) K) M ks sl lv pc (.ref (b + x) :: .ref (b + k) :: st) := aw_putR (ci := 8) (τ := 1) X 4 rfl gy_X8 tyX8 tyX8_ok nmX8 (by decide) (by decide) rfl (by decide) rfl wf_X8_19 rfl (fun a => ⟨rfl, rfl⟩) (Or.inr ⟨rfl, hin, rfl⟩) hdg ho hx (kk _ (Nat.le_refl _))
theorem pf_X8_22 {ρ : Type} {l : Launch} {p : Program} {e : Env} {R : Room} {s : State} {m : MethodId} {args : Array Value} {below : List Frame} {meth : Method} {c : Code} {D : va_G} {cs : JC} {b nL : Nat} {H0 : Heap} {Qf : ρ × JM → State → Prop} {M : JM} {ks sl : Nat} {lv : List (Nat × Value)} {pc : Nat} {st : List Value} {cc : ByteArray} {k : Nat} {K : JM → Option (ρ × JM)} (X : jX p c cc nL s m args RX8 D cs b meth H0) (hin : meth.name = "<init>") {x : Nat} (hdg : decode cc pc = .ok (.putfield 22, 3)) (ho : oty M k 18) (hx : oty M x 1) (kk : ∀ M2 : JM, gn M ≤ gn M2 → AWO p l e R s m args below meth c D cs b nL H0 Qf (K M2) M2 ks sl lv (pc + 3) st) : AWO p l e R s m args below meth c D cs b nL H0 Qf (sq (sr M k 5 (some x)) K) M ks sl lv pc (.ref (b + x) :: .ref (b + k) :: st) := aw_putR (ci := 8) (τ := 1) X 5 rfl gy_X8 tyX8 tyX8_ok nmX8 (by decide) (by decide) rfl (by decide) rfl wf_X8_22 rfl (fun a => ⟨rfl, rfl⟩) (Or.inr ⟨rfl, hin, rfl⟩) hdg ho hx (kk _ (Nat.le_refl _))
theorem pf_X8_25 {ρ : Type} {l : Launch} {p : Program} {e : Env} {R : Room} {s : State} {m : MethodId} {args : Array Value} {below : List Frame} {meth : Method} {c : Code} {D : va_G} {cs : JC} {b nL : Nat} {H0 : Heap} {Qf : ρ × JM → State → Prop} {M : JM} {ks sl : Nat} {lv : List (Nat × Value)} {pc : Nat} {st : List Value} {cc : ByteArray} {k : Nat} {K : JM → Option (ρ × JM)} (X : jX p c cc nL s m args RX8 D cs b meth H0) (hin : meth.name = "<init>") {x : Nat} (hdg : decode cc pc = .ok (.putfield 25, 3)) (ho : oty M k 18) (hx : oty M x 1) (kk : ∀ M2 : JM, gn M ≤ gn M2 → AWO p l e R s m args below meth c D cs b nL H0 Qf (K M2) M2 ks sl lv (pc + 3) st) : AWO p l e R s m args below meth c D cs b nL H0 Qf (sq (sr M k 6 (some x)) K) M ks sl lv pc (.ref (b + x) :: .ref (b + k) :: st) := aw_putR (ci := 8) (τ := 1) X 6 rfl gy_X8 tyX8 tyX8_ok nmX8 (by decide) (by decide) rfl (by decide) rfl wf_X8_25 rfl (fun a => ⟨rfl, rfl⟩) (Or.inr ⟨rfl, hin, rfl⟩) hdg ho hx (kk _ (Nat.le_refl _))
theorem pf_X8_28 {ρ : Type} {l : Launch} {p : Program} {e : Env} {R : Room} {s : State} {m : MethodId} {args : Array Value} {below : List Frame} {meth : Method} {c : Code} {D : va_G} {cs : JC} {b nL : Nat} {H0 : Heap} {Qf : ρ × JM → State → Prop} {M : JM} {ks sl : Nat} {lv : List (Nat × Value)} {pc : Nat} {st : List Value} {cc : ByteArray} {k : Nat} {K : JM → Option (ρ × JM)} (X : jX p c cc nL s m args RX8 D cs b meth H0) (hin : meth.name = "<init>") {x : Nat} (hdg : decode cc pc = .ok (.putfield 28, 3)) (ho : oty M k 18) (hx : oty M x 1) (kk : ∀ M2 : JM, gn M ≤ gn M2 → AWO p l e R s m args below meth c D cs b nL H0 Qf (K M2) M2 ks sl lv (pc + 3) st) : AWO p l e R s m args below meth c D cs b nL H0 Qf (sq (sr M k 7 (some x)) K) M ks sl lv pc (.ref (b + x) :: .ref (b + k) :: st) := aw_putR (ci := 8) (τ := 1) X 7 rfl gy_X8 tyX8 tyX8_ok nmX8 (by decide) (by decide) rfl (by decide) rfl wf_X8_28 rfl (fun a => ⟨rfl, rfl⟩) (Or.inr ⟨rfl, hin, rfl⟩) hdg ho hx (kk _ (Nat.le_refl _))
theorem pf_X8_31 {ρ : Type} {l : Launch} {p : Program} {e : Env} {R : Room} {s : State} {m : MethodId} {args : Array Value} {below : List Frame} {meth : Method} {c : Code} {D : va_G} {cs : JC} {b nL : Nat} {H0 : Heap} {Qf : ρ × JM → State → Prop} {M : JM} {ks sl : Nat} {lv : List (Nat × Value)} {pc : Nat} {st : List Value} {cc : ByteArray} {k : Nat} {K : JM → Option (ρ × JM)} (X : jX p c cc nL s m args RX8 D cs b meth H0) (hin : meth.name = "<init>") {x : Nat} (hdg : decode cc pc = .ok (.putfield 31, 3)) (ho : oty M k 18) (hx : oty M x 1) (kk : ∀ M2 : JM, gn M ≤ gn M2 → AWO p l e R s m args below meth c D cs b nL H0 Qf (K M2) M2 ks sl lv (pc + 3) st) : AWO p l e R s m args below meth c D cs b nL H0 Qf (sq (sr M k 16 (some x)) K) M ks sl lv pc (.ref (b + x) :: .ref (b + k) :: st) := aw_putR (ci := 8) (τ := 1) X 16 rfl gy_X8 tyX8 tyX8_ok nmX8 (by decide) (by decide) rfl (by decide) rfl wf_X8_31 rfl (fun a => ⟨rfl, rfl⟩) (Or.inr ⟨rfl, hin, rfl⟩) hdg ho hx (kk _ (Nat.le_refl _))
theorem pf_X8_34 {ρ : Type} {l : Launch} {p : Program} {e : Env} {R : Room} {s : State} {m : MethodId} {args : Array Value} {below : List Frame} {meth : Method} {c : Code} {D : va_G} {cs : JC} {b nL : Nat} {H0 : Heap} {Qf : ρ × JM → State → Prop} {M : JM} {ks sl : Nat} {lv : List (Nat × Value)} {pc : Nat} {st : List Value} {cc : ByteArray} {k : Nat} {K : JM → Option (ρ × JM)} (X : jX p c cc nL s m args RX8 D cs b meth H0) (hin : meth.name = "<init>") {x : Nat} (hdg : decode cc pc = .ok (.putfield 34, 3)) (ho : oty M k 18) (hx : oty M x 1) (kk : ∀ M2 : JM, gn M ≤ gn M2 → AWO p l e R s m args below meth c D cs b nL H0 Qf (K M2) M2 ks sl lv (pc + 3) st) : AWO p l e R s m args below meth c D cs b nL H0 Qf (sq (sr M k 17 (some x)) K) M ks sl lv pc (.ref (b + x) :: .ref (b + k) :: st) := aw_putR (ci := 8) (τ := 1) X 17 rfl gy_X8 tyX8 tyX8_ok nmX8 (by decide) (by decide) rfl (by decide) rfl wf_X8_34 rfl (fun a => ⟨rfl, rfl⟩) (Or.inr ⟨rfl, hin, rfl⟩) hdg ho hx (kk _ (Nat.le_refl _))
theorem pf_X8_37 {ρ : Type} {l : Launch} {p : Program} {e : Env} {R : Room} {s : State} {m : MethodId} {args : Array Value} {below : List Frame} {meth : Method} {c : Code} {D : va_G} {cs : JC} {b nL : Nat} {H0 : Heap} {Qf : ρ × JM → State → Prop} {M : JM} {ks sl : Nat} {lv : List (Nat × Value)} {pc : Nat} {st : List Value} {cc : ByteArray} {k : Nat} {K : JM → Option (ρ × JM)} (X : jX p c cc nL s m args RX8 D cs b meth H0) (hin : meth.name = "<init>") {x : Nat} (hdg : decode cc pc = .ok (.putfield 37, 3)) (ho : oty M k 18) (hx : oty M x 1) (kk : ∀ M2 : JM, gn M ≤ gn M2 → AWO p l e R s m args below meth c D cs b nL H0 Qf (K M2) M2 ks sl lv (pc + 3) st) : AWO p l e R s m args below meth c D cs b nL H0 Qf (sq (sr M k 18 (some x)) K) M ks sl lv pc (.ref (b + x) :: .ref (b + k) :: st) := aw_putR (ci := 8) (τ := 1) X 18 rfl gy_X8 tyX8 tyX8_ok nmX8 (by decide) (by decide) rfl (by decide) rfl wf_X8_37 rfl (fun a => ⟨rfl, rfl⟩) (Or.inr ⟨rfl, hin, rfl⟩) hdg ho hx (kk _ (Nat.le_refl _))
theorem pf_X8_40 {ρ : Type} {l : Launch} {p : Program} {e : Env} {R : Room} {s : State} {m : MethodId} {args : Array Value} {below : List Frame} {meth : Method} {c : Code} {D : va_G} {cs : JC} {b nL : Nat} {H0 : Heap} {Qf : ρ × JM → State → Prop} {M : JM} {ks sl : Nat} {lv : List (Nat × Value)} {pc : Nat} {st : List Value} {cc : ByteArray} {k : Nat} {K : JM → Option (ρ × JM)} (X : jX p c cc nL s m args RX8 D cs b meth H0) (hin : meth.name = "<init>") {x : Nat} (hdg : decode cc pc = .ok (.putfield 40, 3)) (ho : oty M k 18) (hx : oty M x 1) (kk : ∀ M2 : JM, gn M ≤ gn M2 → AWO p l e R s m args below meth c D cs b nL H0 Qf (K M2) M2 ks sl lv (pc + 3) st) : AWO p l e R s m args below meth c D cs b nL H0 Qf (sq (sr M k 19 (some x)) K) M ks sl lv pc (.ref (b + x) :: .ref (b + k) :: st) := aw_putR (ci := 8) (τ := 1) X 19 rfl gy_X8 tyX8 tyX8_ok nmX8 (by decide) (by decide) rfl (by decide) rfl wf_X8_40 rfl (fun a => ⟨rfl, rfl⟩) (Or.inr ⟨rfl, hin, rfl⟩) hdg ho hx (kk _ (Nat.le_refl _))
theorem pf_X8_43 {ρ : Type} {l : Launch} {p : Program} {e : Env} {R : Room} {s : State} {m : MethodId} {args : Array Value} {below : List Frame} {meth : Method} {c : Code} {D : va_G} {cs : JC} {b nL : Nat} {H0 : Heap} {Qf : ρ × JM → State → Prop} {M : JM} {ks sl : Nat} {lv : List (Nat × Value)} {pc : Nat} {st : List Value} {cc : ByteArray} {k : Nat} {K : JM → Option (ρ × JM)} (X : jX p c cc nL s m args RX8 D cs b meth H0) (hin : meth.name = "<init>") {x : Nat} (hdg : decode cc pc = .ok (.putfield 43, 3)) (ho : oty M k 18) (hx : oty M x 1) (kk : ∀ M2 : JM, gn M ≤ gn M2 → AWO p l e R s m args below meth c D cs b nL H0 Qf (K M2) M2 ks sl lv (pc + 3) st) : AWO p l e R s m args below meth c D cs b nL H0 Qf (sq (sr M k 21 (some x)) K) M ks sl lv pc (.ref (b + x) :: .ref (b + k) :: st) := aw_putR (ci := 8) (τ := 1) X 21 rfl gy_X8 tyX8 tyX8_ok nmX8 (by decide) (by decide) rfl (by decide) rfl wf_X8_43 rfl (fun a => ⟨rfl, rfl⟩) (Or.inr ⟨rfl, hin, rfl⟩) hdg ho hx (kk _ (Nat.le_refl _))
theorem pf_X8_46 {ρ : Type} {l : Launch} {p : Program} {e : Env} {R : Room} {s : State} {m : MethodId} {args : Array Value} {below : List Frame} {meth : Method} {c : Code} {D : va_G} {cs : JC} {b nL : Nat} {H0 : Heap} {Qf : ρ × JM → State → Prop} {M : JM} {ks sl : Nat} {lv : List (Nat × Value)} {pc : Nat} {st : List Value} {cc : ByteArray} {k : Nat} {K : JM → Option (ρ × JM)} (X : jX p c cc nL s m args RX8 D cs b meth H0) (hin : meth.name = "<init>") {x : Nat} (hdg : decode cc pc = .ok (.putfield 46, 3)) (ho : oty M k 18) (hx : oty M x 1) (kk : ∀ M2 : JM, gn M ≤ gn M2 → AWO p l e R s m args below meth c D cs b nL H0 Qf (K M2) M2 ks sl lv (pc + 3) st) : AWO p l e R s m args below meth c D cs b nL H0 Qf (sq (sr M k 22 (some x)) K) M ks sl lv pc (.ref (b + x) :: .ref (b + k) :: st) := aw_putR (ci := 8) (τ := 1) X 22 rfl gy_X8 tyX8 tyX8_ok nmX8 (by decide) (by decide) rfl (by decide) rfl wf_X8_46 rfl (fun a => ⟨rfl, rfl⟩) (Or.inr ⟨rfl, hin, rfl⟩) hdg ho hx (kk _ (Nat.le_refl _))
theorem pf_X8_49 {ρ : Type} {l : Launch} {p : Program} {e : Env} {R : Room} {s : State} {m : MethodId} {args : Array Value} {below : List Frame} {meth : Method} {c : Code} {D : va_G} {cs : JC} {b nL : Nat} {H0 : Heap} {Qf : ρ × JM → State → Prop} {M : JM} {ks sl : Nat} {lv : List (Nat × Value)} {pc : Nat} {st : List Value} {cc : ByteArray} {k : Nat} {K : JM → Option (ρ × JM)} (X : jX p c cc nL s m args RX8 D cs b meth H0) (hin : meth.name = "<init>") {x : Nat} (hdg : decode cc pc = .ok (.putfield 49, 3)) (ho : oty M k 18) (hx : oty M x 1) (kk : ∀ M2 : JM, gn M ≤ gn M2 → AWO p l e R s m args below meth c D cs b nL H0 Qf (K M2) M2 ks sl lv (pc + 3) st) : AWO p l e R s m args below meth c D cs b nL H0 Qf (sq (sr M k 23 (some x)) K) M ks sl lv pc (.ref (b + x) :: .ref (b + k) :: st) := aw_putR (ci := 8) (τ := 1) X 23 rfl gy_X8 tyX8 tyX8_ok nmX8 (by decide) (by decide) rfl (by decide) rfl wf_X8_49 rfl (fun a => ⟨rfl, rfl⟩) (Or.inr ⟨rfl, hin, rfl⟩) hdg ho hx (kk _ (Nat.le_refl _))
theorem pf_X8_52 {ρ : Type} {l : Launch} {p : Program} {e : Env} {R : Room} {s : State} {m : MethodId} {args : Array Value} {below : List Frame} {meth : Method} {c : Code} {D : va_G} {cs : JC} {b nL : Nat} {H0 : Heap} {Qf : ρ × JM → State → Prop} {M : JM} {ks sl : Nat} {lv : List (Nat × Value)} {pc : Nat} {st : List Value} {cc : ByteArray} {k : Nat} {K : JM → Option (ρ × JM)} (X : jX p c cc nL s m args RX8 D cs b meth H0) (hin : meth.name = "<init>") {x : Nat} (hdg : decode cc pc = .ok (.putfield 52, 3)) (ho : oty M k 18) (hx : oty M x 2) (kk : ∀ M2 : JM, gn M ≤ gn M2 → AWO p l e R s m args below meth c D cs b nL H0 Qf (K M2) M2 ks sl lv (pc + 3) st) : AWO p l e R s m args below meth c D cs b nL H0 Qf (sq (sr M k 24 (some x)) K) M ks sl lv pc (.ref (b + x) :: .ref (b + k) :: st) := aw_putR (ci := 8) (τ := 2) X 24 rfl gy_X8 tyX8 tyX8_ok nmX8 (by decide) (by decide) rfl (by decide) rfl wf_X8_52 rfl (fun a => ⟨rfl, rfl⟩) (Or.inr ⟨rfl, hin, rfl⟩) hdg ho hx (kk _ (Nat.le_refl _))
theorem pf_X8_56 {ρ : Type} {l : Launch} {p : Program} {e : Env} {R : Room} {s : State} {m : MethodId} {args : Array Value} {below : List Frame} {meth : Method} {c : Code} {D : va_G} {cs : JC} {b nL : Nat} {H0 : Heap} {Qf : ρ × JM → State → Prop} {M : JM} {ks sl : Nat} {lv : List (Nat × Value)} {pc : Nat} {st : List Value} {cc : ByteArray} {k : Nat} {K : JM → Option (ρ × JM)} (X : jX p c cc nL s m args RX8 D cs b meth H0) {x : Int32} (hdg : decode cc pc = .ok (.putfield 56, 3)) (ho : oty M k 18) (kk : ∀ M2 : JM, gn M ≤ gn M2 → AWO p l e R s m args below meth c D cs b nL H0 Qf (K M2) M2 ks sl lv (pc + 3) st) : AWO p l e R s m args below meth c D cs b nL H0 Qf (sq (si M k 25 x) K) M ks sl lv pc (.int x :: .ref (b + k) :: st) := aw_putI (ci := 8) X 25 rfl gy_X8 tyX8 tyX8_ok nmX8 (by decide) (by decide) rfl rfl wf_X8_56 rfl (Or.inl rfl) hdg ho (kk _ (Nat.le_refl _))
theorem pf_X8_60 {ρ : Type} {l : Launch} {p : Program} {e : Env} {R : Room} {s : State} {m : MethodId} {args : Array Value} {below : List Frame} {meth : Method} {c : Code} {D : va_G} {cs : JC} {b nL : Nat} {H0 : Heap} {Qf : ρ × JM → State → Prop} {M : JM} {ks sl : Nat} {lv : List (Nat × Value)} {pc : Nat} {st : List Value} {cc : ByteArray} {k : Nat} {K : JM → Option (ρ × JM)} (X : jX p c cc nL s m args RX8 D cs b meth H0) (hin : meth.name = "<init>") {x : Nat} (hdg : decode cc pc = .ok (.putfield 60, 3)) (ho : oty M k 18) (hx : oty M x 1) (kk : ∀ M2 : JM, gn M ≤ gn M2 → AWO p l e R s m args below meth c D cs b nL H0 Qf (K M2) M2 ks sl lv (pc + 3) st) : AWO p l e R s m args below meth c D cs b nL H0 Qf (sq (sr M k 26 (some x)) K) M ks sl lv pc (.ref (b + x) :: .ref (b + k) :: st) := aw_putR (ci := 8) (τ := 1) X 26 rfl gy_X8 tyX8 tyX8_ok nmX8 (by decide) (by decide) rfl (by decide) rfl wf_X8_60 rfl (fun a => ⟨rfl, rfl⟩) (Or.inr ⟨rfl, hin, rfl⟩) hdg ho hx (kk _ (Nat.le_refl _))
theorem pf_X8_63 {ρ : Type} {l : Launch} {p : Program} {e : Env} {R : Room} {s : State} {m : MethodId} {args : Array Value} {below : List Frame} {meth : Method} {c : Code} {D : va_G} {cs : JC} {b nL : Nat} {H0 : Heap} {Qf : ρ × JM → State → Prop} {M : JM} {ks sl : Nat} {lv : List (Nat × Value)} {pc : Nat} {st : List Value} {cc : ByteArray} {k : Nat} {K : JM → Option (ρ × JM)} (X : jX p c cc nL s m args RX8 D cs b meth H0) (hin : meth.name = "<init>") {x : Nat} (hdg : decode cc pc = .ok (.putfield 63, 3)) (ho : oty M k 18) (hx : oty M x 1) (kk : ∀ M2 : JM, gn M ≤ gn M2 → AWO p l e R s m args below meth c D cs b nL H0 Qf (K M2) M2 ks sl lv (pc + 3) st) : AWO p l e R s m args below meth c D cs b nL H0 Qf (sq (sr M k 27 (some x)) K) M ks sl lv pc (.ref (b + x) :: .ref (b + k) :: st) := aw_putR (ci := 8) (τ := 1) X 27 rfl gy_X8 tyX8 tyX8_ok nmX8 (by decide) (by decide) rfl (by decide) rfl wf_X8_63 rfl (fun a => ⟨rfl, rfl⟩) (Or.inr ⟨rfl, hin, rfl⟩) hdg ho hx (kk _ (Nat.le_refl _))
theorem pf_X8_66 {ρ : Type} {l : Launch} {p : Program} {e : Env} {R : Room} {s : State} {m : MethodId} {args : Array Value} {below : List Frame} {meth : Method} {c : Code} {D : va_G} {cs : JC} {b nL : Nat} {H0 : Heap} {Qf : ρ × JM → State → Prop} {M : JM} {ks sl : Nat} {lv : List (Nat × Value)} {pc : Nat} {st : List Value} {cc : ByteArray} {k : Nat} {K : JM → Option (ρ × JM)} (X : jX p c cc nL s m args RX8 D cs b meth H0) (hin : meth.name = "<init>") {x : Nat} (hdg : decode cc pc = .ok (.putfield 66, 3)) (ho : oty M k 18) (hx : oty M x 1) (kk : ∀ M2 : JM, gn M ≤ gn M2 → AWO p l e R s m args below meth c D cs b nL H0 Qf (K M2) M2 ks sl lv (pc + 3) st) : AWO p l e R s m args below meth c D cs b nL H0 Qf (sq (sr M k 29 (some x)) K) M ks sl lv pc (.ref (b + x) :: .ref (b + k) :: st) := aw_putR (ci := 8) (τ := 1) X 29 rfl gy_X8 tyX8 tyX8_ok nmX8 (by decide) (by decide) rfl (by decide) rfl wf_X8_66 rfl (fun a => ⟨rfl, rfl⟩) (Or.inr ⟨rfl, hin, rfl⟩) hdg ho hx (kk _ (Nat.le_refl _))
theorem pf_X8_69 {ρ : Type} {l : Launch} {p : Program} {e : Env} {R : Room} {s : State} {m : MethodId} {args : Array Value} {below : List Frame} {meth : Method} {c : Code} {D : va_G} {cs : JC} {b nL : Nat} {H0 : Heap} {Qf : ρ × JM → State → Prop} {M : JM} {ks sl : Nat} {lv : List (Nat × Value)} {pc : Nat} {st : List Value} {cc : ByteArray} {k : Nat} {K : JM → Option (ρ × JM)} (X : jX p c cc nL s m args RX8 D cs b meth H0) (hin : meth.name = "<init>") {x : Nat} (hdg : decode cc pc = .ok (.putfield 69, 3)) (ho : oty M k 18) (hx : oty M x 1) (kk : ∀ M2 : JM, gn M ≤ gn M2 → AWO p l e R s m args below meth c D cs b nL H0 Qf (K M2) M2 ks sl lv (pc + 3) st) : AWO p l e R s m args below meth c D cs b nL H0 Qf (sq (sr M k 30 (some x)) K) M ks sl lv pc (.ref (b + x) :: .ref (b + k) :: st) := aw_putR (ci := 8) (τ := 1) X 30 rfl gy_X8 tyX8 tyX8_ok nmX8 (by decide) (by decide) rfl (by decide) rfl wf_X8_69 rfl (fun a => ⟨rfl, rfl⟩) (Or.inr ⟨rfl, hin, rfl⟩) hdg ho hx (kk _ (Nat.le_refl _))
theorem pf_X8_72 {ρ : Type} {l : Launch} {p : Program} {e : Env} {R : Room} {s : State} {m : MethodId} {args : Array Value} {below : List Frame} {meth : Method} {c : Code} {D : va_G} {cs : JC} {b nL : Nat} {H0 : Heap} {Qf : ρ × JM → State → Prop} {M : JM} {ks sl : Nat} {lv : List (Nat × Value)} {pc : Nat} {st : List Value} {cc : ByteArray} {k : Nat} {K : JM → Option (ρ × JM)} (X : jX p c cc nL s m args RX8 D cs b meth H0) (hin : meth.name = "<init>") {x : Nat} (hdg : decode cc pc = .ok (.putfield 72, 3)) (ho : oty M k 18) (hx : oty M x 1) (kk : ∀ M2 : JM, gn M ≤ gn M2 → AWO p l e R s m args below meth c D cs b nL H0 Qf (K M2) M2 ks sl lv (pc + 3) st) : AWO p l e R s m args below meth c D cs b nL H0 Qf (sq (sr M k 31 (some x)) K) M ks sl lv pc (.ref (b + x) :: .ref (b + k) :: st) := aw_putR (ci := 8) (τ := 1) X 31 rfl gy_X8 tyX8 tyX8_ok nmX8 (by decide) (by decide) rfl (by decide) rfl wf_X8_72 rfl (fun a => ⟨rfl, rfl⟩) (Or.inr ⟨rfl, hin, rfl⟩) hdg ho hx (kk _ (Nat.le_refl _))
theorem pf_X8_75 {ρ : Type} {l : Launch} {p : Program} {e : Env} {R : Room} {s : State} {m : MethodId} {args : Array Value} {below : List Frame} {meth : Method} {c : Code} {D : va_G} {cs : JC} {b nL : Nat} {H0 : Heap} {Qf : ρ × JM → State → Prop} {M : JM} {ks sl : Nat} {lv : List (Nat × Value)} {pc : Nat} {st : List Value} {cc : ByteArray} {k : Nat} {K : JM → Option (ρ × JM)} (X : jX p c cc nL s m args RX8 D cs b meth H0) (hin : meth.name = "<init>") {x : Nat} (hdg : decode cc pc = .ok (.putfield 75, 3)) (ho : oty M k 18) (hx : oty M x 1) (kk : ∀ M2 : JM, gn M ≤ gn M2 → AWO p l e R s m args below meth c D cs b nL H0 Qf (K M2) M2 ks sl lv (pc + 3) st) : AWO p l e R s m args below meth c D cs b nL H0 Qf (sq (sr M k 32 (some x)) K) M ks sl lv pc (.ref (b + x) :: .ref (b + k) :: st) := aw_putR (ci := 8) (τ := 1) X 32 rfl gy_X8 tyX8 tyX8_ok nmX8 (by decide) (by decide) rfl (by decide) rfl wf_X8_75 rfl (fun a => ⟨rfl, rfl⟩) (Or.inr ⟨rfl, hin, rfl⟩) hdg ho hx (kk _ (Nat.le_refl _))
theorem pf_X8_78 {ρ : Type} {l : Launch} {p : Program} {e : Env} {R : Room} {s : State} {m : MethodId} {args : Array Value} {below : List Frame} {meth : Method} {c : Code} {D : va_G} {cs : JC} {b nL : Nat} {H0 : Heap} {Qf : ρ × JM → State → Prop} {M : JM} {ks sl : Nat} {lv : List (Nat × Value)} {pc : Nat} {st : List Value} {cc : ByteArray} {k : Nat} {K : JM → Option (ρ × JM)} (X : jX p c cc nL s m args RX8 D cs b meth H0) (hin : meth.name = "<init>") {x : Nat} (hdg : decode cc pc = .ok (.putfield 78, 3)) (ho : oty M k 18) (hx : oty M x 1) (kk : ∀ M2 : JM, gn M ≤ gn M2 → AWO p l e R s m args below meth c D cs b nL H0 Qf (K M2) M2 ks sl lv (pc + 3) st) : AWO p l e R s m args below meth c D cs b nL H0 Qf (sq (sr M k 33 (some x)) K) M ks sl lv pc (.ref (b + x) :: .ref (b + k) :: st) := aw_putR (ci := 8) (τ := 1) X 33 rfl gy_X8 tyX8 tyX8_ok nmX8 (by decide) (by decide) rfl (by decide) rfl wf_X8_78 rfl (fun a => ⟨rfl, rfl⟩) (Or.inr ⟨rfl, hin, rfl⟩) hdg ho hx (kk _ (Nat.le_refl _))
theorem pf_X8_81 {ρ : Type} {l : Launch} {p : Program} {e : Env} {R : Room} {s : State} {m : MethodId} {args : Array Value} {below : List Frame} {meth : Method} {c : Code} {D : va_G} {cs : JC} {b nL : Nat} {H0 : Heap} {Qf : ρ × JM → State → Prop} {M : JM} {ks sl : Nat} {lv : List (Nat × Value)} {pc : Nat} {st : List Value} {cc : ByteArray} {k : Nat} {K : JM → Option (ρ × JM)} (X : jX p c cc nL s m args RX8 D cs b meth H0) (hin : meth.name = "<init>") {x : Nat} (hdg : decode cc pc = .ok (.putfield 81, 3)) (ho : oty M k 18) (hx : oty M x 1) (kk : ∀ M2 : JM, gn M ≤ gn M2 → AWO p l e R s m args below meth c D cs b nL H0 Qf (K M2) M2 ks sl lv (pc + 3) st) : AWO p l e R s m args below meth c D cs b nL H0 Qf (sq (sr M k 34 (some x)) K) M ks sl lv pc (.ref (b + x) :: .ref (b + k) :: st) := aw_putR (ci := 8) (τ := 1) X 34 rfl gy_X8 tyX8 tyX8_ok nmX8 (by decide) (by decide) rfl (by decide) rfl wf_X8_81 rfl (fun a => ⟨rfl, rfl⟩) (Or.inr ⟨rfl, hin, rfl⟩) hdg ho hx (kk _ (Nat.le_refl _))
theorem pf_X8_84 {ρ : Type} {l : Launch} {p : Program} {e : Env} {R : Room} {s : State} {m : MethodId} {args : Array Value} {below : List Frame} {meth : Method} {c : Code} {D : va_G} {cs : JC} {b nL : Nat} {H0 : Heap} {Qf : ρ × JM → State → Prop} {M : JM} {ks sl : Nat} {lv : List (Nat × Value)} {pc : Nat} {st : List Value} {cc : ByteArray} {k : Nat} {K : JM → Option (ρ × JM)} (X : jX p c cc nL s m args RX8 D cs b meth H0) (hin : meth.name = "<init>") {x : Nat} (hdg : decode cc pc = .ok (.putfield 84, 3)) (ho : oty M k 18) (hx : oty M x 1) (kk : ∀ M2 : JM, gn M ≤ gn M2 → AWO p l e R s m args below meth c D cs b nL H0 Qf (K M2) M2 ks sl lv (pc + 3) st) : AWO p l e R s m args below meth c D cs b nL H0 Qf (sq (sr M k 35 (some x)) K) M ks sl lv pc (.ref (b + x) :: .ref (b + k) :: st) := aw_putR (ci := 8) (τ := 1) X 35 rfl gy_X8 tyX8 tyX8_ok nmX8 (by decide) (by decide) rfl (by decide) rfl wf_X8_84 rfl (fun a => ⟨rfl, rfl⟩) (Or.inr ⟨rfl, hin, rfl⟩) hdg ho hx (kk _ (Nat.le_refl _))
theorem pf_X8_87 {ρ : Type} {l : Launch} {p : Program} {e : Env} {R : Room} {s : State} {m : MethodId} {args : Array Value} {below : List Frame} {meth : Method} {c : Code} {D : va_G} {cs : JC} {b nL : Nat} {H0 : Heap} {Qf : ρ × JM → State → Prop} {M : JM} {ks sl : Nat} {lv : List (Nat × Value)} {pc : Nat} {st : List Value} {cc : ByteArray} {k : Nat} {K : JM → Option (ρ × JM)} (X : jX p c cc nL s m args RX8 D cs b meth H0) (hin : meth.name = "<init>") {x : Nat} (hdg : decode cc pc = .ok (.putfield 87, 3)) (ho : oty M k 18) (hx : oty M x 1) (kk : ∀ M2 : JM, gn M ≤ gn M2 → AWO p l e R s m args below meth c D cs b nL H0 Qf (K M2) M2 ks sl lv (pc + 3) st) : AWO p l e R s m args below meth c D cs b nL H0 Qf (sq (sr M k 36 (some x)) K) M ks sl lv pc (.ref (b + x) :: .ref (b + k) :: st) := aw_putR (ci := 8) (τ := 1) X 36 rfl gy_X8 tyX8 tyX8_ok nmX8 (by decide) (by decide) rfl (by decide) rfl wf_X8_87 rfl (fun a => ⟨rfl, rfl⟩) (Or.inr ⟨rfl, hin, rfl⟩) hdg ho hx (kk _ (Nat.le_refl _))
theorem pf_X8_90 {ρ : Type} {l : Launch} {p : Program} {e : Env} {R : Room} {s : State} {m : MethodId} {args : Array Value} {below : List Frame} {meth : Method} {c : Code} {D : va_G} {cs : JC} {b nL : Nat} {H0 : Heap} {Qf : ρ × JM → State → Prop} {M : JM} {ks sl : Nat} {lv : List (Nat × Value)} {pc : Nat} {st : List Value} {cc : ByteArray} {k : Nat} {K : JM → Option (ρ × JM)} (X : jX p c cc nL s m args RX8 D cs b meth H0) (hin : meth.name = "<init>") {x : Nat} (hdg : decode cc pc = .ok (.putfield 90, 3)) (ho : oty M k 18) (hx : oty M x 1) (kk : ∀ M2 : JM, gn M ≤ gn M2 → AWO p l e R s m args below meth c D cs b nL H0 Qf (K M2) M2 ks sl lv (pc + 3) st) : AWO p l e R s m args below meth c D cs b nL H0 Qf (sq (sr M k 37 (some x)) K) M ks sl lv pc (.ref (b + x) :: .ref (b + k) :: st) := aw_putR (ci := 8) (τ := 1) X 37 rfl gy_X8 tyX8 tyX8_ok nmX8 (by decide) (by decide) rfl (by decide) rfl wf_X8_90 rfl (fun a => ⟨rfl, rfl⟩) (Or.inr ⟨rfl, hin, rfl⟩) hdg ho hx (kk _ (Nat.le_refl _))
theorem pf_X8_93 {ρ : Type} {l : Launch} {p : Program} {e : Env} {R : Room} {s : State} {m : MethodId} {args : Array Value} {below : List Frame} {meth : Method} {c : Code} {D : va_G} {cs : JC} {b nL : Nat} {H0 : Heap} {Qf : ρ × JM → State → Prop} {M : JM} {ks sl : Nat} {lv : List (Nat × Value)} {pc : Nat} {st : List Value} {cc : ByteArray} {k : Nat} {K : JM → Option (ρ × JM)} (X : jX p c cc nL s m args RX8 D cs b meth H0) (hin : meth.name = "<init>") {x : Nat} (hdg : decode cc pc = .ok (.putfield 93, 3)) (ho : oty M k 18) (hx : oty M x 1) (kk : ∀ M2 : JM, gn M ≤ gn M2 → AWO p l e R s m args below meth c D cs b nL H0 Qf (K M2) M2 ks sl lv (pc + 3) st) : AWO p l e R s m args below meth c D cs b nL H0 Qf (sq (sr M k 38 (some x)) K) M ks sl lv pc (.ref (b + x) :: .ref (b + k) :: st) := aw_putR (ci := 8) (τ := 1) X 38 rfl gy_X8 tyX8 tyX8_ok nmX8 (by decide) (by decide) rfl (by decide) rfl wf_X8_93 rfl (fun a => ⟨rfl, rfl⟩) (Or.inr ⟨rfl, hin, rfl⟩) hdg ho hx (kk _ (Nat.le_refl _))
theorem pf_X8_96 {ρ : Type} {l : Launch} {p : Program} {e : Env} {R : Room} {s : State} {m : MethodId} {args : Array Value} {below : List Frame} {meth : Method} {c : Code} {D : va_G} {cs : JC} {b nL : Nat} {H0 : Heap} {Qf : ρ × JM → State → Prop} {M : JM} {ks sl : Nat} {lv : List (Nat × Value)} {pc : Nat} {st : List Value} {cc : ByteArray} {k : Nat} {K : JM → Option (ρ × JM)} (X : jX p c cc nL s m args RX8 D cs b meth H0) (hin : meth.name = "<init>") {x : Nat} (hdg : decode cc pc = .ok (.putfield 96, 3)) (ho : oty M k 18) (hx : oty M x 2) (kk : ∀ M2 : JM, gn M ≤ gn M2 → AWO p l e R s m args below meth c D cs b nL H0 Qf (K M2) M2 ks sl lv (pc + 3) st) : AWO p l e R s m args below meth c D cs b nL H0 Qf (sq (sr M k 45 (some x)) K) M ks sl lv pc (.ref (b + x) :: .ref (b + k) :: st) := aw_putR (ci := 8) (τ := 2) X 45 rfl gy_X8 tyX8 tyX8_ok nmX8 (by decide) (by decide) rfl (by decide) rfl wf_X8_96 rfl (fun a => ⟨rfl, rfl⟩) (Or.inr ⟨rfl, hin, rfl⟩) hdg ho hx (kk _ (Nat.le_refl _))
theorem pf_X8_99 {ρ : Type} {l : Launch} {p : Program} {e : Env} {R : Room} {s : State} {m : MethodId} {args : Array Value} {below : List Frame} {meth : Method} {c : Code} {D : va_G} {cs : JC} {b nL : Nat} {H0 : Heap} {Qf : ρ × JM → State → Prop} {M : JM} {ks sl : Nat} {lv : List (Nat × Value)} {pc : Nat} {st : List Value} {cc : ByteArray} {k : Nat} {K : JM → Option (ρ × JM)} (X : jX p c cc nL s m args RX8 D cs b meth H0) {x : Int32} (hdg : decode cc pc = .ok (.putfield 99, 3)) (ho : oty M k 18) (kk : ∀ M2 : JM, gn M ≤ gn M2 → AWO p l e R s m args below meth c D cs b nL H0 Qf (K M2) M2 ks sl lv (pc + 3) st) : AWO p l e R s m args below meth c D cs b nL H0 Qf (sq (si M k 15 x) K) M ks sl lv pc (.int x :: .ref (b + k) :: st) := aw_putI (ci := 8) X 15 rfl gy_X8 tyX8 tyX8_ok nmX8 (by decide) (by decide) rfl rfl wf_X8_99 rfl (Or.inl rfl) hdg ho (kk _ (Nat.le_refl _))
def f_X8_init (a0 : Nat) (M : JM) : Option (Unit × JM) := if shp (gn M) = (1, 3) then (sq (al M) fun M1 => sq (sr M1 a0 1 (some (gn M))) fun M4 => if shp (gn M4) = (1, 66) then (sq (al M4) fun M6 => sq (sr M6 a0 2 (some (gn M4))) fun M9 => if shp (gn M9) = (1, 66) then (sq (al M9) fun M11 => sq (sr M11 a0 3 (some (gn M9))) fun M14 => if shp (gn M14) = (1, 924) then (sq (al M14) fun M16 => sq (sr M16 a0 4 (some (gn M14))) fun M19 => if shp (gn M19) = (1, 3) then (sq (al M19) fun M21 => sq (sr M21 a0 5 (some (gn M19))) fun M24 => if shp (gn M24) = (1, 3) then (sq (al M24) fun M26 => sq (sr M26 a0 6 (some (gn M24))) fun M29 => if shp (gn M29) = (1, 300) then (sq (al M29) fun M31 => sq (sr M31 a0 7 (some (gn M29))) fun M34 => if shp (gn M34) = (1, 300) then (sq (al M34) fun M36 => sq (sr M36 a0 16 (some (gn M34))) fun M39 => if shp (gn M39) = (1, 9) then (sq (al M39) fun M41 => sq (sr M41 a0 17 (some (gn M39))) fun M44 => if shp (gn M44) = (1, 176) then (sq (al M44) fun M46 => sq (sr M46 a0 18 (some (gn M44))) fun M49 => if shp (gn M49) = (1, 176) then (sq (al M49) fun M51 => sq (sr M51 a0 19 (some (gn M49))) fun M54 => if shp (gn M54) = (1, 9) then (sq (al M54) fun M56 => sq (sr M56 a0 21 (some (gn M54))) fun M59 => if shp (gn M59) = (1, 176) then (sq (al M59) fun M61 => sq (sr M61 a0 22 (some (gn M59))) fun M64 => if shp (gn M64) = (1, 176) then (sq (al M64) fun M66 => sq (sr M66 a0 23 (some (gn M64))) fun M69 => if shp (gn M69) = (2, 22) then (sq (al M69) fun M71 => sq (sr M71 a0 24 (some (gn M69))) fun M74 => sq (si M74 a0 25 (-1 : Int32)) fun M76 => if shp (gn M76) = (1, 22) then (sq (al M76) fun M78 => sq (sr M78 a0 26 (some (gn M76))) fun M81 => if shp (gn M81) = (1, 1320) then (sq (al M81) fun M83 => sq (sr M83 a0 27 (some (gn M81))) fun M86 => if shp (gn M86) = (1, 12) then (sq (al M86) fun M88 => sq (sr M88 a0 29 (some (gn M86))) fun M91 => if shp (gn M91) = (1, 12) then (sq (al M91) fun M93 => sq (sr M93 a0 30 (some (gn M91))) fun M96 => if shp (gn M96) = (1, 12) then (sq (al M96) fun M98 => sq (sr M98 a0 31 (some (gn M96))) fun M101 => if shp (gn M101) = (1, 12) then (sq (al M101) fun M103 => sq (sr M103 a0 32 (some (gn M101))) fun M106 => if shp (gn M106) = (1, 12) then (sq (al M106) fun M108 => sq (sr M108 a0 33 (some (gn M106))) fun M111 => if shp (gn M111) = (1, 12) then (sq (al M111) fun M113 => sq (sr M113 a0 34 (some (gn M111))) fun M116 => if shp (gn M116) = (1, 12) then (sq (al M116) fun M118 => sq (sr M118 a0 35 (some (gn M116))) fun M121 => if shp (gn M121) = (1, 12) then (sq (al M121) fun M123 => sq (sr M123 a0 36 (some (gn M121))) fun M126 => if shp (gn M126) = (1, 12) then (sq (al M126) fun M128 => sq (sr M128 a0 37 (some (gn M126))) fun M131 => if shp (gn M131) = (1, 12) then (sq (al M131) fun M133 => sq (sr M133 a0 38 (some (gn M131))) fun M136 => if shp (gn M136) = (2, 22) then (sq (al M136) fun M138 => sq (sr M138 a0 45 (some (gn M136))) fun M141 => sq (si M141 a0 15 (-9 : Int32)) fun M143 => some ((), M143)) else none) else none) else none) else none) else none) else none) else none) else none) else none) else none) else none) else none) else none) else none) else none) else none) else none) else none) else none) else none) else none) else none) else none) else none) else none) else none) else none) else none
set_option maxRecDepth 10000 in
set_option maxHeartbeats 4000000 in
theorem t_X8_init {l : Launch} {D : va_G} {cs : JC} {b : Nat} (a0 : Nat) (M : JM) (h_a0 : oty M a0 18) : ∀ q, f_X8_init a0 M = some q → CTy l yX8_init (.code yX8_init cX8_init 1 (Option.none) :: GB) rm_X8_init D cs b evV [.ref (b + a0)] M rm_X8_init.cells rm_X8_init.slots q := fun q hq => ct_of [(0, .ref (b + a0))] rfl rfl (Nat.le_of_ble_eq_true rfl) hq (fun p e s m args below meth c X hr hin => by
  refine aw_callq (F' := if shp (gn M) = (1, 3) then (sq (al M) fun M1 => sq (sr M1 a0 1 (some (gn M))) fun M4 => if shp (gn M4) = (1, 66) then (sq (al M4) fun M6 => sq (sr M6 a0 2 (some (gn M4))) fun M9 => if shp (gn M9) = (1, 66) then (sq (al M9) fun M11 => sq (sr M11 a0 3 (some (gn M9))) fun M14 => if shp (gn M14) = (1, 924) then (sq (al M14) fun M16 => sq (sr M16 a0 4 (some (gn M14))) fun M19 => if shp (gn M19) = (1, 3) then (sq (al M19) fun M21 => sq (sr M21 a0 5 (some (gn M19))) fun M24 => if shp (gn M24) = (1, 3) then (sq (al M24) fun M26 => sq (sr M26 a0 6 (some (gn M24))) fun M29 => if shp (gn M29) = (1, 300) then (sq (al M29) fun M31 => sq (sr M31 a0 7 (some (gn M29))) fun M34 => if shp (gn M34) = (1, 300) then (sq (al M34) fun M36 => sq (sr M36 a0 16 (some (gn M34))) fun M39 => if shp (gn M39) = (1, 9) then (sq (al M39) fun M41 => sq (sr M41 a0 17 (some (gn M39))) fun M44 => if shp (gn M44) = (1, 176) then (sq (al M44) fun M46 => sq (sr M46 a0 18 (some (gn M44))) fun M49 => if shp (gn M49) = (1, 176) then (sq (al M49) fun M51 => sq (sr M51 a0 19 (some (gn M49))) fun M54 => if shp (gn M54) = (1, 9) then (sq (al M54) fun M56 => sq (sr M56 a0 21 (some (gn M54))) fun M59 => if shp (gn M59) = (1, 176) then (sq (al M59) fun M61 => sq (sr M61 a0 22 (some (gn M59))) fun M64 => if shp (gn M64) = (1, 176) then (sq (al M64) fun M66 => sq (sr M66 a0 23 (some (gn M64))) fun M69 => if shp (gn M69) = (2, 22) then (sq (al M69) fun M71 => sq (sr M71 a0 24 (some (gn M69))) fun M74 => sq (si M74 a0 25 (-1 : Int32)) fun M76 => if shp (gn M76) = (1, 22) then (sq (al M76) fun M78 => sq (sr M78 a0 26 (some (gn M76))) fun M81 => if shp (gn M81) = (1, 1320) then (sq (al M81) fun M83 => sq (sr M83 a0 27 (some (gn M81))) fun M86 => if shp (gn M86) = (1, 12) then (sq (al M86) fun M88 => sq (sr M88 a0 29 (some (gn M86))) fun M91 => if shp (gn M91) = (1, 12) then (sq (al M91) fun M93 => sq (sr M93 a0 30 (some (gn M91))) fun M96 => if shp (gn M96) = (1, 12) then (sq (al M96) fun M98 => sq (sr M98 a0 31 (some (gn M96))) fun M101 => if shp (gn M101) = (1, 12) then (sq (al M101) fun M103 => sq (sr M103 a0 32 (some (gn M101))) fun M106 => if shp (gn M106) = (1, 12) then (sq (al M106) fun M108 => sq (sr M108 a0 33 (some (gn M106))) fun M111 => if shp (gn M111) = (1, 12) then (sq (al M111) fun M113 => sq (sr M113 a0 34 (some (gn M111))) fun M116 => if shp (gn M116) = (1, 12) then (sq (al M116) fun M118 => sq (sr M118 a0 35 (some (gn M116))) fun M121 => if shp (gn M121) = (1, 12) then (sq (al M121) fun M123 => sq (sr M123 a0 36 (some (gn M121))) fun M126 => if shp (gn M126) = (1, 12) then (sq (al M126) fun M128 => sq (sr M128 a0 37 (some (gn M126))) fun M131 => if shp (gn M131) = (1, 12) then (sq (al M131) fun M133 => sq (sr M133 a0 38 (some (gn M131))) fun M136 => if shp (gn M136) = (2, 22) then (sq (al M136) fun M138 => sq (sr M138 a0 45 (some (gn M136))) fun M141 => sq (si M141 a0 15 (-9 : Int32)) fun M143 => some ((), M143)) else none) else none) else none) else none) else none) else none) else none) else none) else none) else none) else none) else none) else none) else none) else none) else none) else none) else none) else none) else none) else none) else none) else none) else none) else none) else none) else none) else none) rfl ?_
  refine aw_aload_n (pc := 0) X 0 dX8_init_0 rfl ?_
  refine aw_objInit (pc := 1) X wl_X8_1 wi_objInit wc_objInit dX8_init_1 (Nat.le_of_ble_eq_true rfl) (Nat.le_of_ble_eq_true rfl) ?_
  refine aw_aload_n (pc := 4) X 0 dX8_init_4 rfl ?_
  refine aw_iconst (pc := 5) X (3 : Int32) dX8_init_5 (by decide) ?_
  refine aw_newIQ (pc := 6) X (N' := 3) (by decide) rfl (Nat.le_of_ble_eq_true rfl) (Nat.le_of_ble_eq_true rfl) (Nat.le_of_ble_eq_true rfl) wr_int dX8_init_6 (fun M1 g2 h_r3 => ?_)
  have h_a0 := h_a0.mono g2
  refine pf_X8_7 (pc := 8) X hin dX8_init_8 h_a0 h_r3 (fun M4 g5 => ?_)
  have h_a0 := h_a0.mono g5
  refine aw_aload_n (pc := 11) X 0 dX8_init_11 rfl ?_
  refine aw_bipush (pc := 12) X (66 : Int32) dX8_init_12 (by decide) ?_
  refine aw_newIQ (pc := 14) X (N' := 66) (by decide) rfl (Nat.le_of_ble_eq_true rfl) (Nat.le_of_ble_eq_true rfl) (Nat.le_of_ble_eq_true rfl) wr_int dX8_init_14 (fun M6 g7 h_r8 => ?_)
  have h_a0 := h_a0.mono g7
  refine pf_X8_13 (pc := 16) X hin dX8_init_16 h_a0 h_r8 (fun M9 g10 => ?_)
  have h_a0 := h_a0.mono g10
  refine aw_aload_n (pc := 19) X 0 dX8_init_19 rfl ?_
  refine aw_bipush (pc := 20) X (66 : Int32) dX8_init_20 (by decide) ?_
  refine aw_newIQ (pc := 22) X (N' := 66) (by decide) rfl (Nat.le_of_ble_eq_true rfl) (Nat.le_of_ble_eq_true rfl) (Nat.le_of_ble_eq_true rfl) wr_int dX8_init_22 (fun M11 g12 h_r13 => ?_)
  have h_a0 := h_a0.mono g12
  refine pf_X8_16 (pc := 24) X hin dX8_init_24 h_a0 h_r13 (fun M14 g15 => ?_)
  have h_a0 := h_a0.mono g15
  refine aw_aload_n (pc := 27) X 0 dX8_init_27 rfl ?_
  refine aw_sipush (pc := 28) X (924 : Int32) dX8_init_28 (by decide) ?_
  refine aw_newIQ (pc := 31) X (N' := 924) (by decide) rfl (Nat.le_of_ble_eq_true rfl) (Nat.le_of_ble_eq_true rfl) (Nat.le_of_ble_eq_true rfl) wr_int dX8_init_31 (fun M16 g17 h_r18 => ?_)
  have h_a0 := h_a0.mono g17
  refine pf_X8_19 (pc := 33) X hin dX8_init_33 h_a0 h_r18 (fun M19 g20 => ?_)
  have h_a0 := h_a0.mono g20
  refine aw_aload_n (pc := 36) X 0 dX8_init_36 rfl ?_
  refine aw_iconst (pc := 37) X (3 : Int32) dX8_init_37 (by decide) ?_
  refine aw_newIQ (pc := 38) X (N' := 3) (by decide) rfl (Nat.le_of_ble_eq_true rfl) (Nat.le_of_ble_eq_true rfl) (Nat.le_of_ble_eq_true rfl) wr_int dX8_init_38 (fun M21 g22 h_r23 => ?_)
  have h_a0 := h_a0.mono g22
  refine pf_X8_22 (pc := 40) X hin dX8_init_40 h_a0 h_r23 (fun M24 g25 => ?_)
  have h_a0 := h_a0.mono g25
  refine aw_aload_n (pc := 43) X 0 dX8_init_43 rfl ?_
  refine aw_iconst (pc := 44) X (3 : Int32) dX8_init_44 (by decide) ?_
  refine aw_newIQ (pc := 45) X (N' := 3) (by decide) rfl (Nat.le_of_ble_eq_true rfl) (Nat.le_of_ble_eq_true rfl) (Nat.le_of_ble_eq_true rfl) wr_int dX8_init_45 (fun M26 g27 h_r28 => ?_)
  have h_a0 := h_a0.mono g27
  refine pf_X8_25 (pc := 47) X hin dX8_init_47 h_a0 h_r28 (fun M29 g30 => ?_)
  have h_a0 := h_a0.mono g30
  refine aw_aload_n (pc := 50) X 0 dX8_init_50 rfl ?_
  refine aw_sipush (pc := 51) X (300 : Int32) dX8_init_51 (by decide) ?_
  refine aw_newIQ (pc := 54) X (N' := 300) (by decide) rfl (Nat.le_of_ble_eq_true rfl) (Nat.le_of_ble_eq_true rfl) (Nat.le_of_ble_eq_true rfl) wr_int dX8_init_54 (fun M31 g32 h_r33 => ?_)
  have h_a0 := h_a0.mono g32
  refine pf_X8_28 (pc := 56) X hin dX8_init_56 h_a0 h_r33 (fun M34 g35 => ?_)
  have h_a0 := h_a0.mono g35
  refine aw_aload_n (pc := 59) X 0 dX8_init_59 rfl ?_
  refine aw_sipush (pc := 60) X (300 : Int32) dX8_init_60 (by decide) ?_
  refine aw_newIQ (pc := 63) X (N' := 300) (by decide) rfl (Nat.le_of_ble_eq_true rfl) (Nat.le_of_ble_eq_true rfl) (Nat.le_of_ble_eq_true rfl) wr_int dX8_init_63 (fun M36 g37 h_r38 => ?_)
  have h_a0 := h_a0.mono g37
  refine pf_X8_31 (pc := 65) X hin dX8_init_65 h_a0 h_r38 (fun M39 g40 => ?_)
  have h_a0 := h_a0.mono g40
  refine aw_aload_n (pc := 68) X 0 dX8_init_68 rfl ?_
  refine aw_bipush (pc := 69) X (9 : Int32) dX8_init_69 (by decide) ?_
  refine aw_newIQ (pc := 71) X (N' := 9) (by decide) rfl (Nat.le_of_ble_eq_true rfl) (Nat.le_of_ble_eq_true rfl) (Nat.le_of_ble_eq_true rfl) wr_int dX8_init_71 (fun M41 g42 h_r43 => ?_)
  have h_a0 := h_a0.mono g42
  refine pf_X8_34 (pc := 73) X hin dX8_init_73 h_a0 h_r43 (fun M44 g45 => ?_)
  have h_a0 := h_a0.mono g45
  refine aw_aload_n (pc := 76) X 0 dX8_init_76 rfl ?_
  refine aw_sipush (pc := 77) X (176 : Int32) dX8_init_77 (by decide) ?_
  refine aw_newIQ (pc := 80) X (N' := 176) (by decide) rfl (Nat.le_of_ble_eq_true rfl) (Nat.le_of_ble_eq_true rfl) (Nat.le_of_ble_eq_true rfl) wr_int dX8_init_80 (fun M46 g47 h_r48 => ?_)
  have h_a0 := h_a0.mono g47
  refine pf_X8_37 (pc := 82) X hin dX8_init_82 h_a0 h_r48 (fun M49 g50 => ?_)
  have h_a0 := h_a0.mono g50
  refine aw_aload_n (pc := 85) X 0 dX8_init_85 rfl ?_
  refine aw_sipush (pc := 86) X (176 : Int32) dX8_init_86 (by decide) ?_
  refine aw_newIQ (pc := 89) X (N' := 176) (by decide) rfl (Nat.le_of_ble_eq_true rfl) (Nat.le_of_ble_eq_true rfl) (Nat.le_of_ble_eq_true rfl) wr_int dX8_init_89 (fun M51 g52 h_r53 => ?_)
  have h_a0 := h_a0.mono g52
  refine pf_X8_40 (pc := 91) X hin dX8_init_91 h_a0 h_r53 (fun M54 g55 => ?_)
  have h_a0 := h_a0.mono g55
  refine aw_aload_n (pc := 94) X 0 dX8_init_94 rfl ?_
  refine aw_bipush (pc := 95) X (9 : Int32) dX8_init_95 (by decide) ?_
  refine aw_newIQ (pc := 97) X (N' := 9) (by decide) rfl (Nat.le_of_ble_eq_true rfl) (Nat.le_of_ble_eq_true rfl) (Nat.le_of_ble_eq_true rfl) wr_int dX8_init_97 (fun M56 g57 h_r58 => ?_)
  have h_a0 := h_a0.mono g57
  refine pf_X8_43 (pc := 99) X hin dX8_init_99 h_a0 h_r58 (fun M59 g60 => ?_)
  have h_a0 := h_a0.mono g60
  refine aw_aload_n (pc := 102) X 0 dX8_init_102 rfl ?_
  refine aw_sipush (pc := 103) X (176 : Int32) dX8_init_103 (by decide) ?_
  refine aw_newIQ (pc := 106) X (N' := 176) (by decide) rfl (Nat.le_of_ble_eq_true rfl) (Nat.le_of_ble_eq_true rfl) (Nat.le_of_ble_eq_true rfl) wr_int dX8_init_106 (fun M61 g62 h_r63 => ?_)
  have h_a0 := h_a0.mono g62
  refine pf_X8_46 (pc := 108) X hin dX8_init_108 h_a0 h_r63 (fun M64 g65 => ?_)
  have h_a0 := h_a0.mono g65
  refine aw_aload_n (pc := 111) X 0 dX8_init_111 rfl ?_
  refine aw_sipush (pc := 112) X (176 : Int32) dX8_init_112 (by decide) ?_
  refine aw_newIQ (pc := 115) X (N' := 176) (by decide) rfl (Nat.le_of_ble_eq_true rfl) (Nat.le_of_ble_eq_true rfl) (Nat.le_of_ble_eq_true rfl) wr_int dX8_init_115 (fun M66 g67 h_r68 => ?_)
  have h_a0 := h_a0.mono g67
  refine pf_X8_49 (pc := 117) X hin dX8_init_117 h_a0 h_r68 (fun M69 g70 => ?_)
  have h_a0 := h_a0.mono g70
  refine aw_aload_n (pc := 120) X 0 dX8_init_120 rfl ?_
  refine aw_bipush (pc := 121) X (22 : Int32) dX8_init_121 (by decide) ?_
  refine aw_newZQ (pc := 123) X (N' := 22) (by decide) rfl (Nat.le_of_ble_eq_true rfl) (Nat.le_of_ble_eq_true rfl) (Nat.le_of_ble_eq_true rfl) wr_boolean dX8_init_123 (fun M71 g72 h_r73 => ?_)
  have h_a0 := h_a0.mono g72
  refine pf_X8_52 (pc := 125) X hin dX8_init_125 h_a0 h_r73 (fun M74 g75 => ?_)
  have h_a0 := h_a0.mono g75
  refine aw_aload_n (pc := 128) X 0 dX8_init_128 rfl ?_
  refine aw_iconst (pc := 129) X (-1 : Int32) dX8_init_129 (by decide) ?_
  refine pf_X8_56 (pc := 130) X dX8_init_130 h_a0 (fun M76 g77 => ?_)
  have h_a0 := h_a0.mono g77
  refine aw_aload_n (pc := 133) X 0 dX8_init_133 rfl ?_
  refine aw_bipush (pc := 134) X (22 : Int32) dX8_init_134 (by decide) ?_
  refine aw_newIQ (pc := 136) X (N' := 22) (by decide) rfl (Nat.le_of_ble_eq_true rfl) (Nat.le_of_ble_eq_true rfl) (Nat.le_of_ble_eq_true rfl) wr_int dX8_init_136 (fun M78 g79 h_r80 => ?_)
  have h_a0 := h_a0.mono g79
  refine pf_X8_60 (pc := 138) X hin dX8_init_138 h_a0 h_r80 (fun M81 g82 => ?_)
  have h_a0 := h_a0.mono g82
  refine aw_aload_n (pc := 141) X 0 dX8_init_141 rfl ?_
  refine aw_sipush (pc := 142) X (1320 : Int32) dX8_init_142 (by decide) ?_
  refine aw_newIQ (pc := 145) X (N' := 1320) (by decide) rfl (Nat.le_of_ble_eq_true rfl) (Nat.le_of_ble_eq_true rfl) (Nat.le_of_ble_eq_true rfl) wr_int dX8_init_145 (fun M83 g84 h_r85 => ?_)
  have h_a0 := h_a0.mono g84
  refine pf_X8_63 (pc := 147) X hin dX8_init_147 h_a0 h_r85 (fun M86 g87 => ?_)
  have h_a0 := h_a0.mono g87
  refine aw_aload_n (pc := 150) X 0 dX8_init_150 rfl ?_
  refine aw_bipush (pc := 151) X (12 : Int32) dX8_init_151 (by decide) ?_
  refine aw_newIQ (pc := 153) X (N' := 12) (by decide) rfl (Nat.le_of_ble_eq_true rfl) (Nat.le_of_ble_eq_true rfl) (Nat.le_of_ble_eq_true rfl) wr_int dX8_init_153 (fun M88 g89 h_r90 => ?_)
  have h_a0 := h_a0.mono g89
  refine pf_X8_66 (pc := 155) X hin dX8_init_155 h_a0 h_r90 (fun M91 g92 => ?_)
  have h_a0 := h_a0.mono g92
  refine aw_aload_n (pc := 158) X 0 dX8_init_158 rfl ?_
  refine aw_bipush (pc := 159) X (12 : Int32) dX8_init_159 (by decide) ?_
  refine aw_newIQ (pc := 161) X (N' := 12) (by decide) rfl (Nat.le_of_ble_eq_true rfl) (Nat.le_of_ble_eq_true rfl) (Nat.le_of_ble_eq_true rfl) wr_int dX8_init_161 (fun M93 g94 h_r95 => ?_)
  have h_a0 := h_a0.mono g94
  refine pf_X8_69 (pc := 163) X hin dX8_init_163 h_a0 h_r95 (fun M96 g97 => ?_)
  have h_a0 := h_a0.mono g97
  refine aw_aload_n (pc := 166) X 0 dX8_init_166 rfl ?_
  refine aw_bipush (pc := 167) X (12 : Int32) dX8_init_167 (by decide) ?_
  refine aw_newIQ (pc := 169) X (N' := 12) (by decide) rfl (Nat.le_of_ble_eq_true rfl) (Nat.le_of_ble_eq_true rfl) (Nat.le_of_ble_eq_true rfl) wr_int dX8_init_169 (fun M98 g99 h_r100 => ?_)
  have h_a0 := h_a0.mono g99
  refine pf_X8_72 (pc := 171) X hin dX8_init_171 h_a0 h_r100 (fun M101 g102 => ?_)
  have h_a0 := h_a0.mono g102
  refine aw_aload_n (pc := 174) X 0 dX8_init_174 rfl ?_
  refine aw_bipush (pc := 175) X (12 : Int32) dX8_init_175 (by decide) ?_
  refine aw_newIQ (pc := 177) X (N' := 12) (by decide) rfl (Nat.le_of_ble_eq_true rfl) (Nat.le_of_ble_eq_true rfl) (Nat.le_of_ble_eq_true rfl) wr_int dX8_init_177 (fun M103 g104 h_r105 => ?_)
  have h_a0 := h_a0.mono g104
  refine pf_X8_75 (pc := 179) X hin dX8_init_179 h_a0 h_r105 (fun M106 g107 => ?_)
  have h_a0 := h_a0.mono g107
  refine aw_aload_n (pc := 182) X 0 dX8_init_182 rfl ?_
  refine aw_bipush (pc := 183) X (12 : Int32) dX8_init_183 (by decide) ?_
  refine aw_newIQ (pc := 185) X (N' := 12) (by decide) rfl (Nat.le_of_ble_eq_true rfl) (Nat.le_of_ble_eq_true rfl) (Nat.le_of_ble_eq_true rfl) wr_int dX8_init_185 (fun M108 g109 h_r110 => ?_)
  have h_a0 := h_a0.mono g109
  refine pf_X8_78 (pc := 187) X hin dX8_init_187 h_a0 h_r110 (fun M111 g112 => ?_)
  have h_a0 := h_a0.mono g112
  refine aw_aload_n (pc := 190) X 0 dX8_init_190 rfl ?_
  refine aw_bipush (pc := 191) X (12 : Int32) dX8_init_191 (by decide) ?_
  refine aw_newIQ (pc := 193) X (N' := 12) (by decide) rfl (Nat.le_of_ble_eq_true rfl) (Nat.le_of_ble_eq_true rfl) (Nat.le_of_ble_eq_true rfl) wr_int dX8_init_193 (fun M113 g114 h_r115 => ?_)
  have h_a0 := h_a0.mono g114
  refine pf_X8_81 (pc := 195) X hin dX8_init_195 h_a0 h_r115 (fun M116 g117 => ?_)
  have h_a0 := h_a0.mono g117
  refine aw_aload_n (pc := 198) X 0 dX8_init_198 rfl ?_
  refine aw_bipush (pc := 199) X (12 : Int32) dX8_init_199 (by decide) ?_
  refine aw_newIQ (pc := 201) X (N' := 12) (by decide) rfl (Nat.le_of_ble_eq_true rfl) (Nat.le_of_ble_eq_true rfl) (Nat.le_of_ble_eq_true rfl) wr_int dX8_init_201 (fun M118 g119 h_r120 => ?_)
  have h_a0 := h_a0.mono g119
  refine pf_X8_84 (pc := 203) X hin dX8_init_203 h_a0 h_r120 (fun M121 g122 => ?_)
  have h_a0 := h_a0.mono g122
  refine aw_aload_n (pc := 206) X 0 dX8_init_206 rfl ?_
  refine aw_bipush (pc := 207) X (12 : Int32) dX8_init_207 (by decide) ?_
  refine aw_newIQ (pc := 209) X (N' := 12) (by decide) rfl (Nat.le_of_ble_eq_true rfl) (Nat.le_of_ble_eq_true rfl) (Nat.le_of_ble_eq_true rfl) wr_int dX8_init_209 (fun M123 g124 h_r125 => ?_)
  have h_a0 := h_a0.mono g124
  refine pf_X8_87 (pc := 211) X hin dX8_init_211 h_a0 h_r125 (fun M126 g127 => ?_)
  have h_a0 := h_a0.mono g127
  refine aw_aload_n (pc := 214) X 0 dX8_init_214 rfl ?_
  refine aw_bipush (pc := 215) X (12 : Int32) dX8_init_215 (by decide) ?_
  refine aw_newIQ (pc := 217) X (N' := 12) (by decide) rfl (Nat.le_of_ble_eq_true rfl) (Nat.le_of_ble_eq_true rfl) (Nat.le_of_ble_eq_true rfl) wr_int dX8_init_217 (fun M128 g129 h_r130 => ?_)
  have h_a0 := h_a0.mono g129
  refine pf_X8_90 (pc := 219) X hin dX8_init_219 h_a0 h_r130 (fun M131 g132 => ?_)
  have h_a0 := h_a0.mono g132
  refine aw_aload_n (pc := 222) X 0 dX8_init_222 rfl ?_
  refine aw_bipush (pc := 223) X (12 : Int32) dX8_init_223 (by decide) ?_
  refine aw_newIQ (pc := 225) X (N' := 12) (by decide) rfl (Nat.le_of_ble_eq_true rfl) (Nat.le_of_ble_eq_true rfl) (Nat.le_of_ble_eq_true rfl) wr_int dX8_init_225 (fun M133 g134 h_r135 => ?_)
  have h_a0 := h_a0.mono g134
  refine pf_X8_93 (pc := 227) X hin dX8_init_227 h_a0 h_r135 (fun M136 g137 => ?_)
  have h_a0 := h_a0.mono g137
  refine aw_aload_n (pc := 230) X 0 dX8_init_230 rfl ?_
  refine aw_bipush (pc := 231) X (22 : Int32) dX8_init_231 (by decide) ?_
  refine aw_newZQ (pc := 233) X (N' := 22) (by decide) rfl (Nat.le_of_ble_eq_true rfl) (Nat.le_of_ble_eq_true rfl) (Nat.le_of_ble_eq_true rfl) wr_boolean dX8_init_233 (fun M138 g139 h_r140 => ?_)
  have h_a0 := h_a0.mono g139
  refine pf_X8_96 (pc := 235) X hin dX8_init_235 h_a0 h_r140 (fun M141 g142 => ?_)
  have h_a0 := h_a0.mono g142
  refine aw_aload_n (pc := 238) X 0 dX8_init_238 rfl ?_
  refine aw_bipush (pc := 239) X (-9 : Int32) dX8_init_239 (by decide) ?_
  refine pf_X8_99 (pc := 241) X dX8_init_241 h_a0 (fun M143 g144 => ?_)
  have h_a0 := h_a0.mono g144
  exact aw_vret (pc := 244) X hr dX8_init_244 (Nat.le_of_ble_eq_true rfl) (Nat.le_of_ble_eq_true rfl))
/-! ReportBlocks.indexOfNumber -/
def rm_X7_indexOfNumber : Room := { frames := 0, cells := 0, slots := 0, locals := 0 }
theorem hd_X7_indexOfNumber : jHd yX7_indexOfNumber 1 := by unfold jHd; decide +kernel
theorem gf_X7_59 {ρ : Type} {l : Launch} {p : Program} {e : Env} {R : Room} {s : State} {m : MethodId} {args : Array Value} {below : List Frame} {meth : Method} {c : Code} {D : va_G} {cs : JC} {b nL : Nat} {H0 : Heap} {Qf : ρ × JM → State → Prop} {M : JM} {ks sl : Nat} {lv : List (Nat × Value)} {pc : Nat} {st : List Value} {cc : ByteArray} {k : Nat} (X : jX p c cc nL s m args RX7 D cs b meth H0) {F : Option (ρ × JM)} (hdg : decode cc pc = .ok (.getfield 59, 3)) (ho : oty M k 17) (kk : AWO p l e R s m args below meth c D cs b nL H0 Qf F M ks sl lv (pc + 3) (.int (gi M k 1) :: st)) : AWO p l e R s m args below meth c D cs b nL H0 Qf F M ks sl lv pc (.ref (b + k) :: st) := aw_getI (ci := 7) X 1 rfl gy_X7 (by decide) rfl rfl wf_X7_59 hdg ho kk
theorem gf_X7_11 {ρ : Type} {l : Launch} {p : Program} {e : Env} {R : Room} {s : State} {m : MethodId} {args : Array Value} {below : List Frame} {meth : Method} {c : Code} {D : va_G} {cs : JC} {b nL : Nat} {H0 : Heap} {Qf : ρ × JM → State → Prop} {M : JM} {ks sl : Nat} {lv : List (Nat × Value)} {pc : Nat} {st : List Value} {cc : ByteArray} {k : Nat} (X : jX p c cc nL s m args RX7 D cs b meth H0) {K : Nat → Option (ρ × JM)} (hdg : decode cc pc = .ok (.getfield 11, 3)) (ho : oty M k 17) (kk : ∀ r : Nat, oty M r 3 → AWO p l e R s m args below meth c D cs b nL H0 Qf (K r) M ks sl lv (pc + 3) (.ref (b + r) :: st)) : AWO p l e R s m args below meth c D cs b nL H0 Qf (orf (gr M k 0) K) M ks sl lv pc (.ref (b + k) :: st) := aw_getR (ci := 7) (τ := 3) X 0 rfl gy_X7 (by decide) (by decide) rfl rfl (by decide) wf_X7_11 hdg ho kk
theorem gf_X7_204 {ρ : Type} {l : Launch} {p : Program} {e : Env} {R : Room} {s : State} {m : MethodId} {args : Array Value} {below : List Frame} {meth : Method} {c : Code} {D : va_G} {cs : JC} {b nL : Nat} {H0 : Heap} {Qf : ρ × JM → State → Prop} {M : JM} {ks sl : Nat} {lv : List (Nat × Value)} {pc : Nat} {st : List Value} {cc : ByteArray} {k : Nat} (X : jX p c cc nL s m args RX7 D cs b meth H0) {F : Option (ρ × JM)} (hdg : decode cc pc = .ok (.getfield 204, 3)) (ho : oty M k 11) (kk : AWO p l e R s m args below meth c D cs b nL H0 Qf F M ks sl lv (pc + 3) (.int (gi M k 0) :: st)) : AWO p l e R s m args below meth c D cs b nL H0 Qf F M ks sl lv pc (.ref (b + k) :: st) := aw_getI (ci := 1) X 0 rfl gy_X1 (by decide) rfl rfl wf_X7_204 hdg ho kk
def f_X7_indexOfNumber_L2 : Nat → Nat → Int32 → Int32 → JM → Option (Int32 × JM)
  | 0, _, _, _, _ => none
  | n + 1, a0, v1, v2, M => if v2 < (gi M a0 1) then (orf (gr M a0 0) fun r2 => if 0 ≤ v2 ∧ v2 < ln r2 then (orf (gr M r2 v2) fun r3 => if (gi M r3 0) = v1 then (some (v2, M)) else (sv (v2 + (1 : Int32)) fun i4 => (f_X7_indexOfNumber_L2 n) a0 v1 i4 M)) else none) else (some ((-9 : Int32), M))
set_option maxRecDepth 10000 in
set_option maxHeartbeats 4000000 in
theorem t_X7_indexOfNumber_L2 {p : Program} {l : Launch} {e : Env} {s : State} {m : MethodId} {args : Array Value} {below : List Frame} {meth : Method} {c : Code} {D : va_G} {cs : JC} {b : Nat} (X : jX p c cX7_indexOfNumber 3 s m args RX7 D cs b meth s.heap) (hr : meth.sig.returnType = Option.some Jvm.ClassFile.FieldType.int) : ∀ (n : Nat) (a0 : Nat) (v1 : Int32) (v2 : Int32) (M : JM), oty M a0 17 → AWO p l e rm_X7_indexOfNumber s m args below meth c D cs b 3 s.heap (jE below D cs b evI args s rm_X7_indexOfNumber.cells rm_X7_indexOfNumber.slots) (f_X7_indexOfNumber_L2 n a0 v1 v2 M) M 0 0 [(0, .ref (b + a0)), (1, .int v1), (2, .int v2)] 2 [] := by
  intro n
  induction n with
  | zero => intro a0 v1 v2 M h_a0; exact aw_none
  | succ n ih =>
    intro a0 v1 v2 M h_a0
    refine aw_callq (F' := if v2 < (gi M a0 1) then (orf (gr M a0 0) fun r2 => if 0 ≤ v2 ∧ v2 < ln r2 then (orf (gr M r2 v2) fun r3 => if (gi M r3 0) = v1 then (some (v2, M)) else (sv (v2 + (1 : Int32)) fun i4 => (f_X7_indexOfNumber_L2 n) a0 v1 i4 M)) else none) else (some ((-9 : Int32), M))) rfl ?_
    refine aw_iload_n (pc := 2) X 2 dX7_indexOfNumber_2 rfl ?_
    refine aw_aload_n (pc := 3) X 0 dX7_indexOfNumber_3 rfl ?_
    refine gf_X7_59 (pc := 4) X dX7_indexOfNumber_4 h_a0 ?_
    refine aw_icmpge (pc := 7) X 31 dX7_indexOfNumber_7 (by decide) ?_ ?_
    · refine aw_aload_n (pc := 10) X 0 dX7_indexOfNumber_10 rfl ?_
      refine gf_X7_11 (pc := 11) X dX7_indexOfNumber_11 h_a0 (fun r2 h_r2 => ?_)
      refine aw_iload_n (pc := 14) X 2 dX7_indexOfNumber_14 rfl ?_
      refine aw_aldC (pc := 15) X dX7_indexOfNumber_15 h_r2 (fun r3 h_r3 => ?_)
      refine gf_X7_204 (pc := 16) X dX7_indexOfNumber_16 h_r3 ?_
      refine aw_iload_n (pc := 19) X 1 dX7_indexOfNumber_19 rfl ?_
      refine aw_icmpne (pc := 20) X 25 dX7_indexOfNumber_20 (by decide) ?_ ?_
      · refine aw_iload_n (pc := 23) X 2 dX7_indexOfNumber_23 rfl ?_
        exact aw_iret (pc := 24) X hr dX7_indexOfNumber_24 (Nat.le_of_ble_eq_true rfl) (Nat.le_of_ble_eq_true rfl)
      · refine aw_iincV (pc := 25) X (fun y => [(2, .int y), (0, .ref (b + a0)), (1, .int v1)]) 2 (v := (v2 + (1 : Int32))) dX7_indexOfNumber_25 rfl rfl (by decide) (fun _ => rfl) (fun i4 => ?_)
        refine aw_goto (pc := 28) X 2 dX7_indexOfNumber_28 (by decide) ?_
        refine aw_sub [1, 2, 0] rfl ?_
        exact ih a0 v1 i4 M h_a0
    · refine aw_bipush (pc := 31) X (-9 : Int32) dX7_indexOfNumber_31 (by decide) ?_
      exact aw_iret (pc := 33) X hr dX7_indexOfNumber_33 (Nat.le_of_ble_eq_true rfl) (Nat.le_of_ble_eq_true rfl)
def f_X7_indexOfNumber (a0 : Nat) (v1 : Int32) (M : JM) : Option (Int32 × JM) := sv (0 : Int32) fun i1 => f_X7_indexOfNumber_L2 FU a0 v1 i1 M
set_option maxRecDepth 10000 in
set_option maxHeartbeats 4000000 in
theorem t_X7_indexOfNumber {l : Launch} {D : va_G} {cs : JC} {b : Nat} (a0 : Nat) (v1 : Int32) (M : JM) (h_a0 : oty M a0 17) : ∀ q, f_X7_indexOfNumber a0 v1 M = some q → CTy l yX7_indexOfNumber (.code yX7_indexOfNumber cX7_indexOfNumber 3 (Option.some Jvm.ClassFile.FieldType.int) :: GB) rm_X7_indexOfNumber D cs b evI [.ref (b + a0), .int v1] M rm_X7_indexOfNumber.cells rm_X7_indexOfNumber.slots q := fun q hq => ct_of [(0, .ref (b + a0)), (1, .int v1)] rfl rfl (Nat.le_of_ble_eq_true rfl) hq (fun p e s m args below meth c X hr hin => by
  refine aw_callq (F' := sv (0 : Int32) fun i1 => f_X7_indexOfNumber_L2 FU a0 v1 i1 M) rfl ?_
  refine aw_iconst (pc := 0) X (0 : Int32) dX7_indexOfNumber_0 (by decide) ?_
  refine aw_istoreV_n (pc := 1) X (fun y => [(2, .int y), (0, .ref (b + a0)), (1, .int v1)]) dX7_indexOfNumber_1 (by decide) (fun _ => rfl) (fun i1 => ?_)
  refine aw_sub [1, 2, 0] rfl ?_
  exact t_X7_indexOfNumber_L2 X hr FU a0 v1 i1 M h_a0)
/-! java.util.Arrays.fill -/
def rm_J7_fill_53178 : Room := { frames := 0, cells := 0, slots := 0, locals := 0 }
theorem hd_J7_fill_53178 : jHd yJ7_fill_53178 2 := by unfold jHd; decide +kernel
def f_J7_fill_53178_L5 : Nat → Nat → Int32 → Int32 → Int32 → JM → Option (Unit × JM)
  | 0, _, _, _, _, _ => none
  | n + 1, a0, v1, v2, v3, M => if v2 < v3 then (if 0 ≤ v2 ∧ v2 < ln a0 then (sq (si M a0 v2 v1) fun M3 => sv (v2 + (1 : Int32)) fun i5 => (f_J7_fill_53178_L5 n) a0 v1 i5 v3 M3) else none) else (some ((), M))
set_option maxRecDepth 10000 in
set_option maxHeartbeats 4000000 in
theorem t_J7_fill_53178_L5 {p : Program} {l : Launch} {e : Env} {s : State} {m : MethodId} {args : Array Value} {below : List Frame} {meth : Method} {c : Code} {D : va_G} {cs : JC} {b : Nat} (X : jX p c cJ7_fill_53178 4 s m args RJ7 D cs b meth s.heap) (hr : meth.sig.returnType = Option.none) : ∀ (n : Nat) (a0 : Nat) (v1 : Int32) (v2 : Int32) (v3 : Int32) (M : JM), oty M a0 1 → AWO p l e rm_J7_fill_53178 s m args below meth c D cs b 4 s.heap (jE below D cs b evV args s rm_J7_fill_53178.cells rm_J7_fill_53178.slots) (f_J7_fill_53178_L5 n a0 v1 v2 v3 M) M 0 0 [(0, .ref (b + a0)), (1, .int v1), (2, .int v2), (3, .int v3)] 5 [] := by
  intro n
  induction n with
  | zero => intro a0 v1 v2 v3 M h_a0; exact aw_none
  | succ n ih =>
    intro a0 v1 v2 v3 M h_a0
    refine aw_callq (F' := if v2 < v3 then (if 0 ≤ v2 ∧ v2 < ln a0 then (sq (si M a0 v2 v1) fun M3 => sv (v2 + (1 : Int32)) fun i5 => (f_J7_fill_53178_L5 n) a0 v1 i5 v3 M3) else none) else (some ((), M))) rfl ?_
    refine aw_iload_n (pc := 5) X 2 dJ7_fill_53178_5 rfl ?_
    refine aw_iload_n (pc := 6) X 3 dJ7_fill_53178_6 rfl ?_
    refine aw_icmpge (pc := 7) X 20 dJ7_fill_53178_7 (by decide) ?_ ?_
    · refine aw_aload_n (pc := 10) X 0 dJ7_fill_53178_10 rfl ?_
      refine aw_iload_n (pc := 11) X 2 dJ7_fill_53178_11 rfl ?_
      refine aw_iload_n (pc := 12) X 1 dJ7_fill_53178_12 rfl ?_
      refine aw_iastQ (pc := 13) X dJ7_fill_53178_13 h_a0 (fun M3 g4 => ?_)
      have h_a0 := h_a0.mono g4
      refine aw_iincV (pc := 14) X (fun y => [(2, .int y), (0, .ref (b + a0)), (1, .int v1), (3, .int v3)]) 2 (v := (v2 + (1 : Int32))) dJ7_fill_53178_14 rfl rfl (by decide) (fun _ => rfl) (fun i5 => ?_)
      refine aw_goto (pc := 17) X 5 dJ7_fill_53178_17 (by decide) ?_
      refine aw_sub [1, 2, 0, 3] rfl ?_
      exact ih a0 v1 i5 v3 M3 h_a0
    · exact aw_vret (pc := 20) X hr dJ7_fill_53178_20 (Nat.le_of_ble_eq_true rfl) (Nat.le_of_ble_eq_true rfl)
def f_J7_fill_53178 (a0 : Nat) (v1 : Int32) (M : JM) : Option (Unit × JM) := sv (0 : Int32) fun i1 => sv (ln a0) fun i2 => f_J7_fill_53178_L5 FU a0 v1 i1 i2 M
set_option maxRecDepth 10000 in
set_option maxHeartbeats 4000000 in
theorem t_J7_fill_53178 {l : Launch} {D : va_G} {cs : JC} {b : Nat} (a0 : Nat) (v1 : Int32) (M : JM) (h_a0 : oty M a0 1) : ∀ q, f_J7_fill_53178 a0 v1 M = some q → CTy l yJ7_fill_53178 (.code yJ7_fill_53178 cJ7_fill_53178 4 (Option.none) :: GB) rm_J7_fill_53178 D cs b evV [.ref (b + a0), .int v1] M rm_J7_fill_53178.cells rm_J7_fill_53178.slots q := fun q hq => ct_of [(0, .ref (b + a0)), (1, .int v1)] rfl rfl (Nat.le_of_ble_eq_true rfl) hq (fun p e s m args below meth c X hr hin => by
  refine aw_callq (F' := sv (0 : Int32) fun i1 => sv (ln a0) fun i2 => f_J7_fill_53178_L5 FU a0 v1 i1 i2 M) rfl ?_
  refine aw_iconst (pc := 0) X (0 : Int32) dJ7_fill_53178_0 (by decide) ?_
  refine aw_istoreV_n (pc := 1) X (fun y => [(2, .int y), (0, .ref (b + a0)), (1, .int v1)]) dJ7_fill_53178_1 (by decide) (fun _ => rfl) (fun i1 => ?_)
  refine aw_aload_n (pc := 2) X 1 dJ7_fill_53178_2 rfl ?_
  refine aw_alen (pc := 3) X dJ7_fill_53178_3 h_a0 ?_
  refine aw_istoreV_n (pc := 4) X (fun y => [(3, .int y), (2, .int i1), (0, .ref (b + a0)), (1, .int v1)]) dJ7_fill_53178_4 (by decide) (fun _ => rfl) (fun i2 => ?_)
  refine aw_sub [2, 3, 1, 0] rfl ?_
  exact t_J7_fill_53178_L5 X hr FU a0 v1 i1 i2 M h_a0)
/-! ReportBlocks$Category.init -/
def rm_X1_init : Room := { frames := 1, cells := 3, slots := 352, locals := 23 }
theorem hd_X1_init : jHd yX1_init 1 := by unfold jHd; decide +kernel
theorem pf_X1_9 {ρ : Type} {l : Launch} {p : Program} {e : Env} {R : Room} {s : State} {m : MethodId} {args : Array Value} {below : List Frame} {meth : Method} {c : Code} {D : va_G} {cs : JC} {b nL : Nat} {H0 : Heap} {Qf : ρ × JM → State → Prop} {M : JM} {ks sl : Nat} {lv : List (Nat × Value)} {pc : Nat} {st : List Value} {cc : ByteArray} {k : Nat} {K : JM → Option (ρ × JM)} (X : jX p c cc nL s m args RX1 D cs b meth H0) (hin : meth.name = "<init>") {x : Int32} (hdg : decode cc pc = .ok (.putfield 9, 3)) (ho : oty M k 11) (kk : ∀ M2 : JM, gn M ≤ gn M2 → AWO p l e R s m args below meth c D cs b nL H0 Qf (K M2) M2 ks sl lv (pc + 3) st) : AWO p l e R s m args below meth c D cs b nL H0 Qf (sq (si M k 0 x) K) M ks sl lv pc (.int x :: .ref (b + k) :: st) := aw_putI (ci := 1) X 0 rfl gy_X1 tyX1 tyX1_ok nmX1 (by decide) (by decide) rfl rfl wf_X1_9 rfl (Or.inr ⟨rfl, hin, rfl⟩) hdg ho (kk _ (Nat.le_refl _))
theorem pf_X1_15 {ρ : Type} {l : Launch} {p : Program} {e : Env} {R : Room} {s : State} {m : MethodId} {args : Array Value} {below : List Frame} {meth : Method} {c : Code} {D : va_G} {cs : JC} {b nL : Nat} {H0 : Heap} {Qf : ρ × JM → State → Prop} {M : JM} {ks sl : Nat} {lv : List (Nat × Value)} {pc : Nat} {st : List Value} {cc : ByteArray} {k : Nat} {K : JM → Option (ρ × JM)} (X : jX p c cc nL s m args RX1 D cs b meth H0) (hin : meth.name = "<init>") {x : Nat} (hdg : decode cc pc = .ok (.putfield 15, 3)) (ho : oty M k 11) (hx : oty M x 1) (kk : ∀ M2 : JM, gn M ≤ gn M2 → AWO p l e R s m args below meth c D cs b nL H0 Qf (K M2) M2 ks sl lv (pc + 3) st) : AWO p l e R s m args below meth c D cs b nL H0 Qf (sq (sr M k 1 (some x)) K) M ks sl lv pc (.ref (b + x) :: .ref (b + k) :: st) := aw_putR (ci := 1) (τ := 1) X 1 rfl gy_X1 tyX1 tyX1_ok nmX1 (by decide) (by decide) rfl (by decide) rfl wf_X1_15 rfl (fun a => ⟨rfl, rfl⟩) (Or.inr ⟨rfl, hin, rfl⟩) hdg ho hx (kk _ (Nat.le_refl _))
theorem pf_X1_19 {ρ : Type} {l : Launch} {p : Program} {e : Env} {R : Room} {s : State} {m : MethodId} {args : Array Value} {below : List Frame} {meth : Method} {c : Code} {D : va_G} {cs : JC} {b nL : Nat} {H0 : Heap} {Qf : ρ × JM → State → Prop} {M : JM} {ks sl : Nat} {lv : List (Nat × Value)} {pc : Nat} {st : List Value} {cc : ByteArray} {k : Nat} {K : JM → Option (ρ × JM)} (X : jX p c cc nL s m args RX1 D cs b meth H0) (hin : meth.name = "<init>") {x : Nat} (hdg : decode cc pc = .ok (.putfield 19, 3)) (ho : oty M k 11) (hx : oty M x 1) (kk : ∀ M2 : JM, gn M ≤ gn M2 → AWO p l e R s m args below meth c D cs b nL H0 Qf (K M2) M2 ks sl lv (pc + 3) st) : AWO p l e R s m args below meth c D cs b nL H0 Qf (sq (sr M k 2 (some x)) K) M ks sl lv pc (.ref (b + x) :: .ref (b + k) :: st) := aw_putR (ci := 1) (τ := 1) X 2 rfl gy_X1 tyX1 tyX1_ok nmX1 (by decide) (by decide) rfl (by decide) rfl wf_X1_19 rfl (fun a => ⟨rfl, rfl⟩) (Or.inr ⟨rfl, hin, rfl⟩) hdg ho hx (kk _ (Nat.le_refl _))
theorem pf_X1_22 {ρ : Type} {l : Launch} {p : Program} {e : Env} {R : Room} {s : State} {m : MethodId} {args : Array Value} {below : List Frame} {meth : Method} {c : Code} {D : va_G} {cs : JC} {b nL : Nat} {H0 : Heap} {Qf : ρ × JM → State → Prop} {M : JM} {ks sl : Nat} {lv : List (Nat × Value)} {pc : Nat} {st : List Value} {cc : ByteArray} {k : Nat} {K : JM → Option (ρ × JM)} (X : jX p c cc nL s m args RX1 D cs b meth H0) (hin : meth.name = "<init>") {x : Nat} (hdg : decode cc pc = .ok (.putfield 22, 3)) (ho : oty M k 11) (hx : oty M x 1) (kk : ∀ M2 : JM, gn M ≤ gn M2 → AWO p l e R s m args below meth c D cs b nL H0 Qf (K M2) M2 ks sl lv (pc + 3) st) : AWO p l e R s m args below meth c D cs b nL H0 Qf (sq (sr M k 3 (some x)) K) M ks sl lv pc (.ref (b + x) :: .ref (b + k) :: st) := aw_putR (ci := 1) (τ := 1) X 3 rfl gy_X1 tyX1 tyX1_ok nmX1 (by decide) (by decide) rfl (by decide) rfl wf_X1_22 rfl (fun a => ⟨rfl, rfl⟩) (Or.inr ⟨rfl, hin, rfl⟩) hdg ho hx (kk _ (Nat.le_refl _))
theorem gf_X1_15 {ρ : Type} {l : Launch} {p : Program} {e : Env} {R : Room} {s : State} {m : MethodId} {args : Array Value} {below : List Frame} {meth : Method} {c : Code} {D : va_G} {cs : JC} {b nL : Nat} {H0 : Heap} {Qf : ρ × JM → State → Prop} {M : JM} {ks sl : Nat} {lv : List (Nat × Value)} {pc : Nat} {st : List Value} {cc : ByteArray} {k : Nat} (X : jX p c cc nL s m args RX1 D cs b meth H0) {K : Nat → Option (ρ × JM)} (hdg : decode cc pc = .ok (.getfield 15, 3)) (ho : oty M k 11) (kk : ∀ r : Nat, oty M r 1 → AWO p l e R s m args below meth c D cs b nL H0 Qf (K r) M ks sl lv (pc + 3) (.ref (b + r) :: st)) : AWO p l e R s m args below meth c D cs b nL H0 Qf (orf (gr M k 1) K) M ks sl lv pc (.ref (b + k) :: st) := aw_getR (ci := 1) (τ := 1) X 1 rfl gy_X1 (by decide) (by decide) rfl rfl (by decide) wf_X1_15 hdg ho kk
theorem cl_X1_25 {ρ : Type} {l : Launch} {p : Program} {e : Env} {R : Room} {s : State} {m : MethodId} {args : Array Value} {below : List Frame} {meth : Method} {c : Code} {D : va_G} {cs : JC} {b nL : Nat} {H0 : Heap} {Qf : ρ × JM → State → Prop} {M : JM} {ks sl : Nat} {lv : List (Nat × Value)} {pc : Nat} {st : List Value} {cc : ByteArray} (X : jX p c cc nL s m args RX1 D cs b meth H0) {z0 : Nat} {z1 : Int32} {K : JM → Option (ρ × JM)} (hrm : jRm rm_J7_fill_53178 4 R) (hW : (st.map fun v => v.category).sum ≤ 8) {ks2 sl2 : Nat} (hk2 : ks + rm_J7_fill_53178.cells = ks2) (hs2 : sl + rm_J7_fill_53178.slots = sl2) (hroom : ks2 ≤ R.cells ∧ sl2 ≤ R.slots) (hdg : decode cc pc = .ok (.invokestatic 25, 3)) (h0 : oty M z0 1) (kk : ∀ (M2 : JM), gn M ≤ gn M2 → AWO p l e R s m args below meth c D cs b nL H0 Qf (K M2) M2 ks2 sl2 lv (pc + 3) (st)) : AWO p l e R s m args below meth c D cs b nL H0 Qf (ob (f_J7_fill_53178 z0 z1 M) (fun _ => K)) M ks sl lv pc (.int z1 :: .ref (b + z0) :: st) := by
  subst hk2
  subst hs2
  exact aw_callS X [.ref (b + z0), .int z1] st rfl wl_X1_25 wt_J7_fill_53178 wc_J7_fill_53178 wn_J7 (n := 2) hd_J7_fill_53178 rfl hrm hW hroom hdg (t_J7_fill_53178 z0 z1 M h0) (fun _ M2 g _ => kk M2 g)
def f_X1_init (a0 : Nat) (v1 : Int32) (M : JM) : Option (Unit × JM) := sq (si M a0 0 v1) fun M1 => if shp (gn M1) = (1, 22) then (sq (al M1) fun M3 => sq (sr M3 a0 1 (some (gn M1))) fun M6 => if shp (gn M6) = (1, 22) then (sq (al M6) fun M8 => sq (sr M8 a0 2 (some (gn M6))) fun M11 => if shp (gn M11) = (1, 308) then (sq (al M11) fun M13 => sq (sr M13 a0 3 (some (gn M11))) fun M16 => orf (gr M16 a0 1) fun r18 => ob (f_J7_fill_53178 r18 (-9 : Int32) M16) fun _ M19 => some ((), M19)) else none) else none) else none
set_option maxRecDepth 10000 in
set_option maxHeartbeats 4000000 in
theorem t_X1_init {l : Launch} {D : va_G} {cs : JC} {b : Nat} (a0 : Nat) (v1 : Int32) (M : JM) (h_a0 : oty M a0 11) : ∀ q, f_X1_init a0 v1 M = some q → CTy l yX1_init (.code yX1_init cX1_init 2 (Option.none) :: GB) rm_X1_init D cs b evV [.ref (b + a0), .int v1] M rm_X1_init.cells rm_X1_init.slots q := fun q hq => ct_of [(0, .ref (b + a0)), (1, .int v1)] rfl rfl (Nat.le_of_ble_eq_true rfl) hq (fun p e s m args below meth c X hr hin => by
  refine aw_callq (F' := sq (si M a0 0 v1) fun M1 => if shp (gn M1) = (1, 22) then (sq (al M1) fun M3 => sq (sr M3 a0 1 (some (gn M1))) fun M6 => if shp (gn M6) = (1, 22) then (sq (al M6) fun M8 => sq (sr M8 a0 2 (some (gn M6))) fun M11 => if shp (gn M11) = (1, 308) then (sq (al M11) fun M13 => sq (sr M13 a0 3 (some (gn M11))) fun M16 => orf (gr M16 a0 1) fun r18 => ob (f_J7_fill_53178 r18 (-9 : Int32) M16) fun _ M19 => some ((), M19)) else none) else none) else none) rfl ?_
  refine aw_aload_n (pc := 0) X 0 dX1_init_0 rfl ?_
  refine aw_objInit (pc := 1) X wl_X1_3 wi_objInit wc_objInit dX1_init_1 (Nat.le_of_ble_eq_true rfl) (Nat.le_of_ble_eq_true rfl) ?_
  refine aw_aload_n (pc := 4) X 0 dX1_init_4 rfl ?_
  refine aw_iload_n (pc := 5) X 1 dX1_init_5 rfl ?_
  refine pf_X1_9 (pc := 6) X hin dX1_init_6 h_a0 (fun M1 g2 => ?_)
  have h_a0 := h_a0.mono g2
  refine aw_aload_n (pc := 9) X 0 dX1_init_9 rfl ?_
  refine aw_bipush (pc := 10) X (22 : Int32) dX1_init_10 (by decide) ?_
  refine aw_newIQ (pc := 12) X (N' := 22) (by decide) rfl (Nat.le_of_ble_eq_true rfl) (Nat.le_of_ble_eq_true rfl) (Nat.le_of_ble_eq_true rfl) wr_int dX1_init_12 (fun M3 g4 h_r5 => ?_)
  have h_a0 := h_a0.mono g4
  refine pf_X1_15 (pc := 14) X hin dX1_init_14 h_a0 h_r5 (fun M6 g7 => ?_)
  have h_a0 := h_a0.mono g7
  refine aw_aload_n (pc := 17) X 0 dX1_init_17 rfl ?_
  refine aw_bipush (pc := 18) X (22 : Int32) dX1_init_18 (by decide) ?_
  refine aw_newIQ (pc := 20) X (N' := 22) (by decide) rfl (Nat.le_of_ble_eq_true rfl) (Nat.le_of_ble_eq_true rfl) (Nat.le_of_ble_eq_true rfl) wr_int dX1_init_20 (fun M8 g9 h_r10 => ?_)
  have h_a0 := h_a0.mono g9
  refine pf_X1_19 (pc := 22) X hin dX1_init_22 h_a0 h_r10 (fun M11 g12 => ?_)
  have h_a0 := h_a0.mono g12
  refine aw_aload_n (pc := 25) X 0 dX1_init_25 rfl ?_
  refine aw_sipush (pc := 26) X (308 : Int32) dX1_init_26 (by decide) ?_
  refine aw_newIQ (pc := 29) X (N' := 308) (by decide) rfl (Nat.le_of_ble_eq_true rfl) (Nat.le_of_ble_eq_true rfl) (Nat.le_of_ble_eq_true rfl) wr_int dX1_init_29 (fun M13 g14 h_r15 => ?_)
  have h_a0 := h_a0.mono g14
  refine pf_X1_22 (pc := 31) X hin dX1_init_31 h_a0 h_r15 (fun M16 g17 => ?_)
  have h_a0 := h_a0.mono g17
  refine aw_aload_n (pc := 34) X 0 dX1_init_34 rfl ?_
  refine gf_X1_15 (pc := 35) X dX1_init_35 h_a0 (fun r18 h_r18 => ?_)
  refine aw_bipush (pc := 38) X (-9 : Int32) dX1_init_38 (by decide) ?_
  refine cl_X1_25 (pc := 40) X ⟨Nat.le_of_ble_eq_true rfl, Nat.le_of_ble_eq_true rfl⟩ (Nat.le_of_ble_eq_true rfl) (ks2 := 3) (sl2 := 352) rfl rfl ⟨(Nat.le_of_ble_eq_true rfl), (Nat.le_of_ble_eq_true rfl)⟩ dX1_init_40 h_r18 (fun M19 g20 => ?_)
  have h_a0 := h_a0.mono g20
  exact aw_vret (pc := 43) X hr dX1_init_43 (Nat.le_of_ble_eq_true rfl) (Nat.le_of_ble_eq_true rfl))
/-! ReportBlocks.category -/
def rm_X7_category : Room := { frames := 2, cells := 4, slots := 358, locals := 44 }
theorem hd_X7_category : jHd yX7_category 1 := by unfold jHd; decide +kernel
theorem cl_X7_55 {ρ : Type} {l : Launch} {p : Program} {e : Env} {R : Room} {s : State} {m : MethodId} {args : Array Value} {below : List Frame} {meth : Method} {c : Code} {D : va_G} {cs : JC} {b nL : Nat} {H0 : Heap} {Qf : ρ × JM → State → Prop} {M : JM} {ks sl : Nat} {lv : List (Nat × Value)} {pc : Nat} {st : List Value} {cc : ByteArray} (X : jX p c cc nL s m args RX7 D cs b meth H0) {z0 : Nat} {z1 : Int32} {K : Int32 → JM → Option (ρ × JM)} (hrm : jRm rm_X7_indexOfNumber 3 R) (hW : (st.map fun v => v.category).sum ≤ 8) {ks2 sl2 : Nat} (hk2 : ks + rm_X7_indexOfNumber.cells = ks2) (hs2 : sl + rm_X7_indexOfNumber.slots = sl2) (hroom : ks2 ≤ R.cells ∧ sl2 ≤ R.slots) (hdg : decode cc pc = .ok (.invokevirtual 55, 3)) (h0 : oty M z0 17) (kk : ∀ (r : Int32) (M2 : JM), gn M ≤ gn M2 → AWO p l e R s m args below meth c D cs b nL H0 Qf (K r M2) M2 ks2 sl2 lv (pc + 3) (.int r :: st)) : AWO p l e R s m args below meth c D cs b nL H0 Qf (ob (f_X7_indexOfNumber z0 z1 M) K) M ks sl lv pc (.int z1 :: .ref (b + z0) :: st) := by
  subst hk2
  subst hs2
  exact aw_callV (ci := 7) X [.int z1] st rfl rfl wl_X7_55 wi_X7_indexOfNumber wv_X7_indexOfNumber wc_X7_indexOfNumber wn_X7 (n := 1) hd_X7_indexOfNumber rfl hrm hW hroom hdg h0 (t_X7_indexOfNumber z0 z1 M h0) (fun r M2 g _ => kk r M2 g)
theorem nwo_X7_9 {ρ : Type} {l : Launch} {p : Program} {e : Env} {R : Room} {s : State} {m : MethodId} {args : Array Value} {below : List Frame} {meth : Method} {c : Code} {D : va_G} {cs : JC} {b nL : Nat} {H0 : Heap} {Qf : ρ × JM → State → Prop} {M : JM} {ks sl : Nat} {lv : List (Nat × Value)} {pc : Nat} {st : List Value} {cc : ByteArray} {K : JM → Option (ρ × JM)} (X : jX p c cc nL s m args RX7 D cs b meth H0) (hcells : ks + 1 ≤ R.cells) (hslots : sl + 6 ≤ R.slots) (hdg : decode cc pc = .ok (.new 9, 3)) (kk : ∀ M2 : JM, gn M ≤ gn M2 → oty M2 (gn M) 11 → AWO p l e R s m args below meth c D cs b nL H0 Qf (K M2) M2 (ks + 1) (sl + 6) lv (pc + 3) (.ref (b + gn M) :: st)) : AWO p l e R s m args below meth c D cs b nL H0 Qf (if shp (gn M) = (0, 1) then sq (al M) K else none) M ks sl lv pc st := aw_new (ci := 1) X rfl gy_X1 tyX1 tyX1_ok rfl (by decide) wk_X7_9 wb_X1 wn_X1 hcells hslots hdg (fun h => kk _ (by rw [gn_al]; exact Nat.le_succ _) h)
theorem cl_X7_63 {ρ : Type} {l : Launch} {p : Program} {e : Env} {R : Room} {s : State} {m : MethodId} {args : Array Value} {below : List Frame} {meth : Method} {c : Code} {D : va_G} {cs : JC} {b nL : Nat} {H0 : Heap} {Qf : ρ × JM → State → Prop} {M : JM} {ks sl : Nat} {lv : List (Nat × Value)} {pc : Nat} {st : List Value} {cc : ByteArray} (X : jX p c cc nL s m args RX7 D cs b meth H0) {z0 : Nat} {z1 : Int32} {K : JM → Option (ρ × JM)} (hrm : jRm rm_X1_init 2 R) (hW : (st.map fun v => v.category).sum ≤ 8) {ks2 sl2 : Nat} (hk2 : ks + rm_X1_init.cells = ks2) (hs2 : sl + rm_X1_init.slots = sl2) (hroom : ks2 ≤ R.cells ∧ sl2 ≤ R.slots) (hdg : decode cc pc = .ok (.invokespecial 63, 3)) (h0 : oty M z0 11) (kk : ∀ (M2 : JM), gn M ≤ gn M2 → AWO p l e R s m args below meth c D cs b nL H0 Qf (K M2) M2 ks2 sl2 lv (pc + 3) (st)) : AWO p l e R s m args below meth c D cs b nL H0 Qf (ob (f_X1_init z0 z1 M) (fun _ => K)) M ks sl lv pc (.int z1 :: .ref (b + z0) :: st) := by
  subst hk2
  subst hs2
  exact aw_callI X [.int z1] st rfl wl_X7_63 wi_X1_init wc_X1_init wn_X1 rfl (n := 1) hd_X1_init rfl hrm hW hroom hdg (t_X1_init z0 z1 M h0) (fun _ M2 g _ => kk M2 g)
theorem pf_X7_59 {ρ : Type} {l : Launch} {p : Program} {e : Env} {R : Room} {s : State} {m : MethodId} {args : Array Value} {below : List Frame} {meth : Method} {c : Code} {D : va_G} {cs : JC} {b nL : Nat} {H0 : Heap} {Qf : ρ × JM → State → Prop} {M : JM} {ks sl : Nat} {lv : List (Nat × Value)} {pc : Nat} {st : List Value} {cc : ByteArray} {k : Nat} {K : JM → Option (ρ × JM)} (X : jX p c cc nL s m args RX7 D cs b meth H0) {x : Int32} (hdg : decode cc pc = .ok (.putfield 59, 3)) (ho : oty M k 17) (kk : ∀ M2 : JM, gn M ≤ gn M2 → AWO p l e R s m args below meth c D cs b nL H0 Qf (K M2) M2 ks sl lv (pc + 3) st) : AWO p l e R s m args below meth c D cs b nL H0 Qf (sq (si M k 1 x) K) M ks sl lv pc (.int x :: .ref (b + k) :: st) := aw_putI (ci := 7) X 1 rfl gy_X7 tyX7 tyX7_ok nmX7 (by decide) (by decide) rfl rfl wf_X7_59 rfl (Or.inl rfl) hdg ho (kk _ (Nat.le_refl _))
def f_X7_category (a0 : Nat) (v1 : Int32) (M : JM) : Option (Int32 × JM) := if v1 < (1 : Int32) then (some ((-1 : Int32), M)) else (if (255 : Int32) < v1 then (some ((-1 : Int32), M)) else (ob (f_X7_indexOfNumber a0 v1 M) fun r3 M1 => if r3 = (-9 : Int32) then (if (gi M1 a0 1) < (3 : Int32) then (orf (gr M1 a0 0) fun r4 => if shp (gn M1) = (0, 1) then (sq (al M1) fun M5 => ob (f_X1_init (gn M1) v1 M5) fun _ M8 => if 0 ≤ (gi M1 a0 1) ∧ (gi M1 a0 1) < ln r4 then (sq (sr M8 r4 (gi M1 a0 1) (some (gn M1))) fun M10 => sq (si M10 a0 1 ((gi M10 a0 1) + (1 : Int32))) fun M12 => some (((gi M12 a0 1) - (1 : Int32)), M12)) else none) else none) else (some ((-3 : Int32), M1))) else (some ((-1 : Int32), M1))))
set_option maxRecDepth 10000 in
set_option maxHeartbeats 4000000 in
theorem t_X7_category {l : Launch} {D : va_G} {cs : JC} {b : Nat} (a0 : Nat) (v1 : Int32) (M : JM) (h_a0 : oty M a0 17) : ∀ q, f_X7_category a0 v1 M = some q → CTy l yX7_category (.code yX7_category cX7_category 2 (Option.some Jvm.ClassFile.FieldType.int) :: GB) rm_X7_category D cs b evI [.ref (b + a0), .int v1] M rm_X7_category.cells rm_X7_category.slots q := fun q hq => ct_of [(0, .ref (b + a0)), (1, .int v1)] rfl rfl (Nat.le_of_ble_eq_true rfl) hq (fun p e s m args below meth c X hr hin => by
  refine aw_callq (F' := if v1 < (1 : Int32) then (some ((-1 : Int32), M)) else (if (255 : Int32) < v1 then (some ((-1 : Int32), M)) else (ob (f_X7_indexOfNumber a0 v1 M) fun r3 M1 => if r3 = (-9 : Int32) then (if (gi M1 a0 1) < (3 : Int32) then (orf (gr M1 a0 0) fun r4 => if shp (gn M1) = (0, 1) then (sq (al M1) fun M5 => ob (f_X1_init (gn M1) v1 M5) fun _ M8 => if 0 ≤ (gi M1 a0 1) ∧ (gi M1 a0 1) < ln r4 then (sq (sr M8 r4 (gi M1 a0 1) (some (gn M1))) fun M10 => sq (si M10 a0 1 ((gi M10 a0 1) + (1 : Int32))) fun M12 => some (((gi M12 a0 1) - (1 : Int32)), M12)) else none) else none) else (some ((-3 : Int32), M1))) else (some ((-1 : Int32), M1))))) rfl ?_
  refine aw_iload_n (pc := 0) X 1 dX7_category_0 rfl ?_
  refine aw_iconst (pc := 1) X (1 : Int32) dX7_category_1 (by decide) ?_
  refine aw_icmplt (pc := 2) X 22 dX7_category_2 (by decide) ?_ ?_
  · refine aw_iconst (pc := 22) X (-1 : Int32) dX7_category_22 (by decide) ?_
    exact aw_iret (pc := 23) X hr dX7_category_23 (Nat.le_of_ble_eq_true rfl) (Nat.le_of_ble_eq_true rfl)
  · refine aw_iload_n (pc := 5) X 1 dX7_category_5 rfl ?_
    refine aw_sipush (pc := 6) X (255 : Int32) dX7_category_6 (by decide) ?_
    refine aw_icmpgt (pc := 9) X 22 dX7_category_9 (by decide) ?_ ?_
    · refine aw_iconst (pc := 22) X (-1 : Int32) dX7_category_22 (by decide) ?_
      exact aw_iret (pc := 23) X hr dX7_category_23 (Nat.le_of_ble_eq_true rfl) (Nat.le_of_ble_eq_true rfl)
    · refine aw_aload_n (pc := 12) X 0 dX7_category_12 rfl ?_
      refine aw_iload_n (pc := 13) X 1 dX7_category_13 rfl ?_
      refine cl_X7_55 (pc := 14) X ⟨Nat.le_of_ble_eq_true rfl, Nat.le_of_ble_eq_true rfl⟩ (Nat.le_of_ble_eq_true rfl) (ks2 := 0) (sl2 := 0) rfl rfl ⟨(Nat.le_of_ble_eq_true rfl), (Nat.le_of_ble_eq_true rfl)⟩ dX7_category_14 h_a0 (fun r3 M1 g2 => ?_)
      have h_a0 := h_a0.mono g2
      refine aw_bipush (pc := 17) X (-9 : Int32) dX7_category_17 (by decide) ?_
      refine aw_icmpeq (pc := 19) X 24 dX7_category_19 (by decide) ?_ ?_
      · refine aw_aload_n (pc := 24) X 0 dX7_category_24 rfl ?_
        refine gf_X7_59 (pc := 25) X dX7_category_25 h_a0 ?_
        refine aw_iconst (pc := 28) X (3 : Int32) dX7_category_28 (by decide) ?_
        refine aw_icmplt (pc := 29) X 35 dX7_category_29 (by decide) ?_ ?_
        · refine aw_aload_n (pc := 35) X 0 dX7_category_35 rfl ?_
          refine gf_X7_11 (pc := 36) X dX7_category_36 h_a0 (fun r4 h_r4 => ?_)
          refine aw_aload_n (pc := 39) X 0 dX7_category_39 rfl ?_
          refine gf_X7_59 (pc := 40) X dX7_category_40 h_a0 ?_
          refine nwo_X7_9 (pc := 43) X (Nat.le_of_ble_eq_true rfl) (Nat.le_of_ble_eq_true rfl) dX7_category_43 (fun M5 g6 h_r7 => ?_)
          have h_a0 := h_a0.mono g6
          have h_r4 := h_r4.mono g6
          refine aw_dup_a (pc := 46) X dX7_category_46 ?_
          refine aw_iload_n (pc := 47) X 1 dX7_category_47 rfl ?_
          refine cl_X7_63 (pc := 48) X ⟨Nat.le_of_ble_eq_true rfl, Nat.le_of_ble_eq_true rfl⟩ (Nat.le_of_ble_eq_true rfl) (ks2 := 4) (sl2 := 358) rfl rfl ⟨(Nat.le_of_ble_eq_true rfl), (Nat.le_of_ble_eq_true rfl)⟩ dX7_category_48 h_r7 (fun M8 g9 => ?_)
          have h_a0 := h_a0.mono g9
          have h_r7 := h_r7.mono g9
          have h_r4 := h_r4.mono g9
          refine aw_astCQ (pc := 51) X dX7_category_51 h_r4 h_r7 (fun M10 g11 => ?_)
          have h_a0 := h_a0.mono g11
          refine aw_aload_n (pc := 52) X 0 dX7_category_52 rfl ?_
          refine aw_dup_a (pc := 53) X dX7_category_53 ?_
          refine gf_X7_59 (pc := 54) X dX7_category_54 h_a0 ?_
          refine aw_iconst (pc := 57) X (1 : Int32) dX7_category_57 (by decide) ?_
          refine aw_iadd (pc := 58) X dX7_category_58 ?_
          refine pf_X7_59 (pc := 59) X dX7_category_59 h_a0 (fun M12 g13 => ?_)
          have h_a0 := h_a0.mono g13
          refine aw_aload_n (pc := 62) X 0 dX7_category_62 rfl ?_
          refine gf_X7_59 (pc := 63) X dX7_category_63 h_a0 ?_
          refine aw_iconst (pc := 66) X (1 : Int32) dX7_category_66 (by decide) ?_
          refine aw_isub (pc := 67) X dX7_category_67 ?_
          exact aw_iret (pc := 68) X hr dX7_category_68 (Nat.le_of_ble_eq_true rfl) (Nat.le_of_ble_eq_true rfl)
        · refine aw_bipush (pc := 32) X (-3 : Int32) dX7_category_32 (by decide) ?_
          exact aw_iret (pc := 34) X hr dX7_category_34 (Nat.le_of_ble_eq_true rfl) (Nat.le_of_ble_eq_true rfl)
      · refine aw_iconst (pc := 22) X (-1 : Int32) dX7_category_22 (by decide) ?_
        exact aw_iret (pc := 23) X hr dX7_category_23 (Nat.le_of_ble_eq_true rfl) (Nat.le_of_ble_eq_true rfl))
/-! ReportBlocksModel.in -/
def rm_X8_in : Room := { frames := 0, cells := 0, slots := 0, locals := 0 }
theorem hd_X8_in : jHd yX8_in 3 := by unfold jHd; decide +kernel
def f_X8_in (v0 : Int32) (v1 : Int32) (v2 : Int32) (M : JM) : Option (Bool × JM) := if v0 < v1 then (some (false, M)) else (if v2 < v0 then (some (false, M)) else (some (true, M)))
set_option maxRecDepth 10000 in
set_option maxHeartbeats 4000000 in
theorem t_X8_in {l : Launch} {D : va_G} {cs : JC} {b : Nat} (v0 : Int32) (v1 : Int32) (v2 : Int32) (M : JM)  : ∀ q, f_X8_in v0 v1 v2 M = some q → CTy l yX8_in (.code yX8_in cX8_in 3 (Option.some Jvm.ClassFile.FieldType.boolean) :: GB) rm_X8_in D cs b evB [.int v0, .int v1, .int v2] M rm_X8_in.cells rm_X8_in.slots q := fun q hq => ct_of [(0, .int v0), (1, .int v1), (2, .int v2)] rfl rfl (Nat.le_of_ble_eq_true rfl) hq (fun p e s m args below meth c X hr hin => by
  refine aw_callq (F' := if v0 < v1 then (some (false, M)) else (if v2 < v0 then (some (false, M)) else (some (true, M)))) rfl ?_
  refine aw_iload_n (pc := 0) X 0 dX8_in_0 rfl ?_
  refine aw_iload_n (pc := 1) X 1 dX8_in_1 rfl ?_
  refine aw_icmplt (pc := 2) X 14 dX8_in_2 (by decide) ?_ ?_
  · refine aw_iconst (pc := 14) X (0 : Int32) dX8_in_14 (by decide) ?_
    exact aw_zret (pc := 15) X hr false rfl dX8_in_15 (Nat.le_of_ble_eq_true rfl) (Nat.le_of_ble_eq_true rfl)
  · refine aw_iload_n (pc := 5) X 0 dX8_in_5 rfl ?_
    refine aw_iload_n (pc := 6) X 2 dX8_in_6 rfl ?_
    refine aw_icmpgt (pc := 7) X 14 dX8_in_7 (by decide) ?_ ?_
    · refine aw_iconst (pc := 14) X (0 : Int32) dX8_in_14 (by decide) ?_
      exact aw_zret (pc := 15) X hr false rfl dX8_in_15 (Nat.le_of_ble_eq_true rfl) (Nat.le_of_ble_eq_true rfl)
    · refine aw_iconst (pc := 10) X (1 : Int32) dX8_in_10 (by decide) ?_
      refine aw_goto (pc := 11) X 15 dX8_in_11 (by decide) ?_
      exact aw_zret (pc := 15) X hr true rfl dX8_in_15 (Nat.le_of_ble_eq_true rfl) (Nat.le_of_ble_eq_true rfl))
/-! ReportBlocksModel.find -/
def rm_X8_find : Room := { frames := 0, cells := 0, slots := 0, locals := 0 }
theorem hd_X8_find : jHd yX8_find 1 := by unfold jHd; decide +kernel
theorem gf_X8_102 {ρ : Type} {l : Launch} {p : Program} {e : Env} {R : Room} {s : State} {m : MethodId} {args : Array Value} {below : List Frame} {meth : Method} {c : Code} {D : va_G} {cs : JC} {b nL : Nat} {H0 : Heap} {Qf : ρ × JM → State → Prop} {M : JM} {ks sl : Nat} {lv : List (Nat × Value)} {pc : Nat} {st : List Value} {cc : ByteArray} {k : Nat} (X : jX p c cc nL s m args RX8 D cs b meth H0) {F : Option (ρ × JM)} (hdg : decode cc pc = .ok (.getfield 102, 3)) (ho : oty M k 18) (kk : AWO p l e R s m args below meth c D cs b nL H0 Qf F M ks sl lv (pc + 3) (.int (gi M k 0) :: st)) : AWO p l e R s m args below meth c D cs b nL H0 Qf F M ks sl lv pc (.ref (b + k) :: st) := aw_getI (ci := 8) X 0 rfl gy_X8 (by decide) rfl rfl wf_X8_102 hdg ho kk
theorem gf_X8_7 {ρ : Type} {l : Launch} {p : Program} {e : Env} {R : Room} {s : State} {m : MethodId} {args : Array Value} {below : List Frame} {meth : Method} {c : Code} {D : va_G} {cs : JC} {b nL : Nat} {H0 : Heap} {Qf : ρ × JM → State → Prop} {M : JM} {ks sl : Nat} {lv : List (Nat × Value)} {pc : Nat} {st : List Value} {cc : ByteArray} {k : Nat} (X : jX p c cc nL s m args RX8 D cs b meth H0) {K : Nat → Option (ρ × JM)} (hdg : decode cc pc = .ok (.getfield 7, 3)) (ho : oty M k 18) (kk : ∀ r : Nat, oty M r 1 → AWO p l e R s m args below meth c D cs b nL H0 Qf (K r) M ks sl lv (pc + 3) (.ref (b + r) :: st)) : AWO p l e R s m args below meth c D cs b nL H0 Qf (orf (gr M k 1) K) M ks sl lv pc (.ref (b + k) :: st) := aw_getR (ci := 8) (τ := 1) X 1 rfl gy_X8 (by decide) (by decide) rfl rfl (by decide) wf_X8_7 hdg ho kk
def f_X8_find_L2 : Nat → Nat → Int32 → Int32 → JM → Option (Int32 × JM)
  | 0, _, _, _, _ => none
  | n + 1, a0, v1, v2, M => if v2 < (gi M a0 0) then (orf (gr M a0 1) fun r2 => if 0 ≤ v2 ∧ v2 < ln r2 then (if (gi M r2 v2) = v1 then (some (v2, M)) else (sv (v2 + (1 : Int32)) fun i3 => (f_X8_find_L2 n) a0 v1 i3 M)) else none) else (some ((-9 : Int32), M))
set_option maxRecDepth 10000 in
set_option maxHeartbeats 4000000 in
theorem t_X8_find_L2 {p : Program} {l : Launch} {e : Env} {s : State} {m : MethodId} {args : Array Value} {below : List Frame} {meth : Method} {c : Code} {D : va_G} {cs : JC} {b : Nat} (X : jX p c cX8_find 3 s m args RX8 D cs b meth s.heap) (hr : meth.sig.returnType = Option.some Jvm.ClassFile.FieldType.int) : ∀ (n : Nat) (a0 : Nat) (v1 : Int32) (v2 : Int32) (M : JM), oty M a0 18 → AWO p l e rm_X8_find s m args below meth c D cs b 3 s.heap (jE below D cs b evI args s rm_X8_find.cells rm_X8_find.slots) (f_X8_find_L2 n a0 v1 v2 M) M 0 0 [(0, .ref (b + a0)), (1, .int v1), (2, .int v2)] 2 [] := by
  intro n
  induction n with
  | zero => intro a0 v1 v2 M h_a0; exact aw_none
  | succ n ih =>
    intro a0 v1 v2 M h_a0
    refine aw_callq (F' := if v2 < (gi M a0 0) then (orf (gr M a0 1) fun r2 => if 0 ≤ v2 ∧ v2 < ln r2 then (if (gi M r2 v2) = v1 then (some (v2, M)) else (sv (v2 + (1 : Int32)) fun i3 => (f_X8_find_L2 n) a0 v1 i3 M)) else none) else (some ((-9 : Int32), M))) rfl ?_
    refine aw_iload_n (pc := 2) X 2 dX8_find_2 rfl ?_
    refine aw_aload_n (pc := 3) X 0 dX8_find_3 rfl ?_
    refine gf_X8_102 (pc := 4) X dX8_find_4 h_a0 ?_
    refine aw_icmpge (pc := 7) X 28 dX8_find_7 (by decide) ?_ ?_
    · refine aw_aload_n (pc := 10) X 0 dX8_find_10 rfl ?_
      refine gf_X8_7 (pc := 11) X dX8_find_11 h_a0 (fun r2 h_r2 => ?_)
      refine aw_iload_n (pc := 14) X 2 dX8_find_14 rfl ?_
      refine aw_iald (pc := 15) X dX8_find_15 h_r2 ?_
      refine aw_iload_n (pc := 16) X 1 dX8_find_16 rfl ?_
      refine aw_icmpne (pc := 17) X 22 dX8_find_17 (by decide) ?_ ?_
      · refine aw_iload_n (pc := 20) X 2 dX8_find_20 rfl ?_
        exact aw_iret (pc := 21) X hr dX8_find_21 (Nat.le_of_ble_eq_true rfl) (Nat.le_of_ble_eq_true rfl)
      · refine aw_iincV (pc := 22) X (fun y => [(2, .int y), (0, .ref (b + a0)), (1, .int v1)]) 2 (v := (v2 + (1 : Int32))) dX8_find_22 rfl rfl (by decide) (fun _ => rfl) (fun i3 => ?_)
        refine aw_goto (pc := 25) X 2 dX8_find_25 (by decide) ?_
        refine aw_sub [1, 2, 0] rfl ?_
        exact ih a0 v1 i3 M h_a0
    · refine aw_bipush (pc := 28) X (-9 : Int32) dX8_find_28 (by decide) ?_
      exact aw_iret (pc := 30) X hr dX8_find_30 (Nat.le_of_ble_eq_true rfl) (Nat.le_of_ble_eq_true rfl)
def f_X8_find (a0 : Nat) (v1 : Int32) (M : JM) : Option (Int32 × JM) := sv (0 : Int32) fun i1 => f_X8_find_L2 FU a0 v1 i1 M
set_option maxRecDepth 10000 in
set_option maxHeartbeats 4000000 in
theorem t_X8_find {l : Launch} {D : va_G} {cs : JC} {b : Nat} (a0 : Nat) (v1 : Int32) (M : JM) (h_a0 : oty M a0 18) : ∀ q, f_X8_find a0 v1 M = some q → CTy l yX8_find (.code yX8_find cX8_find 3 (Option.some Jvm.ClassFile.FieldType.int) :: GB) rm_X8_find D cs b evI [.ref (b + a0), .int v1] M rm_X8_find.cells rm_X8_find.slots q := fun q hq => ct_of [(0, .ref (b + a0)), (1, .int v1)] rfl rfl (Nat.le_of_ble_eq_true rfl) hq (fun p e s m args below meth c X hr hin => by
  refine aw_callq (F' := sv (0 : Int32) fun i1 => f_X8_find_L2 FU a0 v1 i1 M) rfl ?_
  refine aw_iconst (pc := 0) X (0 : Int32) dX8_find_0 (by decide) ?_
  refine aw_istoreV_n (pc := 1) X (fun y => [(2, .int y), (0, .ref (b + a0)), (1, .int v1)]) dX8_find_1 (by decide) (fun _ => rfl) (fun i1 => ?_)
  refine aw_sub [1, 2, 0] rfl ?_
  exact t_X8_find_L2 X hr FU a0 v1 i1 M h_a0)
