/-! programs of the methods, and the rows that their bytecode answers so: written by wip/gen/gen.py out of the printed decode rows -/
/-! ReportBlocks$Reader.passItem -/
def rm_X3_passItem : Room := { frames := 3, cells := 0, slots := 0, locals := 70 }
theorem hd_X3_passItem : jHd yX3_passItem 1 := by unfold jHd; decide +kernel
theorem gf_X3_68 {ρ : Type} {l : Launch} {p : Program} {e : Env} {R : Room} {s : State} {m : MethodId} {args : Array Value} {below : List Frame} {meth : Method} {c : Code} {D : va_G} {cs : JC} {b nL : Nat} {H0 : Heap} {Qf : ρ × JM → State → Prop} {M : JM} {ks sl : Nat} {lv : List (Nat × Value)} {pc : Nat} {st : List Value} {cc : ByteArray} {k : Nat} (X : jX p c cc nL s m args RX3 D cs b meth H0) {K : Nat → Option (ρ × JM)} (hdg : decode cc pc = .ok (.getfield 68, 3)) (ho : oty M k 11) (kk : ∀ r : Nat, oty M r 1 → AWO p l e R s m args below meth c D cs b nL H0 Qf (K r) M ks sl lv (pc + 3) (.ref (b + r) :: st)) : AWO p l e R s m args below meth c D cs b nL H0 Qf (orf (gr M k 2) K) M ks sl lv pc (.ref (b + k) :: st) := aw_getR (ci := 1) (τ := 1) X 2 rfl gy_X1 (by decide) (by decide) rfl rfl (by decide) wf_X3_68 hdg ho kk
theorem cl_X3_74 {ρ : Type} {l : Launch} {p : Program} {e : Env} {R : Room} {s : State} {m : MethodId} {args : Array Value} {below : List Frame} {meth : Method} {c : Code} {D : va_G} {cs : JC} {b nL : Nat} {H0 : Heap} {Qf : ρ × JM → State → Prop} {M : JM} {ks sl : Nat} {lv : List (Nat × Value)} {pc : Nat} {st : List Value} {cc : ByteArray} (X : jX p c cc nL s m args RX3 D cs b meth H0) {z0 : Nat} {K : JM → Option (ρ × JM)} (hrm : jRm rm_X3_passGoing 3 R) (hW : (st.map fun v => v.category).sum ≤ 8) {ks2 sl2 : Nat} (hk2 : ks + rm_X3_passGoing.cells = ks2) (hs2 : sl + rm_X3_passGoing.slots = sl2) (hroom : ks2 ≤ R.cells ∧ sl2 ≤ R.slots) (hdg : decode cc pc = .ok (.invokevirtual 74, 3)) (h0 : oty M z0 13) (kk : ∀ (M2 : JM), gn M ≤ gn M2 → AWO p l e R s m args below meth c D cs b nL H0 Qf (K M2) M2 ks2 sl2 lv (pc + 3) (st)) : AWO p l e R s m args below meth c D cs b nL H0 Qf (ob (f_X3_passGoing z0 M) (fun _ => K)) M ks sl lv pc (.ref (b + z0) :: st) := by
  subst hk2
  subst hs2
  exact aw_callV (ci := 3) X [] st rfl rfl wl_X3_74 wi_X3_passGoing wv_X3_passGoing wc_X3_passGoing wn_X3 (n := 0) hd_X3_passGoing rfl hrm hW hroom hdg h0 (t_X3_passGoing z0 M h0) (fun _ M2 g _ => kk M2 g)
theorem cl_X3_77 {ρ : Type} {l : Launch} {p : Program} {e : Env} {R : Room} {s : State} {m : MethodId} {args : Array Value} {below : List Frame} {meth : Method} {c : Code} {D : va_G} {cs : JC} {b nL : Nat} {H0 : Heap} {Qf : ρ × JM → State → Prop} {M : JM} {ks sl : Nat} {lv : List (Nat × Value)} {pc : Nat} {st : List Value} {cc : ByteArray} (X : jX p c cc nL s m args RX3 D cs b meth H0) {z0 : Nat} {z1 : Int32} {K : JM → Option (ρ × JM)} (hrm : jRm rm_X3_passAgain 3 R) (hW : (st.map fun v => v.category).sum ≤ 8) {ks2 sl2 : Nat} (hk2 : ks + rm_X3_passAgain.cells = ks2) (hs2 : sl + rm_X3_passAgain.slots = sl2) (hroom : ks2 ≤ R.cells ∧ sl2 ≤ R.slots) (hdg : decode cc pc = .ok (.invokevirtual 77, 3)) (h0 : oty M z0 13) (kk : ∀ (M2 : JM), gn M ≤ gn M2 → AWO p l e R s m args below meth c D cs b nL H0 Qf (K M2) M2 ks2 sl2 lv (pc + 3) (st)) : AWO p l e R s m args below meth c D cs b nL H0 Qf (ob (f_X3_passAgain z0 z1 M) (fun _ => K)) M ks sl lv pc (.int z1 :: .ref (b + z0) :: st) := by
  subst hk2
  subst hs2
  exact aw_callV (ci := 3) X [.int z1] st rfl rfl wl_X3_77 wi_X3_passAgain wv_X3_passAgain wc_X3_passAgain wn_X3 (n := 1) hd_X3_passAgain rfl hrm hW hroom hdg h0 (t_X3_passAgain z0 z1 M h0) (fun _ M2 g _ => kk M2 g)
theorem cl_X3_80 {ρ : Type} {l : Launch} {p : Program} {e : Env} {R : Room} {s : State} {m : MethodId} {args : Array Value} {below : List Frame} {meth : Method} {c : Code} {D : va_G} {cs : JC} {b nL : Nat} {H0 : Heap} {Qf : ρ × JM → State → Prop} {M : JM} {ks sl : Nat} {lv : List (Nat × Value)} {pc : Nat} {st : List Value} {cc : ByteArray} (X : jX p c cc nL s m args RX3 D cs b meth H0) {z0 : Nat} {z1 : Int32} {K : JM → Option (ρ × JM)} (hrm : jRm rm_X3_passMade 5 R) (hW : (st.map fun v => v.category).sum ≤ 8) {ks2 sl2 : Nat} (hk2 : ks + rm_X3_passMade.cells = ks2) (hs2 : sl + rm_X3_passMade.slots = sl2) (hroom : ks2 ≤ R.cells ∧ sl2 ≤ R.slots) (hdg : decode cc pc = .ok (.invokevirtual 80, 3)) (h0 : oty M z0 13) (kk : ∀ (M2 : JM), gn M ≤ gn M2 → AWO p l e R s m args below meth c D cs b nL H0 Qf (K M2) M2 ks2 sl2 lv (pc + 3) (st)) : AWO p l e R s m args below meth c D cs b nL H0 Qf (ob (f_X3_passMade z0 z1 M) (fun _ => K)) M ks sl lv pc (.int z1 :: .ref (b + z0) :: st) := by
  subst hk2
  subst hs2
  exact aw_callV (ci := 3) X [.int z1] st rfl rfl wl_X3_80 wi_X3_passMade wv_X3_passMade wc_X3_passMade wn_X3 (n := 1) hd_X3_passMade rfl hrm hW hroom hdg h0 (t_X3_passMade z0 z1 M h0) (fun _ M2 g _ => kk M2 g)
def f_X3_passItem (a0 : Nat) (v1 : Int32) (M : JM) : Option (Unit × JM) := orf (gr M a0 1) fun r1 => orf (gr M r1 1) fun r2 => if 0 ≤ v1 ∧ v1 < ln r2 then (if (gi M r2 v1) = (0 : Int32) then (orf (gr M a0 1) fun r3 => orf (gr M r3 2) fun r4 => if 0 ≤ v1 ∧ v1 < ln r4 then (ob (f_X3_pass a0 (gi M r4 v1) M) fun _ M5 => some ((), M5)) else none) else (if (gi M r2 v1) = (1 : Int32) then (ob (f_X3_passGoing a0 M) fun _ M7 => some ((), M7)) else (if (gi M r2 v1) = (2 : Int32) then (orf (gr M a0 1) fun r9 => orf (gr M r9 2) fun r10 => if 0 ≤ v1 ∧ v1 < ln r10 then (ob (f_X3_passAgain a0 (gi M r10 v1) M) fun _ M11 => some ((), M11)) else none) else (if (gi M r2 v1) = (3 : Int32) then (ob (f_X3_passMade a0 v1 M) fun _ M13 => some ((), M13)) else (some ((), M)))))) else none
set_option maxRecDepth 10000 in
set_option maxHeartbeats 4000000 in
theorem t_X3_passItem {l : Launch} {D : va_G} {cs : JC} {b : Nat} (a0 : Nat) (v1 : Int32) (M : JM) (h_a0 : oty M a0 13) : ∀ q, f_X3_passItem a0 v1 M = some q → CTy l yX3_passItem (.code yX3_passItem cX3_passItem 2 (Option.none) :: GB) rm_X3_passItem D cs b evV [.ref (b + a0), .int v1] M rm_X3_passItem.cells rm_X3_passItem.slots q := fun q hq => ct_of [(0, .ref (b + a0)), (1, .int v1)] rfl rfl (Nat.le_of_ble_eq_true rfl) hq (fun p e s m args below meth c X hr hin => by
  refine aw_callq (F' := orf (gr M a0 1) fun r1 => orf (gr M r1 1) fun r2 => if 0 ≤ v1 ∧ v1 < ln r2 then (if (gi M r2 v1) = (0 : Int32) then (orf (gr M a0 1) fun r3 => orf (gr M r3 2) fun r4 => if 0 ≤ v1 ∧ v1 < ln r4 then (ob (f_X3_pass a0 (gi M r4 v1) M) fun _ M5 => some ((), M5)) else none) else (if (gi M r2 v1) = (1 : Int32) then (ob (f_X3_passGoing a0 M) fun _ M7 => some ((), M7)) else (if (gi M r2 v1) = (2 : Int32) then (orf (gr M a0 1) fun r9 => orf (gr M r9 2) fun r10 => if 0 ≤ v1 ∧ v1 < ln r10 then (ob (f_X3_passAgain a0 (gi M r10 v1) M) fun _ M11 => some ((), M11)) else none) else (if (gi M r2 v1) = (3 : Int32) then (ob (f_X3_passMade a0 v1 M) fun _ M13 => some ((), M13)) else (some ((), M)))))) else none) rfl ?_
  refine aw_aload_n (pc := 0) X 0 dX3_passItem_0 rfl ?_
  refine gf_X3_59 (pc := 1) X dX3_passItem_1 h_a0 (fun r1 h_r1 => ?_)
  refine gf_X3_63 (pc := 4) X dX3_passItem_4 h_r1 (fun r2 h_r2 => ?_)
  refine aw_iload_n (pc := 7) X 1 dX3_passItem_7 rfl ?_
  refine aw_iald (pc := 8) X dX3_passItem_8 h_r2 ?_
  refine aw_swIn (pc := 9) X (0 : Int32) 40 dX3_passItem_9 (by decide) (by decide) rfl (by decide) ?_ (fun hn0 => ?_)
  · refine aw_aload_n (pc := 40) X 0 dX3_passItem_40 rfl ?_
    refine aw_aload_n (pc := 41) X 0 dX3_passItem_41 rfl ?_
    refine gf_X3_59 (pc := 42) X dX3_passItem_42 h_a0 (fun r3 h_r3 => ?_)
    refine gf_X3_68 (pc := 45) X dX3_passItem_45 h_r3 (fun r4 h_r4 => ?_)
    refine aw_iload_n (pc := 48) X 1 dX3_passItem_48 rfl ?_
    refine aw_iald (pc := 49) X dX3_passItem_49 h_r4 ?_
    refine cl_X3_71 (pc := 50) X ⟨Nat.le_of_ble_eq_true rfl, Nat.le_of_ble_eq_true rfl⟩ (Nat.le_of_ble_eq_true rfl) (ks2 := 0) (sl2 := 0) rfl rfl ⟨(Nat.le_of_ble_eq_true rfl), (Nat.le_of_ble_eq_true rfl)⟩ dX3_passItem_50 h_a0 (fun M5 g6 => ?_)
    have h_a0 := h_a0.mono g6
    refine aw_goto (pc := 53) X 87 dX3_passItem_53 (by decide) ?_
    exact aw_vret (pc := 87) X hr dX3_passItem_87 (Nat.le_of_ble_eq_true rfl) (Nat.le_of_ble_eq_true rfl)
  refine aw_swIn (pc := 9) X (1 : Int32) 56 dX3_passItem_9 (by decide) (by decide) rfl (by decide) ?_ (fun hn1 => ?_)
  · refine aw_aload_n (pc := 56) X 0 dX3_passItem_56 rfl ?_
    refine cl_X3_74 (pc := 57) X ⟨Nat.le_of_ble_eq_true rfl, Nat.le_of_ble_eq_true rfl⟩ (Nat.le_of_ble_eq_true rfl) (ks2 := 0) (sl2 := 0) rfl rfl ⟨(Nat.le_of_ble_eq_true rfl), (Nat.le_of_ble_eq_true rfl)⟩ dX3_passItem_57 h_a0 (fun M7 g8 => ?_)
    have h_a0 := h_a0.mono g8
    refine aw_goto (pc := 60) X 87 dX3_passItem_60 (by decide) ?_
    exact aw_vret (pc := 87) X hr dX3_passItem_87 (Nat.le_of_ble_eq_true rfl) (Nat.le_of_ble_eq_true rfl)
  refine aw_swIn (pc := 9) X (2 : Int32) 63 dX3_passItem_9 (by decide) (by decide) rfl (by decide) ?_ (fun hn2 => ?_)
  · refine aw_aload_n (pc := 63) X 0 dX3_passItem_63 rfl ?_
    refine aw_aload_n (pc := 64) X 0 dX3_passItem_64 rfl ?_
    refine gf_X3_59 (pc := 65) X dX3_passItem_65 h_a0 (fun r9 h_r9 => ?_)
    refine gf_X3_68 (pc := 68) X dX3_passItem_68 h_r9 (fun r10 h_r10 => ?_)
    refine aw_iload_n (pc := 71) X 1 dX3_passItem_71 rfl ?_
    refine aw_iald (pc := 72) X dX3_passItem_72 h_r10 ?_
    refine cl_X3_77 (pc := 73) X ⟨Nat.le_of_ble_eq_true rfl, Nat.le_of_ble_eq_true rfl⟩ (Nat.le_of_ble_eq_true rfl) (ks2 := 0) (sl2 := 0) rfl rfl ⟨(Nat.le_of_ble_eq_true rfl), (Nat.le_of_ble_eq_true rfl)⟩ dX3_passItem_73 h_a0 (fun M11 g12 => ?_)
    have h_a0 := h_a0.mono g12
    refine aw_goto (pc := 76) X 87 dX3_passItem_76 (by decide) ?_
    exact aw_vret (pc := 87) X hr dX3_passItem_87 (Nat.le_of_ble_eq_true rfl) (Nat.le_of_ble_eq_true rfl)
  refine aw_swIn (pc := 9) X (3 : Int32) 79 dX3_passItem_9 (by decide) (by decide) rfl (by decide) ?_ (fun hn3 => ?_)
  · refine aw_aload_n (pc := 79) X 0 dX3_passItem_79 rfl ?_
    refine aw_iload_n (pc := 80) X 1 dX3_passItem_80 rfl ?_
    refine cl_X3_80 (pc := 81) X ⟨Nat.le_of_ble_eq_true rfl, Nat.le_of_ble_eq_true rfl⟩ (Nat.le_of_ble_eq_true rfl) (ks2 := 0) (sl2 := 0) rfl rfl ⟨(Nat.le_of_ble_eq_true rfl), (Nat.le_of_ble_eq_true rfl)⟩ dX3_passItem_81 h_a0 (fun M13 g14 => ?_)
    have h_a0 := h_a0.mono g14
    refine aw_goto (pc := 84) X 87 dX3_passItem_84 (by decide) ?_
    exact aw_vret (pc := 87) X hr dX3_passItem_87 (Nat.le_of_ble_eq_true rfl) (Nat.le_of_ble_eq_true rfl)
  refine aw_swOut (pc := 9) X 87 dX3_passItem_9 (by have e0 := sw_ne (z := 0) hn0 rfl; have e1 := sw_ne (z := 1) hn1 rfl; have e2 := sw_ne (z := 2) hn2 rfl; have e3 := sw_ne (z := 3) hn3 rfl; omega) (by decide) ?_
  exact aw_vret (pc := 87) X hr dX3_passItem_87 (Nat.le_of_ble_eq_true rfl) (Nat.le_of_ble_eq_true rfl))
/-! ReportBlocks$Block.slot -/
def rm_X0_slot : Room := { frames := 0, cells := 0, slots := 0, locals := 0 }
theorem hd_X0_slot : jHd yX0_slot 2 := by unfold jHd; decide +kernel
def f_X0_slot (v0 : Int32) (v1 : Int32) (M : JM) : Option (Int32 × JM) := some ((((v0 * (21 : Int32)) + v1) - (1 : Int32)), M)
set_option maxRecDepth 10000 in
set_option maxHeartbeats 4000000 in
theorem t_X0_slot {l : Launch} {D : va_G} {cs : JC} {b : Nat} (v0 : Int32) (v1 : Int32) (M : JM)  : ∀ q, f_X0_slot v0 v1 M = some q → CTy l yX0_slot (.code yX0_slot cX0_slot 2 (Option.some Jvm.ClassFile.FieldType.int) :: GB) rm_X0_slot D cs b evI [.int v0, .int v1] M rm_X0_slot.cells rm_X0_slot.slots q := fun q hq => ct_of [(0, .int v0), (1, .int v1)] rfl rfl (Nat.le_of_ble_eq_true rfl) hq (fun p e s m args below meth c X hr hin => by
  refine aw_callq (F' := some ((((v0 * (21 : Int32)) + v1) - (1 : Int32)), M)) rfl ?_
  refine aw_iload_n (pc := 0) X 0 dX0_slot_0 rfl ?_
  refine aw_bipush (pc := 1) X (21 : Int32) dX0_slot_1 (by decide) ?_
  refine aw_imul (pc := 3) X dX0_slot_3 ?_
  refine aw_iload_n (pc := 4) X 1 dX0_slot_4 rfl ?_
  refine aw_iadd (pc := 5) X dX0_slot_5 ?_
  refine aw_iconst (pc := 6) X (1 : Int32) dX0_slot_6 (by decide) ?_
  refine aw_isub (pc := 7) X dX0_slot_7 ?_
  exact aw_iret (pc := 8) X hr dX0_slot_8 (Nat.le_of_ble_eq_true rfl) (Nat.le_of_ble_eq_true rfl))
/-! ReportBlocks$Block.putItem -/
def rm_X0_putItem : Room := { frames := 1, cells := 0, slots := 0, locals := 21 }
theorem hd_X0_putItem : jHd yX0_putItem 4 := by unfold jHd; decide +kernel
theorem gf_X0_22 {ρ : Type} {l : Launch} {p : Program} {e : Env} {R : Room} {s : State} {m : MethodId} {args : Array Value} {below : List Frame} {meth : Method} {c : Code} {D : va_G} {cs : JC} {b nL : Nat} {H0 : Heap} {Qf : ρ × JM → State → Prop} {M : JM} {ks sl : Nat} {lv : List (Nat × Value)} {pc : Nat} {st : List Value} {cc : ByteArray} {k : Nat} (X : jX p c cc nL s m args RX0 D cs b meth H0) {K : Nat → Option (ρ × JM)} (hdg : decode cc pc = .ok (.getfield 22, 3)) (ho : oty M k 10) (kk : ∀ r : Nat, oty M r 1 → AWO p l e R s m args below meth c D cs b nL H0 Qf (K r) M ks sl lv (pc + 3) (.ref (b + r) :: st)) : AWO p l e R s m args below meth c D cs b nL H0 Qf (orf (gr M k 5) K) M ks sl lv pc (.ref (b + k) :: st) := aw_getR (ci := 0) (τ := 1) X 5 rfl gy_X0 (by decide) (by decide) rfl rfl (by decide) wf_X0_22 hdg ho kk
theorem cl_X0_46 {ρ : Type} {l : Launch} {p : Program} {e : Env} {R : Room} {s : State} {m : MethodId} {args : Array Value} {below : List Frame} {meth : Method} {c : Code} {D : va_G} {cs : JC} {b nL : Nat} {H0 : Heap} {Qf : ρ × JM → State → Prop} {M : JM} {ks sl : Nat} {lv : List (Nat × Value)} {pc : Nat} {st : List Value} {cc : ByteArray} (X : jX p c cc nL s m args RX0 D cs b meth H0) {z0 : Int32} {z1 : Int32} {K : Int32 → JM → Option (ρ × JM)} (hrm : jRm rm_X0_slot 2 R) (hW : (st.map fun v => v.category).sum ≤ 8) {ks2 sl2 : Nat} (hk2 : ks + rm_X0_slot.cells = ks2) (hs2 : sl + rm_X0_slot.slots = sl2) (hroom : ks2 ≤ R.cells ∧ sl2 ≤ R.slots) (hdg : decode cc pc = .ok (.invokestatic 46, 3)) (kk : ∀ (r : Int32) (M2 : JM), gn M ≤ gn M2 → AWO p l e R s m args below meth c D cs b nL H0 Qf (K r M2) M2 ks2 sl2 lv (pc + 3) (.int r :: st)) : AWO p l e R s m args below meth c D cs b nL H0 Qf (ob (f_X0_slot z0 z1 M) K) M ks sl lv pc (.int z1 :: .int z0 :: st) := by
  subst hk2
  subst hs2
  exact aw_callS X [.int z0, .int z1] st rfl wl_X0_46 wt_X0_slot wc_X0_slot wn_X0 (n := 2) hd_X0_slot rfl hrm hW hroom hdg (t_X0_slot z0 z1 M ) (fun r M2 g _ => kk r M2 g)
def f_X0_putItem (a0 : Nat) (v1 : Int32) (v2 : Int32) (v3 : Int32) (v4 : Int32) (M : JM) : Option (Unit × JM) := orf (gr M a0 5) fun r1 => ob (f_X0_slot v1 v2 M) fun r4 M2 => if 0 ≤ r4 ∧ r4 < ln r1 then (sq (si M2 r1 r4 v3) fun M5 => orf (gr M5 a0 6) fun r7 => ob (f_X0_slot v1 v2 M5) fun r10 M8 => if 0 ≤ r10 ∧ r10 < ln r7 then (sq (si M8 r7 r10 v4) fun M11 => some ((), M11)) else none) else none
set_option maxRecDepth 10000 in
set_option maxHeartbeats 4000000 in
theorem t_X0_putItem {l : Launch} {D : va_G} {cs : JC} {b : Nat} (a0 : Nat) (v1 : Int32) (v2 : Int32) (v3 : Int32) (v4 : Int32) (M : JM) (h_a0 : oty M a0 10) : ∀ q, f_X0_putItem a0 v1 v2 v3 v4 M = some q → CTy l yX0_putItem (.code yX0_putItem cX0_putItem 5 (Option.none) :: GB) rm_X0_putItem D cs b evV [.ref (b + a0), .int v1, .int v2, .int v3, .int v4] M rm_X0_putItem.cells rm_X0_putItem.slots q := fun q hq => ct_of [(0, .ref (b + a0)), (1, .int v1), (2, .int v2), (3, .int v3), (4, .int v4)] rfl rfl (Nat.le_of_ble_eq_true rfl) hq (fun p e s m args below meth c X hr hin => by
  refine aw_callq (F' := orf (gr M a0 5) fun r1 => ob (f_X0_slot v1 v2 M) fun r4 M2 => if 0 ≤ r4 ∧ r4 < ln r1 then (sq (si M2 r1 r4 v3) fun M5 => orf (gr M5 a0 6) fun r7 => ob (f_X0_slot v1 v2 M5) fun r10 M8 => if 0 ≤ r10 ∧ r10 < ln r7 then (sq (si M8 r7 r10 v4) fun M11 => some ((), M11)) else none) else none) rfl ?_
  refine aw_aload_n (pc := 0) X 0 dX0_putItem_0 rfl ?_
  refine gf_X0_22 (pc := 1) X dX0_putItem_1 h_a0 (fun r1 h_r1 => ?_)
  refine aw_iload_n (pc := 4) X 1 dX0_putItem_4 rfl ?_
  refine aw_iload_n (pc := 5) X 2 dX0_putItem_5 rfl ?_
  refine cl_X0_46 (pc := 6) X ⟨Nat.le_of_ble_eq_true rfl, Nat.le_of_ble_eq_true rfl⟩ (Nat.le_of_ble_eq_true rfl) (ks2 := 0) (sl2 := 0) rfl rfl ⟨(Nat.le_of_ble_eq_true rfl), (Nat.le_of_ble_eq_true rfl)⟩ dX0_putItem_6  (fun r4 M2 g3 => ?_)
  have h_a0 := h_a0.mono g3
  have h_r1 := h_r1.mono g3
  refine aw_iload_n (pc := 9) X 3 dX0_putItem_9 rfl ?_
  refine aw_iastQ (pc := 10) X dX0_putItem_10 h_r1 (fun M5 g6 => ?_)
  have h_a0 := h_a0.mono g6
  refine aw_aload_n (pc := 11) X 0 dX0_putItem_11 rfl ?_
  refine gf_X0_25 (pc := 12) X dX0_putItem_12 h_a0 (fun r7 h_r7 => ?_)
  refine aw_iload_n (pc := 15) X 1 dX0_putItem_15 rfl ?_
  refine aw_iload_n (pc := 16) X 2 dX0_putItem_16 rfl ?_
  refine cl_X0_46 (pc := 17) X ⟨Nat.le_of_ble_eq_true rfl, Nat.le_of_ble_eq_true rfl⟩ (Nat.le_of_ble_eq_true rfl) (ks2 := 0) (sl2 := 0) rfl rfl ⟨(Nat.le_of_ble_eq_true rfl), (Nat.le_of_ble_eq_true rfl)⟩ dX0_putItem_17  (fun r10 M8 g9 => ?_)
  have h_a0 := h_a0.mono g9
  have h_r7 := h_r7.mono g9
  refine aw_iload (pc := 20) X 4 dX0_putItem_20 rfl ?_
  refine aw_iastQ (pc := 22) X dX0_putItem_22 h_r7 (fun M11 g12 => ?_)
  have h_a0 := h_a0.mono g12
  exact aw_vret (pc := 23) X hr dX0_putItem_23 (Nat.le_of_ble_eq_true rfl) (Nat.le_of_ble_eq_true rfl))
/-! ReportBlocks$Reader.passRecord -/
def rm_X3_passRecord : Room := { frames := 4, cells := 0, slots := 0, locals := 91 }
theorem hd_X3_passRecord : jHd yX3_passRecord 1 := by unfold jHd; decide +kernel
theorem cl_X3_35 {ρ : Type} {l : Launch} {p : Program} {e : Env} {R : Room} {s : State} {m : MethodId} {args : Array Value} {below : List Frame} {meth : Method} {c : Code} {D : va_G} {cs : JC} {b nL : Nat} {H0 : Heap} {Qf : ρ × JM → State → Prop} {M : JM} {ks sl : Nat} {lv : List (Nat × Value)} {pc : Nat} {st : List Value} {cc : ByteArray} (X : jX p c cc nL s m args RX3 D cs b meth H0) {z0 : Nat} {z1 : Int32} {z2 : Int32} {K : JM → Option (ρ × JM)} (hrm : jRm rm_X3_lookForPlaces 4 R) (hW : (st.map fun v => v.category).sum ≤ 8) {ks2 sl2 : Nat} (hk2 : ks + rm_X3_lookForPlaces.cells = ks2) (hs2 : sl + rm_X3_lookForPlaces.slots = sl2) (hroom : ks2 ≤ R.cells ∧ sl2 ≤ R.slots) (hdg : decode cc pc = .ok (.invokevirtual 35, 3)) (h0 : oty M z0 13) (kk : ∀ (M2 : JM), gn M ≤ gn M2 → AWO p l e R s m args below meth c D cs b nL H0 Qf (K M2) M2 ks2 sl2 lv (pc + 3) (st)) : AWO p l e R s m args below meth c D cs b nL H0 Qf (ob (f_X3_lookForPlaces z0 z1 z2 M) (fun _ => K)) M ks sl lv pc (.int z2 :: .int z1 :: .ref (b + z0) :: st) := by
  subst hk2
  subst hs2
  exact aw_callV (ci := 3) X [.int z1, .int z2] st rfl rfl wl_X3_35 wi_X3_lookForPlaces wv_X3_lookForPlaces wc_X3_lookForPlaces wn_X3 (n := 2) hd_X3_lookForPlaces rfl hrm hW hroom hdg h0 (t_X3_lookForPlaces z0 z1 z2 M h0) (fun _ M2 g _ => kk M2 g)
theorem cl_X3_39 {ρ : Type} {l : Launch} {p : Program} {e : Env} {R : Room} {s : State} {m : MethodId} {args : Array Value} {below : List Frame} {meth : Method} {c : Code} {D : va_G} {cs : JC} {b nL : Nat} {H0 : Heap} {Qf : ρ × JM → State → Prop} {M : JM} {ks sl : Nat} {lv : List (Nat × Value)} {pc : Nat} {st : List Value} {cc : ByteArray} (X : jX p c cc nL s m args RX3 D cs b meth H0) {z0 : Nat} {z1 : Int32} {K : Int32 → JM → Option (ρ × JM)} (hrm : jRm rm_X0_startRecord 2 R) (hW : (st.map fun v => v.category).sum ≤ 8) {ks2 sl2 : Nat} (hk2 : ks + rm_X0_startRecord.cells = ks2) (hs2 : sl + rm_X0_startRecord.slots = sl2) (hroom : ks2 ≤ R.cells ∧ sl2 ≤ R.slots) (hdg : decode cc pc = .ok (.invokevirtual 39, 3)) (h0 : oty M z0 10) (kk : ∀ (r : Int32) (M2 : JM), gn M ≤ gn M2 → AWO p l e R s m args below meth c D cs b nL H0 Qf (K r M2) M2 ks2 sl2 lv (pc + 3) (.int r :: st)) : AWO p l e R s m args below meth c D cs b nL H0 Qf (ob (f_X0_startRecord z0 z1 M) K) M ks sl lv pc (.int z1 :: .ref (b + z0) :: st) := by
  subst hk2
  subst hs2
  exact aw_callV (ci := 0) X [.int z1] st rfl rfl wl_X3_39 wi_X0_startRecord wv_X0_startRecord wc_X0_startRecord wn_X0 (n := 1) hd_X0_startRecord rfl hrm hW hroom hdg h0 (t_X0_startRecord z0 z1 M h0) (fun r M2 g _ => kk r M2 g)
def f_X3_passRecord_L86 (k27 : Nat → Nat → Int32 → Int32 → Int32 → Int32 → JM → Option (Unit × JM)) : Nat → Nat → Int32 → Int32 → Int32 → Int32 → JM → Option (Unit × JM) := fun a0 a1 v2 v3 v4 v5 M => sv (v5 + (1 : Int32)) fun i17 => k27 a0 a1 v2 v3 v4 i17 M
set_option maxRecDepth 10000 in
set_option maxHeartbeats 4000000 in
theorem t_X3_passRecord_L86 {p : Program} {l : Launch} {e : Env} {s : State} {m : MethodId} {args : Array Value} {below : List Frame} {meth : Method} {c : Code} {D : va_G} {cs : JC} {b : Nat} (X : jX p c cX3_passRecord 7 s m args RX3 D cs b meth s.heap) (hr : meth.sig.returnType = Option.none) (k27 : Nat → Nat → Int32 → Int32 → Int32 → Int32 → JM → Option (Unit × JM)) (hk27 : ∀ (a0 : Nat) (a1 : Nat) (v2 : Int32) (v3 : Int32) (v4 : Int32) (v5 : Int32) (M : JM), oty M a0 13 → oty M a1 10 → AWO p l e rm_X3_passRecord s m args below meth c D cs b 7 s.heap (jE below D cs b evV args s rm_X3_passRecord.cells rm_X3_passRecord.slots) (k27 a0 a1 v2 v3 v4 v5 M) M 0 0 [(0, .ref (b + a0)), (1, .ref (b + a1)), (2, .int v2), (3, .int v3), (4, .int v4), (5, .int v5)] 27 []) : ∀ (a0 : Nat) (a1 : Nat) (v2 : Int32) (v3 : Int32) (v4 : Int32) (v5 : Int32) (M : JM), oty M a0 13 → oty M a1 10 → AWO p l e rm_X3_passRecord s m args below meth c D cs b 7 s.heap (jE below D cs b evV args s rm_X3_passRecord.cells rm_X3_passRecord.slots) (f_X3_passRecord_L86 k27 a0 a1 v2 v3 v4 v5 M) M 0 0 [(0, .ref (b + a0)), (1, .ref (b + a1)), (2, .int v2), (3, .int v3), (4, .int v4), (5, .int v5)] 86 [] := by
  intro a0 a1 v2 v3 v4 v5 M h_a0 h_a1
  refine aw_callq (F' := sv (v5 + (1 : Int32)) fun i17 => k27 a0 a1 v2 v3 v4 i17 M) rfl ?_
  refine aw_iincV (pc := 86) X (fun y => [(5, .int y), (0, .ref (b + a0)), (1, .ref (b + a1)), (2, .int v2), (3, .int v3), (4, .int v4)]) 5 (v := (v5 + (1 : Int32))) dX3_passRecord_86 rfl rfl (by decide) (fun _ => rfl) (fun i17 => ?_)
  refine aw_goto (pc := 89) X 27 dX3_passRecord_89 (by decide) ?_
  refine aw_sub [1, 2, 3, 4, 5, 0] rfl ?_
  exact hk27 a0 a1 v2 v3 v4 i17 M h_a0 h_a1
theorem cl_X3_48 {ρ : Type} {l : Launch} {p : Program} {e : Env} {R : Room} {s : State} {m : MethodId} {args : Array Value} {below : List Frame} {meth : Method} {c : Code} {D : va_G} {cs : JC} {b nL : Nat} {H0 : Heap} {Qf : ρ × JM → State → Prop} {M : JM} {ks sl : Nat} {lv : List (Nat × Value)} {pc : Nat} {st : List Value} {cc : ByteArray} (X : jX p c cc nL s m args RX3 D cs b meth H0) {z0 : Nat} {z1 : Int32} {K : JM → Option (ρ × JM)} (hrm : jRm rm_X3_passItem 2 R) (hW : (st.map fun v => v.category).sum ≤ 8) {ks2 sl2 : Nat} (hk2 : ks + rm_X3_passItem.cells = ks2) (hs2 : sl + rm_X3_passItem.slots = sl2) (hroom : ks2 ≤ R.cells ∧ sl2 ≤ R.slots) (hdg : decode cc pc = .ok (.invokevirtual 48, 3)) (h0 : oty M z0 13) (kk : ∀ (M2 : JM), gn M ≤ gn M2 → AWO p l e R s m args below meth c D cs b nL H0 Qf (K M2) M2 ks2 sl2 lv (pc + 3) (st)) : AWO p l e R s m args below meth c D cs b nL H0 Qf (ob (f_X3_passItem z0 z1 M) (fun _ => K)) M ks sl lv pc (.int z1 :: .ref (b + z0) :: st) := by
  subst hk2
  subst hs2
  exact aw_callV (ci := 3) X [.int z1] st rfl rfl wl_X3_48 wi_X3_passItem wv_X3_passItem wc_X3_passItem wn_X3 (n := 1) hd_X3_passItem rfl hrm hW hroom hdg h0 (t_X3_passItem z0 z1 M h0) (fun _ M2 g _ => kk M2 g)
theorem cl_X3_52 {ρ : Type} {l : Launch} {p : Program} {e : Env} {R : Room} {s : State} {m : MethodId} {args : Array Value} {below : List Frame} {meth : Method} {c : Code} {D : va_G} {cs : JC} {b nL : Nat} {H0 : Heap} {Qf : ρ × JM → State → Prop} {M : JM} {ks sl : Nat} {lv : List (Nat × Value)} {pc : Nat} {st : List Value} {cc : ByteArray} (X : jX p c cc nL s m args RX3 D cs b meth H0) {z0 : Nat} {z1 : Int32} {z2 : Int32} {z3 : Int32} {z4 : Int32} {K : JM → Option (ρ × JM)} (hrm : jRm rm_X0_putItem 5 R) (hW : (st.map fun v => v.category).sum ≤ 8) {ks2 sl2 : Nat} (hk2 : ks + rm_X0_putItem.cells = ks2) (hs2 : sl + rm_X0_putItem.slots = sl2) (hroom : ks2 ≤ R.cells ∧ sl2 ≤ R.slots) (hdg : decode cc pc = .ok (.invokevirtual 52, 3)) (h0 : oty M z0 10) (kk : ∀ (M2 : JM), gn M ≤ gn M2 → AWO p l e R s m args below meth c D cs b nL H0 Qf (K M2) M2 ks2 sl2 lv (pc + 3) (st)) : AWO p l e R s m args below meth c D cs b nL H0 Qf (ob (f_X0_putItem z0 z1 z2 z3 z4 M) (fun _ => K)) M ks sl lv pc (.int z4 :: .int z3 :: .int z2 :: .int z1 :: .ref (b + z0) :: st) := by
  subst hk2
  subst hs2
  exact aw_callV (ci := 0) X [.int z1, .int z2, .int z3, .int z4] st rfl rfl wl_X3_52 wi_X0_putItem wv_X0_putItem wc_X0_putItem wn_X0 (n := 4) hd_X0_putItem rfl hrm hW hroom hdg h0 (t_X0_putItem z0 z1 z2 z3 z4 M h0) (fun _ M2 g _ => kk M2 g)
def f_X3_passRecord_L27 : Nat → Nat → Nat → Int32 → Int32 → Int32 → Int32 → JM → Option (Unit × JM)
  | 0, _, _, _, _, _, _, _ => none
  | n + 1, a0, a1, v2, v3, v4, v5, M => if v5 < v3 then (if (gi M a0 4) = 0 then (orf (gr M a0 0) fun r13 => ob (f_X7_isOne r13 v2 v5 M) fun r16 M14 => if r16 = true then (sv (gi M14 a0 2) fun i18 => ob (f_X3_passItem a0 (v5 + (1 : Int32)) M14) fun _ M19 => ob (f_X0_putItem a1 v4 (v5 + (1 : Int32)) i18 ((gi M19 a0 2) - i18) M19) fun _ M21 => f_X3_passRecord_L86 (f_X3_passRecord_L27 n) a0 a1 v2 v3 v4 v5 M21) else (f_X3_passRecord_L86 (f_X3_passRecord_L27 n) a0 a1 v2 v3 v4 v5 M14)) else (some ((), M))) else (some ((), M))
set_option maxRecDepth 10000 in
set_option maxHeartbeats 4000000 in
theorem t_X3_passRecord_L27 {p : Program} {l : Launch} {e : Env} {s : State} {m : MethodId} {args : Array Value} {below : List Frame} {meth : Method} {c : Code} {D : va_G} {cs : JC} {b : Nat} (X : jX p c cX3_passRecord 7 s m args RX3 D cs b meth s.heap) (hr : meth.sig.returnType = Option.none) : ∀ (n : Nat) (a0 : Nat) (a1 : Nat) (v2 : Int32) (v3 : Int32) (v4 : Int32) (v5 : Int32) (M : JM), oty M a0 13 → oty M a1 10 → AWO p l e rm_X3_passRecord s m args below meth c D cs b 7 s.heap (jE below D cs b evV args s rm_X3_passRecord.cells rm_X3_passRecord.slots) (f_X3_passRecord_L27 n a0 a1 v2 v3 v4 v5 M) M 0 0 [(0, .ref (b + a0)), (1, .ref (b + a1)), (2, .int v2), (3, .int v3), (4, .int v4), (5, .int v5)] 27 [] := by
  intro n
  induction n with
  | zero => intro a0 a1 v2 v3 v4 v5 M h_a0 h_a1; exact aw_none
  | succ n ih =>
    intro a0 a1 v2 v3 v4 v5 M h_a0 h_a1
    refine aw_callq (F' := if v5 < v3 then (if (gi M a0 4) = 0 then (orf (gr M a0 0) fun r13 => ob (f_X7_isOne r13 v2 v5 M) fun r16 M14 => if r16 = true then (sv (gi M14 a0 2) fun i18 => ob (f_X3_passItem a0 (v5 + (1 : Int32)) M14) fun _ M19 => ob (f_X0_putItem a1 v4 (v5 + (1 : Int32)) i18 ((gi M19 a0 2) - i18) M19) fun _ M21 => f_X3_passRecord_L86 (f_X3_passRecord_L27 n) a0 a1 v2 v3 v4 v5 M21) else (f_X3_passRecord_L86 (f_X3_passRecord_L27 n) a0 a1 v2 v3 v4 v5 M14)) else (some ((), M))) else (some ((), M))) rfl ?_
    refine aw_iload (pc := 27) X 5 dX3_passRecord_27 rfl ?_
    refine aw_iload_n (pc := 29) X 3 dX3_passRecord_29 rfl ?_
    refine aw_icmpge (pc := 30) X 92 dX3_passRecord_30 (by decide) ?_ ?_
    · refine aw_aload_n (pc := 33) X 0 dX3_passRecord_33 rfl ?_
      refine gf_X3_25 (pc := 34) X dX3_passRecord_34 h_a0 ?_
      refine aw_ifne (pc := 37) X 92 dX3_passRecord_37 (by decide) ?_ ?_
      · refine aw_aload_n (pc := 40) X 0 dX3_passRecord_40 rfl ?_
        refine gf_X3_15 (pc := 41) X dX3_passRecord_41 h_a0 (fun r13 h_r13 => ?_)
        refine aw_iload_n (pc := 44) X 2 dX3_passRecord_44 rfl ?_
        refine aw_iload (pc := 45) X 5 dX3_passRecord_45 rfl ?_
        refine cl_X3_44 (pc := 47) X ⟨Nat.le_of_ble_eq_true rfl, Nat.le_of_ble_eq_true rfl⟩ (Nat.le_of_ble_eq_true rfl) (ks2 := 0) (sl2 := 0) rfl rfl ⟨(Nat.le_of_ble_eq_true rfl), (Nat.le_of_ble_eq_true rfl)⟩ dX3_passRecord_47 h_r13 (fun r16 M14 g15 => ?_)
        have h_a0 := h_a0.mono g15
        have h_a1 := h_a1.mono g15
        refine aw_ifeqB (pc := 50) X 86 dX3_passRecord_50 (by decide) ?_ ?_
        · refine aw_aload_n (pc := 53) X 0 dX3_passRecord_53 rfl ?_
          refine gf_X3_18 (pc := 54) X dX3_passRecord_54 h_a0 ?_
          refine aw_istoreV (pc := 57) X (fun y => [(6, .int y), (0, .ref (b + a0)), (1, .ref (b + a1)), (2, .int v2), (3, .int v3), (4, .int v4), (5, .int v5)]) dX3_passRecord_57 (by decide) (fun _ => rfl) (fun i18 => ?_)
          refine aw_aload_n (pc := 59) X 1 dX3_passRecord_59 rfl ?_
          refine aw_iload (pc := 60) X 6 dX3_passRecord_60 rfl ?_
          refine aw_iconst (pc := 62) X (1 : Int32) dX3_passRecord_62 (by decide) ?_
          refine aw_iadd (pc := 63) X dX3_passRecord_63 ?_
          refine cl_X3_48 (pc := 64) X ⟨Nat.le_of_ble_eq_true rfl, Nat.le_of_ble_eq_true rfl⟩ (Nat.le_of_ble_eq_true rfl) (ks2 := 0) (sl2 := 0) rfl rfl ⟨(Nat.le_of_ble_eq_true rfl), (Nat.le_of_ble_eq_true rfl)⟩ dX3_passRecord_64 h_a0 (fun M19 g20 => ?_)
          have h_a0 := h_a0.mono g20
          have h_a1 := h_a1.mono g20
          refine aw_aload_n (pc := 67) X 2 dX3_passRecord_67 rfl ?_
          refine aw_iload (pc := 68) X 5 dX3_passRecord_68 rfl ?_
          refine aw_iload (pc := 70) X 6 dX3_passRecord_70 rfl ?_
          refine aw_iconst (pc := 72) X (1 : Int32) dX3_passRecord_72 (by decide) ?_
          refine aw_iadd (pc := 73) X dX3_passRecord_73 ?_
          refine aw_iload (pc := 74) X 0 dX3_passRecord_74 rfl ?_
          refine aw_aload_n (pc := 76) X 1 dX3_passRecord_76 rfl ?_
          refine gf_X3_18 (pc := 77) X dX3_passRecord_77 h_a0 ?_
          refine aw_iload (pc := 80) X 0 dX3_passRecord_80 rfl ?_
          refine aw_isub (pc := 82) X dX3_passRecord_82 ?_
          refine cl_X3_52 (pc := 83) X ⟨Nat.le_of_ble_eq_true rfl, Nat.le_of_ble_eq_true rfl⟩ (Nat.le_of_ble_eq_true rfl) (ks2 := 0) (sl2 := 0) rfl rfl ⟨(Nat.le_of_ble_eq_true rfl), (Nat.le_of_ble_eq_true rfl)⟩ dX3_passRecord_83 h_a1 (fun M21 g22 => ?_)
          have h_a0 := h_a0.mono g22
          have h_a1 := h_a1.mono g22
          refine aw_sub [1, 2, 3, 4, 5, 6] rfl ?_
          exact t_X3_passRecord_L86 X hr (f_X3_passRecord_L27 n) ih a0 a1 v2 v3 v4 v5 M21 h_a0 h_a1
        · refine aw_sub [0, 1, 2, 3, 4, 5] rfl ?_
          exact t_X3_passRecord_L86 X hr (f_X3_passRecord_L27 n) ih a0 a1 v2 v3 v4 v5 M14 h_a0 h_a1
      · exact aw_vret (pc := 92) X hr dX3_passRecord_92 (Nat.le_of_ble_eq_true rfl) (Nat.le_of_ble_eq_true rfl)
    · exact aw_vret (pc := 92) X hr dX3_passRecord_92 (Nat.le_of_ble_eq_true rfl) (Nat.le_of_ble_eq_true rfl)
def f_X3_passRecord (a0 : Nat) (a1 : Nat) (M : JM) : Option (Unit × JM) := sv (gi M a0 2) fun i1 => ob (f_X3_passBits a0 (3 : Int32) M) fun r4 M2 => sv r4 fun i5 => ob (f_X3_lookForPlaces a0 i1 i5 M2) fun _ M6 => ob (f_X0_startRecord a1 i1 M6) fun r10 M8 => sv r10 fun i11 => sv (0 : Int32) fun i12 => f_X3_passRecord_L27 FU a0 a1 i1 i5 i11 i12 M8
set_option maxRecDepth 10000 in
set_option maxHeartbeats 4000000 in
theorem t_X3_passRecord {l : Launch} {D : va_G} {cs : JC} {b : Nat} (a0 : Nat) (a1 : Nat) (M : JM) (h_a0 : oty M a0 13) (h_a1 : oty M a1 10) : ∀ q, f_X3_passRecord a0 a1 M = some q → CTy l yX3_passRecord (.code yX3_passRecord cX3_passRecord 7 (Option.none) :: GB) rm_X3_passRecord D cs b evV [.ref (b + a0), .ref (b + a1)] M rm_X3_passRecord.cells rm_X3_passRecord.slots q := fun q hq => ct_of [(0, .ref (b + a0)), (1, .ref (b + a1))] rfl rfl (Nat.le_of_ble_eq_true rfl) hq (fun p e s m args below meth c X hr hin => by
  refine aw_callq (F' := sv (gi M a0 2) fun i1 => ob (f_X3_passBits a0 (3 : Int32) M) fun r4 M2 => sv r4 fun i5 => ob (f_X3_lookForPlaces a0 i1 i5 M2) fun _ M6 => ob (f_X0_startRecord a1 i1 M6) fun r10 M8 => sv r10 fun i11 => sv (0 : Int32) fun i12 => f_X3_passRecord_L27 FU a0 a1 i1 i5 i11 i12 M8) rfl ?_
  refine aw_aload_n (pc := 0) X 0 dX3_passRecord_0 rfl ?_
  refine gf_X3_18 (pc := 1) X dX3_passRecord_1 h_a0 ?_
  refine aw_istoreV_n (pc := 4) X (fun y => [(2, .int y), (0, .ref (b + a0)), (1, .ref (b + a1))]) dX3_passRecord_4 (by decide) (fun _ => rfl) (fun i1 => ?_)
  refine aw_aload_n (pc := 5) X 1 dX3_passRecord_5 rfl ?_
  refine aw_iconst (pc := 6) X (3 : Int32) dX3_passRecord_6 (by decide) ?_
  refine cl_X3_31 (pc := 7) X ⟨Nat.le_of_ble_eq_true rfl, Nat.le_of_ble_eq_true rfl⟩ (Nat.le_of_ble_eq_true rfl) (ks2 := 0) (sl2 := 0) rfl rfl ⟨(Nat.le_of_ble_eq_true rfl), (Nat.le_of_ble_eq_true rfl)⟩ dX3_passRecord_7 h_a0 (fun r4 M2 g3 => ?_)
  have h_a0 := h_a0.mono g3
  have h_a1 := h_a1.mono g3
  refine aw_istoreV_n (pc := 10) X (fun y => [(3, .int y), (2, .int i1), (0, .ref (b + a0)), (1, .ref (b + a1))]) dX3_passRecord_10 (by decide) (fun _ => rfl) (fun i5 => ?_)
  refine aw_aload_n (pc := 11) X 2 dX3_passRecord_11 rfl ?_
  refine aw_iload_n (pc := 12) X 1 dX3_passRecord_12 rfl ?_
  refine aw_iload_n (pc := 13) X 0 dX3_passRecord_13 rfl ?_
  refine cl_X3_35 (pc := 14) X ⟨Nat.le_of_ble_eq_true rfl, Nat.le_of_ble_eq_true rfl⟩ (Nat.le_of_ble_eq_true rfl) (ks2 := 0) (sl2 := 0) rfl rfl ⟨(Nat.le_of_ble_eq_true rfl), (Nat.le_of_ble_eq_true rfl)⟩ dX3_passRecord_14 h_a0 (fun M6 g7 => ?_)
  have h_a0 := h_a0.mono g7
  have h_a1 := h_a1.mono g7
  refine aw_aload_n (pc := 17) X 3 dX3_passRecord_17 rfl ?_
  refine aw_iload_n (pc := 18) X 1 dX3_passRecord_18 rfl ?_
  refine cl_X3_39 (pc := 19) X ⟨Nat.le_of_ble_eq_true rfl, Nat.le_of_ble_eq_true rfl⟩ (Nat.le_of_ble_eq_true rfl) (ks2 := 0) (sl2 := 0) rfl rfl ⟨(Nat.le_of_ble_eq_true rfl), (Nat.le_of_ble_eq_true rfl)⟩ dX3_passRecord_19 h_a1 (fun r10 M8 g9 => ?_)
  have h_a0 := h_a0.mono g9
  have h_a1 := h_a1.mono g9
  refine aw_istoreV (pc := 22) X (fun y => [(4, .int y), (3, .int i5), (2, .int i1), (0, .ref (b + a0)), (1, .ref (b + a1))]) dX3_passRecord_22 (by decide) (fun _ => rfl) (fun i11 => ?_)
  refine aw_iconst (pc := 24) X (0 : Int32) dX3_passRecord_24 (by decide) ?_
  refine aw_istoreV (pc := 25) X (fun y => [(5, .int y), (4, .int i11), (3, .int i5), (2, .int i1), (0, .ref (b + a0)), (1, .ref (b + a1))]) dX3_passRecord_25 (by decide) (fun _ => rfl) (fun i12 => ?_)
  refine aw_sub [4, 5, 3, 2, 1, 0] rfl ?_
  exact t_X3_passRecord_L27 X hr FU a0 a1 i1 i5 i11 i12 M8 h_a0 h_a1)
/-! ReportBlocks$Reader.refuseRecord -/
def rm_X3_refuseRecord : Room := { frames := 2, cells := 0, slots := 0, locals := 46 }
theorem hd_X3_refuseRecord : jHd yX3_refuseRecord 0 := by unfold jHd; decide +kernel
def f_X3_refuseRecord_L23 : Nat → JM → Option (Unit × JM) := fun a0 M => ob (f_X3_lookForPlaces a0 (gi M a0 2) (7 : Int32) M) fun _ M3 => ob (f_X3_fail a0 (8 : Int32) (gi M3 a0 2) M3) fun _ M5 => some ((), M5)
set_option maxRecDepth 10000 in
set_option maxHeartbeats 4000000 in
theorem t_X3_refuseRecord_L23 {p : Program} {l : Launch} {e : Env} {s : State} {m : MethodId} {args : Array Value} {below : List Frame} {meth : Method} {c : Code} {D : va_G} {cs : JC} {b : Nat} (X : jX p c cX3_refuseRecord 2 s m args RX3 D cs b meth s.heap) (hr : meth.sig.returnType = Option.none) : ∀ (a0 : Nat) (M : JM), oty M a0 13 → AWO p l e rm_X3_refuseRecord s m args below meth c D cs b 2 s.heap (jE below D cs b evV args s rm_X3_refuseRecord.cells rm_X3_refuseRecord.slots) (f_X3_refuseRecord_L23 a0 M) M 0 0 [(0, .ref (b + a0))] 23 [] := by
  intro a0 M h_a0
  refine aw_callq (F' := ob (f_X3_lookForPlaces a0 (gi M a0 2) (7 : Int32) M) fun _ M3 => ob (f_X3_fail a0 (8 : Int32) (gi M3 a0 2) M3) fun _ M5 => some ((), M5)) rfl ?_
  refine aw_aload_n (pc := 23) X 0 dX3_refuseRecord_23 rfl ?_
  refine aw_aload_n (pc := 24) X 0 dX3_refuseRecord_24 rfl ?_
  refine gf_X3_18 (pc := 25) X dX3_refuseRecord_25 h_a0 ?_
  refine aw_bipush (pc := 28) X (7 : Int32) dX3_refuseRecord_28 (by decide) ?_
  refine cl_X3_35 (pc := 30) X ⟨Nat.le_of_ble_eq_true rfl, Nat.le_of_ble_eq_true rfl⟩ (Nat.le_of_ble_eq_true rfl) (ks2 := 0) (sl2 := 0) rfl rfl ⟨(Nat.le_of_ble_eq_true rfl), (Nat.le_of_ble_eq_true rfl)⟩ dX3_refuseRecord_30 h_a0 (fun M3 g4 => ?_)
  have h_a0 := h_a0.mono g4
  refine aw_aload_n (pc := 33) X 0 dX3_refuseRecord_33 rfl ?_
  refine aw_bipush (pc := 34) X (8 : Int32) dX3_refuseRecord_34 (by decide) ?_
  refine aw_aload_n (pc := 36) X 0 dX3_refuseRecord_36 rfl ?_
  refine gf_X3_18 (pc := 37) X dX3_refuseRecord_37 h_a0 ?_
  refine cl_X3_56 (pc := 40) X ⟨Nat.le_of_ble_eq_true rfl, Nat.le_of_ble_eq_true rfl⟩ (Nat.le_of_ble_eq_true rfl) (ks2 := 0) (sl2 := 0) rfl rfl ⟨(Nat.le_of_ble_eq_true rfl), (Nat.le_of_ble_eq_true rfl)⟩ dX3_refuseRecord_40 h_a0 (fun M5 g6 => ?_)
  have h_a0 := h_a0.mono g6
  exact aw_vret (pc := 43) X hr dX3_refuseRecord_43 (Nat.le_of_ble_eq_true rfl) (Nat.le_of_ble_eq_true rfl)
def f_X3_refuseRecord (a0 : Nat) (M : JM) : Option (Unit × JM) := orf (gr M a0 0) fun r1 => if 0 ≤ (gi M a0 2) ∧ (gi M a0 2) < ln r1 then (sv (gi M r1 (gi M a0 2)) fun i2 => if i2 = 0 then (ob (f_X3_fail a0 (4 : Int32) (gi M a0 2) M) fun _ M7 => f_X3_refuseRecord_L23 a0 M7) else (f_X3_refuseRecord_L23 a0 M)) else none
set_option maxRecDepth 10000 in
set_option maxHeartbeats 4000000 in
theorem t_X3_refuseRecord {l : Launch} {D : va_G} {cs : JC} {b : Nat} (a0 : Nat) (M : JM) (h_a0 : oty M a0 13) : ∀ q, f_X3_refuseRecord a0 M = some q → CTy l yX3_refuseRecord (.code yX3_refuseRecord cX3_refuseRecord 2 (Option.none) :: GB) rm_X3_refuseRecord D cs b evV [.ref (b + a0)] M rm_X3_refuseRecord.cells rm_X3_refuseRecord.slots q := fun q hq => ct_of [(0, .ref (b + a0))] rfl rfl (Nat.le_of_ble_eq_true rfl) hq (fun p e s m args below meth c X hr hin => by
  refine aw_callq (F' := orf (gr M a0 0) fun r1 => if 0 ≤ (gi M a0 2) ∧ (gi M a0 2) < ln r1 then (sv (gi M r1 (gi M a0 2)) fun i2 => if i2 = 0 then (ob (f_X3_fail a0 (4 : Int32) (gi M a0 2) M) fun _ M7 => f_X3_refuseRecord_L23 a0 M7) else (f_X3_refuseRecord_L23 a0 M)) else none) rfl ?_
  refine aw_aload_n (pc := 0) X 0 dX3_refuseRecord_0 rfl ?_
  refine gf_X3_15 (pc := 1) X dX3_refuseRecord_1 h_a0 (fun r1 h_r1 => ?_)
  refine aw_aload_n (pc := 4) X 0 dX3_refuseRecord_4 rfl ?_
  refine gf_X3_18 (pc := 5) X dX3_refuseRecord_5 h_a0 ?_
  refine aw_iald (pc := 8) X dX3_refuseRecord_8 h_r1 ?_
  refine aw_istoreV_n (pc := 9) X (fun y => [(1, .int y), (0, .ref (b + a0))]) dX3_refuseRecord_9 (by decide) (fun _ => rfl) (fun i2 => ?_)
  refine aw_iload_n (pc := 10) X 0 dX3_refuseRecord_10 rfl ?_
  refine aw_ifne (pc := 11) X 23 dX3_refuseRecord_11 (by decide) ?_ ?_
  · refine aw_aload_n (pc := 14) X 1 dX3_refuseRecord_14 rfl ?_
    refine aw_iconst (pc := 15) X (4 : Int32) dX3_refuseRecord_15 (by decide) ?_
    refine aw_aload_n (pc := 16) X 1 dX3_refuseRecord_16 rfl ?_
    refine gf_X3_18 (pc := 17) X dX3_refuseRecord_17 h_a0 ?_
    refine cl_X3_56 (pc := 20) X ⟨Nat.le_of_ble_eq_true rfl, Nat.le_of_ble_eq_true rfl⟩ (Nat.le_of_ble_eq_true rfl) (ks2 := 0) (sl2 := 0) rfl rfl ⟨(Nat.le_of_ble_eq_true rfl), (Nat.le_of_ble_eq_true rfl)⟩ dX3_refuseRecord_20 h_a0 (fun M7 g8 => ?_)
    have h_a0 := h_a0.mono g8
    refine aw_sub [1] rfl ?_
    exact t_X3_refuseRecord_L23 X hr a0 M7 h_a0
  · refine aw_sub [1] rfl ?_
    exact t_X3_refuseRecord_L23 X hr a0 M h_a0)
/-! ReportBlocks.passBlock -/
def rm_X7_passBlock : Room := { frames := 5, cells := 0, slots := 0, locals := 117 }
theorem hd_X7_passBlock : jHd yX7_passBlock 0 := by unfold jHd; decide +kernel
theorem gf_X7_135 {ρ : Type} {l : Launch} {p : Program} {e : Env} {R : Room} {s : State} {m : MethodId} {args : Array Value} {below : List Frame} {meth : Method} {c : Code} {D : va_G} {cs : JC} {b nL : Nat} {H0 : Heap} {Qf : ρ × JM → State → Prop} {M : JM} {ks sl : Nat} {lv : List (Nat × Value)} {pc : Nat} {st : List Value} {cc : ByteArray} {k : Nat} (X : jX p c cc nL s m args RX7 D cs b meth H0) {K : Nat → Option (ρ × JM)} (hdg : decode cc pc = .ok (.getfield 135, 3)) (ho : oty M k 14) (kk : ∀ r : Nat, oty M r 1 → AWO p l e R s m args below meth c D cs b nL H0 Qf (K r) M ks sl lv (pc + 3) (.ref (b + r) :: st)) : AWO p l e R s m args below meth c D cs b nL H0 Qf (orf (gr M k 0) K) M ks sl lv pc (.ref (b + k) :: st) := aw_getR (ci := 4) (τ := 1) X 0 rfl gy_X4 (by decide) (by decide) rfl rfl (by decide) wf_X7_135 hdg ho kk
theorem gf_X7_27 {ρ : Type} {l : Launch} {p : Program} {e : Env} {R : Room} {s : State} {m : MethodId} {args : Array Value} {below : List Frame} {meth : Method} {c : Code} {D : va_G} {cs : JC} {b nL : Nat} {H0 : Heap} {Qf : ρ × JM → State → Prop} {M : JM} {ks sl : Nat} {lv : List (Nat × Value)} {pc : Nat} {st : List Value} {cc : ByteArray} {k : Nat} (X : jX p c cc nL s m args RX7 D cs b meth H0) {K : Nat → Option (ρ × JM)} (hdg : decode cc pc = .ok (.getfield 27, 3)) (ho : oty M k 17) (kk : ∀ r : Nat, oty M r 13 → AWO p l e R s m args below meth c D cs b nL H0 Qf (K r) M ks sl lv (pc + 3) (.ref (b + r) :: st)) : AWO p l e R s m args below meth c D cs b nL H0 Qf (orf (gr M k 3) K) M ks sl lv pc (.ref (b + k) :: st) := aw_getR (ci := 7) (τ := 13) X 3 rfl gy_X7 (by decide) (by decide) rfl rfl (by decide) wf_X7_27 hdg ho kk
theorem cl_X7_278 {ρ : Type} {l : Launch} {p : Program} {e : Env} {R : Room} {s : State} {m : MethodId} {args : Array Value} {below : List Frame} {meth : Method} {c : Code} {D : va_G} {cs : JC} {b nL : Nat} {H0 : Heap} {Qf : ρ × JM → State → Prop} {M : JM} {ks sl : Nat} {lv : List (Nat × Value)} {pc : Nat} {st : List Value} {cc : ByteArray} (X : jX p c cc nL s m args RX7 D cs b meth H0) {z0 : Nat} {z1 : Int32} {z2 : Int32} {K : JM → Option (ρ × JM)} (hrm : jRm rm_X3_fail 3 R) (hW : (st.map fun v => v.category).sum ≤ 8) {ks2 sl2 : Nat} (hk2 : ks + rm_X3_fail.cells = ks2) (hs2 : sl + rm_X3_fail.slots = sl2) (hroom : ks2 ≤ R.cells ∧ sl2 ≤ R.slots) (hdg : decode cc pc = .ok (.invokevirtual 278, 3)) (h0 : oty M z0 13) (kk : ∀ (M2 : JM), gn M ≤ gn M2 → AWO p l e R s m args below meth c D cs b nL H0 Qf (K M2) M2 ks2 sl2 lv (pc + 3) (st)) : AWO p l e R s m args below meth c D cs b nL H0 Qf (ob (f_X3_fail z0 z1 z2 M) (fun _ => K)) M ks sl lv pc (.int z2 :: .int z1 :: .ref (b + z0) :: st) := by
  subst hk2
  subst hs2
  exact aw_callV (ci := 3) X [.int z1, .int z2] st rfl rfl wl_X7_278 wi_X3_fail wv_X3_fail wc_X3_fail wn_X3 (n := 2) hd_X3_fail rfl hrm hW hroom hdg h0 (t_X3_fail z0 z1 z2 M h0) (fun _ M2 g _ => kk M2 g)
def f_X7_passBlock_L89 : Nat → JM → Option (Unit × JM) := fun a0 M => orf (gr M a0 3) fun r20 => ob (f_X3_fail r20 (2 : Int32) (1 : Int32) M) fun _ M21 => some ((), M21)
set_option maxRecDepth 10000 in
set_option maxHeartbeats 4000000 in
theorem t_X7_passBlock_L89 {p : Program} {l : Launch} {e : Env} {s : State} {m : MethodId} {args : Array Value} {below : List Frame} {meth : Method} {c : Code} {D : va_G} {cs : JC} {b : Nat} (X : jX p c cX7_passBlock 5 s m args RX7 D cs b meth s.heap) (hr : meth.sig.returnType = Option.none) : ∀ (a0 : Nat) (M : JM), oty M a0 17 → AWO p l e rm_X7_passBlock s m args below meth c D cs b 5 s.heap (jE below D cs b evV args s rm_X7_passBlock.cells rm_X7_passBlock.slots) (f_X7_passBlock_L89 a0 M) M 0 0 [(0, .ref (b + a0))] 89 [] := by
  intro a0 M h_a0
  refine aw_callq (F' := orf (gr M a0 3) fun r20 => ob (f_X3_fail r20 (2 : Int32) (1 : Int32) M) fun _ M21 => some ((), M21)) rfl ?_
  refine aw_aload_n (pc := 89) X 0 dX7_passBlock_89 rfl ?_
  refine gf_X7_27 (pc := 90) X dX7_passBlock_90 h_a0 (fun r20 h_r20 => ?_)
  refine aw_iconst (pc := 93) X (2 : Int32) dX7_passBlock_93 (by decide) ?_
  refine aw_iconst (pc := 94) X (1 : Int32) dX7_passBlock_94 (by decide) ?_
  refine cl_X7_278 (pc := 95) X ⟨Nat.le_of_ble_eq_true rfl, Nat.le_of_ble_eq_true rfl⟩ (Nat.le_of_ble_eq_true rfl) (ks2 := 0) (sl2 := 0) rfl rfl ⟨(Nat.le_of_ble_eq_true rfl), (Nat.le_of_ble_eq_true rfl)⟩ dX7_passBlock_95 h_r20 (fun M21 g22 => ?_)
  have h_a0 := h_a0.mono g22
  exact aw_vret (pc := 98) X hr dX7_passBlock_98 (Nat.le_of_ble_eq_true rfl) (Nat.le_of_ble_eq_true rfl)
theorem gf_X7_38 {ρ : Type} {l : Launch} {p : Program} {e : Env} {R : Room} {s : State} {m : MethodId} {args : Array Value} {below : List Frame} {meth : Method} {c : Code} {D : va_G} {cs : JC} {b nL : Nat} {H0 : Heap} {Qf : ρ × JM → State → Prop} {M : JM} {ks sl : Nat} {lv : List (Nat × Value)} {pc : Nat} {st : List Value} {cc : ByteArray} {k : Nat} (X : jX p c cc nL s m args RX7 D cs b meth H0) {K : Nat → Option (ρ × JM)} (hdg : decode cc pc = .ok (.getfield 38, 3)) (ho : oty M k 17) (kk : ∀ r : Nat, oty M r 10 → AWO p l e R s m args below meth c D cs b nL H0 Qf (K r) M ks sl lv (pc + 3) (.ref (b + r) :: st)) : AWO p l e R s m args below meth c D cs b nL H0 Qf (orf (gr M k 5) K) M ks sl lv pc (.ref (b + k) :: st) := aw_getR (ci := 7) (τ := 10) X 5 rfl gy_X7 (by decide) (by decide) rfl rfl (by decide) wf_X7_38 hdg ho kk
theorem pf_X7_154 {ρ : Type} {l : Launch} {p : Program} {e : Env} {R : Room} {s : State} {m : MethodId} {args : Array Value} {below : List Frame} {meth : Method} {c : Code} {D : va_G} {cs : JC} {b nL : Nat} {H0 : Heap} {Qf : ρ × JM → State → Prop} {M : JM} {ks sl : Nat} {lv : List (Nat × Value)} {pc : Nat} {st : List Value} {cc : ByteArray} {k : Nat} {K : JM → Option (ρ × JM)} (X : jX p c cc nL s m args RX7 D cs b meth H0) {x : Int32} (hdg : decode cc pc = .ok (.putfield 154, 3)) (ho : oty M k 10) (kk : ∀ M2 : JM, gn M ≤ gn M2 → AWO p l e R s m args below meth c D cs b nL H0 Qf (K M2) M2 ks sl lv (pc + 3) st) : AWO p l e R s m args below meth c D cs b nL H0 Qf (sq (si M k 0 x) K) M ks sl lv pc (.int x :: .ref (b + k) :: st) := aw_putI (ci := 0) X 0 rfl gy_X0 tyX0 tyX0_ok nmX0 (by decide) (by decide) rfl rfl wf_X7_154 rfl (Or.inl rfl) hdg ho (kk _ (Nat.le_refl _))
theorem pf_X7_183 {ρ : Type} {l : Launch} {p : Program} {e : Env} {R : Room} {s : State} {m : MethodId} {args : Array Value} {below : List Frame} {meth : Method} {c : Code} {D : va_G} {cs : JC} {b nL : Nat} {H0 : Heap} {Qf : ρ × JM → State → Prop} {M : JM} {ks sl : Nat} {lv : List (Nat × Value)} {pc : Nat} {st : List Value} {cc : ByteArray} {k : Nat} {K : JM → Option (ρ × JM)} (X : jX p c cc nL s m args RX7 D cs b meth H0) {x : Nat} (hdg : decode cc pc = .ok (.putfield 183, 3)) (ho : oty M k 13) (hx : oty M x 11) (kk : ∀ M2 : JM, gn M ≤ gn M2 → AWO p l e R s m args below meth c D cs b nL H0 Qf (K M2) M2 ks sl lv (pc + 3) st) : AWO p l e R s m args below meth c D cs b nL H0 Qf (sq (sr M k 1 (some x)) K) M ks sl lv pc (.ref (b + x) :: .ref (b + k) :: st) := aw_putR (ci := 3) (τ := 11) X 1 rfl gy_X3 tyX3 tyX3_ok nmX3 (by decide) (by decide) rfl (by decide) rfl wf_X7_183 rfl (fun a => ⟨rfl, rfl⟩) (Or.inl rfl) hdg ho hx (kk _ (Nat.le_refl _))
theorem pf_X7_138 {ρ : Type} {l : Launch} {p : Program} {e : Env} {R : Room} {s : State} {m : MethodId} {args : Array Value} {below : List Frame} {meth : Method} {c : Code} {D : va_G} {cs : JC} {b nL : Nat} {H0 : Heap} {Qf : ρ × JM → State → Prop} {M : JM} {ks sl : Nat} {lv : List (Nat × Value)} {pc : Nat} {st : List Value} {cc : ByteArray} {k : Nat} {K : JM → Option (ρ × JM)} (X : jX p c cc nL s m args RX7 D cs b meth H0) {x : Int32} (hdg : decode cc pc = .ok (.putfield 138, 3)) (ho : oty M k 13) (kk : ∀ M2 : JM, gn M ≤ gn M2 → AWO p l e R s m args below meth c D cs b nL H0 Qf (K M2) M2 ks sl lv (pc + 3) st) : AWO p l e R s m args below meth c D cs b nL H0 Qf (sq (si M k 3 x) K) M ks sl lv pc (.int x :: .ref (b + k) :: st) := aw_putI (ci := 3) X 3 rfl gy_X3 tyX3 tyX3_ok nmX3 (by decide) (by decide) rfl rfl wf_X7_138 rfl (Or.inl rfl) hdg ho (kk _ (Nat.le_refl _))
theorem pf_X7_190 {ρ : Type} {l : Launch} {p : Program} {e : Env} {R : Room} {s : State} {m : MethodId} {args : Array Value} {below : List Frame} {meth : Method} {c : Code} {D : va_G} {cs : JC} {b nL : Nat} {H0 : Heap} {Qf : ρ × JM → State → Prop} {M : JM} {ks sl : Nat} {lv : List (Nat × Value)} {pc : Nat} {st : List Value} {cc : ByteArray} {k : Nat} {K : JM → Option (ρ × JM)} (X : jX p c cc nL s m args RX7 D cs b meth H0) {x : Int32} (hdg : decode cc pc = .ok (.putfield 190, 3)) (ho : oty M k 13) (kk : ∀ M2 : JM, gn M ≤ gn M2 → AWO p l e R s m args below meth c D cs b nL H0 Qf (K M2) M2 ks sl lv (pc + 3) st) : AWO p l e R s m args below meth c D cs b nL H0 Qf (sq (si M k 2 x) K) M ks sl lv pc (.int x :: .ref (b + k) :: st) := aw_putI (ci := 3) X 2 rfl gy_X3 tyX3 tyX3_ok nmX3 (by decide) (by decide) rfl rfl wf_X7_190 rfl (Or.inl rfl) hdg ho (kk _ (Nat.le_refl _))
theorem cl_X7_281 {ρ : Type} {l : Launch} {p : Program} {e : Env} {R : Room} {s : State} {m : MethodId} {args : Array Value} {below : List Frame} {meth : Method} {c : Code} {D : va_G} {cs : JC} {b nL : Nat} {H0 : Heap} {Qf : ρ × JM → State → Prop} {M : JM} {ks sl : Nat} {lv : List (Nat × Value)} {pc : Nat} {st : List Value} {cc : ByteArray} (X : jX p c cc nL s m args RX7 D cs b meth H0) {z0 : Nat} {K : Bool → JM → Option (ρ × JM)} (hrm : jRm rm_X3_hasMore 1 R) (hW : (st.map fun v => v.category).sum ≤ 8) {ks2 sl2 : Nat} (hk2 : ks + rm_X3_hasMore.cells = ks2) (hs2 : sl + rm_X3_hasMore.slots = sl2) (hroom : ks2 ≤ R.cells ∧ sl2 ≤ R.slots) (hdg : decode cc pc = .ok (.invokevirtual 281, 3)) (h0 : oty M z0 13) (kk : ∀ (r : Bool) (M2 : JM), gn M ≤ gn M2 → AWO p l e R s m args below meth c D cs b nL H0 Qf (K r M2) M2 ks2 sl2 lv (pc + 3) (.int (bI r) :: st)) : AWO p l e R s m args below meth c D cs b nL H0 Qf (ob (f_X3_hasMore z0 M) K) M ks sl lv pc (.ref (b + z0) :: st) := by
  subst hk2
  subst hs2
  exact aw_callV (ci := 3) X [] st rfl rfl wl_X7_281 wi_X3_hasMore wv_X3_hasMore wc_X3_hasMore wn_X3 (n := 0) hd_X3_hasMore rfl hrm hW hroom hdg h0 (t_X3_hasMore z0 M h0) (fun r M2 g _ => kk r M2 g)
theorem cl_X7_288 {ρ : Type} {l : Launch} {p : Program} {e : Env} {R : Room} {s : State} {m : MethodId} {args : Array Value} {below : List Frame} {meth : Method} {c : Code} {D : va_G} {cs : JC} {b nL : Nat} {H0 : Heap} {Qf : ρ × JM → State → Prop} {M : JM} {ks sl : Nat} {lv : List (Nat × Value)} {pc : Nat} {st : List Value} {cc : ByteArray} (X : jX p c cc nL s m args RX7 D cs b meth H0) {z0 : Nat} {K : JM → Option (ρ × JM)} (hrm : jRm rm_X3_refuseRecord 2 R) (hW : (st.map fun v => v.category).sum ≤ 8) {ks2 sl2 : Nat} (hk2 : ks + rm_X3_refuseRecord.cells = ks2) (hs2 : sl + rm_X3_refuseRecord.slots = sl2) (hroom : ks2 ≤ R.cells ∧ sl2 ≤ R.slots) (hdg : decode cc pc = .ok (.invokevirtual 288, 3)) (h0 : oty M z0 13) (kk : ∀ (M2 : JM), gn M ≤ gn M2 → AWO p l e R s m args below meth c D cs b nL H0 Qf (K M2) M2 ks2 sl2 lv (pc + 3) (st)) : AWO p l e R s m args below meth c D cs b nL H0 Qf (ob (f_X3_refuseRecord z0 M) (fun _ => K)) M ks sl lv pc (.ref (b + z0) :: st) := by
  subst hk2
  subst hs2
  exact aw_callV (ci := 3) X [] st rfl rfl wl_X7_288 wi_X3_refuseRecord wv_X3_refuseRecord wc_X3_refuseRecord wn_X3 (n := 0) hd_X3_refuseRecord rfl hrm hW hroom hdg h0 (t_X3_refuseRecord z0 M h0) (fun _ M2 g _ => kk M2 g)
def f_X7_passBlock_L168 : Nat → JM → Option (Unit × JM) := fun a0 M => orf (gr M a0 3) fun r37 => ob (f_X3_hasMore r37 M) fun r40 M38 => if r40 = true then (orf (gr M38 a0 3) fun r41 => ob (f_X3_refuseRecord r41 M38) fun _ M42 => some ((), M42)) else (some ((), M38))
set_option maxRecDepth 10000 in
set_option maxHeartbeats 4000000 in
theorem t_X7_passBlock_L168 {p : Program} {l : Launch} {e : Env} {s : State} {m : MethodId} {args : Array Value} {below : List Frame} {meth : Method} {c : Code} {D : va_G} {cs : JC} {b : Nat} (X : jX p c cX7_passBlock 5 s m args RX7 D cs b meth s.heap) (hr : meth.sig.returnType = Option.none) : ∀ (a0 : Nat) (M : JM), oty M a0 17 → AWO p l e rm_X7_passBlock s m args below meth c D cs b 5 s.heap (jE below D cs b evV args s rm_X7_passBlock.cells rm_X7_passBlock.slots) (f_X7_passBlock_L168 a0 M) M 0 0 [(0, .ref (b + a0))] 168 [] := by
  intro a0 M h_a0
  refine aw_callq (F' := orf (gr M a0 3) fun r37 => ob (f_X3_hasMore r37 M) fun r40 M38 => if r40 = true then (orf (gr M38 a0 3) fun r41 => ob (f_X3_refuseRecord r41 M38) fun _ M42 => some ((), M42)) else (some ((), M38))) rfl ?_
  refine aw_aload_n (pc := 168) X 0 dX7_passBlock_168 rfl ?_
  refine gf_X7_27 (pc := 169) X dX7_passBlock_169 h_a0 (fun r37 h_r37 => ?_)
  refine cl_X7_281 (pc := 172) X ⟨Nat.le_of_ble_eq_true rfl, Nat.le_of_ble_eq_true rfl⟩ (Nat.le_of_ble_eq_true rfl) (ks2 := 0) (sl2 := 0) rfl rfl ⟨(Nat.le_of_ble_eq_true rfl), (Nat.le_of_ble_eq_true rfl)⟩ dX7_passBlock_172 h_r37 (fun r40 M38 g39 => ?_)
  have h_a0 := h_a0.mono g39
  refine aw_ifeqB (pc := 175) X 185 dX7_passBlock_175 (by decide) ?_ ?_
  · refine aw_aload_n (pc := 178) X 0 dX7_passBlock_178 rfl ?_
    refine gf_X7_27 (pc := 179) X dX7_passBlock_179 h_a0 (fun r41 h_r41 => ?_)
    refine cl_X7_288 (pc := 182) X ⟨Nat.le_of_ble_eq_true rfl, Nat.le_of_ble_eq_true rfl⟩ (Nat.le_of_ble_eq_true rfl) (ks2 := 0) (sl2 := 0) rfl rfl ⟨(Nat.le_of_ble_eq_true rfl), (Nat.le_of_ble_eq_true rfl)⟩ dX7_passBlock_182 h_r41 (fun M42 g43 => ?_)
    have h_a0 := h_a0.mono g43
    exact aw_vret (pc := 185) X hr dX7_passBlock_185 (Nat.le_of_ble_eq_true rfl) (Nat.le_of_ble_eq_true rfl)
  · exact aw_vret (pc := 185) X hr dX7_passBlock_185 (Nat.le_of_ble_eq_true rfl) (Nat.le_of_ble_eq_true rfl)
theorem cl_X7_284 {ρ : Type} {l : Launch} {p : Program} {e : Env} {R : Room} {s : State} {m : MethodId} {args : Array Value} {below : List Frame} {meth : Method} {c : Code} {D : va_G} {cs : JC} {b nL : Nat} {H0 : Heap} {Qf : ρ × JM → State → Prop} {M : JM} {ks sl : Nat} {lv : List (Nat × Value)} {pc : Nat} {st : List Value} {cc : ByteArray} (X : jX p c cc nL s m args RX7 D cs b meth H0) {z0 : Nat} {z1 : Nat} {K : JM → Option (ρ × JM)} (hrm : jRm rm_X3_passRecord 7 R) (hW : (st.map fun v => v.category).sum ≤ 8) {ks2 sl2 : Nat} (hk2 : ks + rm_X3_passRecord.cells = ks2) (hs2 : sl + rm_X3_passRecord.slots = sl2) (hroom : ks2 ≤ R.cells ∧ sl2 ≤ R.slots) (hdg : decode cc pc = .ok (.invokevirtual 284, 3)) (h0 : oty M z0 13) (h1 : oty M z1 10) (kk : ∀ (M2 : JM), gn M ≤ gn M2 → AWO p l e R s m args below meth c D cs b nL H0 Qf (K M2) M2 ks2 sl2 lv (pc + 3) (st)) : AWO p l e R s m args below meth c D cs b nL H0 Qf (ob (f_X3_passRecord z0 z1 M) (fun _ => K)) M ks sl lv pc (.ref (b + z1) :: .ref (b + z0) :: st) := by
  subst hk2
  subst hs2
  exact aw_callV (ci := 3) X [.ref (b + z1)] st rfl rfl wl_X7_284 wi_X3_passRecord wv_X3_passRecord wc_X3_passRecord wn_X3 (n := 1) hd_X3_passRecord rfl hrm hW hroom hdg h0 (t_X3_passRecord z0 z1 M h0 h1) (fun _ M2 g _ => kk M2 g)
def f_X7_passBlock_L134 : Nat → Nat → Int32 → JM → Option (Unit × JM)
  | 0, _, _, _ => none
  | n + 1, a0, v4, M => if v4 < (8 : Int32) then (orf (gr M a0 3) fun r44 => ob (f_X3_hasMore r44 M) fun r47 M45 => if r47 = true then (orf (gr M45 a0 3) fun r48 => orf (gr M45 a0 5) fun r49 => ob (f_X3_passRecord r48 r49 M45) fun _ M50 => sv (v4 + (1 : Int32)) fun i52 => (f_X7_passBlock_L134 n) a0 i52 M50) else (f_X7_passBlock_L168 a0 M45)) else (f_X7_passBlock_L168 a0 M)
set_option maxRecDepth 10000 in
set_option maxHeartbeats 4000000 in
theorem t_X7_passBlock_L134 {p : Program} {l : Launch} {e : Env} {s : State} {m : MethodId} {args : Array Value} {below : List Frame} {meth : Method} {c : Code} {D : va_G} {cs : JC} {b : Nat} (X : jX p c cX7_passBlock 5 s m args RX7 D cs b meth s.heap) (hr : meth.sig.returnType = Option.none) : ∀ (n : Nat) (a0 : Nat) (v4 : Int32) (M : JM), oty M a0 17 → AWO p l e rm_X7_passBlock s m args below meth c D cs b 5 s.heap (jE below D cs b evV args s rm_X7_passBlock.cells rm_X7_passBlock.slots) (f_X7_passBlock_L134 n a0 v4 M) M 0 0 [(0, .ref (b + a0)), (4, .int v4)] 134 [] := by
  intro n
  induction n with
  | zero => intro a0 v4 M h_a0; exact aw_none
  | succ n ih =>
    intro a0 v4 M h_a0
    refine aw_callq (F' := if v4 < (8 : Int32) then (orf (gr M a0 3) fun r44 => ob (f_X3_hasMore r44 M) fun r47 M45 => if r47 = true then (orf (gr M45 a0 3) fun r48 => orf (gr M45 a0 5) fun r49 => ob (f_X3_passRecord r48 r49 M45) fun _ M50 => sv (v4 + (1 : Int32)) fun i52 => (f_X7_passBlock_L134 n) a0 i52 M50) else (f_X7_passBlock_L168 a0 M45)) else (f_X7_passBlock_L168 a0 M)) rfl ?_
    refine aw_iload (pc := 134) X 1 dX7_passBlock_134 rfl ?_
    refine aw_bipush (pc := 136) X (8 : Int32) dX7_passBlock_136 (by decide) ?_
    refine aw_icmpge (pc := 138) X 168 dX7_passBlock_138 (by decide) ?_ ?_
    · refine aw_aload_n (pc := 141) X 0 dX7_passBlock_141 rfl ?_
      refine gf_X7_27 (pc := 142) X dX7_passBlock_142 h_a0 (fun r44 h_r44 => ?_)
      refine cl_X7_281 (pc := 145) X ⟨Nat.le_of_ble_eq_true rfl, Nat.le_of_ble_eq_true rfl⟩ (Nat.le_of_ble_eq_true rfl) (ks2 := 0) (sl2 := 0) rfl rfl ⟨(Nat.le_of_ble_eq_true rfl), (Nat.le_of_ble_eq_true rfl)⟩ dX7_passBlock_145 h_r44 (fun r47 M45 g46 => ?_)
      have h_a0 := h_a0.mono g46
      refine aw_ifeqB (pc := 148) X 168 dX7_passBlock_148 (by decide) ?_ ?_
      · refine aw_aload_n (pc := 151) X 0 dX7_passBlock_151 rfl ?_
        refine gf_X7_27 (pc := 152) X dX7_passBlock_152 h_a0 (fun r48 h_r48 => ?_)
        refine aw_aload_n (pc := 155) X 0 dX7_passBlock_155 rfl ?_
        refine gf_X7_38 (pc := 156) X dX7_passBlock_156 h_a0 (fun r49 h_r49 => ?_)
        refine cl_X7_284 (pc := 159) X ⟨Nat.le_of_ble_eq_true rfl, Nat.le_of_ble_eq_true rfl⟩ (Nat.le_of_ble_eq_true rfl) (ks2 := 0) (sl2 := 0) rfl rfl ⟨(Nat.le_of_ble_eq_true rfl), (Nat.le_of_ble_eq_true rfl)⟩ dX7_passBlock_159 h_r48 h_r49 (fun M50 g51 => ?_)
        have h_a0 := h_a0.mono g51
        refine aw_iincV (pc := 162) X (fun y => [(4, .int y), (0, .ref (b + a0))]) 1 (v := (v4 + (1 : Int32))) dX7_passBlock_162 rfl rfl (by decide) (fun _ => rfl) (fun i52 => ?_)
        refine aw_goto (pc := 165) X 134 dX7_passBlock_165 (by decide) ?_
        refine aw_sub [1, 0] rfl ?_
        exact ih a0 i52 M50 h_a0
      · refine aw_sub [0] rfl ?_
        exact t_X7_passBlock_L168 X hr a0 M45 h_a0
    · refine aw_sub [0] rfl ?_
      exact t_X7_passBlock_L168 X hr a0 M h_a0
def f_X7_passBlock_L72 : Nat → Int32 → Nat → Int32 → JM → Option (Unit × JM) := fun a0 v1 a2 u0 M => sv u0 fun i19 => if i19 < (4 : Int32) then (f_X7_passBlock_L89 a0 M) else (orf (gr M a0 2) fun r23 => if (gi M r23 1) < i19 then (f_X7_passBlock_L89 a0 M) else (orf (gr M a0 5) fun r24 => sq (si M r24 0 v1) fun M25 => orf (gr M25 a0 3) fun r27 => sq (sr M25 r27 1 (some a2)) fun M28 => orf (gr M28 a0 3) fun r30 => sq (si M28 r30 3 i19) fun M31 => orf (gr M31 a0 3) fun r33 => sq (si M31 r33 2 (3 : Int32)) fun M34 => sv (0 : Int32) fun i36 => f_X7_passBlock_L134 FU a0 i36 M34))
set_option maxRecDepth 10000 in
set_option maxHeartbeats 4000000 in
theorem t_X7_passBlock_L72 {p : Program} {l : Launch} {e : Env} {s : State} {m : MethodId} {args : Array Value} {below : List Frame} {meth : Method} {c : Code} {D : va_G} {cs : JC} {b : Nat} (X : jX p c cX7_passBlock 5 s m args RX7 D cs b meth s.heap) (hr : meth.sig.returnType = Option.none) : ∀ (a0 : Nat) (v1 : Int32) (a2 : Nat) (u0 : Int32) (M : JM), oty M a0 17 → oty M a2 11 → AWO p l e rm_X7_passBlock s m args below meth c D cs b 5 s.heap (jE below D cs b evV args s rm_X7_passBlock.cells rm_X7_passBlock.slots) (f_X7_passBlock_L72 a0 v1 a2 u0 M) M 0 0 [(0, .ref (b + a0)), (1, .int v1), (2, .ref (b + a2))] 72 [.int u0] := by
  intro a0 v1 a2 u0 M h_a0 h_a2
  refine aw_callq (F' := sv u0 fun i19 => if i19 < (4 : Int32) then (f_X7_passBlock_L89 a0 M) else (orf (gr M a0 2) fun r23 => if (gi M r23 1) < i19 then (f_X7_passBlock_L89 a0 M) else (orf (gr M a0 5) fun r24 => sq (si M r24 0 v1) fun M25 => orf (gr M25 a0 3) fun r27 => sq (sr M25 r27 1 (some a2)) fun M28 => orf (gr M28 a0 3) fun r30 => sq (si M28 r30 3 i19) fun M31 => orf (gr M31 a0 3) fun r33 => sq (si M31 r33 2 (3 : Int32)) fun M34 => sv (0 : Int32) fun i36 => f_X7_passBlock_L134 FU a0 i36 M34))) rfl ?_
  refine aw_istoreV_n (pc := 72) X (fun y => [(3, .int y), (0, .ref (b + a0)), (1, .int v1), (2, .ref (b + a2))]) dX7_passBlock_72 (by decide) (fun _ => rfl) (fun i19 => ?_)
  refine aw_iload_n (pc := 73) X 0 dX7_passBlock_73 rfl ?_
  refine aw_iconst (pc := 74) X (4 : Int32) dX7_passBlock_74 (by decide) ?_
  refine aw_icmplt (pc := 75) X 89 dX7_passBlock_75 (by decide) ?_ ?_
  · refine aw_sub [1] rfl ?_
    exact t_X7_passBlock_L89 X hr a0 M h_a0
  · refine aw_iload_n (pc := 78) X 0 dX7_passBlock_78 rfl ?_
    refine aw_aload_n (pc := 79) X 1 dX7_passBlock_79 rfl ?_
    refine gf_X7_18 (pc := 80) X dX7_passBlock_80 h_a0 (fun r23 h_r23 => ?_)
    refine gf_X7_114 (pc := 83) X dX7_passBlock_83 h_r23 ?_
    refine aw_icmple (pc := 86) X 99 dX7_passBlock_86 (by decide) ?_ ?_
    · refine aw_sub [1] rfl ?_
      exact t_X7_passBlock_L89 X hr a0 M h_a0
    · refine aw_aload_n (pc := 99) X 1 dX7_passBlock_99 rfl ?_
      refine gf_X7_38 (pc := 100) X dX7_passBlock_100 h_a0 (fun r24 h_r24 => ?_)
      refine aw_iload_n (pc := 103) X 2 dX7_passBlock_103 rfl ?_
      refine pf_X7_154 (pc := 104) X dX7_passBlock_104 h_r24 (fun M25 g26 => ?_)
      have h_a0 := h_a0.mono g26
      have h_a2 := h_a2.mono g26
      refine aw_aload_n (pc := 107) X 1 dX7_passBlock_107 rfl ?_
      refine gf_X7_27 (pc := 108) X dX7_passBlock_108 h_a0 (fun r27 h_r27 => ?_)
      refine aw_aload_n (pc := 111) X 3 dX7_passBlock_111 rfl ?_
      refine pf_X7_183 (pc := 112) X dX7_passBlock_112 h_r27 h_a2 (fun M28 g29 => ?_)
      have h_a0 := h_a0.mono g29
      have h_a2 := h_a2.mono g29
      refine aw_aload_n (pc := 115) X 1 dX7_passBlock_115 rfl ?_
      refine gf_X7_27 (pc := 116) X dX7_passBlock_116 h_a0 (fun r30 h_r30 => ?_)
      refine aw_iload_n (pc := 119) X 0 dX7_passBlock_119 rfl ?_
      refine pf_X7_138 (pc := 120) X dX7_passBlock_120 h_r30 (fun M31 g32 => ?_)
      have h_a0 := h_a0.mono g32
      have h_a2 := h_a2.mono g32
      refine aw_aload_n (pc := 123) X 1 dX7_passBlock_123 rfl ?_
      refine gf_X7_27 (pc := 124) X dX7_passBlock_124 h_a0 (fun r33 h_r33 => ?_)
      refine aw_iconst (pc := 127) X (3 : Int32) dX7_passBlock_127 (by decide) ?_
      refine pf_X7_190 (pc := 128) X dX7_passBlock_128 h_r33 (fun M34 g35 => ?_)
      have h_a0 := h_a0.mono g35
      have h_a2 := h_a2.mono g35
      refine aw_iconst (pc := 131) X (0 : Int32) dX7_passBlock_131 (by decide) ?_
      refine aw_istoreV (pc := 132) X (fun y => [(4, .int y), (3, .int i19), (0, .ref (b + a0)), (1, .int v1), (2, .ref (b + a2))]) dX7_passBlock_132 (by decide) (fun _ => rfl) (fun i36 => ?_)
      refine aw_sub [2, 0] rfl ?_
      exact t_X7_passBlock_L134 X hr FU a0 i36 M34 h_a0
def f_X7_passBlock (a0 : Nat) (M : JM) : Option (Unit × JM) := orf (gr M a0 2) fun r1 => orf (gr M r1 0) fun r2 => if 0 ≤ (0 : Int32) ∧ (0 : Int32) < ln r2 then (ob (f_X7_indexOfNumber a0 (gi M r2 (0 : Int32)) M) fun r5 M3 => sv r5 fun i6 => ob (f_X7_categoryAt a0 i6 M3) fun o10 M7 => oca o10 (orf (gr M7 a0 3) fun r11 => ob (f_X3_fail r11 (1 : Int32) (0 : Int32) M7) fun _ M12 => some ((), M12)) fun r9 => orf (gr M7 a0 2) fun r14 => if (gi M7 r14 1) < (3 : Int32) then (f_X7_passBlock_L72 a0 i6 r9 (0 : Int32) M7) else (orf (gr M7 a0 2) fun r15 => orf (gr M7 r15 0) fun r16 => if 0 ≤ (1 : Int32) ∧ (1 : Int32) < ln r16 then (orf (gr M7 a0 2) fun r17 => orf (gr M7 r17 0) fun r18 => if 0 ≤ (2 : Int32) ∧ (2 : Int32) < ln r18 then (f_X7_passBlock_L72 a0 i6 r9 (((gi M7 r16 (1 : Int32)) * (256 : Int32)) + (gi M7 r18 (2 : Int32))) M7) else none) else none)) else none
set_option maxRecDepth 10000 in
set_option maxHeartbeats 4000000 in
theorem t_X7_passBlock {l : Launch} {D : va_G} {cs : JC} {b : Nat} (a0 : Nat) (M : JM) (h_a0 : oty M a0 17) : ∀ q, f_X7_passBlock a0 M = some q → CTy l yX7_passBlock (.code yX7_passBlock cX7_passBlock 5 (Option.none) :: GB) rm_X7_passBlock D cs b evV [.ref (b + a0)] M rm_X7_passBlock.cells rm_X7_passBlock.slots q := fun q hq => ct_of [(0, .ref (b + a0))] rfl rfl (Nat.le_of_ble_eq_true rfl) hq (fun p e s m args below meth c X hr hin => by
  refine aw_callq (F' := orf (gr M a0 2) fun r1 => orf (gr M r1 0) fun r2 => if 0 ≤ (0 : Int32) ∧ (0 : Int32) < ln r2 then (ob (f_X7_indexOfNumber a0 (gi M r2 (0 : Int32)) M) fun r5 M3 => sv r5 fun i6 => ob (f_X7_categoryAt a0 i6 M3) fun o10 M7 => oca o10 (orf (gr M7 a0 3) fun r11 => ob (f_X3_fail r11 (1 : Int32) (0 : Int32) M7) fun _ M12 => some ((), M12)) fun r9 => orf (gr M7 a0 2) fun r14 => if (gi M7 r14 1) < (3 : Int32) then (f_X7_passBlock_L72 a0 i6 r9 (0 : Int32) M7) else (orf (gr M7 a0 2) fun r15 => orf (gr M7 r15 0) fun r16 => if 0 ≤ (1 : Int32) ∧ (1 : Int32) < ln r16 then (orf (gr M7 a0 2) fun r17 => orf (gr M7 r17 0) fun r18 => if 0 ≤ (2 : Int32) ∧ (2 : Int32) < ln r18 then (f_X7_passBlock_L72 a0 i6 r9 (((gi M7 r16 (1 : Int32)) * (256 : Int32)) + (gi M7 r18 (2 : Int32))) M7) else none) else none)) else none) rfl ?_
  refine aw_aload_n (pc := 0) X 0 dX7_passBlock_0 rfl ?_
  refine aw_aload_n (pc := 1) X 0 dX7_passBlock_1 rfl ?_
  refine gf_X7_18 (pc := 2) X dX7_passBlock_2 h_a0 (fun r1 h_r1 => ?_)
  refine gf_X7_135 (pc := 5) X dX7_passBlock_5 h_r1 (fun r2 h_r2 => ?_)
  refine aw_iconst (pc := 8) X (0 : Int32) dX7_passBlock_8 (by decide) ?_
  refine aw_iald (pc := 9) X dX7_passBlock_9 h_r2 ?_
  refine cl_X7_55 (pc := 10) X ⟨Nat.le_of_ble_eq_true rfl, Nat.le_of_ble_eq_true rfl⟩ (Nat.le_of_ble_eq_true rfl) (ks2 := 0) (sl2 := 0) rfl rfl ⟨(Nat.le_of_ble_eq_true rfl), (Nat.le_of_ble_eq_true rfl)⟩ dX7_passBlock_10 h_a0 (fun r5 M3 g4 => ?_)
  have h_a0 := h_a0.mono g4
  refine aw_istoreV_n (pc := 13) X (fun y => [(1, .int y), (0, .ref (b + a0))]) dX7_passBlock_13 (by decide) (fun _ => rfl) (fun i6 => ?_)
  refine aw_aload_n (pc := 14) X 1 dX7_passBlock_14 rfl ?_
  refine aw_iload_n (pc := 15) X 0 dX7_passBlock_15 rfl ?_
  refine cl_X7_66 (pc := 16) X ⟨Nat.le_of_ble_eq_true rfl, Nat.le_of_ble_eq_true rfl⟩ (Nat.le_of_ble_eq_true rfl) (ks2 := 0) (sl2 := 0) rfl rfl ⟨(Nat.le_of_ble_eq_true rfl), (Nat.le_of_ble_eq_true rfl)⟩ dX7_passBlock_16 h_a0 (fun M7 g8 => ?_) (fun r9 M7 g8 h_r9 => ?_)
  · have h_a0 := h_a0.mono g8
    refine aw_astore_n0 (pc := 19) X [(2, .null), (1, .int i6), (0, .ref (b + a0))] dX7_passBlock_19 (by decide) rfl ?_
    refine aw_aload_n0 (pc := 20) X 0 dX7_passBlock_20 rfl ?_
    refine aw_ifnonnull_n (pc := 21) X dX7_passBlock_21 ?_
    refine aw_aload_n (pc := 24) X 2 dX7_passBlock_24 rfl ?_
    refine gf_X7_27 (pc := 25) X dX7_passBlock_25 h_a0 (fun r11 h_r11 => ?_)
    refine aw_iconst (pc := 28) X (1 : Int32) dX7_passBlock_28 (by decide) ?_
    refine aw_iconst (pc := 29) X (0 : Int32) dX7_passBlock_29 (by decide) ?_
    refine cl_X7_278 (pc := 30) X ⟨Nat.le_of_ble_eq_true rfl, Nat.le_of_ble_eq_true rfl⟩ (Nat.le_of_ble_eq_true rfl) (ks2 := 0) (sl2 := 0) rfl rfl ⟨(Nat.le_of_ble_eq_true rfl), (Nat.le_of_ble_eq_true rfl)⟩ dX7_passBlock_30 h_r11 (fun M12 g13 => ?_)
    have h_a0 := h_a0.mono g13
    exact aw_vret (pc := 33) X hr dX7_passBlock_33 (Nat.le_of_ble_eq_true rfl) (Nat.le_of_ble_eq_true rfl)
  · have h_a0 := h_a0.mono g8
    refine aw_astore_n (pc := 19) X [(2, .ref (b + r9)), (1, .int i6), (0, .ref (b + a0))] dX7_passBlock_19 (by decide) rfl ?_
    refine aw_aload_n (pc := 20) X 0 dX7_passBlock_20 rfl ?_
    refine aw_ifnonnull_r (pc := 21) X 34 dX7_passBlock_21 (by decide) ?_
    refine aw_aload_n (pc := 34) X 2 dX7_passBlock_34 rfl ?_
    refine gf_X7_18 (pc := 35) X dX7_passBlock_35 h_a0 (fun r14 h_r14 => ?_)
    refine gf_X7_114 (pc := 38) X dX7_passBlock_38 h_r14 ?_
    refine aw_iconst (pc := 41) X (3 : Int32) dX7_passBlock_41 (by decide) ?_
    refine aw_icmpge (pc := 42) X 49 dX7_passBlock_42 (by decide) ?_ ?_
    · refine aw_iconst (pc := 45) X (0 : Int32) dX7_passBlock_45 (by decide) ?_
      refine aw_goto (pc := 46) X 72 dX7_passBlock_46 (by decide) ?_
      refine aw_sub [2, 1, 0] rfl ?_
      exact t_X7_passBlock_L72 X hr a0 i6 r9 (0 : Int32) M7 h_a0 h_r9
    · refine aw_aload_n (pc := 49) X 2 dX7_passBlock_49 rfl ?_
      refine gf_X7_18 (pc := 50) X dX7_passBlock_50 h_a0 (fun r15 h_r15 => ?_)
      refine gf_X7_135 (pc := 53) X dX7_passBlock_53 h_r15 (fun r16 h_r16 => ?_)
      refine aw_iconst (pc := 56) X (1 : Int32) dX7_passBlock_56 (by decide) ?_
      refine aw_iald (pc := 57) X dX7_passBlock_57 h_r16 ?_
      refine aw_sipush (pc := 58) X (256 : Int32) dX7_passBlock_58 (by decide) ?_
      refine aw_imul (pc := 61) X dX7_passBlock_61 ?_
      refine aw_aload_n (pc := 62) X 2 dX7_passBlock_62 rfl ?_
      refine gf_X7_18 (pc := 63) X dX7_passBlock_63 h_a0 (fun r17 h_r17 => ?_)
      refine gf_X7_135 (pc := 66) X dX7_passBlock_66 h_r17 (fun r18 h_r18 => ?_)
      refine aw_iconst (pc := 69) X (2 : Int32) dX7_passBlock_69 (by decide) ?_
      refine aw_iald (pc := 70) X dX7_passBlock_70 h_r18 ?_
      refine aw_iadd (pc := 71) X dX7_passBlock_71 ?_
      refine aw_sub [2, 1, 0] rfl ?_
      exact t_X7_passBlock_L72 X hr a0 i6 r9 (((gi M7 r16 (1 : Int32)) * (256 : Int32)) + (gi M7 r18 (2 : Int32))) M7 h_a0 h_r9)
/-! ReportBlocks$Block.keepBytes -/
def rm_X0_keepBytes : Room := { frames := 1, cells := 0, slots := 0, locals := 60 }
theorem hd_X0_keepBytes : jHd yX0_keepBytes 2 := by unfold jHd; decide +kernel
theorem gf_X0_15 {ρ : Type} {l : Launch} {p : Program} {e : Env} {R : Room} {s : State} {m : MethodId} {args : Array Value} {below : List Frame} {meth : Method} {c : Code} {D : va_G} {cs : JC} {b nL : Nat} {H0 : Heap} {Qf : ρ × JM → State → Prop} {M : JM} {ks sl : Nat} {lv : List (Nat × Value)} {pc : Nat} {st : List Value} {cc : ByteArray} {k : Nat} (X : jX p c cc nL s m args RX0 D cs b meth H0) {K : Nat → Option (ρ × JM)} (hdg : decode cc pc = .ok (.getfield 15, 3)) (ho : oty M k 10) (kk : ∀ r : Nat, oty M r 1 → AWO p l e R s m args below meth c D cs b nL H0 Qf (K r) M ks sl lv (pc + 3) (.ref (b + r) :: st)) : AWO p l e R s m args below meth c D cs b nL H0 Qf (orf (gr M k 2) K) M ks sl lv pc (.ref (b + k) :: st) := aw_getR (ci := 0) (τ := 1) X 2 rfl gy_X0 (by decide) (by decide) rfl rfl (by decide) wf_X0_15 hdg ho kk
theorem pf_X0_43 {ρ : Type} {l : Launch} {p : Program} {e : Env} {R : Room} {s : State} {m : MethodId} {args : Array Value} {below : List Frame} {meth : Method} {c : Code} {D : va_G} {cs : JC} {b nL : Nat} {H0 : Heap} {Qf : ρ × JM → State → Prop} {M : JM} {ks sl : Nat} {lv : List (Nat × Value)} {pc : Nat} {st : List Value} {cc : ByteArray} {k : Nat} {K : JM → Option (ρ × JM)} (X : jX p c cc nL s m args RX0 D cs b meth H0) {x : Int32} (hdg : decode cc pc = .ok (.putfield 43, 3)) (ho : oty M k 10) (kk : ∀ M2 : JM, gn M ≤ gn M2 → AWO p l e R s m args below meth c D cs b nL H0 Qf (K M2) M2 ks sl lv (pc + 3) st) : AWO p l e R s m args below meth c D cs b nL H0 Qf (sq (si M k 3 x) K) M ks sl lv pc (.int x :: .ref (b + k) :: st) := aw_putI (ci := 0) X 3 rfl gy_X0 tyX0 tyX0_ok nmX0 (by decide) (by decide) rfl rfl wf_X0_43 rfl (Or.inl rfl) hdg ho (kk _ (Nat.le_refl _))
def f_X0_keepBytes (a0 : Nat) (a1 : Nat) (v2 : Int32) (M : JM) : Option (Unit × JM) := orf (gr M a0 2) fun r1 => if 0 ≤ (0 : Int32) ∧ (0 : Int32) < 2000 ∧ 0 ≤ (0 : Int32) ∧ (0 : Int32) < 2000 ∧ 0 ≤ v2 ∧ v2 < 2000 ∧ (0 : Int32) + v2 ≤ ln a1 ∧ (0 : Int32) + v2 ≤ ln r1 then (sq (cpm M a1 (0 : Int32) r1 (0 : Int32) v2) fun M2 => sq (si M2 a0 3 v2) fun M4 => some ((), M4)) else none
set_option maxRecDepth 10000 in
set_option maxHeartbeats 4000000 in
theorem t_X0_keepBytes {l : Launch} {D : va_G} {cs : JC} {b : Nat} (a0 : Nat) (a1 : Nat) (v2 : Int32) (M : JM) (h_a0 : oty M a0 10) (h_a1 : oty M a1 1) : ∀ q, f_X0_keepBytes a0 a1 v2 M = some q → CTy l yX0_keepBytes (.code yX0_keepBytes cX0_keepBytes 3 (Option.none) :: GB) rm_X0_keepBytes D cs b evV [.ref (b + a0), .ref (b + a1), .int v2] M rm_X0_keepBytes.cells rm_X0_keepBytes.slots q := fun q hq => ct_of [(0, .ref (b + a0)), (1, .ref (b + a1)), (2, .int v2)] rfl rfl (Nat.le_of_ble_eq_true rfl) hq (fun p e s m args below meth c X hr hin => by
  refine aw_callq (F' := orf (gr M a0 2) fun r1 => if 0 ≤ (0 : Int32) ∧ (0 : Int32) < 2000 ∧ 0 ≤ (0 : Int32) ∧ (0 : Int32) < 2000 ∧ 0 ≤ v2 ∧ v2 < 2000 ∧ (0 : Int32) + v2 ≤ ln a1 ∧ (0 : Int32) + v2 ≤ ln r1 then (sq (cpm M a1 (0 : Int32) r1 (0 : Int32) v2) fun M2 => sq (si M2 a0 3 v2) fun M4 => some ((), M4)) else none) rfl ?_
  refine aw_aload_n (pc := 0) X 1 dX0_keepBytes_0 rfl ?_
  refine aw_iconst (pc := 1) X (0 : Int32) dX0_keepBytes_1 (by decide) ?_
  refine aw_aload_n (pc := 2) X 0 dX0_keepBytes_2 rfl ?_
  refine gf_X0_15 (pc := 3) X dX0_keepBytes_3 h_a0 (fun r1 h_r1 => ?_)
  refine aw_iconst (pc := 6) X (0 : Int32) dX0_keepBytes_6 (by decide) ?_
  refine aw_iload_n (pc := 7) X 2 dX0_keepBytes_7 rfl ?_
  refine aw_copyQ (pc := 8) X wl_X0_37 (Nat.le_of_ble_eq_true rfl) (Nat.le_of_ble_eq_true rfl) dX0_keepBytes_8 h_a1 h_r1 (fun M2 g3 => ?_)
  have h_a0 := h_a0.mono g3
  have h_a1 := h_a1.mono g3
  refine aw_aload_n (pc := 11) X 0 dX0_keepBytes_11 rfl ?_
  refine aw_iload_n (pc := 12) X 2 dX0_keepBytes_12 rfl ?_
  refine pf_X0_43 (pc := 13) X dX0_keepBytes_13 h_a0 (fun M4 g5 => ?_)
  have h_a0 := h_a0.mono g5
  have h_a1 := h_a1.mono g5
  exact aw_vret (pc := 16) X hr dX0_keepBytes_16 (Nat.le_of_ble_eq_true rfl) (Nat.le_of_ble_eq_true rfl))
/-! ReportBlocks$Tape.dropFirst -/
def rm_X4_dropFirst : Room := { frames := 0, cells := 0, slots := 0, locals := 0 }
theorem hd_X4_dropFirst : jHd yX4_dropFirst 1 := by unfold jHd; decide +kernel
def f_X4_dropFirst_L30 : Nat → Int32 → JM → Option (Unit × JM) := fun a0 v1 M => sq (si M a0 1 ((gi M a0 1) - v1)) fun M2 => some ((), M2)
set_option maxRecDepth 10000 in
set_option maxHeartbeats 4000000 in
theorem t_X4_dropFirst_L30 {p : Program} {l : Launch} {e : Env} {s : State} {m : MethodId} {args : Array Value} {below : List Frame} {meth : Method} {c : Code} {D : va_G} {cs : JC} {b : Nat} (X : jX p c cX4_dropFirst 3 s m args RX4 D cs b meth s.heap) (hr : meth.sig.returnType = Option.none) : ∀ (a0 : Nat) (v1 : Int32) (M : JM), oty M a0 14 → AWO p l e rm_X4_dropFirst s m args below meth c D cs b 3 s.heap (jE below D cs b evV args s rm_X4_dropFirst.cells rm_X4_dropFirst.slots) (f_X4_dropFirst_L30 a0 v1 M) M 0 0 [(0, .ref (b + a0)), (1, .int v1)] 30 [] := by
  intro a0 v1 M h_a0
  refine aw_callq (F' := sq (si M a0 1 ((gi M a0 1) - v1)) fun M2 => some ((), M2)) rfl ?_
  refine aw_aload_n (pc := 30) X 0 dX4_dropFirst_30 rfl ?_
  refine aw_dup_a (pc := 31) X dX4_dropFirst_31 ?_
  refine gf_X4_15 (pc := 32) X dX4_dropFirst_32 h_a0 ?_
  refine aw_iload_n (pc := 35) X 1 dX4_dropFirst_35 rfl ?_
  refine aw_isub (pc := 36) X dX4_dropFirst_36 ?_
  refine pf_X4_15 (pc := 37) X dX4_dropFirst_37 h_a0 (fun M2 g3 => ?_)
  have h_a0 := h_a0.mono g3
  exact aw_vret (pc := 40) X hr dX4_dropFirst_40 (Nat.le_of_ble_eq_true rfl) (Nat.le_of_ble_eq_true rfl)
def f_X4_dropFirst_L2 : Nat → Nat → Int32 → Int32 → JM → Option (Unit × JM)
  | 0, _, _, _, _ => none
  | n + 1, a0, v1, v2, M => if v2 < (gi M a0 1) then (orf (gr M a0 0) fun r4 => orf (gr M a0 0) fun r5 => if 0 ≤ v2 ∧ v2 < ln r5 then (if 0 ≤ (v2 - v1) ∧ (v2 - v1) < ln r4 then (sq (si M r4 (v2 - v1) (gi M r5 v2)) fun M6 => sv (v2 + (1 : Int32)) fun i8 => (f_X4_dropFirst_L2 n) a0 v1 i8 M6) else none) else none) else (f_X4_dropFirst_L30 a0 v1 M)
set_option maxRecDepth 10000 in
set_option maxHeartbeats 4000000 in
theorem t_X4_dropFirst_L2 {p : Program} {l : Launch} {e : Env} {s : State} {m : MethodId} {args : Array Value} {below : List Frame} {meth : Method} {c : Code} {D : va_G} {cs : JC} {b : Nat} (X : jX p c cX4_dropFirst 3 s m args RX4 D cs b meth s.heap) (hr : meth.sig.returnType = Option.none) : ∀ (n : Nat) (a0 : Nat) (v1 : Int32) (v2 : Int32) (M : JM), oty M a0 14 → AWO p l e rm_X4_dropFirst s m args below meth c D cs b 3 s.heap (jE below D cs b evV args s rm_X4_dropFirst.cells rm_X4_dropFirst.slots) (f_X4_dropFirst_L2 n a0 v1 v2 M) M 0 0 [(0, .ref (b + a0)), (1, .int v1), (2, .int v2)] 2 [] := by
  intro n
  induction n with
  | zero => intro a0 v1 v2 M h_a0; exact aw_none
  | succ n ih =>
    intro a0 v1 v2 M h_a0
    refine aw_callq (F' := if v2 < (gi M a0 1) then (orf (gr M a0 0) fun r4 => orf (gr M a0 0) fun r5 => if 0 ≤ v2 ∧ v2 < ln r5 then (if 0 ≤ (v2 - v1) ∧ (v2 - v1) < ln r4 then (sq (si M r4 (v2 - v1) (gi M r5 v2)) fun M6 => sv (v2 + (1 : Int32)) fun i8 => (f_X4_dropFirst_L2 n) a0 v1 i8 M6) else none) else none) else (f_X4_dropFirst_L30 a0 v1 M)) rfl ?_
    refine aw_iload_n (pc := 2) X 2 dX4_dropFirst_2 rfl ?_
    refine aw_aload_n (pc := 3) X 0 dX4_dropFirst_3 rfl ?_
    refine gf_X4_15 (pc := 4) X dX4_dropFirst_4 h_a0 ?_
    refine aw_icmpge (pc := 7) X 30 dX4_dropFirst_7 (by decide) ?_ ?_
    · refine aw_aload_n (pc := 10) X 0 dX4_dropFirst_10 rfl ?_
      refine gf_X4_9 (pc := 11) X dX4_dropFirst_11 h_a0 (fun r4 h_r4 => ?_)
      refine aw_iload_n (pc := 14) X 2 dX4_dropFirst_14 rfl ?_
      refine aw_iload_n (pc := 15) X 1 dX4_dropFirst_15 rfl ?_
      refine aw_isub (pc := 16) X dX4_dropFirst_16 ?_
      refine aw_aload_n (pc := 17) X 0 dX4_dropFirst_17 rfl ?_
      refine gf_X4_9 (pc := 18) X dX4_dropFirst_18 h_a0 (fun r5 h_r5 => ?_)
      refine aw_iload_n (pc := 21) X 2 dX4_dropFirst_21 rfl ?_
      refine aw_iald (pc := 22) X dX4_dropFirst_22 h_r5 ?_
      refine aw_iastQ (pc := 23) X dX4_dropFirst_23 h_r4 (fun M6 g7 => ?_)
      have h_a0 := h_a0.mono g7
      refine aw_iincV (pc := 24) X (fun y => [(2, .int y), (0, .ref (b + a0)), (1, .int v1)]) 2 (v := (v2 + (1 : Int32))) dX4_dropFirst_24 rfl rfl (by decide) (fun _ => rfl) (fun i8 => ?_)
      refine aw_goto (pc := 27) X 2 dX4_dropFirst_27 (by decide) ?_
      refine aw_sub [1, 2, 0] rfl ?_
      exact ih a0 v1 i8 M6 h_a0
    · refine aw_sub [0, 1] rfl ?_
      exact t_X4_dropFirst_L30 X hr a0 v1 M h_a0
def f_X4_dropFirst (a0 : Nat) (v1 : Int32) (M : JM) : Option (Unit × JM) := sv v1 fun i1 => f_X4_dropFirst_L2 FU a0 v1 i1 M
set_option maxRecDepth 10000 in
set_option maxHeartbeats 4000000 in
theorem t_X4_dropFirst {l : Launch} {D : va_G} {cs : JC} {b : Nat} (a0 : Nat) (v1 : Int32) (M : JM) (h_a0 : oty M a0 14) : ∀ q, f_X4_dropFirst a0 v1 M = some q → CTy l yX4_dropFirst (.code yX4_dropFirst cX4_dropFirst 3 (Option.none) :: GB) rm_X4_dropFirst D cs b evV [.ref (b + a0), .int v1] M rm_X4_dropFirst.cells rm_X4_dropFirst.slots q := fun q hq => ct_of [(0, .ref (b + a0)), (1, .int v1)] rfl rfl (Nat.le_of_ble_eq_true rfl) hq (fun p e s m args below meth c X hr hin => by
  refine aw_callq (F' := sv v1 fun i1 => f_X4_dropFirst_L2 FU a0 v1 i1 M) rfl ?_
  refine aw_iload_n (pc := 0) X 1 dX4_dropFirst_0 rfl ?_
  refine aw_istoreV_n (pc := 1) X (fun y => [(2, .int y), (0, .ref (b + a0)), (1, .int v1)]) dX4_dropFirst_1 (by decide) (fun _ => rfl) (fun i1 => ?_)
  refine aw_sub [1, 2, 0] rfl ?_
  exact t_X4_dropFirst_L2 X hr FU a0 v1 i1 M h_a0)
/-! ReportBlocks.read -/
def rm_X7_read : Room := { frames := 6, cells := 0, slots := 0, locals := 141 }
theorem hd_X7_read : jHd yX7_read 0 := by unfold jHd; decide +kernel
theorem cl_X7_117 {ρ : Type} {l : Launch} {p : Program} {e : Env} {R : Room} {s : State} {m : MethodId} {args : Array Value} {below : List Frame} {meth : Method} {c : Code} {D : va_G} {cs : JC} {b nL : Nat} {H0 : Heap} {Qf : ρ × JM → State → Prop} {M : JM} {ks sl : Nat} {lv : List (Nat × Value)} {pc : Nat} {st : List Value} {cc : ByteArray} (X : jX p c cc nL s m args RX7 D cs b meth H0) {z0 : Nat} {K : JM → Option (ρ × JM)} (hrm : jRm rm_X0_clear 1 R) (hW : (st.map fun v => v.category).sum ≤ 8) {ks2 sl2 : Nat} (hk2 : ks + rm_X0_clear.cells = ks2) (hs2 : sl + rm_X0_clear.slots = sl2) (hroom : ks2 ≤ R.cells ∧ sl2 ≤ R.slots) (hdg : decode cc pc = .ok (.invokevirtual 117, 3)) (h0 : oty M z0 10) (kk : ∀ (M2 : JM), gn M ≤ gn M2 → AWO p l e R s m args below meth c D cs b nL H0 Qf (K M2) M2 ks2 sl2 lv (pc + 3) (st)) : AWO p l e R s m args below meth c D cs b nL H0 Qf (ob (f_X0_clear z0 M) (fun _ => K)) M ks sl lv pc (.ref (b + z0) :: st) := by
  subst hk2
  subst hs2
  exact aw_callV (ci := 0) X [] st rfl rfl wl_X7_117 wi_X0_clear wv_X0_clear wc_X0_clear wn_X0 (n := 0) hd_X0_clear rfl hrm hW hroom hdg h0 (t_X0_clear z0 M h0) (fun _ M2 g _ => kk M2 g)
theorem cl_X7_120 {ρ : Type} {l : Launch} {p : Program} {e : Env} {R : Room} {s : State} {m : MethodId} {args : Array Value} {below : List Frame} {meth : Method} {c : Code} {D : va_G} {cs : JC} {b nL : Nat} {H0 : Heap} {Qf : ρ × JM → State → Prop} {M : JM} {ks sl : Nat} {lv : List (Nat × Value)} {pc : Nat} {st : List Value} {cc : ByteArray} (X : jX p c cc nL s m args RX7 D cs b meth H0) {z0 : Nat} {z1 : Int32} {K : JM → Option (ρ × JM)} (hrm : jRm rm_X3_start 2 R) (hW : (st.map fun v => v.category).sum ≤ 8) {ks2 sl2 : Nat} (hk2 : ks + rm_X3_start.cells = ks2) (hs2 : sl + rm_X3_start.slots = sl2) (hroom : ks2 ≤ R.cells ∧ sl2 ≤ R.slots) (hdg : decode cc pc = .ok (.invokevirtual 120, 3)) (h0 : oty M z0 13) (kk : ∀ (M2 : JM), gn M ≤ gn M2 → AWO p l e R s m args below meth c D cs b nL H0 Qf (K M2) M2 ks2 sl2 lv (pc + 3) (st)) : AWO p l e R s m args below meth c D cs b nL H0 Qf (ob (f_X3_start z0 z1 M) (fun _ => K)) M ks sl lv pc (.int z1 :: .ref (b + z0) :: st) := by
  subst hk2
  subst hs2
  exact aw_callV (ci := 3) X [.int z1] st rfl rfl wl_X7_120 wi_X3_start wv_X3_start wc_X3_start wn_X3 (n := 1) hd_X3_start rfl hrm hW hroom hdg h0 (t_X3_start z0 z1 M h0) (fun _ M2 g _ => kk M2 g)
theorem cl_X7_123 {ρ : Type} {l : Launch} {p : Program} {e : Env} {R : Room} {s : State} {m : MethodId} {args : Array Value} {below : List Frame} {meth : Method} {c : Code} {D : va_G} {cs : JC} {b nL : Nat} {H0 : Heap} {Qf : ρ × JM → State → Prop} {M : JM} {ks sl : Nat} {lv : List (Nat × Value)} {pc : Nat} {st : List Value} {cc : ByteArray} (X : jX p c cc nL s m args RX7 D cs b meth H0) {z0 : Nat} {K : JM → Option (ρ × JM)} (hrm : jRm rm_X7_passBlock 5 R) (hW : (st.map fun v => v.category).sum ≤ 8) {ks2 sl2 : Nat} (hk2 : ks + rm_X7_passBlock.cells = ks2) (hs2 : sl + rm_X7_passBlock.slots = sl2) (hroom : ks2 ≤ R.cells ∧ sl2 ≤ R.slots) (hdg : decode cc pc = .ok (.invokevirtual 123, 3)) (h0 : oty M z0 17) (kk : ∀ (M2 : JM), gn M ≤ gn M2 → AWO p l e R s m args below meth c D cs b nL H0 Qf (K M2) M2 ks2 sl2 lv (pc + 3) (st)) : AWO p l e R s m args below meth c D cs b nL H0 Qf (ob (f_X7_passBlock z0 M) (fun _ => K)) M ks sl lv pc (.ref (b + z0) :: st) := by
  subst hk2
  subst hs2
  exact aw_callV (ci := 7) X [] st rfl rfl wl_X7_123 wi_X7_passBlock wv_X7_passBlock wc_X7_passBlock wn_X7 (n := 0) hd_X7_passBlock rfl hrm hW hroom hdg h0 (t_X7_passBlock z0 M h0) (fun _ M2 g _ => kk M2 g)
theorem gf_X7_126 {ρ : Type} {l : Launch} {p : Program} {e : Env} {R : Room} {s : State} {m : MethodId} {args : Array Value} {below : List Frame} {meth : Method} {c : Code} {D : va_G} {cs : JC} {b nL : Nat} {H0 : Heap} {Qf : ρ × JM → State → Prop} {M : JM} {ks sl : Nat} {lv : List (Nat × Value)} {pc : Nat} {st : List Value} {cc : ByteArray} {k : Nat} (X : jX p c cc nL s m args RX7 D cs b meth H0) {F : Option (ρ × JM)} (hdg : decode cc pc = .ok (.getfield 126, 3)) (ho : oty M k 13) (kk : AWO p l e R s m args below meth c D cs b nL H0 Qf F M ks sl lv (pc + 3) (.int (gi M k 4) :: st)) : AWO p l e R s m args below meth c D cs b nL H0 Qf F M ks sl lv pc (.ref (b + k) :: st) := aw_getI (ci := 3) X 4 rfl gy_X3 (by decide) rfl rfl wf_X7_126 hdg ho kk
theorem pf_X7_129 {ρ : Type} {l : Launch} {p : Program} {e : Env} {R : Room} {s : State} {m : MethodId} {args : Array Value} {below : List Frame} {meth : Method} {c : Code} {D : va_G} {cs : JC} {b nL : Nat} {H0 : Heap} {Qf : ρ × JM → State → Prop} {M : JM} {ks sl : Nat} {lv : List (Nat × Value)} {pc : Nat} {st : List Value} {cc : ByteArray} {k : Nat} {K : JM → Option (ρ × JM)} (X : jX p c cc nL s m args RX7 D cs b meth H0) {x : Int32} (hdg : decode cc pc = .ok (.putfield 129, 3)) (ho : oty M k 17) (kk : ∀ M2 : JM, gn M ≤ gn M2 → AWO p l e R s m args below meth c D cs b nL H0 Qf (K M2) M2 ks sl lv (pc + 3) st) : AWO p l e R s m args below meth c D cs b nL H0 Qf (sq (si M k 8 x) K) M ks sl lv pc (.int x :: .ref (b + k) :: st) := aw_putI (ci := 7) X 8 rfl gy_X7 tyX7 tyX7_ok nmX7 (by decide) (by decide) rfl rfl wf_X7_129 rfl (Or.inl rfl) hdg ho (kk _ (Nat.le_refl _))
theorem gf_X7_129 {ρ : Type} {l : Launch} {p : Program} {e : Env} {R : Room} {s : State} {m : MethodId} {args : Array Value} {below : List Frame} {meth : Method} {c : Code} {D : va_G} {cs : JC} {b nL : Nat} {H0 : Heap} {Qf : ρ × JM → State → Prop} {M : JM} {ks sl : Nat} {lv : List (Nat × Value)} {pc : Nat} {st : List Value} {cc : ByteArray} {k : Nat} (X : jX p c cc nL s m args RX7 D cs b meth H0) {F : Option (ρ × JM)} (hdg : decode cc pc = .ok (.getfield 129, 3)) (ho : oty M k 17) (kk : AWO p l e R s m args below meth c D cs b nL H0 Qf F M ks sl lv (pc + 3) (.int (gi M k 8) :: st)) : AWO p l e R s m args below meth c D cs b nL H0 Qf F M ks sl lv pc (.ref (b + k) :: st) := aw_getI (ci := 7) X 8 rfl gy_X7 (by decide) rfl rfl wf_X7_129 hdg ho kk
theorem gf_X7_138 {ρ : Type} {l : Launch} {p : Program} {e : Env} {R : Room} {s : State} {m : MethodId} {args : Array Value} {below : List Frame} {meth : Method} {c : Code} {D : va_G} {cs : JC} {b nL : Nat} {H0 : Heap} {Qf : ρ × JM → State → Prop} {M : JM} {ks sl : Nat} {lv : List (Nat × Value)} {pc : Nat} {st : List Value} {cc : ByteArray} {k : Nat} (X : jX p c cc nL s m args RX7 D cs b meth H0) {F : Option (ρ × JM)} (hdg : decode cc pc = .ok (.getfield 138, 3)) (ho : oty M k 13) (kk : AWO p l e R s m args below meth c D cs b nL H0 Qf F M ks sl lv (pc + 3) (.int (gi M k 3) :: st)) : AWO p l e R s m args below meth c D cs b nL H0 Qf F M ks sl lv pc (.ref (b + k) :: st) := aw_getI (ci := 3) X 3 rfl gy_X3 (by decide) rfl rfl wf_X7_138 hdg ho kk
theorem cl_X7_141 {ρ : Type} {l : Launch} {p : Program} {e : Env} {R : Room} {s : State} {m : MethodId} {args : Array Value} {below : List Frame} {meth : Method} {c : Code} {D : va_G} {cs : JC} {b nL : Nat} {H0 : Heap} {Qf : ρ × JM → State → Prop} {M : JM} {ks sl : Nat} {lv : List (Nat × Value)} {pc : Nat} {st : List Value} {cc : ByteArray} (X : jX p c cc nL s m args RX7 D cs b meth H0) {z0 : Nat} {z1 : Nat} {z2 : Int32} {K : JM → Option (ρ × JM)} (hrm : jRm rm_X0_keepBytes 3 R) (hW : (st.map fun v => v.category).sum ≤ 8) {ks2 sl2 : Nat} (hk2 : ks + rm_X0_keepBytes.cells = ks2) (hs2 : sl + rm_X0_keepBytes.slots = sl2) (hroom : ks2 ≤ R.cells ∧ sl2 ≤ R.slots) (hdg : decode cc pc = .ok (.invokevirtual 141, 3)) (h0 : oty M z0 10) (h1 : oty M z1 1) (kk : ∀ (M2 : JM), gn M ≤ gn M2 → AWO p l e R s m args below meth c D cs b nL H0 Qf (K M2) M2 ks2 sl2 lv (pc + 3) (st)) : AWO p l e R s m args below meth c D cs b nL H0 Qf (ob (f_X0_keepBytes z0 z1 z2 M) (fun _ => K)) M ks sl lv pc (.int z2 :: .ref (b + z1) :: .ref (b + z0) :: st) := by
  subst hk2
  subst hs2
  exact aw_callV (ci := 0) X [.ref (b + z1), .int z2] st rfl rfl wl_X7_141 wi_X0_keepBytes wv_X0_keepBytes wc_X0_keepBytes wn_X0 (n := 2) hd_X0_keepBytes rfl hrm hW hroom hdg h0 (t_X0_keepBytes z0 z1 z2 M h0 h1) (fun _ M2 g _ => kk M2 g)
theorem cl_X7_145 {ρ : Type} {l : Launch} {p : Program} {e : Env} {R : Room} {s : State} {m : MethodId} {args : Array Value} {below : List Frame} {meth : Method} {c : Code} {D : va_G} {cs : JC} {b nL : Nat} {H0 : Heap} {Qf : ρ × JM → State → Prop} {M : JM} {ks sl : Nat} {lv : List (Nat × Value)} {pc : Nat} {st : List Value} {cc : ByteArray} (X : jX p c cc nL s m args RX7 D cs b meth H0) {z0 : Nat} {z1 : Int32} {K : JM → Option (ρ × JM)} (hrm : jRm rm_X4_dropFirst 3 R) (hW : (st.map fun v => v.category).sum ≤ 8) {ks2 sl2 : Nat} (hk2 : ks + rm_X4_dropFirst.cells = ks2) (hs2 : sl + rm_X4_dropFirst.slots = sl2) (hroom : ks2 ≤ R.cells ∧ sl2 ≤ R.slots) (hdg : decode cc pc = .ok (.invokevirtual 145, 3)) (h0 : oty M z0 14) (kk : ∀ (M2 : JM), gn M ≤ gn M2 → AWO p l e R s m args below meth c D cs b nL H0 Qf (K M2) M2 ks2 sl2 lv (pc + 3) (st)) : AWO p l e R s m args below meth c D cs b nL H0 Qf (ob (f_X4_dropFirst z0 z1 M) (fun _ => K)) M ks sl lv pc (.int z1 :: .ref (b + z0) :: st) := by
  subst hk2
  subst hs2
  exact aw_callV (ci := 4) X [.int z1] st rfl rfl wl_X7_145 wi_X4_dropFirst wv_X4_dropFirst wc_X4_dropFirst wn_X4 (n := 1) hd_X4_dropFirst rfl hrm hW hroom hdg h0 (t_X4_dropFirst z0 z1 M h0) (fun _ M2 g _ => kk M2 g)
theorem gf_X7_148 {ρ : Type} {l : Launch} {p : Program} {e : Env} {R : Room} {s : State} {m : MethodId} {args : Array Value} {below : List Frame} {meth : Method} {c : Code} {D : va_G} {cs : JC} {b nL : Nat} {H0 : Heap} {Qf : ρ × JM → State → Prop} {M : JM} {ks sl : Nat} {lv : List (Nat × Value)} {pc : Nat} {st : List Value} {cc : ByteArray} {k : Nat} (X : jX p c cc nL s m args RX7 D cs b meth H0) {F : Option (ρ × JM)} (hdg : decode cc pc = .ok (.getfield 148, 3)) (ho : oty M k 17) (kk : AWO p l e R s m args below meth c D cs b nL H0 Qf F M ks sl lv (pc + 3) (.int (gi M k 9) :: st)) : AWO p l e R s m args below meth c D cs b nL H0 Qf F M ks sl lv pc (.ref (b + k) :: st) := aw_getI (ci := 7) X 9 rfl gy_X7 (by decide) rfl rfl wf_X7_148 hdg ho kk
theorem pf_X7_148 {ρ : Type} {l : Launch} {p : Program} {e : Env} {R : Room} {s : State} {m : MethodId} {args : Array Value} {below : List Frame} {meth : Method} {c : Code} {D : va_G} {cs : JC} {b nL : Nat} {H0 : Heap} {Qf : ρ × JM → State → Prop} {M : JM} {ks sl : Nat} {lv : List (Nat × Value)} {pc : Nat} {st : List Value} {cc : ByteArray} {k : Nat} {K : JM → Option (ρ × JM)} (X : jX p c cc nL s m args RX7 D cs b meth H0) {x : Int32} (hdg : decode cc pc = .ok (.putfield 148, 3)) (ho : oty M k 17) (kk : ∀ M2 : JM, gn M ≤ gn M2 → AWO p l e R s m args below meth c D cs b nL H0 Qf (K M2) M2 ks sl lv (pc + 3) st) : AWO p l e R s m args below meth c D cs b nL H0 Qf (sq (si M k 9 x) K) M ks sl lv pc (.int x :: .ref (b + k) :: st) := aw_putI (ci := 7) X 9 rfl gy_X7 tyX7 tyX7_ok nmX7 (by decide) (by decide) rfl rfl wf_X7_148 rfl (Or.inl rfl) hdg ho (kk _ (Nat.le_refl _))
theorem gf_X7_151 {ρ : Type} {l : Launch} {p : Program} {e : Env} {R : Room} {s : State} {m : MethodId} {args : Array Value} {below : List Frame} {meth : Method} {c : Code} {D : va_G} {cs : JC} {b nL : Nat} {H0 : Heap} {Qf : ρ × JM → State → Prop} {M : JM} {ks sl : Nat} {lv : List (Nat × Value)} {pc : Nat} {st : List Value} {cc : ByteArray} {k : Nat} (X : jX p c cc nL s m args RX7 D cs b meth H0) {F : Option (ρ × JM)} (hdg : decode cc pc = .ok (.getfield 151, 3)) (ho : oty M k 10) (kk : AWO p l e R s m args below meth c D cs b nL H0 Qf F M ks sl lv (pc + 3) (.int (gi M k 1) :: st)) : AWO p l e R s m args below meth c D cs b nL H0 Qf F M ks sl lv pc (.ref (b + k) :: st) := aw_getI (ci := 0) X 1 rfl gy_X0 (by decide) rfl rfl wf_X7_151 hdg ho kk
theorem gf_X7_132 {ρ : Type} {l : Launch} {p : Program} {e : Env} {R : Room} {s : State} {m : MethodId} {args : Array Value} {below : List Frame} {meth : Method} {c : Code} {D : va_G} {cs : JC} {b nL : Nat} {H0 : Heap} {Qf : ρ × JM → State → Prop} {M : JM} {ks sl : Nat} {lv : List (Nat × Value)} {pc : Nat} {st : List Value} {cc : ByteArray} {k : Nat} (X : jX p c cc nL s m args RX7 D cs b meth H0) {F : Option (ρ × JM)} (hdg : decode cc pc = .ok (.getfield 132, 3)) (ho : oty M k 13) (kk : AWO p l e R s m args below meth c D cs b nL H0 Qf F M ks sl lv (pc + 3) (.int (gi M k 5) :: st)) : AWO p l e R s m args below meth c D cs b nL H0 Qf F M ks sl lv pc (.ref (b + k) :: st) := aw_getI (ci := 3) X 5 rfl gy_X3 (by decide) rfl rfl wf_X7_132 hdg ho kk
def f_X7_read (a0 : Nat) (M : JM) : Option (Int32 × JM) := orf (gr M a0 2) fun r1 => if (gi M r1 1) = 0 then (some ((-2 : Int32), M)) else (orf (gr M a0 5) fun r2 => ob (f_X0_clear r2 M) fun _ M3 => orf (gr M3 a0 3) fun r5 => orf (gr M3 a0 2) fun r6 => ob (f_X3_start r5 (gi M3 r6 1) M3) fun _ M7 => ob (f_X7_passBlock a0 M7) fun _ M9 => orf (gr M9 a0 3) fun r11 => sq (si M9 a0 8 (gi M9 r11 4)) fun M12 => if (gi M12 a0 8) = 0 then (orf (gr M12 a0 5) fun r14 => orf (gr M12 a0 2) fun r15 => orf (gr M12 r15 0) fun r16 => orf (gr M12 a0 3) fun r17 => ob (f_X0_keepBytes r14 r16 (gi M12 r17 3) M12) fun _ M18 => orf (gr M18 a0 2) fun r20 => orf (gr M18 a0 3) fun r21 => ob (f_X4_dropFirst r20 (gi M18 r21 3) M18) fun _ M22 => orf (gr M22 a0 4) fun r24 => orf (gr M22 a0 5) fun r25 => sq (sr M22 a0 4 (some r25)) fun M26 => sq (sr M26 a0 5 (some r24)) fun M28 => sq (si M28 a0 9 ((gi M28 a0 9) + (1 : Int32))) fun M30 => orf (gr M30 a0 4) fun r32 => some ((gi M30 r32 1), M30)) else (orf (gr M12 a0 3) fun r33 => some (((-100 : Int32) - (gi M12 r33 5)), M12)))
set_option maxRecDepth 10000 in
set_option maxHeartbeats 4000000 in
theorem t_X7_read {l : Launch} {D : va_G} {cs : JC} {b : Nat} (a0 : Nat) (M : JM) (h_a0 : oty M a0 17) : ∀ q, f_X7_read a0 M = some q → CTy l yX7_read (.code yX7_read cX7_read 2 (Option.some Jvm.ClassFile.FieldType.int) :: GB) rm_X7_read D cs b evI [.ref (b + a0)] M rm_X7_read.cells rm_X7_read.slots q := fun q hq => ct_of [(0, .ref (b + a0))] rfl rfl (Nat.le_of_ble_eq_true rfl) hq (fun p e s m args below meth c X hr hin => by
  refine aw_callq (F' := orf (gr M a0 2) fun r1 => if (gi M r1 1) = 0 then (some ((-2 : Int32), M)) else (orf (gr M a0 5) fun r2 => ob (f_X0_clear r2 M) fun _ M3 => orf (gr M3 a0 3) fun r5 => orf (gr M3 a0 2) fun r6 => ob (f_X3_start r5 (gi M3 r6 1) M3) fun _ M7 => ob (f_X7_passBlock a0 M7) fun _ M9 => orf (gr M9 a0 3) fun r11 => sq (si M9 a0 8 (gi M9 r11 4)) fun M12 => if (gi M12 a0 8) = 0 then (orf (gr M12 a0 5) fun r14 => orf (gr M12 a0 2) fun r15 => orf (gr M12 r15 0) fun r16 => orf (gr M12 a0 3) fun r17 => ob (f_X0_keepBytes r14 r16 (gi M12 r17 3) M12) fun _ M18 => orf (gr M18 a0 2) fun r20 => orf (gr M18 a0 3) fun r21 => ob (f_X4_dropFirst r20 (gi M18 r21 3) M18) fun _ M22 => orf (gr M22 a0 4) fun r24 => orf (gr M22 a0 5) fun r25 => sq (sr M22 a0 4 (some r25)) fun M26 => sq (sr M26 a0 5 (some r24)) fun M28 => sq (si M28 a0 9 ((gi M28 a0 9) + (1 : Int32))) fun M30 => orf (gr M30 a0 4) fun r32 => some ((gi M30 r32 1), M30)) else (orf (gr M12 a0 3) fun r33 => some (((-100 : Int32) - (gi M12 r33 5)), M12)))) rfl ?_
  refine aw_aload_n (pc := 0) X 0 dX7_read_0 rfl ?_
  refine gf_X7_18 (pc := 1) X dX7_read_1 h_a0 (fun r1 h_r1 => ?_)
  refine gf_X7_114 (pc := 4) X dX7_read_4 h_r1 ?_
  refine aw_ifne (pc := 7) X 13 dX7_read_7 (by decide) ?_ ?_
  · refine aw_bipush (pc := 10) X (-2 : Int32) dX7_read_10 (by decide) ?_
    exact aw_iret (pc := 12) X hr dX7_read_12 (Nat.le_of_ble_eq_true rfl) (Nat.le_of_ble_eq_true rfl)
  · refine aw_aload_n (pc := 13) X 0 dX7_read_13 rfl ?_
    refine gf_X7_38 (pc := 14) X dX7_read_14 h_a0 (fun r2 h_r2 => ?_)
    refine cl_X7_117 (pc := 17) X ⟨Nat.le_of_ble_eq_true rfl, Nat.le_of_ble_eq_true rfl⟩ (Nat.le_of_ble_eq_true rfl) (ks2 := 0) (sl2 := 0) rfl rfl ⟨(Nat.le_of_ble_eq_true rfl), (Nat.le_of_ble_eq_true rfl)⟩ dX7_read_17 h_r2 (fun M3 g4 => ?_)
    have h_a0 := h_a0.mono g4
    refine aw_aload_n (pc := 20) X 0 dX7_read_20 rfl ?_
    refine gf_X7_27 (pc := 21) X dX7_read_21 h_a0 (fun r5 h_r5 => ?_)
    refine aw_aload_n (pc := 24) X 0 dX7_read_24 rfl ?_
    refine gf_X7_18 (pc := 25) X dX7_read_25 h_a0 (fun r6 h_r6 => ?_)
    refine gf_X7_114 (pc := 28) X dX7_read_28 h_r6 ?_
    refine cl_X7_120 (pc := 31) X ⟨Nat.le_of_ble_eq_true rfl, Nat.le_of_ble_eq_true rfl⟩ (Nat.le_of_ble_eq_true rfl) (ks2 := 0) (sl2 := 0) rfl rfl ⟨(Nat.le_of_ble_eq_true rfl), (Nat.le_of_ble_eq_true rfl)⟩ dX7_read_31 h_r5 (fun M7 g8 => ?_)
    have h_a0 := h_a0.mono g8
    refine aw_aload_n (pc := 34) X 0 dX7_read_34 rfl ?_
    refine cl_X7_123 (pc := 35) X ⟨Nat.le_of_ble_eq_true rfl, Nat.le_of_ble_eq_true rfl⟩ (Nat.le_of_ble_eq_true rfl) (ks2 := 0) (sl2 := 0) rfl rfl ⟨(Nat.le_of_ble_eq_true rfl), (Nat.le_of_ble_eq_true rfl)⟩ dX7_read_35 h_a0 (fun M9 g10 => ?_)
    have h_a0 := h_a0.mono g10
    refine aw_aload_n (pc := 38) X 0 dX7_read_38 rfl ?_
    refine aw_aload_n (pc := 39) X 0 dX7_read_39 rfl ?_
    refine gf_X7_27 (pc := 40) X dX7_read_40 h_a0 (fun r11 h_r11 => ?_)
    refine gf_X7_126 (pc := 43) X dX7_read_43 h_r11 ?_
    refine pf_X7_129 (pc := 46) X dX7_read_46 h_a0 (fun M12 g13 => ?_)
    have h_a0 := h_a0.mono g13
    refine aw_aload_n (pc := 49) X 0 dX7_read_49 rfl ?_
    refine gf_X7_129 (pc := 50) X dX7_read_50 h_a0 ?_
    refine aw_ifeq (pc := 53) X 67 dX7_read_53 (by decide) ?_ ?_
    · refine aw_aload_n (pc := 67) X 0 dX7_read_67 rfl ?_
      refine gf_X7_38 (pc := 68) X dX7_read_68 h_a0 (fun r14 h_r14 => ?_)
      refine aw_aload_n (pc := 71) X 0 dX7_read_71 rfl ?_
      refine gf_X7_18 (pc := 72) X dX7_read_72 h_a0 (fun r15 h_r15 => ?_)
      refine gf_X7_135 (pc := 75) X dX7_read_75 h_r15 (fun r16 h_r16 => ?_)
      refine aw_aload_n (pc := 78) X 0 dX7_read_78 rfl ?_
      refine gf_X7_27 (pc := 79) X dX7_read_79 h_a0 (fun r17 h_r17 => ?_)
      refine gf_X7_138 (pc := 82) X dX7_read_82 h_r17 ?_
      refine cl_X7_141 (pc := 85) X ⟨Nat.le_of_ble_eq_true rfl, Nat.le_of_ble_eq_true rfl⟩ (Nat.le_of_ble_eq_true rfl) (ks2 := 0) (sl2 := 0) rfl rfl ⟨(Nat.le_of_ble_eq_true rfl), (Nat.le_of_ble_eq_true rfl)⟩ dX7_read_85 h_r14 h_r16 (fun M18 g19 => ?_)
      have h_a0 := h_a0.mono g19
      refine aw_aload_n (pc := 88) X 0 dX7_read_88 rfl ?_
      refine gf_X7_18 (pc := 89) X dX7_read_89 h_a0 (fun r20 h_r20 => ?_)
      refine aw_aload_n (pc := 92) X 0 dX7_read_92 rfl ?_
      refine gf_X7_27 (pc := 93) X dX7_read_93 h_a0 (fun r21 h_r21 => ?_)
      refine gf_X7_138 (pc := 96) X dX7_read_96 h_r21 ?_
      refine cl_X7_145 (pc := 99) X ⟨Nat.le_of_ble_eq_true rfl, Nat.le_of_ble_eq_true rfl⟩ (Nat.le_of_ble_eq_true rfl) (ks2 := 0) (sl2 := 0) rfl rfl ⟨(Nat.le_of_ble_eq_true rfl), (Nat.le_of_ble_eq_true rfl)⟩ dX7_read_99 h_r20 (fun M22 g23 => ?_)
      have h_a0 := h_a0.mono g23
      refine aw_aload_n (pc := 102) X 0 dX7_read_102 rfl ?_
      refine gf_X7_34 (pc := 103) X dX7_read_103 h_a0 (fun r24 h_r24 => ?_)
      refine aw_astore_n (pc := 106) X [(1, .ref (b + r24)), (0, .ref (b + a0))] dX7_read_106 (by decide) rfl ?_
      refine aw_aload_n (pc := 107) X 1 dX7_read_107 rfl ?_
      refine aw_aload_n (pc := 108) X 1 dX7_read_108 rfl ?_
      refine gf_X7_38 (pc := 109) X dX7_read_109 h_a0 (fun r25 h_r25 => ?_)
      refine pf_X7_34 (pc := 112) X dX7_read_112 h_a0 h_r25 (fun M26 g27 => ?_)
      have h_a0 := h_a0.mono g27
      have h_r24 := h_r24.mono g27
      refine aw_aload_n (pc := 115) X 1 dX7_read_115 rfl ?_
      refine aw_aload_n (pc := 116) X 0 dX7_read_116 rfl ?_
      refine pf_X7_38 (pc := 117) X dX7_read_117 h_a0 h_r24 (fun M28 g29 => ?_)
      have h_a0 := h_a0.mono g29
      have h_r24 := h_r24.mono g29
      refine aw_aload_n (pc := 120) X 1 dX7_read_120 rfl ?_
      refine aw_dup_a (pc := 121) X dX7_read_121 ?_
      refine gf_X7_148 (pc := 122) X dX7_read_122 h_a0 ?_
      refine aw_iconst (pc := 125) X (1 : Int32) dX7_read_125 (by decide) ?_
      refine aw_iadd (pc := 126) X dX7_read_126 ?_
      refine pf_X7_148 (pc := 127) X dX7_read_127 h_a0 (fun M30 g31 => ?_)
      have h_a0 := h_a0.mono g31
      have h_r24 := h_r24.mono g31
      refine aw_aload_n (pc := 130) X 1 dX7_read_130 rfl ?_
      refine gf_X7_34 (pc := 131) X dX7_read_131 h_a0 (fun r32 h_r32 => ?_)
      refine gf_X7_151 (pc := 134) X dX7_read_134 h_r32 ?_
      exact aw_iret (pc := 137) X hr dX7_read_137 (Nat.le_of_ble_eq_true rfl) (Nat.le_of_ble_eq_true rfl)
    · refine aw_bipush (pc := 56) X (-100 : Int32) dX7_read_56 (by decide) ?_
      refine aw_aload_n (pc := 58) X 0 dX7_read_58 rfl ?_
      refine gf_X7_27 (pc := 59) X dX7_read_59 h_a0 (fun r33 h_r33 => ?_)
      refine gf_X7_132 (pc := 62) X dX7_read_62 h_r33 ?_
      refine aw_isub (pc := 65) X dX7_read_65 ?_
      exact aw_iret (pc := 66) X hr dX7_read_66 (Nat.le_of_ble_eq_true rfl) (Nat.le_of_ble_eq_true rfl))
/-! ReportBlocksModel.fails -/
def rm_X8_fails : Room := { frames := 0, cells := 0, slots := 0, locals := 0 }
theorem hd_X8_fails : jHd yX8_fails 2 := by unfold jHd; decide +kernel
theorem gf_X8_136 {ρ : Type} {l : Launch} {p : Program} {e : Env} {R : Room} {s : State} {m : MethodId} {args : Array Value} {below : List Frame} {meth : Method} {c : Code} {D : va_G} {cs : JC} {b nL : Nat} {H0 : Heap} {Qf : ρ × JM → State → Prop} {M : JM} {ks sl : Nat} {lv : List (Nat × Value)} {pc : Nat} {st : List Value} {cc : ByteArray} {k : Nat} (X : jX p c cc nL s m args RX8 D cs b meth H0) {F : Option (ρ × JM)} (hdg : decode cc pc = .ok (.getfield 136, 3)) (ho : oty M k 18) (kk : AWO p l e R s m args below meth c D cs b nL H0 Qf F M ks sl lv (pc + 3) (.int (gi M k 11) :: st)) : AWO p l e R s m args below meth c D cs b nL H0 Qf F M ks sl lv pc (.ref (b + k) :: st) := aw_getI (ci := 8) X 11 rfl gy_X8 (by decide) rfl rfl wf_X8_136 hdg ho kk
theorem pf_X8_136 {ρ : Type} {l : Launch} {p : Program} {e : Env} {R : Room} {s : State} {m : MethodId} {args : Array Value} {below : List Frame} {meth : Method} {c : Code} {D : va_G} {cs : JC} {b nL : Nat} {H0 : Heap} {Qf : ρ × JM → State → Prop} {M : JM} {ks sl : Nat} {lv : List (Nat × Value)} {pc : Nat} {st : List Value} {cc : ByteArray} {k : Nat} {K : JM → Option (ρ × JM)} (X : jX p c cc nL s m args RX8 D cs b meth H0) {x : Int32} (hdg : decode cc pc = .ok (.putfield 136, 3)) (ho : oty M k 18) (kk : ∀ M2 : JM, gn M ≤ gn M2 → AWO p l e R s m args below meth c D cs b nL H0 Qf (K M2) M2 ks sl lv (pc + 3) st) : AWO p l e R s m args below meth c D cs b nL H0 Qf (sq (si M k 11 x) K) M ks sl lv pc (.int x :: .ref (b + k) :: st) := aw_putI (ci := 8) X 11 rfl gy_X8 tyX8 tyX8_ok nmX8 (by decide) (by decide) rfl rfl wf_X8_136 rfl (Or.inl rfl) hdg ho (kk _ (Nat.le_refl _))
theorem pf_X8_139 {ρ : Type} {l : Launch} {p : Program} {e : Env} {R : Room} {s : State} {m : MethodId} {args : Array Value} {below : List Frame} {meth : Method} {c : Code} {D : va_G} {cs : JC} {b nL : Nat} {H0 : Heap} {Qf : ρ × JM → State → Prop} {M : JM} {ks sl : Nat} {lv : List (Nat × Value)} {pc : Nat} {st : List Value} {cc : ByteArray} {k : Nat} {K : JM → Option (ρ × JM)} (X : jX p c cc nL s m args RX8 D cs b meth H0) {x : Int32} (hdg : decode cc pc = .ok (.putfield 139, 3)) (ho : oty M k 18) (kk : ∀ M2 : JM, gn M ≤ gn M2 → AWO p l e R s m args below meth c D cs b nL H0 Qf (K M2) M2 ks sl lv (pc + 3) st) : AWO p l e R s m args below meth c D cs b nL H0 Qf (sq (si M k 12 x) K) M ks sl lv pc (.int x :: .ref (b + k) :: st) := aw_putI (ci := 8) X 12 rfl gy_X8 tyX8 tyX8_ok nmX8 (by decide) (by decide) rfl rfl wf_X8_139 rfl (Or.inl rfl) hdg ho (kk _ (Nat.le_refl _))
def f_X8_fails (a0 : Nat) (v1 : Int32) (v2 : Int32) (M : JM) : Option (Unit × JM) := if (gi M a0 11) = 0 then (sq (si M a0 11 v1) fun M1 => sq (si M1 a0 12 v2) fun M3 => some ((), M3)) else (some ((), M))
set_option maxRecDepth 10000 in
set_option maxHeartbeats 4000000 in
theorem t_X8_fails {l : Launch} {D : va_G} {cs : JC} {b : Nat} (a0 : Nat) (v1 : Int32) (v2 : Int32) (M : JM) (h_a0 : oty M a0 18) : ∀ q, f_X8_fails a0 v1 v2 M = some q → CTy l yX8_fails (.code yX8_fails cX8_fails 3 (Option.none) :: GB) rm_X8_fails D cs b evV [.ref (b + a0), .int v1, .int v2] M rm_X8_fails.cells rm_X8_fails.slots q := fun q hq => ct_of [(0, .ref (b + a0)), (1, .int v1), (2, .int v2)] rfl rfl (Nat.le_of_ble_eq_true rfl) hq (fun p e s m args below meth c X hr hin => by
  refine aw_callq (F' := if (gi M a0 11) = 0 then (sq (si M a0 11 v1) fun M1 => sq (si M1 a0 12 v2) fun M3 => some ((), M3)) else (some ((), M))) rfl ?_
  refine aw_aload_n (pc := 0) X 0 dX8_fails_0 rfl ?_
  refine gf_X8_136 (pc := 1) X dX8_fails_1 h_a0 ?_
  refine aw_ifne (pc := 4) X 17 dX8_fails_4 (by decide) ?_ ?_
  · refine aw_aload_n (pc := 7) X 0 dX8_fails_7 rfl ?_
    refine aw_iload_n (pc := 8) X 1 dX8_fails_8 rfl ?_
    refine pf_X8_136 (pc := 9) X dX8_fails_9 h_a0 (fun M1 g2 => ?_)
    have h_a0 := h_a0.mono g2
    refine aw_aload_n (pc := 12) X 0 dX8_fails_12 rfl ?_
    refine aw_iload_n (pc := 13) X 2 dX8_fails_13 rfl ?_
    refine pf_X8_139 (pc := 14) X dX8_fails_14 h_a0 (fun M3 g4 => ?_)
    have h_a0 := h_a0.mono g4
    exact aw_vret (pc := 17) X hr dX8_fails_17 (Nat.le_of_ble_eq_true rfl) (Nat.le_of_ble_eq_true rfl)
  · exact aw_vret (pc := 17) X hr dX8_fails_17 (Nat.le_of_ble_eq_true rfl) (Nat.le_of_ble_eq_true rfl))
/-! ReportBlocksModel.needs -/
def rm_X8_needs : Room := { frames := 1, cells := 0, slots := 0, locals := 22 }
theorem hd_X8_needs : jHd yX8_needs 1 := by unfold jHd; decide +kernel
theorem gf_X8_142 {ρ : Type} {l : Launch} {p : Program} {e : Env} {R : Room} {s : State} {m : MethodId} {args : Array Value} {below : List Frame} {meth : Method} {c : Code} {D : va_G} {cs : JC} {b nL : Nat} {H0 : Heap} {Qf : ρ × JM → State → Prop} {M : JM} {ks sl : Nat} {lv : List (Nat × Value)} {pc : Nat} {st : List Value} {cc : ByteArray} {k : Nat} (X : jX p c cc nL s m args RX8 D cs b meth H0) {F : Option (ρ × JM)} (hdg : decode cc pc = .ok (.getfield 142, 3)) (ho : oty M k 18) (kk : AWO p l e R s m args below meth c D cs b nL H0 Qf F M ks sl lv (pc + 3) (.int (gi M k 9) :: st)) : AWO p l e R s m args below meth c D cs b nL H0 Qf F M ks sl lv pc (.ref (b + k) :: st) := aw_getI (ci := 8) X 9 rfl gy_X8 (by decide) rfl rfl wf_X8_142 hdg ho kk
theorem pf_X8_142 {ρ : Type} {l : Launch} {p : Program} {e : Env} {R : Room} {s : State} {m : MethodId} {args : Array Value} {below : List Frame} {meth : Method} {c : Code} {D : va_G} {cs : JC} {b nL : Nat} {H0 : Heap} {Qf : ρ × JM → State → Prop} {M : JM} {ks sl : Nat} {lv : List (Nat × Value)} {pc : Nat} {st : List Value} {cc : ByteArray} {k : Nat} {K : JM → Option (ρ × JM)} (X : jX p c cc nL s m args RX8 D cs b meth H0) {x : Int32} (hdg : decode cc pc = .ok (.putfield 142, 3)) (ho : oty M k 18) (kk : ∀ M2 : JM, gn M ≤ gn M2 → AWO p l e R s m args below meth c D cs b nL H0 Qf (K M2) M2 ks sl lv (pc + 3) st) : AWO p l e R s m args below meth c D cs b nL H0 Qf (sq (si M k 9 x) K) M ks sl lv pc (.int x :: .ref (b + k) :: st) := aw_putI (ci := 8) X 9 rfl gy_X8 tyX8 tyX8_ok nmX8 (by decide) (by decide) rfl rfl wf_X8_142 rfl (Or.inl rfl) hdg ho (kk _ (Nat.le_refl _))
def f_X8_needs_L46 : Int32 → Int32 → Nat → JM → Option (Unit × JM) := fun u0 u1 w2 M => sq (si M w2 9 (u1 + u0)) fun M1 => some ((), M1)
set_option maxRecDepth 10000 in
set_option maxHeartbeats 4000000 in
theorem t_X8_needs_L46 {p : Program} {l : Launch} {e : Env} {s : State} {m : MethodId} {args : Array Value} {below : List Frame} {meth : Method} {c : Code} {D : va_G} {cs : JC} {b : Nat} (X : jX p c cX8_needs 2 s m args RX8 D cs b meth s.heap) (hr : meth.sig.returnType = Option.none) : ∀ (u0 : Int32) (u1 : Int32) (w2 : Nat) (M : JM), oty M w2 18 → AWO p l e rm_X8_needs s m args below meth c D cs b 2 s.heap (jE below D cs b evV args s rm_X8_needs.cells rm_X8_needs.slots) (f_X8_needs_L46 u0 u1 w2 M) M 0 0 [] 46 [.int u0, .int u1, .ref (b + w2)] := by
  intro u0 u1 w2 M h_w2
  refine aw_callq (F' := sq (si M w2 9 (u1 + u0)) fun M1 => some ((), M1)) rfl ?_
  refine aw_iadd (pc := 46) X dX8_needs_46 ?_
  refine pf_X8_142 (pc := 47) X dX8_needs_47 h_w2 (fun M1 g2 => ?_)
  exact aw_vret (pc := 50) X hr dX8_needs_50 (Nat.le_of_ble_eq_true rfl) (Nat.le_of_ble_eq_true rfl)
def f_X8_needs_L29 : Nat → Int32 → JM → Option (Unit × JM) := fun a0 v1 M => if (gi M a0 11) = 0 then (f_X8_needs_L46 v1 (gi M a0 9) a0 M) else (f_X8_needs_L46 (0 : Int32) (gi M a0 9) a0 M)
set_option maxRecDepth 10000 in
set_option maxHeartbeats 4000000 in
theorem t_X8_needs_L29 {p : Program} {l : Launch} {e : Env} {s : State} {m : MethodId} {args : Array Value} {below : List Frame} {meth : Method} {c : Code} {D : va_G} {cs : JC} {b : Nat} (X : jX p c cX8_needs 2 s m args RX8 D cs b meth s.heap) (hr : meth.sig.returnType = Option.none) : ∀ (a0 : Nat) (v1 : Int32) (M : JM), oty M a0 18 → AWO p l e rm_X8_needs s m args below meth c D cs b 2 s.heap (jE below D cs b evV args s rm_X8_needs.cells rm_X8_needs.slots) (f_X8_needs_L29 a0 v1 M) M 0 0 [(0, .ref (b + a0)), (1, .int v1)] 29 [] := by
  intro a0 v1 M h_a0
  refine aw_callq (F' := if (gi M a0 11) = 0 then (f_X8_needs_L46 v1 (gi M a0 9) a0 M) else (f_X8_needs_L46 (0 : Int32) (gi M a0 9) a0 M)) rfl ?_
  refine aw_aload_n (pc := 29) X 0 dX8_needs_29 rfl ?_
  refine aw_dup_a (pc := 30) X dX8_needs_30 ?_
  refine gf_X8_142 (pc := 31) X dX8_needs_31 h_a0 ?_
  refine aw_aload_n (pc := 34) X 0 dX8_needs_34 rfl ?_
  refine gf_X8_136 (pc := 35) X dX8_needs_35 h_a0 ?_
  refine aw_ifne (pc := 38) X 45 dX8_needs_38 (by decide) ?_ ?_
  · refine aw_iload_n (pc := 41) X 1 dX8_needs_41 rfl ?_
    refine aw_goto (pc := 42) X 46 dX8_needs_42 (by decide) ?_
    refine aw_sub [] rfl ?_
    exact t_X8_needs_L46 X hr v1 (gi M a0 9) a0 M h_a0
  · refine aw_iconst (pc := 45) X (0 : Int32) dX8_needs_45 (by decide) ?_
    refine aw_sub [] rfl ?_
    exact t_X8_needs_L46 X hr (0 : Int32) (gi M a0 9) a0 M h_a0
theorem gf_X8_145 {ρ : Type} {l : Launch} {p : Program} {e : Env} {R : Room} {s : State} {m : MethodId} {args : Array Value} {below : List Frame} {meth : Method} {c : Code} {D : va_G} {cs : JC} {b nL : Nat} {H0 : Heap} {Qf : ρ × JM → State → Prop} {M : JM} {ks sl : Nat} {lv : List (Nat × Value)} {pc : Nat} {st : List Value} {cc : ByteArray} {k : Nat} (X : jX p c cc nL s m args RX8 D cs b meth H0) {F : Option (ρ × JM)} (hdg : decode cc pc = .ok (.getfield 145, 3)) (ho : oty M k 18) (kk : AWO p l e R s m args below meth c D cs b nL H0 Qf F M ks sl lv (pc + 3) (.int (gi M k 10) :: st)) : AWO p l e R s m args below meth c D cs b nL H0 Qf F M ks sl lv pc (.ref (b + k) :: st) := aw_getI (ci := 8) X 10 rfl gy_X8 (by decide) rfl rfl wf_X8_145 hdg ho kk
theorem cl_X8_148 {ρ : Type} {l : Launch} {p : Program} {e : Env} {R : Room} {s : State} {m : MethodId} {args : Array Value} {below : List Frame} {meth : Method} {c : Code} {D : va_G} {cs : JC} {b nL : Nat} {H0 : Heap} {Qf : ρ × JM → State → Prop} {M : JM} {ks sl : Nat} {lv : List (Nat × Value)} {pc : Nat} {st : List Value} {cc : ByteArray} (X : jX p c cc nL s m args RX8 D cs b meth H0) {z0 : Nat} {z1 : Int32} {z2 : Int32} {K : JM → Option (ρ × JM)} (hrm : jRm rm_X8_fails 3 R) (hW : (st.map fun v => v.category).sum ≤ 8) {ks2 sl2 : Nat} (hk2 : ks + rm_X8_fails.cells = ks2) (hs2 : sl + rm_X8_fails.slots = sl2) (hroom : ks2 ≤ R.cells ∧ sl2 ≤ R.slots) (hdg : decode cc pc = .ok (.invokevirtual 148, 3)) (h0 : oty M z0 18) (kk : ∀ (M2 : JM), gn M ≤ gn M2 → AWO p l e R s m args below meth c D cs b nL H0 Qf (K M2) M2 ks2 sl2 lv (pc + 3) (st)) : AWO p l e R s m args below meth c D cs b nL H0 Qf (ob (f_X8_fails z0 z1 z2 M) (fun _ => K)) M ks sl lv pc (.int z2 :: .int z1 :: .ref (b + z0) :: st) := by
  subst hk2
  subst hs2
  exact aw_callV (ci := 8) X [.int z1, .int z2] st rfl rfl wl_X8_148 wi_X8_fails wv_X8_fails wc_X8_fails wn_X8 (n := 2) hd_X8_fails rfl hrm hW hroom hdg h0 (t_X8_fails z0 z1 z2 M h0) (fun _ M2 g _ => kk M2 g)
def f_X8_needs (a0 : Nat) (v1 : Int32) (M : JM) : Option (Unit × JM) := if (gi M a0 11) = 0 then (if (gi M a0 10) < ((gi M a0 9) + v1) then (ob (f_X8_fails a0 (3 : Int32) (gi M a0 10) M) fun _ M3 => f_X8_needs_L29 a0 v1 M3) else (f_X8_needs_L29 a0 v1 M)) else (f_X8_needs_L29 a0 v1 M)
set_option maxRecDepth 10000 in
set_option maxHeartbeats 4000000 in
theorem t_X8_needs {l : Launch} {D : va_G} {cs : JC} {b : Nat} (a0 : Nat) (v1 : Int32) (M : JM) (h_a0 : oty M a0 18) : ∀ q, f_X8_needs a0 v1 M = some q → CTy l yX8_needs (.code yX8_needs cX8_needs 2 (Option.none) :: GB) rm_X8_needs D cs b evV [.ref (b + a0), .int v1] M rm_X8_needs.cells rm_X8_needs.slots q := fun q hq => ct_of [(0, .ref (b + a0)), (1, .int v1)] rfl rfl (Nat.le_of_ble_eq_true rfl) hq (fun p e s m args below meth c X hr hin => by
  refine aw_callq (F' := if (gi M a0 11) = 0 then (if (gi M a0 10) < ((gi M a0 9) + v1) then (ob (f_X8_fails a0 (3 : Int32) (gi M a0 10) M) fun _ M3 => f_X8_needs_L29 a0 v1 M3) else (f_X8_needs_L29 a0 v1 M)) else (f_X8_needs_L29 a0 v1 M)) rfl ?_
  refine aw_aload_n (pc := 0) X 0 dX8_needs_0 rfl ?_
  refine gf_X8_136 (pc := 1) X dX8_needs_1 h_a0 ?_
  refine aw_ifne (pc := 4) X 29 dX8_needs_4 (by decide) ?_ ?_
  · refine aw_aload_n (pc := 7) X 0 dX8_needs_7 rfl ?_
    refine gf_X8_142 (pc := 8) X dX8_needs_8 h_a0 ?_
    refine aw_iload_n (pc := 11) X 1 dX8_needs_11 rfl ?_
    refine aw_iadd (pc := 12) X dX8_needs_12 ?_
    refine aw_aload_n (pc := 13) X 0 dX8_needs_13 rfl ?_
    refine gf_X8_145 (pc := 14) X dX8_needs_14 h_a0 ?_
    refine aw_icmple (pc := 17) X 29 dX8_needs_17 (by decide) ?_ ?_
    · refine aw_aload_n (pc := 20) X 0 dX8_needs_20 rfl ?_
      refine aw_iconst (pc := 21) X (3 : Int32) dX8_needs_21 (by decide) ?_
      refine aw_aload_n (pc := 22) X 0 dX8_needs_22 rfl ?_
      refine gf_X8_145 (pc := 23) X dX8_needs_23 h_a0 ?_
      refine cl_X8_148 (pc := 26) X ⟨Nat.le_of_ble_eq_true rfl, Nat.le_of_ble_eq_true rfl⟩ (Nat.le_of_ble_eq_true rfl) (ks2 := 0) (sl2 := 0) rfl rfl ⟨(Nat.le_of_ble_eq_true rfl), (Nat.le_of_ble_eq_true rfl)⟩ dX8_needs_26 h_a0 (fun M3 g4 => ?_)
      have h_a0 := h_a0.mono g4
      refine aw_sub [0, 1] rfl ?_
      exact t_X8_needs_L29 X hr a0 v1 M3 h_a0
    · refine aw_sub [0, 1] rfl ?_
      exact t_X8_needs_L29 X hr a0 v1 M h_a0
  · refine aw_sub [0, 1] rfl ?_
    exact t_X8_needs_L29 X hr a0 v1 M h_a0)
/-! ReportBlocksModel.takes -/
def rm_X8_takes : Room := { frames := 2, cells := 0, slots := 0, locals := 43 }
theorem hd_X8_takes : jHd yX8_takes 0 := by unfold jHd; decide +kernel
theorem cl_X8_152 {ρ : Type} {l : Launch} {p : Program} {e : Env} {R : Room} {s : State} {m : MethodId} {args : Array Value} {below : List Frame} {meth : Method} {c : Code} {D : va_G} {cs : JC} {b nL : Nat} {H0 : Heap} {Qf : ρ × JM → State → Prop} {M : JM} {ks sl : Nat} {lv : List (Nat × Value)} {pc : Nat} {st : List Value} {cc : ByteArray} (X : jX p c cc nL s m args RX8 D cs b meth H0) {z0 : Nat} {z1 : Int32} {K : JM → Option (ρ × JM)} (hrm : jRm rm_X8_needs 2 R) (hW : (st.map fun v => v.category).sum ≤ 8) {ks2 sl2 : Nat} (hk2 : ks + rm_X8_needs.cells = ks2) (hs2 : sl + rm_X8_needs.slots = sl2) (hroom : ks2 ≤ R.cells ∧ sl2 ≤ R.slots) (hdg : decode cc pc = .ok (.invokevirtual 152, 3)) (h0 : oty M z0 18) (kk : ∀ (M2 : JM), gn M ≤ gn M2 → AWO p l e R s m args below meth c D cs b nL H0 Qf (K M2) M2 ks2 sl2 lv (pc + 3) (st)) : AWO p l e R s m args below meth c D cs b nL H0 Qf (ob (f_X8_needs z0 z1 M) (fun _ => K)) M ks sl lv pc (.int z1 :: .ref (b + z0) :: st) := by
  subst hk2
  subst hs2
  exact aw_callV (ci := 8) X [.int z1] st rfl rfl wl_X8_152 wi_X8_needs wv_X8_needs wc_X8_needs wn_X8 (n := 1) hd_X8_needs rfl hrm hW hroom hdg h0 (t_X8_needs z0 z1 M h0) (fun _ M2 g _ => kk M2 g)
def f_X8_takes (a0 : Nat) (M : JM) : Option (Int32 × JM) := ob (f_X8_needs a0 (1 : Int32) M) fun _ M1 => if (gi M1 a0 11) = 0 then (orf (gr M1 a0 7) fun r3 => if 0 ≤ ((gi M1 a0 9) - (1 : Int32)) ∧ ((gi M1 a0 9) - (1 : Int32)) < ln r3 then (some ((gi M1 r3 ((gi M1 a0 9) - (1 : Int32))), M1)) else none) else (some ((0 : Int32), M1))
set_option maxRecDepth 10000 in
set_option maxHeartbeats 4000000 in
theorem t_X8_takes {l : Launch} {D : va_G} {cs : JC} {b : Nat} (a0 : Nat) (M : JM) (h_a0 : oty M a0 18) : ∀ q, f_X8_takes a0 M = some q → CTy l yX8_takes (.code yX8_takes cX8_takes 1 (Option.some Jvm.ClassFile.FieldType.int) :: GB) rm_X8_takes D cs b evI [.ref (b + a0)] M rm_X8_takes.cells rm_X8_takes.slots q := fun q hq => ct_of [(0, .ref (b + a0))] rfl rfl (Nat.le_of_ble_eq_true rfl) hq (fun p e s m args below meth c X hr hin => by
  refine aw_callq (F' := ob (f_X8_needs a0 (1 : Int32) M) fun _ M1 => if (gi M1 a0 11) = 0 then (orf (gr M1 a0 7) fun r3 => if 0 ≤ ((gi M1 a0 9) - (1 : Int32)) ∧ ((gi M1 a0 9) - (1 : Int32)) < ln r3 then (some ((gi M1 r3 ((gi M1 a0 9) - (1 : Int32))), M1)) else none) else (some ((0 : Int32), M1))) rfl ?_
  refine aw_aload_n (pc := 0) X 0 dX8_takes_0 rfl ?_
  refine aw_iconst (pc := 1) X (1 : Int32) dX8_takes_1 (by decide) ?_
  refine cl_X8_152 (pc := 2) X ⟨Nat.le_of_ble_eq_true rfl, Nat.le_of_ble_eq_true rfl⟩ (Nat.le_of_ble_eq_true rfl) (ks2 := 0) (sl2 := 0) rfl rfl ⟨(Nat.le_of_ble_eq_true rfl), (Nat.le_of_ble_eq_true rfl)⟩ dX8_takes_2 h_a0 (fun M1 g2 => ?_)
  have h_a0 := h_a0.mono g2
  refine aw_aload_n (pc := 5) X 0 dX8_takes_5 rfl ?_
  refine gf_X8_136 (pc := 6) X dX8_takes_6 h_a0 ?_
  refine aw_ifne (pc := 9) X 26 dX8_takes_9 (by decide) ?_ ?_
  · refine aw_aload_n (pc := 12) X 0 dX8_takes_12 rfl ?_
    refine gf_X8_28 (pc := 13) X dX8_takes_13 h_a0 (fun r3 h_r3 => ?_)
    refine aw_aload_n (pc := 16) X 0 dX8_takes_16 rfl ?_
    refine gf_X8_142 (pc := 17) X dX8_takes_17 h_a0 ?_
    refine aw_iconst (pc := 20) X (1 : Int32) dX8_takes_20 (by decide) ?_
    refine aw_isub (pc := 21) X dX8_takes_21 ?_
    refine aw_iald (pc := 22) X dX8_takes_22 h_r3 ?_
    refine aw_goto (pc := 23) X 27 dX8_takes_23 (by decide) ?_
    exact aw_iret (pc := 27) X hr dX8_takes_27 (Nat.le_of_ble_eq_true rfl) (Nat.le_of_ble_eq_true rfl)
  · refine aw_iconst (pc := 26) X (0 : Int32) dX8_takes_26 (by decide) ?_
    exact aw_iret (pc := 27) X hr dX8_takes_27 (Nat.le_of_ble_eq_true rfl) (Nat.le_of_ble_eq_true rfl))
/-! ReportBlocksModel.isEmptyByte -/
def rm_X8_isEmptyByte : Room := { frames := 0, cells := 0, slots := 0, locals := 0 }
theorem hd_X8_isEmptyByte : jHd yX8_isEmptyByte 1 := by unfold jHd; decide +kernel
def f_X8_isEmptyByte (a0 : Nat) (v1 : Int32) (M : JM) : Option (Bool × JM) := if (v1 &&& (254 : Int32)) = 0 then (some (true, M)) else (some (false, M))
set_option maxRecDepth 10000 in
set_option maxHeartbeats 4000000 in
theorem t_X8_isEmptyByte {l : Launch} {D : va_G} {cs : JC} {b : Nat} (a0 : Nat) (v1 : Int32) (M : JM) (h_a0 : oty M a0 18) : ∀ q, f_X8_isEmptyByte a0 v1 M = some q → CTy l yX8_isEmptyByte (.code yX8_isEmptyByte cX8_isEmptyByte 2 (Option.some Jvm.ClassFile.FieldType.boolean) :: GB) rm_X8_isEmptyByte D cs b evB [.ref (b + a0), .int v1] M rm_X8_isEmptyByte.cells rm_X8_isEmptyByte.slots q := fun q hq => ct_of [(0, .ref (b + a0)), (1, .int v1)] rfl rfl (Nat.le_of_ble_eq_true rfl) hq (fun p e s m args below meth c X hr hin => by
  refine aw_callq (F' := if (v1 &&& (254 : Int32)) = 0 then (some (true, M)) else (some (false, M))) rfl ?_
  refine aw_iload_n (pc := 0) X 1 dX8_isEmptyByte_0 rfl ?_
  refine aw_sipush (pc := 1) X (254 : Int32) dX8_isEmptyByte_1 (by decide) ?_
  refine aw_iand (pc := 4) X dX8_isEmptyByte_4 ?_
  refine aw_ifne (pc := 5) X 12 dX8_isEmptyByte_5 (by decide) ?_ ?_
  · refine aw_iconst (pc := 8) X (1 : Int32) dX8_isEmptyByte_8 (by decide) ?_
    refine aw_goto (pc := 9) X 13 dX8_isEmptyByte_9 (by decide) ?_
    exact aw_zret (pc := 13) X hr true rfl dX8_isEmptyByte_13 (Nat.le_of_ble_eq_true rfl) (Nat.le_of_ble_eq_true rfl)
  · refine aw_iconst (pc := 12) X (0 : Int32) dX8_isEmptyByte_12 (by decide) ?_
    exact aw_zret (pc := 13) X hr false rfl dX8_isEmptyByte_13 (Nat.le_of_ble_eq_true rfl) (Nat.le_of_ble_eq_true rfl))
/-! ReportBlocksModel.readBits -/
def rm_X8_readBits : Room := { frames := 3, cells := 0, slots := 0, locals := 63 }
theorem hd_X8_readBits : jHd yX8_readBits 1 := by unfold jHd; decide +kernel
theorem pf_X8_156 {ρ : Type} {l : Launch} {p : Program} {e : Env} {R : Room} {s : State} {m : MethodId} {args : Array Value} {below : List Frame} {meth : Method} {c : Code} {D : va_G} {cs : JC} {b nL : Nat} {H0 : Heap} {Qf : ρ × JM → State → Prop} {M : JM} {ks sl : Nat} {lv : List (Nat × Value)} {pc : Nat} {st : List Value} {cc : ByteArray} {k : Nat} {K : JM → Option (ρ × JM)} (X : jX p c cc nL s m args RX8 D cs b meth H0) {x : Int32} (hdg : decode cc pc = .ok (.putfield 156, 3)) (ho : oty M k 18) (kk : ∀ M2 : JM, gn M ≤ gn M2 → AWO p l e R s m args below meth c D cs b nL H0 Qf (K M2) M2 ks sl lv (pc + 3) st) : AWO p l e R s m args below meth c D cs b nL H0 Qf (sq (si M k 43 x) K) M ks sl lv pc (.int x :: .ref (b + k) :: st) := aw_putI (ci := 8) X 43 rfl gy_X8 tyX8 tyX8_ok nmX8 (by decide) (by decide) rfl rfl wf_X8_156 rfl (Or.inl rfl) hdg ho (kk _ (Nat.le_refl _))
theorem pf_X8_159 {ρ : Type} {l : Launch} {p : Program} {e : Env} {R : Room} {s : State} {m : MethodId} {args : Array Value} {below : List Frame} {meth : Method} {c : Code} {D : va_G} {cs : JC} {b nL : Nat} {H0 : Heap} {Qf : ρ × JM → State → Prop} {M : JM} {ks sl : Nat} {lv : List (Nat × Value)} {pc : Nat} {st : List Value} {cc : ByteArray} {k : Nat} {K : JM → Option (ρ × JM)} (X : jX p c cc nL s m args RX8 D cs b meth H0) {x : Int32} (hdg : decode cc pc = .ok (.putfield 159, 3)) (ho : oty M k 18) (kk : ∀ M2 : JM, gn M ≤ gn M2 → AWO p l e R s m args below meth c D cs b nL H0 Qf (K M2) M2 ks sl lv (pc + 3) st) : AWO p l e R s m args below meth c D cs b nL H0 Qf (sq (si M k 44 x) K) M ks sl lv pc (.int x :: .ref (b + k) :: st) := aw_putI (ci := 8) X 44 rfl gy_X8 tyX8 tyX8_ok nmX8 (by decide) (by decide) rfl rfl wf_X8_159 rfl (Or.inl rfl) hdg ho (kk _ (Nat.le_refl _))
theorem cl_X8_162 {ρ : Type} {l : Launch} {p : Program} {e : Env} {R : Room} {s : State} {m : MethodId} {args : Array Value} {below : List Frame} {meth : Method} {c : Code} {D : va_G} {cs : JC} {b nL : Nat} {H0 : Heap} {Qf : ρ × JM → State → Prop} {M : JM} {ks sl : Nat} {lv : List (Nat × Value)} {pc : Nat} {st : List Value} {cc : ByteArray} (X : jX p c cc nL s m args RX8 D cs b meth H0) {z0 : Nat} {K : Int32 → JM → Option (ρ × JM)} (hrm : jRm rm_X8_takes 1 R) (hW : (st.map fun v => v.category).sum ≤ 8) {ks2 sl2 : Nat} (hk2 : ks + rm_X8_takes.cells = ks2) (hs2 : sl + rm_X8_takes.slots = sl2) (hroom : ks2 ≤ R.cells ∧ sl2 ≤ R.slots) (hdg : decode cc pc = .ok (.invokevirtual 162, 3)) (h0 : oty M z0 18) (kk : ∀ (r : Int32) (M2 : JM), gn M ≤ gn M2 → AWO p l e R s m args below meth c D cs b nL H0 Qf (K r M2) M2 ks2 sl2 lv (pc + 3) (.int r :: st)) : AWO p l e R s m args below meth c D cs b nL H0 Qf (ob (f_X8_takes z0 M) K) M ks sl lv pc (.ref (b + z0) :: st) := by
  subst hk2
  subst hs2
  exact aw_callV (ci := 8) X [] st rfl rfl wl_X8_162 wi_X8_takes wv_X8_takes wc_X8_takes wn_X8 (n := 0) hd_X8_takes rfl hrm hW hroom hdg h0 (t_X8_takes z0 M h0) (fun r M2 g _ => kk r M2 g)
def f_X8_readBits_L173 (k36 : Nat → Int32 → Int32 → JM → Option (Unit × JM)) : Nat → Int32 → Int32 → JM → Option (Unit × JM) := fun a0 v1 v2 M => k36 a0 v1 v2 M
set_option maxRecDepth 10000 in
set_option maxHeartbeats 4000000 in
theorem t_X8_readBits_L173 {p : Program} {l : Launch} {e : Env} {s : State} {m : MethodId} {args : Array Value} {below : List Frame} {meth : Method} {c : Code} {D : va_G} {cs : JC} {b : Nat} (X : jX p c cX8_readBits 6 s m args RX8 D cs b meth s.heap) (hr : meth.sig.returnType = Option.none) (k36 : Nat → Int32 → Int32 → JM → Option (Unit × JM)) (hk36 : ∀ (a0 : Nat) (v1 : Int32) (v2 : Int32) (M : JM), oty M a0 18 → AWO p l e rm_X8_readBits s m args below meth c D cs b 6 s.heap (jE below D cs b evV args s rm_X8_readBits.cells rm_X8_readBits.slots) (k36 a0 v1 v2 M) M 0 0 [(0, .ref (b + a0)), (1, .int v1), (2, .int v2)] 36 []) : ∀ (a0 : Nat) (v1 : Int32) (v2 : Int32) (M : JM), oty M a0 18 → AWO p l e rm_X8_readBits s m args below meth c D cs b 6 s.heap (jE below D cs b evV args s rm_X8_readBits.cells rm_X8_readBits.slots) (f_X8_readBits_L173 k36 a0 v1 v2 M) M 0 0 [(0, .ref (b + a0)), (1, .int v1), (2, .int v2)] 173 [] := by
  intro a0 v1 v2 M h_a0
  refine aw_callq (F' := k36 a0 v1 v2 M) rfl ?_
  refine aw_goto (pc := 173) X 36 dX8_readBits_173 (by decide) ?_
  refine aw_sub [0, 1, 2] rfl ?_
  exact hk36 a0 v1 v2 M h_a0
theorem gf_X8_159 {ρ : Type} {l : Launch} {p : Program} {e : Env} {R : Room} {s : State} {m : MethodId} {args : Array Value} {below : List Frame} {meth : Method} {c : Code} {D : va_G} {cs : JC} {b nL : Nat} {H0 : Heap} {Qf : ρ × JM → State → Prop} {M : JM} {ks sl : Nat} {lv : List (Nat × Value)} {pc : Nat} {st : List Value} {cc : ByteArray} {k : Nat} (X : jX p c cc nL s m args RX8 D cs b meth H0) {F : Option (ρ × JM)} (hdg : decode cc pc = .ok (.getfield 159, 3)) (ho : oty M k 18) (kk : AWO p l e R s m args below meth c D cs b nL H0 Qf F M ks sl lv (pc + 3) (.int (gi M k 44) :: st)) : AWO p l e R s m args below meth c D cs b nL H0 Qf F M ks sl lv pc (.ref (b + k) :: st) := aw_getI (ci := 8) X 44 rfl gy_X8 (by decide) rfl rfl wf_X8_159 hdg ho kk
theorem gf_X8_52 {ρ : Type} {l : Launch} {p : Program} {e : Env} {R : Room} {s : State} {m : MethodId} {args : Array Value} {below : List Frame} {meth : Method} {c : Code} {D : va_G} {cs : JC} {b nL : Nat} {H0 : Heap} {Qf : ρ × JM → State → Prop} {M : JM} {ks sl : Nat} {lv : List (Nat × Value)} {pc : Nat} {st : List Value} {cc : ByteArray} {k : Nat} (X : jX p c cc nL s m args RX8 D cs b meth H0) {K : Nat → Option (ρ × JM)} (hdg : decode cc pc = .ok (.getfield 52, 3)) (ho : oty M k 18) (kk : ∀ r : Nat, oty M r 2 → AWO p l e R s m args below meth c D cs b nL H0 Qf (K r) M ks sl lv (pc + 3) (.ref (b + r) :: st)) : AWO p l e R s m args below meth c D cs b nL H0 Qf (orf (gr M k 24) K) M ks sl lv pc (.ref (b + k) :: st) := aw_getR (ci := 8) (τ := 2) X 24 rfl gy_X8 (by decide) (by decide) rfl rfl (by decide) wf_X8_52 hdg ho kk
def f_X8_readBits_L166 (k36 : Nat → Int32 → Int32 → JM → Option (Unit × JM)) (k123 : Nat → Int32 → Int32 → Int32 → Int32 → JM → Option (Unit × JM)) : Nat → Int32 → Int32 → Int32 → Int32 → Int32 → Int32 → Nat → JM → Option (Unit × JM) := fun a0 v1 v2 v4 v5 u0 u1 w2 M => if 0 ≤ u1 ∧ u1 < ln w2 then (sq (si M w2 u1 (vp_nar .boolean u0)) fun M17 => sv (v5 + (1 : Int32)) fun i19 => k123 a0 v1 v2 v4 i19 M17) else none
set_option maxRecDepth 10000 in
set_option maxHeartbeats 4000000 in
theorem t_X8_readBits_L166 {p : Program} {l : Launch} {e : Env} {s : State} {m : MethodId} {args : Array Value} {below : List Frame} {meth : Method} {c : Code} {D : va_G} {cs : JC} {b : Nat} (X : jX p c cX8_readBits 6 s m args RX8 D cs b meth s.heap) (hr : meth.sig.returnType = Option.none) (k36 : Nat → Int32 → Int32 → JM → Option (Unit × JM)) (hk36 : ∀ (a0 : Nat) (v1 : Int32) (v2 : Int32) (M : JM), oty M a0 18 → AWO p l e rm_X8_readBits s m args below meth c D cs b 6 s.heap (jE below D cs b evV args s rm_X8_readBits.cells rm_X8_readBits.slots) (k36 a0 v1 v2 M) M 0 0 [(0, .ref (b + a0)), (1, .int v1), (2, .int v2)] 36 []) (k123 : Nat → Int32 → Int32 → Int32 → Int32 → JM → Option (Unit × JM)) (hk123 : ∀ (a0 : Nat) (v1 : Int32) (v2 : Int32) (v4 : Int32) (v5 : Int32) (M : JM), oty M a0 18 → AWO p l e rm_X8_readBits s m args below meth c D cs b 6 s.heap (jE below D cs b evV args s rm_X8_readBits.cells rm_X8_readBits.slots) (k123 a0 v1 v2 v4 v5 M) M 0 0 [(0, .ref (b + a0)), (1, .int v1), (2, .int v2), (4, .int v4), (5, .int v5)] 123 []) : ∀ (a0 : Nat) (v1 : Int32) (v2 : Int32) (v4 : Int32) (v5 : Int32) (u0 : Int32) (u1 : Int32) (w2 : Nat) (M : JM), oty M a0 18 → oty M w2 2 → AWO p l e rm_X8_readBits s m args below meth c D cs b 6 s.heap (jE below D cs b evV args s rm_X8_readBits.cells rm_X8_readBits.slots) (f_X8_readBits_L166 k36 k123 a0 v1 v2 v4 v5 u0 u1 w2 M) M 0 0 [(0, .ref (b + a0)), (1, .int v1), (2, .int v2), (4, .int v4), (5, .int v5)] 166 [.int u0, .int u1, .ref (b + w2)] := by
  intro a0 v1 v2 v4 v5 u0 u1 w2 M h_a0 h_w2
  refine aw_callq (F' := if 0 ≤ u1 ∧ u1 < ln w2 then (sq (si M w2 u1 (vp_nar .boolean u0)) fun M17 => sv (v5 + (1 : Int32)) fun i19 => k123 a0 v1 v2 v4 i19 M17) else none) rfl ?_
  refine aw_zastQ (pc := 166) X dX8_readBits_166 h_w2 (fun M17 g18 => ?_)
  have h_a0 := h_a0.mono g18
  refine aw_iincV (pc := 167) X (fun y => [(5, .int y), (0, .ref (b + a0)), (1, .int v1), (2, .int v2), (4, .int v4)]) 4 (v := (v5 + (1 : Int32))) dX8_readBits_167 rfl rfl (by decide) (fun _ => rfl) (fun i19 => ?_)
  refine aw_goto (pc := 170) X 123 dX8_readBits_170 (by decide) ?_
  refine aw_sub [1, 2, 3, 4, 0] rfl ?_
  exact hk123 a0 v1 v2 v4 i19 M17 h_a0
def f_X8_readBits_L123 (k36 : Nat → Int32 → Int32 → JM → Option (Unit × JM)) : Nat → Nat → Int32 → Int32 → Int32 → Int32 → JM → Option (Unit × JM)
  | 0, _, _, _, _, _, _ => none
  | n + 1, a0, v1, v2, v4, v5, M => if v5 < (7 : Int32) then (orf (gr M a0 24) fun r16 => if ((v4 >>> (((7 : Int32) - v5) &&& 31)) &&& (1 : Int32)) = (1 : Int32) then (f_X8_readBits_L166 k36 (f_X8_readBits_L123 k36 n) a0 v1 v2 v4 v5 (1 : Int32) ((((7 : Int32) * (gi M a0 44)) - (6 : Int32)) + v5) r16 M) else (f_X8_readBits_L166 k36 (f_X8_readBits_L123 k36 n) a0 v1 v2 v4 v5 (0 : Int32) ((((7 : Int32) * (gi M a0 44)) - (6 : Int32)) + v5) r16 M)) else (f_X8_readBits_L173 k36 a0 v1 v2 M)
set_option maxRecDepth 10000 in
set_option maxHeartbeats 4000000 in
theorem t_X8_readBits_L123 {p : Program} {l : Launch} {e : Env} {s : State} {m : MethodId} {args : Array Value} {below : List Frame} {meth : Method} {c : Code} {D : va_G} {cs : JC} {b : Nat} (X : jX p c cX8_readBits 6 s m args RX8 D cs b meth s.heap) (hr : meth.sig.returnType = Option.none) (k36 : Nat → Int32 → Int32 → JM → Option (Unit × JM)) (hk36 : ∀ (a0 : Nat) (v1 : Int32) (v2 : Int32) (M : JM), oty M a0 18 → AWO p l e rm_X8_readBits s m args below meth c D cs b 6 s.heap (jE below D cs b evV args s rm_X8_readBits.cells rm_X8_readBits.slots) (k36 a0 v1 v2 M) M 0 0 [(0, .ref (b + a0)), (1, .int v1), (2, .int v2)] 36 []) : ∀ (n : Nat) (a0 : Nat) (v1 : Int32) (v2 : Int32) (v4 : Int32) (v5 : Int32) (M : JM), oty M a0 18 → AWO p l e rm_X8_readBits s m args below meth c D cs b 6 s.heap (jE below D cs b evV args s rm_X8_readBits.cells rm_X8_readBits.slots) (f_X8_readBits_L123 k36 n a0 v1 v2 v4 v5 M) M 0 0 [(0, .ref (b + a0)), (1, .int v1), (2, .int v2), (4, .int v4), (5, .int v5)] 123 [] := by
  intro n
  induction n with
  | zero => intro a0 v1 v2 v4 v5 M h_a0; exact aw_none
  | succ n ih =>
    intro a0 v1 v2 v4 v5 M h_a0
    refine aw_callq (F' := if v5 < (7 : Int32) then (orf (gr M a0 24) fun r16 => if ((v4 >>> (((7 : Int32) - v5) &&& 31)) &&& (1 : Int32)) = (1 : Int32) then (f_X8_readBits_L166 k36 (f_X8_readBits_L123 k36 n) a0 v1 v2 v4 v5 (1 : Int32) ((((7 : Int32) * (gi M a0 44)) - (6 : Int32)) + v5) r16 M) else (f_X8_readBits_L166 k36 (f_X8_readBits_L123 k36 n) a0 v1 v2 v4 v5 (0 : Int32) ((((7 : Int32) * (gi M a0 44)) - (6 : Int32)) + v5) r16 M)) else (f_X8_readBits_L173 k36 a0 v1 v2 M)) rfl ?_
    refine aw_iload (pc := 123) X 4 dX8_readBits_123 rfl ?_
    refine aw_bipush (pc := 125) X (7 : Int32) dX8_readBits_125 (by decide) ?_
    refine aw_icmpge (pc := 127) X 173 dX8_readBits_127 (by decide) ?_ ?_
    · refine aw_aload_n (pc := 130) X 0 dX8_readBits_130 rfl ?_
      refine gf_X8_52 (pc := 131) X dX8_readBits_131 h_a0 (fun r16 h_r16 => ?_)
      refine aw_bipush (pc := 134) X (7 : Int32) dX8_readBits_134 (by decide) ?_
      refine aw_aload_n (pc := 136) X 0 dX8_readBits_136 rfl ?_
      refine gf_X8_159 (pc := 137) X dX8_readBits_137 h_a0 ?_
      refine aw_imul (pc := 140) X dX8_readBits_140 ?_
      refine aw_bipush (pc := 141) X (6 : Int32) dX8_readBits_141 (by decide) ?_
      refine aw_isub (pc := 143) X dX8_readBits_143 ?_
      refine aw_iload (pc := 144) X 4 dX8_readBits_144 rfl ?_
      refine aw_iadd (pc := 146) X dX8_readBits_146 ?_
      refine aw_iload (pc := 147) X 3 dX8_readBits_147 rfl ?_
      refine aw_bipush (pc := 149) X (7 : Int32) dX8_readBits_149 (by decide) ?_
      refine aw_iload (pc := 151) X 4 dX8_readBits_151 rfl ?_
      refine aw_isub (pc := 153) X dX8_readBits_153 ?_
      refine aw_ishr (pc := 154) X dX8_readBits_154 ?_
      refine aw_iconst (pc := 155) X (1 : Int32) dX8_readBits_155 (by decide) ?_
      refine aw_iand (pc := 156) X dX8_readBits_156 ?_
      refine aw_iconst (pc := 157) X (1 : Int32) dX8_readBits_157 (by decide) ?_
      refine aw_icmpne (pc := 158) X 165 dX8_readBits_158 (by decide) ?_ ?_
      · refine aw_iconst (pc := 161) X (1 : Int32) dX8_readBits_161 (by decide) ?_
        refine aw_goto (pc := 162) X 166 dX8_readBits_162 (by decide) ?_
        refine aw_sub [0, 1, 2, 3, 4] rfl ?_
        exact t_X8_readBits_L166 X hr k36 hk36 (f_X8_readBits_L123 k36 n) ih a0 v1 v2 v4 v5 (1 : Int32) ((((7 : Int32) * (gi M a0 44)) - (6 : Int32)) + v5) r16 M h_a0 h_r16
      · refine aw_iconst (pc := 165) X (0 : Int32) dX8_readBits_165 (by decide) ?_
        refine aw_sub [0, 1, 2, 3, 4] rfl ?_
        exact t_X8_readBits_L166 X hr k36 hk36 (f_X8_readBits_L123 k36 n) ih a0 v1 v2 v4 v5 (0 : Int32) ((((7 : Int32) * (gi M a0 44)) - (6 : Int32)) + v5) r16 M h_a0 h_r16
    · refine aw_sub [0, 1, 2] rfl ?_
      exact t_X8_readBits_L173 X hr k36 hk36 a0 v1 v2 M h_a0
def f_X8_readBits_L120 (k36 : Nat → Int32 → Int32 → JM → Option (Unit × JM)) : Nat → Int32 → Int32 → Int32 → JM → Option (Unit × JM) := fun a0 v1 v2 v4 M => sv (0 : Int32) fun i15 => f_X8_readBits_L123 k36 FU a0 v1 v2 v4 i15 M
set_option maxRecDepth 10000 in
set_option maxHeartbeats 4000000 in
theorem t_X8_readBits_L120 {p : Program} {l : Launch} {e : Env} {s : State} {m : MethodId} {args : Array Value} {below : List Frame} {meth : Method} {c : Code} {D : va_G} {cs : JC} {b : Nat} (X : jX p c cX8_readBits 6 s m args RX8 D cs b meth s.heap) (hr : meth.sig.returnType = Option.none) (k36 : Nat → Int32 → Int32 → JM → Option (Unit × JM)) (hk36 : ∀ (a0 : Nat) (v1 : Int32) (v2 : Int32) (M : JM), oty M a0 18 → AWO p l e rm_X8_readBits s m args below meth c D cs b 6 s.heap (jE below D cs b evV args s rm_X8_readBits.cells rm_X8_readBits.slots) (k36 a0 v1 v2 M) M 0 0 [(0, .ref (b + a0)), (1, .int v1), (2, .int v2)] 36 []) : ∀ (a0 : Nat) (v1 : Int32) (v2 : Int32) (v4 : Int32) (M : JM), oty M a0 18 → AWO p l e rm_X8_readBits s m args below meth c D cs b 6 s.heap (jE below D cs b evV args s rm_X8_readBits.cells rm_X8_readBits.slots) (f_X8_readBits_L120 k36 a0 v1 v2 v4 M) M 0 0 [(0, .ref (b + a0)), (1, .int v1), (2, .int v2), (4, .int v4)] 120 [] := by
  intro a0 v1 v2 v4 M h_a0
  refine aw_callq (F' := sv (0 : Int32) fun i15 => f_X8_readBits_L123 k36 FU a0 v1 v2 v4 i15 M) rfl ?_
  refine aw_iconst (pc := 120) X (0 : Int32) dX8_readBits_120 (by decide) ?_
  refine aw_istoreV (pc := 121) X (fun y => [(5, .int y), (0, .ref (b + a0)), (1, .int v1), (2, .int v2), (4, .int v4)]) dX8_readBits_121 (by decide) (fun _ => rfl) (fun i15 => ?_)
  refine aw_sub [1, 2, 3, 4, 0] rfl ?_
  exact t_X8_readBits_L123 X hr k36 hk36 FU a0 v1 v2 v4 i15 M h_a0
theorem cl_X8_166 {ρ : Type} {l : Launch} {p : Program} {e : Env} {R : Room} {s : State} {m : MethodId} {args : Array Value} {below : List Frame} {meth : Method} {c : Code} {D : va_G} {cs : JC} {b nL : Nat} {H0 : Heap} {Qf : ρ × JM → State → Prop} {M : JM} {ks sl : Nat} {lv : List (Nat × Value)} {pc : Nat} {st : List Value} {cc : ByteArray} (X : jX p c cc nL s m args RX8 D cs b meth H0) {z0 : Nat} {z1 : Int32} {K : Bool → JM → Option (ρ × JM)} (hrm : jRm rm_X8_isEmptyByte 2 R) (hW : (st.map fun v => v.category).sum ≤ 8) {ks2 sl2 : Nat} (hk2 : ks + rm_X8_isEmptyByte.cells = ks2) (hs2 : sl + rm_X8_isEmptyByte.slots = sl2) (hroom : ks2 ≤ R.cells ∧ sl2 ≤ R.slots) (hdg : decode cc pc = .ok (.invokevirtual 166, 3)) (h0 : oty M z0 18) (kk : ∀ (r : Bool) (M2 : JM), gn M ≤ gn M2 → AWO p l e R s m args below meth c D cs b nL H0 Qf (K r M2) M2 ks2 sl2 lv (pc + 3) (.int (bI r) :: st)) : AWO p l e R s m args below meth c D cs b nL H0 Qf (ob (f_X8_isEmptyByte z0 z1 M) K) M ks sl lv pc (.int z1 :: .ref (b + z0) :: st) := by
  subst hk2
  subst hs2
  exact aw_callV (ci := 8) X [.int z1] st rfl rfl wl_X8_166 wi_X8_isEmptyByte wv_X8_isEmptyByte wc_X8_isEmptyByte wn_X8 (n := 1) hd_X8_isEmptyByte rfl hrm hW hroom hdg h0 (t_X8_isEmptyByte z0 z1 M h0) (fun r M2 g _ => kk r M2 g)
def f_X8_readBits_L114 (k36 : Nat → Int32 → Int32 → JM → Option (Unit × JM)) : Nat → Int32 → Int32 → Int32 → Int32 → JM → Option (Unit × JM) := fun a0 v1 v2 v3 v4 M => ob (f_X8_fails a0 (4 : Int32) v3 M) fun _ M23 => f_X8_readBits_L120 k36 a0 v1 v2 v4 M23
set_option maxRecDepth 10000 in
set_option maxHeartbeats 4000000 in
theorem t_X8_readBits_L114 {p : Program} {l : Launch} {e : Env} {s : State} {m : MethodId} {args : Array Value} {below : List Frame} {meth : Method} {c : Code} {D : va_G} {cs : JC} {b : Nat} (X : jX p c cX8_readBits 6 s m args RX8 D cs b meth s.heap) (hr : meth.sig.returnType = Option.none) (k36 : Nat → Int32 → Int32 → JM → Option (Unit × JM)) (hk36 : ∀ (a0 : Nat) (v1 : Int32) (v2 : Int32) (M : JM), oty M a0 18 → AWO p l e rm_X8_readBits s m args below meth c D cs b 6 s.heap (jE below D cs b evV args s rm_X8_readBits.cells rm_X8_readBits.slots) (k36 a0 v1 v2 M) M 0 0 [(0, .ref (b + a0)), (1, .int v1), (2, .int v2)] 36 []) : ∀ (a0 : Nat) (v1 : Int32) (v2 : Int32) (v3 : Int32) (v4 : Int32) (M : JM), oty M a0 18 → AWO p l e rm_X8_readBits s m args below meth c D cs b 6 s.heap (jE below D cs b evV args s rm_X8_readBits.cells rm_X8_readBits.slots) (f_X8_readBits_L114 k36 a0 v1 v2 v3 v4 M) M 0 0 [(0, .ref (b + a0)), (1, .int v1), (2, .int v2), (3, .int v3), (4, .int v4)] 114 [] := by
  intro a0 v1 v2 v3 v4 M h_a0
  refine aw_callq (F' := ob (f_X8_fails a0 (4 : Int32) v3 M) fun _ M23 => f_X8_readBits_L120 k36 a0 v1 v2 v4 M23) rfl ?_
  refine aw_aload_n (pc := 114) X 0 dX8_readBits_114 rfl ?_
  refine aw_iconst (pc := 115) X (4 : Int32) dX8_readBits_115 (by decide) ?_
  refine aw_iload_n (pc := 116) X 3 dX8_readBits_116 rfl ?_
  refine cl_X8_148 (pc := 117) X ⟨Nat.le_of_ble_eq_true rfl, Nat.le_of_ble_eq_true rfl⟩ (Nat.le_of_ble_eq_true rfl) (ks2 := 0) (sl2 := 0) rfl rfl ⟨(Nat.le_of_ble_eq_true rfl), (Nat.le_of_ble_eq_true rfl)⟩ dX8_readBits_117 h_a0 (fun M23 g24 => ?_)
  have h_a0 := h_a0.mono g24
  refine aw_sub [0, 1, 2, 4] rfl ?_
  exact t_X8_readBits_L120 X hr k36 hk36 a0 v1 v2 v4 M23 h_a0
def f_X8_readBits_L101 (k36 : Nat → Int32 → Int32 → JM → Option (Unit × JM)) : Nat → Int32 → Int32 → Int32 → Int32 → JM → Option (Unit × JM) := fun a0 v1 v2 v3 v4 M => if v2 = 0 then (ob (f_X8_isEmptyByte a0 v4 M) fun r22 M20 => if r22 = true then (f_X8_readBits_L114 k36 a0 v1 v2 v3 v4 M20) else (f_X8_readBits_L120 k36 a0 v1 v2 v4 M20)) else (f_X8_readBits_L120 k36 a0 v1 v2 v4 M)
set_option maxRecDepth 10000 in
set_option maxHeartbeats 4000000 in
theorem t_X8_readBits_L101 {p : Program} {l : Launch} {e : Env} {s : State} {m : MethodId} {args : Array Value} {below : List Frame} {meth : Method} {c : Code} {D : va_G} {cs : JC} {b : Nat} (X : jX p c cX8_readBits 6 s m args RX8 D cs b meth s.heap) (hr : meth.sig.returnType = Option.none) (k36 : Nat → Int32 → Int32 → JM → Option (Unit × JM)) (hk36 : ∀ (a0 : Nat) (v1 : Int32) (v2 : Int32) (M : JM), oty M a0 18 → AWO p l e rm_X8_readBits s m args below meth c D cs b 6 s.heap (jE below D cs b evV args s rm_X8_readBits.cells rm_X8_readBits.slots) (k36 a0 v1 v2 M) M 0 0 [(0, .ref (b + a0)), (1, .int v1), (2, .int v2)] 36 []) : ∀ (a0 : Nat) (v1 : Int32) (v2 : Int32) (v3 : Int32) (v4 : Int32) (M : JM), oty M a0 18 → AWO p l e rm_X8_readBits s m args below meth c D cs b 6 s.heap (jE below D cs b evV args s rm_X8_readBits.cells rm_X8_readBits.slots) (f_X8_readBits_L101 k36 a0 v1 v2 v3 v4 M) M 0 0 [(0, .ref (b + a0)), (1, .int v1), (2, .int v2), (3, .int v3), (4, .int v4)] 101 [] := by
  intro a0 v1 v2 v3 v4 M h_a0
  refine aw_callq (F' := if v2 = 0 then (ob (f_X8_isEmptyByte a0 v4 M) fun r22 M20 => if r22 = true then (f_X8_readBits_L114 k36 a0 v1 v2 v3 v4 M20) else (f_X8_readBits_L120 k36 a0 v1 v2 v4 M20)) else (f_X8_readBits_L120 k36 a0 v1 v2 v4 M)) rfl ?_
  refine aw_iload_n (pc := 101) X 2 dX8_readBits_101 rfl ?_
  refine aw_ifne (pc := 102) X 120 dX8_readBits_102 (by decide) ?_ ?_
  · refine aw_aload_n (pc := 105) X 0 dX8_readBits_105 rfl ?_
    refine aw_iload (pc := 106) X 4 dX8_readBits_106 rfl ?_
    refine cl_X8_166 (pc := 108) X ⟨Nat.le_of_ble_eq_true rfl, Nat.le_of_ble_eq_true rfl⟩ (Nat.le_of_ble_eq_true rfl) (ks2 := 0) (sl2 := 0) rfl rfl ⟨(Nat.le_of_ble_eq_true rfl), (Nat.le_of_ble_eq_true rfl)⟩ dX8_readBits_108 h_a0 (fun r22 M20 g21 => ?_)
    have h_a0 := h_a0.mono g21
    refine aw_ifeqB (pc := 111) X 120 dX8_readBits_111 (by decide) ?_ ?_
    · refine aw_sub [0, 1, 2, 3, 4] rfl ?_
      exact t_X8_readBits_L114 X hr k36 hk36 a0 v1 v2 v3 v4 M20 h_a0
    · refine aw_sub [0, 1, 2, 4] rfl ?_
      exact t_X8_readBits_L120 X hr k36 hk36 a0 v1 v2 v4 M20 h_a0
  · refine aw_sub [0, 1, 2, 4] rfl ?_
    exact t_X8_readBits_L120 X hr k36 hk36 a0 v1 v2 v4 M h_a0
def f_X8_readBits_L78 (k36 : Nat → Int32 → Int32 → JM → Option (Unit × JM)) : Nat → Int32 → Int32 → Int32 → Int32 → JM → Option (Unit × JM) := fun a0 v1 v3 v4 u0 M => sv u0 fun i12 => sq (si M a0 44 ((gi M a0 44) + (1 : Int32))) fun M13 => if i12 = 0 then (f_X8_readBits_L101 k36 a0 v1 i12 v3 v4 M13) else (if (gi M13 a0 44) = v1 then (f_X8_readBits_L114 k36 a0 v1 i12 v3 v4 M13) else (f_X8_readBits_L101 k36 a0 v1 i12 v3 v4 M13))
set_option maxRecDepth 10000 in
set_option maxHeartbeats 4000000 in
theorem t_X8_readBits_L78 {p : Program} {l : Launch} {e : Env} {s : State} {m : MethodId} {args : Array Value} {below : List Frame} {meth : Method} {c : Code} {D : va_G} {cs : JC} {b : Nat} (X : jX p c cX8_readBits 6 s m args RX8 D cs b meth s.heap) (hr : meth.sig.returnType = Option.none) (k36 : Nat → Int32 → Int32 → JM → Option (Unit × JM)) (hk36 : ∀ (a0 : Nat) (v1 : Int32) (v2 : Int32) (M : JM), oty M a0 18 → AWO p l e rm_X8_readBits s m args below meth c D cs b 6 s.heap (jE below D cs b evV args s rm_X8_readBits.cells rm_X8_readBits.slots) (k36 a0 v1 v2 M) M 0 0 [(0, .ref (b + a0)), (1, .int v1), (2, .int v2)] 36 []) : ∀ (a0 : Nat) (v1 : Int32) (v3 : Int32) (v4 : Int32) (u0 : Int32) (M : JM), oty M a0 18 → AWO p l e rm_X8_readBits s m args below meth c D cs b 6 s.heap (jE below D cs b evV args s rm_X8_readBits.cells rm_X8_readBits.slots) (f_X8_readBits_L78 k36 a0 v1 v3 v4 u0 M) M 0 0 [(0, .ref (b + a0)), (1, .int v1), (3, .int v3), (4, .int v4)] 78 [.int u0] := by
  intro a0 v1 v3 v4 u0 M h_a0
  refine aw_callq (F' := sv u0 fun i12 => sq (si M a0 44 ((gi M a0 44) + (1 : Int32))) fun M13 => if i12 = 0 then (f_X8_readBits_L101 k36 a0 v1 i12 v3 v4 M13) else (if (gi M13 a0 44) = v1 then (f_X8_readBits_L114 k36 a0 v1 i12 v3 v4 M13) else (f_X8_readBits_L101 k36 a0 v1 i12 v3 v4 M13))) rfl ?_
  refine aw_istoreV_n (pc := 78) X (fun y => [(2, .int y), (0, .ref (b + a0)), (1, .int v1), (3, .int v3), (4, .int v4)]) dX8_readBits_78 (by decide) (fun _ => rfl) (fun i12 => ?_)
  refine aw_aload_n (pc := 79) X 1 dX8_readBits_79 rfl ?_
  refine aw_dup_a (pc := 80) X dX8_readBits_80 ?_
  refine gf_X8_159 (pc := 81) X dX8_readBits_81 h_a0 ?_
  refine aw_iconst (pc := 84) X (1 : Int32) dX8_readBits_84 (by decide) ?_
  refine aw_iadd (pc := 85) X dX8_readBits_85 ?_
  refine pf_X8_159 (pc := 86) X dX8_readBits_86 h_a0 (fun M13 g14 => ?_)
  have h_a0 := h_a0.mono g14
  refine aw_iload_n (pc := 89) X 0 dX8_readBits_89 rfl ?_
  refine aw_ifeq (pc := 90) X 101 dX8_readBits_90 (by decide) ?_ ?_
  · refine aw_sub [1, 2, 0, 3, 4] rfl ?_
    exact t_X8_readBits_L101 X hr k36 hk36 a0 v1 i12 v3 v4 M13 h_a0
  · refine aw_aload_n (pc := 93) X 1 dX8_readBits_93 rfl ?_
    refine gf_X8_159 (pc := 94) X dX8_readBits_94 h_a0 ?_
    refine aw_iload_n (pc := 97) X 2 dX8_readBits_97 rfl ?_
    refine aw_icmpeq (pc := 98) X 114 dX8_readBits_98 (by decide) ?_ ?_
    · refine aw_sub [1, 2, 0, 3, 4] rfl ?_
      exact t_X8_readBits_L114 X hr k36 hk36 a0 v1 i12 v3 v4 M13 h_a0
    · refine aw_sub [1, 2, 0, 3, 4] rfl ?_
      exact t_X8_readBits_L101 X hr k36 hk36 a0 v1 i12 v3 v4 M13 h_a0
def f_X8_readBits_L36 : Nat → Nat → Int32 → Int32 → JM → Option (Unit × JM)
  | 0, _, _, _, _ => none
  | n + 1, a0, v1, v2, M => if v2 = 0 then (some ((), M)) else (if (gi M a0 11) = 0 then (sv (gi M a0 9) fun i7 => ob (f_X8_takes a0 M) fun r10 M8 => sv r10 fun i11 => if (gi M8 a0 11) = 0 then (if (i11 &&& (1 : Int32)) = (1 : Int32) then (f_X8_readBits_L78 (f_X8_readBits_L36 n) a0 v1 i7 i11 (1 : Int32) M8) else (f_X8_readBits_L78 (f_X8_readBits_L36 n) a0 v1 i7 i11 (0 : Int32) M8)) else (f_X8_readBits_L173 (f_X8_readBits_L36 n) a0 v1 v2 M8)) else (some ((), M)))
set_option maxRecDepth 10000 in
set_option maxHeartbeats 4000000 in
theorem t_X8_readBits_L36 {p : Program} {l : Launch} {e : Env} {s : State} {m : MethodId} {args : Array Value} {below : List Frame} {meth : Method} {c : Code} {D : va_G} {cs : JC} {b : Nat} (X : jX p c cX8_readBits 6 s m args RX8 D cs b meth s.heap) (hr : meth.sig.returnType = Option.none) : ∀ (n : Nat) (a0 : Nat) (v1 : Int32) (v2 : Int32) (M : JM), oty M a0 18 → AWO p l e rm_X8_readBits s m args below meth c D cs b 6 s.heap (jE below D cs b evV args s rm_X8_readBits.cells rm_X8_readBits.slots) (f_X8_readBits_L36 n a0 v1 v2 M) M 0 0 [(0, .ref (b + a0)), (1, .int v1), (2, .int v2)] 36 [] := by
  intro n
  induction n with
  | zero => intro a0 v1 v2 M h_a0; exact aw_none
  | succ n ih =>
    intro a0 v1 v2 M h_a0
    refine aw_callq (F' := if v2 = 0 then (some ((), M)) else (if (gi M a0 11) = 0 then (sv (gi M a0 9) fun i7 => ob (f_X8_takes a0 M) fun r10 M8 => sv r10 fun i11 => if (gi M8 a0 11) = 0 then (if (i11 &&& (1 : Int32)) = (1 : Int32) then (f_X8_readBits_L78 (f_X8_readBits_L36 n) a0 v1 i7 i11 (1 : Int32) M8) else (f_X8_readBits_L78 (f_X8_readBits_L36 n) a0 v1 i7 i11 (0 : Int32) M8)) else (f_X8_readBits_L173 (f_X8_readBits_L36 n) a0 v1 v2 M8)) else (some ((), M)))) rfl ?_
    refine aw_iload_n (pc := 36) X 2 dX8_readBits_36 rfl ?_
    refine aw_ifeq (pc := 37) X 176 dX8_readBits_37 (by decide) ?_ ?_
    · exact aw_vret (pc := 176) X hr dX8_readBits_176 (Nat.le_of_ble_eq_true rfl) (Nat.le_of_ble_eq_true rfl)
    · refine aw_aload_n (pc := 40) X 0 dX8_readBits_40 rfl ?_
      refine gf_X8_136 (pc := 41) X dX8_readBits_41 h_a0 ?_
      refine aw_ifne (pc := 44) X 176 dX8_readBits_44 (by decide) ?_ ?_
      · refine aw_aload_n (pc := 47) X 0 dX8_readBits_47 rfl ?_
        refine gf_X8_142 (pc := 48) X dX8_readBits_48 h_a0 ?_
        refine aw_istoreV_n (pc := 51) X (fun y => [(3, .int y), (0, .ref (b + a0)), (1, .int v1), (2, .int v2)]) dX8_readBits_51 (by decide) (fun _ => rfl) (fun i7 => ?_)
        refine aw_aload_n (pc := 52) X 1 dX8_readBits_52 rfl ?_
        refine cl_X8_162 (pc := 53) X ⟨Nat.le_of_ble_eq_true rfl, Nat.le_of_ble_eq_true rfl⟩ (Nat.le_of_ble_eq_true rfl) (ks2 := 0) (sl2 := 0) rfl rfl ⟨(Nat.le_of_ble_eq_true rfl), (Nat.le_of_ble_eq_true rfl)⟩ dX8_readBits_53 h_a0 (fun r10 M8 g9 => ?_)
        have h_a0 := h_a0.mono g9
        refine aw_istoreV (pc := 56) X (fun y => [(4, .int y), (3, .int i7), (0, .ref (b + a0)), (1, .int v1), (2, .int v2)]) dX8_readBits_56 (by decide) (fun _ => rfl) (fun i11 => ?_)
        refine aw_aload_n (pc := 58) X 2 dX8_readBits_58 rfl ?_
        refine gf_X8_136 (pc := 59) X dX8_readBits_59 h_a0 ?_
        refine aw_ifne (pc := 62) X 173 dX8_readBits_62 (by decide) ?_ ?_
        · refine aw_iload (pc := 65) X 0 dX8_readBits_65 rfl ?_
          refine aw_iconst (pc := 67) X (1 : Int32) dX8_readBits_67 (by decide) ?_
          refine aw_iand (pc := 68) X dX8_readBits_68 ?_
          refine aw_iconst (pc := 69) X (1 : Int32) dX8_readBits_69 (by decide) ?_
          refine aw_icmpne (pc := 70) X 77 dX8_readBits_70 (by decide) ?_ ?_
          · refine aw_iconst (pc := 73) X (1 : Int32) dX8_readBits_73 (by decide) ?_
            refine aw_goto (pc := 74) X 78 dX8_readBits_74 (by decide) ?_
            refine aw_sub [2, 3, 1, 0] rfl ?_
            exact t_X8_readBits_L78 X hr (f_X8_readBits_L36 n) ih a0 v1 i7 i11 (1 : Int32) M8 h_a0
          · refine aw_iconst (pc := 77) X (0 : Int32) dX8_readBits_77 (by decide) ?_
            refine aw_sub [2, 3, 1, 0] rfl ?_
            exact t_X8_readBits_L78 X hr (f_X8_readBits_L36 n) ih a0 v1 i7 i11 (0 : Int32) M8 h_a0
        · refine aw_sub [2, 3, 4] rfl ?_
          exact t_X8_readBits_L173 X hr (f_X8_readBits_L36 n) ih a0 v1 v2 M8 h_a0
      · exact aw_vret (pc := 176) X hr dX8_readBits_176 (Nat.le_of_ble_eq_true rfl) (Nat.le_of_ble_eq_true rfl)
def f_X8_readBits_L17 : Nat → Nat → Int32 → Int32 → Int32 → JM → Option (Unit × JM)
  | 0, _, _, _, _, _ => none
  | n + 1, a0, v1, v2, v3, M => if v3 < (22 : Int32) then (orf (gr M a0 24) fun r25 => if 0 ≤ v3 ∧ v3 < ln r25 then (sq (si M r25 v3 (vp_nar .boolean (0 : Int32))) fun M26 => sv (v3 + (1 : Int32)) fun i28 => (f_X8_readBits_L17 n) a0 v1 v2 i28 M26) else none) else (f_X8_readBits_L36 FU a0 v1 v2 M)
set_option maxRecDepth 10000 in
set_option maxHeartbeats 4000000 in
theorem t_X8_readBits_L17 {p : Program} {l : Launch} {e : Env} {s : State} {m : MethodId} {args : Array Value} {below : List Frame} {meth : Method} {c : Code} {D : va_G} {cs : JC} {b : Nat} (X : jX p c cX8_readBits 6 s m args RX8 D cs b meth s.heap) (hr : meth.sig.returnType = Option.none) : ∀ (n : Nat) (a0 : Nat) (v1 : Int32) (v2 : Int32) (v3 : Int32) (M : JM), oty M a0 18 → AWO p l e rm_X8_readBits s m args below meth c D cs b 6 s.heap (jE below D cs b evV args s rm_X8_readBits.cells rm_X8_readBits.slots) (f_X8_readBits_L17 n a0 v1 v2 v3 M) M 0 0 [(0, .ref (b + a0)), (1, .int v1), (2, .int v2), (3, .int v3)] 17 [] := by
  intro n
  induction n with
  | zero => intro a0 v1 v2 v3 M h_a0; exact aw_none
  | succ n ih =>
    intro a0 v1 v2 v3 M h_a0
    refine aw_callq (F' := if v3 < (22 : Int32) then (orf (gr M a0 24) fun r25 => if 0 ≤ v3 ∧ v3 < ln r25 then (sq (si M r25 v3 (vp_nar .boolean (0 : Int32))) fun M26 => sv (v3 + (1 : Int32)) fun i28 => (f_X8_readBits_L17 n) a0 v1 v2 i28 M26) else none) else (f_X8_readBits_L36 FU a0 v1 v2 M)) rfl ?_
    refine aw_iload_n (pc := 17) X 3 dX8_readBits_17 rfl ?_
    refine aw_bipush (pc := 18) X (22 : Int32) dX8_readBits_18 (by decide) ?_
    refine aw_icmpge (pc := 20) X 36 dX8_readBits_20 (by decide) ?_ ?_
    · refine aw_aload_n (pc := 23) X 0 dX8_readBits_23 rfl ?_
      refine gf_X8_52 (pc := 24) X dX8_readBits_24 h_a0 (fun r25 h_r25 => ?_)
      refine aw_iload_n (pc := 27) X 3 dX8_readBits_27 rfl ?_
      refine aw_iconst (pc := 28) X (0 : Int32) dX8_readBits_28 (by decide) ?_
      refine aw_zastQ (pc := 29) X dX8_readBits_29 h_r25 (fun M26 g27 => ?_)
      have h_a0 := h_a0.mono g27
      refine aw_iincV (pc := 30) X (fun y => [(3, .int y), (0, .ref (b + a0)), (1, .int v1), (2, .int v2)]) 3 (v := (v3 + (1 : Int32))) dX8_readBits_30 rfl rfl (by decide) (fun _ => rfl) (fun i28 => ?_)
      refine aw_goto (pc := 33) X 17 dX8_readBits_33 (by decide) ?_
      refine aw_sub [1, 2, 3, 0] rfl ?_
      exact ih a0 v1 v2 i28 M26 h_a0
    · refine aw_sub [0, 1, 2] rfl ?_
      exact t_X8_readBits_L36 X hr FU a0 v1 v2 M h_a0
def f_X8_readBits (a0 : Nat) (v1 : Int32) (M : JM) : Option (Unit × JM) := sq (si M a0 43 (gi M a0 9)) fun M1 => sq (si M1 a0 44 (0 : Int32)) fun M3 => sv (1 : Int32) fun i5 => sv (0 : Int32) fun i6 => f_X8_readBits_L17 FU a0 v1 i5 i6 M3
set_option maxRecDepth 10000 in
set_option maxHeartbeats 4000000 in
theorem t_X8_readBits {l : Launch} {D : va_G} {cs : JC} {b : Nat} (a0 : Nat) (v1 : Int32) (M : JM) (h_a0 : oty M a0 18) : ∀ q, f_X8_readBits a0 v1 M = some q → CTy l yX8_readBits (.code yX8_readBits cX8_readBits 6 (Option.none) :: GB) rm_X8_readBits D cs b evV [.ref (b + a0), .int v1] M rm_X8_readBits.cells rm_X8_readBits.slots q := fun q hq => ct_of [(0, .ref (b + a0)), (1, .int v1)] rfl rfl (Nat.le_of_ble_eq_true rfl) hq (fun p e s m args below meth c X hr hin => by
  refine aw_callq (F' := sq (si M a0 43 (gi M a0 9)) fun M1 => sq (si M1 a0 44 (0 : Int32)) fun M3 => sv (1 : Int32) fun i5 => sv (0 : Int32) fun i6 => f_X8_readBits_L17 FU a0 v1 i5 i6 M3) rfl ?_
  refine aw_aload_n (pc := 0) X 0 dX8_readBits_0 rfl ?_
  refine aw_aload_n (pc := 1) X 0 dX8_readBits_1 rfl ?_
  refine gf_X8_142 (pc := 2) X dX8_readBits_2 h_a0 ?_
  refine pf_X8_156 (pc := 5) X dX8_readBits_5 h_a0 (fun M1 g2 => ?_)
  have h_a0 := h_a0.mono g2
  refine aw_aload_n (pc := 8) X 0 dX8_readBits_8 rfl ?_
  refine aw_iconst (pc := 9) X (0 : Int32) dX8_readBits_9 (by decide) ?_
  refine pf_X8_159 (pc := 10) X dX8_readBits_10 h_a0 (fun M3 g4 => ?_)
  have h_a0 := h_a0.mono g4
  refine aw_iconst (pc := 13) X (1 : Int32) dX8_readBits_13 (by decide) ?_
  refine aw_istoreV_n (pc := 14) X (fun y => [(2, .int y), (0, .ref (b + a0)), (1, .int v1)]) dX8_readBits_14 (by decide) (fun _ => rfl) (fun i5 => ?_)
  refine aw_iconst (pc := 15) X (0 : Int32) dX8_readBits_15 (by decide) ?_
  refine aw_istoreV_n (pc := 16) X (fun y => [(3, .int y), (2, .int i5), (0, .ref (b + a0)), (1, .int v1)]) dX8_readBits_16 (by decide) (fun _ => rfl) (fun i6 => ?_)
  refine aw_sub [2, 3, 1, 0] rfl ?_
  exact t_X8_readBits_L17 X hr FU a0 v1 i5 i6 M3 h_a0)
