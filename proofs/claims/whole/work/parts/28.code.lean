/-! programs of the methods, and the rows that their bytecode answers so: written by wip/gen/gen.py out of the printed decode rows -/
/-! ReportBlocks$Block.bytesWithout -/
def rm_X0_bytesWithout : Room := { frames := 1, cells := 0, slots := 0, locals := 22 }
theorem hd_X0_bytesWithout : jHd yX0_bytesWithout 1 := by unfold jHd; decide +kernel
def f_X0_bytesWithout_L28 (k4 : Nat → Int32 → Int32 → Int32 → JM → Option (Int32 × JM)) : Nat → Int32 → Int32 → Int32 → JM → Option (Int32 × JM) := fun a0 v1 v2 v3 M => sv (v3 + (1 : Int32)) fun i3 => k4 a0 v1 v2 i3 M
set_option maxRecDepth 10000 in
set_option maxHeartbeats 4000000 in
theorem t_X0_bytesWithout_L28 {p : Program} {l : Launch} {e : Env} {s : State} {m : MethodId} {args : Array Value} {below : List Frame} {meth : Method} {c : Code} {D : va_G} {cs : JC} {b : Nat} (X : jX p c cX0_bytesWithout 4 s m args RX0 D cs b meth s.heap) (hr : meth.sig.returnType = Option.some Jvm.ClassFile.FieldType.int) (k4 : Nat → Int32 → Int32 → Int32 → JM → Option (Int32 × JM)) (hk4 : ∀ (a0 : Nat) (v1 : Int32) (v2 : Int32) (v3 : Int32) (M : JM), oty M a0 10 → AWO p l e rm_X0_bytesWithout s m args below meth c D cs b 4 s.heap (jE below D cs b evI args s rm_X0_bytesWithout.cells rm_X0_bytesWithout.slots) (k4 a0 v1 v2 v3 M) M 0 0 [(0, .ref (b + a0)), (1, .int v1), (2, .int v2), (3, .int v3)] 4 []) : ∀ (a0 : Nat) (v1 : Int32) (v2 : Int32) (v3 : Int32) (M : JM), oty M a0 10 → AWO p l e rm_X0_bytesWithout s m args below meth c D cs b 4 s.heap (jE below D cs b evI args s rm_X0_bytesWithout.cells rm_X0_bytesWithout.slots) (f_X0_bytesWithout_L28 k4 a0 v1 v2 v3 M) M 0 0 [(0, .ref (b + a0)), (1, .int v1), (2, .int v2), (3, .int v3)] 28 [] := by
  intro a0 v1 v2 v3 M h_a0
  refine aw_callq (F' := sv (v3 + (1 : Int32)) fun i3 => k4 a0 v1 v2 i3 M) rfl ?_
  refine aw_iincV (pc := 28) X (fun y => [(3, .int y), (0, .ref (b + a0)), (1, .int v1), (2, .int v2)]) 3 (v := (v3 + (1 : Int32))) dX0_bytesWithout_28 rfl rfl (by decide) (fun _ => rfl) (fun i3 => ?_)
  refine aw_goto (pc := 31) X 4 dX0_bytesWithout_31 (by decide) ?_
  refine aw_sub [1, 2, 3, 0] rfl ?_
  exact hk4 a0 v1 v2 i3 M h_a0
theorem cl_X0_53 {ρ : Type} {l : Launch} {p : Program} {e : Env} {R : Room} {s : State} {m : MethodId} {args : Array Value} {below : List Frame} {meth : Method} {c : Code} {D : va_G} {cs : JC} {b nL : Nat} {H0 : Heap} {Qf : ρ × JM → State → Prop} {M : JM} {ks sl : Nat} {lv : List (Nat × Value)} {pc : Nat} {st : List Value} {cc : ByteArray} (X : jX p c cc nL s m args RX0 D cs b meth H0) {z0 : Nat} {z1 : Int32} {K : Int32 → JM → Option (ρ × JM)} (hrm : jRm rm_X0_bytesOf 3 R) (hW : (st.map fun v => v.category).sum ≤ 8) {ks2 sl2 : Nat} (hk2 : ks + rm_X0_bytesOf.cells = ks2) (hs2 : sl + rm_X0_bytesOf.slots = sl2) (hroom : ks2 ≤ R.cells ∧ sl2 ≤ R.slots) (hdg : decode cc pc = .ok (.invokevirtual 53, 3)) (h0 : oty M z0 10) (kk : ∀ (r : Int32) (M2 : JM), gn M ≤ gn M2 → AWO p l e R s m args below meth c D cs b nL H0 Qf (K r M2) M2 ks2 sl2 lv (pc + 3) (.int r :: st)) : AWO p l e R s m args below meth c D cs b nL H0 Qf (ob (f_X0_bytesOf z0 z1 M) K) M ks sl lv pc (.int z1 :: .ref (b + z0) :: st) := by
  subst hk2
  subst hs2
  exact aw_callV (ci := 0) X [.int z1] st rfl rfl wl_X0_53 wi_X0_bytesOf wv_X0_bytesOf wc_X0_bytesOf wn_X0 (n := 1) hd_X0_bytesOf rfl hrm hW hroom hdg h0 (t_X0_bytesOf z0 z1 M h0) (fun r M2 g _ => kk r M2 g)
def f_X0_bytesWithout_L4 : Nat → Nat → Int32 → Int32 → Int32 → JM → Option (Int32 × JM)
  | 0, _, _, _, _, _ => none
  | n + 1, a0, v1, v2, v3, M => if v3 < (gi M a0 1) then (if ((v1 >>> (v3 &&& 31)) &&& (1 : Int32)) = 0 then (ob (f_X0_bytesOf a0 v3 M) fun r6 M4 => sv (v2 + r6) fun i7 => f_X0_bytesWithout_L28 (f_X0_bytesWithout_L4 n) a0 v1 i7 v3 M4) else (f_X0_bytesWithout_L28 (f_X0_bytesWithout_L4 n) a0 v1 v2 v3 M)) else (some (v2, M))
set_option maxRecDepth 10000 in
set_option maxHeartbeats 4000000 in
theorem t_X0_bytesWithout_L4 {p : Program} {l : Launch} {e : Env} {s : State} {m : MethodId} {args : Array Value} {below : List Frame} {meth : Method} {c : Code} {D : va_G} {cs : JC} {b : Nat} (X : jX p c cX0_bytesWithout 4 s m args RX0 D cs b meth s.heap) (hr : meth.sig.returnType = Option.some Jvm.ClassFile.FieldType.int) : ∀ (n : Nat) (a0 : Nat) (v1 : Int32) (v2 : Int32) (v3 : Int32) (M : JM), oty M a0 10 → AWO p l e rm_X0_bytesWithout s m args below meth c D cs b 4 s.heap (jE below D cs b evI args s rm_X0_bytesWithout.cells rm_X0_bytesWithout.slots) (f_X0_bytesWithout_L4 n a0 v1 v2 v3 M) M 0 0 [(0, .ref (b + a0)), (1, .int v1), (2, .int v2), (3, .int v3)] 4 [] := by
  intro n
  induction n with
  | zero => intro a0 v1 v2 v3 M h_a0; exact aw_none
  | succ n ih =>
    intro a0 v1 v2 v3 M h_a0
    refine aw_callq (F' := if v3 < (gi M a0 1) then (if ((v1 >>> (v3 &&& 31)) &&& (1 : Int32)) = 0 then (ob (f_X0_bytesOf a0 v3 M) fun r6 M4 => sv (v2 + r6) fun i7 => f_X0_bytesWithout_L28 (f_X0_bytesWithout_L4 n) a0 v1 i7 v3 M4) else (f_X0_bytesWithout_L28 (f_X0_bytesWithout_L4 n) a0 v1 v2 v3 M)) else (some (v2, M))) rfl ?_
    refine aw_iload_n (pc := 4) X 3 dX0_bytesWithout_4 rfl ?_
    refine aw_aload_n (pc := 5) X 0 dX0_bytesWithout_5 rfl ?_
    refine gf_X0_28 (pc := 6) X dX0_bytesWithout_6 h_a0 ?_
    refine aw_icmpge (pc := 9) X 34 dX0_bytesWithout_9 (by decide) ?_ ?_
    · refine aw_iload_n (pc := 12) X 1 dX0_bytesWithout_12 rfl ?_
      refine aw_iload_n (pc := 13) X 3 dX0_bytesWithout_13 rfl ?_
      refine aw_ishr (pc := 14) X dX0_bytesWithout_14 ?_
      refine aw_iconst (pc := 15) X (1 : Int32) dX0_bytesWithout_15 (by decide) ?_
      refine aw_iand (pc := 16) X dX0_bytesWithout_16 ?_
      refine aw_ifne (pc := 17) X 28 dX0_bytesWithout_17 (by decide) ?_ ?_
      · refine aw_iload_n (pc := 20) X 2 dX0_bytesWithout_20 rfl ?_
        refine aw_aload_n (pc := 21) X 0 dX0_bytesWithout_21 rfl ?_
        refine aw_iload_n (pc := 22) X 3 dX0_bytesWithout_22 rfl ?_
        refine cl_X0_53 (pc := 23) X ⟨Nat.le_of_ble_eq_true rfl, Nat.le_of_ble_eq_true rfl⟩ (Nat.le_of_ble_eq_true rfl) (ks2 := 0) (sl2 := 0) rfl rfl ⟨(Nat.le_of_ble_eq_true rfl), (Nat.le_of_ble_eq_true rfl)⟩ dX0_bytesWithout_23 h_a0 (fun r6 M4 g5 => ?_)
        have h_a0 := h_a0.mono g5
        refine aw_iadd (pc := 26) X dX0_bytesWithout_26 ?_
        refine aw_istoreV_n (pc := 27) X (fun y => [(2, .int y), (0, .ref (b + a0)), (1, .int v1), (3, .int v3)]) dX0_bytesWithout_27 (by decide) (fun _ => rfl) (fun i7 => ?_)
        refine aw_sub [1, 2, 0, 3] rfl ?_
        exact t_X0_bytesWithout_L28 X hr (f_X0_bytesWithout_L4 n) ih a0 v1 i7 v3 M4 h_a0
      · refine aw_sub [0, 1, 2, 3] rfl ?_
        exact t_X0_bytesWithout_L28 X hr (f_X0_bytesWithout_L4 n) ih a0 v1 v2 v3 M h_a0
    · refine aw_iload_n (pc := 34) X 2 dX0_bytesWithout_34 rfl ?_
      exact aw_iret (pc := 35) X hr dX0_bytesWithout_35 (Nat.le_of_ble_eq_true rfl) (Nat.le_of_ble_eq_true rfl)
def f_X0_bytesWithout (a0 : Nat) (v1 : Int32) (M : JM) : Option (Int32 × JM) := sv (0 : Int32) fun i1 => sv (0 : Int32) fun i2 => f_X0_bytesWithout_L4 FU a0 v1 i1 i2 M
set_option maxRecDepth 10000 in
set_option maxHeartbeats 4000000 in
theorem t_X0_bytesWithout {l : Launch} {D : va_G} {cs : JC} {b : Nat} (a0 : Nat) (v1 : Int32) (M : JM) (h_a0 : oty M a0 10) : ∀ q, f_X0_bytesWithout a0 v1 M = some q → CTy l yX0_bytesWithout (.code yX0_bytesWithout cX0_bytesWithout 4 (Option.some Jvm.ClassFile.FieldType.int) :: GB) rm_X0_bytesWithout D cs b evI [.ref (b + a0), .int v1] M rm_X0_bytesWithout.cells rm_X0_bytesWithout.slots q := fun q hq => ct_of [(0, .ref (b + a0)), (1, .int v1)] rfl rfl (Nat.le_of_ble_eq_true rfl) hq (fun p e s m args below meth c X hr hin => by
  refine aw_callq (F' := sv (0 : Int32) fun i1 => sv (0 : Int32) fun i2 => f_X0_bytesWithout_L4 FU a0 v1 i1 i2 M) rfl ?_
  refine aw_iconst (pc := 0) X (0 : Int32) dX0_bytesWithout_0 (by decide) ?_
  refine aw_istoreV_n (pc := 1) X (fun y => [(2, .int y), (0, .ref (b + a0)), (1, .int v1)]) dX0_bytesWithout_1 (by decide) (fun _ => rfl) (fun i1 => ?_)
  refine aw_iconst (pc := 2) X (0 : Int32) dX0_bytesWithout_2 (by decide) ?_
  refine aw_istoreV_n (pc := 3) X (fun y => [(3, .int y), (2, .int i1), (0, .ref (b + a0)), (1, .int v1)]) dX0_bytesWithout_3 (by decide) (fun _ => rfl) (fun i2 => ?_)
  refine aw_sub [2, 3, 1, 0] rfl ?_
  exact t_X0_bytesWithout_L4 X hr FU a0 v1 i1 i2 M h_a0)
/-! ReportBlocks.copy -/
def rm_X7_copy : Room := { frames := 2, cells := 0, slots := 0, locals := 45 }
theorem hd_X7_copy : jHd yX7_copy 1 := by unfold jHd; decide +kernel
theorem cl_X7_223 {ρ : Type} {l : Launch} {p : Program} {e : Env} {R : Room} {s : State} {m : MethodId} {args : Array Value} {below : List Frame} {meth : Method} {c : Code} {D : va_G} {cs : JC} {b nL : Nat} {H0 : Heap} {Qf : ρ × JM → State → Prop} {M : JM} {ks sl : Nat} {lv : List (Nat × Value)} {pc : Nat} {st : List Value} {cc : ByteArray} (X : jX p c cc nL s m args RX7 D cs b meth H0) {z0 : Nat} {z1 : Int32} {K : Int32 → JM → Option (ρ × JM)} (hrm : jRm rm_X0_bytesWithout 4 R) (hW : (st.map fun v => v.category).sum ≤ 8) {ks2 sl2 : Nat} (hk2 : ks + rm_X0_bytesWithout.cells = ks2) (hs2 : sl + rm_X0_bytesWithout.slots = sl2) (hroom : ks2 ≤ R.cells ∧ sl2 ≤ R.slots) (hdg : decode cc pc = .ok (.invokevirtual 223, 3)) (h0 : oty M z0 10) (kk : ∀ (r : Int32) (M2 : JM), gn M ≤ gn M2 → AWO p l e R s m args below meth c D cs b nL H0 Qf (K r M2) M2 ks2 sl2 lv (pc + 3) (.int r :: st)) : AWO p l e R s m args below meth c D cs b nL H0 Qf (ob (f_X0_bytesWithout z0 z1 M) K) M ks sl lv pc (.int z1 :: .ref (b + z0) :: st) := by
  subst hk2
  subst hs2
  exact aw_callV (ci := 0) X [.int z1] st rfl rfl wl_X7_223 wi_X0_bytesWithout wv_X0_bytesWithout wc_X0_bytesWithout wn_X0 (n := 1) hd_X0_bytesWithout rfl hrm hW hroom hdg h0 (t_X0_bytesWithout z0 z1 M h0) (fun r M2 g _ => kk r M2 g)
def f_X7_copy_L140 (k86 : Nat → Int32 → Int32 → Int32 → JM → Option (Int32 × JM)) : Nat → Int32 → Int32 → Int32 → JM → Option (Int32 × JM) := fun a0 v1 v4 v5 M => sv (v5 + (1 : Int32)) fun i27 => k86 a0 v1 v4 i27 M
set_option maxRecDepth 10000 in
set_option maxHeartbeats 4000000 in
theorem t_X7_copy_L140 {p : Program} {l : Launch} {e : Env} {s : State} {m : MethodId} {args : Array Value} {below : List Frame} {meth : Method} {c : Code} {D : va_G} {cs : JC} {b : Nat} (X : jX p c cX7_copy 6 s m args RX7 D cs b meth s.heap) (hr : meth.sig.returnType = Option.some Jvm.ClassFile.FieldType.int) (k86 : Nat → Int32 → Int32 → Int32 → JM → Option (Int32 × JM)) (hk86 : ∀ (a0 : Nat) (v1 : Int32) (v4 : Int32) (v5 : Int32) (M : JM), oty M a0 17 → AWO p l e rm_X7_copy s m args below meth c D cs b 6 s.heap (jE below D cs b evI args s rm_X7_copy.cells rm_X7_copy.slots) (k86 a0 v1 v4 v5 M) M 0 0 [(0, .ref (b + a0)), (1, .int v1), (4, .int v4), (5, .int v5)] 86 []) : ∀ (a0 : Nat) (v1 : Int32) (v4 : Int32) (v5 : Int32) (M : JM), oty M a0 17 → AWO p l e rm_X7_copy s m args below meth c D cs b 6 s.heap (jE below D cs b evI args s rm_X7_copy.cells rm_X7_copy.slots) (f_X7_copy_L140 k86 a0 v1 v4 v5 M) M 0 0 [(0, .ref (b + a0)), (1, .int v1), (4, .int v4), (5, .int v5)] 140 [] := by
  intro a0 v1 v4 v5 M h_a0
  refine aw_callq (F' := sv (v5 + (1 : Int32)) fun i27 => k86 a0 v1 v4 i27 M) rfl ?_
  refine aw_iincV (pc := 140) X (fun y => [(5, .int y), (0, .ref (b + a0)), (1, .int v1), (4, .int v4)]) 3 (v := (v5 + (1 : Int32))) dX7_copy_140 rfl rfl (by decide) (fun _ => rfl) (fun i27 => ?_)
  refine aw_goto (pc := 143) X 86 dX7_copy_143 (by decide) ?_
  refine aw_sub [1, 2, 3, 0] rfl ?_
  exact hk86 a0 v1 v4 i27 M h_a0
theorem gf_X7_226 {ρ : Type} {l : Launch} {p : Program} {e : Env} {R : Room} {s : State} {m : MethodId} {args : Array Value} {below : List Frame} {meth : Method} {c : Code} {D : va_G} {cs : JC} {b nL : Nat} {H0 : Heap} {Qf : ρ × JM → State → Prop} {M : JM} {ks sl : Nat} {lv : List (Nat × Value)} {pc : Nat} {st : List Value} {cc : ByteArray} {k : Nat} (X : jX p c cc nL s m args RX7 D cs b meth H0) {K : Nat → Option (ρ × JM)} (hdg : decode cc pc = .ok (.getfield 226, 3)) (ho : oty M k 10) (kk : ∀ r : Nat, oty M r 1 → AWO p l e R s m args below meth c D cs b nL H0 Qf (K r) M ks sl lv (pc + 3) (.ref (b + r) :: st)) : AWO p l e R s m args below meth c D cs b nL H0 Qf (orf (gr M k 4) K) M ks sl lv pc (.ref (b + k) :: st) := aw_getR (ci := 0) (τ := 1) X 4 rfl gy_X0 (by decide) (by decide) rfl rfl (by decide) wf_X7_226 hdg ho kk
theorem cl_X7_229 {ρ : Type} {l : Launch} {p : Program} {e : Env} {R : Room} {s : State} {m : MethodId} {args : Array Value} {below : List Frame} {meth : Method} {c : Code} {D : va_G} {cs : JC} {b nL : Nat} {H0 : Heap} {Qf : ρ × JM → State → Prop} {M : JM} {ks sl : Nat} {lv : List (Nat × Value)} {pc : Nat} {st : List Value} {cc : ByteArray} (X : jX p c cc nL s m args RX7 D cs b meth H0) {z0 : Nat} {z1 : Int32} {K : Int32 → JM → Option (ρ × JM)} (hrm : jRm rm_X0_bytesOf 3 R) (hW : (st.map fun v => v.category).sum ≤ 8) {ks2 sl2 : Nat} (hk2 : ks + rm_X0_bytesOf.cells = ks2) (hs2 : sl + rm_X0_bytesOf.slots = sl2) (hroom : ks2 ≤ R.cells ∧ sl2 ≤ R.slots) (hdg : decode cc pc = .ok (.invokevirtual 229, 3)) (h0 : oty M z0 10) (kk : ∀ (r : Int32) (M2 : JM), gn M ≤ gn M2 → AWO p l e R s m args below meth c D cs b nL H0 Qf (K r M2) M2 ks2 sl2 lv (pc + 3) (.int r :: st)) : AWO p l e R s m args below meth c D cs b nL H0 Qf (ob (f_X0_bytesOf z0 z1 M) K) M ks sl lv pc (.int z1 :: .ref (b + z0) :: st) := by
  subst hk2
  subst hs2
  exact aw_callV (ci := 0) X [.int z1] st rfl rfl wl_X7_229 wi_X0_bytesOf wv_X0_bytesOf wc_X0_bytesOf wn_X0 (n := 1) hd_X0_bytesOf rfl hrm hW hroom hdg h0 (t_X0_bytesOf z0 z1 M h0) (fun r M2 g _ => kk r M2 g)
def f_X7_copy_L86 : Nat → Nat → Int32 → Int32 → Int32 → JM → Option (Int32 × JM)
  | 0, _, _, _, _, _ => none
  | n + 1, a0, v1, v4, v5, M => orf (gr M a0 4) fun r26 => if v5 < (gi M r26 1) then (if ((v1 >>> (v5 &&& 31)) &&& (1 : Int32)) = 0 then (orf (gr M a0 2) fun r28 => orf (gr M a0 4) fun r29 => orf (gr M r29 2) fun r30 => orf (gr M a0 4) fun r31 => orf (gr M r31 4) fun r32 => if 0 ≤ v5 ∧ v5 < ln r32 then (orf (gr M a0 4) fun r33 => ob (f_X0_bytesOf r33 v5 M) fun r36 M34 => ob (f_X4_putAll r28 r30 (gi M r32 v5) r36 M34) fun _ M37 => f_X7_copy_L140 (f_X7_copy_L86 n) a0 v1 v4 v5 M37) else none) else (f_X7_copy_L140 (f_X7_copy_L86 n) a0 v1 v4 v5 M)) else (some (v4, M))
set_option maxRecDepth 10000 in
set_option maxHeartbeats 4000000 in
theorem t_X7_copy_L86 {p : Program} {l : Launch} {e : Env} {s : State} {m : MethodId} {args : Array Value} {below : List Frame} {meth : Method} {c : Code} {D : va_G} {cs : JC} {b : Nat} (X : jX p c cX7_copy 6 s m args RX7 D cs b meth s.heap) (hr : meth.sig.returnType = Option.some Jvm.ClassFile.FieldType.int) : ∀ (n : Nat) (a0 : Nat) (v1 : Int32) (v4 : Int32) (v5 : Int32) (M : JM), oty M a0 17 → AWO p l e rm_X7_copy s m args below meth c D cs b 6 s.heap (jE below D cs b evI args s rm_X7_copy.cells rm_X7_copy.slots) (f_X7_copy_L86 n a0 v1 v4 v5 M) M 0 0 [(0, .ref (b + a0)), (1, .int v1), (4, .int v4), (5, .int v5)] 86 [] := by
  intro n
  induction n with
  | zero => intro a0 v1 v4 v5 M h_a0; exact aw_none
  | succ n ih =>
    intro a0 v1 v4 v5 M h_a0
    refine aw_callq (F' := orf (gr M a0 4) fun r26 => if v5 < (gi M r26 1) then (if ((v1 >>> (v5 &&& 31)) &&& (1 : Int32)) = 0 then (orf (gr M a0 2) fun r28 => orf (gr M a0 4) fun r29 => orf (gr M r29 2) fun r30 => orf (gr M a0 4) fun r31 => orf (gr M r31 4) fun r32 => if 0 ≤ v5 ∧ v5 < ln r32 then (orf (gr M a0 4) fun r33 => ob (f_X0_bytesOf r33 v5 M) fun r36 M34 => ob (f_X4_putAll r28 r30 (gi M r32 v5) r36 M34) fun _ M37 => f_X7_copy_L140 (f_X7_copy_L86 n) a0 v1 v4 v5 M37) else none) else (f_X7_copy_L140 (f_X7_copy_L86 n) a0 v1 v4 v5 M)) else (some (v4, M))) rfl ?_
    refine aw_iload (pc := 86) X 3 dX7_copy_86 rfl ?_
    refine aw_aload_n (pc := 88) X 0 dX7_copy_88 rfl ?_
    refine gf_X7_34 (pc := 89) X dX7_copy_89 h_a0 (fun r26 h_r26 => ?_)
    refine gf_X7_151 (pc := 92) X dX7_copy_92 h_r26 ?_
    refine aw_icmpge (pc := 95) X 146 dX7_copy_95 (by decide) ?_ ?_
    · refine aw_iload_n (pc := 98) X 1 dX7_copy_98 rfl ?_
      refine aw_iload (pc := 99) X 3 dX7_copy_99 rfl ?_
      refine aw_ishr (pc := 101) X dX7_copy_101 ?_
      refine aw_iconst (pc := 102) X (1 : Int32) dX7_copy_102 (by decide) ?_
      refine aw_iand (pc := 103) X dX7_copy_103 ?_
      refine aw_ifne (pc := 104) X 140 dX7_copy_104 (by decide) ?_ ?_
      · refine aw_aload_n (pc := 107) X 0 dX7_copy_107 rfl ?_
        refine gf_X7_18 (pc := 108) X dX7_copy_108 h_a0 (fun r28 h_r28 => ?_)
        refine aw_aload_n (pc := 111) X 0 dX7_copy_111 rfl ?_
        refine gf_X7_34 (pc := 112) X dX7_copy_112 h_a0 (fun r29 h_r29 => ?_)
        refine gf_X7_166 (pc := 115) X dX7_copy_115 h_r29 (fun r30 h_r30 => ?_)
        refine aw_aload_n (pc := 118) X 0 dX7_copy_118 rfl ?_
        refine gf_X7_34 (pc := 119) X dX7_copy_119 h_a0 (fun r31 h_r31 => ?_)
        refine gf_X7_226 (pc := 122) X dX7_copy_122 h_r31 (fun r32 h_r32 => ?_)
        refine aw_iload (pc := 125) X 3 dX7_copy_125 rfl ?_
        refine aw_iald (pc := 127) X dX7_copy_127 h_r32 ?_
        refine aw_aload_n (pc := 128) X 0 dX7_copy_128 rfl ?_
        refine gf_X7_34 (pc := 129) X dX7_copy_129 h_a0 (fun r33 h_r33 => ?_)
        refine aw_iload (pc := 132) X 3 dX7_copy_132 rfl ?_
        refine cl_X7_229 (pc := 134) X ⟨Nat.le_of_ble_eq_true rfl, Nat.le_of_ble_eq_true rfl⟩ (Nat.le_of_ble_eq_true rfl) (ks2 := 0) (sl2 := 0) rfl rfl ⟨(Nat.le_of_ble_eq_true rfl), (Nat.le_of_ble_eq_true rfl)⟩ dX7_copy_134 h_r33 (fun r36 M34 g35 => ?_)
        have h_a0 := h_a0.mono g35
        have h_r30 := h_r30.mono g35
        have h_r28 := h_r28.mono g35
        refine cl_X7_219 (pc := 137) X ⟨Nat.le_of_ble_eq_true rfl, Nat.le_of_ble_eq_true rfl⟩ (Nat.le_of_ble_eq_true rfl) (ks2 := 0) (sl2 := 0) rfl rfl ⟨(Nat.le_of_ble_eq_true rfl), (Nat.le_of_ble_eq_true rfl)⟩ dX7_copy_137 h_r28 h_r30 (fun M37 g38 => ?_)
        have h_a0 := h_a0.mono g38
        refine aw_sub [0, 1, 2, 3] rfl ?_
        exact t_X7_copy_L140 X hr (f_X7_copy_L86 n) ih a0 v1 v4 v5 M37 h_a0
      · refine aw_sub [0, 1, 2, 3] rfl ?_
        exact t_X7_copy_L140 X hr (f_X7_copy_L86 n) ih a0 v1 v4 v5 M h_a0
    · refine aw_iload (pc := 146) X 2 dX7_copy_146 rfl ?_
      exact aw_iret (pc := 148) X hr dX7_copy_148 (Nat.le_of_ble_eq_true rfl) (Nat.le_of_ble_eq_true rfl)
def f_X7_copy (a0 : Nat) (v1 : Int32) (M : JM) : Option (Int32 × JM) := if v1 < 0 then (some ((-1 : Int32), M)) else (orf (gr M a0 4) fun r1 => if (v1 >>> ((gi M r1 1) &&& 31)) = 0 then (orf (gr M a0 4) fun r2 => ob (f_X7_categoryAt a0 (gi M r2 0) M) fun o6 M3 => oca o6 (orf (gr M3 a0 4) fun r7 => ob (f_X0_bytesWithout r7 v1 M3) fun r10 M8 => sv r10 fun i11 => some ((-2 : Int32), M8)) fun r5 => orf (gr M3 a0 4) fun r12 => ob (f_X0_bytesWithout r12 v1 M3) fun r15 M13 => sv r15 fun i16 => if i16 = 0 then (some ((-2 : Int32), M13)) else (sv ((3 : Int32) + i16) fun i17 => orf (gr M13 a0 2) fun r18 => ob (f_X4_hasRoom r18 i17 M13) fun r21 M19 => if r21 = true then (orf (gr M19 a0 2) fun r22 => ob (f_X4_putHead r22 (gi M19 r5 0) i17 M19) fun _ M23 => sv (0 : Int32) fun i25 => f_X7_copy_L86 FU a0 v1 i17 i25 M23) else (some ((-3 : Int32), M19)))) else (some ((-1 : Int32), M)))
set_option maxRecDepth 10000 in
set_option maxHeartbeats 4000000 in
theorem t_X7_copy {l : Launch} {D : va_G} {cs : JC} {b : Nat} (a0 : Nat) (v1 : Int32) (M : JM) (h_a0 : oty M a0 17) : ∀ q, f_X7_copy a0 v1 M = some q → CTy l yX7_copy (.code yX7_copy cX7_copy 6 (Option.some Jvm.ClassFile.FieldType.int) :: GB) rm_X7_copy D cs b evI [.ref (b + a0), .int v1] M rm_X7_copy.cells rm_X7_copy.slots q := fun q hq => ct_of [(0, .ref (b + a0)), (1, .int v1)] rfl rfl (Nat.le_of_ble_eq_true rfl) hq (fun p e s m args below meth c X hr hin => by
  refine aw_callq (F' := if v1 < 0 then (some ((-1 : Int32), M)) else (orf (gr M a0 4) fun r1 => if (v1 >>> ((gi M r1 1) &&& 31)) = 0 then (orf (gr M a0 4) fun r2 => ob (f_X7_categoryAt a0 (gi M r2 0) M) fun o6 M3 => oca o6 (orf (gr M3 a0 4) fun r7 => ob (f_X0_bytesWithout r7 v1 M3) fun r10 M8 => sv r10 fun i11 => some ((-2 : Int32), M8)) fun r5 => orf (gr M3 a0 4) fun r12 => ob (f_X0_bytesWithout r12 v1 M3) fun r15 M13 => sv r15 fun i16 => if i16 = 0 then (some ((-2 : Int32), M13)) else (sv ((3 : Int32) + i16) fun i17 => orf (gr M13 a0 2) fun r18 => ob (f_X4_hasRoom r18 i17 M13) fun r21 M19 => if r21 = true then (orf (gr M19 a0 2) fun r22 => ob (f_X4_putHead r22 (gi M19 r5 0) i17 M19) fun _ M23 => sv (0 : Int32) fun i25 => f_X7_copy_L86 FU a0 v1 i17 i25 M23) else (some ((-3 : Int32), M19)))) else (some ((-1 : Int32), M)))) rfl ?_
  refine aw_iload_n (pc := 0) X 1 dX7_copy_0 rfl ?_
  refine aw_iflt (pc := 1) X 16 dX7_copy_1 (by decide) ?_ ?_
  · refine aw_iconst (pc := 16) X (-1 : Int32) dX7_copy_16 (by decide) ?_
    exact aw_iret (pc := 17) X hr dX7_copy_17 (Nat.le_of_ble_eq_true rfl) (Nat.le_of_ble_eq_true rfl)
  · refine aw_iload_n (pc := 4) X 1 dX7_copy_4 rfl ?_
    refine aw_aload_n (pc := 5) X 0 dX7_copy_5 rfl ?_
    refine gf_X7_34 (pc := 6) X dX7_copy_6 h_a0 (fun r1 h_r1 => ?_)
    refine gf_X7_151 (pc := 9) X dX7_copy_9 h_r1 ?_
    refine aw_ishr (pc := 12) X dX7_copy_12 ?_
    refine aw_ifeq (pc := 13) X 18 dX7_copy_13 (by decide) ?_ ?_
    · refine aw_aload_n (pc := 18) X 0 dX7_copy_18 rfl ?_
      refine aw_aload_n (pc := 19) X 0 dX7_copy_19 rfl ?_
      refine gf_X7_34 (pc := 20) X dX7_copy_20 h_a0 (fun r2 h_r2 => ?_)
      refine gf_X7_154 (pc := 23) X dX7_copy_23 h_r2 ?_
      refine cl_X7_66 (pc := 26) X ⟨Nat.le_of_ble_eq_true rfl, Nat.le_of_ble_eq_true rfl⟩ (Nat.le_of_ble_eq_true rfl) (ks2 := 0) (sl2 := 0) rfl rfl ⟨(Nat.le_of_ble_eq_true rfl), (Nat.le_of_ble_eq_true rfl)⟩ dX7_copy_26 h_a0 (fun M3 g4 => ?_) (fun r5 M3 g4 h_r5 => ?_)
      · have h_a0 := h_a0.mono g4
        refine aw_astore_n0 (pc := 29) X [(2, .null), (0, .ref (b + a0)), (1, .int v1)] dX7_copy_29 (by decide) rfl ?_
        refine aw_aload_n (pc := 30) X 1 dX7_copy_30 rfl ?_
        refine gf_X7_34 (pc := 31) X dX7_copy_31 h_a0 (fun r7 h_r7 => ?_)
        refine aw_iload_n (pc := 34) X 2 dX7_copy_34 rfl ?_
        refine cl_X7_223 (pc := 35) X ⟨Nat.le_of_ble_eq_true rfl, Nat.le_of_ble_eq_true rfl⟩ (Nat.le_of_ble_eq_true rfl) (ks2 := 0) (sl2 := 0) rfl rfl ⟨(Nat.le_of_ble_eq_true rfl), (Nat.le_of_ble_eq_true rfl)⟩ dX7_copy_35 h_r7 (fun r10 M8 g9 => ?_)
        have h_a0 := h_a0.mono g9
        refine aw_istoreV_n (pc := 38) X (fun y => [(3, .int y), (2, .null), (0, .ref (b + a0)), (1, .int v1)]) dX7_copy_38 (by decide) (fun _ => rfl) (fun i11 => ?_)
        refine aw_aload_n0 (pc := 39) X 1 dX7_copy_39 rfl ?_
        refine aw_ifnull_n (pc := 40) X 47 dX7_copy_40 (by decide) ?_
        refine aw_bipush (pc := 47) X (-2 : Int32) dX7_copy_47 (by decide) ?_
        exact aw_iret (pc := 49) X hr dX7_copy_49 (Nat.le_of_ble_eq_true rfl) (Nat.le_of_ble_eq_true rfl)
      · have h_a0 := h_a0.mono g4
        refine aw_astore_n (pc := 29) X [(2, .ref (b + r5)), (0, .ref (b + a0)), (1, .int v1)] dX7_copy_29 (by decide) rfl ?_
        refine aw_aload_n (pc := 30) X 1 dX7_copy_30 rfl ?_
        refine gf_X7_34 (pc := 31) X dX7_copy_31 h_a0 (fun r12 h_r12 => ?_)
        refine aw_iload_n (pc := 34) X 2 dX7_copy_34 rfl ?_
        refine cl_X7_223 (pc := 35) X ⟨Nat.le_of_ble_eq_true rfl, Nat.le_of_ble_eq_true rfl⟩ (Nat.le_of_ble_eq_true rfl) (ks2 := 0) (sl2 := 0) rfl rfl ⟨(Nat.le_of_ble_eq_true rfl), (Nat.le_of_ble_eq_true rfl)⟩ dX7_copy_35 h_r12 (fun r15 M13 g14 => ?_)
        have h_a0 := h_a0.mono g14
        have h_r5 := h_r5.mono g14
        refine aw_istoreV_n (pc := 38) X (fun y => [(3, .int y), (2, .ref (b + r5)), (0, .ref (b + a0)), (1, .int v1)]) dX7_copy_38 (by decide) (fun _ => rfl) (fun i16 => ?_)
        refine aw_aload_n (pc := 39) X 1 dX7_copy_39 rfl ?_
        refine aw_ifnull_r (pc := 40) X dX7_copy_40 ?_
        refine aw_iload_n (pc := 43) X 0 dX7_copy_43 rfl ?_
        refine aw_ifne (pc := 44) X 50 dX7_copy_44 (by decide) ?_ ?_
        · refine aw_bipush (pc := 47) X (-2 : Int32) dX7_copy_47 (by decide) ?_
          exact aw_iret (pc := 49) X hr dX7_copy_49 (Nat.le_of_ble_eq_true rfl) (Nat.le_of_ble_eq_true rfl)
        · refine aw_iconst (pc := 50) X (3 : Int32) dX7_copy_50 (by decide) ?_
          refine aw_iload_n (pc := 51) X 0 dX7_copy_51 rfl ?_
          refine aw_iadd (pc := 52) X dX7_copy_52 ?_
          refine aw_istoreV (pc := 53) X (fun y => [(4, .int y), (3, .int i16), (2, .ref (b + r5)), (0, .ref (b + a0)), (1, .int v1)]) dX7_copy_53 (by decide) (fun _ => rfl) (fun i17 => ?_)
          refine aw_aload_n (pc := 55) X 3 dX7_copy_55 rfl ?_
          refine gf_X7_18 (pc := 56) X dX7_copy_56 h_a0 (fun r18 h_r18 => ?_)
          refine aw_iload (pc := 59) X 0 dX7_copy_59 rfl ?_
          refine cl_X7_108 (pc := 61) X ⟨Nat.le_of_ble_eq_true rfl, Nat.le_of_ble_eq_true rfl⟩ (Nat.le_of_ble_eq_true rfl) (ks2 := 0) (sl2 := 0) rfl rfl ⟨(Nat.le_of_ble_eq_true rfl), (Nat.le_of_ble_eq_true rfl)⟩ dX7_copy_61 h_r18 (fun r21 M19 g20 => ?_)
          have h_a0 := h_a0.mono g20
          have h_r5 := h_r5.mono g20
          refine aw_ifneB (pc := 64) X 70 dX7_copy_64 (by decide) ?_ ?_
          · refine aw_aload_n (pc := 70) X 3 dX7_copy_70 rfl ?_
            refine gf_X7_18 (pc := 71) X dX7_copy_71 h_a0 (fun r22 h_r22 => ?_)
            refine aw_aload_n (pc := 74) X 2 dX7_copy_74 rfl ?_
            refine gf_X7_204 (pc := 75) X dX7_copy_75 h_r5 ?_
            refine aw_iload (pc := 78) X 0 dX7_copy_78 rfl ?_
            refine cl_X7_207 (pc := 80) X ⟨Nat.le_of_ble_eq_true rfl, Nat.le_of_ble_eq_true rfl⟩ (Nat.le_of_ble_eq_true rfl) (ks2 := 0) (sl2 := 0) rfl rfl ⟨(Nat.le_of_ble_eq_true rfl), (Nat.le_of_ble_eq_true rfl)⟩ dX7_copy_80 h_r22 (fun M23 g24 => ?_)
            have h_a0 := h_a0.mono g24
            have h_r5 := h_r5.mono g24
            refine aw_iconst (pc := 83) X (0 : Int32) dX7_copy_83 (by decide) ?_
            refine aw_istoreV (pc := 84) X (fun y => [(5, .int y), (4, .int i17), (3, .int i16), (2, .ref (b + r5)), (0, .ref (b + a0)), (1, .int v1)]) dX7_copy_84 (by decide) (fun _ => rfl) (fun i25 => ?_)
            refine aw_sub [4, 5, 1, 0] rfl ?_
            exact t_X7_copy_L86 X hr FU a0 v1 i17 i25 M23 h_a0
          · refine aw_bipush (pc := 67) X (-3 : Int32) dX7_copy_67 (by decide) ?_
            exact aw_iret (pc := 69) X hr dX7_copy_69 (Nat.le_of_ble_eq_true rfl) (Nat.le_of_ble_eq_true rfl)
    · refine aw_iconst (pc := 16) X (-1 : Int32) dX7_copy_16 (by decide) ?_
      exact aw_iret (pc := 17) X hr dX7_copy_17 (Nat.le_of_ble_eq_true rfl) (Nat.le_of_ble_eq_true rfl))
/-! ReportBlocksModel.copy -/
def rm_X8_copy : Room := { frames := 1, cells := 0, slots := 0, locals := 22 }
theorem hd_X8_copy : jHd yX8_copy 1 := by unfold jHd; decide +kernel
def f_X8_copy_L171 (k117 : Nat → Int32 → Int32 → Int32 → JM → Option (Int32 × JM)) : Nat → Int32 → Int32 → Int32 → JM → Option (Int32 × JM) := fun a0 v1 v2 v3 M => sv (v3 + (1 : Int32)) fun i17 => k117 a0 v1 v2 i17 M
set_option maxRecDepth 10000 in
set_option maxHeartbeats 4000000 in
theorem t_X8_copy_L171 {p : Program} {l : Launch} {e : Env} {s : State} {m : MethodId} {args : Array Value} {below : List Frame} {meth : Method} {c : Code} {D : va_G} {cs : JC} {b : Nat} (X : jX p c cX8_copy 5 s m args RX8 D cs b meth s.heap) (hr : meth.sig.returnType = Option.some Jvm.ClassFile.FieldType.int) (k117 : Nat → Int32 → Int32 → Int32 → JM → Option (Int32 × JM)) (hk117 : ∀ (a0 : Nat) (v1 : Int32) (v2 : Int32) (v3 : Int32) (M : JM), oty M a0 18 → AWO p l e rm_X8_copy s m args below meth c D cs b 5 s.heap (jE below D cs b evI args s rm_X8_copy.cells rm_X8_copy.slots) (k117 a0 v1 v2 v3 M) M 0 0 [(0, .ref (b + a0)), (1, .int v1), (2, .int v2), (3, .int v3)] 117 []) : ∀ (a0 : Nat) (v1 : Int32) (v2 : Int32) (v3 : Int32) (M : JM), oty M a0 18 → AWO p l e rm_X8_copy s m args below meth c D cs b 5 s.heap (jE below D cs b evI args s rm_X8_copy.cells rm_X8_copy.slots) (f_X8_copy_L171 k117 a0 v1 v2 v3 M) M 0 0 [(0, .ref (b + a0)), (1, .int v1), (2, .int v2), (3, .int v3)] 171 [] := by
  intro a0 v1 v2 v3 M h_a0
  refine aw_callq (F' := sv (v3 + (1 : Int32)) fun i17 => k117 a0 v1 v2 i17 M) rfl ?_
  refine aw_iincV (pc := 171) X (fun y => [(3, .int y), (0, .ref (b + a0)), (1, .int v1), (2, .int v2)]) 3 (v := (v3 + (1 : Int32))) dX8_copy_171 rfl rfl (by decide) (fun _ => rfl) (fun i17 => ?_)
  refine aw_goto (pc := 174) X 117 dX8_copy_174 (by decide) ?_
  refine aw_sub [1, 2, 3, 0] rfl ?_
  exact hk117 a0 v1 v2 i17 M h_a0
def f_X8_copy_L133 (k117 : Nat → Int32 → Int32 → Int32 → JM → Option (Int32 × JM)) : Nat → Nat → Int32 → Int32 → Int32 → Int32 → JM → Option (Int32 × JM)
  | 0, _, _, _, _, _, _ => none
  | n + 1, a0, v1, v2, v3, v4, M => orf (gr M a0 17) fun r16 => if 0 ≤ (v3 + (1 : Int32)) ∧ (v3 + (1 : Int32)) < ln r16 then (if v4 < (gi M r16 (v3 + (1 : Int32))) then (if ((v1 >>> (v3 &&& 31)) &&& (1 : Int32)) = 0 then (orf (gr M a0 16) fun r18 => if 0 ≤ v4 ∧ v4 < ln r18 then (ob (f_X8_put a0 (gi M r18 v4) M) fun _ M19 => sv (v4 + (1 : Int32)) fun i21 => (f_X8_copy_L133 k117 n) a0 v1 v2 v3 i21 M19) else none) else (f_X8_copy_L171 k117 a0 v1 v2 v3 M)) else (f_X8_copy_L171 k117 a0 v1 v2 v3 M)) else none
set_option maxRecDepth 10000 in
set_option maxHeartbeats 4000000 in
theorem t_X8_copy_L133 {p : Program} {l : Launch} {e : Env} {s : State} {m : MethodId} {args : Array Value} {below : List Frame} {meth : Method} {c : Code} {D : va_G} {cs : JC} {b : Nat} (X : jX p c cX8_copy 5 s m args RX8 D cs b meth s.heap) (hr : meth.sig.returnType = Option.some Jvm.ClassFile.FieldType.int) (k117 : Nat → Int32 → Int32 → Int32 → JM → Option (Int32 × JM)) (hk117 : ∀ (a0 : Nat) (v1 : Int32) (v2 : Int32) (v3 : Int32) (M : JM), oty M a0 18 → AWO p l e rm_X8_copy s m args below meth c D cs b 5 s.heap (jE below D cs b evI args s rm_X8_copy.cells rm_X8_copy.slots) (k117 a0 v1 v2 v3 M) M 0 0 [(0, .ref (b + a0)), (1, .int v1), (2, .int v2), (3, .int v3)] 117 []) : ∀ (n : Nat) (a0 : Nat) (v1 : Int32) (v2 : Int32) (v3 : Int32) (v4 : Int32) (M : JM), oty M a0 18 → AWO p l e rm_X8_copy s m args below meth c D cs b 5 s.heap (jE below D cs b evI args s rm_X8_copy.cells rm_X8_copy.slots) (f_X8_copy_L133 k117 n a0 v1 v2 v3 v4 M) M 0 0 [(0, .ref (b + a0)), (1, .int v1), (2, .int v2), (3, .int v3), (4, .int v4)] 133 [] := by
  intro n
  induction n with
  | zero => intro a0 v1 v2 v3 v4 M h_a0; exact aw_none
  | succ n ih =>
    intro a0 v1 v2 v3 v4 M h_a0
    refine aw_callq (F' := orf (gr M a0 17) fun r16 => if 0 ≤ (v3 + (1 : Int32)) ∧ (v3 + (1 : Int32)) < ln r16 then (if v4 < (gi M r16 (v3 + (1 : Int32))) then (if ((v1 >>> (v3 &&& 31)) &&& (1 : Int32)) = 0 then (orf (gr M a0 16) fun r18 => if 0 ≤ v4 ∧ v4 < ln r18 then (ob (f_X8_put a0 (gi M r18 v4) M) fun _ M19 => sv (v4 + (1 : Int32)) fun i21 => (f_X8_copy_L133 k117 n) a0 v1 v2 v3 i21 M19) else none) else (f_X8_copy_L171 k117 a0 v1 v2 v3 M)) else (f_X8_copy_L171 k117 a0 v1 v2 v3 M)) else none) rfl ?_
    refine aw_iload (pc := 133) X 4 dX8_copy_133 rfl ?_
    refine aw_aload_n (pc := 135) X 0 dX8_copy_135 rfl ?_
    refine gf_X8_34 (pc := 136) X dX8_copy_136 h_a0 (fun r16 h_r16 => ?_)
    refine aw_iload_n (pc := 139) X 3 dX8_copy_139 rfl ?_
    refine aw_iconst (pc := 140) X (1 : Int32) dX8_copy_140 (by decide) ?_
    refine aw_iadd (pc := 141) X dX8_copy_141 ?_
    refine aw_iald (pc := 142) X dX8_copy_142 h_r16 ?_
    refine aw_icmpge (pc := 143) X 171 dX8_copy_143 (by decide) ?_ ?_
    · refine aw_iload_n (pc := 146) X 1 dX8_copy_146 rfl ?_
      refine aw_iload_n (pc := 147) X 3 dX8_copy_147 rfl ?_
      refine aw_ishr (pc := 148) X dX8_copy_148 ?_
      refine aw_iconst (pc := 149) X (1 : Int32) dX8_copy_149 (by decide) ?_
      refine aw_iand (pc := 150) X dX8_copy_150 ?_
      refine aw_ifne (pc := 151) X 171 dX8_copy_151 (by decide) ?_ ?_
      · refine aw_aload_n (pc := 154) X 0 dX8_copy_154 rfl ?_
        refine aw_aload_n (pc := 155) X 0 dX8_copy_155 rfl ?_
        refine gf_X8_31 (pc := 156) X dX8_copy_156 h_a0 (fun r18 h_r18 => ?_)
        refine aw_iload (pc := 159) X 4 dX8_copy_159 rfl ?_
        refine aw_iald (pc := 161) X dX8_copy_161 h_r18 ?_
        refine cl_X8_211 (pc := 162) X ⟨Nat.le_of_ble_eq_true rfl, Nat.le_of_ble_eq_true rfl⟩ (Nat.le_of_ble_eq_true rfl) (ks2 := 0) (sl2 := 0) rfl rfl ⟨(Nat.le_of_ble_eq_true rfl), (Nat.le_of_ble_eq_true rfl)⟩ dX8_copy_162 h_a0 (fun M19 g20 => ?_)
        have h_a0 := h_a0.mono g20
        refine aw_iincV (pc := 165) X (fun y => [(4, .int y), (0, .ref (b + a0)), (1, .int v1), (2, .int v2), (3, .int v3)]) 4 (v := (v4 + (1 : Int32))) dX8_copy_165 rfl rfl (by decide) (fun _ => rfl) (fun i21 => ?_)
        refine aw_goto (pc := 168) X 133 dX8_copy_168 (by decide) ?_
        refine aw_sub [1, 2, 3, 4, 0] rfl ?_
        exact ih a0 v1 v2 v3 i21 M19 h_a0
      · refine aw_sub [0, 1, 2, 3] rfl ?_
        exact t_X8_copy_L171 X hr k117 hk117 a0 v1 v2 v3 M h_a0
    · refine aw_sub [0, 1, 2, 3] rfl ?_
      exact t_X8_copy_L171 X hr k117 hk117 a0 v1 v2 v3 M h_a0
def f_X8_copy_L117 : Nat → Nat → Int32 → Int32 → Int32 → JM → Option (Int32 × JM)
  | 0, _, _, _, _, _ => none
  | n + 1, a0, v1, v2, v3, M => if v3 < (gi M a0 14) then (orf (gr M a0 17) fun r14 => if 0 ≤ v3 ∧ v3 < ln r14 then (sv (gi M r14 v3) fun i15 => f_X8_copy_L133 (f_X8_copy_L117 n) FU a0 v1 v2 v3 i15 M) else none) else (some (v2, M))
set_option maxRecDepth 10000 in
set_option maxHeartbeats 4000000 in
theorem t_X8_copy_L117 {p : Program} {l : Launch} {e : Env} {s : State} {m : MethodId} {args : Array Value} {below : List Frame} {meth : Method} {c : Code} {D : va_G} {cs : JC} {b : Nat} (X : jX p c cX8_copy 5 s m args RX8 D cs b meth s.heap) (hr : meth.sig.returnType = Option.some Jvm.ClassFile.FieldType.int) : ∀ (n : Nat) (a0 : Nat) (v1 : Int32) (v2 : Int32) (v3 : Int32) (M : JM), oty M a0 18 → AWO p l e rm_X8_copy s m args below meth c D cs b 5 s.heap (jE below D cs b evI args s rm_X8_copy.cells rm_X8_copy.slots) (f_X8_copy_L117 n a0 v1 v2 v3 M) M 0 0 [(0, .ref (b + a0)), (1, .int v1), (2, .int v2), (3, .int v3)] 117 [] := by
  intro n
  induction n with
  | zero => intro a0 v1 v2 v3 M h_a0; exact aw_none
  | succ n ih =>
    intro a0 v1 v2 v3 M h_a0
    refine aw_callq (F' := if v3 < (gi M a0 14) then (orf (gr M a0 17) fun r14 => if 0 ≤ v3 ∧ v3 < ln r14 then (sv (gi M r14 v3) fun i15 => f_X8_copy_L133 (f_X8_copy_L117 n) FU a0 v1 v2 v3 i15 M) else none) else (some (v2, M))) rfl ?_
    refine aw_iload_n (pc := 117) X 3 dX8_copy_117 rfl ?_
    refine aw_aload_n (pc := 118) X 0 dX8_copy_118 rfl ?_
    refine gf_X8_117 (pc := 119) X dX8_copy_119 h_a0 ?_
    refine aw_icmpge (pc := 122) X 177 dX8_copy_122 (by decide) ?_ ?_
    · refine aw_aload_n (pc := 125) X 0 dX8_copy_125 rfl ?_
      refine gf_X8_34 (pc := 126) X dX8_copy_126 h_a0 (fun r14 h_r14 => ?_)
      refine aw_iload_n (pc := 129) X 3 dX8_copy_129 rfl ?_
      refine aw_iald (pc := 130) X dX8_copy_130 h_r14 ?_
      refine aw_istoreV (pc := 131) X (fun y => [(4, .int y), (0, .ref (b + a0)), (1, .int v1), (2, .int v2), (3, .int v3)]) dX8_copy_131 (by decide) (fun _ => rfl) (fun i15 => ?_)
      refine aw_sub [1, 2, 3, 4, 0] rfl ?_
      exact t_X8_copy_L133 X hr (f_X8_copy_L117 n) ih FU a0 v1 v2 v3 i15 M h_a0
    · refine aw_iload_n (pc := 177) X 2 dX8_copy_177 rfl ?_
      exact aw_iret (pc := 178) X hr dX8_copy_178 (Nat.le_of_ble_eq_true rfl) (Nat.le_of_ble_eq_true rfl)
def f_X8_copy_L66 : Nat → Int32 → Int32 → JM → Option (Int32 × JM) := fun a0 v1 v2 M => if v2 = (3 : Int32) then (some ((-2 : Int32), M)) else (if (300 : Int32) < ((gi M a0 8) + v2) then (some ((-3 : Int32), M)) else (orf (gr M a0 1) fun r6 => if 0 ≤ (gi M a0 15) ∧ (gi M a0 15) < ln r6 then (ob (f_X8_put a0 (gi M r6 (gi M a0 15)) M) fun _ M7 => ob (f_X8_put a0 (v2 >>> ((8 : Int32) &&& 31)) M7) fun _ M9 => ob (f_X8_put a0 v2 M9) fun _ M11 => sv (0 : Int32) fun i13 => f_X8_copy_L117 FU a0 v1 v2 i13 M11) else none))
set_option maxRecDepth 10000 in
set_option maxHeartbeats 4000000 in
theorem t_X8_copy_L66 {p : Program} {l : Launch} {e : Env} {s : State} {m : MethodId} {args : Array Value} {below : List Frame} {meth : Method} {c : Code} {D : va_G} {cs : JC} {b : Nat} (X : jX p c cX8_copy 5 s m args RX8 D cs b meth s.heap) (hr : meth.sig.returnType = Option.some Jvm.ClassFile.FieldType.int) : ∀ (a0 : Nat) (v1 : Int32) (v2 : Int32) (M : JM), oty M a0 18 → AWO p l e rm_X8_copy s m args below meth c D cs b 5 s.heap (jE below D cs b evI args s rm_X8_copy.cells rm_X8_copy.slots) (f_X8_copy_L66 a0 v1 v2 M) M 0 0 [(0, .ref (b + a0)), (1, .int v1), (2, .int v2)] 66 [] := by
  intro a0 v1 v2 M h_a0
  refine aw_callq (F' := if v2 = (3 : Int32) then (some ((-2 : Int32), M)) else (if (300 : Int32) < ((gi M a0 8) + v2) then (some ((-3 : Int32), M)) else (orf (gr M a0 1) fun r6 => if 0 ≤ (gi M a0 15) ∧ (gi M a0 15) < ln r6 then (ob (f_X8_put a0 (gi M r6 (gi M a0 15)) M) fun _ M7 => ob (f_X8_put a0 (v2 >>> ((8 : Int32) &&& 31)) M7) fun _ M9 => ob (f_X8_put a0 v2 M9) fun _ M11 => sv (0 : Int32) fun i13 => f_X8_copy_L117 FU a0 v1 v2 i13 M11) else none))) rfl ?_
  refine aw_iload_n (pc := 66) X 2 dX8_copy_66 rfl ?_
  refine aw_iconst (pc := 67) X (3 : Int32) dX8_copy_67 (by decide) ?_
  refine aw_icmpne (pc := 68) X 74 dX8_copy_68 (by decide) ?_ ?_
  · refine aw_bipush (pc := 71) X (-2 : Int32) dX8_copy_71 (by decide) ?_
    exact aw_iret (pc := 73) X hr dX8_copy_73 (Nat.le_of_ble_eq_true rfl) (Nat.le_of_ble_eq_true rfl)
  · refine aw_aload_n (pc := 74) X 0 dX8_copy_74 rfl ?_
    refine gf_X8_133 (pc := 75) X dX8_copy_75 h_a0 ?_
    refine aw_iload_n (pc := 78) X 2 dX8_copy_78 rfl ?_
    refine aw_iadd (pc := 79) X dX8_copy_79 ?_
    refine aw_sipush (pc := 80) X (300 : Int32) dX8_copy_80 (by decide) ?_
    refine aw_icmple (pc := 83) X 89 dX8_copy_83 (by decide) ?_ ?_
    · refine aw_bipush (pc := 86) X (-3 : Int32) dX8_copy_86 (by decide) ?_
      exact aw_iret (pc := 88) X hr dX8_copy_88 (Nat.le_of_ble_eq_true rfl) (Nat.le_of_ble_eq_true rfl)
    · refine aw_aload_n (pc := 89) X 0 dX8_copy_89 rfl ?_
      refine aw_aload_n (pc := 90) X 0 dX8_copy_90 rfl ?_
      refine gf_X8_7 (pc := 91) X dX8_copy_91 h_a0 (fun r6 h_r6 => ?_)
      refine aw_aload_n (pc := 94) X 0 dX8_copy_94 rfl ?_
      refine gf_X8_99 (pc := 95) X dX8_copy_95 h_a0 ?_
      refine aw_iald (pc := 98) X dX8_copy_98 h_r6 ?_
      refine cl_X8_211 (pc := 99) X ⟨Nat.le_of_ble_eq_true rfl, Nat.le_of_ble_eq_true rfl⟩ (Nat.le_of_ble_eq_true rfl) (ks2 := 0) (sl2 := 0) rfl rfl ⟨(Nat.le_of_ble_eq_true rfl), (Nat.le_of_ble_eq_true rfl)⟩ dX8_copy_99 h_a0 (fun M7 g8 => ?_)
      have h_a0 := h_a0.mono g8
      refine aw_aload_n (pc := 102) X 0 dX8_copy_102 rfl ?_
      refine aw_iload_n (pc := 103) X 2 dX8_copy_103 rfl ?_
      refine aw_bipush (pc := 104) X (8 : Int32) dX8_copy_104 (by decide) ?_
      refine aw_ishr (pc := 106) X dX8_copy_106 ?_
      refine cl_X8_211 (pc := 107) X ⟨Nat.le_of_ble_eq_true rfl, Nat.le_of_ble_eq_true rfl⟩ (Nat.le_of_ble_eq_true rfl) (ks2 := 0) (sl2 := 0) rfl rfl ⟨(Nat.le_of_ble_eq_true rfl), (Nat.le_of_ble_eq_true rfl)⟩ dX8_copy_107 h_a0 (fun M9 g10 => ?_)
      have h_a0 := h_a0.mono g10
      refine aw_aload_n (pc := 110) X 0 dX8_copy_110 rfl ?_
      refine aw_iload_n (pc := 111) X 2 dX8_copy_111 rfl ?_
      refine cl_X8_211 (pc := 112) X ⟨Nat.le_of_ble_eq_true rfl, Nat.le_of_ble_eq_true rfl⟩ (Nat.le_of_ble_eq_true rfl) (ks2 := 0) (sl2 := 0) rfl rfl ⟨(Nat.le_of_ble_eq_true rfl), (Nat.le_of_ble_eq_true rfl)⟩ dX8_copy_112 h_a0 (fun M11 g12 => ?_)
      have h_a0 := h_a0.mono g12
      refine aw_iconst (pc := 115) X (0 : Int32) dX8_copy_115 (by decide) ?_
      refine aw_istoreV_n (pc := 116) X (fun y => [(3, .int y), (0, .ref (b + a0)), (1, .int v1), (2, .int v2)]) dX8_copy_116 (by decide) (fun _ => rfl) (fun i13 => ?_)
      refine aw_sub [1, 2, 3, 0] rfl ?_
      exact t_X8_copy_L117 X hr FU a0 v1 v2 i13 M11 h_a0
def f_X8_copy_L58 (k22 : Nat → Int32 → Int32 → Int32 → JM → Option (Int32 × JM)) : Nat → Int32 → Int32 → Int32 → Int32 → JM → Option (Int32 × JM) := fun a0 v1 v3 u0 u1 M => sv (u1 + u0) fun i22 => sv (v3 + (1 : Int32)) fun i23 => k22 a0 v1 i22 i23 M
set_option maxRecDepth 10000 in
set_option maxHeartbeats 4000000 in
theorem t_X8_copy_L58 {p : Program} {l : Launch} {e : Env} {s : State} {m : MethodId} {args : Array Value} {below : List Frame} {meth : Method} {c : Code} {D : va_G} {cs : JC} {b : Nat} (X : jX p c cX8_copy 5 s m args RX8 D cs b meth s.heap) (hr : meth.sig.returnType = Option.some Jvm.ClassFile.FieldType.int) (k22 : Nat → Int32 → Int32 → Int32 → JM → Option (Int32 × JM)) (hk22 : ∀ (a0 : Nat) (v1 : Int32) (v2 : Int32) (v3 : Int32) (M : JM), oty M a0 18 → AWO p l e rm_X8_copy s m args below meth c D cs b 5 s.heap (jE below D cs b evI args s rm_X8_copy.cells rm_X8_copy.slots) (k22 a0 v1 v2 v3 M) M 0 0 [(0, .ref (b + a0)), (1, .int v1), (2, .int v2), (3, .int v3)] 22 []) : ∀ (a0 : Nat) (v1 : Int32) (v3 : Int32) (u0 : Int32) (u1 : Int32) (M : JM), oty M a0 18 → AWO p l e rm_X8_copy s m args below meth c D cs b 5 s.heap (jE below D cs b evI args s rm_X8_copy.cells rm_X8_copy.slots) (f_X8_copy_L58 k22 a0 v1 v3 u0 u1 M) M 0 0 [(0, .ref (b + a0)), (1, .int v1), (3, .int v3)] 58 [.int u0, .int u1] := by
  intro a0 v1 v3 u0 u1 M h_a0
  refine aw_callq (F' := sv (u1 + u0) fun i22 => sv (v3 + (1 : Int32)) fun i23 => k22 a0 v1 i22 i23 M) rfl ?_
  refine aw_iadd (pc := 58) X dX8_copy_58 ?_
  refine aw_istoreV_n (pc := 59) X (fun y => [(2, .int y), (0, .ref (b + a0)), (1, .int v1), (3, .int v3)]) dX8_copy_59 (by decide) (fun _ => rfl) (fun i22 => ?_)
  refine aw_iincV (pc := 60) X (fun y => [(3, .int y), (2, .int i22), (0, .ref (b + a0)), (1, .int v1)]) 3 (v := (v3 + (1 : Int32))) dX8_copy_60 rfl rfl (by decide) (fun _ => rfl) (fun i23 => ?_)
  refine aw_goto (pc := 63) X 22 dX8_copy_63 (by decide) ?_
  refine aw_sub [2, 3, 1, 0] rfl ?_
  exact hk22 a0 v1 i22 i23 M h_a0
def f_X8_copy_L22 : Nat → Nat → Int32 → Int32 → Int32 → JM → Option (Int32 × JM)
  | 0, _, _, _, _, _ => none
  | n + 1, a0, v1, v2, v3, M => if v3 < (gi M a0 14) then (if ((v1 >>> (v3 &&& 31)) &&& (1 : Int32)) = 0 then (orf (gr M a0 17) fun r24 => if 0 ≤ (v3 + (1 : Int32)) ∧ (v3 + (1 : Int32)) < ln r24 then (orf (gr M a0 17) fun r25 => if 0 ≤ v3 ∧ v3 < ln r25 then (f_X8_copy_L58 (f_X8_copy_L22 n) a0 v1 v3 ((gi M r24 (v3 + (1 : Int32))) - (gi M r25 v3)) v2 M) else none) else none) else (f_X8_copy_L58 (f_X8_copy_L22 n) a0 v1 v3 (0 : Int32) v2 M)) else (f_X8_copy_L66 a0 v1 v2 M)
set_option maxRecDepth 10000 in
set_option maxHeartbeats 4000000 in
theorem t_X8_copy_L22 {p : Program} {l : Launch} {e : Env} {s : State} {m : MethodId} {args : Array Value} {below : List Frame} {meth : Method} {c : Code} {D : va_G} {cs : JC} {b : Nat} (X : jX p c cX8_copy 5 s m args RX8 D cs b meth s.heap) (hr : meth.sig.returnType = Option.some Jvm.ClassFile.FieldType.int) : ∀ (n : Nat) (a0 : Nat) (v1 : Int32) (v2 : Int32) (v3 : Int32) (M : JM), oty M a0 18 → AWO p l e rm_X8_copy s m args below meth c D cs b 5 s.heap (jE below D cs b evI args s rm_X8_copy.cells rm_X8_copy.slots) (f_X8_copy_L22 n a0 v1 v2 v3 M) M 0 0 [(0, .ref (b + a0)), (1, .int v1), (2, .int v2), (3, .int v3)] 22 [] := by
  intro n
  induction n with
  | zero => intro a0 v1 v2 v3 M h_a0; exact aw_none
  | succ n ih =>
    intro a0 v1 v2 v3 M h_a0
    refine aw_callq (F' := if v3 < (gi M a0 14) then (if ((v1 >>> (v3 &&& 31)) &&& (1 : Int32)) = 0 then (orf (gr M a0 17) fun r24 => if 0 ≤ (v3 + (1 : Int32)) ∧ (v3 + (1 : Int32)) < ln r24 then (orf (gr M a0 17) fun r25 => if 0 ≤ v3 ∧ v3 < ln r25 then (f_X8_copy_L58 (f_X8_copy_L22 n) a0 v1 v3 ((gi M r24 (v3 + (1 : Int32))) - (gi M r25 v3)) v2 M) else none) else none) else (f_X8_copy_L58 (f_X8_copy_L22 n) a0 v1 v3 (0 : Int32) v2 M)) else (f_X8_copy_L66 a0 v1 v2 M)) rfl ?_
    refine aw_iload_n (pc := 22) X 3 dX8_copy_22 rfl ?_
    refine aw_aload_n (pc := 23) X 0 dX8_copy_23 rfl ?_
    refine gf_X8_117 (pc := 24) X dX8_copy_24 h_a0 ?_
    refine aw_icmpge (pc := 27) X 66 dX8_copy_27 (by decide) ?_ ?_
    · refine aw_iload_n (pc := 30) X 2 dX8_copy_30 rfl ?_
      refine aw_iload_n (pc := 31) X 1 dX8_copy_31 rfl ?_
      refine aw_iload_n (pc := 32) X 3 dX8_copy_32 rfl ?_
      refine aw_ishr (pc := 33) X dX8_copy_33 ?_
      refine aw_iconst (pc := 34) X (1 : Int32) dX8_copy_34 (by decide) ?_
      refine aw_iand (pc := 35) X dX8_copy_35 ?_
      refine aw_ifne (pc := 36) X 57 dX8_copy_36 (by decide) ?_ ?_
      · refine aw_aload_n (pc := 39) X 0 dX8_copy_39 rfl ?_
        refine gf_X8_34 (pc := 40) X dX8_copy_40 h_a0 (fun r24 h_r24 => ?_)
        refine aw_iload_n (pc := 43) X 3 dX8_copy_43 rfl ?_
        refine aw_iconst (pc := 44) X (1 : Int32) dX8_copy_44 (by decide) ?_
        refine aw_iadd (pc := 45) X dX8_copy_45 ?_
        refine aw_iald (pc := 46) X dX8_copy_46 h_r24 ?_
        refine aw_aload_n (pc := 47) X 0 dX8_copy_47 rfl ?_
        refine gf_X8_34 (pc := 48) X dX8_copy_48 h_a0 (fun r25 h_r25 => ?_)
        refine aw_iload_n (pc := 51) X 3 dX8_copy_51 rfl ?_
        refine aw_iald (pc := 52) X dX8_copy_52 h_r25 ?_
        refine aw_isub (pc := 53) X dX8_copy_53 ?_
        refine aw_goto (pc := 54) X 58 dX8_copy_54 (by decide) ?_
        refine aw_sub [0, 1, 3] rfl ?_
        exact t_X8_copy_L58 X hr (f_X8_copy_L22 n) ih a0 v1 v3 ((gi M r24 (v3 + (1 : Int32))) - (gi M r25 v3)) v2 M h_a0
      · refine aw_iconst (pc := 57) X (0 : Int32) dX8_copy_57 (by decide) ?_
        refine aw_sub [0, 1, 3] rfl ?_
        exact t_X8_copy_L58 X hr (f_X8_copy_L22 n) ih a0 v1 v3 (0 : Int32) v2 M h_a0
    · refine aw_sub [0, 1, 2] rfl ?_
      exact t_X8_copy_L66 X hr a0 v1 v2 M h_a0
def f_X8_copy (a0 : Nat) (v1 : Int32) (M : JM) : Option (Int32 × JM) := ob (f_X8_in v1 (0 : Int32) (((1 : Int32) <<< ((gi M a0 14) &&& 31)) - (1 : Int32)) M) fun r3 M1 => if r3 = true then (sv (3 : Int32) fun i4 => sv (0 : Int32) fun i5 => f_X8_copy_L22 FU a0 v1 i4 i5 M1) else (some ((-1 : Int32), M1))
set_option maxRecDepth 10000 in
set_option maxHeartbeats 4000000 in
theorem t_X8_copy {l : Launch} {D : va_G} {cs : JC} {b : Nat} (a0 : Nat) (v1 : Int32) (M : JM) (h_a0 : oty M a0 18) : ∀ q, f_X8_copy a0 v1 M = some q → CTy l yX8_copy (.code yX8_copy cX8_copy 5 (Option.some Jvm.ClassFile.FieldType.int) :: GB) rm_X8_copy D cs b evI [.ref (b + a0), .int v1] M rm_X8_copy.cells rm_X8_copy.slots q := fun q hq => ct_of [(0, .ref (b + a0)), (1, .int v1)] rfl rfl (Nat.le_of_ble_eq_true rfl) hq (fun p e s m args below meth c X hr hin => by
  refine aw_callq (F' := ob (f_X8_in v1 (0 : Int32) (((1 : Int32) <<< ((gi M a0 14) &&& 31)) - (1 : Int32)) M) fun r3 M1 => if r3 = true then (sv (3 : Int32) fun i4 => sv (0 : Int32) fun i5 => f_X8_copy_L22 FU a0 v1 i4 i5 M1) else (some ((-1 : Int32), M1))) rfl ?_
  refine aw_iload_n (pc := 0) X 1 dX8_copy_0 rfl ?_
  refine aw_iconst (pc := 1) X (0 : Int32) dX8_copy_1 (by decide) ?_
  refine aw_iconst (pc := 2) X (1 : Int32) dX8_copy_2 (by decide) ?_
  refine aw_aload_n (pc := 3) X 0 dX8_copy_3 rfl ?_
  refine gf_X8_117 (pc := 4) X dX8_copy_4 h_a0 ?_
  refine aw_ishl (pc := 7) X dX8_copy_7 ?_
  refine aw_iconst (pc := 8) X (1 : Int32) dX8_copy_8 (by decide) ?_
  refine aw_isub (pc := 9) X dX8_copy_9 ?_
  refine cl_X8_105 (pc := 10) X ⟨Nat.le_of_ble_eq_true rfl, Nat.le_of_ble_eq_true rfl⟩ (Nat.le_of_ble_eq_true rfl) (ks2 := 0) (sl2 := 0) rfl rfl ⟨(Nat.le_of_ble_eq_true rfl), (Nat.le_of_ble_eq_true rfl)⟩ dX8_copy_10  (fun r3 M1 g2 => ?_)
  have h_a0 := h_a0.mono g2
  refine aw_ifneB (pc := 13) X 18 dX8_copy_13 (by decide) ?_ ?_
  · refine aw_iconst (pc := 18) X (3 : Int32) dX8_copy_18 (by decide) ?_
    refine aw_istoreV_n (pc := 19) X (fun y => [(2, .int y), (0, .ref (b + a0)), (1, .int v1)]) dX8_copy_19 (by decide) (fun _ => rfl) (fun i4 => ?_)
    refine aw_iconst (pc := 20) X (0 : Int32) dX8_copy_20 (by decide) ?_
    refine aw_istoreV_n (pc := 21) X (fun y => [(3, .int y), (2, .int i4), (0, .ref (b + a0)), (1, .int v1)]) dX8_copy_21 (by decide) (fun _ => rfl) (fun i5 => ?_)
    refine aw_sub [2, 3, 1, 0] rfl ?_
    exact t_X8_copy_L22 X hr FU a0 v1 i4 i5 M1 h_a0
  · refine aw_iconst (pc := 16) X (-1 : Int32) dX8_copy_16 (by decide) ?_
    exact aw_iret (pc := 17) X hr dX8_copy_17 (Nat.le_of_ble_eq_true rfl) (Nat.le_of_ble_eq_true rfl))
/-! ReportBlocks.tape -/
def rm_X7_tape : Room := { frames := 0, cells := 0, slots := 0, locals := 0 }
theorem hd_X7_tape : jHd yX7_tape 1 := by unfold jHd; decide +kernel
def f_X7_tape_L15 : JM → Option (Int32 × JM) := fun M => some ((-9 : Int32), M)
set_option maxRecDepth 10000 in
set_option maxHeartbeats 4000000 in
theorem t_X7_tape_L15 {p : Program} {l : Launch} {e : Env} {s : State} {m : MethodId} {args : Array Value} {below : List Frame} {meth : Method} {c : Code} {D : va_G} {cs : JC} {b : Nat} (X : jX p c cX7_tape 2 s m args RX7 D cs b meth s.heap) (hr : meth.sig.returnType = Option.some Jvm.ClassFile.FieldType.int) : ∀ (M : JM), AWO p l e rm_X7_tape s m args below meth c D cs b 2 s.heap (jE below D cs b evI args s rm_X7_tape.cells rm_X7_tape.slots) (f_X7_tape_L15  M) M 0 0 [] 15 [] := by
  intro M
  refine aw_callq (F' := some ((-9 : Int32), M)) rfl ?_
  refine aw_bipush (pc := 15) X (-9 : Int32) dX7_tape_15 (by decide) ?_
  refine aw_goto (pc := 17) X 29 dX7_tape_17 (by decide) ?_
  exact aw_iret (pc := 29) X hr dX7_tape_29 (Nat.le_of_ble_eq_true rfl) (Nat.le_of_ble_eq_true rfl)
def f_X7_tape (a0 : Nat) (v1 : Int32) (M : JM) : Option (Int32 × JM) := if v1 < 0 then (f_X7_tape_L15  M) else (orf (gr M a0 2) fun r1 => if v1 < (gi M r1 1) then (orf (gr M a0 2) fun r2 => orf (gr M r2 0) fun r3 => if 0 ≤ v1 ∧ v1 < ln r3 then (some ((gi M r3 v1), M)) else none) else (f_X7_tape_L15  M))
set_option maxRecDepth 10000 in
set_option maxHeartbeats 4000000 in
theorem t_X7_tape {l : Launch} {D : va_G} {cs : JC} {b : Nat} (a0 : Nat) (v1 : Int32) (M : JM) (h_a0 : oty M a0 17) : ∀ q, f_X7_tape a0 v1 M = some q → CTy l yX7_tape (.code yX7_tape cX7_tape 2 (Option.some Jvm.ClassFile.FieldType.int) :: GB) rm_X7_tape D cs b evI [.ref (b + a0), .int v1] M rm_X7_tape.cells rm_X7_tape.slots q := fun q hq => ct_of [(0, .ref (b + a0)), (1, .int v1)] rfl rfl (Nat.le_of_ble_eq_true rfl) hq (fun p e s m args below meth c X hr hin => by
  refine aw_callq (F' := if v1 < 0 then (f_X7_tape_L15  M) else (orf (gr M a0 2) fun r1 => if v1 < (gi M r1 1) then (orf (gr M a0 2) fun r2 => orf (gr M r2 0) fun r3 => if 0 ≤ v1 ∧ v1 < ln r3 then (some ((gi M r3 v1), M)) else none) else (f_X7_tape_L15  M))) rfl ?_
  refine aw_iload_n (pc := 0) X 1 dX7_tape_0 rfl ?_
  refine aw_iflt (pc := 1) X 15 dX7_tape_1 (by decide) ?_ ?_
  · refine aw_sub [] rfl ?_
    exact t_X7_tape_L15 X hr  M 
  · refine aw_iload_n (pc := 4) X 1 dX7_tape_4 rfl ?_
    refine aw_aload_n (pc := 5) X 0 dX7_tape_5 rfl ?_
    refine gf_X7_18 (pc := 6) X dX7_tape_6 h_a0 (fun r1 h_r1 => ?_)
    refine gf_X7_114 (pc := 9) X dX7_tape_9 h_r1 ?_
    refine aw_icmplt (pc := 12) X 20 dX7_tape_12 (by decide) ?_ ?_
    · refine aw_aload_n (pc := 20) X 0 dX7_tape_20 rfl ?_
      refine gf_X7_18 (pc := 21) X dX7_tape_21 h_a0 (fun r2 h_r2 => ?_)
      refine gf_X7_135 (pc := 24) X dX7_tape_24 h_r2 (fun r3 h_r3 => ?_)
      refine aw_iload_n (pc := 27) X 1 dX7_tape_27 rfl ?_
      refine aw_iald (pc := 28) X dX7_tape_28 h_r3 ?_
      exact aw_iret (pc := 29) X hr dX7_tape_29 (Nat.le_of_ble_eq_true rfl) (Nat.le_of_ble_eq_true rfl)
    · refine aw_sub [] rfl ?_
      exact t_X7_tape_L15 X hr  M )
/-! ReportBlocksModel.tape -/
def rm_X8_tape : Room := { frames := 1, cells := 0, slots := 0, locals := 22 }
theorem hd_X8_tape : jHd yX8_tape 1 := by unfold jHd; decide +kernel
def f_X8_tape (a0 : Nat) (v1 : Int32) (M : JM) : Option (Int32 × JM) := ob (f_X8_in v1 (0 : Int32) ((gi M a0 8) - (1 : Int32)) M) fun r3 M1 => if r3 = true then (orf (gr M1 a0 7) fun r4 => if 0 ≤ v1 ∧ v1 < ln r4 then (some ((gi M1 r4 v1), M1)) else none) else (some ((-9 : Int32), M1))
set_option maxRecDepth 10000 in
set_option maxHeartbeats 4000000 in
theorem t_X8_tape {l : Launch} {D : va_G} {cs : JC} {b : Nat} (a0 : Nat) (v1 : Int32) (M : JM) (h_a0 : oty M a0 18) : ∀ q, f_X8_tape a0 v1 M = some q → CTy l yX8_tape (.code yX8_tape cX8_tape 2 (Option.some Jvm.ClassFile.FieldType.int) :: GB) rm_X8_tape D cs b evI [.ref (b + a0), .int v1] M rm_X8_tape.cells rm_X8_tape.slots q := fun q hq => ct_of [(0, .ref (b + a0)), (1, .int v1)] rfl rfl (Nat.le_of_ble_eq_true rfl) hq (fun p e s m args below meth c X hr hin => by
  refine aw_callq (F' := ob (f_X8_in v1 (0 : Int32) ((gi M a0 8) - (1 : Int32)) M) fun r3 M1 => if r3 = true then (orf (gr M1 a0 7) fun r4 => if 0 ≤ v1 ∧ v1 < ln r4 then (some ((gi M1 r4 v1), M1)) else none) else (some ((-9 : Int32), M1))) rfl ?_
  refine aw_iload_n (pc := 0) X 1 dX8_tape_0 rfl ?_
  refine aw_iconst (pc := 1) X (0 : Int32) dX8_tape_1 (by decide) ?_
  refine aw_aload_n (pc := 2) X 0 dX8_tape_2 rfl ?_
  refine gf_X8_133 (pc := 3) X dX8_tape_3 h_a0 ?_
  refine aw_iconst (pc := 6) X (1 : Int32) dX8_tape_6 (by decide) ?_
  refine aw_isub (pc := 7) X dX8_tape_7 ?_
  refine cl_X8_105 (pc := 8) X ⟨Nat.le_of_ble_eq_true rfl, Nat.le_of_ble_eq_true rfl⟩ (Nat.le_of_ble_eq_true rfl) (ks2 := 0) (sl2 := 0) rfl rfl ⟨(Nat.le_of_ble_eq_true rfl), (Nat.le_of_ble_eq_true rfl)⟩ dX8_tape_8  (fun r3 M1 g2 => ?_)
  have h_a0 := h_a0.mono g2
  refine aw_ifeqB (pc := 11) X 23 dX8_tape_11 (by decide) ?_ ?_
  · refine aw_aload_n (pc := 14) X 0 dX8_tape_14 rfl ?_
    refine gf_X8_28 (pc := 15) X dX8_tape_15 h_a0 (fun r4 h_r4 => ?_)
    refine aw_iload_n (pc := 18) X 1 dX8_tape_18 rfl ?_
    refine aw_iald (pc := 19) X dX8_tape_19 h_r4 ?_
    refine aw_goto (pc := 20) X 25 dX8_tape_20 (by decide) ?_
    exact aw_iret (pc := 25) X hr dX8_tape_25 (Nat.le_of_ble_eq_true rfl) (Nat.le_of_ble_eq_true rfl)
  · refine aw_bipush (pc := 23) X (-9 : Int32) dX8_tape_23 (by decide) ?_
    exact aw_iret (pc := 25) X hr dX8_tape_25 (Nat.le_of_ble_eq_true rfl) (Nat.le_of_ble_eq_true rfl))
/-! ReportBlocks$Category.tellsTrack -/
def rm_X1_tellsTrack : Room := { frames := 1, cells := 0, slots := 0, locals := 22 }
theorem hd_X1_tellsTrack : jHd yX1_tellsTrack 0 := by unfold jHd; decide +kernel
theorem gf_X1_34 {ρ : Type} {l : Launch} {p : Program} {e : Env} {R : Room} {s : State} {m : MethodId} {args : Array Value} {below : List Frame} {meth : Method} {c : Code} {D : va_G} {cs : JC} {b nL : Nat} {H0 : Heap} {Qf : ρ × JM → State → Prop} {M : JM} {ks sl : Nat} {lv : List (Nat × Value)} {pc : Nat} {st : List Value} {cc : ByteArray} {k : Nat} (X : jX p c cc nL s m args RX1 D cs b meth H0) {F : Option (ρ × JM)} (hdg : decode cc pc = .ok (.getfield 34, 3)) (ho : oty M k 11) (kk : AWO p l e R s m args below meth c D cs b nL H0 Qf F M ks sl lv (pc + 3) (.int (gi M k 4) :: st)) : AWO p l e R s m args below meth c D cs b nL H0 Qf F M ks sl lv pc (.ref (b + k) :: st) := aw_getI (ci := 1) X 4 rfl gy_X1 (by decide) rfl rfl wf_X1_34 hdg ho kk
theorem cl_X1_37 {ρ : Type} {l : Launch} {p : Program} {e : Env} {R : Room} {s : State} {m : MethodId} {args : Array Value} {below : List Frame} {meth : Method} {c : Code} {D : va_G} {cs : JC} {b nL : Nat} {H0 : Heap} {Qf : ρ × JM → State → Prop} {M : JM} {ks sl : Nat} {lv : List (Nat × Value)} {pc : Nat} {st : List Value} {cc : ByteArray} (X : jX p c cc nL s m args RX1 D cs b meth H0) {z0 : Nat} {z1 : Int32} {z2 : Int32} {K : Bool → JM → Option (ρ × JM)} (hrm : jRm rm_X1_isFixed 3 R) (hW : (st.map fun v => v.category).sum ≤ 8) {ks2 sl2 : Nat} (hk2 : ks + rm_X1_isFixed.cells = ks2) (hs2 : sl + rm_X1_isFixed.slots = sl2) (hroom : ks2 ≤ R.cells ∧ sl2 ≤ R.slots) (hdg : decode cc pc = .ok (.invokevirtual 37, 3)) (h0 : oty M z0 11) (kk : ∀ (r : Bool) (M2 : JM), gn M ≤ gn M2 → AWO p l e R s m args below meth c D cs b nL H0 Qf (K r M2) M2 ks2 sl2 lv (pc + 3) (.int (bI r) :: st)) : AWO p l e R s m args below meth c D cs b nL H0 Qf (ob (f_X1_isFixed z0 z1 z2 M) K) M ks sl lv pc (.int z2 :: .int z1 :: .ref (b + z0) :: st) := by
  subst hk2
  subst hs2
  exact aw_callV (ci := 1) X [.int z1, .int z2] st rfl rfl wl_X1_37 wi_X1_isFixed wv_X1_isFixed wc_X1_isFixed wn_X1 (n := 2) hd_X1_isFixed rfl hrm hW hroom hdg h0 (t_X1_isFixed z0 z1 z2 M h0) (fun r M2 g _ => kk r M2 g)
theorem gf_X1_41 {ρ : Type} {l : Launch} {p : Program} {e : Env} {R : Room} {s : State} {m : MethodId} {args : Array Value} {below : List Frame} {meth : Method} {c : Code} {D : va_G} {cs : JC} {b nL : Nat} {H0 : Heap} {Qf : ρ × JM → State → Prop} {M : JM} {ks sl : Nat} {lv : List (Nat × Value)} {pc : Nat} {st : List Value} {cc : ByteArray} {k : Nat} (X : jX p c cc nL s m args RX1 D cs b meth H0) {F : Option (ρ × JM)} (hdg : decode cc pc = .ok (.getfield 41, 3)) (ho : oty M k 11) (kk : AWO p l e R s m args below meth c D cs b nL H0 Qf F M ks sl lv (pc + 3) (.int (gi M k 5) :: st)) : AWO p l e R s m args below meth c D cs b nL H0 Qf F M ks sl lv pc (.ref (b + k) :: st) := aw_getI (ci := 1) X 5 rfl gy_X1 (by decide) rfl rfl wf_X1_41 hdg ho kk
def f_X1_tellsTrack (a0 : Nat) (M : JM) : Option (Bool × JM) := ob (f_X1_isFixed a0 (gi M a0 4) (2 : Int32) M) fun r3 M1 => if r3 = true then (ob (f_X1_isFixed a0 (gi M1 a0 5) (4 : Int32) M1) fun r6 M4 => if r6 = true then (some (true, M4)) else (some (false, M4))) else (some (false, M1))
set_option maxRecDepth 10000 in
set_option maxHeartbeats 4000000 in
theorem t_X1_tellsTrack {l : Launch} {D : va_G} {cs : JC} {b : Nat} (a0 : Nat) (M : JM) (h_a0 : oty M a0 11) : ∀ q, f_X1_tellsTrack a0 M = some q → CTy l yX1_tellsTrack (.code yX1_tellsTrack cX1_tellsTrack 1 (Option.some Jvm.ClassFile.FieldType.boolean) :: GB) rm_X1_tellsTrack D cs b evB [.ref (b + a0)] M rm_X1_tellsTrack.cells rm_X1_tellsTrack.slots q := fun q hq => ct_of [(0, .ref (b + a0))] rfl rfl (Nat.le_of_ble_eq_true rfl) hq (fun p e s m args below meth c X hr hin => by
  refine aw_callq (F' := ob (f_X1_isFixed a0 (gi M a0 4) (2 : Int32) M) fun r3 M1 => if r3 = true then (ob (f_X1_isFixed a0 (gi M1 a0 5) (4 : Int32) M1) fun r6 M4 => if r6 = true then (some (true, M4)) else (some (false, M4))) else (some (false, M1))) rfl ?_
  refine aw_aload_n (pc := 0) X 0 dX1_tellsTrack_0 rfl ?_
  refine aw_aload_n (pc := 1) X 0 dX1_tellsTrack_1 rfl ?_
  refine gf_X1_34 (pc := 2) X dX1_tellsTrack_2 h_a0 ?_
  refine aw_iconst (pc := 5) X (2 : Int32) dX1_tellsTrack_5 (by decide) ?_
  refine cl_X1_37 (pc := 6) X ⟨Nat.le_of_ble_eq_true rfl, Nat.le_of_ble_eq_true rfl⟩ (Nat.le_of_ble_eq_true rfl) (ks2 := 0) (sl2 := 0) rfl rfl ⟨(Nat.le_of_ble_eq_true rfl), (Nat.le_of_ble_eq_true rfl)⟩ dX1_tellsTrack_6 h_a0 (fun r3 M1 g2 => ?_)
  have h_a0 := h_a0.mono g2
  refine aw_ifeqB (pc := 9) X 28 dX1_tellsTrack_9 (by decide) ?_ ?_
  · refine aw_aload_n (pc := 12) X 0 dX1_tellsTrack_12 rfl ?_
    refine aw_aload_n (pc := 13) X 0 dX1_tellsTrack_13 rfl ?_
    refine gf_X1_41 (pc := 14) X dX1_tellsTrack_14 h_a0 ?_
    refine aw_iconst (pc := 17) X (4 : Int32) dX1_tellsTrack_17 (by decide) ?_
    refine cl_X1_37 (pc := 18) X ⟨Nat.le_of_ble_eq_true rfl, Nat.le_of_ble_eq_true rfl⟩ (Nat.le_of_ble_eq_true rfl) (ks2 := 0) (sl2 := 0) rfl rfl ⟨(Nat.le_of_ble_eq_true rfl), (Nat.le_of_ble_eq_true rfl)⟩ dX1_tellsTrack_18 h_a0 (fun r6 M4 g5 => ?_)
    have h_a0 := h_a0.mono g5
    refine aw_ifeqB (pc := 21) X 28 dX1_tellsTrack_21 (by decide) ?_ ?_
    · refine aw_iconst (pc := 24) X (1 : Int32) dX1_tellsTrack_24 (by decide) ?_
      refine aw_goto (pc := 25) X 29 dX1_tellsTrack_25 (by decide) ?_
      exact aw_zret (pc := 29) X hr true rfl dX1_tellsTrack_29 (Nat.le_of_ble_eq_true rfl) (Nat.le_of_ble_eq_true rfl)
    · refine aw_iconst (pc := 28) X (0 : Int32) dX1_tellsTrack_28 (by decide) ?_
      exact aw_zret (pc := 29) X hr false rfl dX1_tellsTrack_29 (Nat.le_of_ble_eq_true rfl) (Nat.le_of_ble_eq_true rfl)
  · refine aw_iconst (pc := 28) X (0 : Int32) dX1_tellsTrack_28 (by decide) ?_
    exact aw_zret (pc := 29) X hr false rfl dX1_tellsTrack_29 (Nat.le_of_ble_eq_true rfl) (Nat.le_of_ble_eq_true rfl))
/-! ReportBlocks$Track.update -/
def rm_X5_update : Room := { frames := 1, cells := 0, slots := 0, locals := 24 }
theorem hd_X5_update : jHd yX5_update 2 := by unfold jHd; decide +kernel
theorem gf_X5_28 {ρ : Type} {l : Launch} {p : Program} {e : Env} {R : Room} {s : State} {m : MethodId} {args : Array Value} {below : List Frame} {meth : Method} {c : Code} {D : va_G} {cs : JC} {b nL : Nat} {H0 : Heap} {Qf : ρ × JM → State → Prop} {M : JM} {ks sl : Nat} {lv : List (Nat × Value)} {pc : Nat} {st : List Value} {cc : ByteArray} {k : Nat} (X : jX p c cc nL s m args RX5 D cs b meth H0) {F : Option (ρ × JM)} (hdg : decode cc pc = .ok (.getfield 28, 3)) (ho : oty M k 15) (kk : AWO p l e R s m args below meth c D cs b nL H0 Qf F M ks sl lv (pc + 3) (.int (gi M k 7) :: st)) : AWO p l e R s m args below meth c D cs b nL H0 Qf F M ks sl lv pc (.ref (b + k) :: st) := aw_getI (ci := 5) X 7 rfl gy_X5 (by decide) rfl rfl wf_X5_28 hdg ho kk
theorem gf_X5_18 {ρ : Type} {l : Launch} {p : Program} {e : Env} {R : Room} {s : State} {m : MethodId} {args : Array Value} {below : List Frame} {meth : Method} {c : Code} {D : va_G} {cs : JC} {b nL : Nat} {H0 : Heap} {Qf : ρ × JM → State → Prop} {M : JM} {ks sl : Nat} {lv : List (Nat × Value)} {pc : Nat} {st : List Value} {cc : ByteArray} {k : Nat} (X : jX p c cc nL s m args RX5 D cs b meth H0) {F : Option (ρ × JM)} (hdg : decode cc pc = .ok (.getfield 18, 3)) (ho : oty M k 15) (kk : AWO p l e R s m args below meth c D cs b nL H0 Qf F M ks sl lv (pc + 3) (.int (gi M k 3) :: st)) : AWO p l e R s m args below meth c D cs b nL H0 Qf F M ks sl lv pc (.ref (b + k) :: st) := aw_getI (ci := 5) X 3 rfl gy_X5 (by decide) rfl rfl wf_X5_18 hdg ho kk
theorem pf_X5_37 {ρ : Type} {l : Launch} {p : Program} {e : Env} {R : Room} {s : State} {m : MethodId} {args : Array Value} {below : List Frame} {meth : Method} {c : Code} {D : va_G} {cs : JC} {b nL : Nat} {H0 : Heap} {Qf : ρ × JM → State → Prop} {M : JM} {ks sl : Nat} {lv : List (Nat × Value)} {pc : Nat} {st : List Value} {cc : ByteArray} {k : Nat} {K : JM → Option (ρ × JM)} (X : jX p c cc nL s m args RX5 D cs b meth H0) {x : Int32} (hdg : decode cc pc = .ok (.putfield 37, 3)) (ho : oty M k 15) (kk : ∀ M2 : JM, gn M ≤ gn M2 → AWO p l e R s m args below meth c D cs b nL H0 Qf (K M2) M2 ks sl lv (pc + 3) st) : AWO p l e R s m args below meth c D cs b nL H0 Qf (sq (si M k 5 x) K) M ks sl lv pc (.int x :: .ref (b + k) :: st) := aw_putI (ci := 5) X 5 rfl gy_X5 tyX5 tyX5_ok nmX5 (by decide) (by decide) rfl rfl wf_X5_37 rfl (Or.inl rfl) hdg ho (kk _ (Nat.le_refl _))
theorem gf_X5_21 {ρ : Type} {l : Launch} {p : Program} {e : Env} {R : Room} {s : State} {m : MethodId} {args : Array Value} {below : List Frame} {meth : Method} {c : Code} {D : va_G} {cs : JC} {b nL : Nat} {H0 : Heap} {Qf : ρ × JM → State → Prop} {M : JM} {ks sl : Nat} {lv : List (Nat × Value)} {pc : Nat} {st : List Value} {cc : ByteArray} {k : Nat} (X : jX p c cc nL s m args RX5 D cs b meth H0) {F : Option (ρ × JM)} (hdg : decode cc pc = .ok (.getfield 21, 3)) (ho : oty M k 15) (kk : AWO p l e R s m args below meth c D cs b nL H0 Qf F M ks sl lv (pc + 3) (.int (gi M k 4) :: st)) : AWO p l e R s m args below meth c D cs b nL H0 Qf F M ks sl lv pc (.ref (b + k) :: st) := aw_getI (ci := 5) X 4 rfl gy_X5 (by decide) rfl rfl wf_X5_21 hdg ho kk
theorem pf_X5_40 {ρ : Type} {l : Launch} {p : Program} {e : Env} {R : Room} {s : State} {m : MethodId} {args : Array Value} {below : List Frame} {meth : Method} {c : Code} {D : va_G} {cs : JC} {b nL : Nat} {H0 : Heap} {Qf : ρ × JM → State → Prop} {M : JM} {ks sl : Nat} {lv : List (Nat × Value)} {pc : Nat} {st : List Value} {cc : ByteArray} {k : Nat} {K : JM → Option (ρ × JM)} (X : jX p c cc nL s m args RX5 D cs b meth H0) {x : Int32} (hdg : decode cc pc = .ok (.putfield 40, 3)) (ho : oty M k 15) (kk : ∀ M2 : JM, gn M ≤ gn M2 → AWO p l e R s m args below meth c D cs b nL H0 Qf (K M2) M2 ks sl lv (pc + 3) st) : AWO p l e R s m args below meth c D cs b nL H0 Qf (sq (si M k 6 x) K) M ks sl lv pc (.int x :: .ref (b + k) :: st) := aw_putI (ci := 5) X 6 rfl gy_X5 tyX5 tyX5_ok nmX5 (by decide) (by decide) rfl rfl wf_X5_40 rfl (Or.inl rfl) hdg ho (kk _ (Nat.le_refl _))
theorem pf_X5_18 {ρ : Type} {l : Launch} {p : Program} {e : Env} {R : Room} {s : State} {m : MethodId} {args : Array Value} {below : List Frame} {meth : Method} {c : Code} {D : va_G} {cs : JC} {b nL : Nat} {H0 : Heap} {Qf : ρ × JM → State → Prop} {M : JM} {ks sl : Nat} {lv : List (Nat × Value)} {pc : Nat} {st : List Value} {cc : ByteArray} {k : Nat} {K : JM → Option (ρ × JM)} (X : jX p c cc nL s m args RX5 D cs b meth H0) {x : Int32} (hdg : decode cc pc = .ok (.putfield 18, 3)) (ho : oty M k 15) (kk : ∀ M2 : JM, gn M ≤ gn M2 → AWO p l e R s m args below meth c D cs b nL H0 Qf (K M2) M2 ks sl lv (pc + 3) st) : AWO p l e R s m args below meth c D cs b nL H0 Qf (sq (si M k 3 x) K) M ks sl lv pc (.int x :: .ref (b + k) :: st) := aw_putI (ci := 5) X 3 rfl gy_X5 tyX5 tyX5_ok nmX5 (by decide) (by decide) rfl rfl wf_X5_18 rfl (Or.inl rfl) hdg ho (kk _ (Nat.le_refl _))
theorem pf_X5_21 {ρ : Type} {l : Launch} {p : Program} {e : Env} {R : Room} {s : State} {m : MethodId} {args : Array Value} {below : List Frame} {meth : Method} {c : Code} {D : va_G} {cs : JC} {b nL : Nat} {H0 : Heap} {Qf : ρ × JM → State → Prop} {M : JM} {ks sl : Nat} {lv : List (Nat × Value)} {pc : Nat} {st : List Value} {cc : ByteArray} {k : Nat} {K : JM → Option (ρ × JM)} (X : jX p c cc nL s m args RX5 D cs b meth H0) {x : Int32} (hdg : decode cc pc = .ok (.putfield 21, 3)) (ho : oty M k 15) (kk : ∀ M2 : JM, gn M ≤ gn M2 → AWO p l e R s m args below meth c D cs b nL H0 Qf (K M2) M2 ks sl lv (pc + 3) st) : AWO p l e R s m args below meth c D cs b nL H0 Qf (sq (si M k 4 x) K) M ks sl lv pc (.int x :: .ref (b + k) :: st) := aw_putI (ci := 5) X 4 rfl gy_X5 tyX5 tyX5_ok nmX5 (by decide) (by decide) rfl rfl wf_X5_21 rfl (Or.inl rfl) hdg ho (kk _ (Nat.le_refl _))
theorem pf_X5_43 {ρ : Type} {l : Launch} {p : Program} {e : Env} {R : Room} {s : State} {m : MethodId} {args : Array Value} {below : List Frame} {meth : Method} {c : Code} {D : va_G} {cs : JC} {b nL : Nat} {H0 : Heap} {Qf : ρ × JM → State → Prop} {M : JM} {ks sl : Nat} {lv : List (Nat × Value)} {pc : Nat} {st : List Value} {cc : ByteArray} {k : Nat} {K : JM → Option (ρ × JM)} (X : jX p c cc nL s m args RX5 D cs b meth H0) {x : Int32} (hdg : decode cc pc = .ok (.putfield 43, 3)) (ho : oty M k 15) (kk : ∀ M2 : JM, gn M ≤ gn M2 → AWO p l e R s m args below meth c D cs b nL H0 Qf (K M2) M2 ks sl lv (pc + 3) st) : AWO p l e R s m args below meth c D cs b nL H0 Qf (sq (si M k 1 x) K) M ks sl lv pc (.int x :: .ref (b + k) :: st) := aw_putI (ci := 5) X 1 rfl gy_X5 tyX5 tyX5_ok nmX5 (by decide) (by decide) rfl rfl wf_X5_43 rfl (Or.inl rfl) hdg ho (kk _ (Nat.le_refl _))
theorem pf_X5_46 {ρ : Type} {l : Launch} {p : Program} {e : Env} {R : Room} {s : State} {m : MethodId} {args : Array Value} {below : List Frame} {meth : Method} {c : Code} {D : va_G} {cs : JC} {b nL : Nat} {H0 : Heap} {Qf : ρ × JM → State → Prop} {M : JM} {ks sl : Nat} {lv : List (Nat × Value)} {pc : Nat} {st : List Value} {cc : ByteArray} {k : Nat} {K : JM → Option (ρ × JM)} (X : jX p c cc nL s m args RX5 D cs b meth H0) {x : Int32} (hdg : decode cc pc = .ok (.putfield 46, 3)) (ho : oty M k 15) (kk : ∀ M2 : JM, gn M ≤ gn M2 → AWO p l e R s m args below meth c D cs b nL H0 Qf (K M2) M2 ks sl lv (pc + 3) st) : AWO p l e R s m args below meth c D cs b nL H0 Qf (sq (si M k 2 x) K) M ks sl lv pc (.int x :: .ref (b + k) :: st) := aw_putI (ci := 5) X 2 rfl gy_X5 tyX5 tyX5_ok nmX5 (by decide) (by decide) rfl rfl wf_X5_46 rfl (Or.inl rfl) hdg ho (kk _ (Nat.le_refl _))
theorem pf_X5_28 {ρ : Type} {l : Launch} {p : Program} {e : Env} {R : Room} {s : State} {m : MethodId} {args : Array Value} {below : List Frame} {meth : Method} {c : Code} {D : va_G} {cs : JC} {b nL : Nat} {H0 : Heap} {Qf : ρ × JM → State → Prop} {M : JM} {ks sl : Nat} {lv : List (Nat × Value)} {pc : Nat} {st : List Value} {cc : ByteArray} {k : Nat} {K : JM → Option (ρ × JM)} (X : jX p c cc nL s m args RX5 D cs b meth H0) {x : Int32} (hdg : decode cc pc = .ok (.putfield 28, 3)) (ho : oty M k 15) (kk : ∀ M2 : JM, gn M ≤ gn M2 → AWO p l e R s m args below meth c D cs b nL H0 Qf (K M2) M2 ks sl lv (pc + 3) st) : AWO p l e R s m args below meth c D cs b nL H0 Qf (sq (si M k 7 x) K) M ks sl lv pc (.int x :: .ref (b + k) :: st) := aw_putI (ci := 5) X 7 rfl gy_X5 tyX5 tyX5_ok nmX5 (by decide) (by decide) rfl rfl wf_X5_28 rfl (Or.inl rfl) hdg ho (kk _ (Nat.le_refl _))
theorem gf_X5_15 {ρ : Type} {l : Launch} {p : Program} {e : Env} {R : Room} {s : State} {m : MethodId} {args : Array Value} {below : List Frame} {meth : Method} {c : Code} {D : va_G} {cs : JC} {b nL : Nat} {H0 : Heap} {Qf : ρ × JM → State → Prop} {M : JM} {ks sl : Nat} {lv : List (Nat × Value)} {pc : Nat} {st : List Value} {cc : ByteArray} {k : Nat} (X : jX p c cc nL s m args RX5 D cs b meth H0) {F : Option (ρ × JM)} (hdg : decode cc pc = .ok (.getfield 15, 3)) (ho : oty M k 15) (kk : AWO p l e R s m args below meth c D cs b nL H0 Qf F M ks sl lv (pc + 3) (.int (gi M k 8) :: st)) : AWO p l e R s m args below meth c D cs b nL H0 Qf F M ks sl lv pc (.ref (b + k) :: st) := aw_getI (ci := 5) X 8 rfl gy_X5 (by decide) rfl rfl wf_X5_15 hdg ho kk
theorem pf_X5_15 {ρ : Type} {l : Launch} {p : Program} {e : Env} {R : Room} {s : State} {m : MethodId} {args : Array Value} {below : List Frame} {meth : Method} {c : Code} {D : va_G} {cs : JC} {b nL : Nat} {H0 : Heap} {Qf : ρ × JM → State → Prop} {M : JM} {ks sl : Nat} {lv : List (Nat × Value)} {pc : Nat} {st : List Value} {cc : ByteArray} {k : Nat} {K : JM → Option (ρ × JM)} (X : jX p c cc nL s m args RX5 D cs b meth H0) {x : Int32} (hdg : decode cc pc = .ok (.putfield 15, 3)) (ho : oty M k 15) (kk : ∀ M2 : JM, gn M ≤ gn M2 → AWO p l e R s m args below meth c D cs b nL H0 Qf (K M2) M2 ks sl lv (pc + 3) st) : AWO p l e R s m args below meth c D cs b nL H0 Qf (sq (si M k 8 x) K) M ks sl lv pc (.int x :: .ref (b + k) :: st) := aw_putI (ci := 5) X 8 rfl gy_X5 tyX5 tyX5_ok nmX5 (by decide) (by decide) rfl rfl wf_X5_15 rfl (Or.inl rfl) hdg ho (kk _ (Nat.le_refl _))
def f_X5_update (a0 : Nat) (v1 : Int32) (v2 : Int32) (M : JM) : Option (Unit × JM) := sv (imax (1 : Int32) (gi M a0 7)) fun i1 => if i1 = 0 then none else sq (si M a0 5 ((v1 - (gi M a0 3)) / i1)) fun M2 => if i1 = 0 then none else sq (si M2 a0 6 ((v2 - (gi M2 a0 4)) / i1)) fun M4 => sq (si M4 a0 3 v1) fun M6 => sq (si M6 a0 4 v2) fun M8 => sq (si M8 a0 1 v1) fun M10 => sq (si M10 a0 2 v2) fun M12 => sq (si M12 a0 7 (0 : Int32)) fun M14 => sq (si M14 a0 8 ((gi M14 a0 8) + (1 : Int32))) fun M16 => some ((), M16)
set_option maxRecDepth 10000 in
set_option maxHeartbeats 4000000 in
theorem t_X5_update {l : Launch} {D : va_G} {cs : JC} {b : Nat} (a0 : Nat) (v1 : Int32) (v2 : Int32) (M : JM) (h_a0 : oty M a0 15) : ∀ q, f_X5_update a0 v1 v2 M = some q → CTy l yX5_update (.code yX5_update cX5_update 4 (Option.none) :: GB) rm_X5_update D cs b evV [.ref (b + a0), .int v1, .int v2] M rm_X5_update.cells rm_X5_update.slots q := fun q hq => ct_of [(0, .ref (b + a0)), (1, .int v1), (2, .int v2)] rfl rfl (Nat.le_of_ble_eq_true rfl) hq (fun p e s m args below meth c X hr hin => by
  refine aw_callq (F' := sv (imax (1 : Int32) (gi M a0 7)) fun i1 => if i1 = 0 then none else sq (si M a0 5 ((v1 - (gi M a0 3)) / i1)) fun M2 => if i1 = 0 then none else sq (si M2 a0 6 ((v2 - (gi M2 a0 4)) / i1)) fun M4 => sq (si M4 a0 3 v1) fun M6 => sq (si M6 a0 4 v2) fun M8 => sq (si M8 a0 1 v1) fun M10 => sq (si M10 a0 2 v2) fun M12 => sq (si M12 a0 7 (0 : Int32)) fun M14 => sq (si M14 a0 8 ((gi M14 a0 8) + (1 : Int32))) fun M16 => some ((), M16)) rfl ?_
  refine aw_iconst (pc := 0) X (1 : Int32) dX5_update_0 (by decide) ?_
  refine aw_aload_n (pc := 1) X 0 dX5_update_1 rfl ?_
  refine gf_X5_28 (pc := 2) X dX5_update_2 h_a0 ?_
  refine aw_mmax (pc := 5) X wl_X5_31 (Nat.le_of_ble_eq_true rfl) (Nat.le_of_ble_eq_true rfl) (Nat.le_of_ble_eq_true rfl) (Nat.le_of_ble_eq_true rfl) dX5_update_5 ?_
  refine aw_istoreV_n (pc := 8) X (fun y => [(3, .int y), (0, .ref (b + a0)), (1, .int v1), (2, .int v2)]) dX5_update_8 (by decide) (fun _ => rfl) (fun i1 => ?_)
  refine aw_aload_n (pc := 9) X 1 dX5_update_9 rfl ?_
  refine aw_iload_n (pc := 10) X 2 dX5_update_10 rfl ?_
  refine aw_aload_n (pc := 11) X 1 dX5_update_11 rfl ?_
  refine gf_X5_18 (pc := 12) X dX5_update_12 h_a0 ?_
  refine aw_isub (pc := 15) X dX5_update_15 ?_
  refine aw_iload_n (pc := 16) X 0 dX5_update_16 rfl ?_
  refine aw_idiv (pc := 17) X dX5_update_17 ?_
  refine pf_X5_37 (pc := 18) X dX5_update_18 h_a0 (fun M2 g3 => ?_)
  have h_a0 := h_a0.mono g3
  refine aw_aload_n (pc := 21) X 1 dX5_update_21 rfl ?_
  refine aw_iload_n (pc := 22) X 3 dX5_update_22 rfl ?_
  refine aw_aload_n (pc := 23) X 1 dX5_update_23 rfl ?_
  refine gf_X5_21 (pc := 24) X dX5_update_24 h_a0 ?_
  refine aw_isub (pc := 27) X dX5_update_27 ?_
  refine aw_iload_n (pc := 28) X 0 dX5_update_28 rfl ?_
  refine aw_idiv (pc := 29) X dX5_update_29 ?_
  refine pf_X5_40 (pc := 30) X dX5_update_30 h_a0 (fun M4 g5 => ?_)
  have h_a0 := h_a0.mono g5
  refine aw_aload_n (pc := 33) X 1 dX5_update_33 rfl ?_
  refine aw_iload_n (pc := 34) X 2 dX5_update_34 rfl ?_
  refine pf_X5_18 (pc := 35) X dX5_update_35 h_a0 (fun M6 g7 => ?_)
  have h_a0 := h_a0.mono g7
  refine aw_aload_n (pc := 38) X 1 dX5_update_38 rfl ?_
  refine aw_iload_n (pc := 39) X 3 dX5_update_39 rfl ?_
  refine pf_X5_21 (pc := 40) X dX5_update_40 h_a0 (fun M8 g9 => ?_)
  have h_a0 := h_a0.mono g9
  refine aw_aload_n (pc := 43) X 1 dX5_update_43 rfl ?_
  refine aw_iload_n (pc := 44) X 2 dX5_update_44 rfl ?_
  refine pf_X5_43 (pc := 45) X dX5_update_45 h_a0 (fun M10 g11 => ?_)
  have h_a0 := h_a0.mono g11
  refine aw_aload_n (pc := 48) X 1 dX5_update_48 rfl ?_
  refine aw_iload_n (pc := 49) X 3 dX5_update_49 rfl ?_
  refine pf_X5_46 (pc := 50) X dX5_update_50 h_a0 (fun M12 g13 => ?_)
  have h_a0 := h_a0.mono g13
  refine aw_aload_n (pc := 53) X 1 dX5_update_53 rfl ?_
  refine aw_iconst (pc := 54) X (0 : Int32) dX5_update_54 (by decide) ?_
  refine pf_X5_28 (pc := 55) X dX5_update_55 h_a0 (fun M14 g15 => ?_)
  have h_a0 := h_a0.mono g15
  refine aw_aload_n (pc := 58) X 1 dX5_update_58 rfl ?_
  refine aw_dup_a (pc := 59) X dX5_update_59 ?_
  refine gf_X5_15 (pc := 60) X dX5_update_60 h_a0 ?_
  refine aw_iconst (pc := 63) X (1 : Int32) dX5_update_63 (by decide) ?_
  refine aw_iadd (pc := 64) X dX5_update_64 ?_
  refine pf_X5_15 (pc := 65) X dX5_update_65 h_a0 (fun M16 g17 => ?_)
  have h_a0 := h_a0.mono g17
  exact aw_vret (pc := 68) X hr dX5_update_68 (Nat.le_of_ble_eq_true rfl) (Nat.le_of_ble_eq_true rfl))
/-! ReportBlocks$Track.come -/
def rm_X5_come : Room := { frames := 2, cells := 0, slots := 0, locals := 47 }
theorem hd_X5_come : jHd yX5_come 3 := by unfold jHd; decide +kernel
theorem pf_X5_9 {ρ : Type} {l : Launch} {p : Program} {e : Env} {R : Room} {s : State} {m : MethodId} {args : Array Value} {below : List Frame} {meth : Method} {c : Code} {D : va_G} {cs : JC} {b nL : Nat} {H0 : Heap} {Qf : ρ × JM → State → Prop} {M : JM} {ks sl : Nat} {lv : List (Nat × Value)} {pc : Nat} {st : List Value} {cc : ByteArray} {k : Nat} {K : JM → Option (ρ × JM)} (X : jX p c cc nL s m args RX5 D cs b meth H0) {x : Int32} (hdg : decode cc pc = .ok (.putfield 9, 3)) (ho : oty M k 15) (kk : ∀ M2 : JM, gn M ≤ gn M2 → AWO p l e R s m args below meth c D cs b nL H0 Qf (K M2) M2 ks sl lv (pc + 3) st) : AWO p l e R s m args below meth c D cs b nL H0 Qf (sq (si M k 0 x) K) M ks sl lv pc (.int x :: .ref (b + k) :: st) := aw_putI (ci := 5) X 0 rfl gy_X5 tyX5 tyX5_ok nmX5 (by decide) (by decide) rfl rfl wf_X5_9 rfl (Or.inl rfl) hdg ho (kk _ (Nat.le_refl _))
theorem cl_X5_24 {ρ : Type} {l : Launch} {p : Program} {e : Env} {R : Room} {s : State} {m : MethodId} {args : Array Value} {below : List Frame} {meth : Method} {c : Code} {D : va_G} {cs : JC} {b nL : Nat} {H0 : Heap} {Qf : ρ × JM → State → Prop} {M : JM} {ks sl : Nat} {lv : List (Nat × Value)} {pc : Nat} {st : List Value} {cc : ByteArray} (X : jX p c cc nL s m args RX5 D cs b meth H0) {z0 : Nat} {z1 : Int32} {z2 : Int32} {K : JM → Option (ρ × JM)} (hrm : jRm rm_X5_update 4 R) (hW : (st.map fun v => v.category).sum ≤ 8) {ks2 sl2 : Nat} (hk2 : ks + rm_X5_update.cells = ks2) (hs2 : sl + rm_X5_update.slots = sl2) (hroom : ks2 ≤ R.cells ∧ sl2 ≤ R.slots) (hdg : decode cc pc = .ok (.invokevirtual 24, 3)) (h0 : oty M z0 15) (kk : ∀ (M2 : JM), gn M ≤ gn M2 → AWO p l e R s m args below meth c D cs b nL H0 Qf (K M2) M2 ks2 sl2 lv (pc + 3) (st)) : AWO p l e R s m args below meth c D cs b nL H0 Qf (ob (f_X5_update z0 z1 z2 M) (fun _ => K)) M ks sl lv pc (.int z2 :: .int z1 :: .ref (b + z0) :: st) := by
  subst hk2
  subst hs2
  exact aw_callV (ci := 5) X [.int z1, .int z2] st rfl rfl wl_X5_24 wi_X5_update wv_X5_update wc_X5_update wn_X5 (n := 2) hd_X5_update rfl hrm hW hroom hdg h0 (t_X5_update z0 z1 z2 M h0) (fun _ M2 g _ => kk M2 g)
def f_X5_come (a0 : Nat) (v1 : Int32) (v2 : Int32) (v3 : Int32) (M : JM) : Option (Unit × JM) := sq (si M a0 0 v1) fun M1 => sq (si M1 a0 8 (0 : Int32)) fun M3 => sq (si M3 a0 3 v2) fun M5 => sq (si M5 a0 4 v3) fun M7 => ob (f_X5_update a0 v2 v3 M7) fun _ M9 => some ((), M9)
set_option maxRecDepth 10000 in
set_option maxHeartbeats 4000000 in
theorem t_X5_come {l : Launch} {D : va_G} {cs : JC} {b : Nat} (a0 : Nat) (v1 : Int32) (v2 : Int32) (v3 : Int32) (M : JM) (h_a0 : oty M a0 15) : ∀ q, f_X5_come a0 v1 v2 v3 M = some q → CTy l yX5_come (.code yX5_come cX5_come 4 (Option.none) :: GB) rm_X5_come D cs b evV [.ref (b + a0), .int v1, .int v2, .int v3] M rm_X5_come.cells rm_X5_come.slots q := fun q hq => ct_of [(0, .ref (b + a0)), (1, .int v1), (2, .int v2), (3, .int v3)] rfl rfl (Nat.le_of_ble_eq_true rfl) hq (fun p e s m args below meth c X hr hin => by
  refine aw_callq (F' := sq (si M a0 0 v1) fun M1 => sq (si M1 a0 8 (0 : Int32)) fun M3 => sq (si M3 a0 3 v2) fun M5 => sq (si M5 a0 4 v3) fun M7 => ob (f_X5_update a0 v2 v3 M7) fun _ M9 => some ((), M9)) rfl ?_
  refine aw_aload_n (pc := 0) X 0 dX5_come_0 rfl ?_
  refine aw_iload_n (pc := 1) X 1 dX5_come_1 rfl ?_
  refine pf_X5_9 (pc := 2) X dX5_come_2 h_a0 (fun M1 g2 => ?_)
  have h_a0 := h_a0.mono g2
  refine aw_aload_n (pc := 5) X 0 dX5_come_5 rfl ?_
  refine aw_iconst (pc := 6) X (0 : Int32) dX5_come_6 (by decide) ?_
  refine pf_X5_15 (pc := 7) X dX5_come_7 h_a0 (fun M3 g4 => ?_)
  have h_a0 := h_a0.mono g4
  refine aw_aload_n (pc := 10) X 0 dX5_come_10 rfl ?_
  refine aw_iload_n (pc := 11) X 2 dX5_come_11 rfl ?_
  refine pf_X5_18 (pc := 12) X dX5_come_12 h_a0 (fun M5 g6 => ?_)
  have h_a0 := h_a0.mono g6
  refine aw_aload_n (pc := 15) X 0 dX5_come_15 rfl ?_
  refine aw_iload_n (pc := 16) X 3 dX5_come_16 rfl ?_
  refine pf_X5_21 (pc := 17) X dX5_come_17 h_a0 (fun M7 g8 => ?_)
  have h_a0 := h_a0.mono g8
  refine aw_aload_n (pc := 20) X 0 dX5_come_20 rfl ?_
  refine aw_iload_n (pc := 21) X 2 dX5_come_21 rfl ?_
  refine aw_iload_n (pc := 22) X 3 dX5_come_22 rfl ?_
  refine cl_X5_24 (pc := 23) X ⟨Nat.le_of_ble_eq_true rfl, Nat.le_of_ble_eq_true rfl⟩ (Nat.le_of_ble_eq_true rfl) (ks2 := 0) (sl2 := 0) rfl rfl ⟨(Nat.le_of_ble_eq_true rfl), (Nat.le_of_ble_eq_true rfl)⟩ dX5_come_23 h_a0 (fun M9 g10 => ?_)
  have h_a0 := h_a0.mono g10
  exact aw_vret (pc := 26) X hr dX5_come_26 (Nat.le_of_ble_eq_true rfl) (Nat.le_of_ble_eq_true rfl))
/-! ReportBlocks$TrackRow.update -/
def rm_X6_update : Room := { frames := 3, cells := 0, slots := 0, locals := 70 }
theorem hd_X6_update : jHd yX6_update 3 := by unfold jHd; decide +kernel
theorem gf_X6_18 {ρ : Type} {l : Launch} {p : Program} {e : Env} {R : Room} {s : State} {m : MethodId} {args : Array Value} {below : List Frame} {meth : Method} {c : Code} {D : va_G} {cs : JC} {b nL : Nat} {H0 : Heap} {Qf : ρ × JM → State → Prop} {M : JM} {ks sl : Nat} {lv : List (Nat × Value)} {pc : Nat} {st : List Value} {cc : ByteArray} {k : Nat} (X : jX p c cc nL s m args RX6 D cs b meth H0) {F : Option (ρ × JM)} (hdg : decode cc pc = .ok (.getfield 18, 3)) (ho : oty M k 16) (kk : AWO p l e R s m args below meth c D cs b nL H0 Qf F M ks sl lv (pc + 3) (.int (gi M k 1) :: st)) : AWO p l e R s m args below meth c D cs b nL H0 Qf F M ks sl lv pc (.ref (b + k) :: st) := aw_getI (ci := 6) X 1 rfl gy_X6 (by decide) rfl rfl wf_X6_18 hdg ho kk
theorem cl_X6_32 {ρ : Type} {l : Launch} {p : Program} {e : Env} {R : Room} {s : State} {m : MethodId} {args : Array Value} {below : List Frame} {meth : Method} {c : Code} {D : va_G} {cs : JC} {b nL : Nat} {H0 : Heap} {Qf : ρ × JM → State → Prop} {M : JM} {ks sl : Nat} {lv : List (Nat × Value)} {pc : Nat} {st : List Value} {cc : ByteArray} (X : jX p c cc nL s m args RX6 D cs b meth H0) {z0 : Nat} {z1 : Int32} {z2 : Int32} {z3 : Int32} {K : JM → Option (ρ × JM)} (hrm : jRm rm_X5_come 4 R) (hW : (st.map fun v => v.category).sum ≤ 8) {ks2 sl2 : Nat} (hk2 : ks + rm_X5_come.cells = ks2) (hs2 : sl + rm_X5_come.slots = sl2) (hroom : ks2 ≤ R.cells ∧ sl2 ≤ R.slots) (hdg : decode cc pc = .ok (.invokevirtual 32, 3)) (h0 : oty M z0 15) (kk : ∀ (M2 : JM), gn M ≤ gn M2 → AWO p l e R s m args below meth c D cs b nL H0 Qf (K M2) M2 ks2 sl2 lv (pc + 3) (st)) : AWO p l e R s m args below meth c D cs b nL H0 Qf (ob (f_X5_come z0 z1 z2 z3 M) (fun _ => K)) M ks sl lv pc (.int z3 :: .int z2 :: .int z1 :: .ref (b + z0) :: st) := by
  subst hk2
  subst hs2
  exact aw_callV (ci := 5) X [.int z1, .int z2, .int z3] st rfl rfl wl_X6_32 wi_X5_come wv_X5_come wc_X5_come wn_X5 (n := 3) hd_X5_come rfl hrm hW hroom hdg h0 (t_X5_come z0 z1 z2 z3 M h0) (fun _ M2 g _ => kk M2 g)
theorem pf_X6_18 {ρ : Type} {l : Launch} {p : Program} {e : Env} {R : Room} {s : State} {m : MethodId} {args : Array Value} {below : List Frame} {meth : Method} {c : Code} {D : va_G} {cs : JC} {b nL : Nat} {H0 : Heap} {Qf : ρ × JM → State → Prop} {M : JM} {ks sl : Nat} {lv : List (Nat × Value)} {pc : Nat} {st : List Value} {cc : ByteArray} {k : Nat} {K : JM → Option (ρ × JM)} (X : jX p c cc nL s m args RX6 D cs b meth H0) {x : Int32} (hdg : decode cc pc = .ok (.putfield 18, 3)) (ho : oty M k 16) (kk : ∀ M2 : JM, gn M ≤ gn M2 → AWO p l e R s m args below meth c D cs b nL H0 Qf (K M2) M2 ks sl lv (pc + 3) st) : AWO p l e R s m args below meth c D cs b nL H0 Qf (sq (si M k 1 x) K) M ks sl lv pc (.int x :: .ref (b + k) :: st) := aw_putI (ci := 6) X 1 rfl gy_X6 tyX6 tyX6_ok nmX6 (by decide) (by decide) rfl rfl wf_X6_18 rfl (Or.inl rfl) hdg ho (kk _ (Nat.le_refl _))
theorem gf_X6_29 {ρ : Type} {l : Launch} {p : Program} {e : Env} {R : Room} {s : State} {m : MethodId} {args : Array Value} {below : List Frame} {meth : Method} {c : Code} {D : va_G} {cs : JC} {b nL : Nat} {H0 : Heap} {Qf : ρ × JM → State → Prop} {M : JM} {ks sl : Nat} {lv : List (Nat × Value)} {pc : Nat} {st : List Value} {cc : ByteArray} {k : Nat} (X : jX p c cc nL s m args RX6 D cs b meth H0) {F : Option (ρ × JM)} (hdg : decode cc pc = .ok (.getfield 29, 3)) (ho : oty M k 16) (kk : AWO p l e R s m args below meth c D cs b nL H0 Qf F M ks sl lv (pc + 3) (.int (gi M k 2) :: st)) : AWO p l e R s m args below meth c D cs b nL H0 Qf F M ks sl lv pc (.ref (b + k) :: st) := aw_getI (ci := 6) X 2 rfl gy_X6 (by decide) rfl rfl wf_X6_29 hdg ho kk
theorem pf_X6_29 {ρ : Type} {l : Launch} {p : Program} {e : Env} {R : Room} {s : State} {m : MethodId} {args : Array Value} {below : List Frame} {meth : Method} {c : Code} {D : va_G} {cs : JC} {b nL : Nat} {H0 : Heap} {Qf : ρ × JM → State → Prop} {M : JM} {ks sl : Nat} {lv : List (Nat × Value)} {pc : Nat} {st : List Value} {cc : ByteArray} {k : Nat} {K : JM → Option (ρ × JM)} (X : jX p c cc nL s m args RX6 D cs b meth H0) {x : Int32} (hdg : decode cc pc = .ok (.putfield 29, 3)) (ho : oty M k 16) (kk : ∀ M2 : JM, gn M ≤ gn M2 → AWO p l e R s m args below meth c D cs b nL H0 Qf (K M2) M2 ks sl lv (pc + 3) st) : AWO p l e R s m args below meth c D cs b nL H0 Qf (sq (si M k 2 x) K) M ks sl lv pc (.int x :: .ref (b + k) :: st) := aw_putI (ci := 6) X 2 rfl gy_X6 tyX6 tyX6_ok nmX6 (by decide) (by decide) rfl rfl wf_X6_29 rfl (Or.inl rfl) hdg ho (kk _ (Nat.le_refl _))
def f_X6_update_L47 : Nat → Int32 → Int32 → Int32 → JM → Option (Int32 × JM) := fun a0 v1 v2 v3 M => if (gi M a0 1) < (12 : Int32) then (orf (gr M a0 0) fun r2 => if 0 ≤ (gi M a0 1) ∧ (gi M a0 1) < ln r2 then (orf (gr M r2 (gi M a0 1)) fun r3 => ob (f_X5_come r3 v1 v2 v3 M) fun _ M4 => sq (si M4 a0 1 ((gi M4 a0 1) + (1 : Int32))) fun M6 => some (((gi M6 a0 1) - (1 : Int32)), M6)) else none) else (sq (si M a0 2 ((gi M a0 2) + (1 : Int32))) fun M8 => some ((-9 : Int32), M8))
set_option maxRecDepth 10000 in
set_option maxHeartbeats 4000000 in
theorem t_X6_update_L47 {p : Program} {l : Launch} {e : Env} {s : State} {m : MethodId} {args : Array Value} {below : List Frame} {meth : Method} {c : Code} {D : va_G} {cs : JC} {b : Nat} (X : jX p c cX6_update 5 s m args RX6 D cs b meth s.heap) (hr : meth.sig.returnType = Option.some Jvm.ClassFile.FieldType.int) : ∀ (a0 : Nat) (v1 : Int32) (v2 : Int32) (v3 : Int32) (M : JM), oty M a0 16 → AWO p l e rm_X6_update s m args below meth c D cs b 5 s.heap (jE below D cs b evI args s rm_X6_update.cells rm_X6_update.slots) (f_X6_update_L47 a0 v1 v2 v3 M) M 0 0 [(0, .ref (b + a0)), (1, .int v1), (2, .int v2), (3, .int v3)] 47 [] := by
  intro a0 v1 v2 v3 M h_a0
  refine aw_callq (F' := if (gi M a0 1) < (12 : Int32) then (orf (gr M a0 0) fun r2 => if 0 ≤ (gi M a0 1) ∧ (gi M a0 1) < ln r2 then (orf (gr M r2 (gi M a0 1)) fun r3 => ob (f_X5_come r3 v1 v2 v3 M) fun _ M4 => sq (si M4 a0 1 ((gi M4 a0 1) + (1 : Int32))) fun M6 => some (((gi M6 a0 1) - (1 : Int32)), M6)) else none) else (sq (si M a0 2 ((gi M a0 2) + (1 : Int32))) fun M8 => some ((-9 : Int32), M8))) rfl ?_
  refine aw_aload_n (pc := 47) X 0 dX6_update_47 rfl ?_
  refine gf_X6_18 (pc := 48) X dX6_update_48 h_a0 ?_
  refine aw_bipush (pc := 51) X (12 : Int32) dX6_update_51 (by decide) ?_
  refine aw_icmplt (pc := 53) X 69 dX6_update_53 (by decide) ?_ ?_
  · refine aw_aload_n (pc := 69) X 0 dX6_update_69 rfl ?_
    refine gf_X6_11 (pc := 70) X dX6_update_70 h_a0 (fun r2 h_r2 => ?_)
    refine aw_aload_n (pc := 73) X 0 dX6_update_73 rfl ?_
    refine gf_X6_18 (pc := 74) X dX6_update_74 h_a0 ?_
    refine aw_aldT (pc := 77) X dX6_update_77 h_r2 (fun r3 h_r3 => ?_)
    refine aw_iload_n (pc := 78) X 1 dX6_update_78 rfl ?_
    refine aw_iload_n (pc := 79) X 2 dX6_update_79 rfl ?_
    refine aw_iload_n (pc := 80) X 3 dX6_update_80 rfl ?_
    refine cl_X6_32 (pc := 81) X ⟨Nat.le_of_ble_eq_true rfl, Nat.le_of_ble_eq_true rfl⟩ (Nat.le_of_ble_eq_true rfl) (ks2 := 0) (sl2 := 0) rfl rfl ⟨(Nat.le_of_ble_eq_true rfl), (Nat.le_of_ble_eq_true rfl)⟩ dX6_update_81 h_r3 (fun M4 g5 => ?_)
    have h_a0 := h_a0.mono g5
    refine aw_aload_n (pc := 84) X 0 dX6_update_84 rfl ?_
    refine aw_dup_a (pc := 85) X dX6_update_85 ?_
    refine gf_X6_18 (pc := 86) X dX6_update_86 h_a0 ?_
    refine aw_iconst (pc := 89) X (1 : Int32) dX6_update_89 (by decide) ?_
    refine aw_iadd (pc := 90) X dX6_update_90 ?_
    refine pf_X6_18 (pc := 91) X dX6_update_91 h_a0 (fun M6 g7 => ?_)
    have h_a0 := h_a0.mono g7
    refine aw_aload_n (pc := 94) X 0 dX6_update_94 rfl ?_
    refine gf_X6_18 (pc := 95) X dX6_update_95 h_a0 ?_
    refine aw_iconst (pc := 98) X (1 : Int32) dX6_update_98 (by decide) ?_
    refine aw_isub (pc := 99) X dX6_update_99 ?_
    exact aw_iret (pc := 100) X hr dX6_update_100 (Nat.le_of_ble_eq_true rfl) (Nat.le_of_ble_eq_true rfl)
  · refine aw_aload_n (pc := 56) X 0 dX6_update_56 rfl ?_
    refine aw_dup_a (pc := 57) X dX6_update_57 ?_
    refine gf_X6_29 (pc := 58) X dX6_update_58 h_a0 ?_
    refine aw_iconst (pc := 61) X (1 : Int32) dX6_update_61 (by decide) ?_
    refine aw_iadd (pc := 62) X dX6_update_62 ?_
    refine pf_X6_29 (pc := 63) X dX6_update_63 h_a0 (fun M8 g9 => ?_)
    have h_a0 := h_a0.mono g9
    refine aw_bipush (pc := 66) X (-9 : Int32) dX6_update_66 (by decide) ?_
    exact aw_iret (pc := 68) X hr dX6_update_68 (Nat.le_of_ble_eq_true rfl) (Nat.le_of_ble_eq_true rfl)
theorem gf_X6_22 {ρ : Type} {l : Launch} {p : Program} {e : Env} {R : Room} {s : State} {m : MethodId} {args : Array Value} {below : List Frame} {meth : Method} {c : Code} {D : va_G} {cs : JC} {b nL : Nat} {H0 : Heap} {Qf : ρ × JM → State → Prop} {M : JM} {ks sl : Nat} {lv : List (Nat × Value)} {pc : Nat} {st : List Value} {cc : ByteArray} {k : Nat} (X : jX p c cc nL s m args RX6 D cs b meth H0) {F : Option (ρ × JM)} (hdg : decode cc pc = .ok (.getfield 22, 3)) (ho : oty M k 15) (kk : AWO p l e R s m args below meth c D cs b nL H0 Qf F M ks sl lv (pc + 3) (.int (gi M k 0) :: st)) : AWO p l e R s m args below meth c D cs b nL H0 Qf F M ks sl lv pc (.ref (b + k) :: st) := aw_getI (ci := 5) X 0 rfl gy_X5 (by decide) rfl rfl wf_X6_22 hdg ho kk
theorem cl_X6_25 {ρ : Type} {l : Launch} {p : Program} {e : Env} {R : Room} {s : State} {m : MethodId} {args : Array Value} {below : List Frame} {meth : Method} {c : Code} {D : va_G} {cs : JC} {b nL : Nat} {H0 : Heap} {Qf : ρ × JM → State → Prop} {M : JM} {ks sl : Nat} {lv : List (Nat × Value)} {pc : Nat} {st : List Value} {cc : ByteArray} (X : jX p c cc nL s m args RX6 D cs b meth H0) {z0 : Nat} {z1 : Int32} {z2 : Int32} {K : JM → Option (ρ × JM)} (hrm : jRm rm_X5_update 4 R) (hW : (st.map fun v => v.category).sum ≤ 8) {ks2 sl2 : Nat} (hk2 : ks + rm_X5_update.cells = ks2) (hs2 : sl + rm_X5_update.slots = sl2) (hroom : ks2 ≤ R.cells ∧ sl2 ≤ R.slots) (hdg : decode cc pc = .ok (.invokevirtual 25, 3)) (h0 : oty M z0 15) (kk : ∀ (M2 : JM), gn M ≤ gn M2 → AWO p l e R s m args below meth c D cs b nL H0 Qf (K M2) M2 ks2 sl2 lv (pc + 3) (st)) : AWO p l e R s m args below meth c D cs b nL H0 Qf (ob (f_X5_update z0 z1 z2 M) (fun _ => K)) M ks sl lv pc (.int z2 :: .int z1 :: .ref (b + z0) :: st) := by
  subst hk2
  subst hs2
  exact aw_callV (ci := 5) X [.int z1, .int z2] st rfl rfl wl_X6_25 wi_X5_update wv_X5_update wc_X5_update wn_X5 (n := 2) hd_X5_update rfl hrm hW hroom hdg h0 (t_X5_update z0 z1 z2 M h0) (fun _ M2 g _ => kk M2 g)
def f_X6_update_L26 : Nat → Int32 → Int32 → Int32 → JM → Option (Int32 × JM) := fun a0 v2 v3 v4 M => orf (gr M a0 0) fun r13 => if 0 ≤ v4 ∧ v4 < ln r13 then (orf (gr M r13 v4) fun r14 => ob (f_X5_update r14 v2 v3 M) fun _ M15 => some (v4, M15)) else none
set_option maxRecDepth 10000 in
set_option maxHeartbeats 4000000 in
theorem t_X6_update_L26 {p : Program} {l : Launch} {e : Env} {s : State} {m : MethodId} {args : Array Value} {below : List Frame} {meth : Method} {c : Code} {D : va_G} {cs : JC} {b : Nat} (X : jX p c cX6_update 5 s m args RX6 D cs b meth s.heap) (hr : meth.sig.returnType = Option.some Jvm.ClassFile.FieldType.int) : ∀ (a0 : Nat) (v2 : Int32) (v3 : Int32) (v4 : Int32) (M : JM), oty M a0 16 → AWO p l e rm_X6_update s m args below meth c D cs b 5 s.heap (jE below D cs b evI args s rm_X6_update.cells rm_X6_update.slots) (f_X6_update_L26 a0 v2 v3 v4 M) M 0 0 [(0, .ref (b + a0)), (2, .int v2), (3, .int v3), (4, .int v4)] 26 [] := by
  intro a0 v2 v3 v4 M h_a0
  refine aw_callq (F' := orf (gr M a0 0) fun r13 => if 0 ≤ v4 ∧ v4 < ln r13 then (orf (gr M r13 v4) fun r14 => ob (f_X5_update r14 v2 v3 M) fun _ M15 => some (v4, M15)) else none) rfl ?_
  refine aw_aload_n (pc := 26) X 0 dX6_update_26 rfl ?_
  refine gf_X6_11 (pc := 27) X dX6_update_27 h_a0 (fun r13 h_r13 => ?_)
  refine aw_iload (pc := 30) X 3 dX6_update_30 rfl ?_
  refine aw_aldT (pc := 32) X dX6_update_32 h_r13 (fun r14 h_r14 => ?_)
  refine aw_iload_n (pc := 33) X 1 dX6_update_33 rfl ?_
  refine aw_iload_n (pc := 34) X 2 dX6_update_34 rfl ?_
  refine cl_X6_25 (pc := 35) X ⟨Nat.le_of_ble_eq_true rfl, Nat.le_of_ble_eq_true rfl⟩ (Nat.le_of_ble_eq_true rfl) (ks2 := 0) (sl2 := 0) rfl rfl ⟨(Nat.le_of_ble_eq_true rfl), (Nat.le_of_ble_eq_true rfl)⟩ dX6_update_35 h_r14 (fun M15 g16 => ?_)
  have h_a0 := h_a0.mono g16
  refine aw_iload (pc := 38) X 3 dX6_update_38 rfl ?_
  exact aw_iret (pc := 40) X hr dX6_update_40 (Nat.le_of_ble_eq_true rfl) (Nat.le_of_ble_eq_true rfl)
def f_X6_update_L3 : Nat → Nat → Int32 → Int32 → Int32 → Int32 → JM → Option (Int32 × JM)
  | 0, _, _, _, _, _, _ => none
  | n + 1, a0, v1, v2, v3, v4, M => if v4 < (gi M a0 1) then (orf (gr M a0 0) fun r10 => if 0 ≤ v4 ∧ v4 < ln r10 then (orf (gr M r10 v4) fun r11 => if (gi M r11 0) = v1 then (f_X6_update_L26 a0 v2 v3 v4 M) else (sv (v4 + (1 : Int32)) fun i12 => (f_X6_update_L3 n) a0 v1 v2 v3 i12 M)) else none) else (f_X6_update_L47 a0 v1 v2 v3 M)
set_option maxRecDepth 10000 in
set_option maxHeartbeats 4000000 in
theorem t_X6_update_L3 {p : Program} {l : Launch} {e : Env} {s : State} {m : MethodId} {args : Array Value} {below : List Frame} {meth : Method} {c : Code} {D : va_G} {cs : JC} {b : Nat} (X : jX p c cX6_update 5 s m args RX6 D cs b meth s.heap) (hr : meth.sig.returnType = Option.some Jvm.ClassFile.FieldType.int) : ∀ (n : Nat) (a0 : Nat) (v1 : Int32) (v2 : Int32) (v3 : Int32) (v4 : Int32) (M : JM), oty M a0 16 → AWO p l e rm_X6_update s m args below meth c D cs b 5 s.heap (jE below D cs b evI args s rm_X6_update.cells rm_X6_update.slots) (f_X6_update_L3 n a0 v1 v2 v3 v4 M) M 0 0 [(0, .ref (b + a0)), (1, .int v1), (2, .int v2), (3, .int v3), (4, .int v4)] 3 [] := by
  intro n
  induction n with
  | zero => intro a0 v1 v2 v3 v4 M h_a0; exact aw_none
  | succ n ih =>
    intro a0 v1 v2 v3 v4 M h_a0
    refine aw_callq (F' := if v4 < (gi M a0 1) then (orf (gr M a0 0) fun r10 => if 0 ≤ v4 ∧ v4 < ln r10 then (orf (gr M r10 v4) fun r11 => if (gi M r11 0) = v1 then (f_X6_update_L26 a0 v2 v3 v4 M) else (sv (v4 + (1 : Int32)) fun i12 => (f_X6_update_L3 n) a0 v1 v2 v3 i12 M)) else none) else (f_X6_update_L47 a0 v1 v2 v3 M)) rfl ?_
    refine aw_iload (pc := 3) X 4 dX6_update_3 rfl ?_
    refine aw_aload_n (pc := 5) X 0 dX6_update_5 rfl ?_
    refine gf_X6_18 (pc := 6) X dX6_update_6 h_a0 ?_
    refine aw_icmpge (pc := 9) X 47 dX6_update_9 (by decide) ?_ ?_
    · refine aw_aload_n (pc := 12) X 0 dX6_update_12 rfl ?_
      refine gf_X6_11 (pc := 13) X dX6_update_13 h_a0 (fun r10 h_r10 => ?_)
      refine aw_iload (pc := 16) X 4 dX6_update_16 rfl ?_
      refine aw_aldT (pc := 18) X dX6_update_18 h_r10 (fun r11 h_r11 => ?_)
      refine gf_X6_22 (pc := 19) X dX6_update_19 h_r11 ?_
      refine aw_iload_n (pc := 22) X 1 dX6_update_22 rfl ?_
      refine aw_icmpne (pc := 23) X 41 dX6_update_23 (by decide) ?_ ?_
      · refine aw_sub [0, 2, 3, 4] rfl ?_
        exact t_X6_update_L26 X hr a0 v2 v3 v4 M h_a0
      · refine aw_iincV (pc := 41) X (fun y => [(4, .int y), (0, .ref (b + a0)), (1, .int v1), (2, .int v2), (3, .int v3)]) 4 (v := (v4 + (1 : Int32))) dX6_update_41 rfl rfl (by decide) (fun _ => rfl) (fun i12 => ?_)
        refine aw_goto (pc := 44) X 3 dX6_update_44 (by decide) ?_
        refine aw_sub [1, 2, 3, 4, 0] rfl ?_
        exact ih a0 v1 v2 v3 i12 M h_a0
    · refine aw_sub [0, 1, 2, 3] rfl ?_
      exact t_X6_update_L47 X hr a0 v1 v2 v3 M h_a0
def f_X6_update (a0 : Nat) (v1 : Int32) (v2 : Int32) (v3 : Int32) (M : JM) : Option (Int32 × JM) := sv (0 : Int32) fun i1 => f_X6_update_L3 FU a0 v1 v2 v3 i1 M
set_option maxRecDepth 10000 in
set_option maxHeartbeats 4000000 in
theorem t_X6_update {l : Launch} {D : va_G} {cs : JC} {b : Nat} (a0 : Nat) (v1 : Int32) (v2 : Int32) (v3 : Int32) (M : JM) (h_a0 : oty M a0 16) : ∀ q, f_X6_update a0 v1 v2 v3 M = some q → CTy l yX6_update (.code yX6_update cX6_update 5 (Option.some Jvm.ClassFile.FieldType.int) :: GB) rm_X6_update D cs b evI [.ref (b + a0), .int v1, .int v2, .int v3] M rm_X6_update.cells rm_X6_update.slots q := fun q hq => ct_of [(0, .ref (b + a0)), (1, .int v1), (2, .int v2), (3, .int v3)] rfl rfl (Nat.le_of_ble_eq_true rfl) hq (fun p e s m args below meth c X hr hin => by
  refine aw_callq (F' := sv (0 : Int32) fun i1 => f_X6_update_L3 FU a0 v1 v2 v3 i1 M) rfl ?_
  refine aw_iconst (pc := 0) X (0 : Int32) dX6_update_0 (by decide) ?_
  refine aw_istoreV (pc := 1) X (fun y => [(4, .int y), (0, .ref (b + a0)), (1, .int v1), (2, .int v2), (3, .int v3)]) dX6_update_1 (by decide) (fun _ => rfl) (fun i1 => ?_)
  refine aw_sub [1, 2, 3, 4, 0] rfl ?_
  exact t_X6_update_L3 X hr FU a0 v1 v2 v3 i1 M h_a0)
/-! ReportBlocks.report -/
def rm_X7_report : Room := { frames := 4, cells := 0, slots := 0, locals := 94 }
theorem hd_X7_report : jHd yX7_report 1 := by unfold jHd; decide +kernel
theorem cl_X7_232 {ρ : Type} {l : Launch} {p : Program} {e : Env} {R : Room} {s : State} {m : MethodId} {args : Array Value} {below : List Frame} {meth : Method} {c : Code} {D : va_G} {cs : JC} {b nL : Nat} {H0 : Heap} {Qf : ρ × JM → State → Prop} {M : JM} {ks sl : Nat} {lv : List (Nat × Value)} {pc : Nat} {st : List Value} {cc : ByteArray} (X : jX p c cc nL s m args RX7 D cs b meth H0) {z0 : Nat} {K : Bool → JM → Option (ρ × JM)} (hrm : jRm rm_X1_tellsTrack 1 R) (hW : (st.map fun v => v.category).sum ≤ 8) {ks2 sl2 : Nat} (hk2 : ks + rm_X1_tellsTrack.cells = ks2) (hs2 : sl + rm_X1_tellsTrack.slots = sl2) (hroom : ks2 ≤ R.cells ∧ sl2 ≤ R.slots) (hdg : decode cc pc = .ok (.invokevirtual 232, 3)) (h0 : oty M z0 11) (kk : ∀ (r : Bool) (M2 : JM), gn M ≤ gn M2 → AWO p l e R s m args below meth c D cs b nL H0 Qf (K r M2) M2 ks2 sl2 lv (pc + 3) (.int (bI r) :: st)) : AWO p l e R s m args below meth c D cs b nL H0 Qf (ob (f_X1_tellsTrack z0 M) K) M ks sl lv pc (.ref (b + z0) :: st) := by
  subst hk2
  subst hs2
  exact aw_callV (ci := 1) X [] st rfl rfl wl_X7_232 wi_X1_tellsTrack wv_X1_tellsTrack wc_X1_tellsTrack wn_X1 (n := 0) hd_X1_tellsTrack rfl hrm hW hroom hdg h0 (t_X1_tellsTrack z0 M h0) (fun r M2 g _ => kk r M2 g)
theorem gf_X7_99 {ρ : Type} {l : Launch} {p : Program} {e : Env} {R : Room} {s : State} {m : MethodId} {args : Array Value} {below : List Frame} {meth : Method} {c : Code} {D : va_G} {cs : JC} {b nL : Nat} {H0 : Heap} {Qf : ρ × JM → State → Prop} {M : JM} {ks sl : Nat} {lv : List (Nat × Value)} {pc : Nat} {st : List Value} {cc : ByteArray} {k : Nat} (X : jX p c cc nL s m args RX7 D cs b meth H0) {F : Option (ρ × JM)} (hdg : decode cc pc = .ok (.getfield 99, 3)) (ho : oty M k 11) (kk : AWO p l e R s m args below meth c D cs b nL H0 Qf F M ks sl lv (pc + 3) (.int (gi M k 4) :: st)) : AWO p l e R s m args below meth c D cs b nL H0 Qf F M ks sl lv pc (.ref (b + k) :: st) := aw_getI (ci := 1) X 4 rfl gy_X1 (by decide) rfl rfl wf_X7_99 hdg ho kk
theorem gf_X7_102 {ρ : Type} {l : Launch} {p : Program} {e : Env} {R : Room} {s : State} {m : MethodId} {args : Array Value} {below : List Frame} {meth : Method} {c : Code} {D : va_G} {cs : JC} {b nL : Nat} {H0 : Heap} {Qf : ρ × JM → State → Prop} {M : JM} {ks sl : Nat} {lv : List (Nat × Value)} {pc : Nat} {st : List Value} {cc : ByteArray} {k : Nat} (X : jX p c cc nL s m args RX7 D cs b meth H0) {F : Option (ρ × JM)} (hdg : decode cc pc = .ok (.getfield 102, 3)) (ho : oty M k 11) (kk : AWO p l e R s m args below meth c D cs b nL H0 Qf F M ks sl lv (pc + 3) (.int (gi M k 5) :: st)) : AWO p l e R s m args below meth c D cs b nL H0 Qf F M ks sl lv pc (.ref (b + k) :: st) := aw_getI (ci := 1) X 5 rfl gy_X1 (by decide) rfl rfl wf_X7_102 hdg ho kk
theorem gf_X7_51 {ρ : Type} {l : Launch} {p : Program} {e : Env} {R : Room} {s : State} {m : MethodId} {args : Array Value} {below : List Frame} {meth : Method} {c : Code} {D : va_G} {cs : JC} {b nL : Nat} {H0 : Heap} {Qf : ρ × JM → State → Prop} {M : JM} {ks sl : Nat} {lv : List (Nat × Value)} {pc : Nat} {st : List Value} {cc : ByteArray} {k : Nat} (X : jX p c cc nL s m args RX7 D cs b meth H0) {K : Nat → Option (ρ × JM)} (hdg : decode cc pc = .ok (.getfield 51, 3)) (ho : oty M k 17) (kk : ∀ r : Nat, oty M r 16 → AWO p l e R s m args below meth c D cs b nL H0 Qf (K r) M ks sl lv (pc + 3) (.ref (b + r) :: st)) : AWO p l e R s m args below meth c D cs b nL H0 Qf (orf (gr M k 7) K) M ks sl lv pc (.ref (b + k) :: st) := aw_getR (ci := 7) (τ := 16) X 7 rfl gy_X7 (by decide) (by decide) rfl rfl (by decide) wf_X7_51 hdg ho kk
theorem cl_X7_236 {ρ : Type} {l : Launch} {p : Program} {e : Env} {R : Room} {s : State} {m : MethodId} {args : Array Value} {below : List Frame} {meth : Method} {c : Code} {D : va_G} {cs : JC} {b nL : Nat} {H0 : Heap} {Qf : ρ × JM → State → Prop} {M : JM} {ks sl : Nat} {lv : List (Nat × Value)} {pc : Nat} {st : List Value} {cc : ByteArray} (X : jX p c cc nL s m args RX7 D cs b meth H0) {z0 : Nat} {z1 : Int32} {z2 : Int32} {z3 : Int32} {K : Int32 → JM → Option (ρ × JM)} (hrm : jRm rm_X6_update 5 R) (hW : (st.map fun v => v.category).sum ≤ 8) {ks2 sl2 : Nat} (hk2 : ks + rm_X6_update.cells = ks2) (hs2 : sl + rm_X6_update.slots = sl2) (hroom : ks2 ≤ R.cells ∧ sl2 ≤ R.slots) (hdg : decode cc pc = .ok (.invokevirtual 236, 3)) (h0 : oty M z0 16) (kk : ∀ (r : Int32) (M2 : JM), gn M ≤ gn M2 → AWO p l e R s m args below meth c D cs b nL H0 Qf (K r M2) M2 ks2 sl2 lv (pc + 3) (.int r :: st)) : AWO p l e R s m args below meth c D cs b nL H0 Qf (ob (f_X6_update z0 z1 z2 z3 M) K) M ks sl lv pc (.int z3 :: .int z2 :: .int z1 :: .ref (b + z0) :: st) := by
  subst hk2
  subst hs2
  exact aw_callV (ci := 6) X [.int z1, .int z2, .int z3] st rfl rfl wl_X7_236 wi_X6_update wv_X6_update wc_X6_update wn_X6 (n := 3) hd_X6_update rfl hrm hW hroom hdg h0 (t_X6_update z0 z1 z2 z3 M h0) (fun r M2 g _ => kk r M2 g)
def f_X7_report (a0 : Nat) (v1 : Int32) (M : JM) : Option (Int32 × JM) := ob (f_X7_isRecord a0 v1 M) fun r3 M1 => if r3 = true then (orf (gr M1 a0 4) fun r4 => ob (f_X7_categoryAt a0 (gi M1 r4 0) M1) fun o8 M5 => oca o8 (some ((-9 : Int32), M5)) fun r7 => ob (f_X1_tellsTrack r7 M5) fun r11 M9 => if r11 = true then (orf (gr M9 a0 4) fun r12 => ob (f_X0_sizeOf r12 v1 (gi M9 r7 4) M9) fun r15 M13 => sv r15 fun i16 => orf (gr M13 a0 4) fun r17 => ob (f_X0_sizeOf r17 v1 (gi M13 r7 5) M13) fun r20 M18 => sv r20 fun i21 => if i16 = (2 : Int32) then (if i21 = (4 : Int32) then (orf (gr M18 a0 4) fun r22 => ob (f_X0_beginOf r22 v1 (gi M18 r7 5) M18) fun r25 M23 => sv r25 fun i26 => orf (gr M23 a0 4) fun r27 => orf (gr M23 a0 4) fun r28 => ob (f_X0_beginOf r28 v1 (gi M23 r7 4) M23) fun r31 M29 => ob (f_X0_joined r27 r31 i16 M29) fun r34 M32 => sv r34.toInt32 fun i35 => orf (gr M32 a0 4) fun r36 => ob (f_X0_joined r36 i26 (2 : Int32) M32) fun r39 M37 => sv r39.toInt32.toInt16.toInt32 fun i40 => orf (gr M37 a0 4) fun r41 => ob (f_X0_joined r41 (i26 + (2 : Int32)) (2 : Int32) M37) fun r44 M42 => sv r44.toInt32.toInt16.toInt32 fun i45 => orf (gr M42 a0 7) fun r46 => ob (f_X6_update r46 (i35 &&& (4095 : Int32)) i40 i45 M42) fun r49 M47 => some (r49, M47)) else (some ((-9 : Int32), M18))) else (some ((-9 : Int32), M18))) else (some ((-9 : Int32), M9))) else (some ((-1 : Int32), M1))
set_option maxRecDepth 10000 in
set_option maxHeartbeats 4000000 in
theorem t_X7_report {l : Launch} {D : va_G} {cs : JC} {b : Nat} (a0 : Nat) (v1 : Int32) (M : JM) (h_a0 : oty M a0 17) : ∀ q, f_X7_report a0 v1 M = some q → CTy l yX7_report (.code yX7_report cX7_report 9 (Option.some Jvm.ClassFile.FieldType.int) :: GB) rm_X7_report D cs b evI [.ref (b + a0), .int v1] M rm_X7_report.cells rm_X7_report.slots q := fun q hq => ct_of [(0, .ref (b + a0)), (1, .int v1)] rfl rfl (Nat.le_of_ble_eq_true rfl) hq (fun p e s m args below meth c X hr hin => by
  refine aw_callq (F' := ob (f_X7_isRecord a0 v1 M) fun r3 M1 => if r3 = true then (orf (gr M1 a0 4) fun r4 => ob (f_X7_categoryAt a0 (gi M1 r4 0) M1) fun o8 M5 => oca o8 (some ((-9 : Int32), M5)) fun r7 => ob (f_X1_tellsTrack r7 M5) fun r11 M9 => if r11 = true then (orf (gr M9 a0 4) fun r12 => ob (f_X0_sizeOf r12 v1 (gi M9 r7 4) M9) fun r15 M13 => sv r15 fun i16 => orf (gr M13 a0 4) fun r17 => ob (f_X0_sizeOf r17 v1 (gi M13 r7 5) M13) fun r20 M18 => sv r20 fun i21 => if i16 = (2 : Int32) then (if i21 = (4 : Int32) then (orf (gr M18 a0 4) fun r22 => ob (f_X0_beginOf r22 v1 (gi M18 r7 5) M18) fun r25 M23 => sv r25 fun i26 => orf (gr M23 a0 4) fun r27 => orf (gr M23 a0 4) fun r28 => ob (f_X0_beginOf r28 v1 (gi M23 r7 4) M23) fun r31 M29 => ob (f_X0_joined r27 r31 i16 M29) fun r34 M32 => sv r34.toInt32 fun i35 => orf (gr M32 a0 4) fun r36 => ob (f_X0_joined r36 i26 (2 : Int32) M32) fun r39 M37 => sv r39.toInt32.toInt16.toInt32 fun i40 => orf (gr M37 a0 4) fun r41 => ob (f_X0_joined r41 (i26 + (2 : Int32)) (2 : Int32) M37) fun r44 M42 => sv r44.toInt32.toInt16.toInt32 fun i45 => orf (gr M42 a0 7) fun r46 => ob (f_X6_update r46 (i35 &&& (4095 : Int32)) i40 i45 M42) fun r49 M47 => some (r49, M47)) else (some ((-9 : Int32), M18))) else (some ((-9 : Int32), M18))) else (some ((-9 : Int32), M9))) else (some ((-1 : Int32), M1))) rfl ?_
  refine aw_aload_n (pc := 0) X 0 dX7_report_0 rfl ?_
  refine aw_iload_n (pc := 1) X 1 dX7_report_1 rfl ?_
  refine cl_X7_157 (pc := 2) X ⟨Nat.le_of_ble_eq_true rfl, Nat.le_of_ble_eq_true rfl⟩ (Nat.le_of_ble_eq_true rfl) (ks2 := 0) (sl2 := 0) rfl rfl ⟨(Nat.le_of_ble_eq_true rfl), (Nat.le_of_ble_eq_true rfl)⟩ dX7_report_2 h_a0 (fun r3 M1 g2 => ?_)
  have h_a0 := h_a0.mono g2
  refine aw_ifneB (pc := 5) X 10 dX7_report_5 (by decide) ?_ ?_
  · refine aw_aload_n (pc := 10) X 0 dX7_report_10 rfl ?_
    refine aw_aload_n (pc := 11) X 0 dX7_report_11 rfl ?_
    refine gf_X7_34 (pc := 12) X dX7_report_12 h_a0 (fun r4 h_r4 => ?_)
    refine gf_X7_154 (pc := 15) X dX7_report_15 h_r4 ?_
    refine cl_X7_66 (pc := 18) X ⟨Nat.le_of_ble_eq_true rfl, Nat.le_of_ble_eq_true rfl⟩ (Nat.le_of_ble_eq_true rfl) (ks2 := 0) (sl2 := 0) rfl rfl ⟨(Nat.le_of_ble_eq_true rfl), (Nat.le_of_ble_eq_true rfl)⟩ dX7_report_18 h_a0 (fun M5 g6 => ?_) (fun r7 M5 g6 h_r7 => ?_)
    · have h_a0 := h_a0.mono g6
      refine aw_astore_n0 (pc := 21) X [(2, .null), (0, .ref (b + a0)), (1, .int v1)] dX7_report_21 (by decide) rfl ?_
      refine aw_aload_n0 (pc := 22) X 0 dX7_report_22 rfl ?_
      refine aw_ifnull_n (pc := 23) X 33 dX7_report_23 (by decide) ?_
      refine aw_bipush (pc := 33) X (-9 : Int32) dX7_report_33 (by decide) ?_
      exact aw_iret (pc := 35) X hr dX7_report_35 (Nat.le_of_ble_eq_true rfl) (Nat.le_of_ble_eq_true rfl)
    · have h_a0 := h_a0.mono g6
      refine aw_astore_n (pc := 21) X [(2, .ref (b + r7)), (0, .ref (b + a0)), (1, .int v1)] dX7_report_21 (by decide) rfl ?_
      refine aw_aload_n (pc := 22) X 0 dX7_report_22 rfl ?_
      refine aw_ifnull_r (pc := 23) X dX7_report_23 ?_
      refine aw_aload_n (pc := 26) X 0 dX7_report_26 rfl ?_
      refine cl_X7_232 (pc := 27) X ⟨Nat.le_of_ble_eq_true rfl, Nat.le_of_ble_eq_true rfl⟩ (Nat.le_of_ble_eq_true rfl) (ks2 := 0) (sl2 := 0) rfl rfl ⟨(Nat.le_of_ble_eq_true rfl), (Nat.le_of_ble_eq_true rfl)⟩ dX7_report_27 h_r7 (fun r11 M9 g10 => ?_)
      have h_a0 := h_a0.mono g10
      have h_r7 := h_r7.mono g10
      refine aw_ifneB (pc := 30) X 36 dX7_report_30 (by decide) ?_ ?_
      · refine aw_aload_n (pc := 36) X 1 dX7_report_36 rfl ?_
        refine gf_X7_34 (pc := 37) X dX7_report_37 h_a0 (fun r12 h_r12 => ?_)
        refine aw_iload_n (pc := 40) X 2 dX7_report_40 rfl ?_
        refine aw_aload_n (pc := 41) X 0 dX7_report_41 rfl ?_
        refine gf_X7_99 (pc := 42) X dX7_report_42 h_r7 ?_
        refine cl_X7_160 (pc := 45) X ⟨Nat.le_of_ble_eq_true rfl, Nat.le_of_ble_eq_true rfl⟩ (Nat.le_of_ble_eq_true rfl) (ks2 := 0) (sl2 := 0) rfl rfl ⟨(Nat.le_of_ble_eq_true rfl), (Nat.le_of_ble_eq_true rfl)⟩ dX7_report_45 h_r12 (fun r15 M13 g14 => ?_)
        have h_a0 := h_a0.mono g14
        have h_r7 := h_r7.mono g14
        refine aw_istoreV_n (pc := 48) X (fun y => [(3, .int y), (2, .ref (b + r7)), (0, .ref (b + a0)), (1, .int v1)]) dX7_report_48 (by decide) (fun _ => rfl) (fun i16 => ?_)
        refine aw_aload_n (pc := 49) X 2 dX7_report_49 rfl ?_
        refine gf_X7_34 (pc := 50) X dX7_report_50 h_a0 (fun r17 h_r17 => ?_)
        refine aw_iload_n (pc := 53) X 3 dX7_report_53 rfl ?_
        refine aw_aload_n (pc := 54) X 1 dX7_report_54 rfl ?_
        refine gf_X7_102 (pc := 55) X dX7_report_55 h_r7 ?_
        refine cl_X7_160 (pc := 58) X ⟨Nat.le_of_ble_eq_true rfl, Nat.le_of_ble_eq_true rfl⟩ (Nat.le_of_ble_eq_true rfl) (ks2 := 0) (sl2 := 0) rfl rfl ⟨(Nat.le_of_ble_eq_true rfl), (Nat.le_of_ble_eq_true rfl)⟩ dX7_report_58 h_r17 (fun r20 M18 g19 => ?_)
        have h_a0 := h_a0.mono g19
        have h_r7 := h_r7.mono g19
        refine aw_istoreV (pc := 61) X (fun y => [(4, .int y), (3, .int i16), (2, .ref (b + r7)), (0, .ref (b + a0)), (1, .int v1)]) dX7_report_61 (by decide) (fun _ => rfl) (fun i21 => ?_)
        refine aw_iload_n (pc := 63) X 1 dX7_report_63 rfl ?_
        refine aw_iconst (pc := 64) X (2 : Int32) dX7_report_64 (by decide) ?_
        refine aw_icmpne (pc := 65) X 74 dX7_report_65 (by decide) ?_ ?_
        · refine aw_iload (pc := 68) X 0 dX7_report_68 rfl ?_
          refine aw_iconst (pc := 70) X (4 : Int32) dX7_report_70 (by decide) ?_
          refine aw_icmpeq (pc := 71) X 77 dX7_report_71 (by decide) ?_ ?_
          · refine aw_aload_n (pc := 77) X 3 dX7_report_77 rfl ?_
            refine gf_X7_34 (pc := 78) X dX7_report_78 h_a0 (fun r22 h_r22 => ?_)
            refine aw_iload_n (pc := 81) X 4 dX7_report_81 rfl ?_
            refine aw_aload_n (pc := 82) X 2 dX7_report_82 rfl ?_
            refine gf_X7_102 (pc := 83) X dX7_report_83 h_r7 ?_
            refine cl_X7_163 (pc := 86) X ⟨Nat.le_of_ble_eq_true rfl, Nat.le_of_ble_eq_true rfl⟩ (Nat.le_of_ble_eq_true rfl) (ks2 := 0) (sl2 := 0) rfl rfl ⟨(Nat.le_of_ble_eq_true rfl), (Nat.le_of_ble_eq_true rfl)⟩ dX7_report_86 h_r22 (fun r25 M23 g24 => ?_)
            have h_a0 := h_a0.mono g24
            have h_r7 := h_r7.mono g24
            refine aw_istoreV (pc := 89) X (fun y => [(5, .int y), (4, .int i21), (3, .int i16), (2, .ref (b + r7)), (0, .ref (b + a0)), (1, .int v1)]) dX7_report_89 (by decide) (fun _ => rfl) (fun i26 => ?_)
            refine aw_aload_n (pc := 91) X 4 dX7_report_91 rfl ?_
            refine gf_X7_34 (pc := 92) X dX7_report_92 h_a0 (fun r27 h_r27 => ?_)
            refine aw_aload_n (pc := 95) X 4 dX7_report_95 rfl ?_
            refine gf_X7_34 (pc := 96) X dX7_report_96 h_a0 (fun r28 h_r28 => ?_)
            refine aw_iload_n (pc := 99) X 5 dX7_report_99 rfl ?_
            refine aw_aload_n (pc := 100) X 3 dX7_report_100 rfl ?_
            refine gf_X7_99 (pc := 101) X dX7_report_101 h_r7 ?_
            refine cl_X7_163 (pc := 104) X ⟨Nat.le_of_ble_eq_true rfl, Nat.le_of_ble_eq_true rfl⟩ (Nat.le_of_ble_eq_true rfl) (ks2 := 0) (sl2 := 0) rfl rfl ⟨(Nat.le_of_ble_eq_true rfl), (Nat.le_of_ble_eq_true rfl)⟩ dX7_report_104 h_r28 (fun r31 M29 g30 => ?_)
            have h_a0 := h_a0.mono g30
            have h_r7 := h_r7.mono g30
            have h_r27 := h_r27.mono g30
            refine aw_iload_n (pc := 107) X 2 dX7_report_107 rfl ?_
            refine cl_X7_171 (pc := 108) X ⟨Nat.le_of_ble_eq_true rfl, Nat.le_of_ble_eq_true rfl⟩ (Nat.le_of_ble_eq_true rfl) (ks2 := 0) (sl2 := 0) rfl rfl ⟨(Nat.le_of_ble_eq_true rfl), (Nat.le_of_ble_eq_true rfl)⟩ dX7_report_108 h_r27 (fun r34 M32 g33 => ?_)
            have h_a0 := h_a0.mono g33
            have h_r7 := h_r7.mono g33
            refine aw_l2i (pc := 111) X dX7_report_111 ?_
            refine aw_istoreV (pc := 112) X (fun y => [(6, .int y), (5, .int i26), (4, .int i21), (3, .int i16), (2, .ref (b + r7)), (0, .ref (b + a0)), (1, .int v1)]) dX7_report_112 (by decide) (fun _ => rfl) (fun i35 => ?_)
            refine aw_aload_n (pc := 114) X 5 dX7_report_114 rfl ?_
            refine gf_X7_34 (pc := 115) X dX7_report_115 h_a0 (fun r36 h_r36 => ?_)
            refine aw_iload (pc := 118) X 1 dX7_report_118 rfl ?_
            refine aw_iconst (pc := 120) X (2 : Int32) dX7_report_120 (by decide) ?_
            refine cl_X7_171 (pc := 121) X ⟨Nat.le_of_ble_eq_true rfl, Nat.le_of_ble_eq_true rfl⟩ (Nat.le_of_ble_eq_true rfl) (ks2 := 0) (sl2 := 0) rfl rfl ⟨(Nat.le_of_ble_eq_true rfl), (Nat.le_of_ble_eq_true rfl)⟩ dX7_report_121 h_r36 (fun r39 M37 g38 => ?_)
            have h_a0 := h_a0.mono g38
            have h_r7 := h_r7.mono g38
            refine aw_l2i (pc := 124) X dX7_report_124 ?_
            refine aw_i2s (pc := 125) X dX7_report_125 ?_
            refine aw_istoreV (pc := 126) X (fun y => [(7, .int y), (6, .int i35), (5, .int i26), (4, .int i21), (3, .int i16), (2, .ref (b + r7)), (0, .ref (b + a0)), (1, .int v1)]) dX7_report_126 (by decide) (fun _ => rfl) (fun i40 => ?_)
            refine aw_aload_n (pc := 128) X 6 dX7_report_128 rfl ?_
            refine gf_X7_34 (pc := 129) X dX7_report_129 h_a0 (fun r41 h_r41 => ?_)
            refine aw_iload (pc := 132) X 2 dX7_report_132 rfl ?_
            refine aw_iconst (pc := 134) X (2 : Int32) dX7_report_134 (by decide) ?_
            refine aw_iadd (pc := 135) X dX7_report_135 ?_
            refine aw_iconst (pc := 136) X (2 : Int32) dX7_report_136 (by decide) ?_
            refine cl_X7_171 (pc := 137) X ⟨Nat.le_of_ble_eq_true rfl, Nat.le_of_ble_eq_true rfl⟩ (Nat.le_of_ble_eq_true rfl) (ks2 := 0) (sl2 := 0) rfl rfl ⟨(Nat.le_of_ble_eq_true rfl), (Nat.le_of_ble_eq_true rfl)⟩ dX7_report_137 h_r41 (fun r44 M42 g43 => ?_)
            have h_a0 := h_a0.mono g43
            have h_r7 := h_r7.mono g43
            refine aw_l2i (pc := 140) X dX7_report_140 ?_
            refine aw_i2s (pc := 141) X dX7_report_141 ?_
            refine aw_istoreV (pc := 142) X (fun y => [(8, .int y), (7, .int i40), (6, .int i35), (5, .int i26), (4, .int i21), (3, .int i16), (2, .ref (b + r7)), (0, .ref (b + a0)), (1, .int v1)]) dX7_report_142 (by decide) (fun _ => rfl) (fun i45 => ?_)
            refine aw_aload_n (pc := 144) X 7 dX7_report_144 rfl ?_
            refine gf_X7_51 (pc := 145) X dX7_report_145 h_a0 (fun r46 h_r46 => ?_)
            refine aw_iload (pc := 148) X 2 dX7_report_148 rfl ?_
            refine aw_sipush (pc := 150) X (4095 : Int32) dX7_report_150 (by decide) ?_
            refine aw_iand (pc := 153) X dX7_report_153 ?_
            refine aw_iload (pc := 154) X 1 dX7_report_154 rfl ?_
            refine aw_iload (pc := 156) X 0 dX7_report_156 rfl ?_
            refine cl_X7_236 (pc := 158) X ⟨Nat.le_of_ble_eq_true rfl, Nat.le_of_ble_eq_true rfl⟩ (Nat.le_of_ble_eq_true rfl) (ks2 := 0) (sl2 := 0) rfl rfl ⟨(Nat.le_of_ble_eq_true rfl), (Nat.le_of_ble_eq_true rfl)⟩ dX7_report_158 h_r46 (fun r49 M47 g48 => ?_)
            have h_a0 := h_a0.mono g48
            have h_r7 := h_r7.mono g48
            exact aw_iret (pc := 161) X hr dX7_report_161 (Nat.le_of_ble_eq_true rfl) (Nat.le_of_ble_eq_true rfl)
          · refine aw_bipush (pc := 74) X (-9 : Int32) dX7_report_74 (by decide) ?_
            exact aw_iret (pc := 76) X hr dX7_report_76 (Nat.le_of_ble_eq_true rfl) (Nat.le_of_ble_eq_true rfl)
        · refine aw_bipush (pc := 74) X (-9 : Int32) dX7_report_74 (by decide) ?_
          exact aw_iret (pc := 76) X hr dX7_report_76 (Nat.le_of_ble_eq_true rfl) (Nat.le_of_ble_eq_true rfl)
      · refine aw_bipush (pc := 33) X (-9 : Int32) dX7_report_33 (by decide) ?_
        exact aw_iret (pc := 35) X hr dX7_report_35 (Nat.le_of_ble_eq_true rfl) (Nat.le_of_ble_eq_true rfl)
  · refine aw_iconst (pc := 8) X (-1 : Int32) dX7_report_8 (by decide) ?_
    exact aw_iret (pc := 9) X hr dX7_report_9 (Nat.le_of_ble_eq_true rfl) (Nat.le_of_ble_eq_true rfl))
/-! ReportBlocksModel.signed -/
def rm_X8_signed : Room := { frames := 0, cells := 0, slots := 0, locals := 0 }
theorem hd_X8_signed : jHd yX8_signed 1 := by unfold jHd; decide +kernel
def f_X8_signed (v0 : Int64) (M : JM) : Option (Int32 × JM) := sv (v0.toInt32 &&& (65535 : Int32)) fun i1 => if (32767 : Int32) < i1 then (some ((i1 - (65536 : Int32)), M)) else (some (i1, M))
set_option maxRecDepth 10000 in
set_option maxHeartbeats 4000000 in
theorem t_X8_signed {l : Launch} {D : va_G} {cs : JC} {b : Nat} (v0 : Int64) (M : JM)  : ∀ q, f_X8_signed v0 M = some q → CTy l yX8_signed (.code yX8_signed cX8_signed 3 (Option.some Jvm.ClassFile.FieldType.int) :: GB) rm_X8_signed D cs b evI [.long v0] M rm_X8_signed.cells rm_X8_signed.slots q := fun q hq => ct_of [(0, .long v0)] rfl rfl (Nat.le_of_ble_eq_true rfl) hq (fun p e s m args below meth c X hr hin => by
  refine aw_callq (F' := sv (v0.toInt32 &&& (65535 : Int32)) fun i1 => if (32767 : Int32) < i1 then (some ((i1 - (65536 : Int32)), M)) else (some (i1, M))) rfl ?_
  refine aw_lload_n (pc := 0) X 0 dX8_signed_0 rfl ?_
  refine aw_l2i (pc := 1) X dX8_signed_1 ?_
  refine aw_ldc (pc := 2) X (65535 : Int32) dX8_signed_2 wo_X8_214 ?_
  refine aw_iand (pc := 4) X dX8_signed_4 ?_
  refine aw_istoreV_n (pc := 5) X (fun y => [(2, .int y), (0, .long v0)]) dX8_signed_5 (by decide) (fun _ => rfl) (fun i1 => ?_)
  refine aw_iload_n (pc := 6) X 0 dX8_signed_6 rfl ?_
  refine aw_sipush (pc := 7) X (32767 : Int32) dX8_signed_7 (by decide) ?_
  refine aw_icmple (pc := 10) X 20 dX8_signed_10 (by decide) ?_ ?_
  · refine aw_iload_n (pc := 13) X 0 dX8_signed_13 rfl ?_
    refine aw_ldc (pc := 14) X (65536 : Int32) dX8_signed_14 wo_X8_215 ?_
    refine aw_isub (pc := 16) X dX8_signed_16 ?_
    refine aw_goto (pc := 17) X 21 dX8_signed_17 (by decide) ?_
    exact aw_iret (pc := 21) X hr dX8_signed_21 (Nat.le_of_ble_eq_true rfl) (Nat.le_of_ble_eq_true rfl)
  · refine aw_iload_n (pc := 20) X 0 dX8_signed_20 rfl ?_
    exact aw_iret (pc := 21) X hr dX8_signed_21 (Nat.le_of_ble_eq_true rfl) (Nat.le_of_ble_eq_true rfl))
/-! ReportBlocksModel.trackOf -/
def rm_X8_trackOf : Room := { frames := 0, cells := 0, slots := 0, locals := 0 }
theorem hd_X8_trackOf : jHd yX8_trackOf 1 := by unfold jHd; decide +kernel
theorem gf_X8_216 {ρ : Type} {l : Launch} {p : Program} {e : Env} {R : Room} {s : State} {m : MethodId} {args : Array Value} {below : List Frame} {meth : Method} {c : Code} {D : va_G} {cs : JC} {b nL : Nat} {H0 : Heap} {Qf : ρ × JM → State → Prop} {M : JM} {ks sl : Nat} {lv : List (Nat × Value)} {pc : Nat} {st : List Value} {cc : ByteArray} {k : Nat} (X : jX p c cc nL s m args RX8 D cs b meth H0) {F : Option (ρ × JM)} (hdg : decode cc pc = .ok (.getfield 216, 3)) (ho : oty M k 18) (kk : AWO p l e R s m args below meth c D cs b nL H0 Qf F M ks sl lv (pc + 3) (.int (gi M k 28) :: st)) : AWO p l e R s m args below meth c D cs b nL H0 Qf F M ks sl lv pc (.ref (b + k) :: st) := aw_getI (ci := 8) X 28 rfl gy_X8 (by decide) rfl rfl wf_X8_216 hdg ho kk
theorem gf_X8_66 {ρ : Type} {l : Launch} {p : Program} {e : Env} {R : Room} {s : State} {m : MethodId} {args : Array Value} {below : List Frame} {meth : Method} {c : Code} {D : va_G} {cs : JC} {b nL : Nat} {H0 : Heap} {Qf : ρ × JM → State → Prop} {M : JM} {ks sl : Nat} {lv : List (Nat × Value)} {pc : Nat} {st : List Value} {cc : ByteArray} {k : Nat} (X : jX p c cc nL s m args RX8 D cs b meth H0) {K : Nat → Option (ρ × JM)} (hdg : decode cc pc = .ok (.getfield 66, 3)) (ho : oty M k 18) (kk : ∀ r : Nat, oty M r 1 → AWO p l e R s m args below meth c D cs b nL H0 Qf (K r) M ks sl lv (pc + 3) (.ref (b + r) :: st)) : AWO p l e R s m args below meth c D cs b nL H0 Qf (orf (gr M k 29) K) M ks sl lv pc (.ref (b + k) :: st) := aw_getR (ci := 8) (τ := 1) X 29 rfl gy_X8 (by decide) (by decide) rfl rfl (by decide) wf_X8_66 hdg ho kk
def f_X8_trackOf_L2 : Nat → Nat → Int32 → Int32 → JM → Option (Int32 × JM)
  | 0, _, _, _, _ => none
  | n + 1, a0, v1, v2, M => if v2 < (gi M a0 28) then (orf (gr M a0 29) fun r2 => if 0 ≤ v2 ∧ v2 < ln r2 then (if (gi M r2 v2) = v1 then (some (v2, M)) else (sv (v2 + (1 : Int32)) fun i3 => (f_X8_trackOf_L2 n) a0 v1 i3 M)) else none) else (some ((-9 : Int32), M))
set_option maxRecDepth 10000 in
set_option maxHeartbeats 4000000 in
theorem t_X8_trackOf_L2 {p : Program} {l : Launch} {e : Env} {s : State} {m : MethodId} {args : Array Value} {below : List Frame} {meth : Method} {c : Code} {D : va_G} {cs : JC} {b : Nat} (X : jX p c cX8_trackOf 3 s m args RX8 D cs b meth s.heap) (hr : meth.sig.returnType = Option.some Jvm.ClassFile.FieldType.int) : ∀ (n : Nat) (a0 : Nat) (v1 : Int32) (v2 : Int32) (M : JM), oty M a0 18 → AWO p l e rm_X8_trackOf s m args below meth c D cs b 3 s.heap (jE below D cs b evI args s rm_X8_trackOf.cells rm_X8_trackOf.slots) (f_X8_trackOf_L2 n a0 v1 v2 M) M 0 0 [(0, .ref (b + a0)), (1, .int v1), (2, .int v2)] 2 [] := by
  intro n
  induction n with
  | zero => intro a0 v1 v2 M h_a0; exact aw_none
  | succ n ih =>
    intro a0 v1 v2 M h_a0
    refine aw_callq (F' := if v2 < (gi M a0 28) then (orf (gr M a0 29) fun r2 => if 0 ≤ v2 ∧ v2 < ln r2 then (if (gi M r2 v2) = v1 then (some (v2, M)) else (sv (v2 + (1 : Int32)) fun i3 => (f_X8_trackOf_L2 n) a0 v1 i3 M)) else none) else (some ((-9 : Int32), M))) rfl ?_
    refine aw_iload_n (pc := 2) X 2 dX8_trackOf_2 rfl ?_
    refine aw_aload_n (pc := 3) X 0 dX8_trackOf_3 rfl ?_
    refine gf_X8_216 (pc := 4) X dX8_trackOf_4 h_a0 ?_
    refine aw_icmpge (pc := 7) X 28 dX8_trackOf_7 (by decide) ?_ ?_
    · refine aw_aload_n (pc := 10) X 0 dX8_trackOf_10 rfl ?_
      refine gf_X8_66 (pc := 11) X dX8_trackOf_11 h_a0 (fun r2 h_r2 => ?_)
      refine aw_iload_n (pc := 14) X 2 dX8_trackOf_14 rfl ?_
      refine aw_iald (pc := 15) X dX8_trackOf_15 h_r2 ?_
      refine aw_iload_n (pc := 16) X 1 dX8_trackOf_16 rfl ?_
      refine aw_icmpne (pc := 17) X 22 dX8_trackOf_17 (by decide) ?_ ?_
      · refine aw_iload_n (pc := 20) X 2 dX8_trackOf_20 rfl ?_
        exact aw_iret (pc := 21) X hr dX8_trackOf_21 (Nat.le_of_ble_eq_true rfl) (Nat.le_of_ble_eq_true rfl)
      · refine aw_iincV (pc := 22) X (fun y => [(2, .int y), (0, .ref (b + a0)), (1, .int v1)]) 2 (v := (v2 + (1 : Int32))) dX8_trackOf_22 rfl rfl (by decide) (fun _ => rfl) (fun i3 => ?_)
        refine aw_goto (pc := 25) X 2 dX8_trackOf_25 (by decide) ?_
        refine aw_sub [1, 2, 0] rfl ?_
        exact ih a0 v1 i3 M h_a0
    · refine aw_bipush (pc := 28) X (-9 : Int32) dX8_trackOf_28 (by decide) ?_
      exact aw_iret (pc := 30) X hr dX8_trackOf_30 (Nat.le_of_ble_eq_true rfl) (Nat.le_of_ble_eq_true rfl)
def f_X8_trackOf (a0 : Nat) (v1 : Int32) (M : JM) : Option (Int32 × JM) := sv (0 : Int32) fun i1 => f_X8_trackOf_L2 FU a0 v1 i1 M
set_option maxRecDepth 10000 in
set_option maxHeartbeats 4000000 in
theorem t_X8_trackOf {l : Launch} {D : va_G} {cs : JC} {b : Nat} (a0 : Nat) (v1 : Int32) (M : JM) (h_a0 : oty M a0 18) : ∀ q, f_X8_trackOf a0 v1 M = some q → CTy l yX8_trackOf (.code yX8_trackOf cX8_trackOf 3 (Option.some Jvm.ClassFile.FieldType.int) :: GB) rm_X8_trackOf D cs b evI [.ref (b + a0), .int v1] M rm_X8_trackOf.cells rm_X8_trackOf.slots q := fun q hq => ct_of [(0, .ref (b + a0)), (1, .int v1)] rfl rfl (Nat.le_of_ble_eq_true rfl) hq (fun p e s m args below meth c X hr hin => by
  refine aw_callq (F' := sv (0 : Int32) fun i1 => f_X8_trackOf_L2 FU a0 v1 i1 M) rfl ?_
  refine aw_iconst (pc := 0) X (0 : Int32) dX8_trackOf_0 (by decide) ?_
  refine aw_istoreV_n (pc := 1) X (fun y => [(2, .int y), (0, .ref (b + a0)), (1, .int v1)]) dX8_trackOf_1 (by decide) (fun _ => rfl) (fun i1 => ?_)
  refine aw_sub [1, 2, 0] rfl ?_
  exact t_X8_trackOf_L2 X hr FU a0 v1 i1 M h_a0)
/-! ReportBlocksModel.report -/
def rm_X8_report : Room := { frames := 2, cells := 0, slots := 0, locals := 43 }
theorem hd_X8_report : jHd yX8_report 1 := by unfold jHd; decide +kernel
theorem cl_X8_219 {ρ : Type} {l : Launch} {p : Program} {e : Env} {R : Room} {s : State} {m : MethodId} {args : Array Value} {below : List Frame} {meth : Method} {c : Code} {D : va_G} {cs : JC} {b nL : Nat} {H0 : Heap} {Qf : ρ × JM → State → Prop} {M : JM} {ks sl : Nat} {lv : List (Nat × Value)} {pc : Nat} {st : List Value} {cc : ByteArray} (X : jX p c cc nL s m args RX8 D cs b meth H0) {z0 : Int64} {K : Int32 → JM → Option (ρ × JM)} (hrm : jRm rm_X8_signed 3 R) (hW : (st.map fun v => v.category).sum ≤ 8) {ks2 sl2 : Nat} (hk2 : ks + rm_X8_signed.cells = ks2) (hs2 : sl + rm_X8_signed.slots = sl2) (hroom : ks2 ≤ R.cells ∧ sl2 ≤ R.slots) (hdg : decode cc pc = .ok (.invokestatic 219, 3)) (kk : ∀ (r : Int32) (M2 : JM), gn M ≤ gn M2 → AWO p l e R s m args below meth c D cs b nL H0 Qf (K r M2) M2 ks2 sl2 lv (pc + 3) (.int r :: st)) : AWO p l e R s m args below meth c D cs b nL H0 Qf (ob (f_X8_signed z0 M) K) M ks sl lv pc (.long z0 :: st) := by
  subst hk2
  subst hs2
  exact aw_callS X [.long z0] st rfl wl_X8_219 wt_X8_signed wc_X8_signed wn_X8 (n := 1) hd_X8_signed rfl hrm hW hroom hdg (t_X8_signed z0 M ) (fun r M2 g _ => kk r M2 g)
theorem cl_X8_223 {ρ : Type} {l : Launch} {p : Program} {e : Env} {R : Room} {s : State} {m : MethodId} {args : Array Value} {below : List Frame} {meth : Method} {c : Code} {D : va_G} {cs : JC} {b nL : Nat} {H0 : Heap} {Qf : ρ × JM → State → Prop} {M : JM} {ks sl : Nat} {lv : List (Nat × Value)} {pc : Nat} {st : List Value} {cc : ByteArray} (X : jX p c cc nL s m args RX8 D cs b meth H0) {z0 : Nat} {z1 : Int32} {K : Int32 → JM → Option (ρ × JM)} (hrm : jRm rm_X8_trackOf 3 R) (hW : (st.map fun v => v.category).sum ≤ 8) {ks2 sl2 : Nat} (hk2 : ks + rm_X8_trackOf.cells = ks2) (hs2 : sl + rm_X8_trackOf.slots = sl2) (hroom : ks2 ≤ R.cells ∧ sl2 ≤ R.slots) (hdg : decode cc pc = .ok (.invokevirtual 223, 3)) (h0 : oty M z0 18) (kk : ∀ (r : Int32) (M2 : JM), gn M ≤ gn M2 → AWO p l e R s m args below meth c D cs b nL H0 Qf (K r M2) M2 ks2 sl2 lv (pc + 3) (.int r :: st)) : AWO p l e R s m args below meth c D cs b nL H0 Qf (ob (f_X8_trackOf z0 z1 M) K) M ks sl lv pc (.int z1 :: .ref (b + z0) :: st) := by
  subst hk2
  subst hs2
  exact aw_callV (ci := 8) X [.int z1] st rfl rfl wl_X8_223 wi_X8_trackOf wv_X8_trackOf wc_X8_trackOf wn_X8 (n := 1) hd_X8_trackOf rfl hrm hW hroom hdg h0 (t_X8_trackOf z0 z1 M h0) (fun r M2 g _ => kk r M2 g)
theorem gf_X8_229 {ρ : Type} {l : Launch} {p : Program} {e : Env} {R : Room} {s : State} {m : MethodId} {args : Array Value} {below : List Frame} {meth : Method} {c : Code} {D : va_G} {cs : JC} {b nL : Nat} {H0 : Heap} {Qf : ρ × JM → State → Prop} {M : JM} {ks sl : Nat} {lv : List (Nat × Value)} {pc : Nat} {st : List Value} {cc : ByteArray} {k : Nat} (X : jX p c cc nL s m args RX8 D cs b meth H0) {F : Option (ρ × JM)} (hdg : decode cc pc = .ok (.getfield 229, 3)) (ho : oty M k 18) (kk : AWO p l e R s m args below meth c D cs b nL H0 Qf F M ks sl lv (pc + 3) (.int (gi M k 41) :: st)) : AWO p l e R s m args below meth c D cs b nL H0 Qf F M ks sl lv pc (.ref (b + k) :: st) := aw_getI (ci := 8) X 41 rfl gy_X8 (by decide) rfl rfl wf_X8_229 hdg ho kk
theorem gf_X8_93 {ρ : Type} {l : Launch} {p : Program} {e : Env} {R : Room} {s : State} {m : MethodId} {args : Array Value} {below : List Frame} {meth : Method} {c : Code} {D : va_G} {cs : JC} {b nL : Nat} {H0 : Heap} {Qf : ρ × JM → State → Prop} {M : JM} {ks sl : Nat} {lv : List (Nat × Value)} {pc : Nat} {st : List Value} {cc : ByteArray} {k : Nat} (X : jX p c cc nL s m args RX8 D cs b meth H0) {K : Nat → Option (ρ × JM)} (hdg : decode cc pc = .ok (.getfield 93, 3)) (ho : oty M k 18) (kk : ∀ r : Nat, oty M r 1 → AWO p l e R s m args below meth c D cs b nL H0 Qf (K r) M ks sl lv (pc + 3) (.ref (b + r) :: st)) : AWO p l e R s m args below meth c D cs b nL H0 Qf (orf (gr M k 38) K) M ks sl lv pc (.ref (b + k) :: st) := aw_getR (ci := 8) (τ := 1) X 38 rfl gy_X8 (by decide) (by decide) rfl rfl (by decide) wf_X8_93 hdg ho kk
theorem gf_X8_75 {ρ : Type} {l : Launch} {p : Program} {e : Env} {R : Room} {s : State} {m : MethodId} {args : Array Value} {below : List Frame} {meth : Method} {c : Code} {D : va_G} {cs : JC} {b nL : Nat} {H0 : Heap} {Qf : ρ × JM → State → Prop} {M : JM} {ks sl : Nat} {lv : List (Nat × Value)} {pc : Nat} {st : List Value} {cc : ByteArray} {k : Nat} (X : jX p c cc nL s m args RX8 D cs b meth H0) {K : Nat → Option (ρ × JM)} (hdg : decode cc pc = .ok (.getfield 75, 3)) (ho : oty M k 18) (kk : ∀ r : Nat, oty M r 1 → AWO p l e R s m args below meth c D cs b nL H0 Qf (K r) M ks sl lv (pc + 3) (.ref (b + r) :: st)) : AWO p l e R s m args below meth c D cs b nL H0 Qf (orf (gr M k 32) K) M ks sl lv pc (.ref (b + k) :: st) := aw_getR (ci := 8) (τ := 1) X 32 rfl gy_X8 (by decide) (by decide) rfl rfl (by decide) wf_X8_75 hdg ho kk
theorem gf_X8_87 {ρ : Type} {l : Launch} {p : Program} {e : Env} {R : Room} {s : State} {m : MethodId} {args : Array Value} {below : List Frame} {meth : Method} {c : Code} {D : va_G} {cs : JC} {b nL : Nat} {H0 : Heap} {Qf : ρ × JM → State → Prop} {M : JM} {ks sl : Nat} {lv : List (Nat × Value)} {pc : Nat} {st : List Value} {cc : ByteArray} {k : Nat} (X : jX p c cc nL s m args RX8 D cs b meth H0) {K : Nat → Option (ρ × JM)} (hdg : decode cc pc = .ok (.getfield 87, 3)) (ho : oty M k 18) (kk : ∀ r : Nat, oty M r 1 → AWO p l e R s m args below meth c D cs b nL H0 Qf (K r) M ks sl lv (pc + 3) (.ref (b + r) :: st)) : AWO p l e R s m args below meth c D cs b nL H0 Qf (orf (gr M k 36) K) M ks sl lv pc (.ref (b + k) :: st) := aw_getR (ci := 8) (τ := 1) X 36 rfl gy_X8 (by decide) (by decide) rfl rfl (by decide) wf_X8_87 hdg ho kk
theorem gf_X8_78 {ρ : Type} {l : Launch} {p : Program} {e : Env} {R : Room} {s : State} {m : MethodId} {args : Array Value} {below : List Frame} {meth : Method} {c : Code} {D : va_G} {cs : JC} {b nL : Nat} {H0 : Heap} {Qf : ρ × JM → State → Prop} {M : JM} {ks sl : Nat} {lv : List (Nat × Value)} {pc : Nat} {st : List Value} {cc : ByteArray} {k : Nat} (X : jX p c cc nL s m args RX8 D cs b meth H0) {K : Nat → Option (ρ × JM)} (hdg : decode cc pc = .ok (.getfield 78, 3)) (ho : oty M k 18) (kk : ∀ r : Nat, oty M r 1 → AWO p l e R s m args below meth c D cs b nL H0 Qf (K r) M ks sl lv (pc + 3) (.ref (b + r) :: st)) : AWO p l e R s m args below meth c D cs b nL H0 Qf (orf (gr M k 33) K) M ks sl lv pc (.ref (b + k) :: st) := aw_getR (ci := 8) (τ := 1) X 33 rfl gy_X8 (by decide) (by decide) rfl rfl (by decide) wf_X8_78 hdg ho kk
theorem gf_X8_90 {ρ : Type} {l : Launch} {p : Program} {e : Env} {R : Room} {s : State} {m : MethodId} {args : Array Value} {below : List Frame} {meth : Method} {c : Code} {D : va_G} {cs : JC} {b nL : Nat} {H0 : Heap} {Qf : ρ × JM → State → Prop} {M : JM} {ks sl : Nat} {lv : List (Nat × Value)} {pc : Nat} {st : List Value} {cc : ByteArray} {k : Nat} (X : jX p c cc nL s m args RX8 D cs b meth H0) {K : Nat → Option (ρ × JM)} (hdg : decode cc pc = .ok (.getfield 90, 3)) (ho : oty M k 18) (kk : ∀ r : Nat, oty M r 1 → AWO p l e R s m args below meth c D cs b nL H0 Qf (K r) M ks sl lv (pc + 3) (.ref (b + r) :: st)) : AWO p l e R s m args below meth c D cs b nL H0 Qf (orf (gr M k 37) K) M ks sl lv pc (.ref (b + k) :: st) := aw_getR (ci := 8) (τ := 1) X 37 rfl gy_X8 (by decide) (by decide) rfl rfl (by decide) wf_X8_90 hdg ho kk
theorem gf_X8_69 {ρ : Type} {l : Launch} {p : Program} {e : Env} {R : Room} {s : State} {m : MethodId} {args : Array Value} {below : List Frame} {meth : Method} {c : Code} {D : va_G} {cs : JC} {b nL : Nat} {H0 : Heap} {Qf : ρ × JM → State → Prop} {M : JM} {ks sl : Nat} {lv : List (Nat × Value)} {pc : Nat} {st : List Value} {cc : ByteArray} {k : Nat} (X : jX p c cc nL s m args RX8 D cs b meth H0) {K : Nat → Option (ρ × JM)} (hdg : decode cc pc = .ok (.getfield 69, 3)) (ho : oty M k 18) (kk : ∀ r : Nat, oty M r 1 → AWO p l e R s m args below meth c D cs b nL H0 Qf (K r) M ks sl lv (pc + 3) (.ref (b + r) :: st)) : AWO p l e R s m args below meth c D cs b nL H0 Qf (orf (gr M k 30) K) M ks sl lv pc (.ref (b + k) :: st) := aw_getR (ci := 8) (τ := 1) X 30 rfl gy_X8 (by decide) (by decide) rfl rfl (by decide) wf_X8_69 hdg ho kk
theorem gf_X8_72 {ρ : Type} {l : Launch} {p : Program} {e : Env} {R : Room} {s : State} {m : MethodId} {args : Array Value} {below : List Frame} {meth : Method} {c : Code} {D : va_G} {cs : JC} {b nL : Nat} {H0 : Heap} {Qf : ρ × JM → State → Prop} {M : JM} {ks sl : Nat} {lv : List (Nat × Value)} {pc : Nat} {st : List Value} {cc : ByteArray} {k : Nat} (X : jX p c cc nL s m args RX8 D cs b meth H0) {K : Nat → Option (ρ × JM)} (hdg : decode cc pc = .ok (.getfield 72, 3)) (ho : oty M k 18) (kk : ∀ r : Nat, oty M r 1 → AWO p l e R s m args below meth c D cs b nL H0 Qf (K r) M ks sl lv (pc + 3) (.ref (b + r) :: st)) : AWO p l e R s m args below meth c D cs b nL H0 Qf (orf (gr M k 31) K) M ks sl lv pc (.ref (b + k) :: st) := aw_getR (ci := 8) (τ := 1) X 31 rfl gy_X8 (by decide) (by decide) rfl rfl (by decide) wf_X8_72 hdg ho kk
theorem gf_X8_81 {ρ : Type} {l : Launch} {p : Program} {e : Env} {R : Room} {s : State} {m : MethodId} {args : Array Value} {below : List Frame} {meth : Method} {c : Code} {D : va_G} {cs : JC} {b nL : Nat} {H0 : Heap} {Qf : ρ × JM → State → Prop} {M : JM} {ks sl : Nat} {lv : List (Nat × Value)} {pc : Nat} {st : List Value} {cc : ByteArray} {k : Nat} (X : jX p c cc nL s m args RX8 D cs b meth H0) {K : Nat → Option (ρ × JM)} (hdg : decode cc pc = .ok (.getfield 81, 3)) (ho : oty M k 18) (kk : ∀ r : Nat, oty M r 1 → AWO p l e R s m args below meth c D cs b nL H0 Qf (K r) M ks sl lv (pc + 3) (.ref (b + r) :: st)) : AWO p l e R s m args below meth c D cs b nL H0 Qf (orf (gr M k 34) K) M ks sl lv pc (.ref (b + k) :: st) := aw_getR (ci := 8) (τ := 1) X 34 rfl gy_X8 (by decide) (by decide) rfl rfl (by decide) wf_X8_81 hdg ho kk
theorem gf_X8_84 {ρ : Type} {l : Launch} {p : Program} {e : Env} {R : Room} {s : State} {m : MethodId} {args : Array Value} {below : List Frame} {meth : Method} {c : Code} {D : va_G} {cs : JC} {b nL : Nat} {H0 : Heap} {Qf : ρ × JM → State → Prop} {M : JM} {ks sl : Nat} {lv : List (Nat × Value)} {pc : Nat} {st : List Value} {cc : ByteArray} {k : Nat} (X : jX p c cc nL s m args RX8 D cs b meth H0) {K : Nat → Option (ρ × JM)} (hdg : decode cc pc = .ok (.getfield 84, 3)) (ho : oty M k 18) (kk : ∀ r : Nat, oty M r 1 → AWO p l e R s m args below meth c D cs b nL H0 Qf (K r) M ks sl lv (pc + 3) (.ref (b + r) :: st)) : AWO p l e R s m args below meth c D cs b nL H0 Qf (orf (gr M k 35) K) M ks sl lv pc (.ref (b + k) :: st) := aw_getR (ci := 8) (τ := 1) X 35 rfl gy_X8 (by decide) (by decide) rfl rfl (by decide) wf_X8_84 hdg ho kk
def f_X8_report_L313 : Nat → Int32 → Int32 → Int32 → JM → Option (Int32 × JM) := fun a0 v5 v6 v7 M => orf (gr M a0 30) fun r52 => if 0 ≤ v7 ∧ v7 < ln r52 then (sq (si M r52 v7 v5) fun M53 => orf (gr M53 a0 31) fun r55 => if 0 ≤ v7 ∧ v7 < ln r55 then (sq (si M53 r55 v7 v6) fun M56 => orf (gr M56 a0 36) fun r58 => if 0 ≤ v7 ∧ v7 < ln r58 then (sq (si M56 r58 v7 v5) fun M59 => orf (gr M59 a0 37) fun r61 => if 0 ≤ v7 ∧ v7 < ln r61 then (sq (si M59 r61 v7 v6) fun M62 => orf (gr M62 a0 38) fun r64 => if 0 ≤ v7 ∧ v7 < ln r64 then (sq (si M62 r64 v7 (gi M62 a0 41)) fun M65 => orf (gr M65 a0 34) fun r67 => if 0 ≤ v7 ∧ v7 < ln r67 then (sq (si M65 r67 v7 (0 : Int32)) fun M68 => orf (gr M68 a0 35) fun r70 => if 0 ≤ v7 ∧ v7 < ln r70 then (if 0 ≤ v7 ∧ v7 < ln r70 then (sq (si M68 r70 v7 ((gi M68 r70 v7) + (1 : Int32))) fun M71 => some (v7, M71)) else none) else none) else none) else none) else none) else none) else none) else none
set_option maxRecDepth 10000 in
set_option maxHeartbeats 4000000 in
theorem t_X8_report_L313 {p : Program} {l : Launch} {e : Env} {s : State} {m : MethodId} {args : Array Value} {below : List Frame} {meth : Method} {c : Code} {D : va_G} {cs : JC} {b : Nat} (X : jX p c cX8_report 9 s m args RX8 D cs b meth s.heap) (hr : meth.sig.returnType = Option.some Jvm.ClassFile.FieldType.int) : ∀ (a0 : Nat) (v5 : Int32) (v6 : Int32) (v7 : Int32) (M : JM), oty M a0 18 → AWO p l e rm_X8_report s m args below meth c D cs b 9 s.heap (jE below D cs b evI args s rm_X8_report.cells rm_X8_report.slots) (f_X8_report_L313 a0 v5 v6 v7 M) M 0 0 [(0, .ref (b + a0)), (5, .int v5), (6, .int v6), (7, .int v7)] 313 [] := by
  intro a0 v5 v6 v7 M h_a0
  refine aw_callq (F' := orf (gr M a0 30) fun r52 => if 0 ≤ v7 ∧ v7 < ln r52 then (sq (si M r52 v7 v5) fun M53 => orf (gr M53 a0 31) fun r55 => if 0 ≤ v7 ∧ v7 < ln r55 then (sq (si M53 r55 v7 v6) fun M56 => orf (gr M56 a0 36) fun r58 => if 0 ≤ v7 ∧ v7 < ln r58 then (sq (si M56 r58 v7 v5) fun M59 => orf (gr M59 a0 37) fun r61 => if 0 ≤ v7 ∧ v7 < ln r61 then (sq (si M59 r61 v7 v6) fun M62 => orf (gr M62 a0 38) fun r64 => if 0 ≤ v7 ∧ v7 < ln r64 then (sq (si M62 r64 v7 (gi M62 a0 41)) fun M65 => orf (gr M65 a0 34) fun r67 => if 0 ≤ v7 ∧ v7 < ln r67 then (sq (si M65 r67 v7 (0 : Int32)) fun M68 => orf (gr M68 a0 35) fun r70 => if 0 ≤ v7 ∧ v7 < ln r70 then (if 0 ≤ v7 ∧ v7 < ln r70 then (sq (si M68 r70 v7 ((gi M68 r70 v7) + (1 : Int32))) fun M71 => some (v7, M71)) else none) else none) else none) else none) else none) else none) else none) else none) rfl ?_
  refine aw_aload_n (pc := 313) X 0 dX8_report_313 rfl ?_
  refine gf_X8_69 (pc := 314) X dX8_report_314 h_a0 (fun r52 h_r52 => ?_)
  refine aw_iload (pc := 317) X 3 dX8_report_317 rfl ?_
  refine aw_iload (pc := 319) X 1 dX8_report_319 rfl ?_
  refine aw_iastQ (pc := 321) X dX8_report_321 h_r52 (fun M53 g54 => ?_)
  have h_a0 := h_a0.mono g54
  refine aw_aload_n (pc := 322) X 0 dX8_report_322 rfl ?_
  refine gf_X8_72 (pc := 323) X dX8_report_323 h_a0 (fun r55 h_r55 => ?_)
  refine aw_iload (pc := 326) X 3 dX8_report_326 rfl ?_
  refine aw_iload (pc := 328) X 2 dX8_report_328 rfl ?_
  refine aw_iastQ (pc := 330) X dX8_report_330 h_r55 (fun M56 g57 => ?_)
  have h_a0 := h_a0.mono g57
  refine aw_aload_n (pc := 331) X 0 dX8_report_331 rfl ?_
  refine gf_X8_87 (pc := 332) X dX8_report_332 h_a0 (fun r58 h_r58 => ?_)
  refine aw_iload (pc := 335) X 3 dX8_report_335 rfl ?_
  refine aw_iload (pc := 337) X 1 dX8_report_337 rfl ?_
  refine aw_iastQ (pc := 339) X dX8_report_339 h_r58 (fun M59 g60 => ?_)
  have h_a0 := h_a0.mono g60
  refine aw_aload_n (pc := 340) X 0 dX8_report_340 rfl ?_
  refine gf_X8_90 (pc := 341) X dX8_report_341 h_a0 (fun r61 h_r61 => ?_)
  refine aw_iload (pc := 344) X 3 dX8_report_344 rfl ?_
  refine aw_iload (pc := 346) X 2 dX8_report_346 rfl ?_
  refine aw_iastQ (pc := 348) X dX8_report_348 h_r61 (fun M62 g63 => ?_)
  have h_a0 := h_a0.mono g63
  refine aw_aload_n (pc := 349) X 0 dX8_report_349 rfl ?_
  refine gf_X8_93 (pc := 350) X dX8_report_350 h_a0 (fun r64 h_r64 => ?_)
  refine aw_iload (pc := 353) X 3 dX8_report_353 rfl ?_
  refine aw_aload_n (pc := 355) X 0 dX8_report_355 rfl ?_
  refine gf_X8_229 (pc := 356) X dX8_report_356 h_a0 ?_
  refine aw_iastQ (pc := 359) X dX8_report_359 h_r64 (fun M65 g66 => ?_)
  have h_a0 := h_a0.mono g66
  refine aw_aload_n (pc := 360) X 0 dX8_report_360 rfl ?_
  refine gf_X8_81 (pc := 361) X dX8_report_361 h_a0 (fun r67 h_r67 => ?_)
  refine aw_iload (pc := 364) X 3 dX8_report_364 rfl ?_
  refine aw_iconst (pc := 366) X (0 : Int32) dX8_report_366 (by decide) ?_
  refine aw_iastQ (pc := 367) X dX8_report_367 h_r67 (fun M68 g69 => ?_)
  have h_a0 := h_a0.mono g69
  refine aw_aload_n (pc := 368) X 0 dX8_report_368 rfl ?_
  refine gf_X8_84 (pc := 369) X dX8_report_369 h_a0 (fun r70 h_r70 => ?_)
  refine aw_iload (pc := 372) X 3 dX8_report_372 rfl ?_
  refine aw_dup2_ia (pc := 374) X dX8_report_374 ?_
  refine aw_iald (pc := 375) X dX8_report_375 h_r70 ?_
  refine aw_iconst (pc := 376) X (1 : Int32) dX8_report_376 (by decide) ?_
  refine aw_iadd (pc := 377) X dX8_report_377 ?_
  refine aw_iastQ (pc := 378) X dX8_report_378 h_r70 (fun M71 g72 => ?_)
  have h_a0 := h_a0.mono g72
  refine aw_iload (pc := 379) X 3 dX8_report_379 rfl ?_
  exact aw_iret (pc := 381) X hr dX8_report_381 (Nat.le_of_ble_eq_true rfl) (Nat.le_of_ble_eq_true rfl)
def f_X8_report_L271 : Nat → Int32 → Int32 → Int32 → Int32 → JM → Option (Int32 × JM) := fun a0 v5 v6 v7 u0 M => sv u0 fun i43 => orf (gr M a0 32) fun r44 => orf (gr M a0 36) fun r45 => if 0 ≤ v7 ∧ v7 < ln r45 then (if i43 = 0 then none else if 0 ≤ v7 ∧ v7 < ln r44 then (sq (si M r44 v7 ((v5 - (gi M r45 v7)) / i43)) fun M46 => orf (gr M46 a0 33) fun r48 => orf (gr M46 a0 37) fun r49 => if 0 ≤ v7 ∧ v7 < ln r49 then (if i43 = 0 then none else if 0 ≤ v7 ∧ v7 < ln r48 then (sq (si M46 r48 v7 ((v6 - (gi M46 r49 v7)) / i43)) fun M50 => f_X8_report_L313 a0 v5 v6 v7 M50) else none) else none) else none) else none
set_option maxRecDepth 10000 in
set_option maxHeartbeats 4000000 in
theorem t_X8_report_L271 {p : Program} {l : Launch} {e : Env} {s : State} {m : MethodId} {args : Array Value} {below : List Frame} {meth : Method} {c : Code} {D : va_G} {cs : JC} {b : Nat} (X : jX p c cX8_report 9 s m args RX8 D cs b meth s.heap) (hr : meth.sig.returnType = Option.some Jvm.ClassFile.FieldType.int) : ∀ (a0 : Nat) (v5 : Int32) (v6 : Int32) (v7 : Int32) (u0 : Int32) (M : JM), oty M a0 18 → AWO p l e rm_X8_report s m args below meth c D cs b 9 s.heap (jE below D cs b evI args s rm_X8_report.cells rm_X8_report.slots) (f_X8_report_L271 a0 v5 v6 v7 u0 M) M 0 0 [(0, .ref (b + a0)), (5, .int v5), (6, .int v6), (7, .int v7)] 271 [.int u0] := by
  intro a0 v5 v6 v7 u0 M h_a0
  refine aw_callq (F' := sv u0 fun i43 => orf (gr M a0 32) fun r44 => orf (gr M a0 36) fun r45 => if 0 ≤ v7 ∧ v7 < ln r45 then (if i43 = 0 then none else if 0 ≤ v7 ∧ v7 < ln r44 then (sq (si M r44 v7 ((v5 - (gi M r45 v7)) / i43)) fun M46 => orf (gr M46 a0 33) fun r48 => orf (gr M46 a0 37) fun r49 => if 0 ≤ v7 ∧ v7 < ln r49 then (if i43 = 0 then none else if 0 ≤ v7 ∧ v7 < ln r48 then (sq (si M46 r48 v7 ((v6 - (gi M46 r49 v7)) / i43)) fun M50 => f_X8_report_L313 a0 v5 v6 v7 M50) else none) else none) else none) else none) rfl ?_
  refine aw_istoreV (pc := 271) X (fun y => [(8, .int y), (0, .ref (b + a0)), (5, .int v5), (6, .int v6), (7, .int v7)]) dX8_report_271 (by decide) (fun _ => rfl) (fun i43 => ?_)
  refine aw_aload_n (pc := 273) X 1 dX8_report_273 rfl ?_
  refine gf_X8_75 (pc := 274) X dX8_report_274 h_a0 (fun r44 h_r44 => ?_)
  refine aw_iload (pc := 277) X 4 dX8_report_277 rfl ?_
  refine aw_iload (pc := 279) X 2 dX8_report_279 rfl ?_
  refine aw_aload_n (pc := 281) X 1 dX8_report_281 rfl ?_
  refine gf_X8_87 (pc := 282) X dX8_report_282 h_a0 (fun r45 h_r45 => ?_)
  refine aw_iload (pc := 285) X 4 dX8_report_285 rfl ?_
  refine aw_iald (pc := 287) X dX8_report_287 h_r45 ?_
  refine aw_isub (pc := 288) X dX8_report_288 ?_
  refine aw_iload (pc := 289) X 0 dX8_report_289 rfl ?_
  refine aw_idiv (pc := 291) X dX8_report_291 ?_
  refine aw_iastQ (pc := 292) X dX8_report_292 h_r44 (fun M46 g47 => ?_)
  have h_a0 := h_a0.mono g47
  refine aw_aload_n (pc := 293) X 1 dX8_report_293 rfl ?_
  refine gf_X8_78 (pc := 294) X dX8_report_294 h_a0 (fun r48 h_r48 => ?_)
  refine aw_iload (pc := 297) X 4 dX8_report_297 rfl ?_
  refine aw_iload (pc := 299) X 3 dX8_report_299 rfl ?_
  refine aw_aload_n (pc := 301) X 1 dX8_report_301 rfl ?_
  refine gf_X8_90 (pc := 302) X dX8_report_302 h_a0 (fun r49 h_r49 => ?_)
  refine aw_iload (pc := 305) X 4 dX8_report_305 rfl ?_
  refine aw_iald (pc := 307) X dX8_report_307 h_r49 ?_
  refine aw_isub (pc := 308) X dX8_report_308 ?_
  refine aw_iload (pc := 309) X 0 dX8_report_309 rfl ?_
  refine aw_idiv (pc := 311) X dX8_report_311 ?_
  refine aw_iastQ (pc := 312) X dX8_report_312 h_r48 (fun M50 g51 => ?_)
  have h_a0 := h_a0.mono g51
  refine aw_sub [1, 2, 3, 4] rfl ?_
  exact t_X8_report_L313 X hr a0 v5 v6 v7 M50 h_a0
theorem pf_X8_216 {ρ : Type} {l : Launch} {p : Program} {e : Env} {R : Room} {s : State} {m : MethodId} {args : Array Value} {below : List Frame} {meth : Method} {c : Code} {D : va_G} {cs : JC} {b nL : Nat} {H0 : Heap} {Qf : ρ × JM → State → Prop} {M : JM} {ks sl : Nat} {lv : List (Nat × Value)} {pc : Nat} {st : List Value} {cc : ByteArray} {k : Nat} {K : JM → Option (ρ × JM)} (X : jX p c cc nL s m args RX8 D cs b meth H0) {x : Int32} (hdg : decode cc pc = .ok (.putfield 216, 3)) (ho : oty M k 18) (kk : ∀ M2 : JM, gn M ≤ gn M2 → AWO p l e R s m args below meth c D cs b nL H0 Qf (K M2) M2 ks sl lv (pc + 3) st) : AWO p l e R s m args below meth c D cs b nL H0 Qf (sq (si M k 28 x) K) M ks sl lv pc (.int x :: .ref (b + k) :: st) := aw_putI (ci := 8) X 28 rfl gy_X8 tyX8 tyX8_ok nmX8 (by decide) (by decide) rfl rfl wf_X8_216 rfl (Or.inl rfl) hdg ho (kk _ (Nat.le_refl _))
theorem gf_X8_226 {ρ : Type} {l : Launch} {p : Program} {e : Env} {R : Room} {s : State} {m : MethodId} {args : Array Value} {below : List Frame} {meth : Method} {c : Code} {D : va_G} {cs : JC} {b nL : Nat} {H0 : Heap} {Qf : ρ × JM → State → Prop} {M : JM} {ks sl : Nat} {lv : List (Nat × Value)} {pc : Nat} {st : List Value} {cc : ByteArray} {k : Nat} (X : jX p c cc nL s m args RX8 D cs b meth H0) {F : Option (ρ × JM)} (hdg : decode cc pc = .ok (.getfield 226, 3)) (ho : oty M k 18) (kk : AWO p l e R s m args below meth c D cs b nL H0 Qf F M ks sl lv (pc + 3) (.int (gi M k 39) :: st)) : AWO p l e R s m args below meth c D cs b nL H0 Qf F M ks sl lv pc (.ref (b + k) :: st) := aw_getI (ci := 8) X 39 rfl gy_X8 (by decide) rfl rfl wf_X8_226 hdg ho kk
theorem pf_X8_226 {ρ : Type} {l : Launch} {p : Program} {e : Env} {R : Room} {s : State} {m : MethodId} {args : Array Value} {below : List Frame} {meth : Method} {c : Code} {D : va_G} {cs : JC} {b nL : Nat} {H0 : Heap} {Qf : ρ × JM → State → Prop} {M : JM} {ks sl : Nat} {lv : List (Nat × Value)} {pc : Nat} {st : List Value} {cc : ByteArray} {k : Nat} {K : JM → Option (ρ × JM)} (X : jX p c cc nL s m args RX8 D cs b meth H0) {x : Int32} (hdg : decode cc pc = .ok (.putfield 226, 3)) (ho : oty M k 18) (kk : ∀ M2 : JM, gn M ≤ gn M2 → AWO p l e R s m args below meth c D cs b nL H0 Qf (K M2) M2 ks sl lv (pc + 3) st) : AWO p l e R s m args below meth c D cs b nL H0 Qf (sq (si M k 39 x) K) M ks sl lv pc (.int x :: .ref (b + k) :: st) := aw_putI (ci := 8) X 39 rfl gy_X8 tyX8 tyX8_ok nmX8 (by decide) (by decide) rfl rfl wf_X8_226 rfl (Or.inl rfl) hdg ho (kk _ (Nat.le_refl _))
def f_X8_report (a0 : Nat) (v1 : Int32) (M : JM) : Option (Int32 × JM) := ob (f_X8_isRecord a0 v1 M) fun r3 M1 => if r3 = true then (orf (gr M1 a0 5) fun r4 => if 0 ≤ (gi M1 a0 15) ∧ (gi M1 a0 15) < ln r4 then (sv (gi M1 r4 (gi M1 a0 15)) fun i5 => orf (gr M1 a0 6) fun r6 => if 0 ≤ (gi M1 a0 15) ∧ (gi M1 a0 15) < ln r6 then (sv (gi M1 r6 (gi M1 a0 15)) fun i7 => if i5 < 0 then (some ((-9 : Int32), M1)) else (ob (f_X8_isFixed a0 (gi M1 a0 15) i5 (2 : Int32) M1) fun r10 M8 => if r10 = true then (ob (f_X8_isFixed a0 (gi M8 a0 15) i7 (4 : Int32) M8) fun r13 M11 => if r13 = true then (orf (gr M11 a0 19) fun r14 => if 0 ≤ (((22 : Int32) * v1) + i5) ∧ (((22 : Int32) * v1) + i5) < ln r14 then (if (gi M11 r14 (((22 : Int32) * v1) + i5)) = 0 then (some ((-9 : Int32), M11)) else (orf (gr M11 a0 19) fun r15 => if 0 ≤ (((22 : Int32) * v1) + i7) ∧ (((22 : Int32) * v1) + i7) < ln r15 then (if (gi M11 r15 (((22 : Int32) * v1) + i7)) = 0 then (some ((-9 : Int32), M11)) else (orf (gr M11 a0 18) fun r16 => if 0 ≤ (((22 : Int32) * v1) + i5) ∧ (((22 : Int32) * v1) + i5) < ln r16 then (ob (f_X8_together a0 (gi M11 r16 (((22 : Int32) * v1) + i5)) (2 : Int32) M11) fun r19 M17 => sv (r19.toInt32 &&& (4095 : Int32)) fun i20 => orf (gr M17 a0 18) fun r21 => if 0 ≤ (((22 : Int32) * v1) + i7) ∧ (((22 : Int32) * v1) + i7) < ln r21 then (ob (f_X8_together a0 (gi M17 r21 (((22 : Int32) * v1) + i7)) (2 : Int32) M17) fun r24 M22 => ob (f_X8_signed r24 M22) fun r27 M25 => sv r27 fun i28 => orf (gr M25 a0 18) fun r29 => if 0 ≤ (((22 : Int32) * v1) + i7) ∧ (((22 : Int32) * v1) + i7) < ln r29 then (ob (f_X8_together a0 ((gi M25 r29 (((22 : Int32) * v1) + i7)) + (2 : Int32)) (2 : Int32) M25) fun r32 M30 => ob (f_X8_signed r32 M30) fun r35 M33 => sv r35 fun i36 => ob (f_X8_trackOf a0 i20 M33) fun r39 M37 => sv r39 fun i40 => if i40 < 0 then (if (gi M37 a0 28) = (12 : Int32) then (sq (si M37 a0 39 ((gi M37 a0 39) + (1 : Int32))) fun M88 => some ((-9 : Int32), M88)) else (sv (gi M37 a0 28) fun i73 => sq (si M37 a0 28 ((gi M37 a0 28) + (1 : Int32))) fun M74 => orf (gr M74 a0 29) fun r76 => if 0 ≤ i73 ∧ i73 < ln r76 then (sq (si M74 r76 i73 i20) fun M77 => orf (gr M77 a0 32) fun r79 => if 0 ≤ i73 ∧ i73 < ln r79 then (sq (si M77 r79 i73 (0 : Int32)) fun M80 => orf (gr M80 a0 33) fun r82 => if 0 ≤ i73 ∧ i73 < ln r82 then (sq (si M80 r82 i73 (0 : Int32)) fun M83 => orf (gr M83 a0 35) fun r85 => if 0 ≤ i73 ∧ i73 < ln r85 then (sq (si M83 r85 i73 (0 : Int32)) fun M86 => f_X8_report_L313 a0 i28 i36 i73 M86) else none) else none) else none) else none)) else (orf (gr M37 a0 38) fun r41 => if 0 ≤ i40 ∧ i40 < ln r41 then (sv ((gi M37 a0 41) - (gi M37 r41 i40)) fun i42 => if i42 < (1 : Int32) then (f_X8_report_L271 a0 i28 i36 i40 (1 : Int32) M37) else (f_X8_report_L271 a0 i28 i36 i40 i42 M37)) else none)) else none) else none) else none)) else none)) else none) else (some ((-9 : Int32), M11))) else (some ((-9 : Int32), M8)))) else none) else none) else (some ((-1 : Int32), M1))
set_option maxRecDepth 10000 in
set_option maxHeartbeats 4000000 in
theorem t_X8_report {l : Launch} {D : va_G} {cs : JC} {b : Nat} (a0 : Nat) (v1 : Int32) (M : JM) (h_a0 : oty M a0 18) : ∀ q, f_X8_report a0 v1 M = some q → CTy l yX8_report (.code yX8_report cX8_report 9 (Option.some Jvm.ClassFile.FieldType.int) :: GB) rm_X8_report D cs b evI [.ref (b + a0), .int v1] M rm_X8_report.cells rm_X8_report.slots q := fun q hq => ct_of [(0, .ref (b + a0)), (1, .int v1)] rfl rfl (Nat.le_of_ble_eq_true rfl) hq (fun p e s m args below meth c X hr hin => by
  refine aw_callq (F' := ob (f_X8_isRecord a0 v1 M) fun r3 M1 => if r3 = true then (orf (gr M1 a0 5) fun r4 => if 0 ≤ (gi M1 a0 15) ∧ (gi M1 a0 15) < ln r4 then (sv (gi M1 r4 (gi M1 a0 15)) fun i5 => orf (gr M1 a0 6) fun r6 => if 0 ≤ (gi M1 a0 15) ∧ (gi M1 a0 15) < ln r6 then (sv (gi M1 r6 (gi M1 a0 15)) fun i7 => if i5 < 0 then (some ((-9 : Int32), M1)) else (ob (f_X8_isFixed a0 (gi M1 a0 15) i5 (2 : Int32) M1) fun r10 M8 => if r10 = true then (ob (f_X8_isFixed a0 (gi M8 a0 15) i7 (4 : Int32) M8) fun r13 M11 => if r13 = true then (orf (gr M11 a0 19) fun r14 => if 0 ≤ (((22 : Int32) * v1) + i5) ∧ (((22 : Int32) * v1) + i5) < ln r14 then (if (gi M11 r14 (((22 : Int32) * v1) + i5)) = 0 then (some ((-9 : Int32), M11)) else (orf (gr M11 a0 19) fun r15 => if 0 ≤ (((22 : Int32) * v1) + i7) ∧ (((22 : Int32) * v1) + i7) < ln r15 then (if (gi M11 r15 (((22 : Int32) * v1) + i7)) = 0 then (some ((-9 : Int32), M11)) else (orf (gr M11 a0 18) fun r16 => if 0 ≤ (((22 : Int32) * v1) + i5) ∧ (((22 : Int32) * v1) + i5) < ln r16 then (ob (f_X8_together a0 (gi M11 r16 (((22 : Int32) * v1) + i5)) (2 : Int32) M11) fun r19 M17 => sv (r19.toInt32 &&& (4095 : Int32)) fun i20 => orf (gr M17 a0 18) fun r21 => if 0 ≤ (((22 : Int32) * v1) + i7) ∧ (((22 : Int32) * v1) + i7) < ln r21 then (ob (f_X8_together a0 (gi M17 r21 (((22 : Int32) * v1) + i7)) (2 : Int32) M17) fun r24 M22 => ob (f_X8_signed r24 M22) fun r27 M25 => sv r27 fun i28 => orf (gr M25 a0 18) fun r29 => if 0 ≤ (((22 : Int32) * v1) + i7) ∧ (((22 : Int32) * v1) + i7) < ln r29 then (ob (f_X8_together a0 ((gi M25 r29 (((22 : Int32) * v1) + i7)) + (2 : Int32)) (2 : Int32) M25) fun r32 M30 => ob (f_X8_signed r32 M30) fun r35 M33 => sv r35 fun i36 => ob (f_X8_trackOf a0 i20 M33) fun r39 M37 => sv r39 fun i40 => if i40 < 0 then (if (gi M37 a0 28) = (12 : Int32) then (sq (si M37 a0 39 ((gi M37 a0 39) + (1 : Int32))) fun M88 => some ((-9 : Int32), M88)) else (sv (gi M37 a0 28) fun i73 => sq (si M37 a0 28 ((gi M37 a0 28) + (1 : Int32))) fun M74 => orf (gr M74 a0 29) fun r76 => if 0 ≤ i73 ∧ i73 < ln r76 then (sq (si M74 r76 i73 i20) fun M77 => orf (gr M77 a0 32) fun r79 => if 0 ≤ i73 ∧ i73 < ln r79 then (sq (si M77 r79 i73 (0 : Int32)) fun M80 => orf (gr M80 a0 33) fun r82 => if 0 ≤ i73 ∧ i73 < ln r82 then (sq (si M80 r82 i73 (0 : Int32)) fun M83 => orf (gr M83 a0 35) fun r85 => if 0 ≤ i73 ∧ i73 < ln r85 then (sq (si M83 r85 i73 (0 : Int32)) fun M86 => f_X8_report_L313 a0 i28 i36 i73 M86) else none) else none) else none) else none)) else (orf (gr M37 a0 38) fun r41 => if 0 ≤ i40 ∧ i40 < ln r41 then (sv ((gi M37 a0 41) - (gi M37 r41 i40)) fun i42 => if i42 < (1 : Int32) then (f_X8_report_L271 a0 i28 i36 i40 (1 : Int32) M37) else (f_X8_report_L271 a0 i28 i36 i40 i42 M37)) else none)) else none) else none) else none)) else none)) else none) else (some ((-9 : Int32), M11))) else (some ((-9 : Int32), M8)))) else none) else none) else (some ((-1 : Int32), M1))) rfl ?_
  refine aw_aload_n (pc := 0) X 0 dX8_report_0 rfl ?_
  refine aw_iload_n (pc := 1) X 1 dX8_report_1 rfl ?_
  refine cl_X8_196 (pc := 2) X ⟨Nat.le_of_ble_eq_true rfl, Nat.le_of_ble_eq_true rfl⟩ (Nat.le_of_ble_eq_true rfl) (ks2 := 0) (sl2 := 0) rfl rfl ⟨(Nat.le_of_ble_eq_true rfl), (Nat.le_of_ble_eq_true rfl)⟩ dX8_report_2 h_a0 (fun r3 M1 g2 => ?_)
  have h_a0 := h_a0.mono g2
  refine aw_ifneB (pc := 5) X 10 dX8_report_5 (by decide) ?_ ?_
  · refine aw_aload_n (pc := 10) X 0 dX8_report_10 rfl ?_
    refine gf_X8_22 (pc := 11) X dX8_report_11 h_a0 (fun r4 h_r4 => ?_)
    refine aw_aload_n (pc := 14) X 0 dX8_report_14 rfl ?_
    refine gf_X8_99 (pc := 15) X dX8_report_15 h_a0 ?_
    refine aw_iald (pc := 18) X dX8_report_18 h_r4 ?_
    refine aw_istoreV_n (pc := 19) X (fun y => [(2, .int y), (0, .ref (b + a0)), (1, .int v1)]) dX8_report_19 (by decide) (fun _ => rfl) (fun i5 => ?_)
    refine aw_aload_n (pc := 20) X 1 dX8_report_20 rfl ?_
    refine gf_X8_25 (pc := 21) X dX8_report_21 h_a0 (fun r6 h_r6 => ?_)
    refine aw_aload_n (pc := 24) X 1 dX8_report_24 rfl ?_
    refine gf_X8_99 (pc := 25) X dX8_report_25 h_a0 ?_
    refine aw_iald (pc := 28) X dX8_report_28 h_r6 ?_
    refine aw_istoreV_n (pc := 29) X (fun y => [(3, .int y), (2, .int i5), (0, .ref (b + a0)), (1, .int v1)]) dX8_report_29 (by decide) (fun _ => rfl) (fun i7 => ?_)
    refine aw_iload_n (pc := 30) X 1 dX8_report_30 rfl ?_
    refine aw_iflt (pc := 31) X 88 dX8_report_31 (by decide) ?_ ?_
    · refine aw_bipush (pc := 88) X (-9 : Int32) dX8_report_88 (by decide) ?_
      exact aw_iret (pc := 90) X hr dX8_report_90 (Nat.le_of_ble_eq_true rfl) (Nat.le_of_ble_eq_true rfl)
    · refine aw_aload_n (pc := 34) X 2 dX8_report_34 rfl ?_
      refine aw_aload_n (pc := 35) X 2 dX8_report_35 rfl ?_
      refine gf_X8_99 (pc := 36) X dX8_report_36 h_a0 ?_
      refine aw_iload_n (pc := 39) X 1 dX8_report_39 rfl ?_
      refine aw_iconst (pc := 40) X (2 : Int32) dX8_report_40 (by decide) ?_
      refine cl_X8_130 (pc := 41) X ⟨Nat.le_of_ble_eq_true rfl, Nat.le_of_ble_eq_true rfl⟩ (Nat.le_of_ble_eq_true rfl) (ks2 := 0) (sl2 := 0) rfl rfl ⟨(Nat.le_of_ble_eq_true rfl), (Nat.le_of_ble_eq_true rfl)⟩ dX8_report_41 h_a0 (fun r10 M8 g9 => ?_)
      have h_a0 := h_a0.mono g9
      refine aw_ifeqB (pc := 44) X 88 dX8_report_44 (by decide) ?_ ?_
      · refine aw_aload_n (pc := 47) X 2 dX8_report_47 rfl ?_
        refine aw_aload_n (pc := 48) X 2 dX8_report_48 rfl ?_
        refine gf_X8_99 (pc := 49) X dX8_report_49 h_a0 ?_
        refine aw_iload_n (pc := 52) X 0 dX8_report_52 rfl ?_
        refine aw_iconst (pc := 53) X (4 : Int32) dX8_report_53 (by decide) ?_
        refine cl_X8_130 (pc := 54) X ⟨Nat.le_of_ble_eq_true rfl, Nat.le_of_ble_eq_true rfl⟩ (Nat.le_of_ble_eq_true rfl) (ks2 := 0) (sl2 := 0) rfl rfl ⟨(Nat.le_of_ble_eq_true rfl), (Nat.le_of_ble_eq_true rfl)⟩ dX8_report_54 h_a0 (fun r13 M11 g12 => ?_)
        have h_a0 := h_a0.mono g12
        refine aw_ifeqB (pc := 57) X 88 dX8_report_57 (by decide) ?_ ?_
        · refine aw_aload_n (pc := 60) X 2 dX8_report_60 rfl ?_
          refine gf_X8_40 (pc := 61) X dX8_report_61 h_a0 (fun r14 h_r14 => ?_)
          refine aw_bipush (pc := 64) X (22 : Int32) dX8_report_64 (by decide) ?_
          refine aw_iload_n (pc := 66) X 3 dX8_report_66 rfl ?_
          refine aw_imul (pc := 67) X dX8_report_67 ?_
          refine aw_iload_n (pc := 68) X 1 dX8_report_68 rfl ?_
          refine aw_iadd (pc := 69) X dX8_report_69 ?_
          refine aw_iald (pc := 70) X dX8_report_70 h_r14 ?_
          refine aw_ifeq (pc := 71) X 88 dX8_report_71 (by decide) ?_ ?_
          · refine aw_bipush (pc := 88) X (-9 : Int32) dX8_report_88 (by decide) ?_
            exact aw_iret (pc := 90) X hr dX8_report_90 (Nat.le_of_ble_eq_true rfl) (Nat.le_of_ble_eq_true rfl)
          · refine aw_aload_n (pc := 74) X 2 dX8_report_74 rfl ?_
            refine gf_X8_40 (pc := 75) X dX8_report_75 h_a0 (fun r15 h_r15 => ?_)
            refine aw_bipush (pc := 78) X (22 : Int32) dX8_report_78 (by decide) ?_
            refine aw_iload_n (pc := 80) X 3 dX8_report_80 rfl ?_
            refine aw_imul (pc := 81) X dX8_report_81 ?_
            refine aw_iload_n (pc := 82) X 0 dX8_report_82 rfl ?_
            refine aw_iadd (pc := 83) X dX8_report_83 ?_
            refine aw_iald (pc := 84) X dX8_report_84 h_r15 ?_
            refine aw_ifne (pc := 85) X 91 dX8_report_85 (by decide) ?_ ?_
            · refine aw_bipush (pc := 88) X (-9 : Int32) dX8_report_88 (by decide) ?_
              exact aw_iret (pc := 90) X hr dX8_report_90 (Nat.le_of_ble_eq_true rfl) (Nat.le_of_ble_eq_true rfl)
            · refine aw_aload_n (pc := 91) X 2 dX8_report_91 rfl ?_
              refine aw_aload_n (pc := 92) X 2 dX8_report_92 rfl ?_
              refine gf_X8_37 (pc := 93) X dX8_report_93 h_a0 (fun r16 h_r16 => ?_)
              refine aw_bipush (pc := 96) X (22 : Int32) dX8_report_96 (by decide) ?_
              refine aw_iload_n (pc := 98) X 3 dX8_report_98 rfl ?_
              refine aw_imul (pc := 99) X dX8_report_99 ?_
              refine aw_iload_n (pc := 100) X 1 dX8_report_100 rfl ?_
              refine aw_iadd (pc := 101) X dX8_report_101 ?_
              refine aw_iald (pc := 102) X dX8_report_102 h_r16 ?_
              refine aw_iconst (pc := 103) X (2 : Int32) dX8_report_103 (by decide) ?_
              refine cl_X8_199 (pc := 104) X ⟨Nat.le_of_ble_eq_true rfl, Nat.le_of_ble_eq_true rfl⟩ (Nat.le_of_ble_eq_true rfl) (ks2 := 0) (sl2 := 0) rfl rfl ⟨(Nat.le_of_ble_eq_true rfl), (Nat.le_of_ble_eq_true rfl)⟩ dX8_report_104 h_a0 (fun r19 M17 g18 => ?_)
              have h_a0 := h_a0.mono g18
              refine aw_l2i (pc := 107) X dX8_report_107 ?_
              refine aw_sipush (pc := 108) X (4095 : Int32) dX8_report_108 (by decide) ?_
              refine aw_iand (pc := 111) X dX8_report_111 ?_
              refine aw_istoreV (pc := 112) X (fun y => [(4, .int y), (3, .int i7), (2, .int i5), (0, .ref (b + a0)), (1, .int v1)]) dX8_report_112 (by decide) (fun _ => rfl) (fun i20 => ?_)
              refine aw_aload_n (pc := 114) X 3 dX8_report_114 rfl ?_
              refine aw_aload_n (pc := 115) X 3 dX8_report_115 rfl ?_
              refine gf_X8_37 (pc := 116) X dX8_report_116 h_a0 (fun r21 h_r21 => ?_)
              refine aw_bipush (pc := 119) X (22 : Int32) dX8_report_119 (by decide) ?_
              refine aw_iload_n (pc := 121) X 4 dX8_report_121 rfl ?_
              refine aw_imul (pc := 122) X dX8_report_122 ?_
              refine aw_iload_n (pc := 123) X 1 dX8_report_123 rfl ?_
              refine aw_iadd (pc := 124) X dX8_report_124 ?_
              refine aw_iald (pc := 125) X dX8_report_125 h_r21 ?_
              refine aw_iconst (pc := 126) X (2 : Int32) dX8_report_126 (by decide) ?_
              refine cl_X8_199 (pc := 127) X ⟨Nat.le_of_ble_eq_true rfl, Nat.le_of_ble_eq_true rfl⟩ (Nat.le_of_ble_eq_true rfl) (ks2 := 0) (sl2 := 0) rfl rfl ⟨(Nat.le_of_ble_eq_true rfl), (Nat.le_of_ble_eq_true rfl)⟩ dX8_report_127 h_a0 (fun r24 M22 g23 => ?_)
              have h_a0 := h_a0.mono g23
              refine cl_X8_219 (pc := 130) X ⟨Nat.le_of_ble_eq_true rfl, Nat.le_of_ble_eq_true rfl⟩ (Nat.le_of_ble_eq_true rfl) (ks2 := 0) (sl2 := 0) rfl rfl ⟨(Nat.le_of_ble_eq_true rfl), (Nat.le_of_ble_eq_true rfl)⟩ dX8_report_130  (fun r27 M25 g26 => ?_)
              have h_a0 := h_a0.mono g26
              refine aw_istoreV (pc := 133) X (fun y => [(5, .int y), (4, .int i20), (3, .int i7), (2, .int i5), (0, .ref (b + a0)), (1, .int v1)]) dX8_report_133 (by decide) (fun _ => rfl) (fun i28 => ?_)
              refine aw_aload_n (pc := 135) X 4 dX8_report_135 rfl ?_
              refine aw_aload_n (pc := 136) X 4 dX8_report_136 rfl ?_
              refine gf_X8_37 (pc := 137) X dX8_report_137 h_a0 (fun r29 h_r29 => ?_)
              refine aw_bipush (pc := 140) X (22 : Int32) dX8_report_140 (by decide) ?_
              refine aw_iload_n (pc := 142) X 5 dX8_report_142 rfl ?_
              refine aw_imul (pc := 143) X dX8_report_143 ?_
              refine aw_iload_n (pc := 144) X 2 dX8_report_144 rfl ?_
              refine aw_iadd (pc := 145) X dX8_report_145 ?_
              refine aw_iald (pc := 146) X dX8_report_146 h_r29 ?_
              refine aw_iconst (pc := 147) X (2 : Int32) dX8_report_147 (by decide) ?_
              refine aw_iadd (pc := 148) X dX8_report_148 ?_
              refine aw_iconst (pc := 149) X (2 : Int32) dX8_report_149 (by decide) ?_
              refine cl_X8_199 (pc := 150) X ⟨Nat.le_of_ble_eq_true rfl, Nat.le_of_ble_eq_true rfl⟩ (Nat.le_of_ble_eq_true rfl) (ks2 := 0) (sl2 := 0) rfl rfl ⟨(Nat.le_of_ble_eq_true rfl), (Nat.le_of_ble_eq_true rfl)⟩ dX8_report_150 h_a0 (fun r32 M30 g31 => ?_)
              have h_a0 := h_a0.mono g31
              refine cl_X8_219 (pc := 153) X ⟨Nat.le_of_ble_eq_true rfl, Nat.le_of_ble_eq_true rfl⟩ (Nat.le_of_ble_eq_true rfl) (ks2 := 0) (sl2 := 0) rfl rfl ⟨(Nat.le_of_ble_eq_true rfl), (Nat.le_of_ble_eq_true rfl)⟩ dX8_report_153  (fun r35 M33 g34 => ?_)
              have h_a0 := h_a0.mono g34
              refine aw_istoreV (pc := 156) X (fun y => [(6, .int y), (5, .int i28), (4, .int i20), (3, .int i7), (2, .int i5), (0, .ref (b + a0)), (1, .int v1)]) dX8_report_156 (by decide) (fun _ => rfl) (fun i36 => ?_)
              refine aw_aload_n (pc := 158) X 5 dX8_report_158 rfl ?_
              refine aw_iload (pc := 159) X 2 dX8_report_159 rfl ?_
              refine cl_X8_223 (pc := 161) X ⟨Nat.le_of_ble_eq_true rfl, Nat.le_of_ble_eq_true rfl⟩ (Nat.le_of_ble_eq_true rfl) (ks2 := 0) (sl2 := 0) rfl rfl ⟨(Nat.le_of_ble_eq_true rfl), (Nat.le_of_ble_eq_true rfl)⟩ dX8_report_161 h_a0 (fun r39 M37 g38 => ?_)
              have h_a0 := h_a0.mono g38
              refine aw_istoreV (pc := 164) X (fun y => [(7, .int y), (6, .int i36), (5, .int i28), (4, .int i20), (3, .int i7), (2, .int i5), (0, .ref (b + a0)), (1, .int v1)]) dX8_report_164 (by decide) (fun _ => rfl) (fun i40 => ?_)
              refine aw_iload (pc := 166) X 0 dX8_report_166 rfl ?_
              refine aw_ifge (pc := 168) X 245 dX8_report_168 (by decide) ?_ ?_
              · refine aw_aload_n (pc := 171) X 6 dX8_report_171 rfl ?_
                refine gf_X8_216 (pc := 172) X dX8_report_172 h_a0 ?_
                refine aw_bipush (pc := 175) X (12 : Int32) dX8_report_175 (by decide) ?_
                refine aw_icmpne (pc := 177) X 193 dX8_report_177 (by decide) ?_ ?_
                · refine aw_aload_n (pc := 180) X 6 dX8_report_180 rfl ?_
                  refine aw_dup_a (pc := 181) X dX8_report_181 ?_
                  refine gf_X8_226 (pc := 182) X dX8_report_182 h_a0 ?_
                  refine aw_iconst (pc := 185) X (1 : Int32) dX8_report_185 (by decide) ?_
                  refine aw_iadd (pc := 186) X dX8_report_186 ?_
                  refine pf_X8_226 (pc := 187) X dX8_report_187 h_a0 (fun M88 g89 => ?_)
                  have h_a0 := h_a0.mono g89
                  refine aw_bipush (pc := 190) X (-9 : Int32) dX8_report_190 (by decide) ?_
                  exact aw_iret (pc := 192) X hr dX8_report_192 (Nat.le_of_ble_eq_true rfl) (Nat.le_of_ble_eq_true rfl)
                · refine aw_aload_n (pc := 193) X 6 dX8_report_193 rfl ?_
                  refine gf_X8_216 (pc := 194) X dX8_report_194 h_a0 ?_
                  refine aw_istoreV (pc := 197) X (fun y => [(7, .int y), (6, .int i36), (5, .int i28), (4, .int i20), (3, .int i7), (2, .int i5), (0, .ref (b + a0)), (1, .int v1)]) dX8_report_197 (by decide) (fun _ => rfl) (fun i73 => ?_)
                  refine aw_aload_n (pc := 199) X 6 dX8_report_199 rfl ?_
                  refine aw_dup_a (pc := 200) X dX8_report_200 ?_
                  refine gf_X8_216 (pc := 201) X dX8_report_201 h_a0 ?_
                  refine aw_iconst (pc := 204) X (1 : Int32) dX8_report_204 (by decide) ?_
                  refine aw_iadd (pc := 205) X dX8_report_205 ?_
                  refine pf_X8_216 (pc := 206) X dX8_report_206 h_a0 (fun M74 g75 => ?_)
                  have h_a0 := h_a0.mono g75
                  refine aw_aload_n (pc := 209) X 6 dX8_report_209 rfl ?_
                  refine gf_X8_66 (pc := 210) X dX8_report_210 h_a0 (fun r76 h_r76 => ?_)
                  refine aw_iload (pc := 213) X 0 dX8_report_213 rfl ?_
                  refine aw_iload (pc := 215) X 3 dX8_report_215 rfl ?_
                  refine aw_iastQ (pc := 217) X dX8_report_217 h_r76 (fun M77 g78 => ?_)
                  have h_a0 := h_a0.mono g78
                  refine aw_aload_n (pc := 218) X 6 dX8_report_218 rfl ?_
                  refine gf_X8_75 (pc := 219) X dX8_report_219 h_a0 (fun r79 h_r79 => ?_)
                  refine aw_iload (pc := 222) X 0 dX8_report_222 rfl ?_
                  refine aw_iconst (pc := 224) X (0 : Int32) dX8_report_224 (by decide) ?_
                  refine aw_iastQ (pc := 225) X dX8_report_225 h_r79 (fun M80 g81 => ?_)
                  have h_a0 := h_a0.mono g81
                  refine aw_aload_n (pc := 226) X 6 dX8_report_226 rfl ?_
                  refine gf_X8_78 (pc := 227) X dX8_report_227 h_a0 (fun r82 h_r82 => ?_)
                  refine aw_iload (pc := 230) X 0 dX8_report_230 rfl ?_
                  refine aw_iconst (pc := 232) X (0 : Int32) dX8_report_232 (by decide) ?_
                  refine aw_iastQ (pc := 233) X dX8_report_233 h_r82 (fun M83 g84 => ?_)
                  have h_a0 := h_a0.mono g84
                  refine aw_aload_n (pc := 234) X 6 dX8_report_234 rfl ?_
                  refine gf_X8_84 (pc := 235) X dX8_report_235 h_a0 (fun r85 h_r85 => ?_)
                  refine aw_iload (pc := 238) X 0 dX8_report_238 rfl ?_
                  refine aw_iconst (pc := 240) X (0 : Int32) dX8_report_240 (by decide) ?_
                  refine aw_iastQ (pc := 241) X dX8_report_241 h_r85 (fun M86 g87 => ?_)
                  have h_a0 := h_a0.mono g87
                  refine aw_goto (pc := 242) X 313 dX8_report_242 (by decide) ?_
                  refine aw_sub [6, 2, 1, 0] rfl ?_
                  exact t_X8_report_L313 X hr a0 i28 i36 i73 M86 h_a0
              · refine aw_aload_n (pc := 245) X 6 dX8_report_245 rfl ?_
                refine gf_X8_229 (pc := 246) X dX8_report_246 h_a0 ?_
                refine aw_aload_n (pc := 249) X 6 dX8_report_249 rfl ?_
                refine gf_X8_93 (pc := 250) X dX8_report_250 h_a0 (fun r41 h_r41 => ?_)
                refine aw_iload (pc := 253) X 0 dX8_report_253 rfl ?_
                refine aw_iald (pc := 255) X dX8_report_255 h_r41 ?_
                refine aw_isub (pc := 256) X dX8_report_256 ?_
                refine aw_istoreV (pc := 257) X (fun y => [(8, .int y), (7, .int i40), (6, .int i36), (5, .int i28), (4, .int i20), (3, .int i7), (2, .int i5), (0, .ref (b + a0)), (1, .int v1)]) dX8_report_257 (by decide) (fun _ => rfl) (fun i42 => ?_)
                refine aw_iload (pc := 259) X 0 dX8_report_259 rfl ?_
                refine aw_iconst (pc := 261) X (1 : Int32) dX8_report_261 (by decide) ?_
                refine aw_icmpge (pc := 262) X 269 dX8_report_262 (by decide) ?_ ?_
                · refine aw_iconst (pc := 265) X (1 : Int32) dX8_report_265 (by decide) ?_
                  refine aw_goto (pc := 266) X 271 dX8_report_266 (by decide) ?_
                  refine aw_sub [7, 3, 2, 1] rfl ?_
                  exact t_X8_report_L271 X hr a0 i28 i36 i40 (1 : Int32) M37 h_a0
                · refine aw_iload (pc := 269) X 0 dX8_report_269 rfl ?_
                  refine aw_sub [7, 3, 2, 1] rfl ?_
                  exact t_X8_report_L271 X hr a0 i28 i36 i40 i42 M37 h_a0
        · refine aw_bipush (pc := 88) X (-9 : Int32) dX8_report_88 (by decide) ?_
          exact aw_iret (pc := 90) X hr dX8_report_90 (Nat.le_of_ble_eq_true rfl) (Nat.le_of_ble_eq_true rfl)
      · refine aw_bipush (pc := 88) X (-9 : Int32) dX8_report_88 (by decide) ?_
        exact aw_iret (pc := 90) X hr dX8_report_90 (Nat.le_of_ble_eq_true rfl) (Nat.le_of_ble_eq_true rfl)
  · refine aw_iconst (pc := 8) X (-1 : Int32) dX8_report_8 (by decide) ?_
    exact aw_iret (pc := 9) X hr dX8_report_9 (Nat.le_of_ble_eq_true rfl) (Nat.le_of_ble_eq_true rfl))
/-! ReportBlocks$Track.passTick -/
def rm_X5_passTick : Room := { frames := 0, cells := 0, slots := 0, locals := 0 }
theorem hd_X5_passTick : jHd yX5_passTick 0 := by unfold jHd; decide +kernel
theorem gf_X5_43 {ρ : Type} {l : Launch} {p : Program} {e : Env} {R : Room} {s : State} {m : MethodId} {args : Array Value} {below : List Frame} {meth : Method} {c : Code} {D : va_G} {cs : JC} {b nL : Nat} {H0 : Heap} {Qf : ρ × JM → State → Prop} {M : JM} {ks sl : Nat} {lv : List (Nat × Value)} {pc : Nat} {st : List Value} {cc : ByteArray} {k : Nat} (X : jX p c cc nL s m args RX5 D cs b meth H0) {F : Option (ρ × JM)} (hdg : decode cc pc = .ok (.getfield 43, 3)) (ho : oty M k 15) (kk : AWO p l e R s m args below meth c D cs b nL H0 Qf F M ks sl lv (pc + 3) (.int (gi M k 1) :: st)) : AWO p l e R s m args below meth c D cs b nL H0 Qf F M ks sl lv pc (.ref (b + k) :: st) := aw_getI (ci := 5) X 1 rfl gy_X5 (by decide) rfl rfl wf_X5_43 hdg ho kk
theorem gf_X5_37 {ρ : Type} {l : Launch} {p : Program} {e : Env} {R : Room} {s : State} {m : MethodId} {args : Array Value} {below : List Frame} {meth : Method} {c : Code} {D : va_G} {cs : JC} {b nL : Nat} {H0 : Heap} {Qf : ρ × JM → State → Prop} {M : JM} {ks sl : Nat} {lv : List (Nat × Value)} {pc : Nat} {st : List Value} {cc : ByteArray} {k : Nat} (X : jX p c cc nL s m args RX5 D cs b meth H0) {F : Option (ρ × JM)} (hdg : decode cc pc = .ok (.getfield 37, 3)) (ho : oty M k 15) (kk : AWO p l e R s m args below meth c D cs b nL H0 Qf F M ks sl lv (pc + 3) (.int (gi M k 5) :: st)) : AWO p l e R s m args below meth c D cs b nL H0 Qf F M ks sl lv pc (.ref (b + k) :: st) := aw_getI (ci := 5) X 5 rfl gy_X5 (by decide) rfl rfl wf_X5_37 hdg ho kk
theorem gf_X5_46 {ρ : Type} {l : Launch} {p : Program} {e : Env} {R : Room} {s : State} {m : MethodId} {args : Array Value} {below : List Frame} {meth : Method} {c : Code} {D : va_G} {cs : JC} {b nL : Nat} {H0 : Heap} {Qf : ρ × JM → State → Prop} {M : JM} {ks sl : Nat} {lv : List (Nat × Value)} {pc : Nat} {st : List Value} {cc : ByteArray} {k : Nat} (X : jX p c cc nL s m args RX5 D cs b meth H0) {F : Option (ρ × JM)} (hdg : decode cc pc = .ok (.getfield 46, 3)) (ho : oty M k 15) (kk : AWO p l e R s m args below meth c D cs b nL H0 Qf F M ks sl lv (pc + 3) (.int (gi M k 2) :: st)) : AWO p l e R s m args below meth c D cs b nL H0 Qf F M ks sl lv pc (.ref (b + k) :: st) := aw_getI (ci := 5) X 2 rfl gy_X5 (by decide) rfl rfl wf_X5_46 hdg ho kk
theorem gf_X5_40 {ρ : Type} {l : Launch} {p : Program} {e : Env} {R : Room} {s : State} {m : MethodId} {args : Array Value} {below : List Frame} {meth : Method} {c : Code} {D : va_G} {cs : JC} {b nL : Nat} {H0 : Heap} {Qf : ρ × JM → State → Prop} {M : JM} {ks sl : Nat} {lv : List (Nat × Value)} {pc : Nat} {st : List Value} {cc : ByteArray} {k : Nat} (X : jX p c cc nL s m args RX5 D cs b meth H0) {F : Option (ρ × JM)} (hdg : decode cc pc = .ok (.getfield 40, 3)) (ho : oty M k 15) (kk : AWO p l e R s m args below meth c D cs b nL H0 Qf F M ks sl lv (pc + 3) (.int (gi M k 6) :: st)) : AWO p l e R s m args below meth c D cs b nL H0 Qf F M ks sl lv pc (.ref (b + k) :: st) := aw_getI (ci := 5) X 6 rfl gy_X5 (by decide) rfl rfl wf_X5_40 hdg ho kk
def f_X5_passTick (a0 : Nat) (M : JM) : Option (Unit × JM) := sq (si M a0 7 ((gi M a0 7) + (1 : Int32))) fun M1 => if (gi M1 a0 7) < (2 : Int32) then (some ((), M1)) else (if (gi M1 a0 7) < (6 : Int32) then (sq (si M1 a0 1 (((gi M1 a0 1) + (gi M1 a0 5)).toInt16.toInt32)) fun M3 => sq (si M3 a0 2 (((gi M3 a0 2) + (gi M3 a0 6)).toInt16.toInt32)) fun M5 => some ((), M5)) else (some ((), M1)))
set_option maxRecDepth 10000 in
set_option maxHeartbeats 4000000 in
theorem t_X5_passTick {l : Launch} {D : va_G} {cs : JC} {b : Nat} (a0 : Nat) (M : JM) (h_a0 : oty M a0 15) : ∀ q, f_X5_passTick a0 M = some q → CTy l yX5_passTick (.code yX5_passTick cX5_passTick 1 (Option.none) :: GB) rm_X5_passTick D cs b evV [.ref (b + a0)] M rm_X5_passTick.cells rm_X5_passTick.slots q := fun q hq => ct_of [(0, .ref (b + a0))] rfl rfl (Nat.le_of_ble_eq_true rfl) hq (fun p e s m args below meth c X hr hin => by
  refine aw_callq (F' := sq (si M a0 7 ((gi M a0 7) + (1 : Int32))) fun M1 => if (gi M1 a0 7) < (2 : Int32) then (some ((), M1)) else (if (gi M1 a0 7) < (6 : Int32) then (sq (si M1 a0 1 (((gi M1 a0 1) + (gi M1 a0 5)).toInt16.toInt32)) fun M3 => sq (si M3 a0 2 (((gi M3 a0 2) + (gi M3 a0 6)).toInt16.toInt32)) fun M5 => some ((), M5)) else (some ((), M1)))) rfl ?_
  refine aw_aload_n (pc := 0) X 0 dX5_passTick_0 rfl ?_
  refine aw_dup_a (pc := 1) X dX5_passTick_1 ?_
  refine gf_X5_28 (pc := 2) X dX5_passTick_2 h_a0 ?_
  refine aw_iconst (pc := 5) X (1 : Int32) dX5_passTick_5 (by decide) ?_
  refine aw_iadd (pc := 6) X dX5_passTick_6 ?_
  refine pf_X5_28 (pc := 7) X dX5_passTick_7 h_a0 (fun M1 g2 => ?_)
  have h_a0 := h_a0.mono g2
  refine aw_aload_n (pc := 10) X 0 dX5_passTick_10 rfl ?_
  refine gf_X5_28 (pc := 11) X dX5_passTick_11 h_a0 ?_
  refine aw_iconst (pc := 14) X (2 : Int32) dX5_passTick_14 (by decide) ?_
  refine aw_icmplt (pc := 15) X 55 dX5_passTick_15 (by decide) ?_ ?_
  · exact aw_vret (pc := 55) X hr dX5_passTick_55 (Nat.le_of_ble_eq_true rfl) (Nat.le_of_ble_eq_true rfl)
  · refine aw_aload_n (pc := 18) X 0 dX5_passTick_18 rfl ?_
    refine gf_X5_28 (pc := 19) X dX5_passTick_19 h_a0 ?_
    refine aw_bipush (pc := 22) X (6 : Int32) dX5_passTick_22 (by decide) ?_
    refine aw_icmpge (pc := 24) X 55 dX5_passTick_24 (by decide) ?_ ?_
    · refine aw_aload_n (pc := 27) X 0 dX5_passTick_27 rfl ?_
      refine aw_aload_n (pc := 28) X 0 dX5_passTick_28 rfl ?_
      refine gf_X5_43 (pc := 29) X dX5_passTick_29 h_a0 ?_
      refine aw_aload_n (pc := 32) X 0 dX5_passTick_32 rfl ?_
      refine gf_X5_37 (pc := 33) X dX5_passTick_33 h_a0 ?_
      refine aw_iadd (pc := 36) X dX5_passTick_36 ?_
      refine aw_i2s (pc := 37) X dX5_passTick_37 ?_
      refine pf_X5_43 (pc := 38) X dX5_passTick_38 h_a0 (fun M3 g4 => ?_)
      have h_a0 := h_a0.mono g4
      refine aw_aload_n (pc := 41) X 0 dX5_passTick_41 rfl ?_
      refine aw_aload_n (pc := 42) X 0 dX5_passTick_42 rfl ?_
      refine gf_X5_46 (pc := 43) X dX5_passTick_43 h_a0 ?_
      refine aw_aload_n (pc := 46) X 0 dX5_passTick_46 rfl ?_
      refine gf_X5_40 (pc := 47) X dX5_passTick_47 h_a0 ?_
      refine aw_iadd (pc := 50) X dX5_passTick_50 ?_
      refine aw_i2s (pc := 51) X dX5_passTick_51 ?_
      refine pf_X5_46 (pc := 52) X dX5_passTick_52 h_a0 (fun M5 g6 => ?_)
      have h_a0 := h_a0.mono g6
      exact aw_vret (pc := 55) X hr dX5_passTick_55 (Nat.le_of_ble_eq_true rfl) (Nat.le_of_ble_eq_true rfl)
    · exact aw_vret (pc := 55) X hr dX5_passTick_55 (Nat.le_of_ble_eq_true rfl) (Nat.le_of_ble_eq_true rfl))
