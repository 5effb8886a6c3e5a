/-! programs of the methods, and the rows that their bytecode answers so: written by wip/gen/gen.py out of the printed decode rows -/
/-! ReportBlocks$OwnRecord.putItem -/
def rm_X2_putItem : Room := { frames := 1, cells := 0, slots := 0, locals := 60 }
theorem hd_X2_putItem : jHd yX2_putItem 3 := by unfold jHd; decide +kernel
theorem gf_X2_15 {ρ : Type} {l : Launch} {p : Program} {e : Env} {R : Room} {s : State} {m : MethodId} {args : Array Value} {below : List Frame} {meth : Method} {c : Code} {D : va_G} {cs : JC} {b nL : Nat} {H0 : Heap} {Qf : ρ × JM → State → Prop} {M : JM} {ks sl : Nat} {lv : List (Nat × Value)} {pc : Nat} {st : List Value} {cc : ByteArray} {k : Nat} (X : jX p c cc nL s m args RX2 D cs b meth H0) {K : Nat → Option (ρ × JM)} (hdg : decode cc pc = .ok (.getfield 15, 3)) (ho : oty M k 12) (kk : ∀ r : Nat, oty M r 1 → AWO p l e R s m args below meth c D cs b nL H0 Qf (K r) M ks sl lv (pc + 3) (.ref (b + r) :: st)) : AWO p l e R s m args below meth c D cs b nL H0 Qf (orf (gr M k 1) K) M ks sl lv pc (.ref (b + k) :: st) := aw_getR (ci := 2) (τ := 1) X 1 rfl gy_X2 (by decide) (by decide) rfl rfl (by decide) wf_X2_15 hdg ho kk
theorem cl_X2_28 {ρ : Type} {l : Launch} {p : Program} {e : Env} {R : Room} {s : State} {m : MethodId} {args : Array Value} {below : List Frame} {meth : Method} {c : Code} {D : va_G} {cs : JC} {b nL : Nat} {H0 : Heap} {Qf : ρ × JM → State → Prop} {M : JM} {ks sl : Nat} {lv : List (Nat × Value)} {pc : Nat} {st : List Value} {cc : ByteArray} (X : jX p c cc nL s m args RX2 D cs b meth H0) {z0 : Int32} {K : Int32 → JM → Option (ρ × JM)} (hrm : jRm rm_X2_rowOf 1 R) (hW : (st.map fun v => v.category).sum ≤ 8) {ks2 sl2 : Nat} (hk2 : ks + rm_X2_rowOf.cells = ks2) (hs2 : sl + rm_X2_rowOf.slots = sl2) (hroom : ks2 ≤ R.cells ∧ sl2 ≤ R.slots) (hdg : decode cc pc = .ok (.invokestatic 28, 3)) (kk : ∀ (r : Int32) (M2 : JM), gn M ≤ gn M2 → AWO p l e R s m args below meth c D cs b nL H0 Qf (K r M2) M2 ks2 sl2 lv (pc + 3) (.int r :: st)) : AWO p l e R s m args below meth c D cs b nL H0 Qf (ob (f_X2_rowOf z0 M) K) M ks sl lv pc (.int z0 :: st) := by
  subst hk2
  subst hs2
  exact aw_callS X [.int z0] st rfl wl_X2_28 wt_X2_rowOf wc_X2_rowOf wn_X2 (n := 1) hd_X2_rowOf rfl hrm hW hroom hdg (t_X2_rowOf z0 M ) (fun r M2 g _ => kk r M2 g)
def f_X2_putItem (a0 : Nat) (v1 : Int32) (a2 : Nat) (v3 : Int32) (M : JM) : Option (Unit × JM) := if (58 : Int32) < v3 then (some ((), M)) else (orf (gr M a0 1) fun r1 => ob (f_X2_rowOf v1 M) fun r4 M2 => if 0 ≤ (0 : Int32) ∧ (0 : Int32) < 2000 ∧ 0 ≤ r4 ∧ r4 < 2000 ∧ 0 ≤ v3 ∧ v3 < 2000 ∧ (0 : Int32) + v3 ≤ ln a2 ∧ r4 + v3 ≤ ln r1 then (sq (cpm M2 a2 (0 : Int32) r1 r4 v3) fun M5 => orf (gr M5 a0 2) fun r7 => if 0 ≤ v1 ∧ v1 < ln r7 then (sq (si M5 r7 v1 v3) fun M8 => some ((), M8)) else none) else none)
set_option maxRecDepth 10000 in
set_option maxHeartbeats 4000000 in
theorem t_X2_putItem {l : Launch} {D : va_G} {cs : JC} {b : Nat} (a0 : Nat) (v1 : Int32) (a2 : Nat) (v3 : Int32) (M : JM) (h_a0 : oty M a0 12) (h_a2 : oty M a2 1) : ∀ q, f_X2_putItem a0 v1 a2 v3 M = some q → CTy l yX2_putItem (.code yX2_putItem cX2_putItem 4 (Option.none) :: GB) rm_X2_putItem D cs b evV [.ref (b + a0), .int v1, .ref (b + a2), .int v3] M rm_X2_putItem.cells rm_X2_putItem.slots q := fun q hq => ct_of [(0, .ref (b + a0)), (1, .int v1), (2, .ref (b + a2)), (3, .int v3)] rfl rfl (Nat.le_of_ble_eq_true rfl) hq (fun p e s m args below meth c X hr hin => by
  refine aw_callq (F' := if (58 : Int32) < v3 then (some ((), M)) else (orf (gr M a0 1) fun r1 => ob (f_X2_rowOf v1 M) fun r4 M2 => if 0 ≤ (0 : Int32) ∧ (0 : Int32) < 2000 ∧ 0 ≤ r4 ∧ r4 < 2000 ∧ 0 ≤ v3 ∧ v3 < 2000 ∧ (0 : Int32) + v3 ≤ ln a2 ∧ r4 + v3 ≤ ln r1 then (sq (cpm M2 a2 (0 : Int32) r1 r4 v3) fun M5 => orf (gr M5 a0 2) fun r7 => if 0 ≤ v1 ∧ v1 < ln r7 then (sq (si M5 r7 v1 v3) fun M8 => some ((), M8)) else none) else none)) rfl ?_
  refine aw_iload_n (pc := 0) X 3 dX2_putItem_0 rfl ?_
  refine aw_bipush (pc := 1) X (58 : Int32) dX2_putItem_1 (by decide) ?_
  refine aw_icmpgt (pc := 3) X 27 dX2_putItem_3 (by decide) ?_ ?_
  · exact aw_vret (pc := 27) X hr dX2_putItem_27 (Nat.le_of_ble_eq_true rfl) (Nat.le_of_ble_eq_true rfl)
  · refine aw_aload_n (pc := 6) X 2 dX2_putItem_6 rfl ?_
    refine aw_iconst (pc := 7) X (0 : Int32) dX2_putItem_7 (by decide) ?_
    refine aw_aload_n (pc := 8) X 0 dX2_putItem_8 rfl ?_
    refine gf_X2_15 (pc := 9) X dX2_putItem_9 h_a0 (fun r1 h_r1 => ?_)
    refine aw_iload_n (pc := 12) X 1 dX2_putItem_12 rfl ?_
    refine cl_X2_28 (pc := 13) X ⟨Nat.le_of_ble_eq_true rfl, Nat.le_of_ble_eq_true rfl⟩ (Nat.le_of_ble_eq_true rfl) (ks2 := 0) (sl2 := 0) rfl rfl ⟨(Nat.le_of_ble_eq_true rfl), (Nat.le_of_ble_eq_true rfl)⟩ dX2_putItem_13  (fun r4 M2 g3 => ?_)
    have h_a0 := h_a0.mono g3
    have h_a2 := h_a2.mono g3
    have h_r1 := h_r1.mono g3
    refine aw_iload_n (pc := 16) X 3 dX2_putItem_16 rfl ?_
    refine aw_copyQ (pc := 17) X wl_X2_32 (Nat.le_of_ble_eq_true rfl) (Nat.le_of_ble_eq_true rfl) dX2_putItem_17 h_a2 h_r1 (fun M5 g6 => ?_)
    have h_a0 := h_a0.mono g6
    have h_a2 := h_a2.mono g6
    refine aw_aload_n (pc := 20) X 0 dX2_putItem_20 rfl ?_
    refine gf_X2_19 (pc := 21) X dX2_putItem_21 h_a0 (fun r7 h_r7 => ?_)
    refine aw_iload_n (pc := 24) X 1 dX2_putItem_24 rfl ?_
    refine aw_iload_n (pc := 25) X 3 dX2_putItem_25 rfl ?_
    refine aw_iastQ (pc := 26) X dX2_putItem_26 h_r7 (fun M8 g9 => ?_)
    have h_a0 := h_a0.mono g9
    have h_a2 := h_a2.mono g9
    exact aw_vret (pc := 27) X hr dX2_putItem_27 (Nat.le_of_ble_eq_true rfl) (Nat.le_of_ble_eq_true rfl))
/-! ReportBlocks.set -/
def rm_X7_set : Room := { frames := 4, cells := 0, slots := 0, locals := 91 }
theorem hd_X7_set : jHd yX7_set 1 := by unfold jHd; decide +kernel
theorem cl_X7_187 {ρ : Type} {l : Launch} {p : Program} {e : Env} {R : Room} {s : State} {m : MethodId} {args : Array Value} {below : List Frame} {meth : Method} {c : Code} {D : va_G} {cs : JC} {b nL : Nat} {H0 : Heap} {Qf : ρ × JM → State → Prop} {M : JM} {ks sl : Nat} {lv : List (Nat × Value)} {pc : Nat} {st : List Value} {cc : ByteArray} (X : jX p c cc nL s m args RX7 D cs b meth H0) {z0 : Nat} {z1 : Int32} {K : JM → Option (ρ × JM)} (hrm : jRm rm_X3_passItem 2 R) (hW : (st.map fun v => v.category).sum ≤ 8) {ks2 sl2 : Nat} (hk2 : ks + rm_X3_passItem.cells = ks2) (hs2 : sl + rm_X3_passItem.slots = sl2) (hroom : ks2 ≤ R.cells ∧ sl2 ≤ R.slots) (hdg : decode cc pc = .ok (.invokevirtual 187, 3)) (h0 : oty M z0 13) (kk : ∀ (M2 : JM), gn M ≤ gn M2 → AWO p l e R s m args below meth c D cs b nL H0 Qf (K M2) M2 ks2 sl2 lv (pc + 3) (st)) : AWO p l e R s m args below meth c D cs b nL H0 Qf (ob (f_X3_passItem z0 z1 M) (fun _ => K)) M ks sl lv pc (.int z1 :: .ref (b + z0) :: st) := by
  subst hk2
  subst hs2
  exact aw_callV (ci := 3) X [.int z1] st rfl rfl wl_X7_187 wi_X3_passItem wv_X3_passItem wc_X3_passItem wn_X3 (n := 1) hd_X3_passItem rfl hrm hW hroom hdg h0 (t_X3_passItem z0 z1 M h0) (fun _ M2 g _ => kk M2 g)
theorem gf_X7_190 {ρ : Type} {l : Launch} {p : Program} {e : Env} {R : Room} {s : State} {m : MethodId} {args : Array Value} {below : List Frame} {meth : Method} {c : Code} {D : va_G} {cs : JC} {b nL : Nat} {H0 : Heap} {Qf : ρ × JM → State → Prop} {M : JM} {ks sl : Nat} {lv : List (Nat × Value)} {pc : Nat} {st : List Value} {cc : ByteArray} {k : Nat} (X : jX p c cc nL s m args RX7 D cs b meth H0) {F : Option (ρ × JM)} (hdg : decode cc pc = .ok (.getfield 190, 3)) (ho : oty M k 13) (kk : AWO p l e R s m args below meth c D cs b nL H0 Qf F M ks sl lv (pc + 3) (.int (gi M k 2) :: st)) : AWO p l e R s m args below meth c D cs b nL H0 Qf F M ks sl lv pc (.ref (b + k) :: st) := aw_getI (ci := 3) X 2 rfl gy_X3 (by decide) rfl rfl wf_X7_190 hdg ho kk
theorem cl_X7_193 {ρ : Type} {l : Launch} {p : Program} {e : Env} {R : Room} {s : State} {m : MethodId} {args : Array Value} {below : List Frame} {meth : Method} {c : Code} {D : va_G} {cs : JC} {b nL : Nat} {H0 : Heap} {Qf : ρ × JM → State → Prop} {M : JM} {ks sl : Nat} {lv : List (Nat × Value)} {pc : Nat} {st : List Value} {cc : ByteArray} (X : jX p c cc nL s m args RX7 D cs b meth H0) {z0 : Nat} {z1 : Int32} {z2 : Nat} {z3 : Int32} {K : JM → Option (ρ × JM)} (hrm : jRm rm_X2_putItem 4 R) (hW : (st.map fun v => v.category).sum ≤ 8) {ks2 sl2 : Nat} (hk2 : ks + rm_X2_putItem.cells = ks2) (hs2 : sl + rm_X2_putItem.slots = sl2) (hroom : ks2 ≤ R.cells ∧ sl2 ≤ R.slots) (hdg : decode cc pc = .ok (.invokevirtual 193, 3)) (h0 : oty M z0 12) (h2 : oty M z2 1) (kk : ∀ (M2 : JM), gn M ≤ gn M2 → AWO p l e R s m args below meth c D cs b nL H0 Qf (K M2) M2 ks2 sl2 lv (pc + 3) (st)) : AWO p l e R s m args below meth c D cs b nL H0 Qf (ob (f_X2_putItem z0 z1 z2 z3 M) (fun _ => K)) M ks sl lv pc (.int z3 :: .ref (b + z2) :: .int z1 :: .ref (b + z0) :: st) := by
  subst hk2
  subst hs2
  exact aw_callV (ci := 2) X [.int z1, .ref (b + z2), .int z3] st rfl rfl wl_X7_193 wi_X2_putItem wv_X2_putItem wc_X2_putItem wn_X2 (n := 3) hd_X2_putItem rfl hrm hW hroom hdg h0 (t_X2_putItem z0 z1 z2 z3 M h0 h2) (fun _ M2 g _ => kk M2 g)
def f_X7_set (a0 : Nat) (v1 : Int32) (M : JM) : Option (Int32 × JM) := ob (f_X7_isPlace v1 M) fun r3 M1 => if r3 = true then (orf (gr M1 a0 6) fun r4 => ob (f_X7_categoryAt a0 (gi M1 r4 0) M1) fun o8 M5 => oca o8 (some ((-2 : Int32), M5)) fun r7 => orf (gr M5 a0 2) fun r9 => sv (gi M5 r9 1) fun i10 => orf (gr M5 a0 3) fun r11 => ob (f_X3_start r11 i10 M5) fun _ M12 => orf (gr M12 a0 3) fun r14 => sq (sr M12 r14 1 (some r7)) fun M15 => orf (gr M15 a0 3) fun r17 => ob (f_X3_passItem r17 v1 M15) fun _ M18 => orf (gr M18 r7 1) fun r20 => if 0 ≤ v1 ∧ v1 < ln r20 then (if (gi M18 r20 v1) = (-9 : Int32) then (some ((-1 : Int32), M18)) else (orf (gr M18 a0 3) fun r21 => if (gi M18 r21 4) = 0 then (orf (gr M18 a0 3) fun r22 => if (gi M18 r22 2) = i10 then (orf (gr M18 a0 6) fun r23 => orf (gr M18 a0 2) fun r24 => orf (gr M18 r24 0) fun r25 => ob (f_X2_putItem r23 v1 r25 i10 M18) fun _ M26 => orf (gr M26 a0 2) fun r28 => sq (si M26 r28 1 (0 : Int32)) fun M29 => some (i10, M29)) else (some ((-1 : Int32), M18))) else (some ((-1 : Int32), M18)))) else none) else (some ((-1 : Int32), M1))
set_option maxRecDepth 10000 in
set_option maxHeartbeats 4000000 in
theorem t_X7_set {l : Launch} {D : va_G} {cs : JC} {b : Nat} (a0 : Nat) (v1 : Int32) (M : JM) (h_a0 : oty M a0 17) : ∀ q, f_X7_set a0 v1 M = some q → CTy l yX7_set (.code yX7_set cX7_set 4 (Option.some Jvm.ClassFile.FieldType.int) :: GB) rm_X7_set D cs b evI [.ref (b + a0), .int v1] M rm_X7_set.cells rm_X7_set.slots q := fun q hq => ct_of [(0, .ref (b + a0)), (1, .int v1)] rfl rfl (Nat.le_of_ble_eq_true rfl) hq (fun p e s m args below meth c X hr hin => by
  refine aw_callq (F' := ob (f_X7_isPlace v1 M) fun r3 M1 => if r3 = true then (orf (gr M1 a0 6) fun r4 => ob (f_X7_categoryAt a0 (gi M1 r4 0) M1) fun o8 M5 => oca o8 (some ((-2 : Int32), M5)) fun r7 => orf (gr M5 a0 2) fun r9 => sv (gi M5 r9 1) fun i10 => orf (gr M5 a0 3) fun r11 => ob (f_X3_start r11 i10 M5) fun _ M12 => orf (gr M12 a0 3) fun r14 => sq (sr M12 r14 1 (some r7)) fun M15 => orf (gr M15 a0 3) fun r17 => ob (f_X3_passItem r17 v1 M15) fun _ M18 => orf (gr M18 r7 1) fun r20 => if 0 ≤ v1 ∧ v1 < ln r20 then (if (gi M18 r20 v1) = (-9 : Int32) then (some ((-1 : Int32), M18)) else (orf (gr M18 a0 3) fun r21 => if (gi M18 r21 4) = 0 then (orf (gr M18 a0 3) fun r22 => if (gi M18 r22 2) = i10 then (orf (gr M18 a0 6) fun r23 => orf (gr M18 a0 2) fun r24 => orf (gr M18 r24 0) fun r25 => ob (f_X2_putItem r23 v1 r25 i10 M18) fun _ M26 => orf (gr M26 a0 2) fun r28 => sq (si M26 r28 1 (0 : Int32)) fun M29 => some (i10, M29)) else (some ((-1 : Int32), M18))) else (some ((-1 : Int32), M18)))) else none) else (some ((-1 : Int32), M1))) rfl ?_
  refine aw_iload_n (pc := 0) X 1 dX7_set_0 rfl ?_
  refine cl_X7_70 (pc := 1) X ⟨Nat.le_of_ble_eq_true rfl, Nat.le_of_ble_eq_true rfl⟩ (Nat.le_of_ble_eq_true rfl) (ks2 := 0) (sl2 := 0) rfl rfl ⟨(Nat.le_of_ble_eq_true rfl), (Nat.le_of_ble_eq_true rfl)⟩ dX7_set_1  (fun r3 M1 g2 => ?_)
  have h_a0 := h_a0.mono g2
  refine aw_ifneB (pc := 4) X 9 dX7_set_4 (by decide) ?_ ?_
  · refine aw_aload_n (pc := 9) X 0 dX7_set_9 rfl ?_
    refine aw_aload_n (pc := 10) X 0 dX7_set_10 rfl ?_
    refine gf_X7_44 (pc := 11) X dX7_set_11 h_a0 (fun r4 h_r4 => ?_)
    refine gf_X7_182 (pc := 14) X dX7_set_14 h_r4 ?_
    refine cl_X7_66 (pc := 17) X ⟨Nat.le_of_ble_eq_true rfl, Nat.le_of_ble_eq_true rfl⟩ (Nat.le_of_ble_eq_true rfl) (ks2 := 0) (sl2 := 0) rfl rfl ⟨(Nat.le_of_ble_eq_true rfl), (Nat.le_of_ble_eq_true rfl)⟩ dX7_set_17 h_a0 (fun M5 g6 => ?_) (fun r7 M5 g6 h_r7 => ?_)
    · have h_a0 := h_a0.mono g6
      refine aw_astore_n0 (pc := 20) X [(2, .null), (0, .ref (b + a0)), (1, .int v1)] dX7_set_20 (by decide) rfl ?_
      refine aw_aload_n0 (pc := 21) X 0 dX7_set_21 rfl ?_
      refine aw_ifnonnull_n (pc := 22) X dX7_set_22 ?_
      refine aw_bipush (pc := 25) X (-2 : Int32) dX7_set_25 (by decide) ?_
      exact aw_iret (pc := 27) X hr dX7_set_27 (Nat.le_of_ble_eq_true rfl) (Nat.le_of_ble_eq_true rfl)
    · have h_a0 := h_a0.mono g6
      refine aw_astore_n (pc := 20) X [(2, .ref (b + r7)), (0, .ref (b + a0)), (1, .int v1)] dX7_set_20 (by decide) rfl ?_
      refine aw_aload_n (pc := 21) X 0 dX7_set_21 rfl ?_
      refine aw_ifnonnull_r (pc := 22) X 28 dX7_set_22 (by decide) ?_
      refine aw_aload_n (pc := 28) X 1 dX7_set_28 rfl ?_
      refine gf_X7_18 (pc := 29) X dX7_set_29 h_a0 (fun r9 h_r9 => ?_)
      refine gf_X7_114 (pc := 32) X dX7_set_32 h_r9 ?_
      refine aw_istoreV_n (pc := 35) X (fun y => [(3, .int y), (2, .ref (b + r7)), (0, .ref (b + a0)), (1, .int v1)]) dX7_set_35 (by decide) (fun _ => rfl) (fun i10 => ?_)
      refine aw_aload_n (pc := 36) X 2 dX7_set_36 rfl ?_
      refine gf_X7_27 (pc := 37) X dX7_set_37 h_a0 (fun r11 h_r11 => ?_)
      refine aw_iload_n (pc := 40) X 0 dX7_set_40 rfl ?_
      refine cl_X7_120 (pc := 41) X ⟨Nat.le_of_ble_eq_true rfl, Nat.le_of_ble_eq_true rfl⟩ (Nat.le_of_ble_eq_true rfl) (ks2 := 0) (sl2 := 0) rfl rfl ⟨(Nat.le_of_ble_eq_true rfl), (Nat.le_of_ble_eq_true rfl)⟩ dX7_set_41 h_r11 (fun M12 g13 => ?_)
      have h_a0 := h_a0.mono g13
      have h_r7 := h_r7.mono g13
      refine aw_aload_n (pc := 44) X 2 dX7_set_44 rfl ?_
      refine gf_X7_27 (pc := 45) X dX7_set_45 h_a0 (fun r14 h_r14 => ?_)
      refine aw_aload_n (pc := 48) X 1 dX7_set_48 rfl ?_
      refine pf_X7_183 (pc := 49) X dX7_set_49 h_r14 h_r7 (fun M15 g16 => ?_)
      have h_a0 := h_a0.mono g16
      have h_r7 := h_r7.mono g16
      refine aw_aload_n (pc := 52) X 2 dX7_set_52 rfl ?_
      refine gf_X7_27 (pc := 53) X dX7_set_53 h_a0 (fun r17 h_r17 => ?_)
      refine aw_iload_n (pc := 56) X 3 dX7_set_56 rfl ?_
      refine cl_X7_187 (pc := 57) X ⟨Nat.le_of_ble_eq_true rfl, Nat.le_of_ble_eq_true rfl⟩ (Nat.le_of_ble_eq_true rfl) (ks2 := 0) (sl2 := 0) rfl rfl ⟨(Nat.le_of_ble_eq_true rfl), (Nat.le_of_ble_eq_true rfl)⟩ dX7_set_57 h_r17 (fun M18 g19 => ?_)
      have h_a0 := h_a0.mono g19
      have h_r7 := h_r7.mono g19
      refine aw_aload_n (pc := 60) X 1 dX7_set_60 rfl ?_
      refine gf_X7_81 (pc := 61) X dX7_set_61 h_r7 (fun r20 h_r20 => ?_)
      refine aw_iload_n (pc := 64) X 3 dX7_set_64 rfl ?_
      refine aw_iald (pc := 65) X dX7_set_65 h_r20 ?_
      refine aw_bipush (pc := 66) X (-9 : Int32) dX7_set_66 (by decide) ?_
      refine aw_icmpeq (pc := 68) X 92 dX7_set_68 (by decide) ?_ ?_
      · refine aw_iconst (pc := 92) X (-1 : Int32) dX7_set_92 (by decide) ?_
        exact aw_iret (pc := 93) X hr dX7_set_93 (Nat.le_of_ble_eq_true rfl) (Nat.le_of_ble_eq_true rfl)
      · refine aw_aload_n (pc := 71) X 2 dX7_set_71 rfl ?_
        refine gf_X7_27 (pc := 72) X dX7_set_72 h_a0 (fun r21 h_r21 => ?_)
        refine gf_X7_126 (pc := 75) X dX7_set_75 h_r21 ?_
        refine aw_ifne (pc := 78) X 92 dX7_set_78 (by decide) ?_ ?_
        · refine aw_aload_n (pc := 81) X 2 dX7_set_81 rfl ?_
          refine gf_X7_27 (pc := 82) X dX7_set_82 h_a0 (fun r22 h_r22 => ?_)
          refine gf_X7_190 (pc := 85) X dX7_set_85 h_r22 ?_
          refine aw_iload_n (pc := 88) X 0 dX7_set_88 rfl ?_
          refine aw_icmpeq (pc := 89) X 94 dX7_set_89 (by decide) ?_ ?_
          · refine aw_aload_n (pc := 94) X 2 dX7_set_94 rfl ?_
            refine gf_X7_44 (pc := 95) X dX7_set_95 h_a0 (fun r23 h_r23 => ?_)
            refine aw_iload_n (pc := 98) X 3 dX7_set_98 rfl ?_
            refine aw_aload_n (pc := 99) X 2 dX7_set_99 rfl ?_
            refine gf_X7_18 (pc := 100) X dX7_set_100 h_a0 (fun r24 h_r24 => ?_)
            refine gf_X7_135 (pc := 103) X dX7_set_103 h_r24 (fun r25 h_r25 => ?_)
            refine aw_iload_n (pc := 106) X 0 dX7_set_106 rfl ?_
            refine cl_X7_193 (pc := 107) X ⟨Nat.le_of_ble_eq_true rfl, Nat.le_of_ble_eq_true rfl⟩ (Nat.le_of_ble_eq_true rfl) (ks2 := 0) (sl2 := 0) rfl rfl ⟨(Nat.le_of_ble_eq_true rfl), (Nat.le_of_ble_eq_true rfl)⟩ dX7_set_107 h_r23 h_r25 (fun M26 g27 => ?_)
            have h_a0 := h_a0.mono g27
            have h_r7 := h_r7.mono g27
            refine aw_aload_n (pc := 110) X 2 dX7_set_110 rfl ?_
            refine gf_X7_18 (pc := 111) X dX7_set_111 h_a0 (fun r28 h_r28 => ?_)
            refine aw_iconst (pc := 114) X (0 : Int32) dX7_set_114 (by decide) ?_
            refine pf_X7_114 (pc := 115) X dX7_set_115 h_r28 (fun M29 g30 => ?_)
            have h_a0 := h_a0.mono g30
            have h_r7 := h_r7.mono g30
            refine aw_iload_n (pc := 118) X 0 dX7_set_118 rfl ?_
            exact aw_iret (pc := 119) X hr dX7_set_119 (Nat.le_of_ble_eq_true rfl) (Nat.le_of_ble_eq_true rfl)
          · refine aw_iconst (pc := 92) X (-1 : Int32) dX7_set_92 (by decide) ?_
            exact aw_iret (pc := 93) X hr dX7_set_93 (Nat.le_of_ble_eq_true rfl) (Nat.le_of_ble_eq_true rfl)
        · refine aw_iconst (pc := 92) X (-1 : Int32) dX7_set_92 (by decide) ?_
          exact aw_iret (pc := 93) X hr dX7_set_93 (Nat.le_of_ble_eq_true rfl) (Nat.le_of_ble_eq_true rfl)
  · refine aw_iconst (pc := 7) X (-1 : Int32) dX7_set_7 (by decide) ?_
    exact aw_iret (pc := 8) X hr dX7_set_8 (Nat.le_of_ble_eq_true rfl) (Nat.le_of_ble_eq_true rfl))
/-! ReportBlocksModel.set -/
def rm_X8_set : Room := { frames := 6, cells := 0, slots := 0, locals := 135 }
theorem hd_X8_set : jHd yX8_set 1 := by unfold jHd; decide +kernel
def f_X8_set_L144 : Nat → Int32 → JM → Option (Int32 × JM) := fun a0 v1 M => orf (gr M a0 26) fun r18 => if 0 ≤ v1 ∧ v1 < ln r18 then (sq (si M r18 v1 (gi M a0 8)) fun M19 => sq (si M19 a0 8 (0 : Int32)) fun M21 => orf (gr M21 a0 26) fun r23 => if 0 ≤ v1 ∧ v1 < ln r23 then (some ((gi M21 r23 v1), M21)) else none) else none
set_option maxRecDepth 10000 in
set_option maxHeartbeats 4000000 in
theorem t_X8_set_L144 {p : Program} {l : Launch} {e : Env} {s : State} {m : MethodId} {args : Array Value} {below : List Frame} {meth : Method} {c : Code} {D : va_G} {cs : JC} {b : Nat} (X : jX p c cX8_set 5 s m args RX8 D cs b meth s.heap) (hr : meth.sig.returnType = Option.some Jvm.ClassFile.FieldType.int) : ∀ (a0 : Nat) (v1 : Int32) (M : JM), oty M a0 18 → AWO p l e rm_X8_set s m args below meth c D cs b 5 s.heap (jE below D cs b evI args s rm_X8_set.cells rm_X8_set.slots) (f_X8_set_L144 a0 v1 M) M 0 0 [(0, .ref (b + a0)), (1, .int v1)] 144 [] := by
  intro a0 v1 M h_a0
  refine aw_callq (F' := orf (gr M a0 26) fun r18 => if 0 ≤ v1 ∧ v1 < ln r18 then (sq (si M r18 v1 (gi M a0 8)) fun M19 => sq (si M19 a0 8 (0 : Int32)) fun M21 => orf (gr M21 a0 26) fun r23 => if 0 ≤ v1 ∧ v1 < ln r23 then (some ((gi M21 r23 v1), M21)) else none) else none) rfl ?_
  refine aw_aload_n (pc := 144) X 0 dX8_set_144 rfl ?_
  refine gf_X8_60 (pc := 145) X dX8_set_145 h_a0 (fun r18 h_r18 => ?_)
  refine aw_iload_n (pc := 148) X 1 dX8_set_148 rfl ?_
  refine aw_aload_n (pc := 149) X 0 dX8_set_149 rfl ?_
  refine gf_X8_133 (pc := 150) X dX8_set_150 h_a0 ?_
  refine aw_iastQ (pc := 153) X dX8_set_153 h_r18 (fun M19 g20 => ?_)
  have h_a0 := h_a0.mono g20
  refine aw_aload_n (pc := 154) X 0 dX8_set_154 rfl ?_
  refine aw_iconst (pc := 155) X (0 : Int32) dX8_set_155 (by decide) ?_
  refine pf_X8_133 (pc := 156) X dX8_set_156 h_a0 (fun M21 g22 => ?_)
  have h_a0 := h_a0.mono g22
  refine aw_aload_n (pc := 159) X 0 dX8_set_159 rfl ?_
  refine gf_X8_60 (pc := 160) X dX8_set_160 h_a0 (fun r23 h_r23 => ?_)
  refine aw_iload_n (pc := 163) X 1 dX8_set_163 rfl ?_
  refine aw_iald (pc := 164) X dX8_set_164 h_r23 ?_
  exact aw_iret (pc := 165) X hr dX8_set_165 (Nat.le_of_ble_eq_true rfl) (Nat.le_of_ble_eq_true rfl)
theorem gf_X8_63 {ρ : Type} {l : Launch} {p : Program} {e : Env} {R : Room} {s : State} {m : MethodId} {args : Array Value} {below : List Frame} {meth : Method} {c : Code} {D : va_G} {cs : JC} {b nL : Nat} {H0 : Heap} {Qf : ρ × JM → State → Prop} {M : JM} {ks sl : Nat} {lv : List (Nat × Value)} {pc : Nat} {st : List Value} {cc : ByteArray} {k : Nat} (X : jX p c cc nL s m args RX8 D cs b meth H0) {K : Nat → Option (ρ × JM)} (hdg : decode cc pc = .ok (.getfield 63, 3)) (ho : oty M k 18) (kk : ∀ r : Nat, oty M r 1 → AWO p l e R s m args below meth c D cs b nL H0 Qf (K r) M ks sl lv (pc + 3) (.ref (b + r) :: st)) : AWO p l e R s m args below meth c D cs b nL H0 Qf (orf (gr M k 27) K) M ks sl lv pc (.ref (b + k) :: st) := aw_getR (ci := 8) (τ := 1) X 27 rfl gy_X8 (by decide) (by decide) rfl rfl (by decide) wf_X8_63 hdg ho kk
def f_X8_set_L110 : Nat → Nat → Int32 → Int32 → JM → Option (Int32 × JM)
  | 0, _, _, _, _ => none
  | n + 1, a0, v1, v4, M => if v4 < (gi M a0 8) then (orf (gr M a0 27) fun r24 => orf (gr M a0 7) fun r25 => if 0 ≤ v4 ∧ v4 < ln r25 then (if 0 ≤ (((60 : Int32) * v1) + v4) ∧ (((60 : Int32) * v1) + v4) < ln r24 then (sq (si M r24 (((60 : Int32) * v1) + v4) (gi M r25 v4)) fun M26 => sv (v4 + (1 : Int32)) fun i28 => (f_X8_set_L110 n) a0 v1 i28 M26) else none) else none) else (f_X8_set_L144 a0 v1 M)
set_option maxRecDepth 10000 in
set_option maxHeartbeats 4000000 in
theorem t_X8_set_L110 {p : Program} {l : Launch} {e : Env} {s : State} {m : MethodId} {args : Array Value} {below : List Frame} {meth : Method} {c : Code} {D : va_G} {cs : JC} {b : Nat} (X : jX p c cX8_set 5 s m args RX8 D cs b meth s.heap) (hr : meth.sig.returnType = Option.some Jvm.ClassFile.FieldType.int) : ∀ (n : Nat) (a0 : Nat) (v1 : Int32) (v4 : Int32) (M : JM), oty M a0 18 → AWO p l e rm_X8_set s m args below meth c D cs b 5 s.heap (jE below D cs b evI args s rm_X8_set.cells rm_X8_set.slots) (f_X8_set_L110 n a0 v1 v4 M) M 0 0 [(0, .ref (b + a0)), (1, .int v1), (4, .int v4)] 110 [] := by
  intro n
  induction n with
  | zero => intro a0 v1 v4 M h_a0; exact aw_none
  | succ n ih =>
    intro a0 v1 v4 M h_a0
    refine aw_callq (F' := if v4 < (gi M a0 8) then (orf (gr M a0 27) fun r24 => orf (gr M a0 7) fun r25 => if 0 ≤ v4 ∧ v4 < ln r25 then (if 0 ≤ (((60 : Int32) * v1) + v4) ∧ (((60 : Int32) * v1) + v4) < ln r24 then (sq (si M r24 (((60 : Int32) * v1) + v4) (gi M r25 v4)) fun M26 => sv (v4 + (1 : Int32)) fun i28 => (f_X8_set_L110 n) a0 v1 i28 M26) else none) else none) else (f_X8_set_L144 a0 v1 M)) rfl ?_
    refine aw_iload (pc := 110) X 2 dX8_set_110 rfl ?_
    refine aw_aload_n (pc := 112) X 0 dX8_set_112 rfl ?_
    refine gf_X8_133 (pc := 113) X dX8_set_113 h_a0 ?_
    refine aw_icmpge (pc := 116) X 144 dX8_set_116 (by decide) ?_ ?_
    · refine aw_aload_n (pc := 119) X 0 dX8_set_119 rfl ?_
      refine gf_X8_63 (pc := 120) X dX8_set_120 h_a0 (fun r24 h_r24 => ?_)
      refine aw_bipush (pc := 123) X (60 : Int32) dX8_set_123 (by decide) ?_
      refine aw_iload_n (pc := 125) X 1 dX8_set_125 rfl ?_
      refine aw_imul (pc := 126) X dX8_set_126 ?_
      refine aw_iload (pc := 127) X 2 dX8_set_127 rfl ?_
      refine aw_iadd (pc := 129) X dX8_set_129 ?_
      refine aw_aload_n (pc := 130) X 0 dX8_set_130 rfl ?_
      refine gf_X8_28 (pc := 131) X dX8_set_131 h_a0 (fun r25 h_r25 => ?_)
      refine aw_iload (pc := 134) X 2 dX8_set_134 rfl ?_
      refine aw_iald (pc := 136) X dX8_set_136 h_r25 ?_
      refine aw_iastQ (pc := 137) X dX8_set_137 h_r24 (fun M26 g27 => ?_)
      have h_a0 := h_a0.mono g27
      refine aw_iincV (pc := 138) X (fun y => [(4, .int y), (0, .ref (b + a0)), (1, .int v1)]) 2 (v := (v4 + (1 : Int32))) dX8_set_138 rfl rfl (by decide) (fun _ => rfl) (fun i28 => ?_)
      refine aw_goto (pc := 141) X 110 dX8_set_141 (by decide) ?_
      refine aw_sub [1, 2, 0] rfl ?_
      exact ih a0 v1 i28 M26 h_a0
    · refine aw_sub [0, 1] rfl ?_
      exact t_X8_set_L144 X hr a0 v1 M h_a0
def f_X8_set_L95 : Nat → Int32 → Int32 → Int32 → JM → Option (Int32 × JM) := fun a0 v1 v2 u0 M => sv u0 fun i14 => sq (si M a0 11 v2) fun M15 => if i14 = 0 then (some ((-1 : Int32), M15)) else (sv (0 : Int32) fun i17 => f_X8_set_L110 FU a0 v1 i17 M15)
set_option maxRecDepth 10000 in
set_option maxHeartbeats 4000000 in
theorem t_X8_set_L95 {p : Program} {l : Launch} {e : Env} {s : State} {m : MethodId} {args : Array Value} {below : List Frame} {meth : Method} {c : Code} {D : va_G} {cs : JC} {b : Nat} (X : jX p c cX8_set 5 s m args RX8 D cs b meth s.heap) (hr : meth.sig.returnType = Option.some Jvm.ClassFile.FieldType.int) : ∀ (a0 : Nat) (v1 : Int32) (v2 : Int32) (u0 : Int32) (M : JM), oty M a0 18 → AWO p l e rm_X8_set s m args below meth c D cs b 5 s.heap (jE below D cs b evI args s rm_X8_set.cells rm_X8_set.slots) (f_X8_set_L95 a0 v1 v2 u0 M) M 0 0 [(0, .ref (b + a0)), (1, .int v1), (2, .int v2)] 95 [.int u0] := by
  intro a0 v1 v2 u0 M h_a0
  refine aw_callq (F' := sv u0 fun i14 => sq (si M a0 11 v2) fun M15 => if i14 = 0 then (some ((-1 : Int32), M15)) else (sv (0 : Int32) fun i17 => f_X8_set_L110 FU a0 v1 i17 M15)) rfl ?_
  refine aw_istoreV_n (pc := 95) X (fun y => [(3, .int y), (0, .ref (b + a0)), (1, .int v1), (2, .int v2)]) dX8_set_95 (by decide) (fun _ => rfl) (fun i14 => ?_)
  refine aw_aload_n (pc := 96) X 1 dX8_set_96 rfl ?_
  refine aw_iload_n (pc := 97) X 3 dX8_set_97 rfl ?_
  refine pf_X8_136 (pc := 98) X dX8_set_98 h_a0 (fun M15 g16 => ?_)
  have h_a0 := h_a0.mono g16
  refine aw_iload_n (pc := 101) X 0 dX8_set_101 rfl ?_
  refine aw_ifne (pc := 102) X 107 dX8_set_102 (by decide) ?_ ?_
  · refine aw_iconst (pc := 105) X (-1 : Int32) dX8_set_105 (by decide) ?_
    exact aw_iret (pc := 106) X hr dX8_set_106 (Nat.le_of_ble_eq_true rfl) (Nat.le_of_ble_eq_true rfl)
  · refine aw_iconst (pc := 107) X (0 : Int32) dX8_set_107 (by decide) ?_
    refine aw_istoreV (pc := 108) X (fun y => [(4, .int y), (3, .int i14), (0, .ref (b + a0)), (1, .int v1), (2, .int v2)]) dX8_set_108 (by decide) (fun _ => rfl) (fun i17 => ?_)
    refine aw_sub [2, 3, 0] rfl ?_
    exact t_X8_set_L110 X hr FU a0 v1 i17 M15 h_a0
def f_X8_set_L94 : Nat → Int32 → Int32 → JM → Option (Int32 × JM) := fun a0 v1 v2 M => f_X8_set_L95 a0 v1 v2 (0 : Int32) M
set_option maxRecDepth 10000 in
set_option maxHeartbeats 4000000 in
theorem t_X8_set_L94 {p : Program} {l : Launch} {e : Env} {s : State} {m : MethodId} {args : Array Value} {below : List Frame} {meth : Method} {c : Code} {D : va_G} {cs : JC} {b : Nat} (X : jX p c cX8_set 5 s m args RX8 D cs b meth s.heap) (hr : meth.sig.returnType = Option.some Jvm.ClassFile.FieldType.int) : ∀ (a0 : Nat) (v1 : Int32) (v2 : Int32) (M : JM), oty M a0 18 → AWO p l e rm_X8_set s m args below meth c D cs b 5 s.heap (jE below D cs b evI args s rm_X8_set.cells rm_X8_set.slots) (f_X8_set_L94 a0 v1 v2 M) M 0 0 [(0, .ref (b + a0)), (1, .int v1), (2, .int v2)] 94 [] := by
  intro a0 v1 v2 M h_a0
  refine aw_callq (F' := f_X8_set_L95 a0 v1 v2 (0 : Int32) M) rfl ?_
  refine aw_iconst (pc := 94) X (0 : Int32) dX8_set_94 (by decide) ?_
  refine aw_sub [0, 1, 2] rfl ?_
  exact t_X8_set_L95 X hr a0 v1 v2 (0 : Int32) M h_a0
def f_X8_set (a0 : Nat) (v1 : Int32) (M : JM) : Option (Int32 × JM) := ob (f_X8_isPlace v1 M) fun r3 M1 => if r3 = true then (if (gi M1 a0 25) < 0 then (some ((-2 : Int32), M1)) else (orf (gr M1 a0 2) fun r4 => if 0 ≤ (((22 : Int32) * (gi M1 a0 25)) + v1) ∧ (((22 : Int32) * (gi M1 a0 25)) + v1) < ln r4 then (if (gi M1 r4 (((22 : Int32) * (gi M1 a0 25)) + v1)) = (-9 : Int32) then (some ((-1 : Int32), M1)) else (sv (gi M1 a0 11) fun i5 => sq (si M1 a0 11 (0 : Int32)) fun M6 => sq (si M6 a0 9 (0 : Int32)) fun M8 => sq (si M8 a0 10 (gi M8 a0 8)) fun M10 => ob (f_X8_readItem a0 (gi M10 a0 25) v1 M10) fun _ M12 => if (gi M12 a0 11) = 0 then (if (gi M12 a0 9) = (gi M12 a0 8) then (f_X8_set_L95 a0 v1 i5 (1 : Int32) M12) else (f_X8_set_L94 a0 v1 i5 M12)) else (f_X8_set_L94 a0 v1 i5 M12))) else none)) else (some ((-1 : Int32), M1))
set_option maxRecDepth 10000 in
set_option maxHeartbeats 4000000 in
theorem t_X8_set {l : Launch} {D : va_G} {cs : JC} {b : Nat} (a0 : Nat) (v1 : Int32) (M : JM) (h_a0 : oty M a0 18) : ∀ q, f_X8_set a0 v1 M = some q → CTy l yX8_set (.code yX8_set cX8_set 5 (Option.some Jvm.ClassFile.FieldType.int) :: GB) rm_X8_set D cs b evI [.ref (b + a0), .int v1] M rm_X8_set.cells rm_X8_set.slots q := fun q hq => ct_of [(0, .ref (b + a0)), (1, .int v1)] rfl rfl (Nat.le_of_ble_eq_true rfl) hq (fun p e s m args below meth c X hr hin => by
  refine aw_callq (F' := ob (f_X8_isPlace v1 M) fun r3 M1 => if r3 = true then (if (gi M1 a0 25) < 0 then (some ((-2 : Int32), M1)) else (orf (gr M1 a0 2) fun r4 => if 0 ≤ (((22 : Int32) * (gi M1 a0 25)) + v1) ∧ (((22 : Int32) * (gi M1 a0 25)) + v1) < ln r4 then (if (gi M1 r4 (((22 : Int32) * (gi M1 a0 25)) + v1)) = (-9 : Int32) then (some ((-1 : Int32), M1)) else (sv (gi M1 a0 11) fun i5 => sq (si M1 a0 11 (0 : Int32)) fun M6 => sq (si M6 a0 9 (0 : Int32)) fun M8 => sq (si M8 a0 10 (gi M8 a0 8)) fun M10 => ob (f_X8_readItem a0 (gi M10 a0 25) v1 M10) fun _ M12 => if (gi M12 a0 11) = 0 then (if (gi M12 a0 9) = (gi M12 a0 8) then (f_X8_set_L95 a0 v1 i5 (1 : Int32) M12) else (f_X8_set_L94 a0 v1 i5 M12)) else (f_X8_set_L94 a0 v1 i5 M12))) else none)) else (some ((-1 : Int32), M1))) rfl ?_
  refine aw_iload_n (pc := 0) X 1 dX8_set_0 rfl ?_
  refine cl_X8_124 (pc := 1) X ⟨Nat.le_of_ble_eq_true rfl, Nat.le_of_ble_eq_true rfl⟩ (Nat.le_of_ble_eq_true rfl) (ks2 := 0) (sl2 := 0) rfl rfl ⟨(Nat.le_of_ble_eq_true rfl), (Nat.le_of_ble_eq_true rfl)⟩ dX8_set_1  (fun r3 M1 g2 => ?_)
  have h_a0 := h_a0.mono g2
  refine aw_ifneB (pc := 4) X 9 dX8_set_4 (by decide) ?_ ?_
  · refine aw_aload_n (pc := 9) X 0 dX8_set_9 rfl ?_
    refine gf_X8_56 (pc := 10) X dX8_set_10 h_a0 ?_
    refine aw_ifge (pc := 13) X 19 dX8_set_13 (by decide) ?_ ?_
    · refine aw_bipush (pc := 16) X (-2 : Int32) dX8_set_16 (by decide) ?_
      exact aw_iret (pc := 18) X hr dX8_set_18 (Nat.le_of_ble_eq_true rfl) (Nat.le_of_ble_eq_true rfl)
    · refine aw_aload_n (pc := 19) X 0 dX8_set_19 rfl ?_
      refine gf_X8_13 (pc := 20) X dX8_set_20 h_a0 (fun r4 h_r4 => ?_)
      refine aw_bipush (pc := 23) X (22 : Int32) dX8_set_23 (by decide) ?_
      refine aw_aload_n (pc := 25) X 0 dX8_set_25 rfl ?_
      refine gf_X8_56 (pc := 26) X dX8_set_26 h_a0 ?_
      refine aw_imul (pc := 29) X dX8_set_29 ?_
      refine aw_iload_n (pc := 30) X 1 dX8_set_30 rfl ?_
      refine aw_iadd (pc := 31) X dX8_set_31 ?_
      refine aw_iald (pc := 32) X dX8_set_32 h_r4 ?_
      refine aw_bipush (pc := 33) X (-9 : Int32) dX8_set_33 (by decide) ?_
      refine aw_icmpne (pc := 35) X 40 dX8_set_35 (by decide) ?_ ?_
      · refine aw_iconst (pc := 38) X (-1 : Int32) dX8_set_38 (by decide) ?_
        exact aw_iret (pc := 39) X hr dX8_set_39 (Nat.le_of_ble_eq_true rfl) (Nat.le_of_ble_eq_true rfl)
      · refine aw_aload_n (pc := 40) X 0 dX8_set_40 rfl ?_
        refine gf_X8_136 (pc := 41) X dX8_set_41 h_a0 ?_
        refine aw_istoreV_n (pc := 44) X (fun y => [(2, .int y), (0, .ref (b + a0)), (1, .int v1)]) dX8_set_44 (by decide) (fun _ => rfl) (fun i5 => ?_)
        refine aw_aload_n (pc := 45) X 1 dX8_set_45 rfl ?_
        refine aw_iconst (pc := 46) X (0 : Int32) dX8_set_46 (by decide) ?_
        refine pf_X8_136 (pc := 47) X dX8_set_47 h_a0 (fun M6 g7 => ?_)
        have h_a0 := h_a0.mono g7
        refine aw_aload_n (pc := 50) X 1 dX8_set_50 rfl ?_
        refine aw_iconst (pc := 51) X (0 : Int32) dX8_set_51 (by decide) ?_
        refine pf_X8_142 (pc := 52) X dX8_set_52 h_a0 (fun M8 g9 => ?_)
        have h_a0 := h_a0.mono g9
        refine aw_aload_n (pc := 55) X 1 dX8_set_55 rfl ?_
        refine aw_aload_n (pc := 56) X 1 dX8_set_56 rfl ?_
        refine gf_X8_133 (pc := 57) X dX8_set_57 h_a0 ?_
        refine pf_X8_145 (pc := 60) X dX8_set_60 h_a0 (fun M10 g11 => ?_)
        have h_a0 := h_a0.mono g11
        refine aw_aload_n (pc := 63) X 1 dX8_set_63 rfl ?_
        refine aw_aload_n (pc := 64) X 1 dX8_set_64 rfl ?_
        refine gf_X8_56 (pc := 65) X dX8_set_65 h_a0 ?_
        refine aw_iload_n (pc := 68) X 2 dX8_set_68 rfl ?_
        refine cl_X8_181 (pc := 69) X ⟨Nat.le_of_ble_eq_true rfl, Nat.le_of_ble_eq_true rfl⟩ (Nat.le_of_ble_eq_true rfl) (ks2 := 0) (sl2 := 0) rfl rfl ⟨(Nat.le_of_ble_eq_true rfl), (Nat.le_of_ble_eq_true rfl)⟩ dX8_set_69 h_a0 (fun M12 g13 => ?_)
        have h_a0 := h_a0.mono g13
        refine aw_aload_n (pc := 72) X 1 dX8_set_72 rfl ?_
        refine gf_X8_136 (pc := 73) X dX8_set_73 h_a0 ?_
        refine aw_ifne (pc := 76) X 94 dX8_set_76 (by decide) ?_ ?_
        · refine aw_aload_n (pc := 79) X 1 dX8_set_79 rfl ?_
          refine gf_X8_142 (pc := 80) X dX8_set_80 h_a0 ?_
          refine aw_aload_n (pc := 83) X 1 dX8_set_83 rfl ?_
          refine gf_X8_133 (pc := 84) X dX8_set_84 h_a0 ?_
          refine aw_icmpne (pc := 87) X 94 dX8_set_87 (by decide) ?_ ?_
          · refine aw_iconst (pc := 90) X (1 : Int32) dX8_set_90 (by decide) ?_
            refine aw_goto (pc := 91) X 95 dX8_set_91 (by decide) ?_
            refine aw_sub [1, 2, 0] rfl ?_
            exact t_X8_set_L95 X hr a0 v1 i5 (1 : Int32) M12 h_a0
          · refine aw_sub [1, 2, 0] rfl ?_
            exact t_X8_set_L94 X hr a0 v1 i5 M12 h_a0
        · refine aw_sub [1, 2, 0] rfl ?_
          exact t_X8_set_L94 X hr a0 v1 i5 M12 h_a0
  · refine aw_iconst (pc := 7) X (-1 : Int32) dX8_set_7 (by decide) ?_
    exact aw_iret (pc := 8) X hr dX8_set_8 (Nat.le_of_ble_eq_true rfl) (Nat.le_of_ble_eq_true rfl))
/-! ReportBlocks.take -/
def rm_X7_take : Room := { frames := 1, cells := 0, slots := 0, locals := 20 }
theorem hd_X7_take : jHd yX7_take 1 := by unfold jHd; decide +kernel
theorem gf_X7_196 {ρ : Type} {l : Launch} {p : Program} {e : Env} {R : Room} {s : State} {m : MethodId} {args : Array Value} {below : List Frame} {meth : Method} {c : Code} {D : va_G} {cs : JC} {b nL : Nat} {H0 : Heap} {Qf : ρ × JM → State → Prop} {M : JM} {ks sl : Nat} {lv : List (Nat × Value)} {pc : Nat} {st : List Value} {cc : ByteArray} {k : Nat} (X : jX p c cc nL s m args RX7 D cs b meth H0) {K : Nat → Option (ρ × JM)} (hdg : decode cc pc = .ok (.getfield 196, 3)) (ho : oty M k 12) (kk : ∀ r : Nat, oty M r 1 → AWO p l e R s m args below meth c D cs b nL H0 Qf (K r) M ks sl lv (pc + 3) (.ref (b + r) :: st)) : AWO p l e R s m args below meth c D cs b nL H0 Qf (orf (gr M k 2) K) M ks sl lv pc (.ref (b + k) :: st) := aw_getR (ci := 2) (τ := 1) X 2 rfl gy_X2 (by decide) (by decide) rfl rfl (by decide) wf_X7_196 hdg ho kk
def f_X7_take (a0 : Nat) (v1 : Int32) (M : JM) : Option (Int32 × JM) := ob (f_X7_isPlace v1 M) fun r3 M1 => if r3 = true then (orf (gr M1 a0 6) fun r4 => if (gi M1 r4 0) = (-9 : Int32) then (some ((-2 : Int32), M1)) else (orf (gr M1 a0 6) fun r5 => orf (gr M1 r5 2) fun r6 => if 0 ≤ v1 ∧ v1 < ln r6 then (sv (gi M1 r6 v1) fun i7 => if i7 = 0 then (some ((-1 : Int32), M1)) else (orf (gr M1 a0 6) fun r8 => orf (gr M1 r8 2) fun r9 => if 0 ≤ v1 ∧ v1 < ln r9 then (sq (si M1 r9 v1 (0 : Int32)) fun M10 => some (i7, M10)) else none)) else none)) else (some ((-1 : Int32), M1))
set_option maxRecDepth 10000 in
set_option maxHeartbeats 4000000 in
theorem t_X7_take {l : Launch} {D : va_G} {cs : JC} {b : Nat} (a0 : Nat) (v1 : Int32) (M : JM) (h_a0 : oty M a0 17) : ∀ q, f_X7_take a0 v1 M = some q → CTy l yX7_take (.code yX7_take cX7_take 3 (Option.some Jvm.ClassFile.FieldType.int) :: GB) rm_X7_take D cs b evI [.ref (b + a0), .int v1] M rm_X7_take.cells rm_X7_take.slots q := fun q hq => ct_of [(0, .ref (b + a0)), (1, .int v1)] rfl rfl (Nat.le_of_ble_eq_true rfl) hq (fun p e s m args below meth c X hr hin => by
  refine aw_callq (F' := ob (f_X7_isPlace v1 M) fun r3 M1 => if r3 = true then (orf (gr M1 a0 6) fun r4 => if (gi M1 r4 0) = (-9 : Int32) then (some ((-2 : Int32), M1)) else (orf (gr M1 a0 6) fun r5 => orf (gr M1 r5 2) fun r6 => if 0 ≤ v1 ∧ v1 < ln r6 then (sv (gi M1 r6 v1) fun i7 => if i7 = 0 then (some ((-1 : Int32), M1)) else (orf (gr M1 a0 6) fun r8 => orf (gr M1 r8 2) fun r9 => if 0 ≤ v1 ∧ v1 < ln r9 then (sq (si M1 r9 v1 (0 : Int32)) fun M10 => some (i7, M10)) else none)) else none)) else (some ((-1 : Int32), M1))) rfl ?_
  refine aw_iload_n (pc := 0) X 1 dX7_take_0 rfl ?_
  refine cl_X7_70 (pc := 1) X ⟨Nat.le_of_ble_eq_true rfl, Nat.le_of_ble_eq_true rfl⟩ (Nat.le_of_ble_eq_true rfl) (ks2 := 0) (sl2 := 0) rfl rfl ⟨(Nat.le_of_ble_eq_true rfl), (Nat.le_of_ble_eq_true rfl)⟩ dX7_take_1  (fun r3 M1 g2 => ?_)
  have h_a0 := h_a0.mono g2
  refine aw_ifneB (pc := 4) X 9 dX7_take_4 (by decide) ?_ ?_
  · refine aw_aload_n (pc := 9) X 0 dX7_take_9 rfl ?_
    refine gf_X7_44 (pc := 10) X dX7_take_10 h_a0 (fun r4 h_r4 => ?_)
    refine gf_X7_182 (pc := 13) X dX7_take_13 h_r4 ?_
    refine aw_bipush (pc := 16) X (-9 : Int32) dX7_take_16 (by decide) ?_
    refine aw_icmpne (pc := 18) X 24 dX7_take_18 (by decide) ?_ ?_
    · refine aw_bipush (pc := 21) X (-2 : Int32) dX7_take_21 (by decide) ?_
      exact aw_iret (pc := 23) X hr dX7_take_23 (Nat.le_of_ble_eq_true rfl) (Nat.le_of_ble_eq_true rfl)
    · refine aw_aload_n (pc := 24) X 0 dX7_take_24 rfl ?_
      refine gf_X7_44 (pc := 25) X dX7_take_25 h_a0 (fun r5 h_r5 => ?_)
      refine gf_X7_196 (pc := 28) X dX7_take_28 h_r5 (fun r6 h_r6 => ?_)
      refine aw_iload_n (pc := 31) X 1 dX7_take_31 rfl ?_
      refine aw_iald (pc := 32) X dX7_take_32 h_r6 ?_
      refine aw_istoreV_n (pc := 33) X (fun y => [(2, .int y), (0, .ref (b + a0)), (1, .int v1)]) dX7_take_33 (by decide) (fun _ => rfl) (fun i7 => ?_)
      refine aw_iload_n (pc := 34) X 0 dX7_take_34 rfl ?_
      refine aw_ifne (pc := 35) X 40 dX7_take_35 (by decide) ?_ ?_
      · refine aw_iconst (pc := 38) X (-1 : Int32) dX7_take_38 (by decide) ?_
        exact aw_iret (pc := 39) X hr dX7_take_39 (Nat.le_of_ble_eq_true rfl) (Nat.le_of_ble_eq_true rfl)
      · refine aw_aload_n (pc := 40) X 1 dX7_take_40 rfl ?_
        refine gf_X7_44 (pc := 41) X dX7_take_41 h_a0 (fun r8 h_r8 => ?_)
        refine gf_X7_196 (pc := 44) X dX7_take_44 h_r8 (fun r9 h_r9 => ?_)
        refine aw_iload_n (pc := 47) X 2 dX7_take_47 rfl ?_
        refine aw_iconst (pc := 48) X (0 : Int32) dX7_take_48 (by decide) ?_
        refine aw_iastQ (pc := 49) X dX7_take_49 h_r9 (fun M10 g11 => ?_)
        have h_a0 := h_a0.mono g11
        refine aw_iload_n (pc := 50) X 0 dX7_take_50 rfl ?_
        exact aw_iret (pc := 51) X hr dX7_take_51 (Nat.le_of_ble_eq_true rfl) (Nat.le_of_ble_eq_true rfl)
  · refine aw_iconst (pc := 7) X (-1 : Int32) dX7_take_7 (by decide) ?_
    exact aw_iret (pc := 8) X hr dX7_take_8 (Nat.le_of_ble_eq_true rfl) (Nat.le_of_ble_eq_true rfl))
/-! ReportBlocksModel.take -/
def rm_X8_take : Room := { frames := 2, cells := 0, slots := 0, locals := 42 }
theorem hd_X8_take : jHd yX8_take 1 := by unfold jHd; decide +kernel
def f_X8_take (a0 : Nat) (v1 : Int32) (M : JM) : Option (Int32 × JM) := ob (f_X8_isPlace v1 M) fun r3 M1 => if r3 = true then (if (gi M1 a0 25) < 0 then (some ((-2 : Int32), M1)) else (orf (gr M1 a0 26) fun r4 => if 0 ≤ v1 ∧ v1 < ln r4 then (if (gi M1 r4 v1) = 0 then (some ((-1 : Int32), M1)) else (orf (gr M1 a0 26) fun r5 => if 0 ≤ v1 ∧ v1 < ln r5 then (sv (gi M1 r5 v1) fun i6 => orf (gr M1 a0 26) fun r7 => if 0 ≤ v1 ∧ v1 < ln r7 then (sq (si M1 r7 v1 (0 : Int32)) fun M8 => some (i6, M8)) else none) else none)) else none)) else (some ((-1 : Int32), M1))
set_option maxRecDepth 10000 in
set_option maxHeartbeats 4000000 in
theorem t_X8_take {l : Launch} {D : va_G} {cs : JC} {b : Nat} (a0 : Nat) (v1 : Int32) (M : JM) (h_a0 : oty M a0 18) : ∀ q, f_X8_take a0 v1 M = some q → CTy l yX8_take (.code yX8_take cX8_take 3 (Option.some Jvm.ClassFile.FieldType.int) :: GB) rm_X8_take D cs b evI [.ref (b + a0), .int v1] M rm_X8_take.cells rm_X8_take.slots q := fun q hq => ct_of [(0, .ref (b + a0)), (1, .int v1)] rfl rfl (Nat.le_of_ble_eq_true rfl) hq (fun p e s m args below meth c X hr hin => by
  refine aw_callq (F' := ob (f_X8_isPlace v1 M) fun r3 M1 => if r3 = true then (if (gi M1 a0 25) < 0 then (some ((-2 : Int32), M1)) else (orf (gr M1 a0 26) fun r4 => if 0 ≤ v1 ∧ v1 < ln r4 then (if (gi M1 r4 v1) = 0 then (some ((-1 : Int32), M1)) else (orf (gr M1 a0 26) fun r5 => if 0 ≤ v1 ∧ v1 < ln r5 then (sv (gi M1 r5 v1) fun i6 => orf (gr M1 a0 26) fun r7 => if 0 ≤ v1 ∧ v1 < ln r7 then (sq (si M1 r7 v1 (0 : Int32)) fun M8 => some (i6, M8)) else none) else none)) else none)) else (some ((-1 : Int32), M1))) rfl ?_
  refine aw_iload_n (pc := 0) X 1 dX8_take_0 rfl ?_
  refine cl_X8_124 (pc := 1) X ⟨Nat.le_of_ble_eq_true rfl, Nat.le_of_ble_eq_true rfl⟩ (Nat.le_of_ble_eq_true rfl) (ks2 := 0) (sl2 := 0) rfl rfl ⟨(Nat.le_of_ble_eq_true rfl), (Nat.le_of_ble_eq_true rfl)⟩ dX8_take_1  (fun r3 M1 g2 => ?_)
  have h_a0 := h_a0.mono g2
  refine aw_ifneB (pc := 4) X 9 dX8_take_4 (by decide) ?_ ?_
  · refine aw_aload_n (pc := 9) X 0 dX8_take_9 rfl ?_
    refine gf_X8_56 (pc := 10) X dX8_take_10 h_a0 ?_
    refine aw_ifge (pc := 13) X 19 dX8_take_13 (by decide) ?_ ?_
    · refine aw_bipush (pc := 16) X (-2 : Int32) dX8_take_16 (by decide) ?_
      exact aw_iret (pc := 18) X hr dX8_take_18 (Nat.le_of_ble_eq_true rfl) (Nat.le_of_ble_eq_true rfl)
    · refine aw_aload_n (pc := 19) X 0 dX8_take_19 rfl ?_
      refine gf_X8_60 (pc := 20) X dX8_take_20 h_a0 (fun r4 h_r4 => ?_)
      refine aw_iload_n (pc := 23) X 1 dX8_take_23 rfl ?_
      refine aw_iald (pc := 24) X dX8_take_24 h_r4 ?_
      refine aw_ifne (pc := 25) X 30 dX8_take_25 (by decide) ?_ ?_
      · refine aw_iconst (pc := 28) X (-1 : Int32) dX8_take_28 (by decide) ?_
        exact aw_iret (pc := 29) X hr dX8_take_29 (Nat.le_of_ble_eq_true rfl) (Nat.le_of_ble_eq_true rfl)
      · refine aw_aload_n (pc := 30) X 0 dX8_take_30 rfl ?_
        refine gf_X8_60 (pc := 31) X dX8_take_31 h_a0 (fun r5 h_r5 => ?_)
        refine aw_iload_n (pc := 34) X 1 dX8_take_34 rfl ?_
        refine aw_iald (pc := 35) X dX8_take_35 h_r5 ?_
        refine aw_istoreV_n (pc := 36) X (fun y => [(2, .int y), (0, .ref (b + a0)), (1, .int v1)]) dX8_take_36 (by decide) (fun _ => rfl) (fun i6 => ?_)
        refine aw_aload_n (pc := 37) X 1 dX8_take_37 rfl ?_
        refine gf_X8_60 (pc := 38) X dX8_take_38 h_a0 (fun r7 h_r7 => ?_)
        refine aw_iload_n (pc := 41) X 2 dX8_take_41 rfl ?_
        refine aw_iconst (pc := 42) X (0 : Int32) dX8_take_42 (by decide) ?_
        refine aw_iastQ (pc := 43) X dX8_take_43 h_r7 (fun M8 g9 => ?_)
        have h_a0 := h_a0.mono g9
        refine aw_iload_n (pc := 44) X 0 dX8_take_44 rfl ?_
        exact aw_iret (pc := 45) X hr dX8_take_45 (Nat.le_of_ble_eq_true rfl) (Nat.le_of_ble_eq_true rfl)
  · refine aw_iconst (pc := 7) X (-1 : Int32) dX8_take_7 (by decide) ?_
    exact aw_iret (pc := 8) X hr dX8_take_8 (Nat.le_of_ble_eq_true rfl) (Nat.le_of_ble_eq_true rfl))
/-! ReportBlocks$OwnRecord.lastPlace -/
def rm_X2_lastPlace : Room := { frames := 0, cells := 0, slots := 0, locals := 0 }
theorem hd_X2_lastPlace : jHd yX2_lastPlace 0 := by unfold jHd; decide +kernel
def f_X2_lastPlace_L3 : Nat → Nat → Int32 → JM → Option (Int32 × JM)
  | 0, _, _, _ => none
  | n + 1, a0, v1, M => if v1 < (1 : Int32) then (some ((0 : Int32), M)) else (orf (gr M a0 2) fun r2 => if 0 ≤ v1 ∧ v1 < ln r2 then (if (gi M r2 v1) = 0 then (sv (v1 + (-1 : Int32)) fun i3 => (f_X2_lastPlace_L3 n) a0 i3 M) else (some (v1, M))) else none)
set_option maxRecDepth 10000 in
set_option maxHeartbeats 4000000 in
theorem t_X2_lastPlace_L3 {p : Program} {l : Launch} {e : Env} {s : State} {m : MethodId} {args : Array Value} {below : List Frame} {meth : Method} {c : Code} {D : va_G} {cs : JC} {b : Nat} (X : jX p c cX2_lastPlace 2 s m args RX2 D cs b meth s.heap) (hr : meth.sig.returnType = Option.some Jvm.ClassFile.FieldType.int) : ∀ (n : Nat) (a0 : Nat) (v1 : Int32) (M : JM), oty M a0 12 → AWO p l e rm_X2_lastPlace s m args below meth c D cs b 2 s.heap (jE below D cs b evI args s rm_X2_lastPlace.cells rm_X2_lastPlace.slots) (f_X2_lastPlace_L3 n a0 v1 M) M 0 0 [(0, .ref (b + a0)), (1, .int v1)] 3 [] := by
  intro n
  induction n with
  | zero => intro a0 v1 M h_a0; exact aw_none
  | succ n ih =>
    intro a0 v1 M h_a0
    refine aw_callq (F' := if v1 < (1 : Int32) then (some ((0 : Int32), M)) else (orf (gr M a0 2) fun r2 => if 0 ≤ v1 ∧ v1 < ln r2 then (if (gi M r2 v1) = 0 then (sv (v1 + (-1 : Int32)) fun i3 => (f_X2_lastPlace_L3 n) a0 i3 M) else (some (v1, M))) else none)) rfl ?_
    refine aw_iload_n (pc := 3) X 1 dX2_lastPlace_3 rfl ?_
    refine aw_iconst (pc := 4) X (1 : Int32) dX2_lastPlace_4 (by decide) ?_
    refine aw_icmplt (pc := 5) X 25 dX2_lastPlace_5 (by decide) ?_ ?_
    · refine aw_iconst (pc := 25) X (0 : Int32) dX2_lastPlace_25 (by decide) ?_
      exact aw_iret (pc := 26) X hr dX2_lastPlace_26 (Nat.le_of_ble_eq_true rfl) (Nat.le_of_ble_eq_true rfl)
    · refine aw_aload_n (pc := 8) X 0 dX2_lastPlace_8 rfl ?_
      refine gf_X2_19 (pc := 9) X dX2_lastPlace_9 h_a0 (fun r2 h_r2 => ?_)
      refine aw_iload_n (pc := 12) X 1 dX2_lastPlace_12 rfl ?_
      refine aw_iald (pc := 13) X dX2_lastPlace_13 h_r2 ?_
      refine aw_ifeq (pc := 14) X 19 dX2_lastPlace_14 (by decide) ?_ ?_
      · refine aw_iincV (pc := 19) X (fun y => [(1, .int y), (0, .ref (b + a0))]) 1 (v := (v1 + (-1 : Int32))) dX2_lastPlace_19 rfl rfl (by decide) (fun _ => rfl) (fun i3 => ?_)
        refine aw_goto (pc := 22) X 3 dX2_lastPlace_22 (by decide) ?_
        refine aw_sub [1, 0] rfl ?_
        exact ih a0 i3 M h_a0
      · refine aw_iload_n (pc := 17) X 1 dX2_lastPlace_17 rfl ?_
        exact aw_iret (pc := 18) X hr dX2_lastPlace_18 (Nat.le_of_ble_eq_true rfl) (Nat.le_of_ble_eq_true rfl)
def f_X2_lastPlace (a0 : Nat) (M : JM) : Option (Int32 × JM) := sv (21 : Int32) fun i1 => f_X2_lastPlace_L3 FU a0 i1 M
set_option maxRecDepth 10000 in
set_option maxHeartbeats 4000000 in
theorem t_X2_lastPlace {l : Launch} {D : va_G} {cs : JC} {b : Nat} (a0 : Nat) (M : JM) (h_a0 : oty M a0 12) : ∀ q, f_X2_lastPlace a0 M = some q → CTy l yX2_lastPlace (.code yX2_lastPlace cX2_lastPlace 2 (Option.some Jvm.ClassFile.FieldType.int) :: GB) rm_X2_lastPlace D cs b evI [.ref (b + a0)] M rm_X2_lastPlace.cells rm_X2_lastPlace.slots q := fun q hq => ct_of [(0, .ref (b + a0))] rfl rfl (Nat.le_of_ble_eq_true rfl) hq (fun p e s m args below meth c X hr hin => by
  refine aw_callq (F' := sv (21 : Int32) fun i1 => f_X2_lastPlace_L3 FU a0 i1 M) rfl ?_
  refine aw_bipush (pc := 0) X (21 : Int32) dX2_lastPlace_0 (by decide) ?_
  refine aw_istoreV_n (pc := 2) X (fun y => [(1, .int y), (0, .ref (b + a0))]) dX2_lastPlace_2 (by decide) (fun _ => rfl) (fun i1 => ?_)
  refine aw_sub [1, 0] rfl ?_
  exact t_X2_lastPlace_L3 X hr FU a0 i1 M h_a0)
/-! ReportBlocks$OwnRecord.itemBytes -/
def rm_X2_itemBytes : Room := { frames := 0, cells := 0, slots := 0, locals := 0 }
theorem hd_X2_itemBytes : jHd yX2_itemBytes 0 := by unfold jHd; decide +kernel
def f_X2_itemBytes_L4 : Nat → Nat → Int32 → Int32 → JM → Option (Int32 × JM)
  | 0, _, _, _, _ => none
  | n + 1, a0, v1, v2, M => if (21 : Int32) < v2 then (some (v1, M)) else (orf (gr M a0 2) fun r3 => if 0 ≤ v2 ∧ v2 < ln r3 then (sv (v1 + (gi M r3 v2)) fun i4 => sv (v2 + (1 : Int32)) fun i5 => (f_X2_itemBytes_L4 n) a0 i4 i5 M) else none)
set_option maxRecDepth 10000 in
set_option maxHeartbeats 4000000 in
theorem t_X2_itemBytes_L4 {p : Program} {l : Launch} {e : Env} {s : State} {m : MethodId} {args : Array Value} {below : List Frame} {meth : Method} {c : Code} {D : va_G} {cs : JC} {b : Nat} (X : jX p c cX2_itemBytes 3 s m args RX2 D cs b meth s.heap) (hr : meth.sig.returnType = Option.some Jvm.ClassFile.FieldType.int) : ∀ (n : Nat) (a0 : Nat) (v1 : Int32) (v2 : Int32) (M : JM), oty M a0 12 → AWO p l e rm_X2_itemBytes s m args below meth c D cs b 3 s.heap (jE below D cs b evI args s rm_X2_itemBytes.cells rm_X2_itemBytes.slots) (f_X2_itemBytes_L4 n a0 v1 v2 M) M 0 0 [(0, .ref (b + a0)), (1, .int v1), (2, .int v2)] 4 [] := by
  intro n
  induction n with
  | zero => intro a0 v1 v2 M h_a0; exact aw_none
  | succ n ih =>
    intro a0 v1 v2 M h_a0
    refine aw_callq (F' := if (21 : Int32) < v2 then (some (v1, M)) else (orf (gr M a0 2) fun r3 => if 0 ≤ v2 ∧ v2 < ln r3 then (sv (v1 + (gi M r3 v2)) fun i4 => sv (v2 + (1 : Int32)) fun i5 => (f_X2_itemBytes_L4 n) a0 i4 i5 M) else none)) rfl ?_
    refine aw_iload_n (pc := 4) X 2 dX2_itemBytes_4 rfl ?_
    refine aw_bipush (pc := 5) X (21 : Int32) dX2_itemBytes_5 (by decide) ?_
    refine aw_icmpgt (pc := 7) X 25 dX2_itemBytes_7 (by decide) ?_ ?_
    · refine aw_iload_n (pc := 25) X 1 dX2_itemBytes_25 rfl ?_
      exact aw_iret (pc := 26) X hr dX2_itemBytes_26 (Nat.le_of_ble_eq_true rfl) (Nat.le_of_ble_eq_true rfl)
    · refine aw_iload_n (pc := 10) X 1 dX2_itemBytes_10 rfl ?_
      refine aw_aload_n (pc := 11) X 0 dX2_itemBytes_11 rfl ?_
      refine gf_X2_19 (pc := 12) X dX2_itemBytes_12 h_a0 (fun r3 h_r3 => ?_)
      refine aw_iload_n (pc := 15) X 2 dX2_itemBytes_15 rfl ?_
      refine aw_iald (pc := 16) X dX2_itemBytes_16 h_r3 ?_
      refine aw_iadd (pc := 17) X dX2_itemBytes_17 ?_
      refine aw_istoreV_n (pc := 18) X (fun y => [(1, .int y), (0, .ref (b + a0)), (2, .int v2)]) dX2_itemBytes_18 (by decide) (fun _ => rfl) (fun i4 => ?_)
      refine aw_iincV (pc := 19) X (fun y => [(2, .int y), (1, .int i4), (0, .ref (b + a0))]) 2 (v := (v2 + (1 : Int32))) dX2_itemBytes_19 rfl rfl (by decide) (fun _ => rfl) (fun i5 => ?_)
      refine aw_goto (pc := 22) X 4 dX2_itemBytes_22 (by decide) ?_
      refine aw_sub [2, 1, 0] rfl ?_
      exact ih a0 i4 i5 M h_a0
def f_X2_itemBytes (a0 : Nat) (M : JM) : Option (Int32 × JM) := sv (0 : Int32) fun i1 => sv (1 : Int32) fun i2 => f_X2_itemBytes_L4 FU a0 i1 i2 M
set_option maxRecDepth 10000 in
set_option maxHeartbeats 4000000 in
theorem t_X2_itemBytes {l : Launch} {D : va_G} {cs : JC} {b : Nat} (a0 : Nat) (M : JM) (h_a0 : oty M a0 12) : ∀ q, f_X2_itemBytes a0 M = some q → CTy l yX2_itemBytes (.code yX2_itemBytes cX2_itemBytes 3 (Option.some Jvm.ClassFile.FieldType.int) :: GB) rm_X2_itemBytes D cs b evI [.ref (b + a0)] M rm_X2_itemBytes.cells rm_X2_itemBytes.slots q := fun q hq => ct_of [(0, .ref (b + a0))] rfl rfl (Nat.le_of_ble_eq_true rfl) hq (fun p e s m args below meth c X hr hin => by
  refine aw_callq (F' := sv (0 : Int32) fun i1 => sv (1 : Int32) fun i2 => f_X2_itemBytes_L4 FU a0 i1 i2 M) rfl ?_
  refine aw_iconst (pc := 0) X (0 : Int32) dX2_itemBytes_0 (by decide) ?_
  refine aw_istoreV_n (pc := 1) X (fun y => [(1, .int y), (0, .ref (b + a0))]) dX2_itemBytes_1 (by decide) (fun _ => rfl) (fun i1 => ?_)
  refine aw_iconst (pc := 2) X (1 : Int32) dX2_itemBytes_2 (by decide) ?_
  refine aw_istoreV_n (pc := 3) X (fun y => [(2, .int y), (1, .int i1), (0, .ref (b + a0))]) dX2_itemBytes_3 (by decide) (fun _ => rfl) (fun i2 => ?_)
  refine aw_sub [2, 1, 0] rfl ?_
  exact t_X2_itemBytes_L4 X hr FU a0 i1 i2 M h_a0)
/-! ReportBlocks$Tape.putHead -/
def rm_X4_putHead : Room := { frames := 1, cells := 0, slots := 0, locals := 21 }
theorem hd_X4_putHead : jHd yX4_putHead 2 := by unfold jHd; decide +kernel
theorem cl_X4_19 {ρ : Type} {l : Launch} {p : Program} {e : Env} {R : Room} {s : State} {m : MethodId} {args : Array Value} {below : List Frame} {meth : Method} {c : Code} {D : va_G} {cs : JC} {b nL : Nat} {H0 : Heap} {Qf : ρ × JM → State → Prop} {M : JM} {ks sl : Nat} {lv : List (Nat × Value)} {pc : Nat} {st : List Value} {cc : ByteArray} (X : jX p c cc nL s m args RX4 D cs b meth H0) {z0 : Nat} {z1 : Int32} {K : JM → Option (ρ × JM)} (hrm : jRm rm_X4_put 2 R) (hW : (st.map fun v => v.category).sum ≤ 8) {ks2 sl2 : Nat} (hk2 : ks + rm_X4_put.cells = ks2) (hs2 : sl + rm_X4_put.slots = sl2) (hroom : ks2 ≤ R.cells ∧ sl2 ≤ R.slots) (hdg : decode cc pc = .ok (.invokevirtual 19, 3)) (h0 : oty M z0 14) (kk : ∀ (M2 : JM), gn M ≤ gn M2 → AWO p l e R s m args below meth c D cs b nL H0 Qf (K M2) M2 ks2 sl2 lv (pc + 3) (st)) : AWO p l e R s m args below meth c D cs b nL H0 Qf (ob (f_X4_put z0 z1 M) (fun _ => K)) M ks sl lv pc (.int z1 :: .ref (b + z0) :: st) := by
  subst hk2
  subst hs2
  exact aw_callV (ci := 4) X [.int z1] st rfl rfl wl_X4_19 wi_X4_put wv_X4_put wc_X4_put wn_X4 (n := 1) hd_X4_put rfl hrm hW hroom hdg h0 (t_X4_put z0 z1 M h0) (fun _ M2 g _ => kk M2 g)
def f_X4_putHead (a0 : Nat) (v1 : Int32) (v2 : Int32) (M : JM) : Option (Unit × JM) := ob (f_X4_put a0 v1 M) fun _ M1 => ob (f_X4_put a0 (v2 >>> ((8 : Int32) &&& 31)) M1) fun _ M3 => ob (f_X4_put a0 (v2 &&& (255 : Int32)) M3) fun _ M5 => some ((), M5)
set_option maxRecDepth 10000 in
set_option maxHeartbeats 4000000 in
theorem t_X4_putHead {l : Launch} {D : va_G} {cs : JC} {b : Nat} (a0 : Nat) (v1 : Int32) (v2 : Int32) (M : JM) (h_a0 : oty M a0 14) : ∀ q, f_X4_putHead a0 v1 v2 M = some q → CTy l yX4_putHead (.code yX4_putHead cX4_putHead 3 (Option.none) :: GB) rm_X4_putHead D cs b evV [.ref (b + a0), .int v1, .int v2] M rm_X4_putHead.cells rm_X4_putHead.slots q := fun q hq => ct_of [(0, .ref (b + a0)), (1, .int v1), (2, .int v2)] rfl rfl (Nat.le_of_ble_eq_true rfl) hq (fun p e s m args below meth c X hr hin => by
  refine aw_callq (F' := ob (f_X4_put a0 v1 M) fun _ M1 => ob (f_X4_put a0 (v2 >>> ((8 : Int32) &&& 31)) M1) fun _ M3 => ob (f_X4_put a0 (v2 &&& (255 : Int32)) M3) fun _ M5 => some ((), M5)) rfl ?_
  refine aw_aload_n (pc := 0) X 0 dX4_putHead_0 rfl ?_
  refine aw_iload_n (pc := 1) X 1 dX4_putHead_1 rfl ?_
  refine cl_X4_19 (pc := 2) X ⟨Nat.le_of_ble_eq_true rfl, Nat.le_of_ble_eq_true rfl⟩ (Nat.le_of_ble_eq_true rfl) (ks2 := 0) (sl2 := 0) rfl rfl ⟨(Nat.le_of_ble_eq_true rfl), (Nat.le_of_ble_eq_true rfl)⟩ dX4_putHead_2 h_a0 (fun M1 g2 => ?_)
  have h_a0 := h_a0.mono g2
  refine aw_aload_n (pc := 5) X 0 dX4_putHead_5 rfl ?_
  refine aw_iload_n (pc := 6) X 2 dX4_putHead_6 rfl ?_
  refine aw_bipush (pc := 7) X (8 : Int32) dX4_putHead_7 (by decide) ?_
  refine aw_ishr (pc := 9) X dX4_putHead_9 ?_
  refine cl_X4_19 (pc := 10) X ⟨Nat.le_of_ble_eq_true rfl, Nat.le_of_ble_eq_true rfl⟩ (Nat.le_of_ble_eq_true rfl) (ks2 := 0) (sl2 := 0) rfl rfl ⟨(Nat.le_of_ble_eq_true rfl), (Nat.le_of_ble_eq_true rfl)⟩ dX4_putHead_10 h_a0 (fun M3 g4 => ?_)
  have h_a0 := h_a0.mono g4
  refine aw_aload_n (pc := 13) X 0 dX4_putHead_13 rfl ?_
  refine aw_iload_n (pc := 14) X 2 dX4_putHead_14 rfl ?_
  refine aw_sipush (pc := 15) X (255 : Int32) dX4_putHead_15 (by decide) ?_
  refine aw_iand (pc := 18) X dX4_putHead_18 ?_
  refine cl_X4_19 (pc := 19) X ⟨Nat.le_of_ble_eq_true rfl, Nat.le_of_ble_eq_true rfl⟩ (Nat.le_of_ble_eq_true rfl) (ks2 := 0) (sl2 := 0) rfl rfl ⟨(Nat.le_of_ble_eq_true rfl), (Nat.le_of_ble_eq_true rfl)⟩ dX4_putHead_19 h_a0 (fun M5 g6 => ?_)
  have h_a0 := h_a0.mono g6
  exact aw_vret (pc := 22) X hr dX4_putHead_22 (Nat.le_of_ble_eq_true rfl) (Nat.le_of_ble_eq_true rfl))
/-! ReportBlocks$OwnRecord.bitsByte -/
def rm_X2_bitsByte : Room := { frames := 0, cells := 0, slots := 0, locals := 0 }
theorem hd_X2_bitsByte : jHd yX2_bitsByte 2 := by unfold jHd; decide +kernel
def f_X2_bitsByte_L66 : Int32 → Int32 → JM → Option (Int32 × JM) := fun u0 u1 M => some ((u1 ||| u0), M)
set_option maxRecDepth 10000 in
set_option maxHeartbeats 4000000 in
theorem t_X2_bitsByte_L66 {p : Program} {l : Launch} {e : Env} {s : State} {m : MethodId} {args : Array Value} {below : List Frame} {meth : Method} {c : Code} {D : va_G} {cs : JC} {b : Nat} (X : jX p c cX2_bitsByte 6 s m args RX2 D cs b meth s.heap) (hr : meth.sig.returnType = Option.some Jvm.ClassFile.FieldType.int) : ∀ (u0 : Int32) (u1 : Int32) (M : JM), AWO p l e rm_X2_bitsByte s m args below meth c D cs b 6 s.heap (jE below D cs b evI args s rm_X2_bitsByte.cells rm_X2_bitsByte.slots) (f_X2_bitsByte_L66 u0 u1 M) M 0 0 [] 66 [.int u0, .int u1] := by
  intro u0 u1 M
  refine aw_callq (F' := some ((u1 ||| u0), M)) rfl ?_
  refine aw_ior (pc := 66) X dX2_bitsByte_66 ?_
  exact aw_iret (pc := 67) X hr dX2_bitsByte_67 (Nat.le_of_ble_eq_true rfl) (Nat.le_of_ble_eq_true rfl)
def f_X2_bitsByte_L54 : Int32 → Int32 → JM → Option (Int32 × JM) := fun v2 v3 M => if v2 = 0 then (f_X2_bitsByte_L66 (1 : Int32) (v3 <<< ((1 : Int32) &&& 31)) M) else (f_X2_bitsByte_L66 (0 : Int32) (v3 <<< ((1 : Int32) &&& 31)) M)
set_option maxRecDepth 10000 in
set_option maxHeartbeats 4000000 in
theorem t_X2_bitsByte_L54 {p : Program} {l : Launch} {e : Env} {s : State} {m : MethodId} {args : Array Value} {below : List Frame} {meth : Method} {c : Code} {D : va_G} {cs : JC} {b : Nat} (X : jX p c cX2_bitsByte 6 s m args RX2 D cs b meth s.heap) (hr : meth.sig.returnType = Option.some Jvm.ClassFile.FieldType.int) : ∀ (v2 : Int32) (v3 : Int32) (M : JM), AWO p l e rm_X2_bitsByte s m args below meth c D cs b 6 s.heap (jE below D cs b evI args s rm_X2_bitsByte.cells rm_X2_bitsByte.slots) (f_X2_bitsByte_L54 v2 v3 M) M 0 0 [(2, .int v2), (3, .int v3)] 54 [] := by
  intro v2 v3 M
  refine aw_callq (F' := if v2 = 0 then (f_X2_bitsByte_L66 (1 : Int32) (v3 <<< ((1 : Int32) &&& 31)) M) else (f_X2_bitsByte_L66 (0 : Int32) (v3 <<< ((1 : Int32) &&& 31)) M)) rfl ?_
  refine aw_iload_n (pc := 54) X 1 dX2_bitsByte_54 rfl ?_
  refine aw_iconst (pc := 55) X (1 : Int32) dX2_bitsByte_55 (by decide) ?_
  refine aw_ishl (pc := 56) X dX2_bitsByte_56 ?_
  refine aw_iload_n (pc := 57) X 0 dX2_bitsByte_57 rfl ?_
  refine aw_ifeq (pc := 58) X 65 dX2_bitsByte_58 (by decide) ?_ ?_
  · refine aw_iconst (pc := 65) X (1 : Int32) dX2_bitsByte_65 (by decide) ?_
    refine aw_sub [] rfl ?_
    exact t_X2_bitsByte_L66 X hr (1 : Int32) (v3 <<< ((1 : Int32) &&& 31)) M 
  · refine aw_iconst (pc := 61) X (0 : Int32) dX2_bitsByte_61 (by decide) ?_
    refine aw_goto (pc := 62) X 66 dX2_bitsByte_62 (by decide) ?_
    refine aw_sub [] rfl ?_
    exact t_X2_bitsByte_L66 X hr (0 : Int32) (v3 <<< ((1 : Int32) &&& 31)) M 
def f_X2_bitsByte_L46 (k5 : Nat → Int32 → Int32 → Int32 → Int32 → JM → Option (Int32 × JM)) : Nat → Int32 → Int32 → Int32 → Int32 → Int32 → JM → Option (Int32 × JM) := fun a0 v1 v2 v4 u0 u1 M => sv (u1 ||| u0) fun i4 => sv (v4 + (1 : Int32)) fun i5 => k5 a0 v1 v2 i4 i5 M
set_option maxRecDepth 10000 in
set_option maxHeartbeats 4000000 in
theorem t_X2_bitsByte_L46 {p : Program} {l : Launch} {e : Env} {s : State} {m : MethodId} {args : Array Value} {below : List Frame} {meth : Method} {c : Code} {D : va_G} {cs : JC} {b : Nat} (X : jX p c cX2_bitsByte 6 s m args RX2 D cs b meth s.heap) (hr : meth.sig.returnType = Option.some Jvm.ClassFile.FieldType.int) (k5 : Nat → Int32 → Int32 → Int32 → Int32 → JM → Option (Int32 × JM)) (hk5 : ∀ (a0 : Nat) (v1 : Int32) (v2 : Int32) (v3 : Int32) (v4 : Int32) (M : JM), oty M a0 12 → AWO p l e rm_X2_bitsByte s m args below meth c D cs b 6 s.heap (jE below D cs b evI args s rm_X2_bitsByte.cells rm_X2_bitsByte.slots) (k5 a0 v1 v2 v3 v4 M) M 0 0 [(0, .ref (b + a0)), (1, .int v1), (2, .int v2), (3, .int v3), (4, .int v4)] 5 []) : ∀ (a0 : Nat) (v1 : Int32) (v2 : Int32) (v4 : Int32) (u0 : Int32) (u1 : Int32) (M : JM), oty M a0 12 → AWO p l e rm_X2_bitsByte s m args below meth c D cs b 6 s.heap (jE below D cs b evI args s rm_X2_bitsByte.cells rm_X2_bitsByte.slots) (f_X2_bitsByte_L46 k5 a0 v1 v2 v4 u0 u1 M) M 0 0 [(0, .ref (b + a0)), (1, .int v1), (2, .int v2), (4, .int v4)] 46 [.int u0, .int u1] := by
  intro a0 v1 v2 v4 u0 u1 M h_a0
  refine aw_callq (F' := sv (u1 ||| u0) fun i4 => sv (v4 + (1 : Int32)) fun i5 => k5 a0 v1 v2 i4 i5 M) rfl ?_
  refine aw_ior (pc := 46) X dX2_bitsByte_46 ?_
  refine aw_istoreV_n (pc := 47) X (fun y => [(3, .int y), (0, .ref (b + a0)), (1, .int v1), (2, .int v2), (4, .int v4)]) dX2_bitsByte_47 (by decide) (fun _ => rfl) (fun i4 => ?_)
  refine aw_iincV (pc := 48) X (fun y => [(4, .int y), (3, .int i4), (0, .ref (b + a0)), (1, .int v1), (2, .int v2)]) 4 (v := (v4 + (1 : Int32))) dX2_bitsByte_48 rfl rfl (by decide) (fun _ => rfl) (fun i5 => ?_)
  refine aw_goto (pc := 51) X 5 dX2_bitsByte_51 (by decide) ?_
  refine aw_sub [2, 3, 4, 1, 0] rfl ?_
  exact hk5 a0 v1 v2 i4 i5 M h_a0
def f_X2_bitsByte_L45 (k5 : Nat → Int32 → Int32 → Int32 → Int32 → JM → Option (Int32 × JM)) : Nat → Int32 → Int32 → Int32 → Int32 → JM → Option (Int32 × JM) := fun a0 v1 v2 v4 u0 M => f_X2_bitsByte_L46 k5 a0 v1 v2 v4 (0 : Int32) u0 M
set_option maxRecDepth 10000 in
set_option maxHeartbeats 4000000 in
theorem t_X2_bitsByte_L45 {p : Program} {l : Launch} {e : Env} {s : State} {m : MethodId} {args : Array Value} {below : List Frame} {meth : Method} {c : Code} {D : va_G} {cs : JC} {b : Nat} (X : jX p c cX2_bitsByte 6 s m args RX2 D cs b meth s.heap) (hr : meth.sig.returnType = Option.some Jvm.ClassFile.FieldType.int) (k5 : Nat → Int32 → Int32 → Int32 → Int32 → JM → Option (Int32 × JM)) (hk5 : ∀ (a0 : Nat) (v1 : Int32) (v2 : Int32) (v3 : Int32) (v4 : Int32) (M : JM), oty M a0 12 → AWO p l e rm_X2_bitsByte s m args below meth c D cs b 6 s.heap (jE below D cs b evI args s rm_X2_bitsByte.cells rm_X2_bitsByte.slots) (k5 a0 v1 v2 v3 v4 M) M 0 0 [(0, .ref (b + a0)), (1, .int v1), (2, .int v2), (3, .int v3), (4, .int v4)] 5 []) : ∀ (a0 : Nat) (v1 : Int32) (v2 : Int32) (v4 : Int32) (u0 : Int32) (M : JM), oty M a0 12 → AWO p l e rm_X2_bitsByte s m args below meth c D cs b 6 s.heap (jE below D cs b evI args s rm_X2_bitsByte.cells rm_X2_bitsByte.slots) (f_X2_bitsByte_L45 k5 a0 v1 v2 v4 u0 M) M 0 0 [(0, .ref (b + a0)), (1, .int v1), (2, .int v2), (4, .int v4)] 45 [.int u0] := by
  intro a0 v1 v2 v4 u0 M h_a0
  refine aw_callq (F' := f_X2_bitsByte_L46 k5 a0 v1 v2 v4 (0 : Int32) u0 M) rfl ?_
  refine aw_iconst (pc := 45) X (0 : Int32) dX2_bitsByte_45 (by decide) ?_
  refine aw_sub [0, 1, 2, 3] rfl ?_
  exact t_X2_bitsByte_L46 X hr k5 hk5 a0 v1 v2 v4 (0 : Int32) u0 M h_a0
def f_X2_bitsByte_L5 : Nat → Nat → Int32 → Int32 → Int32 → Int32 → JM → Option (Int32 × JM)
  | 0, _, _, _, _, _, _ => none
  | n + 1, a0, v1, v2, v3, v4, M => if (7 : Int32) < v4 then (f_X2_bitsByte_L54 v2 v3 M) else (sv ((v1 * (7 : Int32)) + v4) fun i3 => if (21 : Int32) < i3 then (f_X2_bitsByte_L45 (f_X2_bitsByte_L5 n) a0 v1 v2 v4 (v3 <<< ((1 : Int32) &&& 31)) M) else (orf (gr M a0 2) fun r6 => if 0 ≤ i3 ∧ i3 < ln r6 then (if (gi M r6 i3) = 0 then (f_X2_bitsByte_L45 (f_X2_bitsByte_L5 n) a0 v1 v2 v4 (v3 <<< ((1 : Int32) &&& 31)) M) else (f_X2_bitsByte_L46 (f_X2_bitsByte_L5 n) a0 v1 v2 v4 (1 : Int32) (v3 <<< ((1 : Int32) &&& 31)) M)) else none))
set_option maxRecDepth 10000 in
set_option maxHeartbeats 4000000 in
theorem t_X2_bitsByte_L5 {p : Program} {l : Launch} {e : Env} {s : State} {m : MethodId} {args : Array Value} {below : List Frame} {meth : Method} {c : Code} {D : va_G} {cs : JC} {b : Nat} (X : jX p c cX2_bitsByte 6 s m args RX2 D cs b meth s.heap) (hr : meth.sig.returnType = Option.some Jvm.ClassFile.FieldType.int) : ∀ (n : Nat) (a0 : Nat) (v1 : Int32) (v2 : Int32) (v3 : Int32) (v4 : Int32) (M : JM), oty M a0 12 → AWO p l e rm_X2_bitsByte s m args below meth c D cs b 6 s.heap (jE below D cs b evI args s rm_X2_bitsByte.cells rm_X2_bitsByte.slots) (f_X2_bitsByte_L5 n a0 v1 v2 v3 v4 M) M 0 0 [(0, .ref (b + a0)), (1, .int v1), (2, .int v2), (3, .int v3), (4, .int v4)] 5 [] := by
  intro n
  induction n with
  | zero => intro a0 v1 v2 v3 v4 M h_a0; exact aw_none
  | succ n ih =>
    intro a0 v1 v2 v3 v4 M h_a0
    refine aw_callq (F' := if (7 : Int32) < v4 then (f_X2_bitsByte_L54 v2 v3 M) else (sv ((v1 * (7 : Int32)) + v4) fun i3 => if (21 : Int32) < i3 then (f_X2_bitsByte_L45 (f_X2_bitsByte_L5 n) a0 v1 v2 v4 (v3 <<< ((1 : Int32) &&& 31)) M) else (orf (gr M a0 2) fun r6 => if 0 ≤ i3 ∧ i3 < ln r6 then (if (gi M r6 i3) = 0 then (f_X2_bitsByte_L45 (f_X2_bitsByte_L5 n) a0 v1 v2 v4 (v3 <<< ((1 : Int32) &&& 31)) M) else (f_X2_bitsByte_L46 (f_X2_bitsByte_L5 n) a0 v1 v2 v4 (1 : Int32) (v3 <<< ((1 : Int32) &&& 31)) M)) else none))) rfl ?_
    refine aw_iload (pc := 5) X 4 dX2_bitsByte_5 rfl ?_
    refine aw_bipush (pc := 7) X (7 : Int32) dX2_bitsByte_7 (by decide) ?_
    refine aw_icmpgt (pc := 9) X 54 dX2_bitsByte_9 (by decide) ?_ ?_
    · refine aw_sub [2, 3] rfl ?_
      exact t_X2_bitsByte_L54 X hr v2 v3 M 
    · refine aw_iload_n (pc := 12) X 1 dX2_bitsByte_12 rfl ?_
      refine aw_bipush (pc := 13) X (7 : Int32) dX2_bitsByte_13 (by decide) ?_
      refine aw_imul (pc := 15) X dX2_bitsByte_15 ?_
      refine aw_iload (pc := 16) X 4 dX2_bitsByte_16 rfl ?_
      refine aw_iadd (pc := 18) X dX2_bitsByte_18 ?_
      refine aw_istoreV (pc := 19) X (fun y => [(5, .int y), (0, .ref (b + a0)), (1, .int v1), (2, .int v2), (3, .int v3), (4, .int v4)]) dX2_bitsByte_19 (by decide) (fun _ => rfl) (fun i3 => ?_)
      refine aw_iload_n (pc := 21) X 4 dX2_bitsByte_21 rfl ?_
      refine aw_iconst (pc := 22) X (1 : Int32) dX2_bitsByte_22 (by decide) ?_
      refine aw_ishl (pc := 23) X dX2_bitsByte_23 ?_
      refine aw_iload (pc := 24) X 0 dX2_bitsByte_24 rfl ?_
      refine aw_bipush (pc := 26) X (21 : Int32) dX2_bitsByte_26 (by decide) ?_
      refine aw_icmpgt (pc := 28) X 45 dX2_bitsByte_28 (by decide) ?_ ?_
      · refine aw_sub [1, 2, 3, 5] rfl ?_
        exact t_X2_bitsByte_L45 X hr (f_X2_bitsByte_L5 n) ih a0 v1 v2 v4 (v3 <<< ((1 : Int32) &&& 31)) M h_a0
      · refine aw_aload_n (pc := 31) X 1 dX2_bitsByte_31 rfl ?_
        refine gf_X2_19 (pc := 32) X dX2_bitsByte_32 h_a0 (fun r6 h_r6 => ?_)
        refine aw_iload (pc := 35) X 0 dX2_bitsByte_35 rfl ?_
        refine aw_iald (pc := 37) X dX2_bitsByte_37 h_r6 ?_
        refine aw_ifeq (pc := 38) X 45 dX2_bitsByte_38 (by decide) ?_ ?_
        · refine aw_sub [1, 2, 3, 5] rfl ?_
          exact t_X2_bitsByte_L45 X hr (f_X2_bitsByte_L5 n) ih a0 v1 v2 v4 (v3 <<< ((1 : Int32) &&& 31)) M h_a0
        · refine aw_iconst (pc := 41) X (1 : Int32) dX2_bitsByte_41 (by decide) ?_
          refine aw_goto (pc := 42) X 46 dX2_bitsByte_42 (by decide) ?_
          refine aw_sub [1, 2, 3, 5] rfl ?_
          exact t_X2_bitsByte_L46 X hr (f_X2_bitsByte_L5 n) ih a0 v1 v2 v4 (1 : Int32) (v3 <<< ((1 : Int32) &&& 31)) M h_a0
def f_X2_bitsByte (a0 : Nat) (v1 : Int32) (v2 : Int32) (M : JM) : Option (Int32 × JM) := sv (0 : Int32) fun i1 => sv (1 : Int32) fun i2 => f_X2_bitsByte_L5 FU a0 v1 v2 i1 i2 M
set_option maxRecDepth 10000 in
set_option maxHeartbeats 4000000 in
theorem t_X2_bitsByte {l : Launch} {D : va_G} {cs : JC} {b : Nat} (a0 : Nat) (v1 : Int32) (v2 : Int32) (M : JM) (h_a0 : oty M a0 12) : ∀ q, f_X2_bitsByte a0 v1 v2 M = some q → CTy l yX2_bitsByte (.code yX2_bitsByte cX2_bitsByte 6 (Option.some Jvm.ClassFile.FieldType.int) :: GB) rm_X2_bitsByte D cs b evI [.ref (b + a0), .int v1, .int v2] M rm_X2_bitsByte.cells rm_X2_bitsByte.slots q := fun q hq => ct_of [(0, .ref (b + a0)), (1, .int v1), (2, .int v2)] rfl rfl (Nat.le_of_ble_eq_true rfl) hq (fun p e s m args below meth c X hr hin => by
  refine aw_callq (F' := sv (0 : Int32) fun i1 => sv (1 : Int32) fun i2 => f_X2_bitsByte_L5 FU a0 v1 v2 i1 i2 M) rfl ?_
  refine aw_iconst (pc := 0) X (0 : Int32) dX2_bitsByte_0 (by decide) ?_
  refine aw_istoreV_n (pc := 1) X (fun y => [(3, .int y), (0, .ref (b + a0)), (1, .int v1), (2, .int v2)]) dX2_bitsByte_1 (by decide) (fun _ => rfl) (fun i1 => ?_)
  refine aw_iconst (pc := 2) X (1 : Int32) dX2_bitsByte_2 (by decide) ?_
  refine aw_istoreV (pc := 3) X (fun y => [(4, .int y), (3, .int i1), (0, .ref (b + a0)), (1, .int v1), (2, .int v2)]) dX2_bitsByte_3 (by decide) (fun _ => rfl) (fun i2 => ?_)
  refine aw_sub [2, 3, 4, 1, 0] rfl ?_
  exact t_X2_bitsByte_L5 X hr FU a0 v1 v2 i1 i2 M h_a0)
/-! ReportBlocks$Tape.putAll -/
def rm_X4_putAll : Room := { frames := 1, cells := 0, slots := 0, locals := 21 }
theorem hd_X4_putAll : jHd yX4_putAll 3 := by unfold jHd; decide +kernel
def f_X4_putAll_L3 : Nat → Nat → Nat → Int32 → Int32 → Int32 → JM → Option (Unit × JM)
  | 0, _, _, _, _, _, _ => none
  | n + 1, a0, a1, v2, v3, v4, M => if v4 < (v2 + v3) then (if v4 < (ln a1) then (if 0 ≤ v4 ∧ v4 < ln a1 then (ob (f_X4_put a0 (gi M a1 v4) M) fun _ M2 => sv (v4 + (1 : Int32)) fun i4 => (f_X4_putAll_L3 n) a0 a1 v2 v3 i4 M2) else none) else (some ((), M))) else (some ((), M))
set_option maxRecDepth 10000 in
set_option maxHeartbeats 4000000 in
theorem t_X4_putAll_L3 {p : Program} {l : Launch} {e : Env} {s : State} {m : MethodId} {args : Array Value} {below : List Frame} {meth : Method} {c : Code} {D : va_G} {cs : JC} {b : Nat} (X : jX p c cX4_putAll 5 s m args RX4 D cs b meth s.heap) (hr : meth.sig.returnType = Option.none) : ∀ (n : Nat) (a0 : Nat) (a1 : Nat) (v2 : Int32) (v3 : Int32) (v4 : Int32) (M : JM), oty M a0 14 → oty M a1 1 → AWO p l e rm_X4_putAll s m args below meth c D cs b 5 s.heap (jE below D cs b evV args s rm_X4_putAll.cells rm_X4_putAll.slots) (f_X4_putAll_L3 n a0 a1 v2 v3 v4 M) M 0 0 [(0, .ref (b + a0)), (1, .ref (b + a1)), (2, .int v2), (3, .int v3), (4, .int v4)] 3 [] := by
  intro n
  induction n with
  | zero => intro a0 a1 v2 v3 v4 M h_a0 h_a1; exact aw_none
  | succ n ih =>
    intro a0 a1 v2 v3 v4 M h_a0 h_a1
    refine aw_callq (F' := if v4 < (v2 + v3) then (if v4 < (ln a1) then (if 0 ≤ v4 ∧ v4 < ln a1 then (ob (f_X4_put a0 (gi M a1 v4) M) fun _ M2 => sv (v4 + (1 : Int32)) fun i4 => (f_X4_putAll_L3 n) a0 a1 v2 v3 i4 M2) else none) else (some ((), M))) else (some ((), M))) rfl ?_
    refine aw_iload (pc := 3) X 4 dX4_putAll_3 rfl ?_
    refine aw_iload_n (pc := 5) X 2 dX4_putAll_5 rfl ?_
    refine aw_iload_n (pc := 6) X 3 dX4_putAll_6 rfl ?_
    refine aw_iadd (pc := 7) X dX4_putAll_7 ?_
    refine aw_icmpge (pc := 8) X 32 dX4_putAll_8 (by decide) ?_ ?_
    · refine aw_iload (pc := 11) X 4 dX4_putAll_11 rfl ?_
      refine aw_aload_n (pc := 13) X 1 dX4_putAll_13 rfl ?_
      refine aw_alen (pc := 14) X dX4_putAll_14 h_a1 ?_
      refine aw_icmpge (pc := 15) X 32 dX4_putAll_15 (by decide) ?_ ?_
      · refine aw_aload_n (pc := 18) X 0 dX4_putAll_18 rfl ?_
        refine aw_aload_n (pc := 19) X 1 dX4_putAll_19 rfl ?_
        refine aw_iload (pc := 20) X 4 dX4_putAll_20 rfl ?_
        refine aw_iald (pc := 22) X dX4_putAll_22 h_a1 ?_
        refine cl_X4_19 (pc := 23) X ⟨Nat.le_of_ble_eq_true rfl, Nat.le_of_ble_eq_true rfl⟩ (Nat.le_of_ble_eq_true rfl) (ks2 := 0) (sl2 := 0) rfl rfl ⟨(Nat.le_of_ble_eq_true rfl), (Nat.le_of_ble_eq_true rfl)⟩ dX4_putAll_23 h_a0 (fun M2 g3 => ?_)
        have h_a0 := h_a0.mono g3
        have h_a1 := h_a1.mono g3
        refine aw_iincV (pc := 26) X (fun y => [(4, .int y), (0, .ref (b + a0)), (1, .ref (b + a1)), (2, .int v2), (3, .int v3)]) 4 (v := (v4 + (1 : Int32))) dX4_putAll_26 rfl rfl (by decide) (fun _ => rfl) (fun i4 => ?_)
        refine aw_goto (pc := 29) X 3 dX4_putAll_29 (by decide) ?_
        refine aw_sub [1, 2, 3, 4, 0] rfl ?_
        exact ih a0 a1 v2 v3 i4 M2 h_a0 h_a1
      · exact aw_vret (pc := 32) X hr dX4_putAll_32 (Nat.le_of_ble_eq_true rfl) (Nat.le_of_ble_eq_true rfl)
    · exact aw_vret (pc := 32) X hr dX4_putAll_32 (Nat.le_of_ble_eq_true rfl) (Nat.le_of_ble_eq_true rfl)
def f_X4_putAll (a0 : Nat) (a1 : Nat) (v2 : Int32) (v3 : Int32) (M : JM) : Option (Unit × JM) := sv v2 fun i1 => f_X4_putAll_L3 FU a0 a1 v2 v3 i1 M
set_option maxRecDepth 10000 in
set_option maxHeartbeats 4000000 in
theorem t_X4_putAll {l : Launch} {D : va_G} {cs : JC} {b : Nat} (a0 : Nat) (a1 : Nat) (v2 : Int32) (v3 : Int32) (M : JM) (h_a0 : oty M a0 14) (h_a1 : oty M a1 1) : ∀ q, f_X4_putAll a0 a1 v2 v3 M = some q → CTy l yX4_putAll (.code yX4_putAll cX4_putAll 5 (Option.none) :: GB) rm_X4_putAll D cs b evV [.ref (b + a0), .ref (b + a1), .int v2, .int v3] M rm_X4_putAll.cells rm_X4_putAll.slots q := fun q hq => ct_of [(0, .ref (b + a0)), (1, .ref (b + a1)), (2, .int v2), (3, .int v3)] rfl rfl (Nat.le_of_ble_eq_true rfl) hq (fun p e s m args below meth c X hr hin => by
  refine aw_callq (F' := sv v2 fun i1 => f_X4_putAll_L3 FU a0 a1 v2 v3 i1 M) rfl ?_
  refine aw_iload_n (pc := 0) X 2 dX4_putAll_0 rfl ?_
  refine aw_istoreV (pc := 1) X (fun y => [(4, .int y), (0, .ref (b + a0)), (1, .ref (b + a1)), (2, .int v2), (3, .int v3)]) dX4_putAll_1 (by decide) (fun _ => rfl) (fun i1 => ?_)
  refine aw_sub [1, 2, 3, 4, 0] rfl ?_
  exact t_X4_putAll_L3 X hr FU a0 a1 v2 v3 i1 M h_a0 h_a1)
/-! ReportBlocks.write -/
def rm_X7_write : Room := { frames := 2, cells := 0, slots := 0, locals := 45 }
theorem hd_X7_write : jHd yX7_write 0 := by unfold jHd; decide +kernel
theorem cl_X7_197 {ρ : Type} {l : Launch} {p : Program} {e : Env} {R : Room} {s : State} {m : MethodId} {args : Array Value} {below : List Frame} {meth : Method} {c : Code} {D : va_G} {cs : JC} {b nL : Nat} {H0 : Heap} {Qf : ρ × JM → State → Prop} {M : JM} {ks sl : Nat} {lv : List (Nat × Value)} {pc : Nat} {st : List Value} {cc : ByteArray} (X : jX p c cc nL s m args RX7 D cs b meth H0) {z0 : Nat} {K : Int32 → JM → Option (ρ × JM)} (hrm : jRm rm_X2_lastPlace 2 R) (hW : (st.map fun v => v.category).sum ≤ 8) {ks2 sl2 : Nat} (hk2 : ks + rm_X2_lastPlace.cells = ks2) (hs2 : sl + rm_X2_lastPlace.slots = sl2) (hroom : ks2 ≤ R.cells ∧ sl2 ≤ R.slots) (hdg : decode cc pc = .ok (.invokevirtual 197, 3)) (h0 : oty M z0 12) (kk : ∀ (r : Int32) (M2 : JM), gn M ≤ gn M2 → AWO p l e R s m args below meth c D cs b nL H0 Qf (K r M2) M2 ks2 sl2 lv (pc + 3) (.int r :: st)) : AWO p l e R s m args below meth c D cs b nL H0 Qf (ob (f_X2_lastPlace z0 M) K) M ks sl lv pc (.ref (b + z0) :: st) := by
  subst hk2
  subst hs2
  exact aw_callV (ci := 2) X [] st rfl rfl wl_X7_197 wi_X2_lastPlace wv_X2_lastPlace wc_X2_lastPlace wn_X2 (n := 0) hd_X2_lastPlace rfl hrm hW hroom hdg h0 (t_X2_lastPlace z0 M h0) (fun r M2 g _ => kk r M2 g)
theorem cl_X7_201 {ρ : Type} {l : Launch} {p : Program} {e : Env} {R : Room} {s : State} {m : MethodId} {args : Array Value} {below : List Frame} {meth : Method} {c : Code} {D : va_G} {cs : JC} {b nL : Nat} {H0 : Heap} {Qf : ρ × JM → State → Prop} {M : JM} {ks sl : Nat} {lv : List (Nat × Value)} {pc : Nat} {st : List Value} {cc : ByteArray} (X : jX p c cc nL s m args RX7 D cs b meth H0) {z0 : Nat} {K : Int32 → JM → Option (ρ × JM)} (hrm : jRm rm_X2_itemBytes 3 R) (hW : (st.map fun v => v.category).sum ≤ 8) {ks2 sl2 : Nat} (hk2 : ks + rm_X2_itemBytes.cells = ks2) (hs2 : sl + rm_X2_itemBytes.slots = sl2) (hroom : ks2 ≤ R.cells ∧ sl2 ≤ R.slots) (hdg : decode cc pc = .ok (.invokevirtual 201, 3)) (h0 : oty M z0 12) (kk : ∀ (r : Int32) (M2 : JM), gn M ≤ gn M2 → AWO p l e R s m args below meth c D cs b nL H0 Qf (K r M2) M2 ks2 sl2 lv (pc + 3) (.int r :: st)) : AWO p l e R s m args below meth c D cs b nL H0 Qf (ob (f_X2_itemBytes z0 M) K) M ks sl lv pc (.ref (b + z0) :: st) := by
  subst hk2
  subst hs2
  exact aw_callV (ci := 2) X [] st rfl rfl wl_X7_201 wi_X2_itemBytes wv_X2_itemBytes wc_X2_itemBytes wn_X2 (n := 0) hd_X2_itemBytes rfl hrm hW hroom hdg h0 (t_X2_itemBytes z0 M h0) (fun r M2 g _ => kk r M2 g)
theorem cl_X7_207 {ρ : Type} {l : Launch} {p : Program} {e : Env} {R : Room} {s : State} {m : MethodId} {args : Array Value} {below : List Frame} {meth : Method} {c : Code} {D : va_G} {cs : JC} {b nL : Nat} {H0 : Heap} {Qf : ρ × JM → State → Prop} {M : JM} {ks sl : Nat} {lv : List (Nat × Value)} {pc : Nat} {st : List Value} {cc : ByteArray} (X : jX p c cc nL s m args RX7 D cs b meth H0) {z0 : Nat} {z1 : Int32} {z2 : Int32} {K : JM → Option (ρ × JM)} (hrm : jRm rm_X4_putHead 3 R) (hW : (st.map fun v => v.category).sum ≤ 8) {ks2 sl2 : Nat} (hk2 : ks + rm_X4_putHead.cells = ks2) (hs2 : sl + rm_X4_putHead.slots = sl2) (hroom : ks2 ≤ R.cells ∧ sl2 ≤ R.slots) (hdg : decode cc pc = .ok (.invokevirtual 207, 3)) (h0 : oty M z0 14) (kk : ∀ (M2 : JM), gn M ≤ gn M2 → AWO p l e R s m args below meth c D cs b nL H0 Qf (K M2) M2 ks2 sl2 lv (pc + 3) (st)) : AWO p l e R s m args below meth c D cs b nL H0 Qf (ob (f_X4_putHead z0 z1 z2 M) (fun _ => K)) M ks sl lv pc (.int z2 :: .int z1 :: .ref (b + z0) :: st) := by
  subst hk2
  subst hs2
  exact aw_callV (ci := 4) X [.int z1, .int z2] st rfl rfl wl_X7_207 wi_X4_putHead wv_X4_putHead wc_X4_putHead wn_X4 (n := 2) hd_X4_putHead rfl hrm hW hroom hdg h0 (t_X4_putHead z0 z1 z2 M h0) (fun _ M2 g _ => kk M2 g)
theorem gf_X7_215 {ρ : Type} {l : Launch} {p : Program} {e : Env} {R : Room} {s : State} {m : MethodId} {args : Array Value} {below : List Frame} {meth : Method} {c : Code} {D : va_G} {cs : JC} {b nL : Nat} {H0 : Heap} {Qf : ρ × JM → State → Prop} {M : JM} {ks sl : Nat} {lv : List (Nat × Value)} {pc : Nat} {st : List Value} {cc : ByteArray} {k : Nat} (X : jX p c cc nL s m args RX7 D cs b meth H0) {K : Nat → Option (ρ × JM)} (hdg : decode cc pc = .ok (.getfield 215, 3)) (ho : oty M k 12) (kk : ∀ r : Nat, oty M r 1 → AWO p l e R s m args below meth c D cs b nL H0 Qf (K r) M ks sl lv (pc + 3) (.ref (b + r) :: st)) : AWO p l e R s m args below meth c D cs b nL H0 Qf (orf (gr M k 1) K) M ks sl lv pc (.ref (b + k) :: st) := aw_getR (ci := 2) (τ := 1) X 1 rfl gy_X2 (by decide) (by decide) rfl rfl (by decide) wf_X7_215 hdg ho kk
theorem cl_X7_216 {ρ : Type} {l : Launch} {p : Program} {e : Env} {R : Room} {s : State} {m : MethodId} {args : Array Value} {below : List Frame} {meth : Method} {c : Code} {D : va_G} {cs : JC} {b nL : Nat} {H0 : Heap} {Qf : ρ × JM → State → Prop} {M : JM} {ks sl : Nat} {lv : List (Nat × Value)} {pc : Nat} {st : List Value} {cc : ByteArray} (X : jX p c cc nL s m args RX7 D cs b meth H0) {z0 : Int32} {K : Int32 → JM → Option (ρ × JM)} (hrm : jRm rm_X2_rowOf 1 R) (hW : (st.map fun v => v.category).sum ≤ 8) {ks2 sl2 : Nat} (hk2 : ks + rm_X2_rowOf.cells = ks2) (hs2 : sl + rm_X2_rowOf.slots = sl2) (hroom : ks2 ≤ R.cells ∧ sl2 ≤ R.slots) (hdg : decode cc pc = .ok (.invokestatic 216, 3)) (kk : ∀ (r : Int32) (M2 : JM), gn M ≤ gn M2 → AWO p l e R s m args below meth c D cs b nL H0 Qf (K r M2) M2 ks2 sl2 lv (pc + 3) (.int r :: st)) : AWO p l e R s m args below meth c D cs b nL H0 Qf (ob (f_X2_rowOf z0 M) K) M ks sl lv pc (.int z0 :: st) := by
  subst hk2
  subst hs2
  exact aw_callS X [.int z0] st rfl wl_X7_216 wt_X2_rowOf wc_X2_rowOf wn_X2 (n := 1) hd_X2_rowOf rfl hrm hW hroom hdg (t_X2_rowOf z0 M ) (fun r M2 g _ => kk r M2 g)
theorem cl_X7_219 {ρ : Type} {l : Launch} {p : Program} {e : Env} {R : Room} {s : State} {m : MethodId} {args : Array Value} {below : List Frame} {meth : Method} {c : Code} {D : va_G} {cs : JC} {b nL : Nat} {H0 : Heap} {Qf : ρ × JM → State → Prop} {M : JM} {ks sl : Nat} {lv : List (Nat × Value)} {pc : Nat} {st : List Value} {cc : ByteArray} (X : jX p c cc nL s m args RX7 D cs b meth H0) {z0 : Nat} {z1 : Nat} {z2 : Int32} {z3 : Int32} {K : JM → Option (ρ × JM)} (hrm : jRm rm_X4_putAll 5 R) (hW : (st.map fun v => v.category).sum ≤ 8) {ks2 sl2 : Nat} (hk2 : ks + rm_X4_putAll.cells = ks2) (hs2 : sl + rm_X4_putAll.slots = sl2) (hroom : ks2 ≤ R.cells ∧ sl2 ≤ R.slots) (hdg : decode cc pc = .ok (.invokevirtual 219, 3)) (h0 : oty M z0 14) (h1 : oty M z1 1) (kk : ∀ (M2 : JM), gn M ≤ gn M2 → AWO p l e R s m args below meth c D cs b nL H0 Qf (K M2) M2 ks2 sl2 lv (pc + 3) (st)) : AWO p l e R s m args below meth c D cs b nL H0 Qf (ob (f_X4_putAll z0 z1 z2 z3 M) (fun _ => K)) M ks sl lv pc (.int z3 :: .int z2 :: .ref (b + z1) :: .ref (b + z0) :: st) := by
  subst hk2
  subst hs2
  exact aw_callV (ci := 4) X [.ref (b + z1), .int z2, .int z3] st rfl rfl wl_X7_219 wi_X4_putAll wv_X4_putAll wc_X4_putAll wn_X4 (n := 3) hd_X4_putAll rfl hrm hW hroom hdg h0 (t_X4_putAll z0 z1 z2 z3 M h0 h1) (fun _ M2 g _ => kk M2 g)
def f_X7_write_L129 : Nat → Nat → Int32 → Int32 → Int32 → JM → Option (Int32 × JM)
  | 0, _, _, _, _, _ => none
  | n + 1, a0, v2, v4, v5, M => if v2 < v5 then (some (v4, M)) else (orf (gr M a0 2) fun r31 => orf (gr M a0 6) fun r32 => orf (gr M r32 1) fun r33 => ob (f_X2_rowOf v5 M) fun r36 M34 => orf (gr M34 a0 6) fun r37 => orf (gr M34 r37 2) fun r38 => if 0 ≤ v5 ∧ v5 < ln r38 then (ob (f_X4_putAll r31 r33 r36 (gi M34 r38 v5) M34) fun _ M39 => sv (v5 + (1 : Int32)) fun i41 => (f_X7_write_L129 n) a0 v2 v4 i41 M39) else none)
set_option maxRecDepth 10000 in
set_option maxHeartbeats 4000000 in
theorem t_X7_write_L129 {p : Program} {l : Launch} {e : Env} {s : State} {m : MethodId} {args : Array Value} {below : List Frame} {meth : Method} {c : Code} {D : va_G} {cs : JC} {b : Nat} (X : jX p c cX7_write 6 s m args RX7 D cs b meth s.heap) (hr : meth.sig.returnType = Option.some Jvm.ClassFile.FieldType.int) : ∀ (n : Nat) (a0 : Nat) (v2 : Int32) (v4 : Int32) (v5 : Int32) (M : JM), oty M a0 17 → AWO p l e rm_X7_write s m args below meth c D cs b 6 s.heap (jE below D cs b evI args s rm_X7_write.cells rm_X7_write.slots) (f_X7_write_L129 n a0 v2 v4 v5 M) M 0 0 [(0, .ref (b + a0)), (2, .int v2), (4, .int v4), (5, .int v5)] 129 [] := by
  intro n
  induction n with
  | zero => intro a0 v2 v4 v5 M h_a0; exact aw_none
  | succ n ih =>
    intro a0 v2 v4 v5 M h_a0
    refine aw_callq (F' := if v2 < v5 then (some (v4, M)) else (orf (gr M a0 2) fun r31 => orf (gr M a0 6) fun r32 => orf (gr M r32 1) fun r33 => ob (f_X2_rowOf v5 M) fun r36 M34 => orf (gr M34 a0 6) fun r37 => orf (gr M34 r37 2) fun r38 => if 0 ≤ v5 ∧ v5 < ln r38 then (ob (f_X4_putAll r31 r33 r36 (gi M34 r38 v5) M34) fun _ M39 => sv (v5 + (1 : Int32)) fun i41 => (f_X7_write_L129 n) a0 v2 v4 i41 M39) else none)) rfl ?_
    refine aw_iload (pc := 129) X 3 dX7_write_129 rfl ?_
    refine aw_iload_n (pc := 131) X 1 dX7_write_131 rfl ?_
    refine aw_icmpgt (pc := 132) X 170 dX7_write_132 (by decide) ?_ ?_
    · refine aw_iload (pc := 170) X 2 dX7_write_170 rfl ?_
      exact aw_iret (pc := 172) X hr dX7_write_172 (Nat.le_of_ble_eq_true rfl) (Nat.le_of_ble_eq_true rfl)
    · refine aw_aload_n (pc := 135) X 0 dX7_write_135 rfl ?_
      refine gf_X7_18 (pc := 136) X dX7_write_136 h_a0 (fun r31 h_r31 => ?_)
      refine aw_aload_n (pc := 139) X 0 dX7_write_139 rfl ?_
      refine gf_X7_44 (pc := 140) X dX7_write_140 h_a0 (fun r32 h_r32 => ?_)
      refine gf_X7_215 (pc := 143) X dX7_write_143 h_r32 (fun r33 h_r33 => ?_)
      refine aw_iload (pc := 146) X 3 dX7_write_146 rfl ?_
      refine cl_X7_216 (pc := 148) X ⟨Nat.le_of_ble_eq_true rfl, Nat.le_of_ble_eq_true rfl⟩ (Nat.le_of_ble_eq_true rfl) (ks2 := 0) (sl2 := 0) rfl rfl ⟨(Nat.le_of_ble_eq_true rfl), (Nat.le_of_ble_eq_true rfl)⟩ dX7_write_148  (fun r36 M34 g35 => ?_)
      have h_a0 := h_a0.mono g35
      have h_r33 := h_r33.mono g35
      have h_r31 := h_r31.mono g35
      refine aw_aload_n (pc := 151) X 0 dX7_write_151 rfl ?_
      refine gf_X7_44 (pc := 152) X dX7_write_152 h_a0 (fun r37 h_r37 => ?_)
      refine gf_X7_196 (pc := 155) X dX7_write_155 h_r37 (fun r38 h_r38 => ?_)
      refine aw_iload (pc := 158) X 3 dX7_write_158 rfl ?_
      refine aw_iald (pc := 160) X dX7_write_160 h_r38 ?_
      refine cl_X7_219 (pc := 161) X ⟨Nat.le_of_ble_eq_true rfl, Nat.le_of_ble_eq_true rfl⟩ (Nat.le_of_ble_eq_true rfl) (ks2 := 0) (sl2 := 0) rfl rfl ⟨(Nat.le_of_ble_eq_true rfl), (Nat.le_of_ble_eq_true rfl)⟩ dX7_write_161 h_r31 h_r33 (fun M39 g40 => ?_)
      have h_a0 := h_a0.mono g40
      refine aw_iincV (pc := 164) X (fun y => [(5, .int y), (0, .ref (b + a0)), (2, .int v2), (4, .int v4)]) 3 (v := (v5 + (1 : Int32))) dX7_write_164 rfl rfl (by decide) (fun _ => rfl) (fun i41 => ?_)
      refine aw_goto (pc := 167) X 129 dX7_write_167 (by decide) ?_
      refine aw_sub [1, 2, 3, 0] rfl ?_
      exact ih a0 v2 v4 i41 M39 h_a0
def f_X7_write_L126 : Nat → Int32 → Int32 → JM → Option (Int32 × JM) := fun a0 v2 v4 M => sv (1 : Int32) fun i30 => f_X7_write_L129 FU a0 v2 v4 i30 M
set_option maxRecDepth 10000 in
set_option maxHeartbeats 4000000 in
theorem t_X7_write_L126 {p : Program} {l : Launch} {e : Env} {s : State} {m : MethodId} {args : Array Value} {below : List Frame} {meth : Method} {c : Code} {D : va_G} {cs : JC} {b : Nat} (X : jX p c cX7_write 6 s m args RX7 D cs b meth s.heap) (hr : meth.sig.returnType = Option.some Jvm.ClassFile.FieldType.int) : ∀ (a0 : Nat) (v2 : Int32) (v4 : Int32) (M : JM), oty M a0 17 → AWO p l e rm_X7_write s m args below meth c D cs b 6 s.heap (jE below D cs b evI args s rm_X7_write.cells rm_X7_write.slots) (f_X7_write_L126 a0 v2 v4 M) M 0 0 [(0, .ref (b + a0)), (2, .int v2), (4, .int v4)] 126 [] := by
  intro a0 v2 v4 M h_a0
  refine aw_callq (F' := sv (1 : Int32) fun i30 => f_X7_write_L129 FU a0 v2 v4 i30 M) rfl ?_
  refine aw_iconst (pc := 126) X (1 : Int32) dX7_write_126 (by decide) ?_
  refine aw_istoreV (pc := 127) X (fun y => [(5, .int y), (0, .ref (b + a0)), (2, .int v2), (4, .int v4)]) dX7_write_127 (by decide) (fun _ => rfl) (fun i30 => ?_)
  refine aw_sub [1, 2, 3, 0] rfl ?_
  exact t_X7_write_L129 X hr FU a0 v2 v4 i30 M h_a0
theorem cl_X7_211 {ρ : Type} {l : Launch} {p : Program} {e : Env} {R : Room} {s : State} {m : MethodId} {args : Array Value} {below : List Frame} {meth : Method} {c : Code} {D : va_G} {cs : JC} {b nL : Nat} {H0 : Heap} {Qf : ρ × JM → State → Prop} {M : JM} {ks sl : Nat} {lv : List (Nat × Value)} {pc : Nat} {st : List Value} {cc : ByteArray} (X : jX p c cc nL s m args RX7 D cs b meth H0) {z0 : Nat} {z1 : Int32} {z2 : Int32} {K : Int32 → JM → Option (ρ × JM)} (hrm : jRm rm_X2_bitsByte 6 R) (hW : (st.map fun v => v.category).sum ≤ 8) {ks2 sl2 : Nat} (hk2 : ks + rm_X2_bitsByte.cells = ks2) (hs2 : sl + rm_X2_bitsByte.slots = sl2) (hroom : ks2 ≤ R.cells ∧ sl2 ≤ R.slots) (hdg : decode cc pc = .ok (.invokevirtual 211, 3)) (h0 : oty M z0 12) (kk : ∀ (r : Int32) (M2 : JM), gn M ≤ gn M2 → AWO p l e R s m args below meth c D cs b nL H0 Qf (K r M2) M2 ks2 sl2 lv (pc + 3) (.int r :: st)) : AWO p l e R s m args below meth c D cs b nL H0 Qf (ob (f_X2_bitsByte z0 z1 z2 M) K) M ks sl lv pc (.int z2 :: .int z1 :: .ref (b + z0) :: st) := by
  subst hk2
  subst hs2
  exact aw_callV (ci := 2) X [.int z1, .int z2] st rfl rfl wl_X7_211 wi_X2_bitsByte wv_X2_bitsByte wc_X2_bitsByte wn_X2 (n := 2) hd_X2_bitsByte rfl hrm hW hroom hdg h0 (t_X2_bitsByte z0 z1 z2 M h0) (fun r M2 g _ => kk r M2 g)
def f_X7_write_L114 (k85 : Nat → Int32 → Int32 → Int32 → Int32 → JM → Option (Int32 × JM)) : Nat → Int32 → Int32 → Int32 → Int32 → Int32 → Int32 → Nat → Nat → JM → Option (Int32 × JM) := fun a0 v2 v3 v4 v5 u0 u1 w2 w3 M => ob (f_X2_bitsByte w2 u1 u0 M) fun r46 M44 => ob (f_X4_put w3 r46 M44) fun _ M47 => sv (v5 + (1 : Int32)) fun i49 => k85 a0 v2 v3 v4 i49 M47
set_option maxRecDepth 10000 in
set_option maxHeartbeats 4000000 in
theorem t_X7_write_L114 {p : Program} {l : Launch} {e : Env} {s : State} {m : MethodId} {args : Array Value} {below : List Frame} {meth : Method} {c : Code} {D : va_G} {cs : JC} {b : Nat} (X : jX p c cX7_write 6 s m args RX7 D cs b meth s.heap) (hr : meth.sig.returnType = Option.some Jvm.ClassFile.FieldType.int) (k85 : Nat → Int32 → Int32 → Int32 → Int32 → JM → Option (Int32 × JM)) (hk85 : ∀ (a0 : Nat) (v2 : Int32) (v3 : Int32) (v4 : Int32) (v5 : Int32) (M : JM), oty M a0 17 → AWO p l e rm_X7_write s m args below meth c D cs b 6 s.heap (jE below D cs b evI args s rm_X7_write.cells rm_X7_write.slots) (k85 a0 v2 v3 v4 v5 M) M 0 0 [(0, .ref (b + a0)), (2, .int v2), (3, .int v3), (4, .int v4), (5, .int v5)] 85 []) : ∀ (a0 : Nat) (v2 : Int32) (v3 : Int32) (v4 : Int32) (v5 : Int32) (u0 : Int32) (u1 : Int32) (w2 : Nat) (w3 : Nat) (M : JM), oty M a0 17 → oty M w2 12 → oty M w3 14 → AWO p l e rm_X7_write s m args below meth c D cs b 6 s.heap (jE below D cs b evI args s rm_X7_write.cells rm_X7_write.slots) (f_X7_write_L114 k85 a0 v2 v3 v4 v5 u0 u1 w2 w3 M) M 0 0 [(0, .ref (b + a0)), (2, .int v2), (3, .int v3), (4, .int v4), (5, .int v5)] 114 [.int u0, .int u1, .ref (b + w2), .ref (b + w3)] := by
  intro a0 v2 v3 v4 v5 u0 u1 w2 w3 M h_a0 h_w2 h_w3
  refine aw_callq (F' := ob (f_X2_bitsByte w2 u1 u0 M) fun r46 M44 => ob (f_X4_put w3 r46 M44) fun _ M47 => sv (v5 + (1 : Int32)) fun i49 => k85 a0 v2 v3 v4 i49 M47) rfl ?_
  refine cl_X7_211 (pc := 114) X ⟨Nat.le_of_ble_eq_true rfl, Nat.le_of_ble_eq_true rfl⟩ (Nat.le_of_ble_eq_true rfl) (ks2 := 0) (sl2 := 0) rfl rfl ⟨(Nat.le_of_ble_eq_true rfl), (Nat.le_of_ble_eq_true rfl)⟩ dX7_write_114 h_w2 (fun r46 M44 g45 => ?_)
  have h_a0 := h_a0.mono g45
  have h_w3 := h_w3.mono g45
  refine cl_X7_111 (pc := 117) X ⟨Nat.le_of_ble_eq_true rfl, Nat.le_of_ble_eq_true rfl⟩ (Nat.le_of_ble_eq_true rfl) (ks2 := 0) (sl2 := 0) rfl rfl ⟨(Nat.le_of_ble_eq_true rfl), (Nat.le_of_ble_eq_true rfl)⟩ dX7_write_117 h_w3 (fun M47 g48 => ?_)
  have h_a0 := h_a0.mono g48
  refine aw_iincV (pc := 120) X (fun y => [(5, .int y), (0, .ref (b + a0)), (2, .int v2), (3, .int v3), (4, .int v4)]) 4 (v := (v5 + (1 : Int32))) dX7_write_120 rfl rfl (by decide) (fun _ => rfl) (fun i49 => ?_)
  refine aw_goto (pc := 123) X 85 dX7_write_123 (by decide) ?_
  refine aw_sub [1, 2, 3, 4, 0] rfl ?_
  exact hk85 a0 v2 v3 v4 i49 M47 h_a0
def f_X7_write_L85 : Nat → Nat → Int32 → Int32 → Int32 → Int32 → JM → Option (Int32 × JM)
  | 0, _, _, _, _, _, _ => none
  | n + 1, a0, v2, v3, v4, v5, M => if v5 < v3 then (orf (gr M a0 2) fun r42 => orf (gr M a0 6) fun r43 => if v5 = (v3 - (1 : Int32)) then (f_X7_write_L114 (f_X7_write_L85 n) a0 v2 v3 v4 v5 (1 : Int32) v5 r43 r42 M) else (f_X7_write_L114 (f_X7_write_L85 n) a0 v2 v3 v4 v5 (0 : Int32) v5 r43 r42 M)) else (f_X7_write_L126 a0 v2 v4 M)
set_option maxRecDepth 10000 in
set_option maxHeartbeats 4000000 in
theorem t_X7_write_L85 {p : Program} {l : Launch} {e : Env} {s : State} {m : MethodId} {args : Array Value} {below : List Frame} {meth : Method} {c : Code} {D : va_G} {cs : JC} {b : Nat} (X : jX p c cX7_write 6 s m args RX7 D cs b meth s.heap) (hr : meth.sig.returnType = Option.some Jvm.ClassFile.FieldType.int) : ∀ (n : Nat) (a0 : Nat) (v2 : Int32) (v3 : Int32) (v4 : Int32) (v5 : Int32) (M : JM), oty M a0 17 → AWO p l e rm_X7_write s m args below meth c D cs b 6 s.heap (jE below D cs b evI args s rm_X7_write.cells rm_X7_write.slots) (f_X7_write_L85 n a0 v2 v3 v4 v5 M) M 0 0 [(0, .ref (b + a0)), (2, .int v2), (3, .int v3), (4, .int v4), (5, .int v5)] 85 [] := by
  intro n
  induction n with
  | zero => intro a0 v2 v3 v4 v5 M h_a0; exact aw_none
  | succ n ih =>
    intro a0 v2 v3 v4 v5 M h_a0
    refine aw_callq (F' := if v5 < v3 then (orf (gr M a0 2) fun r42 => orf (gr M a0 6) fun r43 => if v5 = (v3 - (1 : Int32)) then (f_X7_write_L114 (f_X7_write_L85 n) a0 v2 v3 v4 v5 (1 : Int32) v5 r43 r42 M) else (f_X7_write_L114 (f_X7_write_L85 n) a0 v2 v3 v4 v5 (0 : Int32) v5 r43 r42 M)) else (f_X7_write_L126 a0 v2 v4 M)) rfl ?_
    refine aw_iload (pc := 85) X 4 dX7_write_85 rfl ?_
    refine aw_iload_n (pc := 87) X 2 dX7_write_87 rfl ?_
    refine aw_icmpge (pc := 88) X 126 dX7_write_88 (by decide) ?_ ?_
    · refine aw_aload_n (pc := 91) X 0 dX7_write_91 rfl ?_
      refine gf_X7_18 (pc := 92) X dX7_write_92 h_a0 (fun r42 h_r42 => ?_)
      refine aw_aload_n (pc := 95) X 0 dX7_write_95 rfl ?_
      refine gf_X7_44 (pc := 96) X dX7_write_96 h_a0 (fun r43 h_r43 => ?_)
      refine aw_iload (pc := 99) X 4 dX7_write_99 rfl ?_
      refine aw_iload (pc := 101) X 4 dX7_write_101 rfl ?_
      refine aw_iload_n (pc := 103) X 2 dX7_write_103 rfl ?_
      refine aw_iconst (pc := 104) X (1 : Int32) dX7_write_104 (by decide) ?_
      refine aw_isub (pc := 105) X dX7_write_105 ?_
      refine aw_icmpne (pc := 106) X 113 dX7_write_106 (by decide) ?_ ?_
      · refine aw_iconst (pc := 109) X (1 : Int32) dX7_write_109 (by decide) ?_
        refine aw_goto (pc := 110) X 114 dX7_write_110 (by decide) ?_
        refine aw_sub [0, 1, 2, 3, 4] rfl ?_
        exact t_X7_write_L114 X hr (f_X7_write_L85 n) ih a0 v2 v3 v4 v5 (1 : Int32) v5 r43 r42 M h_a0 h_r43 h_r42
      · refine aw_iconst (pc := 113) X (0 : Int32) dX7_write_113 (by decide) ?_
        refine aw_sub [0, 1, 2, 3, 4] rfl ?_
        exact t_X7_write_L114 X hr (f_X7_write_L85 n) ih a0 v2 v3 v4 v5 (0 : Int32) v5 r43 r42 M h_a0 h_r43 h_r42
    · refine aw_sub [0, 1, 3] rfl ?_
      exact t_X7_write_L126 X hr a0 v2 v4 M h_a0
def f_X7_write (a0 : Nat) (M : JM) : Option (Int32 × JM) := orf (gr M a0 6) fun r1 => ob (f_X7_categoryAt a0 (gi M r1 0) M) fun o5 M2 => oca o5 (orf (gr M2 a0 6) fun r6 => ob (f_X2_lastPlace r6 M2) fun r9 M7 => sv r9 fun i10 => some ((-2 : Int32), M7)) fun r4 => orf (gr M2 a0 6) fun r11 => ob (f_X2_lastPlace r11 M2) fun r14 M12 => sv r14 fun i15 => if i15 = 0 then (some ((-2 : Int32), M12)) else (sv (((i15 + (7 : Int32)) - (1 : Int32)) / (7 : Int32)) fun i16 => orf (gr M12 a0 6) fun r17 => ob (f_X2_itemBytes r17 M12) fun r20 M18 => sv (((3 : Int32) + i16) + r20) fun i21 => orf (gr M18 a0 2) fun r22 => ob (f_X4_hasRoom r22 i21 M18) fun r25 M23 => if r25 = true then (orf (gr M23 a0 2) fun r26 => ob (f_X4_putHead r26 (gi M23 r4 0) i21 M23) fun _ M27 => sv (0 : Int32) fun i29 => f_X7_write_L85 FU a0 i15 i16 i21 i29 M27) else (some ((-3 : Int32), M23)))
set_option maxRecDepth 10000 in
set_option maxHeartbeats 4000000 in
theorem t_X7_write {l : Launch} {D : va_G} {cs : JC} {b : Nat} (a0 : Nat) (M : JM) (h_a0 : oty M a0 17) : ∀ q, f_X7_write a0 M = some q → CTy l yX7_write (.code yX7_write cX7_write 6 (Option.some Jvm.ClassFile.FieldType.int) :: GB) rm_X7_write D cs b evI [.ref (b + a0)] M rm_X7_write.cells rm_X7_write.slots q := fun q hq => ct_of [(0, .ref (b + a0))] rfl rfl (Nat.le_of_ble_eq_true rfl) hq (fun p e s m args below meth c X hr hin => by
  refine aw_callq (F' := orf (gr M a0 6) fun r1 => ob (f_X7_categoryAt a0 (gi M r1 0) M) fun o5 M2 => oca o5 (orf (gr M2 a0 6) fun r6 => ob (f_X2_lastPlace r6 M2) fun r9 M7 => sv r9 fun i10 => some ((-2 : Int32), M7)) fun r4 => orf (gr M2 a0 6) fun r11 => ob (f_X2_lastPlace r11 M2) fun r14 M12 => sv r14 fun i15 => if i15 = 0 then (some ((-2 : Int32), M12)) else (sv (((i15 + (7 : Int32)) - (1 : Int32)) / (7 : Int32)) fun i16 => orf (gr M12 a0 6) fun r17 => ob (f_X2_itemBytes r17 M12) fun r20 M18 => sv (((3 : Int32) + i16) + r20) fun i21 => orf (gr M18 a0 2) fun r22 => ob (f_X4_hasRoom r22 i21 M18) fun r25 M23 => if r25 = true then (orf (gr M23 a0 2) fun r26 => ob (f_X4_putHead r26 (gi M23 r4 0) i21 M23) fun _ M27 => sv (0 : Int32) fun i29 => f_X7_write_L85 FU a0 i15 i16 i21 i29 M27) else (some ((-3 : Int32), M23)))) rfl ?_
  refine aw_aload_n (pc := 0) X 0 dX7_write_0 rfl ?_
  refine aw_aload_n (pc := 1) X 0 dX7_write_1 rfl ?_
  refine gf_X7_44 (pc := 2) X dX7_write_2 h_a0 (fun r1 h_r1 => ?_)
  refine gf_X7_182 (pc := 5) X dX7_write_5 h_r1 ?_
  refine cl_X7_66 (pc := 8) X ⟨Nat.le_of_ble_eq_true rfl, Nat.le_of_ble_eq_true rfl⟩ (Nat.le_of_ble_eq_true rfl) (ks2 := 0) (sl2 := 0) rfl rfl ⟨(Nat.le_of_ble_eq_true rfl), (Nat.le_of_ble_eq_true rfl)⟩ dX7_write_8 h_a0 (fun M2 g3 => ?_) (fun r4 M2 g3 h_r4 => ?_)
  · have h_a0 := h_a0.mono g3
    refine aw_astore_n0 (pc := 11) X [(1, .null), (0, .ref (b + a0))] dX7_write_11 (by decide) rfl ?_
    refine aw_aload_n (pc := 12) X 1 dX7_write_12 rfl ?_
    refine gf_X7_44 (pc := 13) X dX7_write_13 h_a0 (fun r6 h_r6 => ?_)
    refine cl_X7_197 (pc := 16) X ⟨Nat.le_of_ble_eq_true rfl, Nat.le_of_ble_eq_true rfl⟩ (Nat.le_of_ble_eq_true rfl) (ks2 := 0) (sl2 := 0) rfl rfl ⟨(Nat.le_of_ble_eq_true rfl), (Nat.le_of_ble_eq_true rfl)⟩ dX7_write_16 h_r6 (fun r9 M7 g8 => ?_)
    have h_a0 := h_a0.mono g8
    refine aw_istoreV_n (pc := 19) X (fun y => [(2, .int y), (1, .null), (0, .ref (b + a0))]) dX7_write_19 (by decide) (fun _ => rfl) (fun i10 => ?_)
    refine aw_aload_n0 (pc := 20) X 1 dX7_write_20 rfl ?_
    refine aw_ifnull_n (pc := 21) X 28 dX7_write_21 (by decide) ?_
    refine aw_bipush (pc := 28) X (-2 : Int32) dX7_write_28 (by decide) ?_
    exact aw_iret (pc := 30) X hr dX7_write_30 (Nat.le_of_ble_eq_true rfl) (Nat.le_of_ble_eq_true rfl)
  · have h_a0 := h_a0.mono g3
    refine aw_astore_n (pc := 11) X [(1, .ref (b + r4)), (0, .ref (b + a0))] dX7_write_11 (by decide) rfl ?_
    refine aw_aload_n (pc := 12) X 1 dX7_write_12 rfl ?_
    refine gf_X7_44 (pc := 13) X dX7_write_13 h_a0 (fun r11 h_r11 => ?_)
    refine cl_X7_197 (pc := 16) X ⟨Nat.le_of_ble_eq_true rfl, Nat.le_of_ble_eq_true rfl⟩ (Nat.le_of_ble_eq_true rfl) (ks2 := 0) (sl2 := 0) rfl rfl ⟨(Nat.le_of_ble_eq_true rfl), (Nat.le_of_ble_eq_true rfl)⟩ dX7_write_16 h_r11 (fun r14 M12 g13 => ?_)
    have h_a0 := h_a0.mono g13
    have h_r4 := h_r4.mono g13
    refine aw_istoreV_n (pc := 19) X (fun y => [(2, .int y), (1, .ref (b + r4)), (0, .ref (b + a0))]) dX7_write_19 (by decide) (fun _ => rfl) (fun i15 => ?_)
    refine aw_aload_n (pc := 20) X 1 dX7_write_20 rfl ?_
    refine aw_ifnull_r (pc := 21) X dX7_write_21 ?_
    refine aw_iload_n (pc := 24) X 0 dX7_write_24 rfl ?_
    refine aw_ifne (pc := 25) X 31 dX7_write_25 (by decide) ?_ ?_
    · refine aw_bipush (pc := 28) X (-2 : Int32) dX7_write_28 (by decide) ?_
      exact aw_iret (pc := 30) X hr dX7_write_30 (Nat.le_of_ble_eq_true rfl) (Nat.le_of_ble_eq_true rfl)
    · refine aw_iload_n (pc := 31) X 0 dX7_write_31 rfl ?_
      refine aw_bipush (pc := 32) X (7 : Int32) dX7_write_32 (by decide) ?_
      refine aw_iadd (pc := 34) X dX7_write_34 ?_
      refine aw_iconst (pc := 35) X (1 : Int32) dX7_write_35 (by decide) ?_
      refine aw_isub (pc := 36) X dX7_write_36 ?_
      refine aw_bipush (pc := 37) X (7 : Int32) dX7_write_37 (by decide) ?_
      refine aw_idivK (pc := 39) X dX7_write_39 (by decide) ?_
      refine aw_istoreV_n (pc := 40) X (fun y => [(3, .int y), (2, .int i15), (1, .ref (b + r4)), (0, .ref (b + a0))]) dX7_write_40 (by decide) (fun _ => rfl) (fun i16 => ?_)
      refine aw_iconst (pc := 41) X (3 : Int32) dX7_write_41 (by decide) ?_
      refine aw_iload_n (pc := 42) X 0 dX7_write_42 rfl ?_
      refine aw_iadd (pc := 43) X dX7_write_43 ?_
      refine aw_aload_n (pc := 44) X 3 dX7_write_44 rfl ?_
      refine gf_X7_44 (pc := 45) X dX7_write_45 h_a0 (fun r17 h_r17 => ?_)
      refine cl_X7_201 (pc := 48) X ⟨Nat.le_of_ble_eq_true rfl, Nat.le_of_ble_eq_true rfl⟩ (Nat.le_of_ble_eq_true rfl) (ks2 := 0) (sl2 := 0) rfl rfl ⟨(Nat.le_of_ble_eq_true rfl), (Nat.le_of_ble_eq_true rfl)⟩ dX7_write_48 h_r17 (fun r20 M18 g19 => ?_)
      have h_a0 := h_a0.mono g19
      have h_r4 := h_r4.mono g19
      refine aw_iadd (pc := 51) X dX7_write_51 ?_
      refine aw_istoreV (pc := 52) X (fun y => [(4, .int y), (3, .int i16), (2, .int i15), (1, .ref (b + r4)), (0, .ref (b + a0))]) dX7_write_52 (by decide) (fun _ => rfl) (fun i21 => ?_)
      refine aw_aload_n (pc := 54) X 4 dX7_write_54 rfl ?_
      refine gf_X7_18 (pc := 55) X dX7_write_55 h_a0 (fun r22 h_r22 => ?_)
      refine aw_iload (pc := 58) X 0 dX7_write_58 rfl ?_
      refine cl_X7_108 (pc := 60) X ⟨Nat.le_of_ble_eq_true rfl, Nat.le_of_ble_eq_true rfl⟩ (Nat.le_of_ble_eq_true rfl) (ks2 := 0) (sl2 := 0) rfl rfl ⟨(Nat.le_of_ble_eq_true rfl), (Nat.le_of_ble_eq_true rfl)⟩ dX7_write_60 h_r22 (fun r25 M23 g24 => ?_)
      have h_a0 := h_a0.mono g24
      have h_r4 := h_r4.mono g24
      refine aw_ifneB (pc := 63) X 69 dX7_write_63 (by decide) ?_ ?_
      · refine aw_aload_n (pc := 69) X 4 dX7_write_69 rfl ?_
        refine gf_X7_18 (pc := 70) X dX7_write_70 h_a0 (fun r26 h_r26 => ?_)
        refine aw_aload_n (pc := 73) X 3 dX7_write_73 rfl ?_
        refine gf_X7_204 (pc := 74) X dX7_write_74 h_r4 ?_
        refine aw_iload (pc := 77) X 0 dX7_write_77 rfl ?_
        refine cl_X7_207 (pc := 79) X ⟨Nat.le_of_ble_eq_true rfl, Nat.le_of_ble_eq_true rfl⟩ (Nat.le_of_ble_eq_true rfl) (ks2 := 0) (sl2 := 0) rfl rfl ⟨(Nat.le_of_ble_eq_true rfl), (Nat.le_of_ble_eq_true rfl)⟩ dX7_write_79 h_r26 (fun M27 g28 => ?_)
        have h_a0 := h_a0.mono g28
        have h_r4 := h_r4.mono g28
        refine aw_iconst (pc := 82) X (0 : Int32) dX7_write_82 (by decide) ?_
        refine aw_istoreV (pc := 83) X (fun y => [(5, .int y), (4, .int i21), (3, .int i16), (2, .int i15), (1, .ref (b + r4)), (0, .ref (b + a0))]) dX7_write_83 (by decide) (fun _ => rfl) (fun i29 => ?_)
        refine aw_sub [5, 3, 2, 1, 0] rfl ?_
        exact t_X7_write_L85 X hr FU a0 i15 i16 i21 i29 M27 h_a0
      · refine aw_bipush (pc := 66) X (-3 : Int32) dX7_write_66 (by decide) ?_
        exact aw_iret (pc := 68) X hr dX7_write_68 (Nat.le_of_ble_eq_true rfl) (Nat.le_of_ble_eq_true rfl))
/-! ReportBlocksModel.put -/
def rm_X8_put : Room := { frames := 0, cells := 0, slots := 0, locals := 0 }
theorem hd_X8_put : jHd yX8_put 1 := by unfold jHd; decide +kernel
def f_X8_put (a0 : Nat) (v1 : Int32) (M : JM) : Option (Unit × JM) := orf (gr M a0 7) fun r1 => if 0 ≤ (gi M a0 8) ∧ (gi M a0 8) < ln r1 then (sq (si M r1 (gi M a0 8) (v1 &&& (255 : Int32))) fun M2 => sq (si M2 a0 8 ((gi M2 a0 8) + (1 : Int32))) fun M4 => some ((), M4)) else none
set_option maxRecDepth 10000 in
set_option maxHeartbeats 4000000 in
theorem t_X8_put {l : Launch} {D : va_G} {cs : JC} {b : Nat} (a0 : Nat) (v1 : Int32) (M : JM) (h_a0 : oty M a0 18) : ∀ q, f_X8_put a0 v1 M = some q → CTy l yX8_put (.code yX8_put cX8_put 2 (Option.none) :: GB) rm_X8_put D cs b evV [.ref (b + a0), .int v1] M rm_X8_put.cells rm_X8_put.slots q := fun q hq => ct_of [(0, .ref (b + a0)), (1, .int v1)] rfl rfl (Nat.le_of_ble_eq_true rfl) hq (fun p e s m args below meth c X hr hin => by
  refine aw_callq (F' := orf (gr M a0 7) fun r1 => if 0 ≤ (gi M a0 8) ∧ (gi M a0 8) < ln r1 then (sq (si M r1 (gi M a0 8) (v1 &&& (255 : Int32))) fun M2 => sq (si M2 a0 8 ((gi M2 a0 8) + (1 : Int32))) fun M4 => some ((), M4)) else none) rfl ?_
  refine aw_aload_n (pc := 0) X 0 dX8_put_0 rfl ?_
  refine gf_X8_28 (pc := 1) X dX8_put_1 h_a0 (fun r1 h_r1 => ?_)
  refine aw_aload_n (pc := 4) X 0 dX8_put_4 rfl ?_
  refine gf_X8_133 (pc := 5) X dX8_put_5 h_a0 ?_
  refine aw_iload_n (pc := 8) X 1 dX8_put_8 rfl ?_
  refine aw_sipush (pc := 9) X (255 : Int32) dX8_put_9 (by decide) ?_
  refine aw_iand (pc := 12) X dX8_put_12 ?_
  refine aw_iastQ (pc := 13) X dX8_put_13 h_r1 (fun M2 g3 => ?_)
  have h_a0 := h_a0.mono g3
  refine aw_aload_n (pc := 14) X 0 dX8_put_14 rfl ?_
  refine aw_dup_a (pc := 15) X dX8_put_15 ?_
  refine gf_X8_133 (pc := 16) X dX8_put_16 h_a0 ?_
  refine aw_iconst (pc := 19) X (1 : Int32) dX8_put_19 (by decide) ?_
  refine aw_iadd (pc := 20) X dX8_put_20 ?_
  refine pf_X8_133 (pc := 21) X dX8_put_21 h_a0 (fun M4 g5 => ?_)
  have h_a0 := h_a0.mono g5
  exact aw_vret (pc := 24) X hr dX8_put_24 (Nat.le_of_ble_eq_true rfl) (Nat.le_of_ble_eq_true rfl))
/-! ReportBlocksModel.write -/
def rm_X8_write : Room := { frames := 1, cells := 0, slots := 0, locals := 21 }
theorem hd_X8_write : jHd yX8_write 0 := by unfold jHd; decide +kernel
theorem cl_X8_211 {ρ : Type} {l : Launch} {p : Program} {e : Env} {R : Room} {s : State} {m : MethodId} {args : Array Value} {below : List Frame} {meth : Method} {c : Code} {D : va_G} {cs : JC} {b nL : Nat} {H0 : Heap} {Qf : ρ × JM → State → Prop} {M : JM} {ks sl : Nat} {lv : List (Nat × Value)} {pc : Nat} {st : List Value} {cc : ByteArray} (X : jX p c cc nL s m args RX8 D cs b meth H0) {z0 : Nat} {z1 : Int32} {K : JM → Option (ρ × JM)} (hrm : jRm rm_X8_put 2 R) (hW : (st.map fun v => v.category).sum ≤ 8) {ks2 sl2 : Nat} (hk2 : ks + rm_X8_put.cells = ks2) (hs2 : sl + rm_X8_put.slots = sl2) (hroom : ks2 ≤ R.cells ∧ sl2 ≤ R.slots) (hdg : decode cc pc = .ok (.invokevirtual 211, 3)) (h0 : oty M z0 18) (kk : ∀ (M2 : JM), gn M ≤ gn M2 → AWO p l e R s m args below meth c D cs b nL H0 Qf (K M2) M2 ks2 sl2 lv (pc + 3) (st)) : AWO p l e R s m args below meth c D cs b nL H0 Qf (ob (f_X8_put z0 z1 M) (fun _ => K)) M ks sl lv pc (.int z1 :: .ref (b + z0) :: st) := by
  subst hk2
  subst hs2
  exact aw_callV (ci := 8) X [.int z1] st rfl rfl wl_X8_211 wi_X8_put wv_X8_put wc_X8_put wn_X8 (n := 1) hd_X8_put rfl hrm hW hroom hdg h0 (t_X8_put z0 z1 M h0) (fun _ M2 g _ => kk M2 g)
def f_X8_write_L243 (k198 : Nat → Int32 → Int32 → JM → Option (Int32 × JM)) : Nat → Int32 → Int32 → JM → Option (Int32 × JM) := fun a0 v2 v4 M => sv (v4 + (1 : Int32)) fun i17 => k198 a0 v2 i17 M
set_option maxRecDepth 10000 in
set_option maxHeartbeats 4000000 in
theorem t_X8_write_L243 {p : Program} {l : Launch} {e : Env} {s : State} {m : MethodId} {args : Array Value} {below : List Frame} {meth : Method} {c : Code} {D : va_G} {cs : JC} {b : Nat} (X : jX p c cX8_write 7 s m args RX8 D cs b meth s.heap) (hr : meth.sig.returnType = Option.some Jvm.ClassFile.FieldType.int) (k198 : Nat → Int32 → Int32 → JM → Option (Int32 × JM)) (hk198 : ∀ (a0 : Nat) (v2 : Int32) (v4 : Int32) (M : JM), oty M a0 18 → AWO p l e rm_X8_write s m args below meth c D cs b 7 s.heap (jE below D cs b evI args s rm_X8_write.cells rm_X8_write.slots) (k198 a0 v2 v4 M) M 0 0 [(0, .ref (b + a0)), (2, .int v2), (4, .int v4)] 198 []) : ∀ (a0 : Nat) (v2 : Int32) (v4 : Int32) (M : JM), oty M a0 18 → AWO p l e rm_X8_write s m args below meth c D cs b 7 s.heap (jE below D cs b evI args s rm_X8_write.cells rm_X8_write.slots) (f_X8_write_L243 k198 a0 v2 v4 M) M 0 0 [(0, .ref (b + a0)), (2, .int v2), (4, .int v4)] 243 [] := by
  intro a0 v2 v4 M h_a0
  refine aw_callq (F' := sv (v4 + (1 : Int32)) fun i17 => k198 a0 v2 i17 M) rfl ?_
  refine aw_iincV (pc := 243) X (fun y => [(4, .int y), (0, .ref (b + a0)), (2, .int v2)]) 2 (v := (v4 + (1 : Int32))) dX8_write_243 rfl rfl (by decide) (fun _ => rfl) (fun i17 => ?_)
  refine aw_goto (pc := 246) X 198 dX8_write_246 (by decide) ?_
  refine aw_sub [1, 2, 0] rfl ?_
  exact hk198 a0 v2 i17 M h_a0
def f_X8_write_L208 (k198 : Nat → Int32 → Int32 → JM → Option (Int32 × JM)) : Nat → Nat → Int32 → Int32 → Int32 → JM → Option (Int32 × JM)
  | 0, _, _, _, _, _ => none
  | n + 1, a0, v2, v4, v5, M => orf (gr M a0 26) fun r16 => if 0 ≤ v4 ∧ v4 < ln r16 then (if v5 < (gi M r16 v4) then (orf (gr M a0 27) fun r18 => if 0 ≤ (((60 : Int32) * v4) + v5) ∧ (((60 : Int32) * v4) + v5) < ln r18 then (ob (f_X8_put a0 (gi M r18 (((60 : Int32) * v4) + v5)) M) fun _ M19 => sv (v5 + (1 : Int32)) fun i21 => (f_X8_write_L208 k198 n) a0 v2 v4 i21 M19) else none) else (f_X8_write_L243 k198 a0 v2 v4 M)) else none
set_option maxRecDepth 10000 in
set_option maxHeartbeats 4000000 in
theorem t_X8_write_L208 {p : Program} {l : Launch} {e : Env} {s : State} {m : MethodId} {args : Array Value} {below : List Frame} {meth : Method} {c : Code} {D : va_G} {cs : JC} {b : Nat} (X : jX p c cX8_write 7 s m args RX8 D cs b meth s.heap) (hr : meth.sig.returnType = Option.some Jvm.ClassFile.FieldType.int) (k198 : Nat → Int32 → Int32 → JM → Option (Int32 × JM)) (hk198 : ∀ (a0 : Nat) (v2 : Int32) (v4 : Int32) (M : JM), oty M a0 18 → AWO p l e rm_X8_write s m args below meth c D cs b 7 s.heap (jE below D cs b evI args s rm_X8_write.cells rm_X8_write.slots) (k198 a0 v2 v4 M) M 0 0 [(0, .ref (b + a0)), (2, .int v2), (4, .int v4)] 198 []) : ∀ (n : Nat) (a0 : Nat) (v2 : Int32) (v4 : Int32) (v5 : Int32) (M : JM), oty M a0 18 → AWO p l e rm_X8_write s m args below meth c D cs b 7 s.heap (jE below D cs b evI args s rm_X8_write.cells rm_X8_write.slots) (f_X8_write_L208 k198 n a0 v2 v4 v5 M) M 0 0 [(0, .ref (b + a0)), (2, .int v2), (4, .int v4), (5, .int v5)] 208 [] := by
  intro n
  induction n with
  | zero => intro a0 v2 v4 v5 M h_a0; exact aw_none
  | succ n ih =>
    intro a0 v2 v4 v5 M h_a0
    refine aw_callq (F' := orf (gr M a0 26) fun r16 => if 0 ≤ v4 ∧ v4 < ln r16 then (if v5 < (gi M r16 v4) then (orf (gr M a0 27) fun r18 => if 0 ≤ (((60 : Int32) * v4) + v5) ∧ (((60 : Int32) * v4) + v5) < ln r18 then (ob (f_X8_put a0 (gi M r18 (((60 : Int32) * v4) + v5)) M) fun _ M19 => sv (v5 + (1 : Int32)) fun i21 => (f_X8_write_L208 k198 n) a0 v2 v4 i21 M19) else none) else (f_X8_write_L243 k198 a0 v2 v4 M)) else none) rfl ?_
    refine aw_iload (pc := 208) X 3 dX8_write_208 rfl ?_
    refine aw_aload_n (pc := 210) X 0 dX8_write_210 rfl ?_
    refine gf_X8_60 (pc := 211) X dX8_write_211 h_a0 (fun r16 h_r16 => ?_)
    refine aw_iload (pc := 214) X 2 dX8_write_214 rfl ?_
    refine aw_iald (pc := 216) X dX8_write_216 h_r16 ?_
    refine aw_icmpge (pc := 217) X 243 dX8_write_217 (by decide) ?_ ?_
    · refine aw_aload_n (pc := 220) X 0 dX8_write_220 rfl ?_
      refine aw_aload_n (pc := 221) X 0 dX8_write_221 rfl ?_
      refine gf_X8_63 (pc := 222) X dX8_write_222 h_a0 (fun r18 h_r18 => ?_)
      refine aw_bipush (pc := 225) X (60 : Int32) dX8_write_225 (by decide) ?_
      refine aw_iload (pc := 227) X 2 dX8_write_227 rfl ?_
      refine aw_imul (pc := 229) X dX8_write_229 ?_
      refine aw_iload (pc := 230) X 3 dX8_write_230 rfl ?_
      refine aw_iadd (pc := 232) X dX8_write_232 ?_
      refine aw_iald (pc := 233) X dX8_write_233 h_r18 ?_
      refine cl_X8_211 (pc := 234) X ⟨Nat.le_of_ble_eq_true rfl, Nat.le_of_ble_eq_true rfl⟩ (Nat.le_of_ble_eq_true rfl) (ks2 := 0) (sl2 := 0) rfl rfl ⟨(Nat.le_of_ble_eq_true rfl), (Nat.le_of_ble_eq_true rfl)⟩ dX8_write_234 h_a0 (fun M19 g20 => ?_)
      have h_a0 := h_a0.mono g20
      refine aw_iincV (pc := 237) X (fun y => [(5, .int y), (0, .ref (b + a0)), (2, .int v2), (4, .int v4)]) 3 (v := (v5 + (1 : Int32))) dX8_write_237 rfl rfl (by decide) (fun _ => rfl) (fun i21 => ?_)
      refine aw_goto (pc := 240) X 208 dX8_write_240 (by decide) ?_
      refine aw_sub [1, 2, 3, 0] rfl ?_
      exact ih a0 v2 v4 i21 M19 h_a0
    · refine aw_sub [0, 1, 2] rfl ?_
      exact t_X8_write_L243 X hr k198 hk198 a0 v2 v4 M h_a0
def f_X8_write_L198 : Nat → Nat → Int32 → Int32 → JM → Option (Int32 × JM)
  | 0, _, _, _, _ => none
  | n + 1, a0, v2, v4, M => if (21 : Int32) < v4 then (some (v2, M)) else (sv (0 : Int32) fun i15 => f_X8_write_L208 (f_X8_write_L198 n) FU a0 v2 v4 i15 M)
set_option maxRecDepth 10000 in
set_option maxHeartbeats 4000000 in
theorem t_X8_write_L198 {p : Program} {l : Launch} {e : Env} {s : State} {m : MethodId} {args : Array Value} {below : List Frame} {meth : Method} {c : Code} {D : va_G} {cs : JC} {b : Nat} (X : jX p c cX8_write 7 s m args RX8 D cs b meth s.heap) (hr : meth.sig.returnType = Option.some Jvm.ClassFile.FieldType.int) : ∀ (n : Nat) (a0 : Nat) (v2 : Int32) (v4 : Int32) (M : JM), oty M a0 18 → AWO p l e rm_X8_write s m args below meth c D cs b 7 s.heap (jE below D cs b evI args s rm_X8_write.cells rm_X8_write.slots) (f_X8_write_L198 n a0 v2 v4 M) M 0 0 [(0, .ref (b + a0)), (2, .int v2), (4, .int v4)] 198 [] := by
  intro n
  induction n with
  | zero => intro a0 v2 v4 M h_a0; exact aw_none
  | succ n ih =>
    intro a0 v2 v4 M h_a0
    refine aw_callq (F' := if (21 : Int32) < v4 then (some (v2, M)) else (sv (0 : Int32) fun i15 => f_X8_write_L208 (f_X8_write_L198 n) FU a0 v2 v4 i15 M)) rfl ?_
    refine aw_iload (pc := 198) X 2 dX8_write_198 rfl ?_
    refine aw_bipush (pc := 200) X (21 : Int32) dX8_write_200 (by decide) ?_
    refine aw_icmpgt (pc := 202) X 249 dX8_write_202 (by decide) ?_ ?_
    · refine aw_iload_n (pc := 249) X 1 dX8_write_249 rfl ?_
      exact aw_iret (pc := 250) X hr dX8_write_250 (Nat.le_of_ble_eq_true rfl) (Nat.le_of_ble_eq_true rfl)
    · refine aw_iconst (pc := 205) X (0 : Int32) dX8_write_205 (by decide) ?_
      refine aw_istoreV (pc := 206) X (fun y => [(5, .int y), (0, .ref (b + a0)), (2, .int v2), (4, .int v4)]) dX8_write_206 (by decide) (fun _ => rfl) (fun i15 => ?_)
      refine aw_sub [1, 2, 3, 0] rfl ?_
      exact t_X8_write_L208 X hr (f_X8_write_L198 n) ih FU a0 v2 v4 i15 M h_a0
def f_X8_write_L195 : Nat → Int32 → JM → Option (Int32 × JM) := fun a0 v2 M => sv (1 : Int32) fun i14 => f_X8_write_L198 FU a0 v2 i14 M
set_option maxRecDepth 10000 in
set_option maxHeartbeats 4000000 in
theorem t_X8_write_L195 {p : Program} {l : Launch} {e : Env} {s : State} {m : MethodId} {args : Array Value} {below : List Frame} {meth : Method} {c : Code} {D : va_G} {cs : JC} {b : Nat} (X : jX p c cX8_write 7 s m args RX8 D cs b meth s.heap) (hr : meth.sig.returnType = Option.some Jvm.ClassFile.FieldType.int) : ∀ (a0 : Nat) (v2 : Int32) (M : JM), oty M a0 18 → AWO p l e rm_X8_write s m args below meth c D cs b 7 s.heap (jE below D cs b evI args s rm_X8_write.cells rm_X8_write.slots) (f_X8_write_L195 a0 v2 M) M 0 0 [(0, .ref (b + a0)), (2, .int v2)] 195 [] := by
  intro a0 v2 M h_a0
  refine aw_callq (F' := sv (1 : Int32) fun i14 => f_X8_write_L198 FU a0 v2 i14 M) rfl ?_
  refine aw_iconst (pc := 195) X (1 : Int32) dX8_write_195 (by decide) ?_
  refine aw_istoreV (pc := 196) X (fun y => [(4, .int y), (0, .ref (b + a0)), (2, .int v2)]) dX8_write_196 (by decide) (fun _ => rfl) (fun i14 => ?_)
  refine aw_sub [1, 2, 0] rfl ?_
  exact t_X8_write_L198 X hr FU a0 v2 i14 M h_a0
def f_X8_write_L183 (k112 : Nat → Int32 → Int32 → Int32 → JM → Option (Int32 × JM)) : Nat → Int32 → Int32 → Int32 → Int32 → JM → Option (Int32 × JM) := fun a0 v2 v3 v4 v5 M => ob (f_X8_put a0 v5 M) fun _ M24 => sv (v4 + (1 : Int32)) fun i26 => k112 a0 v2 v3 i26 M24
set_option maxRecDepth 10000 in
set_option maxHeartbeats 4000000 in
theorem t_X8_write_L183 {p : Program} {l : Launch} {e : Env} {s : State} {m : MethodId} {args : Array Value} {below : List Frame} {meth : Method} {c : Code} {D : va_G} {cs : JC} {b : Nat} (X : jX p c cX8_write 7 s m args RX8 D cs b meth s.heap) (hr : meth.sig.returnType = Option.some Jvm.ClassFile.FieldType.int) (k112 : Nat → Int32 → Int32 → Int32 → JM → Option (Int32 × JM)) (hk112 : ∀ (a0 : Nat) (v2 : Int32) (v3 : Int32) (v4 : Int32) (M : JM), oty M a0 18 → AWO p l e rm_X8_write s m args below meth c D cs b 7 s.heap (jE below D cs b evI args s rm_X8_write.cells rm_X8_write.slots) (k112 a0 v2 v3 v4 M) M 0 0 [(0, .ref (b + a0)), (2, .int v2), (3, .int v3), (4, .int v4)] 112 []) : ∀ (a0 : Nat) (v2 : Int32) (v3 : Int32) (v4 : Int32) (v5 : Int32) (M : JM), oty M a0 18 → AWO p l e rm_X8_write s m args below meth c D cs b 7 s.heap (jE below D cs b evI args s rm_X8_write.cells rm_X8_write.slots) (f_X8_write_L183 k112 a0 v2 v3 v4 v5 M) M 0 0 [(0, .ref (b + a0)), (2, .int v2), (3, .int v3), (4, .int v4), (5, .int v5)] 183 [] := by
  intro a0 v2 v3 v4 v5 M h_a0
  refine aw_callq (F' := ob (f_X8_put a0 v5 M) fun _ M24 => sv (v4 + (1 : Int32)) fun i26 => k112 a0 v2 v3 i26 M24) rfl ?_
  refine aw_aload_n (pc := 183) X 0 dX8_write_183 rfl ?_
  refine aw_iload (pc := 184) X 4 dX8_write_184 rfl ?_
  refine cl_X8_211 (pc := 186) X ⟨Nat.le_of_ble_eq_true rfl, Nat.le_of_ble_eq_true rfl⟩ (Nat.le_of_ble_eq_true rfl) (ks2 := 0) (sl2 := 0) rfl rfl ⟨(Nat.le_of_ble_eq_true rfl), (Nat.le_of_ble_eq_true rfl)⟩ dX8_write_186 h_a0 (fun M24 g25 => ?_)
  have h_a0 := h_a0.mono g25
  refine aw_iincV (pc := 189) X (fun y => [(4, .int y), (0, .ref (b + a0)), (2, .int v2), (3, .int v3), (5, .int v5)]) 3 (v := (v4 + (1 : Int32))) dX8_write_189 rfl rfl (by decide) (fun _ => rfl) (fun i26 => ?_)
  refine aw_goto (pc := 192) X 112 dX8_write_192 (by decide) ?_
  refine aw_sub [1, 2, 3, 0] rfl ?_
  exact hk112 a0 v2 v3 i26 M24 h_a0
def f_X8_write_L174 (k112 : Nat → Int32 → Int32 → Int32 → JM → Option (Int32 × JM)) (k136 : Nat → Int32 → Int32 → Int32 → Int32 → Int32 → JM → Option (Int32 × JM)) : Nat → Int32 → Int32 → Int32 → Int32 → Int32 → Int32 → JM → Option (Int32 × JM) := fun a0 v2 v3 v4 v6 u0 u1 M => sv (u1 ||| u0) fun i28 => sv (v6 + (1 : Int32)) fun i29 => k136 a0 v2 v3 v4 i28 i29 M
set_option maxRecDepth 10000 in
set_option maxHeartbeats 4000000 in
theorem t_X8_write_L174 {p : Program} {l : Launch} {e : Env} {s : State} {m : MethodId} {args : Array Value} {below : List Frame} {meth : Method} {c : Code} {D : va_G} {cs : JC} {b : Nat} (X : jX p c cX8_write 7 s m args RX8 D cs b meth s.heap) (hr : meth.sig.returnType = Option.some Jvm.ClassFile.FieldType.int) (k112 : Nat → Int32 → Int32 → Int32 → JM → Option (Int32 × JM)) (hk112 : ∀ (a0 : Nat) (v2 : Int32) (v3 : Int32) (v4 : Int32) (M : JM), oty M a0 18 → AWO p l e rm_X8_write s m args below meth c D cs b 7 s.heap (jE below D cs b evI args s rm_X8_write.cells rm_X8_write.slots) (k112 a0 v2 v3 v4 M) M 0 0 [(0, .ref (b + a0)), (2, .int v2), (3, .int v3), (4, .int v4)] 112 []) (k136 : Nat → Int32 → Int32 → Int32 → Int32 → Int32 → JM → Option (Int32 × JM)) (hk136 : ∀ (a0 : Nat) (v2 : Int32) (v3 : Int32) (v4 : Int32) (v5 : Int32) (v6 : Int32) (M : JM), oty M a0 18 → AWO p l e rm_X8_write s m args below meth c D cs b 7 s.heap (jE below D cs b evI args s rm_X8_write.cells rm_X8_write.slots) (k136 a0 v2 v3 v4 v5 v6 M) M 0 0 [(0, .ref (b + a0)), (2, .int v2), (3, .int v3), (4, .int v4), (5, .int v5), (6, .int v6)] 136 []) : ∀ (a0 : Nat) (v2 : Int32) (v3 : Int32) (v4 : Int32) (v6 : Int32) (u0 : Int32) (u1 : Int32) (M : JM), oty M a0 18 → AWO p l e rm_X8_write s m args below meth c D cs b 7 s.heap (jE below D cs b evI args s rm_X8_write.cells rm_X8_write.slots) (f_X8_write_L174 k112 k136 a0 v2 v3 v4 v6 u0 u1 M) M 0 0 [(0, .ref (b + a0)), (2, .int v2), (3, .int v3), (4, .int v4), (6, .int v6)] 174 [.int u0, .int u1] := by
  intro a0 v2 v3 v4 v6 u0 u1 M h_a0
  refine aw_callq (F' := sv (u1 ||| u0) fun i28 => sv (v6 + (1 : Int32)) fun i29 => k136 a0 v2 v3 v4 i28 i29 M) rfl ?_
  refine aw_ior (pc := 174) X dX8_write_174 ?_
  refine aw_istoreV (pc := 175) X (fun y => [(5, .int y), (0, .ref (b + a0)), (2, .int v2), (3, .int v3), (4, .int v4), (6, .int v6)]) dX8_write_175 (by decide) (fun _ => rfl) (fun i28 => ?_)
  refine aw_iincV (pc := 177) X (fun y => [(6, .int y), (5, .int i28), (0, .ref (b + a0)), (2, .int v2), (3, .int v3), (4, .int v4)]) 5 (v := (v6 + (1 : Int32))) dX8_write_177 rfl rfl (by decide) (fun _ => rfl) (fun i29 => ?_)
  refine aw_goto (pc := 180) X 136 dX8_write_180 (by decide) ?_
  refine aw_sub [2, 3, 4, 5, 1, 0] rfl ?_
  exact hk136 a0 v2 v3 v4 i28 i29 M h_a0
def f_X8_write_L136 (k112 : Nat → Int32 → Int32 → Int32 → JM → Option (Int32 × JM)) : Nat → Nat → Int32 → Int32 → Int32 → Int32 → Int32 → JM → Option (Int32 × JM)
  | 0, _, _, _, _, _, _, _ => none
  | n + 1, a0, v2, v3, v4, v5, v6, M => if v6 < (7 : Int32) then (orf (gr M a0 26) fun r27 => if 0 ≤ ((((7 : Int32) * v4) + v6) + (1 : Int32)) ∧ ((((7 : Int32) * v4) + v6) + (1 : Int32)) < ln r27 then (if 0 < (gi M r27 ((((7 : Int32) * v4) + v6) + (1 : Int32))) then (f_X8_write_L174 k112 (f_X8_write_L136 k112 n) a0 v2 v3 v4 v6 ((1 : Int32) <<< (((7 : Int32) - v6) &&& 31)) v5 M) else (f_X8_write_L174 k112 (f_X8_write_L136 k112 n) a0 v2 v3 v4 v6 (0 : Int32) v5 M)) else none) else (f_X8_write_L183 k112 a0 v2 v3 v4 v5 M)
set_option maxRecDepth 10000 in
set_option maxHeartbeats 4000000 in
theorem t_X8_write_L136 {p : Program} {l : Launch} {e : Env} {s : State} {m : MethodId} {args : Array Value} {below : List Frame} {meth : Method} {c : Code} {D : va_G} {cs : JC} {b : Nat} (X : jX p c cX8_write 7 s m args RX8 D cs b meth s.heap) (hr : meth.sig.returnType = Option.some Jvm.ClassFile.FieldType.int) (k112 : Nat → Int32 → Int32 → Int32 → JM → Option (Int32 × JM)) (hk112 : ∀ (a0 : Nat) (v2 : Int32) (v3 : Int32) (v4 : Int32) (M : JM), oty M a0 18 → AWO p l e rm_X8_write s m args below meth c D cs b 7 s.heap (jE below D cs b evI args s rm_X8_write.cells rm_X8_write.slots) (k112 a0 v2 v3 v4 M) M 0 0 [(0, .ref (b + a0)), (2, .int v2), (3, .int v3), (4, .int v4)] 112 []) : ∀ (n : Nat) (a0 : Nat) (v2 : Int32) (v3 : Int32) (v4 : Int32) (v5 : Int32) (v6 : Int32) (M : JM), oty M a0 18 → AWO p l e rm_X8_write s m args below meth c D cs b 7 s.heap (jE below D cs b evI args s rm_X8_write.cells rm_X8_write.slots) (f_X8_write_L136 k112 n a0 v2 v3 v4 v5 v6 M) M 0 0 [(0, .ref (b + a0)), (2, .int v2), (3, .int v3), (4, .int v4), (5, .int v5), (6, .int v6)] 136 [] := by
  intro n
  induction n with
  | zero => intro a0 v2 v3 v4 v5 v6 M h_a0; exact aw_none
  | succ n ih =>
    intro a0 v2 v3 v4 v5 v6 M h_a0
    refine aw_callq (F' := if v6 < (7 : Int32) then (orf (gr M a0 26) fun r27 => if 0 ≤ ((((7 : Int32) * v4) + v6) + (1 : Int32)) ∧ ((((7 : Int32) * v4) + v6) + (1 : Int32)) < ln r27 then (if 0 < (gi M r27 ((((7 : Int32) * v4) + v6) + (1 : Int32))) then (f_X8_write_L174 k112 (f_X8_write_L136 k112 n) a0 v2 v3 v4 v6 ((1 : Int32) <<< (((7 : Int32) - v6) &&& 31)) v5 M) else (f_X8_write_L174 k112 (f_X8_write_L136 k112 n) a0 v2 v3 v4 v6 (0 : Int32) v5 M)) else none) else (f_X8_write_L183 k112 a0 v2 v3 v4 v5 M)) rfl ?_
    refine aw_iload (pc := 136) X 5 dX8_write_136 rfl ?_
    refine aw_bipush (pc := 138) X (7 : Int32) dX8_write_138 (by decide) ?_
    refine aw_icmpge (pc := 140) X 183 dX8_write_140 (by decide) ?_ ?_
    · refine aw_iload (pc := 143) X 4 dX8_write_143 rfl ?_
      refine aw_aload_n (pc := 145) X 0 dX8_write_145 rfl ?_
      refine gf_X8_60 (pc := 146) X dX8_write_146 h_a0 (fun r27 h_r27 => ?_)
      refine aw_bipush (pc := 149) X (7 : Int32) dX8_write_149 (by decide) ?_
      refine aw_iload (pc := 151) X 3 dX8_write_151 rfl ?_
      refine aw_imul (pc := 153) X dX8_write_153 ?_
      refine aw_iload (pc := 154) X 5 dX8_write_154 rfl ?_
      refine aw_iadd (pc := 156) X dX8_write_156 ?_
      refine aw_iconst (pc := 157) X (1 : Int32) dX8_write_157 (by decide) ?_
      refine aw_iadd (pc := 158) X dX8_write_158 ?_
      refine aw_iald (pc := 159) X dX8_write_159 h_r27 ?_
      refine aw_ifle (pc := 160) X 173 dX8_write_160 (by decide) ?_ ?_
      · refine aw_iconst (pc := 163) X (1 : Int32) dX8_write_163 (by decide) ?_
        refine aw_bipush (pc := 164) X (7 : Int32) dX8_write_164 (by decide) ?_
        refine aw_iload (pc := 166) X 5 dX8_write_166 rfl ?_
        refine aw_isub (pc := 168) X dX8_write_168 ?_
        refine aw_ishl (pc := 169) X dX8_write_169 ?_
        refine aw_goto (pc := 170) X 174 dX8_write_170 (by decide) ?_
        refine aw_sub [0, 1, 2, 3, 5] rfl ?_
        exact t_X8_write_L174 X hr k112 hk112 (f_X8_write_L136 k112 n) ih a0 v2 v3 v4 v6 ((1 : Int32) <<< (((7 : Int32) - v6) &&& 31)) v5 M h_a0
      · refine aw_iconst (pc := 173) X (0 : Int32) dX8_write_173 (by decide) ?_
        refine aw_sub [0, 1, 2, 3, 5] rfl ?_
        exact t_X8_write_L174 X hr k112 hk112 (f_X8_write_L136 k112 n) ih a0 v2 v3 v4 v6 (0 : Int32) v5 M h_a0
    · refine aw_sub [0, 1, 2, 3, 4] rfl ?_
      exact t_X8_write_L183 X hr k112 hk112 a0 v2 v3 v4 v5 M h_a0
def f_X8_write_L131 (k112 : Nat → Int32 → Int32 → Int32 → JM → Option (Int32 × JM)) : Nat → Int32 → Int32 → Int32 → Int32 → JM → Option (Int32 × JM) := fun a0 v2 v3 v4 u0 M => sv u0 fun i22 => sv (0 : Int32) fun i23 => f_X8_write_L136 k112 FU a0 v2 v3 v4 i22 i23 M
set_option maxRecDepth 10000 in
set_option maxHeartbeats 4000000 in
theorem t_X8_write_L131 {p : Program} {l : Launch} {e : Env} {s : State} {m : MethodId} {args : Array Value} {below : List Frame} {meth : Method} {c : Code} {D : va_G} {cs : JC} {b : Nat} (X : jX p c cX8_write 7 s m args RX8 D cs b meth s.heap) (hr : meth.sig.returnType = Option.some Jvm.ClassFile.FieldType.int) (k112 : Nat → Int32 → Int32 → Int32 → JM → Option (Int32 × JM)) (hk112 : ∀ (a0 : Nat) (v2 : Int32) (v3 : Int32) (v4 : Int32) (M : JM), oty M a0 18 → AWO p l e rm_X8_write s m args below meth c D cs b 7 s.heap (jE below D cs b evI args s rm_X8_write.cells rm_X8_write.slots) (k112 a0 v2 v3 v4 M) M 0 0 [(0, .ref (b + a0)), (2, .int v2), (3, .int v3), (4, .int v4)] 112 []) : ∀ (a0 : Nat) (v2 : Int32) (v3 : Int32) (v4 : Int32) (u0 : Int32) (M : JM), oty M a0 18 → AWO p l e rm_X8_write s m args below meth c D cs b 7 s.heap (jE below D cs b evI args s rm_X8_write.cells rm_X8_write.slots) (f_X8_write_L131 k112 a0 v2 v3 v4 u0 M) M 0 0 [(0, .ref (b + a0)), (2, .int v2), (3, .int v3), (4, .int v4)] 131 [.int u0] := by
  intro a0 v2 v3 v4 u0 M h_a0
  refine aw_callq (F' := sv u0 fun i22 => sv (0 : Int32) fun i23 => f_X8_write_L136 k112 FU a0 v2 v3 v4 i22 i23 M) rfl ?_
  refine aw_istoreV (pc := 131) X (fun y => [(5, .int y), (0, .ref (b + a0)), (2, .int v2), (3, .int v3), (4, .int v4)]) dX8_write_131 (by decide) (fun _ => rfl) (fun i22 => ?_)
  refine aw_iconst (pc := 133) X (0 : Int32) dX8_write_133 (by decide) ?_
  refine aw_istoreV (pc := 134) X (fun y => [(6, .int y), (5, .int i22), (0, .ref (b + a0)), (2, .int v2), (3, .int v3), (4, .int v4)]) dX8_write_134 (by decide) (fun _ => rfl) (fun i23 => ?_)
  refine aw_sub [2, 3, 4, 5, 1, 0] rfl ?_
  exact t_X8_write_L136 X hr k112 hk112 FU a0 v2 v3 v4 i22 i23 M h_a0
def f_X8_write_L112 : Nat → Nat → Int32 → Int32 → Int32 → JM → Option (Int32 × JM)
  | 0, _, _, _, _, _ => none
  | n + 1, a0, v2, v3, v4, M => if v4 < v3 then (if (v4 + (1 : Int32)) < v3 then (f_X8_write_L131 (f_X8_write_L112 n) a0 v2 v3 v4 (1 : Int32) M) else (f_X8_write_L131 (f_X8_write_L112 n) a0 v2 v3 v4 (0 : Int32) M)) else (f_X8_write_L195 a0 v2 M)
set_option maxRecDepth 10000 in
set_option maxHeartbeats 4000000 in
theorem t_X8_write_L112 {p : Program} {l : Launch} {e : Env} {s : State} {m : MethodId} {args : Array Value} {below : List Frame} {meth : Method} {c : Code} {D : va_G} {cs : JC} {b : Nat} (X : jX p c cX8_write 7 s m args RX8 D cs b meth s.heap) (hr : meth.sig.returnType = Option.some Jvm.ClassFile.FieldType.int) : ∀ (n : Nat) (a0 : Nat) (v2 : Int32) (v3 : Int32) (v4 : Int32) (M : JM), oty M a0 18 → AWO p l e rm_X8_write s m args below meth c D cs b 7 s.heap (jE below D cs b evI args s rm_X8_write.cells rm_X8_write.slots) (f_X8_write_L112 n a0 v2 v3 v4 M) M 0 0 [(0, .ref (b + a0)), (2, .int v2), (3, .int v3), (4, .int v4)] 112 [] := by
  intro n
  induction n with
  | zero => intro a0 v2 v3 v4 M h_a0; exact aw_none
  | succ n ih =>
    intro a0 v2 v3 v4 M h_a0
    refine aw_callq (F' := if v4 < v3 then (if (v4 + (1 : Int32)) < v3 then (f_X8_write_L131 (f_X8_write_L112 n) a0 v2 v3 v4 (1 : Int32) M) else (f_X8_write_L131 (f_X8_write_L112 n) a0 v2 v3 v4 (0 : Int32) M)) else (f_X8_write_L195 a0 v2 M)) rfl ?_
    refine aw_iload (pc := 112) X 3 dX8_write_112 rfl ?_
    refine aw_iload_n (pc := 114) X 2 dX8_write_114 rfl ?_
    refine aw_icmpge (pc := 115) X 195 dX8_write_115 (by decide) ?_ ?_
    · refine aw_iload (pc := 118) X 3 dX8_write_118 rfl ?_
      refine aw_iconst (pc := 120) X (1 : Int32) dX8_write_120 (by decide) ?_
      refine aw_iadd (pc := 121) X dX8_write_121 ?_
      refine aw_iload_n (pc := 122) X 2 dX8_write_122 rfl ?_
      refine aw_icmpge (pc := 123) X 130 dX8_write_123 (by decide) ?_ ?_
      · refine aw_iconst (pc := 126) X (1 : Int32) dX8_write_126 (by decide) ?_
        refine aw_goto (pc := 127) X 131 dX8_write_127 (by decide) ?_
        refine aw_sub [0, 1, 2, 3] rfl ?_
        exact t_X8_write_L131 X hr (f_X8_write_L112 n) ih a0 v2 v3 v4 (1 : Int32) M h_a0
      · refine aw_iconst (pc := 130) X (0 : Int32) dX8_write_130 (by decide) ?_
        refine aw_sub [0, 1, 2, 3] rfl ?_
        exact t_X8_write_L131 X hr (f_X8_write_L112 n) ih a0 v2 v3 v4 (0 : Int32) M h_a0
    · refine aw_sub [0, 1] rfl ?_
      exact t_X8_write_L195 X hr a0 v2 M h_a0
def f_X8_write_L49 : Nat → Int32 → Int32 → JM → Option (Int32 × JM) := fun a0 v1 v2 M => if v1 = 0 then (some ((-2 : Int32), M)) else (sv ((v1 + (6 : Int32)) / (7 : Int32)) fun i4 => sv (v2 + i4) fun i5 => if (300 : Int32) < ((gi M a0 8) + i5) then (some ((-3 : Int32), M)) else (orf (gr M a0 1) fun r6 => if 0 ≤ (gi M a0 25) ∧ (gi M a0 25) < ln r6 then (ob (f_X8_put a0 (gi M r6 (gi M a0 25)) M) fun _ M7 => ob (f_X8_put a0 (i5 >>> ((8 : Int32) &&& 31)) M7) fun _ M9 => ob (f_X8_put a0 i5 M9) fun _ M11 => sv (0 : Int32) fun i13 => f_X8_write_L112 FU a0 i5 i4 i13 M11) else none))
set_option maxRecDepth 10000 in
set_option maxHeartbeats 4000000 in
theorem t_X8_write_L49 {p : Program} {l : Launch} {e : Env} {s : State} {m : MethodId} {args : Array Value} {below : List Frame} {meth : Method} {c : Code} {D : va_G} {cs : JC} {b : Nat} (X : jX p c cX8_write 7 s m args RX8 D cs b meth s.heap) (hr : meth.sig.returnType = Option.some Jvm.ClassFile.FieldType.int) : ∀ (a0 : Nat) (v1 : Int32) (v2 : Int32) (M : JM), oty M a0 18 → AWO p l e rm_X8_write s m args below meth c D cs b 7 s.heap (jE below D cs b evI args s rm_X8_write.cells rm_X8_write.slots) (f_X8_write_L49 a0 v1 v2 M) M 0 0 [(0, .ref (b + a0)), (1, .int v1), (2, .int v2)] 49 [] := by
  intro a0 v1 v2 M h_a0
  refine aw_callq (F' := if v1 = 0 then (some ((-2 : Int32), M)) else (sv ((v1 + (6 : Int32)) / (7 : Int32)) fun i4 => sv (v2 + i4) fun i5 => if (300 : Int32) < ((gi M a0 8) + i5) then (some ((-3 : Int32), M)) else (orf (gr M a0 1) fun r6 => if 0 ≤ (gi M a0 25) ∧ (gi M a0 25) < ln r6 then (ob (f_X8_put a0 (gi M r6 (gi M a0 25)) M) fun _ M7 => ob (f_X8_put a0 (i5 >>> ((8 : Int32) &&& 31)) M7) fun _ M9 => ob (f_X8_put a0 i5 M9) fun _ M11 => sv (0 : Int32) fun i13 => f_X8_write_L112 FU a0 i5 i4 i13 M11) else none))) rfl ?_
  refine aw_iload_n (pc := 49) X 1 dX8_write_49 rfl ?_
  refine aw_ifne (pc := 50) X 56 dX8_write_50 (by decide) ?_ ?_
  · refine aw_bipush (pc := 53) X (-2 : Int32) dX8_write_53 (by decide) ?_
    exact aw_iret (pc := 55) X hr dX8_write_55 (Nat.le_of_ble_eq_true rfl) (Nat.le_of_ble_eq_true rfl)
  · refine aw_iload_n (pc := 56) X 1 dX8_write_56 rfl ?_
    refine aw_bipush (pc := 57) X (6 : Int32) dX8_write_57 (by decide) ?_
    refine aw_iadd (pc := 59) X dX8_write_59 ?_
    refine aw_bipush (pc := 60) X (7 : Int32) dX8_write_60 (by decide) ?_
    refine aw_idivK (pc := 62) X dX8_write_62 (by decide) ?_
    refine aw_istoreV_n (pc := 63) X (fun y => [(3, .int y), (0, .ref (b + a0)), (1, .int v1), (2, .int v2)]) dX8_write_63 (by decide) (fun _ => rfl) (fun i4 => ?_)
    refine aw_iload_n (pc := 64) X 3 dX8_write_64 rfl ?_
    refine aw_iload_n (pc := 65) X 0 dX8_write_65 rfl ?_
    refine aw_iadd (pc := 66) X dX8_write_66 ?_
    refine aw_istoreV_n (pc := 67) X (fun y => [(2, .int y), (3, .int i4), (0, .ref (b + a0)), (1, .int v1)]) dX8_write_67 (by decide) (fun _ => rfl) (fun i5 => ?_)
    refine aw_aload_n (pc := 68) X 2 dX8_write_68 rfl ?_
    refine gf_X8_133 (pc := 69) X dX8_write_69 h_a0 ?_
    refine aw_iload_n (pc := 72) X 0 dX8_write_72 rfl ?_
    refine aw_iadd (pc := 73) X dX8_write_73 ?_
    refine aw_sipush (pc := 74) X (300 : Int32) dX8_write_74 (by decide) ?_
    refine aw_icmple (pc := 77) X 83 dX8_write_77 (by decide) ?_ ?_
    · refine aw_bipush (pc := 80) X (-3 : Int32) dX8_write_80 (by decide) ?_
      exact aw_iret (pc := 82) X hr dX8_write_82 (Nat.le_of_ble_eq_true rfl) (Nat.le_of_ble_eq_true rfl)
    · refine aw_aload_n (pc := 83) X 2 dX8_write_83 rfl ?_
      refine aw_aload_n (pc := 84) X 2 dX8_write_84 rfl ?_
      refine gf_X8_7 (pc := 85) X dX8_write_85 h_a0 (fun r6 h_r6 => ?_)
      refine aw_aload_n (pc := 88) X 2 dX8_write_88 rfl ?_
      refine gf_X8_56 (pc := 89) X dX8_write_89 h_a0 ?_
      refine aw_iald (pc := 92) X dX8_write_92 h_r6 ?_
      refine cl_X8_211 (pc := 93) X ⟨Nat.le_of_ble_eq_true rfl, Nat.le_of_ble_eq_true rfl⟩ (Nat.le_of_ble_eq_true rfl) (ks2 := 0) (sl2 := 0) rfl rfl ⟨(Nat.le_of_ble_eq_true rfl), (Nat.le_of_ble_eq_true rfl)⟩ dX8_write_93 h_a0 (fun M7 g8 => ?_)
      have h_a0 := h_a0.mono g8
      refine aw_aload_n (pc := 96) X 2 dX8_write_96 rfl ?_
      refine aw_iload_n (pc := 97) X 0 dX8_write_97 rfl ?_
      refine aw_bipush (pc := 98) X (8 : Int32) dX8_write_98 (by decide) ?_
      refine aw_ishr (pc := 100) X dX8_write_100 ?_
      refine cl_X8_211 (pc := 101) X ⟨Nat.le_of_ble_eq_true rfl, Nat.le_of_ble_eq_true rfl⟩ (Nat.le_of_ble_eq_true rfl) (ks2 := 0) (sl2 := 0) rfl rfl ⟨(Nat.le_of_ble_eq_true rfl), (Nat.le_of_ble_eq_true rfl)⟩ dX8_write_101 h_a0 (fun M9 g10 => ?_)
      have h_a0 := h_a0.mono g10
      refine aw_aload_n (pc := 104) X 2 dX8_write_104 rfl ?_
      refine aw_iload_n (pc := 105) X 0 dX8_write_105 rfl ?_
      refine cl_X8_211 (pc := 106) X ⟨Nat.le_of_ble_eq_true rfl, Nat.le_of_ble_eq_true rfl⟩ (Nat.le_of_ble_eq_true rfl) (ks2 := 0) (sl2 := 0) rfl rfl ⟨(Nat.le_of_ble_eq_true rfl), (Nat.le_of_ble_eq_true rfl)⟩ dX8_write_106 h_a0 (fun M11 g12 => ?_)
      have h_a0 := h_a0.mono g12
      refine aw_iconst (pc := 109) X (0 : Int32) dX8_write_109 (by decide) ?_
      refine aw_istoreV (pc := 110) X (fun y => [(4, .int y), (2, .int i5), (3, .int i4), (0, .ref (b + a0)), (1, .int v1)]) dX8_write_110 (by decide) (fun _ => rfl) (fun i13 => ?_)
      refine aw_sub [3, 1, 2, 0] rfl ?_
      exact t_X8_write_L112 X hr FU a0 i5 i4 i13 M11 h_a0
def f_X8_write_L33 (k6 : Nat → Int32 → Int32 → Int32 → JM → Option (Int32 × JM)) : Nat → Int32 → Int32 → Int32 → JM → Option (Int32 × JM) := fun a0 v2 v3 u0 M => sv u0 fun i31 => orf (gr M a0 26) fun r32 => if 0 ≤ v3 ∧ v3 < ln r32 then (sv (v2 + (gi M r32 v3)) fun i33 => sv (v3 + (1 : Int32)) fun i34 => k6 a0 i31 i33 i34 M) else none
set_option maxRecDepth 10000 in
set_option maxHeartbeats 4000000 in
theorem t_X8_write_L33 {p : Program} {l : Launch} {e : Env} {s : State} {m : MethodId} {args : Array Value} {below : List Frame} {meth : Method} {c : Code} {D : va_G} {cs : JC} {b : Nat} (X : jX p c cX8_write 7 s m args RX8 D cs b meth s.heap) (hr : meth.sig.returnType = Option.some Jvm.ClassFile.FieldType.int) (k6 : Nat → Int32 → Int32 → Int32 → JM → Option (Int32 × JM)) (hk6 : ∀ (a0 : Nat) (v1 : Int32) (v2 : Int32) (v3 : Int32) (M : JM), oty M a0 18 → AWO p l e rm_X8_write s m args below meth c D cs b 7 s.heap (jE below D cs b evI args s rm_X8_write.cells rm_X8_write.slots) (k6 a0 v1 v2 v3 M) M 0 0 [(0, .ref (b + a0)), (1, .int v1), (2, .int v2), (3, .int v3)] 6 []) : ∀ (a0 : Nat) (v2 : Int32) (v3 : Int32) (u0 : Int32) (M : JM), oty M a0 18 → AWO p l e rm_X8_write s m args below meth c D cs b 7 s.heap (jE below D cs b evI args s rm_X8_write.cells rm_X8_write.slots) (f_X8_write_L33 k6 a0 v2 v3 u0 M) M 0 0 [(0, .ref (b + a0)), (2, .int v2), (3, .int v3)] 33 [.int u0] := by
  intro a0 v2 v3 u0 M h_a0
  refine aw_callq (F' := sv u0 fun i31 => orf (gr M a0 26) fun r32 => if 0 ≤ v3 ∧ v3 < ln r32 then (sv (v2 + (gi M r32 v3)) fun i33 => sv (v3 + (1 : Int32)) fun i34 => k6 a0 i31 i33 i34 M) else none) rfl ?_
  refine aw_istoreV_n (pc := 33) X (fun y => [(1, .int y), (0, .ref (b + a0)), (2, .int v2), (3, .int v3)]) dX8_write_33 (by decide) (fun _ => rfl) (fun i31 => ?_)
  refine aw_iload_n (pc := 34) X 2 dX8_write_34 rfl ?_
  refine aw_aload_n (pc := 35) X 1 dX8_write_35 rfl ?_
  refine gf_X8_60 (pc := 36) X dX8_write_36 h_a0 (fun r32 h_r32 => ?_)
  refine aw_iload_n (pc := 39) X 3 dX8_write_39 rfl ?_
  refine aw_iald (pc := 40) X dX8_write_40 h_r32 ?_
  refine aw_iadd (pc := 41) X dX8_write_41 ?_
  refine aw_istoreV_n (pc := 42) X (fun y => [(2, .int y), (1, .int i31), (0, .ref (b + a0)), (3, .int v3)]) dX8_write_42 (by decide) (fun _ => rfl) (fun i33 => ?_)
  refine aw_iincV (pc := 43) X (fun y => [(3, .int y), (2, .int i33), (1, .int i31), (0, .ref (b + a0))]) 3 (v := (v3 + (1 : Int32))) dX8_write_43 rfl rfl (by decide) (fun _ => rfl) (fun i34 => ?_)
  refine aw_goto (pc := 46) X 6 dX8_write_46 (by decide) ?_
  refine aw_sub [3, 2, 1, 0] rfl ?_
  exact hk6 a0 i31 i33 i34 M h_a0
def f_X8_write_L6 : Nat → Nat → Int32 → Int32 → Int32 → JM → Option (Int32 × JM)
  | 0, _, _, _, _, _ => none
  | n + 1, a0, v1, v2, v3, M => if (21 : Int32) < v3 then (f_X8_write_L49 a0 v1 v2 M) else (if (gi M a0 25) < 0 then (f_X8_write_L49 a0 v1 v2 M) else (orf (gr M a0 26) fun r30 => if 0 ≤ v3 ∧ v3 < ln r30 then (if 0 < (gi M r30 v3) then (f_X8_write_L33 (f_X8_write_L6 n) a0 v2 v3 v3 M) else (f_X8_write_L33 (f_X8_write_L6 n) a0 v2 v3 v1 M)) else none))
set_option maxRecDepth 10000 in
set_option maxHeartbeats 4000000 in
theorem t_X8_write_L6 {p : Program} {l : Launch} {e : Env} {s : State} {m : MethodId} {args : Array Value} {below : List Frame} {meth : Method} {c : Code} {D : va_G} {cs : JC} {b : Nat} (X : jX p c cX8_write 7 s m args RX8 D cs b meth s.heap) (hr : meth.sig.returnType = Option.some Jvm.ClassFile.FieldType.int) : ∀ (n : Nat) (a0 : Nat) (v1 : Int32) (v2 : Int32) (v3 : Int32) (M : JM), oty M a0 18 → AWO p l e rm_X8_write s m args below meth c D cs b 7 s.heap (jE below D cs b evI args s rm_X8_write.cells rm_X8_write.slots) (f_X8_write_L6 n a0 v1 v2 v3 M) M 0 0 [(0, .ref (b + a0)), (1, .int v1), (2, .int v2), (3, .int v3)] 6 [] := by
  intro n
  induction n with
  | zero => intro a0 v1 v2 v3 M h_a0; exact aw_none
  | succ n ih =>
    intro a0 v1 v2 v3 M h_a0
    refine aw_callq (F' := if (21 : Int32) < v3 then (f_X8_write_L49 a0 v1 v2 M) else (if (gi M a0 25) < 0 then (f_X8_write_L49 a0 v1 v2 M) else (orf (gr M a0 26) fun r30 => if 0 ≤ v3 ∧ v3 < ln r30 then (if 0 < (gi M r30 v3) then (f_X8_write_L33 (f_X8_write_L6 n) a0 v2 v3 v3 M) else (f_X8_write_L33 (f_X8_write_L6 n) a0 v2 v3 v1 M)) else none))) rfl ?_
    refine aw_iload_n (pc := 6) X 3 dX8_write_6 rfl ?_
    refine aw_bipush (pc := 7) X (21 : Int32) dX8_write_7 (by decide) ?_
    refine aw_icmpgt (pc := 9) X 49 dX8_write_9 (by decide) ?_ ?_
    · refine aw_sub [0, 1, 2] rfl ?_
      exact t_X8_write_L49 X hr a0 v1 v2 M h_a0
    · refine aw_aload_n (pc := 12) X 0 dX8_write_12 rfl ?_
      refine gf_X8_56 (pc := 13) X dX8_write_13 h_a0 ?_
      refine aw_iflt (pc := 16) X 49 dX8_write_16 (by decide) ?_ ?_
      · refine aw_sub [0, 1, 2] rfl ?_
        exact t_X8_write_L49 X hr a0 v1 v2 M h_a0
      · refine aw_aload_n (pc := 19) X 0 dX8_write_19 rfl ?_
        refine gf_X8_60 (pc := 20) X dX8_write_20 h_a0 (fun r30 h_r30 => ?_)
        refine aw_iload_n (pc := 23) X 3 dX8_write_23 rfl ?_
        refine aw_iald (pc := 24) X dX8_write_24 h_r30 ?_
        refine aw_ifle (pc := 25) X 32 dX8_write_25 (by decide) ?_ ?_
        · refine aw_iload_n (pc := 28) X 3 dX8_write_28 rfl ?_
          refine aw_goto (pc := 29) X 33 dX8_write_29 (by decide) ?_
          refine aw_sub [0, 2, 3] rfl ?_
          exact t_X8_write_L33 X hr (f_X8_write_L6 n) ih a0 v2 v3 v3 M h_a0
        · refine aw_iload_n (pc := 32) X 1 dX8_write_32 rfl ?_
          refine aw_sub [0, 2, 3] rfl ?_
          exact t_X8_write_L33 X hr (f_X8_write_L6 n) ih a0 v2 v3 v1 M h_a0
def f_X8_write (a0 : Nat) (M : JM) : Option (Int32 × JM) := sv (0 : Int32) fun i1 => sv (3 : Int32) fun i2 => sv (1 : Int32) fun i3 => f_X8_write_L6 FU a0 i1 i2 i3 M
set_option maxRecDepth 10000 in
set_option maxHeartbeats 4000000 in
theorem t_X8_write {l : Launch} {D : va_G} {cs : JC} {b : Nat} (a0 : Nat) (M : JM) (h_a0 : oty M a0 18) : ∀ q, f_X8_write a0 M = some q → CTy l yX8_write (.code yX8_write cX8_write 7 (Option.some Jvm.ClassFile.FieldType.int) :: GB) rm_X8_write D cs b evI [.ref (b + a0)] M rm_X8_write.cells rm_X8_write.slots q := fun q hq => ct_of [(0, .ref (b + a0))] rfl rfl (Nat.le_of_ble_eq_true rfl) hq (fun p e s m args below meth c X hr hin => by
  refine aw_callq (F' := sv (0 : Int32) fun i1 => sv (3 : Int32) fun i2 => sv (1 : Int32) fun i3 => f_X8_write_L6 FU a0 i1 i2 i3 M) rfl ?_
  refine aw_iconst (pc := 0) X (0 : Int32) dX8_write_0 (by decide) ?_
  refine aw_istoreV_n (pc := 1) X (fun y => [(1, .int y), (0, .ref (b + a0))]) dX8_write_1 (by decide) (fun _ => rfl) (fun i1 => ?_)
  refine aw_iconst (pc := 2) X (3 : Int32) dX8_write_2 (by decide) ?_
  refine aw_istoreV_n (pc := 3) X (fun y => [(2, .int y), (1, .int i1), (0, .ref (b + a0))]) dX8_write_3 (by decide) (fun _ => rfl) (fun i2 => ?_)
  refine aw_iconst (pc := 4) X (1 : Int32) dX8_write_4 (by decide) ?_
  refine aw_istoreV_n (pc := 5) X (fun y => [(3, .int y), (2, .int i2), (1, .int i1), (0, .ref (b + a0))]) dX8_write_5 (by decide) (fun _ => rfl) (fun i3 => ?_)
  refine aw_sub [3, 2, 1, 0] rfl ?_
  exact t_X8_write_L6 X hr FU a0 i1 i2 i3 M h_a0)
/-! ReportBlocks$Block.bytesOf -/
def rm_X0_bytesOf : Room := { frames := 0, cells := 0, slots := 0, locals := 0 }
theorem hd_X0_bytesOf : jHd yX0_bytesOf 1 := by unfold jHd; decide +kernel
def f_X0_bytesOf_L25 : Nat → Int32 → Int32 → JM → Option (Int32 × JM) := fun a0 v1 u0 M => sv u0 fun i1 => orf (gr M a0 4) fun r2 => if 0 ≤ v1 ∧ v1 < ln r2 then (some ((i1 - (gi M r2 v1)), M)) else none
set_option maxRecDepth 10000 in
set_option maxHeartbeats 4000000 in
theorem t_X0_bytesOf_L25 {p : Program} {l : Launch} {e : Env} {s : State} {m : MethodId} {args : Array Value} {below : List Frame} {meth : Method} {c : Code} {D : va_G} {cs : JC} {b : Nat} (X : jX p c cX0_bytesOf 3 s m args RX0 D cs b meth s.heap) (hr : meth.sig.returnType = Option.some Jvm.ClassFile.FieldType.int) : ∀ (a0 : Nat) (v1 : Int32) (u0 : Int32) (M : JM), oty M a0 10 → AWO p l e rm_X0_bytesOf s m args below meth c D cs b 3 s.heap (jE below D cs b evI args s rm_X0_bytesOf.cells rm_X0_bytesOf.slots) (f_X0_bytesOf_L25 a0 v1 u0 M) M 0 0 [(0, .ref (b + a0)), (1, .int v1)] 25 [.int u0] := by
  intro a0 v1 u0 M h_a0
  refine aw_callq (F' := sv u0 fun i1 => orf (gr M a0 4) fun r2 => if 0 ≤ v1 ∧ v1 < ln r2 then (some ((i1 - (gi M r2 v1)), M)) else none) rfl ?_
  refine aw_istoreV_n (pc := 25) X (fun y => [(2, .int y), (0, .ref (b + a0)), (1, .int v1)]) dX0_bytesOf_25 (by decide) (fun _ => rfl) (fun i1 => ?_)
  refine aw_iload_n (pc := 26) X 0 dX0_bytesOf_26 rfl ?_
  refine aw_aload_n (pc := 27) X 1 dX0_bytesOf_27 rfl ?_
  refine gf_X0_19 (pc := 28) X dX0_bytesOf_28 h_a0 (fun r2 h_r2 => ?_)
  refine aw_iload_n (pc := 31) X 2 dX0_bytesOf_31 rfl ?_
  refine aw_iald (pc := 32) X dX0_bytesOf_32 h_r2 ?_
  refine aw_isub (pc := 33) X dX0_bytesOf_33 ?_
  exact aw_iret (pc := 34) X hr dX0_bytesOf_34 (Nat.le_of_ble_eq_true rfl) (Nat.le_of_ble_eq_true rfl)
def f_X0_bytesOf (a0 : Nat) (v1 : Int32) (M : JM) : Option (Int32 × JM) := if (v1 + (1 : Int32)) < (gi M a0 1) then (orf (gr M a0 4) fun r3 => if 0 ≤ (v1 + (1 : Int32)) ∧ (v1 + (1 : Int32)) < ln r3 then (f_X0_bytesOf_L25 a0 v1 (gi M r3 (v1 + (1 : Int32))) M) else none) else (f_X0_bytesOf_L25 a0 v1 (gi M a0 3) M)
set_option maxRecDepth 10000 in
set_option maxHeartbeats 4000000 in
theorem t_X0_bytesOf {l : Launch} {D : va_G} {cs : JC} {b : Nat} (a0 : Nat) (v1 : Int32) (M : JM) (h_a0 : oty M a0 10) : ∀ q, f_X0_bytesOf a0 v1 M = some q → CTy l yX0_bytesOf (.code yX0_bytesOf cX0_bytesOf 3 (Option.some Jvm.ClassFile.FieldType.int) :: GB) rm_X0_bytesOf D cs b evI [.ref (b + a0), .int v1] M rm_X0_bytesOf.cells rm_X0_bytesOf.slots q := fun q hq => ct_of [(0, .ref (b + a0)), (1, .int v1)] rfl rfl (Nat.le_of_ble_eq_true rfl) hq (fun p e s m args below meth c X hr hin => by
  refine aw_callq (F' := if (v1 + (1 : Int32)) < (gi M a0 1) then (orf (gr M a0 4) fun r3 => if 0 ≤ (v1 + (1 : Int32)) ∧ (v1 + (1 : Int32)) < ln r3 then (f_X0_bytesOf_L25 a0 v1 (gi M r3 (v1 + (1 : Int32))) M) else none) else (f_X0_bytesOf_L25 a0 v1 (gi M a0 3) M)) rfl ?_
  refine aw_iload_n (pc := 0) X 1 dX0_bytesOf_0 rfl ?_
  refine aw_iconst (pc := 1) X (1 : Int32) dX0_bytesOf_1 (by decide) ?_
  refine aw_iadd (pc := 2) X dX0_bytesOf_2 ?_
  refine aw_aload_n (pc := 3) X 0 dX0_bytesOf_3 rfl ?_
  refine gf_X0_28 (pc := 4) X dX0_bytesOf_4 h_a0 ?_
  refine aw_icmpge (pc := 7) X 21 dX0_bytesOf_7 (by decide) ?_ ?_
  · refine aw_aload_n (pc := 10) X 0 dX0_bytesOf_10 rfl ?_
    refine gf_X0_19 (pc := 11) X dX0_bytesOf_11 h_a0 (fun r3 h_r3 => ?_)
    refine aw_iload_n (pc := 14) X 1 dX0_bytesOf_14 rfl ?_
    refine aw_iconst (pc := 15) X (1 : Int32) dX0_bytesOf_15 (by decide) ?_
    refine aw_iadd (pc := 16) X dX0_bytesOf_16 ?_
    refine aw_iald (pc := 17) X dX0_bytesOf_17 h_r3 ?_
    refine aw_goto (pc := 18) X 25 dX0_bytesOf_18 (by decide) ?_
    refine aw_sub [0, 1] rfl ?_
    exact t_X0_bytesOf_L25 X hr a0 v1 (gi M r3 (v1 + (1 : Int32))) M h_a0
  · refine aw_aload_n (pc := 21) X 0 dX0_bytesOf_21 rfl ?_
    refine gf_X0_43 (pc := 22) X dX0_bytesOf_22 h_a0 ?_
    refine aw_sub [0, 1] rfl ?_
    exact t_X0_bytesOf_L25 X hr a0 v1 (gi M a0 3) M h_a0)
