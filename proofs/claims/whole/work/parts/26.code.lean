/-! programs of the methods, and the rows that their bytecode answers so: written by wip/gen/gen.py out of the printed decode rows -/
/-! ReportBlocksModel.isRecord -/
def rm_X8_isRecord : Room := { frames := 1, cells := 0, slots := 0, locals := 22 }
theorem hd_X8_isRecord : jHd yX8_isRecord 1 := by unfold jHd; decide +kernel
def f_X8_isRecord (a0 : Nat) (v1 : Int32) (M : JM) : Option (Bool × JM) := ob (f_X8_in v1 (0 : Int32) ((gi M a0 14) - (1 : Int32)) M) fun r3 M1 => some (r3, M1)
set_option maxRecDepth 10000 in
set_option maxHeartbeats 4000000 in
theorem t_X8_isRecord {l : Launch} {D : va_G} {cs : JC} {b : Nat} (a0 : Nat) (v1 : Int32) (M : JM) (h_a0 : oty M a0 18) : ∀ q, f_X8_isRecord a0 v1 M = some q → CTy l yX8_isRecord (.code yX8_isRecord cX8_isRecord 2 (Option.some Jvm.ClassFile.FieldType.boolean) :: GB) rm_X8_isRecord D cs b evB [.ref (b + a0), .int v1] M rm_X8_isRecord.cells rm_X8_isRecord.slots q := fun q hq => ct_of [(0, .ref (b + a0)), (1, .int v1)] rfl rfl (Nat.le_of_ble_eq_true rfl) hq (fun p e s m args below meth c X hr hin => by
  refine aw_callq (F' := ob (f_X8_in v1 (0 : Int32) ((gi M a0 14) - (1 : Int32)) M) fun r3 M1 => some (r3, M1)) rfl ?_
  refine aw_iload_n (pc := 0) X 1 dX8_isRecord_0 rfl ?_
  refine aw_iconst (pc := 1) X (0 : Int32) dX8_isRecord_1 (by decide) ?_
  refine aw_aload_n (pc := 2) X 0 dX8_isRecord_2 rfl ?_
  refine gf_X8_117 (pc := 3) X dX8_isRecord_3 h_a0 ?_
  refine aw_iconst (pc := 6) X (1 : Int32) dX8_isRecord_6 (by decide) ?_
  refine aw_isub (pc := 7) X dX8_isRecord_7 ?_
  refine cl_X8_105 (pc := 8) X ⟨Nat.le_of_ble_eq_true rfl, Nat.le_of_ble_eq_true rfl⟩ (Nat.le_of_ble_eq_true rfl) (ks2 := 0) (sl2 := 0) rfl rfl ⟨(Nat.le_of_ble_eq_true rfl), (Nat.le_of_ble_eq_true rfl)⟩ dX8_isRecord_8  (fun r3 M1 g2 => ?_)
  have h_a0 := h_a0.mono g2
  exact aw_zret (pc := 11) X hr r3 rfl dX8_isRecord_11 (Nat.le_of_ble_eq_true rfl) (Nat.le_of_ble_eq_true rfl))
/-! ReportBlocksModel.has -/
def rm_X8_has : Room := { frames := 2, cells := 0, slots := 0, locals := 43 }
theorem hd_X8_has : jHd yX8_has 3 := by unfold jHd; decide +kernel
theorem cl_X8_196 {ρ : Type} {l : Launch} {p : Program} {e : Env} {R : Room} {s : State} {m : MethodId} {args : Array Value} {below : List Frame} {meth : Method} {c : Code} {D : va_G} {cs : JC} {b nL : Nat} {H0 : Heap} {Qf : ρ × JM → State → Prop} {M : JM} {ks sl : Nat} {lv : List (Nat × Value)} {pc : Nat} {st : List Value} {cc : ByteArray} (X : jX p c cc nL s m args RX8 D cs b meth H0) {z0 : Nat} {z1 : Int32} {K : Bool → JM → Option (ρ × JM)} (hrm : jRm rm_X8_isRecord 2 R) (hW : (st.map fun v => v.category).sum ≤ 8) {ks2 sl2 : Nat} (hk2 : ks + rm_X8_isRecord.cells = ks2) (hs2 : sl + rm_X8_isRecord.slots = sl2) (hroom : ks2 ≤ R.cells ∧ sl2 ≤ R.slots) (hdg : decode cc pc = .ok (.invokevirtual 196, 3)) (h0 : oty M z0 18) (kk : ∀ (r : Bool) (M2 : JM), gn M ≤ gn M2 → AWO p l e R s m args below meth c D cs b nL H0 Qf (K r M2) M2 ks2 sl2 lv (pc + 3) (.int (bI r) :: st)) : AWO p l e R s m args below meth c D cs b nL H0 Qf (ob (f_X8_isRecord z0 z1 M) K) M ks sl lv pc (.int z1 :: .ref (b + z0) :: st) := by
  subst hk2
  subst hs2
  exact aw_callV (ci := 8) X [.int z1] st rfl rfl wl_X8_196 wi_X8_isRecord wv_X8_isRecord wc_X8_isRecord wn_X8 (n := 1) hd_X8_isRecord rfl hrm hW hroom hdg h0 (t_X8_isRecord z0 z1 M h0) (fun r M2 g _ => kk r M2 g)
def f_X8_has (a0 : Nat) (v1 : Int32) (v2 : Int32) (v3 : Int32) (M : JM) : Option (Int32 × JM) := ob (f_X8_isRecord a0 v1 M) fun r3 M1 => if r3 = true then (ob (f_X8_isPlace v2 M1) fun r6 M4 => if r6 = true then (ob (f_X8_in v3 (0 : Int32) (1 : Int32) M4) fun r9 M7 => if r9 = true then (orf (gr M7 a0 19) fun r10 => if 0 ≤ (((22 : Int32) * v1) + v2) ∧ (((22 : Int32) * v1) + v2) < ln r10 then (sv (gi M7 r10 (((22 : Int32) * v1) + v2)) fun i11 => if v3 = 0 then (some (i11, M7)) else (if i11 = 0 then (some ((-9 : Int32), M7)) else (orf (gr M7 a0 18) fun r12 => if 0 ≤ (((22 : Int32) * v1) + v2) ∧ (((22 : Int32) * v1) + v2) < ln r12 then (some ((gi M7 r12 (((22 : Int32) * v1) + v2)), M7)) else none))) else none) else (some ((-1 : Int32), M7))) else (some ((-1 : Int32), M4))) else (some ((-1 : Int32), M1))
set_option maxRecDepth 10000 in
set_option maxHeartbeats 4000000 in
theorem t_X8_has {l : Launch} {D : va_G} {cs : JC} {b : Nat} (a0 : Nat) (v1 : Int32) (v2 : Int32) (v3 : Int32) (M : JM) (h_a0 : oty M a0 18) : ∀ q, f_X8_has a0 v1 v2 v3 M = some q → CTy l yX8_has (.code yX8_has cX8_has 5 (Option.some Jvm.ClassFile.FieldType.int) :: GB) rm_X8_has D cs b evI [.ref (b + a0), .int v1, .int v2, .int v3] M rm_X8_has.cells rm_X8_has.slots q := fun q hq => ct_of [(0, .ref (b + a0)), (1, .int v1), (2, .int v2), (3, .int v3)] rfl rfl (Nat.le_of_ble_eq_true rfl) hq (fun p e s m args below meth c X hr hin => by
  refine aw_callq (F' := ob (f_X8_isRecord a0 v1 M) fun r3 M1 => if r3 = true then (ob (f_X8_isPlace v2 M1) fun r6 M4 => if r6 = true then (ob (f_X8_in v3 (0 : Int32) (1 : Int32) M4) fun r9 M7 => if r9 = true then (orf (gr M7 a0 19) fun r10 => if 0 ≤ (((22 : Int32) * v1) + v2) ∧ (((22 : Int32) * v1) + v2) < ln r10 then (sv (gi M7 r10 (((22 : Int32) * v1) + v2)) fun i11 => if v3 = 0 then (some (i11, M7)) else (if i11 = 0 then (some ((-9 : Int32), M7)) else (orf (gr M7 a0 18) fun r12 => if 0 ≤ (((22 : Int32) * v1) + v2) ∧ (((22 : Int32) * v1) + v2) < ln r12 then (some ((gi M7 r12 (((22 : Int32) * v1) + v2)), M7)) else none))) else none) else (some ((-1 : Int32), M7))) else (some ((-1 : Int32), M4))) else (some ((-1 : Int32), M1))) rfl ?_
  refine aw_aload_n (pc := 0) X 0 dX8_has_0 rfl ?_
  refine aw_iload_n (pc := 1) X 1 dX8_has_1 rfl ?_
  refine cl_X8_196 (pc := 2) X ⟨Nat.le_of_ble_eq_true rfl, Nat.le_of_ble_eq_true rfl⟩ (Nat.le_of_ble_eq_true rfl) (ks2 := 0) (sl2 := 0) rfl rfl ⟨(Nat.le_of_ble_eq_true rfl), (Nat.le_of_ble_eq_true rfl)⟩ dX8_has_2 h_a0 (fun r3 M1 g2 => ?_)
  have h_a0 := h_a0.mono g2
  refine aw_ifeqB (pc := 5) X 24 dX8_has_5 (by decide) ?_ ?_
  · refine aw_iload_n (pc := 8) X 2 dX8_has_8 rfl ?_
    refine cl_X8_124 (pc := 9) X ⟨Nat.le_of_ble_eq_true rfl, Nat.le_of_ble_eq_true rfl⟩ (Nat.le_of_ble_eq_true rfl) (ks2 := 0) (sl2 := 0) rfl rfl ⟨(Nat.le_of_ble_eq_true rfl), (Nat.le_of_ble_eq_true rfl)⟩ dX8_has_9  (fun r6 M4 g5 => ?_)
    have h_a0 := h_a0.mono g5
    refine aw_ifeqB (pc := 12) X 24 dX8_has_12 (by decide) ?_ ?_
    · refine aw_iload_n (pc := 15) X 3 dX8_has_15 rfl ?_
      refine aw_iconst (pc := 16) X (0 : Int32) dX8_has_16 (by decide) ?_
      refine aw_iconst (pc := 17) X (1 : Int32) dX8_has_17 (by decide) ?_
      refine cl_X8_105 (pc := 18) X ⟨Nat.le_of_ble_eq_true rfl, Nat.le_of_ble_eq_true rfl⟩ (Nat.le_of_ble_eq_true rfl) (ks2 := 0) (sl2 := 0) rfl rfl ⟨(Nat.le_of_ble_eq_true rfl), (Nat.le_of_ble_eq_true rfl)⟩ dX8_has_18  (fun r9 M7 g8 => ?_)
      have h_a0 := h_a0.mono g8
      refine aw_ifneB (pc := 21) X 26 dX8_has_21 (by decide) ?_ ?_
      · refine aw_aload_n (pc := 26) X 0 dX8_has_26 rfl ?_
        refine gf_X8_40 (pc := 27) X dX8_has_27 h_a0 (fun r10 h_r10 => ?_)
        refine aw_bipush (pc := 30) X (22 : Int32) dX8_has_30 (by decide) ?_
        refine aw_iload_n (pc := 32) X 1 dX8_has_32 rfl ?_
        refine aw_imul (pc := 33) X dX8_has_33 ?_
        refine aw_iload_n (pc := 34) X 2 dX8_has_34 rfl ?_
        refine aw_iadd (pc := 35) X dX8_has_35 ?_
        refine aw_iald (pc := 36) X dX8_has_36 h_r10 ?_
        refine aw_istoreV (pc := 37) X (fun y => [(4, .int y), (0, .ref (b + a0)), (1, .int v1), (2, .int v2), (3, .int v3)]) dX8_has_37 (by decide) (fun _ => rfl) (fun i11 => ?_)
        refine aw_iload_n (pc := 39) X 4 dX8_has_39 rfl ?_
        refine aw_ifne (pc := 40) X 48 dX8_has_40 (by decide) ?_ ?_
        · refine aw_iload (pc := 43) X 0 dX8_has_43 rfl ?_
          refine aw_goto (pc := 45) X 69 dX8_has_45 (by decide) ?_
          exact aw_iret (pc := 69) X hr dX8_has_69 (Nat.le_of_ble_eq_true rfl) (Nat.le_of_ble_eq_true rfl)
        · refine aw_iload (pc := 48) X 0 dX8_has_48 rfl ?_
          refine aw_ifne (pc := 50) X 58 dX8_has_50 (by decide) ?_ ?_
          · refine aw_bipush (pc := 53) X (-9 : Int32) dX8_has_53 (by decide) ?_
            refine aw_goto (pc := 55) X 69 dX8_has_55 (by decide) ?_
            exact aw_iret (pc := 69) X hr dX8_has_69 (Nat.le_of_ble_eq_true rfl) (Nat.le_of_ble_eq_true rfl)
          · refine aw_aload_n (pc := 58) X 1 dX8_has_58 rfl ?_
            refine gf_X8_37 (pc := 59) X dX8_has_59 h_a0 (fun r12 h_r12 => ?_)
            refine aw_bipush (pc := 62) X (22 : Int32) dX8_has_62 (by decide) ?_
            refine aw_iload_n (pc := 64) X 2 dX8_has_64 rfl ?_
            refine aw_imul (pc := 65) X dX8_has_65 ?_
            refine aw_iload_n (pc := 66) X 3 dX8_has_66 rfl ?_
            refine aw_iadd (pc := 67) X dX8_has_67 ?_
            refine aw_iald (pc := 68) X dX8_has_68 h_r12 ?_
            exact aw_iret (pc := 69) X hr dX8_has_69 (Nat.le_of_ble_eq_true rfl) (Nat.le_of_ble_eq_true rfl)
      · refine aw_iconst (pc := 24) X (-1 : Int32) dX8_has_24 (by decide) ?_
        exact aw_iret (pc := 25) X hr dX8_has_25 (Nat.le_of_ble_eq_true rfl) (Nat.le_of_ble_eq_true rfl)
    · refine aw_iconst (pc := 24) X (-1 : Int32) dX8_has_24 (by decide) ?_
      exact aw_iret (pc := 25) X hr dX8_has_25 (Nat.le_of_ble_eq_true rfl) (Nat.le_of_ble_eq_true rfl)
  · refine aw_iconst (pc := 24) X (-1 : Int32) dX8_has_24 (by decide) ?_
    exact aw_iret (pc := 25) X hr dX8_has_25 (Nat.le_of_ble_eq_true rfl) (Nat.le_of_ble_eq_true rfl))
/-! ReportBlocks.at -/
def rm_X7_at : Room := { frames := 3, cells := 0, slots := 0, locals := 65 }
theorem hd_X7_at : jHd yX7_at 3 := by unfold jHd; decide +kernel
theorem gf_X7_166 {ρ : Type} {l : Launch} {p : Program} {e : Env} {R : Room} {s : State} {m : MethodId} {args : Array Value} {below : List Frame} {meth : Method} {c : Code} {D : va_G} {cs : JC} {b nL : Nat} {H0 : Heap} {Qf : ρ × JM → State → Prop} {M : JM} {ks sl : Nat} {lv : List (Nat × Value)} {pc : Nat} {st : List Value} {cc : ByteArray} {k : Nat} (X : jX p c cc nL s m args RX7 D cs b meth H0) {K : Nat → Option (ρ × JM)} (hdg : decode cc pc = .ok (.getfield 166, 3)) (ho : oty M k 10) (kk : ∀ r : Nat, oty M r 1 → AWO p l e R s m args below meth c D cs b nL H0 Qf (K r) M ks sl lv (pc + 3) (.ref (b + r) :: st)) : AWO p l e R s m args below meth c D cs b nL H0 Qf (orf (gr M k 2) K) M ks sl lv pc (.ref (b + k) :: st) := aw_getR (ci := 0) (τ := 1) X 2 rfl gy_X0 (by decide) (by decide) rfl rfl (by decide) wf_X7_166 hdg ho kk
def f_X7_at (a0 : Nat) (v1 : Int32) (v2 : Int32) (v3 : Int32) (M : JM) : Option (Int32 × JM) := ob (f_X7_isRecord a0 v1 M) fun r3 M1 => if r3 = true then (ob (f_X7_isPlace v2 M1) fun r6 M4 => if r6 = true then (if v3 < 0 then (some ((-9 : Int32), M4)) else (orf (gr M4 a0 4) fun r7 => ob (f_X0_sizeOf r7 v1 v2 M4) fun r10 M8 => if v3 < r10 then (orf (gr M8 a0 4) fun r11 => orf (gr M8 r11 2) fun r12 => orf (gr M8 a0 4) fun r13 => ob (f_X0_beginOf r13 v1 v2 M8) fun r16 M14 => if 0 ≤ (r16 + v3) ∧ (r16 + v3) < ln r12 then (some ((gi M14 r12 (r16 + v3)), M14)) else none) else (some ((-9 : Int32), M8)))) else (some ((-1 : Int32), M4))) else (some ((-1 : Int32), M1))
set_option maxRecDepth 10000 in
set_option maxHeartbeats 4000000 in
theorem t_X7_at {l : Launch} {D : va_G} {cs : JC} {b : Nat} (a0 : Nat) (v1 : Int32) (v2 : Int32) (v3 : Int32) (M : JM) (h_a0 : oty M a0 17) : ∀ q, f_X7_at a0 v1 v2 v3 M = some q → CTy l yX7_at (.code yX7_at cX7_at 4 (Option.some Jvm.ClassFile.FieldType.int) :: GB) rm_X7_at D cs b evI [.ref (b + a0), .int v1, .int v2, .int v3] M rm_X7_at.cells rm_X7_at.slots q := fun q hq => ct_of [(0, .ref (b + a0)), (1, .int v1), (2, .int v2), (3, .int v3)] rfl rfl (Nat.le_of_ble_eq_true rfl) hq (fun p e s m args below meth c X hr hin => by
  refine aw_callq (F' := ob (f_X7_isRecord a0 v1 M) fun r3 M1 => if r3 = true then (ob (f_X7_isPlace v2 M1) fun r6 M4 => if r6 = true then (if v3 < 0 then (some ((-9 : Int32), M4)) else (orf (gr M4 a0 4) fun r7 => ob (f_X0_sizeOf r7 v1 v2 M4) fun r10 M8 => if v3 < r10 then (orf (gr M8 a0 4) fun r11 => orf (gr M8 r11 2) fun r12 => orf (gr M8 a0 4) fun r13 => ob (f_X0_beginOf r13 v1 v2 M8) fun r16 M14 => if 0 ≤ (r16 + v3) ∧ (r16 + v3) < ln r12 then (some ((gi M14 r12 (r16 + v3)), M14)) else none) else (some ((-9 : Int32), M8)))) else (some ((-1 : Int32), M4))) else (some ((-1 : Int32), M1))) rfl ?_
  refine aw_aload_n (pc := 0) X 0 dX7_at_0 rfl ?_
  refine aw_iload_n (pc := 1) X 1 dX7_at_1 rfl ?_
  refine cl_X7_157 (pc := 2) X ⟨Nat.le_of_ble_eq_true rfl, Nat.le_of_ble_eq_true rfl⟩ (Nat.le_of_ble_eq_true rfl) (ks2 := 0) (sl2 := 0) rfl rfl ⟨(Nat.le_of_ble_eq_true rfl), (Nat.le_of_ble_eq_true rfl)⟩ dX7_at_2 h_a0 (fun r3 M1 g2 => ?_)
  have h_a0 := h_a0.mono g2
  refine aw_ifeqB (pc := 5) X 15 dX7_at_5 (by decide) ?_ ?_
  · refine aw_iload_n (pc := 8) X 2 dX7_at_8 rfl ?_
    refine cl_X7_70 (pc := 9) X ⟨Nat.le_of_ble_eq_true rfl, Nat.le_of_ble_eq_true rfl⟩ (Nat.le_of_ble_eq_true rfl) (ks2 := 0) (sl2 := 0) rfl rfl ⟨(Nat.le_of_ble_eq_true rfl), (Nat.le_of_ble_eq_true rfl)⟩ dX7_at_9  (fun r6 M4 g5 => ?_)
    have h_a0 := h_a0.mono g5
    refine aw_ifneB (pc := 12) X 17 dX7_at_12 (by decide) ?_ ?_
    · refine aw_iload_n (pc := 17) X 3 dX7_at_17 rfl ?_
      refine aw_iflt (pc := 18) X 34 dX7_at_18 (by decide) ?_ ?_
      · refine aw_bipush (pc := 34) X (-9 : Int32) dX7_at_34 (by decide) ?_
        exact aw_iret (pc := 36) X hr dX7_at_36 (Nat.le_of_ble_eq_true rfl) (Nat.le_of_ble_eq_true rfl)
      · refine aw_iload_n (pc := 21) X 3 dX7_at_21 rfl ?_
        refine aw_aload_n (pc := 22) X 0 dX7_at_22 rfl ?_
        refine gf_X7_34 (pc := 23) X dX7_at_23 h_a0 (fun r7 h_r7 => ?_)
        refine aw_iload_n (pc := 26) X 1 dX7_at_26 rfl ?_
        refine aw_iload_n (pc := 27) X 2 dX7_at_27 rfl ?_
        refine cl_X7_160 (pc := 28) X ⟨Nat.le_of_ble_eq_true rfl, Nat.le_of_ble_eq_true rfl⟩ (Nat.le_of_ble_eq_true rfl) (ks2 := 0) (sl2 := 0) rfl rfl ⟨(Nat.le_of_ble_eq_true rfl), (Nat.le_of_ble_eq_true rfl)⟩ dX7_at_28 h_r7 (fun r10 M8 g9 => ?_)
        have h_a0 := h_a0.mono g9
        refine aw_icmplt (pc := 31) X 37 dX7_at_31 (by decide) ?_ ?_
        · refine aw_aload_n (pc := 37) X 0 dX7_at_37 rfl ?_
          refine gf_X7_34 (pc := 38) X dX7_at_38 h_a0 (fun r11 h_r11 => ?_)
          refine gf_X7_166 (pc := 41) X dX7_at_41 h_r11 (fun r12 h_r12 => ?_)
          refine aw_aload_n (pc := 44) X 0 dX7_at_44 rfl ?_
          refine gf_X7_34 (pc := 45) X dX7_at_45 h_a0 (fun r13 h_r13 => ?_)
          refine aw_iload_n (pc := 48) X 1 dX7_at_48 rfl ?_
          refine aw_iload_n (pc := 49) X 2 dX7_at_49 rfl ?_
          refine cl_X7_163 (pc := 50) X ⟨Nat.le_of_ble_eq_true rfl, Nat.le_of_ble_eq_true rfl⟩ (Nat.le_of_ble_eq_true rfl) (ks2 := 0) (sl2 := 0) rfl rfl ⟨(Nat.le_of_ble_eq_true rfl), (Nat.le_of_ble_eq_true rfl)⟩ dX7_at_50 h_r13 (fun r16 M14 g15 => ?_)
          have h_a0 := h_a0.mono g15
          have h_r12 := h_r12.mono g15
          refine aw_iload_n (pc := 53) X 3 dX7_at_53 rfl ?_
          refine aw_iadd (pc := 54) X dX7_at_54 ?_
          refine aw_iald (pc := 55) X dX7_at_55 h_r12 ?_
          exact aw_iret (pc := 56) X hr dX7_at_56 (Nat.le_of_ble_eq_true rfl) (Nat.le_of_ble_eq_true rfl)
        · refine aw_bipush (pc := 34) X (-9 : Int32) dX7_at_34 (by decide) ?_
          exact aw_iret (pc := 36) X hr dX7_at_36 (Nat.le_of_ble_eq_true rfl) (Nat.le_of_ble_eq_true rfl)
    · refine aw_iconst (pc := 15) X (-1 : Int32) dX7_at_15 (by decide) ?_
      exact aw_iret (pc := 16) X hr dX7_at_16 (Nat.le_of_ble_eq_true rfl) (Nat.le_of_ble_eq_true rfl)
  · refine aw_iconst (pc := 15) X (-1 : Int32) dX7_at_15 (by decide) ?_
    exact aw_iret (pc := 16) X hr dX7_at_16 (Nat.le_of_ble_eq_true rfl) (Nat.le_of_ble_eq_true rfl))
/-! ReportBlocksModel.at -/
def rm_X8_at : Room := { frames := 2, cells := 0, slots := 0, locals := 43 }
theorem hd_X8_at : jHd yX8_at 3 := by unfold jHd; decide +kernel
def f_X8_at (a0 : Nat) (v1 : Int32) (v2 : Int32) (v3 : Int32) (M : JM) : Option (Int32 × JM) := ob (f_X8_isRecord a0 v1 M) fun r3 M1 => if r3 = true then (ob (f_X8_isPlace v2 M1) fun r6 M4 => if r6 = true then (orf (gr M4 a0 19) fun r7 => if 0 ≤ (((22 : Int32) * v1) + v2) ∧ (((22 : Int32) * v1) + v2) < ln r7 then (ob (f_X8_in v3 (0 : Int32) ((gi M4 r7 (((22 : Int32) * v1) + v2)) - (1 : Int32)) M4) fun r10 M8 => if r10 = true then (orf (gr M8 a0 16) fun r11 => orf (gr M8 a0 18) fun r12 => if 0 ≤ (((22 : Int32) * v1) + v2) ∧ (((22 : Int32) * v1) + v2) < ln r12 then (if 0 ≤ ((gi M8 r12 (((22 : Int32) * v1) + v2)) + v3) ∧ ((gi M8 r12 (((22 : Int32) * v1) + v2)) + v3) < ln r11 then (some ((gi M8 r11 ((gi M8 r12 (((22 : Int32) * v1) + v2)) + v3)), M8)) else none) else none) else (some ((-9 : Int32), M8))) else none) else (some ((-1 : Int32), M4))) else (some ((-1 : Int32), M1))
set_option maxRecDepth 10000 in
set_option maxHeartbeats 4000000 in
theorem t_X8_at {l : Launch} {D : va_G} {cs : JC} {b : Nat} (a0 : Nat) (v1 : Int32) (v2 : Int32) (v3 : Int32) (M : JM) (h_a0 : oty M a0 18) : ∀ q, f_X8_at a0 v1 v2 v3 M = some q → CTy l yX8_at (.code yX8_at cX8_at 4 (Option.some Jvm.ClassFile.FieldType.int) :: GB) rm_X8_at D cs b evI [.ref (b + a0), .int v1, .int v2, .int v3] M rm_X8_at.cells rm_X8_at.slots q := fun q hq => ct_of [(0, .ref (b + a0)), (1, .int v1), (2, .int v2), (3, .int v3)] rfl rfl (Nat.le_of_ble_eq_true rfl) hq (fun p e s m args below meth c X hr hin => by
  refine aw_callq (F' := ob (f_X8_isRecord a0 v1 M) fun r3 M1 => if r3 = true then (ob (f_X8_isPlace v2 M1) fun r6 M4 => if r6 = true then (orf (gr M4 a0 19) fun r7 => if 0 ≤ (((22 : Int32) * v1) + v2) ∧ (((22 : Int32) * v1) + v2) < ln r7 then (ob (f_X8_in v3 (0 : Int32) ((gi M4 r7 (((22 : Int32) * v1) + v2)) - (1 : Int32)) M4) fun r10 M8 => if r10 = true then (orf (gr M8 a0 16) fun r11 => orf (gr M8 a0 18) fun r12 => if 0 ≤ (((22 : Int32) * v1) + v2) ∧ (((22 : Int32) * v1) + v2) < ln r12 then (if 0 ≤ ((gi M8 r12 (((22 : Int32) * v1) + v2)) + v3) ∧ ((gi M8 r12 (((22 : Int32) * v1) + v2)) + v3) < ln r11 then (some ((gi M8 r11 ((gi M8 r12 (((22 : Int32) * v1) + v2)) + v3)), M8)) else none) else none) else (some ((-9 : Int32), M8))) else none) else (some ((-1 : Int32), M4))) else (some ((-1 : Int32), M1))) rfl ?_
  refine aw_aload_n (pc := 0) X 0 dX8_at_0 rfl ?_
  refine aw_iload_n (pc := 1) X 1 dX8_at_1 rfl ?_
  refine cl_X8_196 (pc := 2) X ⟨Nat.le_of_ble_eq_true rfl, Nat.le_of_ble_eq_true rfl⟩ (Nat.le_of_ble_eq_true rfl) (ks2 := 0) (sl2 := 0) rfl rfl ⟨(Nat.le_of_ble_eq_true rfl), (Nat.le_of_ble_eq_true rfl)⟩ dX8_at_2 h_a0 (fun r3 M1 g2 => ?_)
  have h_a0 := h_a0.mono g2
  refine aw_ifeqB (pc := 5) X 15 dX8_at_5 (by decide) ?_ ?_
  · refine aw_iload_n (pc := 8) X 2 dX8_at_8 rfl ?_
    refine cl_X8_124 (pc := 9) X ⟨Nat.le_of_ble_eq_true rfl, Nat.le_of_ble_eq_true rfl⟩ (Nat.le_of_ble_eq_true rfl) (ks2 := 0) (sl2 := 0) rfl rfl ⟨(Nat.le_of_ble_eq_true rfl), (Nat.le_of_ble_eq_true rfl)⟩ dX8_at_9  (fun r6 M4 g5 => ?_)
    have h_a0 := h_a0.mono g5
    refine aw_ifneB (pc := 12) X 17 dX8_at_12 (by decide) ?_ ?_
    · refine aw_iload_n (pc := 17) X 3 dX8_at_17 rfl ?_
      refine aw_iconst (pc := 18) X (0 : Int32) dX8_at_18 (by decide) ?_
      refine aw_aload_n (pc := 19) X 0 dX8_at_19 rfl ?_
      refine gf_X8_40 (pc := 20) X dX8_at_20 h_a0 (fun r7 h_r7 => ?_)
      refine aw_bipush (pc := 23) X (22 : Int32) dX8_at_23 (by decide) ?_
      refine aw_iload_n (pc := 25) X 1 dX8_at_25 rfl ?_
      refine aw_imul (pc := 26) X dX8_at_26 ?_
      refine aw_iload_n (pc := 27) X 2 dX8_at_27 rfl ?_
      refine aw_iadd (pc := 28) X dX8_at_28 ?_
      refine aw_iald (pc := 29) X dX8_at_29 h_r7 ?_
      refine aw_iconst (pc := 30) X (1 : Int32) dX8_at_30 (by decide) ?_
      refine aw_isub (pc := 31) X dX8_at_31 ?_
      refine cl_X8_105 (pc := 32) X ⟨Nat.le_of_ble_eq_true rfl, Nat.le_of_ble_eq_true rfl⟩ (Nat.le_of_ble_eq_true rfl) (ks2 := 0) (sl2 := 0) rfl rfl ⟨(Nat.le_of_ble_eq_true rfl), (Nat.le_of_ble_eq_true rfl)⟩ dX8_at_32  (fun r10 M8 g9 => ?_)
      have h_a0 := h_a0.mono g9
      refine aw_ifeqB (pc := 35) X 59 dX8_at_35 (by decide) ?_ ?_
      · refine aw_aload_n (pc := 38) X 0 dX8_at_38 rfl ?_
        refine gf_X8_31 (pc := 39) X dX8_at_39 h_a0 (fun r11 h_r11 => ?_)
        refine aw_aload_n (pc := 42) X 0 dX8_at_42 rfl ?_
        refine gf_X8_37 (pc := 43) X dX8_at_43 h_a0 (fun r12 h_r12 => ?_)
        refine aw_bipush (pc := 46) X (22 : Int32) dX8_at_46 (by decide) ?_
        refine aw_iload_n (pc := 48) X 1 dX8_at_48 rfl ?_
        refine aw_imul (pc := 49) X dX8_at_49 ?_
        refine aw_iload_n (pc := 50) X 2 dX8_at_50 rfl ?_
        refine aw_iadd (pc := 51) X dX8_at_51 ?_
        refine aw_iald (pc := 52) X dX8_at_52 h_r12 ?_
        refine aw_iload_n (pc := 53) X 3 dX8_at_53 rfl ?_
        refine aw_iadd (pc := 54) X dX8_at_54 ?_
        refine aw_iald (pc := 55) X dX8_at_55 h_r11 ?_
        refine aw_goto (pc := 56) X 61 dX8_at_56 (by decide) ?_
        exact aw_iret (pc := 61) X hr dX8_at_61 (Nat.le_of_ble_eq_true rfl) (Nat.le_of_ble_eq_true rfl)
      · refine aw_bipush (pc := 59) X (-9 : Int32) dX8_at_59 (by decide) ?_
        exact aw_iret (pc := 61) X hr dX8_at_61 (Nat.le_of_ble_eq_true rfl) (Nat.le_of_ble_eq_true rfl)
    · refine aw_iconst (pc := 15) X (-1 : Int32) dX8_at_15 (by decide) ?_
      exact aw_iret (pc := 16) X hr dX8_at_16 (Nat.le_of_ble_eq_true rfl) (Nat.le_of_ble_eq_true rfl)
  · refine aw_iconst (pc := 15) X (-1 : Int32) dX8_at_15 (by decide) ?_
    exact aw_iret (pc := 16) X hr dX8_at_16 (Nat.le_of_ble_eq_true rfl) (Nat.le_of_ble_eq_true rfl))
/-! ReportBlocks$Block.joined -/
def rm_X0_joined : Room := { frames := 0, cells := 0, slots := 0, locals := 0 }
theorem hd_X0_joined : jHd yX0_joined 2 := by unfold jHd; decide +kernel
theorem gf_X0_43 {ρ : Type} {l : Launch} {p : Program} {e : Env} {R : Room} {s : State} {m : MethodId} {args : Array Value} {below : List Frame} {meth : Method} {c : Code} {D : va_G} {cs : JC} {b nL : Nat} {H0 : Heap} {Qf : ρ × JM → State → Prop} {M : JM} {ks sl : Nat} {lv : List (Nat × Value)} {pc : Nat} {st : List Value} {cc : ByteArray} {k : Nat} (X : jX p c cc nL s m args RX0 D cs b meth H0) {F : Option (ρ × JM)} (hdg : decode cc pc = .ok (.getfield 43, 3)) (ho : oty M k 10) (kk : AWO p l e R s m args below meth c D cs b nL H0 Qf F M ks sl lv (pc + 3) (.int (gi M k 3) :: st)) : AWO p l e R s m args below meth c D cs b nL H0 Qf F M ks sl lv pc (.ref (b + k) :: st) := aw_getI (ci := 0) X 3 rfl gy_X0 (by decide) rfl rfl wf_X0_43 hdg ho kk
def f_X0_joined_L5 : Nat → Nat → Int32 → Int32 → Int64 → Int32 → JM → Option (Int64 × JM)
  | 0, _, _, _, _, _, _ => none
  | n + 1, a0, v1, v2, v3, v5, M => if v5 < (v1 + v2) then (if v5 < (gi M a0 3) then (orf (gr M a0 2) fun r3 => if 0 ≤ v5 ∧ v5 < ln r3 then (svL ((v3 <<< ((8 : Int32).toInt64 &&& 63)) ||| (gi M r3 v5).toInt64) fun j4 => sv (v5 + (1 : Int32)) fun i5 => (f_X0_joined_L5 n) a0 v1 v2 j4 i5 M) else none) else (some (v3, M))) else (some (v3, M))
set_option maxRecDepth 10000 in
set_option maxHeartbeats 4000000 in
theorem t_X0_joined_L5 {p : Program} {l : Launch} {e : Env} {s : State} {m : MethodId} {args : Array Value} {below : List Frame} {meth : Method} {c : Code} {D : va_G} {cs : JC} {b : Nat} (X : jX p c cX0_joined 6 s m args RX0 D cs b meth s.heap) (hr : meth.sig.returnType = Option.some Jvm.ClassFile.FieldType.long) : ∀ (n : Nat) (a0 : Nat) (v1 : Int32) (v2 : Int32) (v3 : Int64) (v5 : Int32) (M : JM), oty M a0 10 → AWO p l e rm_X0_joined s m args below meth c D cs b 6 s.heap (jE below D cs b evL args s rm_X0_joined.cells rm_X0_joined.slots) (f_X0_joined_L5 n a0 v1 v2 v3 v5 M) M 0 0 [(0, .ref (b + a0)), (1, .int v1), (2, .int v2), (3, .long v3), (5, .int v5)] 5 [] := by
  intro n
  induction n with
  | zero => intro a0 v1 v2 v3 v5 M h_a0; exact aw_none
  | succ n ih =>
    intro a0 v1 v2 v3 v5 M h_a0
    refine aw_callq (F' := if v5 < (v1 + v2) then (if v5 < (gi M a0 3) then (orf (gr M a0 2) fun r3 => if 0 ≤ v5 ∧ v5 < ln r3 then (svL ((v3 <<< ((8 : Int32).toInt64 &&& 63)) ||| (gi M r3 v5).toInt64) fun j4 => sv (v5 + (1 : Int32)) fun i5 => (f_X0_joined_L5 n) a0 v1 v2 j4 i5 M) else none) else (some (v3, M))) else (some (v3, M))) rfl ?_
    refine aw_iload (pc := 5) X 4 dX0_joined_5 rfl ?_
    refine aw_iload_n (pc := 7) X 1 dX0_joined_7 rfl ?_
    refine aw_iload_n (pc := 8) X 2 dX0_joined_8 rfl ?_
    refine aw_iadd (pc := 9) X dX0_joined_9 ?_
    refine aw_icmpge (pc := 10) X 42 dX0_joined_10 (by decide) ?_ ?_
    · refine aw_iload (pc := 13) X 4 dX0_joined_13 rfl ?_
      refine aw_aload_n (pc := 15) X 0 dX0_joined_15 rfl ?_
      refine gf_X0_43 (pc := 16) X dX0_joined_16 h_a0 ?_
      refine aw_icmpge (pc := 19) X 42 dX0_joined_19 (by decide) ?_ ?_
      · refine aw_lload_n (pc := 22) X 3 dX0_joined_22 rfl ?_
        refine aw_bipush (pc := 23) X (8 : Int32) dX0_joined_23 (by decide) ?_
        refine aw_lshl (pc := 25) X dX0_joined_25 ?_
        refine aw_aload_n (pc := 26) X 0 dX0_joined_26 rfl ?_
        refine gf_X0_15 (pc := 27) X dX0_joined_27 h_a0 (fun r3 h_r3 => ?_)
        refine aw_iload (pc := 30) X 4 dX0_joined_30 rfl ?_
        refine aw_iald (pc := 32) X dX0_joined_32 h_r3 ?_
        refine aw_i2l (pc := 33) X dX0_joined_33 ?_
        refine aw_lor (pc := 34) X dX0_joined_34 ?_
        refine aw_lstoreV_n (pc := 35) X (fun y => [(3, .long y), (0, .ref (b + a0)), (1, .int v1), (2, .int v2), (5, .int v5)]) dX0_joined_35 (by decide) (fun _ => rfl) (fun j4 => ?_)
        refine aw_iincV (pc := 36) X (fun y => [(5, .int y), (3, .long j4), (0, .ref (b + a0)), (1, .int v1), (2, .int v2)]) 4 (v := (v5 + (1 : Int32))) dX0_joined_36 rfl rfl (by decide) (fun _ => rfl) (fun i5 => ?_)
        refine aw_goto (pc := 39) X 5 dX0_joined_39 (by decide) ?_
        refine aw_sub [2, 3, 4, 1, 0] rfl ?_
        exact ih a0 v1 v2 j4 i5 M h_a0
      · refine aw_lload_n (pc := 42) X 3 dX0_joined_42 rfl ?_
        exact aw_lret (pc := 43) X hr dX0_joined_43 (Nat.le_of_ble_eq_true rfl) (Nat.le_of_ble_eq_true rfl)
    · refine aw_lload_n (pc := 42) X 3 dX0_joined_42 rfl ?_
      exact aw_lret (pc := 43) X hr dX0_joined_43 (Nat.le_of_ble_eq_true rfl) (Nat.le_of_ble_eq_true rfl)
def f_X0_joined (a0 : Nat) (v1 : Int32) (v2 : Int32) (M : JM) : Option (Int64 × JM) := svL (0 : Int64) fun j1 => sv v1 fun i2 => f_X0_joined_L5 FU a0 v1 v2 j1 i2 M
set_option maxRecDepth 10000 in
set_option maxHeartbeats 4000000 in
theorem t_X0_joined {l : Launch} {D : va_G} {cs : JC} {b : Nat} (a0 : Nat) (v1 : Int32) (v2 : Int32) (M : JM) (h_a0 : oty M a0 10) : ∀ q, f_X0_joined a0 v1 v2 M = some q → CTy l yX0_joined (.code yX0_joined cX0_joined 6 (Option.some Jvm.ClassFile.FieldType.long) :: GB) rm_X0_joined D cs b evL [.ref (b + a0), .int v1, .int v2] M rm_X0_joined.cells rm_X0_joined.slots q := fun q hq => ct_of [(0, .ref (b + a0)), (1, .int v1), (2, .int v2)] rfl rfl (Nat.le_of_ble_eq_true rfl) hq (fun p e s m args below meth c X hr hin => by
  refine aw_callq (F' := svL (0 : Int64) fun j1 => sv v1 fun i2 => f_X0_joined_L5 FU a0 v1 v2 j1 i2 M) rfl ?_
  refine aw_lconst (pc := 0) X (0 : Int64) dX0_joined_0 (by decide) ?_
  refine aw_lstoreV_n (pc := 1) X (fun y => [(3, .long y), (0, .ref (b + a0)), (1, .int v1), (2, .int v2)]) dX0_joined_1 (by decide) (fun _ => rfl) (fun j1 => ?_)
  refine aw_iload_n (pc := 2) X 2 dX0_joined_2 rfl ?_
  refine aw_istoreV (pc := 3) X (fun y => [(5, .int y), (3, .long j1), (0, .ref (b + a0)), (1, .int v1), (2, .int v2)]) dX0_joined_3 (by decide) (fun _ => rfl) (fun i2 => ?_)
  refine aw_sub [2, 3, 4, 1, 0] rfl ?_
  exact t_X0_joined_L5 X hr FU a0 v1 v2 j1 i2 M h_a0)
/-! ReportBlocks.partNumber -/
def rm_X7_partNumber : Room := { frames := 1, cells := 0, slots := 0, locals := 25 }
theorem hd_X7_partNumber : jHd yX7_partNumber 4 := by unfold jHd; decide +kernel
theorem cl_X7_291 {ρ : Type} {l : Launch} {p : Program} {e : Env} {R : Room} {s : State} {m : MethodId} {args : Array Value} {below : List Frame} {meth : Method} {c : Code} {D : va_G} {cs : JC} {b nL : Nat} {H0 : Heap} {Qf : ρ × JM → State → Prop} {M : JM} {ks sl : Nat} {lv : List (Nat × Value)} {pc : Nat} {st : List Value} {cc : ByteArray} (X : jX p c cc nL s m args RX7 D cs b meth H0) {z0 : Nat} {z1 : Int32} {z2 : Int32} {K : Bool → JM → Option (ρ × JM)} (hrm : jRm rm_X7_isOne 4 R) (hW : (st.map fun v => v.category).sum ≤ 8) {ks2 sl2 : Nat} (hk2 : ks + rm_X7_isOne.cells = ks2) (hs2 : sl + rm_X7_isOne.slots = sl2) (hroom : ks2 ≤ R.cells ∧ sl2 ≤ R.slots) (hdg : decode cc pc = .ok (.invokestatic 291, 3)) (h0 : oty M z0 1) (kk : ∀ (r : Bool) (M2 : JM), gn M ≤ gn M2 → AWO p l e R s m args below meth c D cs b nL H0 Qf (K r M2) M2 ks2 sl2 lv (pc + 3) (.int (bI r) :: st)) : AWO p l e R s m args below meth c D cs b nL H0 Qf (ob (f_X7_isOne z0 z1 z2 M) K) M ks sl lv pc (.int z2 :: .int z1 :: .ref (b + z0) :: st) := by
  subst hk2
  subst hs2
  exact aw_callS X [.ref (b + z0), .int z1, .int z2] st rfl wl_X7_291 wt_X7_isOne wc_X7_isOne wn_X7 (n := 3) hd_X7_isOne rfl hrm hW hroom hdg (t_X7_isOne z0 z1 z2 M h0) (fun r M2 g _ => kk r M2 g)
theorem cl_X7_171 {ρ : Type} {l : Launch} {p : Program} {e : Env} {R : Room} {s : State} {m : MethodId} {args : Array Value} {below : List Frame} {meth : Method} {c : Code} {D : va_G} {cs : JC} {b nL : Nat} {H0 : Heap} {Qf : ρ × JM → State → Prop} {M : JM} {ks sl : Nat} {lv : List (Nat × Value)} {pc : Nat} {st : List Value} {cc : ByteArray} (X : jX p c cc nL s m args RX7 D cs b meth H0) {z0 : Nat} {z1 : Int32} {z2 : Int32} {K : Int64 → JM → Option (ρ × JM)} (hrm : jRm rm_X0_joined 6 R) (hW : (st.map fun v => v.category).sum ≤ 8) {ks2 sl2 : Nat} (hk2 : ks + rm_X0_joined.cells = ks2) (hs2 : sl + rm_X0_joined.slots = sl2) (hroom : ks2 ≤ R.cells ∧ sl2 ≤ R.slots) (hdg : decode cc pc = .ok (.invokevirtual 171, 3)) (h0 : oty M z0 10) (kk : ∀ (r : Int64) (M2 : JM), gn M ≤ gn M2 → AWO p l e R s m args below meth c D cs b nL H0 Qf (K r M2) M2 ks2 sl2 lv (pc + 3) (.long r :: st)) : AWO p l e R s m args below meth c D cs b nL H0 Qf (ob (f_X0_joined z0 z1 z2 M) K) M ks sl lv pc (.int z2 :: .int z1 :: .ref (b + z0) :: st) := by
  subst hk2
  subst hs2
  exact aw_callV (ci := 0) X [.int z1, .int z2] st rfl rfl wl_X7_171 wi_X0_joined wv_X0_joined wc_X0_joined wn_X0 (n := 2) hd_X0_joined rfl hrm hW hroom hdg h0 (t_X0_joined z0 z1 z2 M h0) (fun r M2 g _ => kk r M2 g)
def f_X7_partNumber_L95 : Nat → Nat → Int32 → Int32 → Int32 → JM → Option (Int64 × JM) := fun a0 a1 v2 v4 v6 M => orf (gr M a0 4) fun r11 => ob (f_X1_partBytes a1 v2 v4 M) fun r14 M12 => ob (f_X0_joined r11 v6 r14 M12) fun r17 M15 => some (r17, M15)
set_option maxRecDepth 10000 in
set_option maxHeartbeats 4000000 in
theorem t_X7_partNumber_L95 {p : Program} {l : Launch} {e : Env} {s : State} {m : MethodId} {args : Array Value} {below : List Frame} {meth : Method} {c : Code} {D : va_G} {cs : JC} {b : Nat} (X : jX p c cX7_partNumber 8 s m args RX7 D cs b meth s.heap) (hr : meth.sig.returnType = Option.some Jvm.ClassFile.FieldType.long) : ∀ (a0 : Nat) (a1 : Nat) (v2 : Int32) (v4 : Int32) (v6 : Int32) (M : JM), oty M a0 17 → oty M a1 11 → AWO p l e rm_X7_partNumber s m args below meth c D cs b 8 s.heap (jE below D cs b evL args s rm_X7_partNumber.cells rm_X7_partNumber.slots) (f_X7_partNumber_L95 a0 a1 v2 v4 v6 M) M 0 0 [(0, .ref (b + a0)), (1, .ref (b + a1)), (2, .int v2), (4, .int v4), (6, .int v6)] 95 [] := by
  intro a0 a1 v2 v4 v6 M h_a0 h_a1
  refine aw_callq (F' := orf (gr M a0 4) fun r11 => ob (f_X1_partBytes a1 v2 v4 M) fun r14 M12 => ob (f_X0_joined r11 v6 r14 M12) fun r17 M15 => some (r17, M15)) rfl ?_
  refine aw_aload_n (pc := 95) X 0 dX7_partNumber_95 rfl ?_
  refine gf_X7_34 (pc := 96) X dX7_partNumber_96 h_a0 (fun r11 h_r11 => ?_)
  refine aw_iload (pc := 99) X 4 dX7_partNumber_99 rfl ?_
  refine aw_aload_n (pc := 101) X 1 dX7_partNumber_101 rfl ?_
  refine aw_iload_n (pc := 102) X 2 dX7_partNumber_102 rfl ?_
  refine aw_iload (pc := 103) X 3 dX7_partNumber_103 rfl ?_
  refine cl_X7_89 (pc := 105) X ⟨Nat.le_of_ble_eq_true rfl, Nat.le_of_ble_eq_true rfl⟩ (Nat.le_of_ble_eq_true rfl) (ks2 := 0) (sl2 := 0) rfl rfl ⟨(Nat.le_of_ble_eq_true rfl), (Nat.le_of_ble_eq_true rfl)⟩ dX7_partNumber_105 h_a1 (fun r14 M12 g13 => ?_)
  have h_a0 := h_a0.mono g13
  have h_a1 := h_a1.mono g13
  have h_r11 := h_r11.mono g13
  refine cl_X7_171 (pc := 108) X ⟨Nat.le_of_ble_eq_true rfl, Nat.le_of_ble_eq_true rfl⟩ (Nat.le_of_ble_eq_true rfl) (ks2 := 0) (sl2 := 0) rfl rfl ⟨(Nat.le_of_ble_eq_true rfl), (Nat.le_of_ble_eq_true rfl)⟩ dX7_partNumber_108 h_r11 (fun r17 M15 g16 => ?_)
  have h_a0 := h_a0.mono g16
  have h_a1 := h_a1.mono g16
  exact aw_lret (pc := 111) X hr dX7_partNumber_111 (Nat.le_of_ble_eq_true rfl) (Nat.le_of_ble_eq_true rfl)
def f_X7_partNumber_L89 (k54 : Nat → Nat → Int32 → Int32 → Int32 → Int32 → Int32 → JM → Option (Int64 × JM)) : Nat → Nat → Int32 → Int32 → Int32 → Int32 → Int32 → JM → Option (Int64 × JM) := fun a0 a1 v2 v3 v4 v6 v7 M => sv (v7 + (1 : Int32)) fun i23 => k54 a0 a1 v2 v3 v4 v6 i23 M
set_option maxRecDepth 10000 in
set_option maxHeartbeats 4000000 in
theorem t_X7_partNumber_L89 {p : Program} {l : Launch} {e : Env} {s : State} {m : MethodId} {args : Array Value} {below : List Frame} {meth : Method} {c : Code} {D : va_G} {cs : JC} {b : Nat} (X : jX p c cX7_partNumber 8 s m args RX7 D cs b meth s.heap) (hr : meth.sig.returnType = Option.some Jvm.ClassFile.FieldType.long) (k54 : Nat → Nat → Int32 → Int32 → Int32 → Int32 → Int32 → JM → Option (Int64 × JM)) (hk54 : ∀ (a0 : Nat) (a1 : Nat) (v2 : Int32) (v3 : Int32) (v4 : Int32) (v6 : Int32) (v7 : Int32) (M : JM), oty M a0 17 → oty M a1 11 → AWO p l e rm_X7_partNumber s m args below meth c D cs b 8 s.heap (jE below D cs b evL args s rm_X7_partNumber.cells rm_X7_partNumber.slots) (k54 a0 a1 v2 v3 v4 v6 v7 M) M 0 0 [(0, .ref (b + a0)), (1, .ref (b + a1)), (2, .int v2), (3, .int v3), (4, .int v4), (6, .int v6), (7, .int v7)] 54 []) : ∀ (a0 : Nat) (a1 : Nat) (v2 : Int32) (v3 : Int32) (v4 : Int32) (v6 : Int32) (v7 : Int32) (M : JM), oty M a0 17 → oty M a1 11 → AWO p l e rm_X7_partNumber s m args below meth c D cs b 8 s.heap (jE below D cs b evL args s rm_X7_partNumber.cells rm_X7_partNumber.slots) (f_X7_partNumber_L89 k54 a0 a1 v2 v3 v4 v6 v7 M) M 0 0 [(0, .ref (b + a0)), (1, .ref (b + a1)), (2, .int v2), (3, .int v3), (4, .int v4), (6, .int v6), (7, .int v7)] 89 [] := by
  intro a0 a1 v2 v3 v4 v6 v7 M h_a0 h_a1
  refine aw_callq (F' := sv (v7 + (1 : Int32)) fun i23 => k54 a0 a1 v2 v3 v4 v6 i23 M) rfl ?_
  refine aw_iincV (pc := 89) X (fun y => [(7, .int y), (0, .ref (b + a0)), (1, .ref (b + a1)), (2, .int v2), (3, .int v3), (4, .int v4), (6, .int v6)]) 6 (v := (v7 + (1 : Int32))) dX7_partNumber_89 rfl rfl (by decide) (fun _ => rfl) (fun i23 => ?_)
  refine aw_goto (pc := 92) X 54 dX7_partNumber_92 (by decide) ?_
  refine aw_sub [1, 2, 3, 4, 5, 6, 0] rfl ?_
  exact hk54 a0 a1 v2 v3 v4 v6 i23 M h_a0 h_a1
def f_X7_partNumber_L54 : Nat → Nat → Nat → Int32 → Int32 → Int32 → Int32 → Int32 → JM → Option (Int64 × JM)
  | 0, _, _, _, _, _, _, _, _ => none
  | n + 1, a0, a1, v2, v3, v4, v6, v7, M => if v7 < v4 then (orf (gr M a0 4) fun r18 => orf (gr M r18 2) fun r19 => ob (f_X7_isOne r19 v3 v7 M) fun r22 M20 => if r22 = true then (ob (f_X1_partBytes a1 v2 v7 M20) fun r26 M24 => sv (v6 + r26) fun i27 => f_X7_partNumber_L89 (f_X7_partNumber_L54 n) a0 a1 v2 v3 v4 i27 v7 M24) else (f_X7_partNumber_L89 (f_X7_partNumber_L54 n) a0 a1 v2 v3 v4 v6 v7 M20)) else (f_X7_partNumber_L95 a0 a1 v2 v4 v6 M)
set_option maxRecDepth 10000 in
set_option maxHeartbeats 4000000 in
theorem t_X7_partNumber_L54 {p : Program} {l : Launch} {e : Env} {s : State} {m : MethodId} {args : Array Value} {below : List Frame} {meth : Method} {c : Code} {D : va_G} {cs : JC} {b : Nat} (X : jX p c cX7_partNumber 8 s m args RX7 D cs b meth s.heap) (hr : meth.sig.returnType = Option.some Jvm.ClassFile.FieldType.long) : ∀ (n : Nat) (a0 : Nat) (a1 : Nat) (v2 : Int32) (v3 : Int32) (v4 : Int32) (v6 : Int32) (v7 : Int32) (M : JM), oty M a0 17 → oty M a1 11 → AWO p l e rm_X7_partNumber s m args below meth c D cs b 8 s.heap (jE below D cs b evL args s rm_X7_partNumber.cells rm_X7_partNumber.slots) (f_X7_partNumber_L54 n a0 a1 v2 v3 v4 v6 v7 M) M 0 0 [(0, .ref (b + a0)), (1, .ref (b + a1)), (2, .int v2), (3, .int v3), (4, .int v4), (6, .int v6), (7, .int v7)] 54 [] := by
  intro n
  induction n with
  | zero => intro a0 a1 v2 v3 v4 v6 v7 M h_a0 h_a1; exact aw_none
  | succ n ih =>
    intro a0 a1 v2 v3 v4 v6 v7 M h_a0 h_a1
    refine aw_callq (F' := if v7 < v4 then (orf (gr M a0 4) fun r18 => orf (gr M r18 2) fun r19 => ob (f_X7_isOne r19 v3 v7 M) fun r22 M20 => if r22 = true then (ob (f_X1_partBytes a1 v2 v7 M20) fun r26 M24 => sv (v6 + r26) fun i27 => f_X7_partNumber_L89 (f_X7_partNumber_L54 n) a0 a1 v2 v3 v4 i27 v7 M24) else (f_X7_partNumber_L89 (f_X7_partNumber_L54 n) a0 a1 v2 v3 v4 v6 v7 M20)) else (f_X7_partNumber_L95 a0 a1 v2 v4 v6 M)) rfl ?_
    refine aw_iload (pc := 54) X 6 dX7_partNumber_54 rfl ?_
    refine aw_iload (pc := 56) X 4 dX7_partNumber_56 rfl ?_
    refine aw_icmpge (pc := 58) X 95 dX7_partNumber_58 (by decide) ?_ ?_
    · refine aw_aload_n (pc := 61) X 0 dX7_partNumber_61 rfl ?_
      refine gf_X7_34 (pc := 62) X dX7_partNumber_62 h_a0 (fun r18 h_r18 => ?_)
      refine gf_X7_166 (pc := 65) X dX7_partNumber_65 h_r18 (fun r19 h_r19 => ?_)
      refine aw_iload_n (pc := 68) X 3 dX7_partNumber_68 rfl ?_
      refine aw_iload (pc := 69) X 6 dX7_partNumber_69 rfl ?_
      refine cl_X7_291 (pc := 71) X ⟨Nat.le_of_ble_eq_true rfl, Nat.le_of_ble_eq_true rfl⟩ (Nat.le_of_ble_eq_true rfl) (ks2 := 0) (sl2 := 0) rfl rfl ⟨(Nat.le_of_ble_eq_true rfl), (Nat.le_of_ble_eq_true rfl)⟩ dX7_partNumber_71 h_r19 (fun r22 M20 g21 => ?_)
      have h_a0 := h_a0.mono g21
      have h_a1 := h_a1.mono g21
      refine aw_ifeqB (pc := 74) X 89 dX7_partNumber_74 (by decide) ?_ ?_
      · refine aw_iload (pc := 77) X 5 dX7_partNumber_77 rfl ?_
        refine aw_aload_n (pc := 79) X 1 dX7_partNumber_79 rfl ?_
        refine aw_iload_n (pc := 80) X 2 dX7_partNumber_80 rfl ?_
        refine aw_iload (pc := 81) X 6 dX7_partNumber_81 rfl ?_
        refine cl_X7_89 (pc := 83) X ⟨Nat.le_of_ble_eq_true rfl, Nat.le_of_ble_eq_true rfl⟩ (Nat.le_of_ble_eq_true rfl) (ks2 := 0) (sl2 := 0) rfl rfl ⟨(Nat.le_of_ble_eq_true rfl), (Nat.le_of_ble_eq_true rfl)⟩ dX7_partNumber_83 h_a1 (fun r26 M24 g25 => ?_)
        have h_a0 := h_a0.mono g25
        have h_a1 := h_a1.mono g25
        refine aw_iadd (pc := 86) X dX7_partNumber_86 ?_
        refine aw_istoreV (pc := 87) X (fun y => [(6, .int y), (0, .ref (b + a0)), (1, .ref (b + a1)), (2, .int v2), (3, .int v3), (4, .int v4), (7, .int v7)]) dX7_partNumber_87 (by decide) (fun _ => rfl) (fun i27 => ?_)
        refine aw_sub [1, 2, 3, 4, 5, 0, 6] rfl ?_
        exact t_X7_partNumber_L89 X hr (f_X7_partNumber_L54 n) ih a0 a1 v2 v3 v4 i27 v7 M24 h_a0 h_a1
      · refine aw_sub [0, 1, 2, 3, 4, 5, 6] rfl ?_
        exact t_X7_partNumber_L89 X hr (f_X7_partNumber_L54 n) ih a0 a1 v2 v3 v4 v6 v7 M20 h_a0 h_a1
    · refine aw_sub [0, 1, 2, 4, 5] rfl ?_
      exact t_X7_partNumber_L95 X hr a0 a1 v2 v4 v6 M h_a0 h_a1
def f_X7_partNumber (a0 : Nat) (a1 : Nat) (v2 : Int32) (v3 : Int32) (v4 : Int32) (M : JM) : Option (Int64 × JM) := orf (gr M a0 4) fun r1 => orf (gr M r1 2) fun r2 => if 0 ≤ v3 ∧ v3 < ln r2 then (sv ((1 : Int32) + ((gi M r2 v3) &&& (1 : Int32))) fun i3 => if v4 < (i3 * (7 : Int32)) then (orf (gr M a0 4) fun r4 => orf (gr M r4 2) fun r5 => ob (f_X7_isOne r5 v3 v4 M) fun r8 M6 => if r8 = true then (sv (v3 + i3) fun i9 => sv (0 : Int32) fun i10 => f_X7_partNumber_L54 FU a0 a1 v2 v3 v4 i9 i10 M6) else (some ((-9 : Int64), M6))) else (some ((-9 : Int64), M))) else none
set_option maxRecDepth 10000 in
set_option maxHeartbeats 4000000 in
theorem t_X7_partNumber {l : Launch} {D : va_G} {cs : JC} {b : Nat} (a0 : Nat) (a1 : Nat) (v2 : Int32) (v3 : Int32) (v4 : Int32) (M : JM) (h_a0 : oty M a0 17) (h_a1 : oty M a1 11) : ∀ q, f_X7_partNumber a0 a1 v2 v3 v4 M = some q → CTy l yX7_partNumber (.code yX7_partNumber cX7_partNumber 8 (Option.some Jvm.ClassFile.FieldType.long) :: GB) rm_X7_partNumber D cs b evL [.ref (b + a0), .ref (b + a1), .int v2, .int v3, .int v4] M rm_X7_partNumber.cells rm_X7_partNumber.slots q := fun q hq => ct_of [(0, .ref (b + a0)), (1, .ref (b + a1)), (2, .int v2), (3, .int v3), (4, .int v4)] rfl rfl (Nat.le_of_ble_eq_true rfl) hq (fun p e s m args below meth c X hr hin => by
  refine aw_callq (F' := orf (gr M a0 4) fun r1 => orf (gr M r1 2) fun r2 => if 0 ≤ v3 ∧ v3 < ln r2 then (sv ((1 : Int32) + ((gi M r2 v3) &&& (1 : Int32))) fun i3 => if v4 < (i3 * (7 : Int32)) then (orf (gr M a0 4) fun r4 => orf (gr M r4 2) fun r5 => ob (f_X7_isOne r5 v3 v4 M) fun r8 M6 => if r8 = true then (sv (v3 + i3) fun i9 => sv (0 : Int32) fun i10 => f_X7_partNumber_L54 FU a0 a1 v2 v3 v4 i9 i10 M6) else (some ((-9 : Int64), M6))) else (some ((-9 : Int64), M))) else none) rfl ?_
  refine aw_iconst (pc := 0) X (1 : Int32) dX7_partNumber_0 (by decide) ?_
  refine aw_aload_n (pc := 1) X 0 dX7_partNumber_1 rfl ?_
  refine gf_X7_34 (pc := 2) X dX7_partNumber_2 h_a0 (fun r1 h_r1 => ?_)
  refine gf_X7_166 (pc := 5) X dX7_partNumber_5 h_r1 (fun r2 h_r2 => ?_)
  refine aw_iload_n (pc := 8) X 3 dX7_partNumber_8 rfl ?_
  refine aw_iald (pc := 9) X dX7_partNumber_9 h_r2 ?_
  refine aw_iconst (pc := 10) X (1 : Int32) dX7_partNumber_10 (by decide) ?_
  refine aw_iand (pc := 11) X dX7_partNumber_11 ?_
  refine aw_iadd (pc := 12) X dX7_partNumber_12 ?_
  refine aw_istoreV (pc := 13) X (fun y => [(5, .int y), (0, .ref (b + a0)), (1, .ref (b + a1)), (2, .int v2), (3, .int v3), (4, .int v4)]) dX7_partNumber_13 (by decide) (fun _ => rfl) (fun i3 => ?_)
  refine aw_iload (pc := 15) X 5 dX7_partNumber_15 rfl ?_
  refine aw_iload (pc := 17) X 0 dX7_partNumber_17 rfl ?_
  refine aw_bipush (pc := 19) X (7 : Int32) dX7_partNumber_19 (by decide) ?_
  refine aw_imul (pc := 21) X dX7_partNumber_21 ?_
  refine aw_icmpge (pc := 22) X 41 dX7_partNumber_22 (by decide) ?_ ?_
  · refine aw_aload_n (pc := 25) X 1 dX7_partNumber_25 rfl ?_
    refine gf_X7_34 (pc := 26) X dX7_partNumber_26 h_a0 (fun r4 h_r4 => ?_)
    refine gf_X7_166 (pc := 29) X dX7_partNumber_29 h_r4 (fun r5 h_r5 => ?_)
    refine aw_iload_n (pc := 32) X 4 dX7_partNumber_32 rfl ?_
    refine aw_iload (pc := 33) X 5 dX7_partNumber_33 rfl ?_
    refine cl_X7_291 (pc := 35) X ⟨Nat.le_of_ble_eq_true rfl, Nat.le_of_ble_eq_true rfl⟩ (Nat.le_of_ble_eq_true rfl) (ks2 := 0) (sl2 := 0) rfl rfl ⟨(Nat.le_of_ble_eq_true rfl), (Nat.le_of_ble_eq_true rfl)⟩ dX7_partNumber_35 h_r5 (fun r8 M6 g7 => ?_)
    have h_a0 := h_a0.mono g7
    have h_a1 := h_a1.mono g7
    refine aw_ifneB (pc := 38) X 45 dX7_partNumber_38 (by decide) ?_ ?_
    · refine aw_iload_n (pc := 45) X 4 dX7_partNumber_45 rfl ?_
      refine aw_iload (pc := 46) X 0 dX7_partNumber_46 rfl ?_
      refine aw_iadd (pc := 48) X dX7_partNumber_48 ?_
      refine aw_istoreV (pc := 49) X (fun y => [(6, .int y), (5, .int i3), (0, .ref (b + a0)), (1, .ref (b + a1)), (2, .int v2), (3, .int v3), (4, .int v4)]) dX7_partNumber_49 (by decide) (fun _ => rfl) (fun i9 => ?_)
      refine aw_iconst (pc := 51) X (0 : Int32) dX7_partNumber_51 (by decide) ?_
      refine aw_istoreV (pc := 52) X (fun y => [(7, .int y), (6, .int i9), (5, .int i3), (0, .ref (b + a0)), (1, .ref (b + a1)), (2, .int v2), (3, .int v3), (4, .int v4)]) dX7_partNumber_52 (by decide) (fun _ => rfl) (fun i10 => ?_)
      refine aw_sub [3, 4, 5, 6, 7, 1, 0] rfl ?_
      exact t_X7_partNumber_L54 X hr FU a0 a1 v2 v3 v4 i9 i10 M6 h_a0 h_a1
    · refine aw_ldc2 (pc := 41) X (-9 : Int64) dX7_partNumber_41 wo_X7_169 ?_
      exact aw_lret (pc := 44) X hr dX7_partNumber_44 (Nat.le_of_ble_eq_true rfl) (Nat.le_of_ble_eq_true rfl)
  · refine aw_ldc2 (pc := 41) X (-9 : Int64) dX7_partNumber_41 wo_X7_169 ?_
    exact aw_lret (pc := 44) X hr dX7_partNumber_44 (Nat.le_of_ble_eq_true rfl) (Nat.le_of_ble_eq_true rfl))
/-! ReportBlocks.number -/
def rm_X7_number : Room := { frames := 3, cells := 0, slots := 0, locals := 65 }
theorem hd_X7_number : jHd yX7_number 3 := by unfold jHd; decide +kernel
theorem cl_X7_175 {ρ : Type} {l : Launch} {p : Program} {e : Env} {R : Room} {s : State} {m : MethodId} {args : Array Value} {below : List Frame} {meth : Method} {c : Code} {D : va_G} {cs : JC} {b nL : Nat} {H0 : Heap} {Qf : ρ × JM → State → Prop} {M : JM} {ks sl : Nat} {lv : List (Nat × Value)} {pc : Nat} {st : List Value} {cc : ByteArray} (X : jX p c cc nL s m args RX7 D cs b meth H0) {z0 : Nat} {z1 : Nat} {z2 : Int32} {z3 : Int32} {z4 : Int32} {K : Int64 → JM → Option (ρ × JM)} (hrm : jRm rm_X7_partNumber 8 R) (hW : (st.map fun v => v.category).sum ≤ 8) {ks2 sl2 : Nat} (hk2 : ks + rm_X7_partNumber.cells = ks2) (hs2 : sl + rm_X7_partNumber.slots = sl2) (hroom : ks2 ≤ R.cells ∧ sl2 ≤ R.slots) (hdg : decode cc pc = .ok (.invokevirtual 175, 3)) (h0 : oty M z0 17) (h1 : oty M z1 11) (kk : ∀ (r : Int64) (M2 : JM), gn M ≤ gn M2 → AWO p l e R s m args below meth c D cs b nL H0 Qf (K r M2) M2 ks2 sl2 lv (pc + 3) (.long r :: st)) : AWO p l e R s m args below meth c D cs b nL H0 Qf (ob (f_X7_partNumber z0 z1 z2 z3 z4 M) K) M ks sl lv pc (.int z4 :: .int z3 :: .int z2 :: .ref (b + z1) :: .ref (b + z0) :: st) := by
  subst hk2
  subst hs2
  exact aw_callV (ci := 7) X [.ref (b + z1), .int z2, .int z3, .int z4] st rfl rfl wl_X7_175 wi_X7_partNumber wv_X7_partNumber wc_X7_partNumber wn_X7 (n := 4) hd_X7_partNumber rfl hrm hW hroom hdg h0 (t_X7_partNumber z0 z1 z2 z3 z4 M h0 h1) (fun r M2 g _ => kk r M2 g)
def f_X7_number (a0 : Nat) (v1 : Int32) (v2 : Int32) (v3 : Int32) (M : JM) : Option (Int64 × JM) := ob (f_X7_isRecord a0 v1 M) fun r3 M1 => if r3 = true then (ob (f_X7_isPlace v2 M1) fun r6 M4 => if r6 = true then (orf (gr M4 a0 4) fun r7 => ob (f_X7_categoryAt a0 (gi M4 r7 0) M4) fun o11 M8 => oca o11 (orf (gr M8 a0 4) fun r12 => ob (f_X0_sizeOf r12 v1 v2 M8) fun r15 M13 => sv r15 fun i16 => some ((-9 : Int64), M13)) fun r10 => orf (gr M8 a0 4) fun r17 => ob (f_X0_sizeOf r17 v1 v2 M8) fun r20 M18 => sv r20 fun i21 => if i21 = 0 then (some ((-9 : Int64), M18)) else (if v3 < 0 then (some ((-9 : Int64), M18)) else (orf (gr M18 a0 4) fun r22 => ob (f_X0_beginOf r22 v1 v2 M18) fun r25 M23 => sv r25 fun i26 => orf (gr M23 r10 1) fun r27 => if 0 ≤ v2 ∧ v2 < ln r27 then (if (gi M23 r27 v2) = (0 : Int32) then (if v3 = 0 then (orf (gr M23 a0 4) fun r28 => ob (f_X0_joined r28 i26 i21 M23) fun r31 M29 => some (r31, M29)) else (some ((-9 : Int64), M23))) else (if (gi M23 r27 v2) = (1 : Int32) then (some ((-9 : Int64), M23)) else (if (gi M23 r27 v2) = (2 : Int32) then (orf (gr M23 r10 2) fun r32 => if 0 ≤ v2 ∧ v2 < ln r32 then (sv (gi M23 r32 v2) fun i33 => orf (gr M23 a0 4) fun r34 => orf (gr M23 r34 2) fun r35 => if 0 ≤ i26 ∧ i26 < ln r35 then (if v3 < (gi M23 r35 i26) then (orf (gr M23 a0 4) fun r36 => ob (f_X0_joined r36 ((i26 + (1 : Int32)) + (v3 * i33)) i33 M23) fun r39 M37 => some (r39, M37)) else (some ((-9 : Int64), M23))) else none) else none) else (if (gi M23 r27 v2) = (3 : Int32) then (ob (f_X7_partNumber a0 r10 v2 i26 v3 M23) fun r42 M40 => some (r42, M40)) else (some ((-9 : Int64), M23)))))) else none))) else (some ((-1 : Int64), M4))) else (some ((-1 : Int64), M1))
set_option maxRecDepth 10000 in
set_option maxHeartbeats 4000000 in
theorem t_X7_number {l : Launch} {D : va_G} {cs : JC} {b : Nat} (a0 : Nat) (v1 : Int32) (v2 : Int32) (v3 : Int32) (M : JM) (h_a0 : oty M a0 17) : ∀ q, f_X7_number a0 v1 v2 v3 M = some q → CTy l yX7_number (.code yX7_number cX7_number 8 (Option.some Jvm.ClassFile.FieldType.long) :: GB) rm_X7_number D cs b evL [.ref (b + a0), .int v1, .int v2, .int v3] M rm_X7_number.cells rm_X7_number.slots q := fun q hq => ct_of [(0, .ref (b + a0)), (1, .int v1), (2, .int v2), (3, .int v3)] rfl rfl (Nat.le_of_ble_eq_true rfl) hq (fun p e s m args below meth c X hr hin => by
  refine aw_callq (F' := ob (f_X7_isRecord a0 v1 M) fun r3 M1 => if r3 = true then (ob (f_X7_isPlace v2 M1) fun r6 M4 => if r6 = true then (orf (gr M4 a0 4) fun r7 => ob (f_X7_categoryAt a0 (gi M4 r7 0) M4) fun o11 M8 => oca o11 (orf (gr M8 a0 4) fun r12 => ob (f_X0_sizeOf r12 v1 v2 M8) fun r15 M13 => sv r15 fun i16 => some ((-9 : Int64), M13)) fun r10 => orf (gr M8 a0 4) fun r17 => ob (f_X0_sizeOf r17 v1 v2 M8) fun r20 M18 => sv r20 fun i21 => if i21 = 0 then (some ((-9 : Int64), M18)) else (if v3 < 0 then (some ((-9 : Int64), M18)) else (orf (gr M18 a0 4) fun r22 => ob (f_X0_beginOf r22 v1 v2 M18) fun r25 M23 => sv r25 fun i26 => orf (gr M23 r10 1) fun r27 => if 0 ≤ v2 ∧ v2 < ln r27 then (if (gi M23 r27 v2) = (0 : Int32) then (if v3 = 0 then (orf (gr M23 a0 4) fun r28 => ob (f_X0_joined r28 i26 i21 M23) fun r31 M29 => some (r31, M29)) else (some ((-9 : Int64), M23))) else (if (gi M23 r27 v2) = (1 : Int32) then (some ((-9 : Int64), M23)) else (if (gi M23 r27 v2) = (2 : Int32) then (orf (gr M23 r10 2) fun r32 => if 0 ≤ v2 ∧ v2 < ln r32 then (sv (gi M23 r32 v2) fun i33 => orf (gr M23 a0 4) fun r34 => orf (gr M23 r34 2) fun r35 => if 0 ≤ i26 ∧ i26 < ln r35 then (if v3 < (gi M23 r35 i26) then (orf (gr M23 a0 4) fun r36 => ob (f_X0_joined r36 ((i26 + (1 : Int32)) + (v3 * i33)) i33 M23) fun r39 M37 => some (r39, M37)) else (some ((-9 : Int64), M23))) else none) else none) else (if (gi M23 r27 v2) = (3 : Int32) then (ob (f_X7_partNumber a0 r10 v2 i26 v3 M23) fun r42 M40 => some (r42, M40)) else (some ((-9 : Int64), M23)))))) else none))) else (some ((-1 : Int64), M4))) else (some ((-1 : Int64), M1))) rfl ?_
  refine aw_aload_n (pc := 0) X 0 dX7_number_0 rfl ?_
  refine aw_iload_n (pc := 1) X 1 dX7_number_1 rfl ?_
  refine cl_X7_157 (pc := 2) X ⟨Nat.le_of_ble_eq_true rfl, Nat.le_of_ble_eq_true rfl⟩ (Nat.le_of_ble_eq_true rfl) (ks2 := 0) (sl2 := 0) rfl rfl ⟨(Nat.le_of_ble_eq_true rfl), (Nat.le_of_ble_eq_true rfl)⟩ dX7_number_2 h_a0 (fun r3 M1 g2 => ?_)
  have h_a0 := h_a0.mono g2
  refine aw_ifeqB (pc := 5) X 15 dX7_number_5 (by decide) ?_ ?_
  · refine aw_iload_n (pc := 8) X 2 dX7_number_8 rfl ?_
    refine cl_X7_70 (pc := 9) X ⟨Nat.le_of_ble_eq_true rfl, Nat.le_of_ble_eq_true rfl⟩ (Nat.le_of_ble_eq_true rfl) (ks2 := 0) (sl2 := 0) rfl rfl ⟨(Nat.le_of_ble_eq_true rfl), (Nat.le_of_ble_eq_true rfl)⟩ dX7_number_9  (fun r6 M4 g5 => ?_)
    have h_a0 := h_a0.mono g5
    refine aw_ifneB (pc := 12) X 19 dX7_number_12 (by decide) ?_ ?_
    · refine aw_aload_n (pc := 19) X 0 dX7_number_19 rfl ?_
      refine aw_aload_n (pc := 20) X 0 dX7_number_20 rfl ?_
      refine gf_X7_34 (pc := 21) X dX7_number_21 h_a0 (fun r7 h_r7 => ?_)
      refine gf_X7_154 (pc := 24) X dX7_number_24 h_r7 ?_
      refine cl_X7_66 (pc := 27) X ⟨Nat.le_of_ble_eq_true rfl, Nat.le_of_ble_eq_true rfl⟩ (Nat.le_of_ble_eq_true rfl) (ks2 := 0) (sl2 := 0) rfl rfl ⟨(Nat.le_of_ble_eq_true rfl), (Nat.le_of_ble_eq_true rfl)⟩ dX7_number_27 h_a0 (fun M8 g9 => ?_) (fun r10 M8 g9 h_r10 => ?_)
      · have h_a0 := h_a0.mono g9
        refine aw_astore0 (pc := 30) X [(4, .null), (0, .ref (b + a0)), (1, .int v1), (2, .int v2), (3, .int v3)] dX7_number_30 (by decide) rfl ?_
        refine aw_aload_n (pc := 32) X 1 dX7_number_32 rfl ?_
        refine gf_X7_34 (pc := 33) X dX7_number_33 h_a0 (fun r12 h_r12 => ?_)
        refine aw_iload_n (pc := 36) X 2 dX7_number_36 rfl ?_
        refine aw_iload_n (pc := 37) X 3 dX7_number_37 rfl ?_
        refine cl_X7_160 (pc := 38) X ⟨Nat.le_of_ble_eq_true rfl, Nat.le_of_ble_eq_true rfl⟩ (Nat.le_of_ble_eq_true rfl) (ks2 := 0) (sl2 := 0) rfl rfl ⟨(Nat.le_of_ble_eq_true rfl), (Nat.le_of_ble_eq_true rfl)⟩ dX7_number_38 h_r12 (fun r15 M13 g14 => ?_)
        have h_a0 := h_a0.mono g14
        refine aw_istoreV (pc := 41) X (fun y => [(5, .int y), (4, .null), (0, .ref (b + a0)), (1, .int v1), (2, .int v2), (3, .int v3)]) dX7_number_41 (by decide) (fun _ => rfl) (fun i16 => ?_)
        refine aw_aload0 (pc := 43) X 1 dX7_number_43 rfl ?_
        refine aw_ifnull_n (pc := 45) X 57 dX7_number_45 (by decide) ?_
        refine aw_ldc2 (pc := 57) X (-9 : Int64) dX7_number_57 wo_X7_169 ?_
        exact aw_lret (pc := 60) X hr dX7_number_60 (Nat.le_of_ble_eq_true rfl) (Nat.le_of_ble_eq_true rfl)
      · have h_a0 := h_a0.mono g9
        refine aw_astore (pc := 30) X [(4, .ref (b + r10)), (0, .ref (b + a0)), (1, .int v1), (2, .int v2), (3, .int v3)] dX7_number_30 (by decide) rfl ?_
        refine aw_aload_n (pc := 32) X 1 dX7_number_32 rfl ?_
        refine gf_X7_34 (pc := 33) X dX7_number_33 h_a0 (fun r17 h_r17 => ?_)
        refine aw_iload_n (pc := 36) X 2 dX7_number_36 rfl ?_
        refine aw_iload_n (pc := 37) X 3 dX7_number_37 rfl ?_
        refine cl_X7_160 (pc := 38) X ⟨Nat.le_of_ble_eq_true rfl, Nat.le_of_ble_eq_true rfl⟩ (Nat.le_of_ble_eq_true rfl) (ks2 := 0) (sl2 := 0) rfl rfl ⟨(Nat.le_of_ble_eq_true rfl), (Nat.le_of_ble_eq_true rfl)⟩ dX7_number_38 h_r17 (fun r20 M18 g19 => ?_)
        have h_a0 := h_a0.mono g19
        have h_r10 := h_r10.mono g19
        refine aw_istoreV (pc := 41) X (fun y => [(5, .int y), (4, .ref (b + r10)), (0, .ref (b + a0)), (1, .int v1), (2, .int v2), (3, .int v3)]) dX7_number_41 (by decide) (fun _ => rfl) (fun i21 => ?_)
        refine aw_aload (pc := 43) X 1 dX7_number_43 rfl ?_
        refine aw_ifnull_r (pc := 45) X dX7_number_45 ?_
        refine aw_iload (pc := 48) X 0 dX7_number_48 rfl ?_
        refine aw_ifeq (pc := 50) X 57 dX7_number_50 (by decide) ?_ ?_
        · refine aw_ldc2 (pc := 57) X (-9 : Int64) dX7_number_57 wo_X7_169 ?_
          exact aw_lret (pc := 60) X hr dX7_number_60 (Nat.le_of_ble_eq_true rfl) (Nat.le_of_ble_eq_true rfl)
        · refine aw_iload_n (pc := 53) X 5 dX7_number_53 rfl ?_
          refine aw_ifge (pc := 54) X 61 dX7_number_54 (by decide) ?_ ?_
          · refine aw_ldc2 (pc := 57) X (-9 : Int64) dX7_number_57 wo_X7_169 ?_
            exact aw_lret (pc := 60) X hr dX7_number_60 (Nat.le_of_ble_eq_true rfl) (Nat.le_of_ble_eq_true rfl)
          · refine aw_aload_n (pc := 61) X 2 dX7_number_61 rfl ?_
            refine gf_X7_34 (pc := 62) X dX7_number_62 h_a0 (fun r22 h_r22 => ?_)
            refine aw_iload_n (pc := 65) X 3 dX7_number_65 rfl ?_
            refine aw_iload_n (pc := 66) X 4 dX7_number_66 rfl ?_
            refine cl_X7_163 (pc := 67) X ⟨Nat.le_of_ble_eq_true rfl, Nat.le_of_ble_eq_true rfl⟩ (Nat.le_of_ble_eq_true rfl) (ks2 := 0) (sl2 := 0) rfl rfl ⟨(Nat.le_of_ble_eq_true rfl), (Nat.le_of_ble_eq_true rfl)⟩ dX7_number_67 h_r22 (fun r25 M23 g24 => ?_)
            have h_a0 := h_a0.mono g24
            have h_r10 := h_r10.mono g24
            refine aw_istoreV (pc := 70) X (fun y => [(6, .int y), (5, .int i21), (4, .ref (b + r10)), (0, .ref (b + a0)), (1, .int v1), (2, .int v2), (3, .int v3)]) dX7_number_70 (by decide) (fun _ => rfl) (fun i26 => ?_)
            refine aw_aload (pc := 72) X 2 dX7_number_72 rfl ?_
            refine gf_X7_81 (pc := 74) X dX7_number_74 h_r10 (fun r27 h_r27 => ?_)
            refine aw_iload_n (pc := 77) X 5 dX7_number_77 rfl ?_
            refine aw_iald (pc := 78) X dX7_number_78 h_r27 ?_
            refine aw_swIn (pc := 79) X (0 : Int32) 108 dX7_number_79 (by decide) (by decide) rfl (by decide) ?_ (fun hn0 => ?_)
            · refine aw_iload_n (pc := 108) X 6 dX7_number_108 rfl ?_
              refine aw_ifne (pc := 109) X 126 dX7_number_109 (by decide) ?_ ?_
              · refine aw_aload_n (pc := 112) X 3 dX7_number_112 rfl ?_
                refine gf_X7_34 (pc := 113) X dX7_number_113 h_a0 (fun r28 h_r28 => ?_)
                refine aw_iload (pc := 116) X 0 dX7_number_116 rfl ?_
                refine aw_iload (pc := 118) X 1 dX7_number_118 rfl ?_
                refine cl_X7_171 (pc := 120) X ⟨Nat.le_of_ble_eq_true rfl, Nat.le_of_ble_eq_true rfl⟩ (Nat.le_of_ble_eq_true rfl) (ks2 := 0) (sl2 := 0) rfl rfl ⟨(Nat.le_of_ble_eq_true rfl), (Nat.le_of_ble_eq_true rfl)⟩ dX7_number_120 h_r28 (fun r31 M29 g30 => ?_)
                have h_a0 := h_a0.mono g30
                have h_r10 := h_r10.mono g30
                refine aw_goto (pc := 123) X 129 dX7_number_123 (by decide) ?_
                exact aw_lret (pc := 129) X hr dX7_number_129 (Nat.le_of_ble_eq_true rfl) (Nat.le_of_ble_eq_true rfl)
              · refine aw_ldc2 (pc := 126) X (-9 : Int64) dX7_number_126 wo_X7_169 ?_
                exact aw_lret (pc := 129) X hr dX7_number_129 (Nat.le_of_ble_eq_true rfl) (Nat.le_of_ble_eq_true rfl)
            refine aw_swIn (pc := 79) X (1 : Int32) 189 dX7_number_79 (by decide) (by decide) rfl (by decide) ?_ (fun hn1 => ?_)
            · refine aw_ldc2 (pc := 189) X (-9 : Int64) dX7_number_189 wo_X7_169 ?_
              exact aw_lret (pc := 192) X hr dX7_number_192 (Nat.le_of_ble_eq_true rfl) (Nat.le_of_ble_eq_true rfl)
            refine aw_swIn (pc := 79) X (2 : Int32) 130 dX7_number_79 (by decide) (by decide) rfl (by decide) ?_ (fun hn2 => ?_)
            · refine aw_aload (pc := 130) X 2 dX7_number_130 rfl ?_
              refine gf_X7_105 (pc := 132) X dX7_number_132 h_r10 (fun r32 h_r32 => ?_)
              refine aw_iload_n (pc := 135) X 5 dX7_number_135 rfl ?_
              refine aw_iald (pc := 136) X dX7_number_136 h_r32 ?_
              refine aw_istoreV (pc := 137) X (fun y => [(7, .int y), (6, .int i26), (5, .int i21), (4, .ref (b + r10)), (0, .ref (b + a0)), (1, .int v1), (2, .int v2), (3, .int v3)]) dX7_number_137 (by decide) (fun _ => rfl) (fun i33 => ?_)
              refine aw_iload_n (pc := 139) X 7 dX7_number_139 rfl ?_
              refine aw_aload_n (pc := 140) X 4 dX7_number_140 rfl ?_
              refine gf_X7_34 (pc := 141) X dX7_number_141 h_a0 (fun r34 h_r34 => ?_)
              refine gf_X7_166 (pc := 144) X dX7_number_144 h_r34 (fun r35 h_r35 => ?_)
              refine aw_iload (pc := 147) X 1 dX7_number_147 rfl ?_
              refine aw_iald (pc := 149) X dX7_number_149 h_r35 ?_
              refine aw_icmpge (pc := 150) X 174 dX7_number_150 (by decide) ?_ ?_
              · refine aw_aload_n (pc := 153) X 4 dX7_number_153 rfl ?_
                refine gf_X7_34 (pc := 154) X dX7_number_154 h_a0 (fun r36 h_r36 => ?_)
                refine aw_iload (pc := 157) X 1 dX7_number_157 rfl ?_
                refine aw_iconst (pc := 159) X (1 : Int32) dX7_number_159 (by decide) ?_
                refine aw_iadd (pc := 160) X dX7_number_160 ?_
                refine aw_iload_n (pc := 161) X 7 dX7_number_161 rfl ?_
                refine aw_iload (pc := 162) X 0 dX7_number_162 rfl ?_
                refine aw_imul (pc := 164) X dX7_number_164 ?_
                refine aw_iadd (pc := 165) X dX7_number_165 ?_
                refine aw_iload (pc := 166) X 0 dX7_number_166 rfl ?_
                refine cl_X7_171 (pc := 168) X ⟨Nat.le_of_ble_eq_true rfl, Nat.le_of_ble_eq_true rfl⟩ (Nat.le_of_ble_eq_true rfl) (ks2 := 0) (sl2 := 0) rfl rfl ⟨(Nat.le_of_ble_eq_true rfl), (Nat.le_of_ble_eq_true rfl)⟩ dX7_number_168 h_r36 (fun r39 M37 g38 => ?_)
                have h_a0 := h_a0.mono g38
                have h_r10 := h_r10.mono g38
                refine aw_goto (pc := 171) X 177 dX7_number_171 (by decide) ?_
                exact aw_lret (pc := 177) X hr dX7_number_177 (Nat.le_of_ble_eq_true rfl) (Nat.le_of_ble_eq_true rfl)
              · refine aw_ldc2 (pc := 174) X (-9 : Int64) dX7_number_174 wo_X7_169 ?_
                exact aw_lret (pc := 177) X hr dX7_number_177 (Nat.le_of_ble_eq_true rfl) (Nat.le_of_ble_eq_true rfl)
            refine aw_swIn (pc := 79) X (3 : Int32) 178 dX7_number_79 (by decide) (by decide) rfl (by decide) ?_ (fun hn3 => ?_)
            · refine aw_aload_n (pc := 178) X 3 dX7_number_178 rfl ?_
              refine aw_aload (pc := 179) X 2 dX7_number_179 rfl ?_
              refine aw_iload_n (pc := 181) X 5 dX7_number_181 rfl ?_
              refine aw_iload (pc := 182) X 0 dX7_number_182 rfl ?_
              refine aw_iload_n (pc := 184) X 6 dX7_number_184 rfl ?_
              refine cl_X7_175 (pc := 185) X ⟨Nat.le_of_ble_eq_true rfl, Nat.le_of_ble_eq_true rfl⟩ (Nat.le_of_ble_eq_true rfl) (ks2 := 0) (sl2 := 0) rfl rfl ⟨(Nat.le_of_ble_eq_true rfl), (Nat.le_of_ble_eq_true rfl)⟩ dX7_number_185 h_a0 h_r10 (fun r42 M40 g41 => ?_)
              have h_a0 := h_a0.mono g41
              have h_r10 := h_r10.mono g41
              exact aw_lret (pc := 188) X hr dX7_number_188 (Nat.le_of_ble_eq_true rfl) (Nat.le_of_ble_eq_true rfl)
            refine aw_swOut (pc := 79) X 189 dX7_number_79 (by have e0 := sw_ne (z := 0) hn0 rfl; have e1 := sw_ne (z := 1) hn1 rfl; have e2 := sw_ne (z := 2) hn2 rfl; have e3 := sw_ne (z := 3) hn3 rfl; omega) (by decide) ?_
            refine aw_ldc2 (pc := 189) X (-9 : Int64) dX7_number_189 wo_X7_169 ?_
            exact aw_lret (pc := 192) X hr dX7_number_192 (Nat.le_of_ble_eq_true rfl) (Nat.le_of_ble_eq_true rfl)
    · refine aw_ldc2 (pc := 15) X (-1 : Int64) dX7_number_15 wo_X7_167 ?_
      exact aw_lret (pc := 18) X hr dX7_number_18 (Nat.le_of_ble_eq_true rfl) (Nat.le_of_ble_eq_true rfl)
  · refine aw_ldc2 (pc := 15) X (-1 : Int64) dX7_number_15 wo_X7_167 ?_
    exact aw_lret (pc := 18) X hr dX7_number_18 (Nat.le_of_ble_eq_true rfl) (Nat.le_of_ble_eq_true rfl))
/-! ReportBlocksModel.together -/
def rm_X8_together : Room := { frames := 0, cells := 0, slots := 0, locals := 0 }
theorem hd_X8_together : jHd yX8_together 2 := by unfold jHd; decide +kernel
def f_X8_together_L5 : Nat → Nat → Int32 → Int32 → Int64 → Int32 → JM → Option (Int64 × JM)
  | 0, _, _, _, _, _, _ => none
  | n + 1, a0, v1, v2, v3, v5, M => if v5 < v2 then (orf (gr M a0 16) fun r3 => if 0 ≤ (v1 + v5) ∧ (v1 + v5) < ln r3 then (svL ((v3 <<< ((8 : Int32).toInt64 &&& 63)) ||| (gi M r3 (v1 + v5)).toInt64) fun j4 => sv (v5 + (1 : Int32)) fun i5 => (f_X8_together_L5 n) a0 v1 v2 j4 i5 M) else none) else (some (v3, M))
set_option maxRecDepth 10000 in
set_option maxHeartbeats 4000000 in
theorem t_X8_together_L5 {p : Program} {l : Launch} {e : Env} {s : State} {m : MethodId} {args : Array Value} {below : List Frame} {meth : Method} {c : Code} {D : va_G} {cs : JC} {b : Nat} (X : jX p c cX8_together 6 s m args RX8 D cs b meth s.heap) (hr : meth.sig.returnType = Option.some Jvm.ClassFile.FieldType.long) : ∀ (n : Nat) (a0 : Nat) (v1 : Int32) (v2 : Int32) (v3 : Int64) (v5 : Int32) (M : JM), oty M a0 18 → AWO p l e rm_X8_together s m args below meth c D cs b 6 s.heap (jE below D cs b evL args s rm_X8_together.cells rm_X8_together.slots) (f_X8_together_L5 n a0 v1 v2 v3 v5 M) M 0 0 [(0, .ref (b + a0)), (1, .int v1), (2, .int v2), (3, .long v3), (5, .int v5)] 5 [] := by
  intro n
  induction n with
  | zero => intro a0 v1 v2 v3 v5 M h_a0; exact aw_none
  | succ n ih =>
    intro a0 v1 v2 v3 v5 M h_a0
    refine aw_callq (F' := if v5 < v2 then (orf (gr M a0 16) fun r3 => if 0 ≤ (v1 + v5) ∧ (v1 + v5) < ln r3 then (svL ((v3 <<< ((8 : Int32).toInt64 &&& 63)) ||| (gi M r3 (v1 + v5)).toInt64) fun j4 => sv (v5 + (1 : Int32)) fun i5 => (f_X8_together_L5 n) a0 v1 v2 j4 i5 M) else none) else (some (v3, M))) rfl ?_
    refine aw_iload (pc := 5) X 4 dX8_together_5 rfl ?_
    refine aw_iload_n (pc := 7) X 2 dX8_together_7 rfl ?_
    refine aw_icmpge (pc := 8) X 33 dX8_together_8 (by decide) ?_ ?_
    · refine aw_lload_n (pc := 11) X 3 dX8_together_11 rfl ?_
      refine aw_bipush (pc := 12) X (8 : Int32) dX8_together_12 (by decide) ?_
      refine aw_lshl (pc := 14) X dX8_together_14 ?_
      refine aw_aload_n (pc := 15) X 0 dX8_together_15 rfl ?_
      refine gf_X8_31 (pc := 16) X dX8_together_16 h_a0 (fun r3 h_r3 => ?_)
      refine aw_iload_n (pc := 19) X 1 dX8_together_19 rfl ?_
      refine aw_iload (pc := 20) X 4 dX8_together_20 rfl ?_
      refine aw_iadd (pc := 22) X dX8_together_22 ?_
      refine aw_iald (pc := 23) X dX8_together_23 h_r3 ?_
      refine aw_i2l (pc := 24) X dX8_together_24 ?_
      refine aw_lor (pc := 25) X dX8_together_25 ?_
      refine aw_lstoreV_n (pc := 26) X (fun y => [(3, .long y), (0, .ref (b + a0)), (1, .int v1), (2, .int v2), (5, .int v5)]) dX8_together_26 (by decide) (fun _ => rfl) (fun j4 => ?_)
      refine aw_iincV (pc := 27) X (fun y => [(5, .int y), (3, .long j4), (0, .ref (b + a0)), (1, .int v1), (2, .int v2)]) 4 (v := (v5 + (1 : Int32))) dX8_together_27 rfl rfl (by decide) (fun _ => rfl) (fun i5 => ?_)
      refine aw_goto (pc := 30) X 5 dX8_together_30 (by decide) ?_
      refine aw_sub [2, 3, 4, 1, 0] rfl ?_
      exact ih a0 v1 v2 j4 i5 M h_a0
    · refine aw_lload_n (pc := 33) X 3 dX8_together_33 rfl ?_
      exact aw_lret (pc := 34) X hr dX8_together_34 (Nat.le_of_ble_eq_true rfl) (Nat.le_of_ble_eq_true rfl)
def f_X8_together (a0 : Nat) (v1 : Int32) (v2 : Int32) (M : JM) : Option (Int64 × JM) := svL (0 : Int64) fun j1 => sv (0 : Int32) fun i2 => f_X8_together_L5 FU a0 v1 v2 j1 i2 M
set_option maxRecDepth 10000 in
set_option maxHeartbeats 4000000 in
theorem t_X8_together {l : Launch} {D : va_G} {cs : JC} {b : Nat} (a0 : Nat) (v1 : Int32) (v2 : Int32) (M : JM) (h_a0 : oty M a0 18) : ∀ q, f_X8_together a0 v1 v2 M = some q → CTy l yX8_together (.code yX8_together cX8_together 6 (Option.some Jvm.ClassFile.FieldType.long) :: GB) rm_X8_together D cs b evL [.ref (b + a0), .int v1, .int v2] M rm_X8_together.cells rm_X8_together.slots q := fun q hq => ct_of [(0, .ref (b + a0)), (1, .int v1), (2, .int v2)] rfl rfl (Nat.le_of_ble_eq_true rfl) hq (fun p e s m args below meth c X hr hin => by
  refine aw_callq (F' := svL (0 : Int64) fun j1 => sv (0 : Int32) fun i2 => f_X8_together_L5 FU a0 v1 v2 j1 i2 M) rfl ?_
  refine aw_lconst (pc := 0) X (0 : Int64) dX8_together_0 (by decide) ?_
  refine aw_lstoreV_n (pc := 1) X (fun y => [(3, .long y), (0, .ref (b + a0)), (1, .int v1), (2, .int v2)]) dX8_together_1 (by decide) (fun _ => rfl) (fun j1 => ?_)
  refine aw_iconst (pc := 2) X (0 : Int32) dX8_together_2 (by decide) ?_
  refine aw_istoreV (pc := 3) X (fun y => [(5, .int y), (3, .long j1), (0, .ref (b + a0)), (1, .int v1), (2, .int v2)]) dX8_together_3 (by decide) (fun _ => rfl) (fun i2 => ?_)
  refine aw_sub [2, 3, 4, 1, 0] rfl ?_
  exact t_X8_together_L5 X hr FU a0 v1 v2 j1 i2 M h_a0)
/-! ReportBlocksModel.ofMade -/
def rm_X8_ofMade : Room := { frames := 1, cells := 0, slots := 0, locals := 25 }
theorem hd_X8_ofMade : jHd yX8_ofMade 4 := by unfold jHd; decide +kernel
def f_X8_ofMade_L160 (k50 : Nat → Int32 → Int32 → Int32 → Int32 → Int32 → Int32 → Int32 → JM → Option (Int64 × JM)) : Nat → Int32 → Int32 → Int32 → Int32 → Int32 → Int32 → Int32 → Int32 → JM → Option (Int64 × JM) := fun a0 v1 v2 v4 v5 v6 v8 u0 u1 M => sv (u1 + u0) fun i9 => sv (v8 + (1 : Int32)) fun i10 => k50 a0 v1 v2 v4 v5 v6 i9 i10 M
set_option maxRecDepth 10000 in
set_option maxHeartbeats 4000000 in
theorem t_X8_ofMade_L160 {p : Program} {l : Launch} {e : Env} {s : State} {m : MethodId} {args : Array Value} {below : List Frame} {meth : Method} {c : Code} {D : va_G} {cs : JC} {b : Nat} (X : jX p c cX8_ofMade 11 s m args RX8 D cs b meth s.heap) (hr : meth.sig.returnType = Option.some Jvm.ClassFile.FieldType.long) (k50 : Nat → Int32 → Int32 → Int32 → Int32 → Int32 → Int32 → Int32 → JM → Option (Int64 × JM)) (hk50 : ∀ (a0 : Nat) (v1 : Int32) (v2 : Int32) (v4 : Int32) (v5 : Int32) (v6 : Int32) (v7 : Int32) (v8 : Int32) (M : JM), oty M a0 18 → AWO p l e rm_X8_ofMade s m args below meth c D cs b 11 s.heap (jE below D cs b evL args s rm_X8_ofMade.cells rm_X8_ofMade.slots) (k50 a0 v1 v2 v4 v5 v6 v7 v8 M) M 0 0 [(0, .ref (b + a0)), (1, .int v1), (2, .int v2), (4, .int v4), (5, .int v5), (6, .int v6), (7, .int v7), (8, .int v8)] 50 []) : ∀ (a0 : Nat) (v1 : Int32) (v2 : Int32) (v4 : Int32) (v5 : Int32) (v6 : Int32) (v8 : Int32) (u0 : Int32) (u1 : Int32) (M : JM), oty M a0 18 → AWO p l e rm_X8_ofMade s m args below meth c D cs b 11 s.heap (jE below D cs b evL args s rm_X8_ofMade.cells rm_X8_ofMade.slots) (f_X8_ofMade_L160 k50 a0 v1 v2 v4 v5 v6 v8 u0 u1 M) M 0 0 [(0, .ref (b + a0)), (1, .int v1), (2, .int v2), (4, .int v4), (5, .int v5), (6, .int v6), (8, .int v8)] 160 [.int u0, .int u1] := by
  intro a0 v1 v2 v4 v5 v6 v8 u0 u1 M h_a0
  refine aw_callq (F' := sv (u1 + u0) fun i9 => sv (v8 + (1 : Int32)) fun i10 => k50 a0 v1 v2 v4 v5 v6 i9 i10 M) rfl ?_
  refine aw_iadd (pc := 160) X dX8_ofMade_160 ?_
  refine aw_istoreV (pc := 161) X (fun y => [(7, .int y), (0, .ref (b + a0)), (1, .int v1), (2, .int v2), (4, .int v4), (5, .int v5), (6, .int v6), (8, .int v8)]) dX8_ofMade_161 (by decide) (fun _ => rfl) (fun i9 => ?_)
  refine aw_iincV (pc := 163) X (fun y => [(8, .int y), (7, .int i9), (0, .ref (b + a0)), (1, .int v1), (2, .int v2), (4, .int v4), (5, .int v5), (6, .int v6)]) 7 (v := (v8 + (1 : Int32))) dX8_ofMade_163 rfl rfl (by decide) (fun _ => rfl) (fun i10 => ?_)
  refine aw_goto (pc := 166) X 50 dX8_ofMade_166 (by decide) ?_
  refine aw_sub [2, 3, 4, 5, 6, 7, 1, 0] rfl ?_
  exact hk50 a0 v1 v2 v4 v5 v6 i9 i10 M h_a0
def f_X8_ofMade_L147 (k50 : Nat → Int32 → Int32 → Int32 → Int32 → Int32 → Int32 → Int32 → JM → Option (Int64 × JM)) : Nat → Int32 → Int32 → Int32 → Int32 → Int32 → Int32 → Int32 → Int32 → Int32 → JM → Option (Int64 × JM) := fun a0 v1 v2 v4 v5 v6 v7 v8 v9 v10 M => if v9 = 0 then (f_X8_ofMade_L160 k50 a0 v1 v2 v4 v5 v6 v8 (0 : Int32) v7 M) else (f_X8_ofMade_L160 k50 a0 v1 v2 v4 v5 v6 v8 v10 v7 M)
set_option maxRecDepth 10000 in
set_option maxHeartbeats 4000000 in
theorem t_X8_ofMade_L147 {p : Program} {l : Launch} {e : Env} {s : State} {m : MethodId} {args : Array Value} {below : List Frame} {meth : Method} {c : Code} {D : va_G} {cs : JC} {b : Nat} (X : jX p c cX8_ofMade 11 s m args RX8 D cs b meth s.heap) (hr : meth.sig.returnType = Option.some Jvm.ClassFile.FieldType.long) (k50 : Nat → Int32 → Int32 → Int32 → Int32 → Int32 → Int32 → Int32 → JM → Option (Int64 × JM)) (hk50 : ∀ (a0 : Nat) (v1 : Int32) (v2 : Int32) (v4 : Int32) (v5 : Int32) (v6 : Int32) (v7 : Int32) (v8 : Int32) (M : JM), oty M a0 18 → AWO p l e rm_X8_ofMade s m args below meth c D cs b 11 s.heap (jE below D cs b evL args s rm_X8_ofMade.cells rm_X8_ofMade.slots) (k50 a0 v1 v2 v4 v5 v6 v7 v8 M) M 0 0 [(0, .ref (b + a0)), (1, .int v1), (2, .int v2), (4, .int v4), (5, .int v5), (6, .int v6), (7, .int v7), (8, .int v8)] 50 []) : ∀ (a0 : Nat) (v1 : Int32) (v2 : Int32) (v4 : Int32) (v5 : Int32) (v6 : Int32) (v7 : Int32) (v8 : Int32) (v9 : Int32) (v10 : Int32) (M : JM), oty M a0 18 → AWO p l e rm_X8_ofMade s m args below meth c D cs b 11 s.heap (jE below D cs b evL args s rm_X8_ofMade.cells rm_X8_ofMade.slots) (f_X8_ofMade_L147 k50 a0 v1 v2 v4 v5 v6 v7 v8 v9 v10 M) M 0 0 [(0, .ref (b + a0)), (1, .int v1), (2, .int v2), (4, .int v4), (5, .int v5), (6, .int v6), (7, .int v7), (8, .int v8), (9, .int v9), (10, .int v10)] 147 [] := by
  intro a0 v1 v2 v4 v5 v6 v7 v8 v9 v10 M h_a0
  refine aw_callq (F' := if v9 = 0 then (f_X8_ofMade_L160 k50 a0 v1 v2 v4 v5 v6 v8 (0 : Int32) v7 M) else (f_X8_ofMade_L160 k50 a0 v1 v2 v4 v5 v6 v8 v10 v7 M)) rfl ?_
  refine aw_iload (pc := 147) X 6 dX8_ofMade_147 rfl ?_
  refine aw_iload (pc := 149) X 8 dX8_ofMade_149 rfl ?_
  refine aw_ifeq (pc := 151) X 159 dX8_ofMade_151 (by decide) ?_ ?_
  · refine aw_iconst (pc := 159) X (0 : Int32) dX8_ofMade_159 (by decide) ?_
    refine aw_sub [0, 1, 2, 3, 4, 5, 7] rfl ?_
    exact t_X8_ofMade_L160 X hr k50 hk50 a0 v1 v2 v4 v5 v6 v8 (0 : Int32) v7 M h_a0
  · refine aw_iload (pc := 154) X 9 dX8_ofMade_154 rfl ?_
    refine aw_goto (pc := 156) X 160 dX8_ofMade_156 (by decide) ?_
    refine aw_sub [0, 1, 2, 3, 4, 5, 7] rfl ?_
    exact t_X8_ofMade_L160 X hr k50 hk50 a0 v1 v2 v4 v5 v6 v8 v10 v7 M h_a0
theorem cl_X8_199 {ρ : Type} {l : Launch} {p : Program} {e : Env} {R : Room} {s : State} {m : MethodId} {args : Array Value} {below : List Frame} {meth : Method} {c : Code} {D : va_G} {cs : JC} {b nL : Nat} {H0 : Heap} {Qf : ρ × JM → State → Prop} {M : JM} {ks sl : Nat} {lv : List (Nat × Value)} {pc : Nat} {st : List Value} {cc : ByteArray} (X : jX p c cc nL s m args RX8 D cs b meth H0) {z0 : Nat} {z1 : Int32} {z2 : Int32} {K : Int64 → JM → Option (ρ × JM)} (hrm : jRm rm_X8_together 6 R) (hW : (st.map fun v => v.category).sum ≤ 8) {ks2 sl2 : Nat} (hk2 : ks + rm_X8_together.cells = ks2) (hs2 : sl + rm_X8_together.slots = sl2) (hroom : ks2 ≤ R.cells ∧ sl2 ≤ R.slots) (hdg : decode cc pc = .ok (.invokevirtual 199, 3)) (h0 : oty M z0 18) (kk : ∀ (r : Int64) (M2 : JM), gn M ≤ gn M2 → AWO p l e R s m args below meth c D cs b nL H0 Qf (K r M2) M2 ks2 sl2 lv (pc + 3) (.long r :: st)) : AWO p l e R s m args below meth c D cs b nL H0 Qf (ob (f_X8_together z0 z1 z2 M) K) M ks sl lv pc (.int z2 :: .int z1 :: .ref (b + z0) :: st) := by
  subst hk2
  subst hs2
  exact aw_callV (ci := 8) X [.int z1, .int z2] st rfl rfl wl_X8_199 wi_X8_together wv_X8_together wc_X8_together wn_X8 (n := 2) hd_X8_together rfl hrm hW hroom hdg h0 (t_X8_together z0 z1 z2 M h0) (fun r M2 g _ => kk r M2 g)
def f_X8_ofMade_L138 : Nat → Int32 → Int32 → JM → Option (Int64 × JM) := fun a0 v7 v10 M => ob (f_X8_together a0 v7 v10 M) fun r13 M11 => some (r13, M11)
set_option maxRecDepth 10000 in
set_option maxHeartbeats 4000000 in
theorem t_X8_ofMade_L138 {p : Program} {l : Launch} {e : Env} {s : State} {m : MethodId} {args : Array Value} {below : List Frame} {meth : Method} {c : Code} {D : va_G} {cs : JC} {b : Nat} (X : jX p c cX8_ofMade 11 s m args RX8 D cs b meth s.heap) (hr : meth.sig.returnType = Option.some Jvm.ClassFile.FieldType.long) : ∀ (a0 : Nat) (v7 : Int32) (v10 : Int32) (M : JM), oty M a0 18 → AWO p l e rm_X8_ofMade s m args below meth c D cs b 11 s.heap (jE below D cs b evL args s rm_X8_ofMade.cells rm_X8_ofMade.slots) (f_X8_ofMade_L138 a0 v7 v10 M) M 0 0 [(0, .ref (b + a0)), (7, .int v7), (10, .int v10)] 138 [] := by
  intro a0 v7 v10 M h_a0
  refine aw_callq (F' := ob (f_X8_together a0 v7 v10 M) fun r13 M11 => some (r13, M11)) rfl ?_
  refine aw_aload_n (pc := 138) X 0 dX8_ofMade_138 rfl ?_
  refine aw_iload (pc := 139) X 1 dX8_ofMade_139 rfl ?_
  refine aw_iload (pc := 141) X 2 dX8_ofMade_141 rfl ?_
  refine cl_X8_199 (pc := 143) X ⟨Nat.le_of_ble_eq_true rfl, Nat.le_of_ble_eq_true rfl⟩ (Nat.le_of_ble_eq_true rfl) (ks2 := 0) (sl2 := 0) rfl rfl ⟨(Nat.le_of_ble_eq_true rfl), (Nat.le_of_ble_eq_true rfl)⟩ dX8_ofMade_143 h_a0 (fun r13 M11 g12 => ?_)
  have h_a0 := h_a0.mono g12
  exact aw_lret (pc := 146) X hr dX8_ofMade_146 (Nat.le_of_ble_eq_true rfl) (Nat.le_of_ble_eq_true rfl)
def f_X8_ofMade_L105 (k50 : Nat → Int32 → Int32 → Int32 → Int32 → Int32 → Int32 → Int32 → JM → Option (Int64 × JM)) : Nat → Int32 → Int32 → Int32 → Int32 → Int32 → Int32 → Int32 → Int32 → JM → Option (Int64 × JM) := fun a0 v1 v2 v4 v5 v6 v7 v8 u0 M => sv u0 fun i6 => orf (gr M a0 4) fun r7 => if 0 ≤ (((14 : Int32) * (((22 : Int32) * v1) + v2)) + v8) ∧ (((14 : Int32) * (((22 : Int32) * v1) + v2)) + v8) < ln r7 then (sv (gi M r7 (((14 : Int32) * (((22 : Int32) * v1) + v2)) + v8)) fun i8 => if i6 = 0 then (f_X8_ofMade_L147 k50 a0 v1 v2 v4 v5 v6 v7 v8 i6 i8 M) else (if v8 = v4 then (f_X8_ofMade_L138 a0 v7 i8 M) else (f_X8_ofMade_L147 k50 a0 v1 v2 v4 v5 v6 v7 v8 i6 i8 M))) else none
set_option maxRecDepth 10000 in
set_option maxHeartbeats 4000000 in
theorem t_X8_ofMade_L105 {p : Program} {l : Launch} {e : Env} {s : State} {m : MethodId} {args : Array Value} {below : List Frame} {meth : Method} {c : Code} {D : va_G} {cs : JC} {b : Nat} (X : jX p c cX8_ofMade 11 s m args RX8 D cs b meth s.heap) (hr : meth.sig.returnType = Option.some Jvm.ClassFile.FieldType.long) (k50 : Nat → Int32 → Int32 → Int32 → Int32 → Int32 → Int32 → Int32 → JM → Option (Int64 × JM)) (hk50 : ∀ (a0 : Nat) (v1 : Int32) (v2 : Int32) (v4 : Int32) (v5 : Int32) (v6 : Int32) (v7 : Int32) (v8 : Int32) (M : JM), oty M a0 18 → AWO p l e rm_X8_ofMade s m args below meth c D cs b 11 s.heap (jE below D cs b evL args s rm_X8_ofMade.cells rm_X8_ofMade.slots) (k50 a0 v1 v2 v4 v5 v6 v7 v8 M) M 0 0 [(0, .ref (b + a0)), (1, .int v1), (2, .int v2), (4, .int v4), (5, .int v5), (6, .int v6), (7, .int v7), (8, .int v8)] 50 []) : ∀ (a0 : Nat) (v1 : Int32) (v2 : Int32) (v4 : Int32) (v5 : Int32) (v6 : Int32) (v7 : Int32) (v8 : Int32) (u0 : Int32) (M : JM), oty M a0 18 → AWO p l e rm_X8_ofMade s m args below meth c D cs b 11 s.heap (jE below D cs b evL args s rm_X8_ofMade.cells rm_X8_ofMade.slots) (f_X8_ofMade_L105 k50 a0 v1 v2 v4 v5 v6 v7 v8 u0 M) M 0 0 [(0, .ref (b + a0)), (1, .int v1), (2, .int v2), (4, .int v4), (5, .int v5), (6, .int v6), (7, .int v7), (8, .int v8)] 105 [.int u0] := by
  intro a0 v1 v2 v4 v5 v6 v7 v8 u0 M h_a0
  refine aw_callq (F' := sv u0 fun i6 => orf (gr M a0 4) fun r7 => if 0 ≤ (((14 : Int32) * (((22 : Int32) * v1) + v2)) + v8) ∧ (((14 : Int32) * (((22 : Int32) * v1) + v2)) + v8) < ln r7 then (sv (gi M r7 (((14 : Int32) * (((22 : Int32) * v1) + v2)) + v8)) fun i8 => if i6 = 0 then (f_X8_ofMade_L147 k50 a0 v1 v2 v4 v5 v6 v7 v8 i6 i8 M) else (if v8 = v4 then (f_X8_ofMade_L138 a0 v7 i8 M) else (f_X8_ofMade_L147 k50 a0 v1 v2 v4 v5 v6 v7 v8 i6 i8 M))) else none) rfl ?_
  refine aw_istoreV (pc := 105) X (fun y => [(9, .int y), (0, .ref (b + a0)), (1, .int v1), (2, .int v2), (4, .int v4), (5, .int v5), (6, .int v6), (7, .int v7), (8, .int v8)]) dX8_ofMade_105 (by decide) (fun _ => rfl) (fun i6 => ?_)
  refine aw_aload_n (pc := 107) X 1 dX8_ofMade_107 rfl ?_
  refine gf_X8_19 (pc := 108) X dX8_ofMade_108 h_a0 (fun r7 h_r7 => ?_)
  refine aw_bipush (pc := 111) X (14 : Int32) dX8_ofMade_111 (by decide) ?_
  refine aw_bipush (pc := 113) X (22 : Int32) dX8_ofMade_113 (by decide) ?_
  refine aw_iload_n (pc := 115) X 2 dX8_ofMade_115 rfl ?_
  refine aw_imul (pc := 116) X dX8_ofMade_116 ?_
  refine aw_iload_n (pc := 117) X 3 dX8_ofMade_117 rfl ?_
  refine aw_iadd (pc := 118) X dX8_ofMade_118 ?_
  refine aw_imul (pc := 119) X dX8_ofMade_119 ?_
  refine aw_iload (pc := 120) X 8 dX8_ofMade_120 rfl ?_
  refine aw_iadd (pc := 122) X dX8_ofMade_122 ?_
  refine aw_iald (pc := 123) X dX8_ofMade_123 h_r7 ?_
  refine aw_istoreV (pc := 124) X (fun y => [(10, .int y), (9, .int i6), (0, .ref (b + a0)), (1, .int v1), (2, .int v2), (4, .int v4), (5, .int v5), (6, .int v6), (7, .int v7), (8, .int v8)]) dX8_ofMade_124 (by decide) (fun _ => rfl) (fun i8 => ?_)
  refine aw_iload (pc := 126) X 1 dX8_ofMade_126 rfl ?_
  refine aw_ifeq (pc := 128) X 147 dX8_ofMade_128 (by decide) ?_ ?_
  · refine aw_sub [2, 3, 4, 5, 6, 7, 8, 9, 1, 0] rfl ?_
    exact t_X8_ofMade_L147 X hr k50 hk50 a0 v1 v2 v4 v5 v6 v7 v8 i6 i8 M h_a0
  · refine aw_iload (pc := 131) X 9 dX8_ofMade_131 rfl ?_
    refine aw_iload (pc := 133) X 5 dX8_ofMade_133 rfl ?_
    refine aw_icmpne (pc := 135) X 147 dX8_ofMade_135 (by decide) ?_ ?_
    · refine aw_sub [2, 8, 0] rfl ?_
      exact t_X8_ofMade_L138 X hr a0 v7 i8 M h_a0
    · refine aw_sub [2, 3, 4, 5, 6, 7, 8, 9, 1, 0] rfl ?_
      exact t_X8_ofMade_L147 X hr k50 hk50 a0 v1 v2 v4 v5 v6 v7 v8 i6 i8 M h_a0
def f_X8_ofMade_L50 : Nat → Nat → Int32 → Int32 → Int32 → Int32 → Int32 → Int32 → Int32 → JM → Option (Int64 × JM)
  | 0, _, _, _, _, _, _, _, _, _ => none
  | n + 1, a0, v1, v2, v4, v5, v6, v7, v8, M => if v8 < (14 : Int32) then (if v8 < (7 : Int32) then (if ((v5 >>> (((7 : Int32) - v8) &&& 31)) &&& (1 : Int32)) = (1 : Int32) then (f_X8_ofMade_L105 (f_X8_ofMade_L50 n) a0 v1 v2 v4 v5 v6 v7 v8 (1 : Int32) M) else (f_X8_ofMade_L105 (f_X8_ofMade_L50 n) a0 v1 v2 v4 v5 v6 v7 v8 (0 : Int32) M)) else (if ((v6 >>> (((14 : Int32) - v8) &&& 31)) &&& (1 : Int32)) = (1 : Int32) then (f_X8_ofMade_L105 (f_X8_ofMade_L50 n) a0 v1 v2 v4 v5 v6 v7 v8 (1 : Int32) M) else (f_X8_ofMade_L105 (f_X8_ofMade_L50 n) a0 v1 v2 v4 v5 v6 v7 v8 (0 : Int32) M))) else (some ((-9 : Int64), M))
set_option maxRecDepth 10000 in
set_option maxHeartbeats 4000000 in
theorem t_X8_ofMade_L50 {p : Program} {l : Launch} {e : Env} {s : State} {m : MethodId} {args : Array Value} {below : List Frame} {meth : Method} {c : Code} {D : va_G} {cs : JC} {b : Nat} (X : jX p c cX8_ofMade 11 s m args RX8 D cs b meth s.heap) (hr : meth.sig.returnType = Option.some Jvm.ClassFile.FieldType.long) : ∀ (n : Nat) (a0 : Nat) (v1 : Int32) (v2 : Int32) (v4 : Int32) (v5 : Int32) (v6 : Int32) (v7 : Int32) (v8 : Int32) (M : JM), oty M a0 18 → AWO p l e rm_X8_ofMade s m args below meth c D cs b 11 s.heap (jE below D cs b evL args s rm_X8_ofMade.cells rm_X8_ofMade.slots) (f_X8_ofMade_L50 n a0 v1 v2 v4 v5 v6 v7 v8 M) M 0 0 [(0, .ref (b + a0)), (1, .int v1), (2, .int v2), (4, .int v4), (5, .int v5), (6, .int v6), (7, .int v7), (8, .int v8)] 50 [] := by
  intro n
  induction n with
  | zero => intro a0 v1 v2 v4 v5 v6 v7 v8 M h_a0; exact aw_none
  | succ n ih =>
    intro a0 v1 v2 v4 v5 v6 v7 v8 M h_a0
    refine aw_callq (F' := if v8 < (14 : Int32) then (if v8 < (7 : Int32) then (if ((v5 >>> (((7 : Int32) - v8) &&& 31)) &&& (1 : Int32)) = (1 : Int32) then (f_X8_ofMade_L105 (f_X8_ofMade_L50 n) a0 v1 v2 v4 v5 v6 v7 v8 (1 : Int32) M) else (f_X8_ofMade_L105 (f_X8_ofMade_L50 n) a0 v1 v2 v4 v5 v6 v7 v8 (0 : Int32) M)) else (if ((v6 >>> (((14 : Int32) - v8) &&& 31)) &&& (1 : Int32)) = (1 : Int32) then (f_X8_ofMade_L105 (f_X8_ofMade_L50 n) a0 v1 v2 v4 v5 v6 v7 v8 (1 : Int32) M) else (f_X8_ofMade_L105 (f_X8_ofMade_L50 n) a0 v1 v2 v4 v5 v6 v7 v8 (0 : Int32) M))) else (some ((-9 : Int64), M))) rfl ?_
    refine aw_iload (pc := 50) X 7 dX8_ofMade_50 rfl ?_
    refine aw_bipush (pc := 52) X (14 : Int32) dX8_ofMade_52 (by decide) ?_
    refine aw_icmpge (pc := 54) X 169 dX8_ofMade_54 (by decide) ?_ ?_
    · refine aw_iload (pc := 57) X 7 dX8_ofMade_57 rfl ?_
      refine aw_bipush (pc := 59) X (7 : Int32) dX8_ofMade_59 (by decide) ?_
      refine aw_icmpge (pc := 61) X 86 dX8_ofMade_61 (by decide) ?_ ?_
      · refine aw_iload (pc := 64) X 4 dX8_ofMade_64 rfl ?_
        refine aw_bipush (pc := 66) X (7 : Int32) dX8_ofMade_66 (by decide) ?_
        refine aw_iload (pc := 68) X 7 dX8_ofMade_68 rfl ?_
        refine aw_isub (pc := 70) X dX8_ofMade_70 ?_
        refine aw_ishr (pc := 71) X dX8_ofMade_71 ?_
        refine aw_iconst (pc := 72) X (1 : Int32) dX8_ofMade_72 (by decide) ?_
        refine aw_iand (pc := 73) X dX8_ofMade_73 ?_
        refine aw_iconst (pc := 74) X (1 : Int32) dX8_ofMade_74 (by decide) ?_
        refine aw_icmpne (pc := 75) X 82 dX8_ofMade_75 (by decide) ?_ ?_
        · refine aw_iconst (pc := 78) X (1 : Int32) dX8_ofMade_78 (by decide) ?_
          refine aw_goto (pc := 79) X 105 dX8_ofMade_79 (by decide) ?_
          refine aw_sub [0, 1, 2, 3, 4, 5, 6, 7] rfl ?_
          exact t_X8_ofMade_L105 X hr (f_X8_ofMade_L50 n) ih a0 v1 v2 v4 v5 v6 v7 v8 (1 : Int32) M h_a0
        · refine aw_iconst (pc := 82) X (0 : Int32) dX8_ofMade_82 (by decide) ?_
          refine aw_goto (pc := 83) X 105 dX8_ofMade_83 (by decide) ?_
          refine aw_sub [0, 1, 2, 3, 4, 5, 6, 7] rfl ?_
          exact t_X8_ofMade_L105 X hr (f_X8_ofMade_L50 n) ih a0 v1 v2 v4 v5 v6 v7 v8 (0 : Int32) M h_a0
      · refine aw_iload (pc := 86) X 5 dX8_ofMade_86 rfl ?_
        refine aw_bipush (pc := 88) X (14 : Int32) dX8_ofMade_88 (by decide) ?_
        refine aw_iload (pc := 90) X 7 dX8_ofMade_90 rfl ?_
        refine aw_isub (pc := 92) X dX8_ofMade_92 ?_
        refine aw_ishr (pc := 93) X dX8_ofMade_93 ?_
        refine aw_iconst (pc := 94) X (1 : Int32) dX8_ofMade_94 (by decide) ?_
        refine aw_iand (pc := 95) X dX8_ofMade_95 ?_
        refine aw_iconst (pc := 96) X (1 : Int32) dX8_ofMade_96 (by decide) ?_
        refine aw_icmpne (pc := 97) X 104 dX8_ofMade_97 (by decide) ?_ ?_
        · refine aw_iconst (pc := 100) X (1 : Int32) dX8_ofMade_100 (by decide) ?_
          refine aw_goto (pc := 101) X 105 dX8_ofMade_101 (by decide) ?_
          refine aw_sub [0, 1, 2, 3, 4, 5, 6, 7] rfl ?_
          exact t_X8_ofMade_L105 X hr (f_X8_ofMade_L50 n) ih a0 v1 v2 v4 v5 v6 v7 v8 (1 : Int32) M h_a0
        · refine aw_iconst (pc := 104) X (0 : Int32) dX8_ofMade_104 (by decide) ?_
          refine aw_sub [0, 1, 2, 3, 4, 5, 6, 7] rfl ?_
          exact t_X8_ofMade_L105 X hr (f_X8_ofMade_L50 n) ih a0 v1 v2 v4 v5 v6 v7 v8 (0 : Int32) M h_a0
    · refine aw_ldc2 (pc := 169) X (-9 : Int64) dX8_ofMade_169 wo_X8_203 ?_
      exact aw_lret (pc := 172) X hr dX8_ofMade_172 (Nat.le_of_ble_eq_true rfl) (Nat.le_of_ble_eq_true rfl)
def f_X8_ofMade_L44 : Nat → Int32 → Int32 → Int32 → Int32 → Int32 → Int32 → Int32 → JM → Option (Int64 × JM) := fun a0 v1 v2 v4 v5 v6 u0 u1 M => sv (u1 + u0) fun i4 => sv (0 : Int32) fun i5 => f_X8_ofMade_L50 FU a0 v1 v2 v4 v5 v6 i4 i5 M
set_option maxRecDepth 10000 in
set_option maxHeartbeats 4000000 in
theorem t_X8_ofMade_L44 {p : Program} {l : Launch} {e : Env} {s : State} {m : MethodId} {args : Array Value} {below : List Frame} {meth : Method} {c : Code} {D : va_G} {cs : JC} {b : Nat} (X : jX p c cX8_ofMade 11 s m args RX8 D cs b meth s.heap) (hr : meth.sig.returnType = Option.some Jvm.ClassFile.FieldType.long) : ∀ (a0 : Nat) (v1 : Int32) (v2 : Int32) (v4 : Int32) (v5 : Int32) (v6 : Int32) (u0 : Int32) (u1 : Int32) (M : JM), oty M a0 18 → AWO p l e rm_X8_ofMade s m args below meth c D cs b 11 s.heap (jE below D cs b evL args s rm_X8_ofMade.cells rm_X8_ofMade.slots) (f_X8_ofMade_L44 a0 v1 v2 v4 v5 v6 u0 u1 M) M 0 0 [(0, .ref (b + a0)), (1, .int v1), (2, .int v2), (4, .int v4), (5, .int v5), (6, .int v6)] 44 [.int u0, .int u1] := by
  intro a0 v1 v2 v4 v5 v6 u0 u1 M h_a0
  refine aw_callq (F' := sv (u1 + u0) fun i4 => sv (0 : Int32) fun i5 => f_X8_ofMade_L50 FU a0 v1 v2 v4 v5 v6 i4 i5 M) rfl ?_
  refine aw_iadd (pc := 44) X dX8_ofMade_44 ?_
  refine aw_istoreV (pc := 45) X (fun y => [(7, .int y), (0, .ref (b + a0)), (1, .int v1), (2, .int v2), (4, .int v4), (5, .int v5), (6, .int v6)]) dX8_ofMade_45 (by decide) (fun _ => rfl) (fun i4 => ?_)
  refine aw_iconst (pc := 47) X (0 : Int32) dX8_ofMade_47 (by decide) ?_
  refine aw_istoreV (pc := 48) X (fun y => [(8, .int y), (7, .int i4), (0, .ref (b + a0)), (1, .int v1), (2, .int v2), (4, .int v4), (5, .int v5), (6, .int v6)]) dX8_ofMade_48 (by decide) (fun _ => rfl) (fun i5 => ?_)
  refine aw_sub [2, 3, 4, 5, 6, 7, 1, 0] rfl ?_
  exact t_X8_ofMade_L50 X hr FU a0 v1 v2 v4 v5 v6 i4 i5 M h_a0
def f_X8_ofMade_L28 : Nat → Int32 → Int32 → Int32 → Int32 → Int32 → Int32 → JM → Option (Int64 × JM) := fun a0 v1 v2 v3 v4 v5 u0 M => sv u0 fun i3 => if (v5 &&& (1 : Int32)) = (1 : Int32) then (f_X8_ofMade_L44 a0 v1 v2 v4 v5 i3 (2 : Int32) v3 M) else (f_X8_ofMade_L44 a0 v1 v2 v4 v5 i3 (1 : Int32) v3 M)
set_option maxRecDepth 10000 in
set_option maxHeartbeats 4000000 in
theorem t_X8_ofMade_L28 {p : Program} {l : Launch} {e : Env} {s : State} {m : MethodId} {args : Array Value} {below : List Frame} {meth : Method} {c : Code} {D : va_G} {cs : JC} {b : Nat} (X : jX p c cX8_ofMade 11 s m args RX8 D cs b meth s.heap) (hr : meth.sig.returnType = Option.some Jvm.ClassFile.FieldType.long) : ∀ (a0 : Nat) (v1 : Int32) (v2 : Int32) (v3 : Int32) (v4 : Int32) (v5 : Int32) (u0 : Int32) (M : JM), oty M a0 18 → AWO p l e rm_X8_ofMade s m args below meth c D cs b 11 s.heap (jE below D cs b evL args s rm_X8_ofMade.cells rm_X8_ofMade.slots) (f_X8_ofMade_L28 a0 v1 v2 v3 v4 v5 u0 M) M 0 0 [(0, .ref (b + a0)), (1, .int v1), (2, .int v2), (3, .int v3), (4, .int v4), (5, .int v5)] 28 [.int u0] := by
  intro a0 v1 v2 v3 v4 v5 u0 M h_a0
  refine aw_callq (F' := sv u0 fun i3 => if (v5 &&& (1 : Int32)) = (1 : Int32) then (f_X8_ofMade_L44 a0 v1 v2 v4 v5 i3 (2 : Int32) v3 M) else (f_X8_ofMade_L44 a0 v1 v2 v4 v5 i3 (1 : Int32) v3 M)) rfl ?_
  refine aw_istoreV (pc := 28) X (fun y => [(6, .int y), (0, .ref (b + a0)), (1, .int v1), (2, .int v2), (3, .int v3), (4, .int v4), (5, .int v5)]) dX8_ofMade_28 (by decide) (fun _ => rfl) (fun i3 => ?_)
  refine aw_iload_n (pc := 30) X 4 dX8_ofMade_30 rfl ?_
  refine aw_iload (pc := 31) X 6 dX8_ofMade_31 rfl ?_
  refine aw_iconst (pc := 33) X (1 : Int32) dX8_ofMade_33 (by decide) ?_
  refine aw_iand (pc := 34) X dX8_ofMade_34 ?_
  refine aw_iconst (pc := 35) X (1 : Int32) dX8_ofMade_35 (by decide) ?_
  refine aw_icmpne (pc := 36) X 43 dX8_ofMade_36 (by decide) ?_ ?_
  · refine aw_iconst (pc := 39) X (2 : Int32) dX8_ofMade_39 (by decide) ?_
    refine aw_goto (pc := 40) X 44 dX8_ofMade_40 (by decide) ?_
    refine aw_sub [1, 2, 3, 5, 6, 0] rfl ?_
    exact t_X8_ofMade_L44 X hr a0 v1 v2 v4 v5 i3 (2 : Int32) v3 M h_a0
  · refine aw_iconst (pc := 43) X (1 : Int32) dX8_ofMade_43 (by decide) ?_
    refine aw_sub [1, 2, 3, 5, 6, 0] rfl ?_
    exact t_X8_ofMade_L44 X hr a0 v1 v2 v4 v5 i3 (1 : Int32) v3 M h_a0
def f_X8_ofMade (a0 : Nat) (v1 : Int32) (v2 : Int32) (v3 : Int32) (v4 : Int32) (M : JM) : Option (Int64 × JM) := orf (gr M a0 16) fun r1 => if 0 ≤ v3 ∧ v3 < ln r1 then (sv (gi M r1 v3) fun i2 => if (i2 &&& (1 : Int32)) = (1 : Int32) then (orf (gr M a0 16) fun r14 => if 0 ≤ (v3 + (1 : Int32)) ∧ (v3 + (1 : Int32)) < ln r14 then (f_X8_ofMade_L28 a0 v1 v2 v3 v4 i2 (gi M r14 (v3 + (1 : Int32))) M) else none) else (f_X8_ofMade_L28 a0 v1 v2 v3 v4 i2 (0 : Int32) M)) else none
set_option maxRecDepth 10000 in
set_option maxHeartbeats 4000000 in
theorem t_X8_ofMade {l : Launch} {D : va_G} {cs : JC} {b : Nat} (a0 : Nat) (v1 : Int32) (v2 : Int32) (v3 : Int32) (v4 : Int32) (M : JM) (h_a0 : oty M a0 18) : ∀ q, f_X8_ofMade a0 v1 v2 v3 v4 M = some q → CTy l yX8_ofMade (.code yX8_ofMade cX8_ofMade 11 (Option.some Jvm.ClassFile.FieldType.long) :: GB) rm_X8_ofMade D cs b evL [.ref (b + a0), .int v1, .int v2, .int v3, .int v4] M rm_X8_ofMade.cells rm_X8_ofMade.slots q := fun q hq => ct_of [(0, .ref (b + a0)), (1, .int v1), (2, .int v2), (3, .int v3), (4, .int v4)] rfl rfl (Nat.le_of_ble_eq_true rfl) hq (fun p e s m args below meth c X hr hin => by
  refine aw_callq (F' := orf (gr M a0 16) fun r1 => if 0 ≤ v3 ∧ v3 < ln r1 then (sv (gi M r1 v3) fun i2 => if (i2 &&& (1 : Int32)) = (1 : Int32) then (orf (gr M a0 16) fun r14 => if 0 ≤ (v3 + (1 : Int32)) ∧ (v3 + (1 : Int32)) < ln r14 then (f_X8_ofMade_L28 a0 v1 v2 v3 v4 i2 (gi M r14 (v3 + (1 : Int32))) M) else none) else (f_X8_ofMade_L28 a0 v1 v2 v3 v4 i2 (0 : Int32) M)) else none) rfl ?_
  refine aw_aload_n (pc := 0) X 0 dX8_ofMade_0 rfl ?_
  refine gf_X8_31 (pc := 1) X dX8_ofMade_1 h_a0 (fun r1 h_r1 => ?_)
  refine aw_iload_n (pc := 4) X 3 dX8_ofMade_4 rfl ?_
  refine aw_iald (pc := 5) X dX8_ofMade_5 h_r1 ?_
  refine aw_istoreV (pc := 6) X (fun y => [(5, .int y), (0, .ref (b + a0)), (1, .int v1), (2, .int v2), (3, .int v3), (4, .int v4)]) dX8_ofMade_6 (by decide) (fun _ => rfl) (fun i2 => ?_)
  refine aw_iload (pc := 8) X 0 dX8_ofMade_8 rfl ?_
  refine aw_iconst (pc := 10) X (1 : Int32) dX8_ofMade_10 (by decide) ?_
  refine aw_iand (pc := 11) X dX8_ofMade_11 ?_
  refine aw_iconst (pc := 12) X (1 : Int32) dX8_ofMade_12 (by decide) ?_
  refine aw_icmpne (pc := 13) X 27 dX8_ofMade_13 (by decide) ?_ ?_
  · refine aw_aload_n (pc := 16) X 1 dX8_ofMade_16 rfl ?_
    refine gf_X8_31 (pc := 17) X dX8_ofMade_17 h_a0 (fun r14 h_r14 => ?_)
    refine aw_iload_n (pc := 20) X 4 dX8_ofMade_20 rfl ?_
    refine aw_iconst (pc := 21) X (1 : Int32) dX8_ofMade_21 (by decide) ?_
    refine aw_iadd (pc := 22) X dX8_ofMade_22 ?_
    refine aw_iald (pc := 23) X dX8_ofMade_23 h_r14 ?_
    refine aw_goto (pc := 24) X 28 dX8_ofMade_24 (by decide) ?_
    refine aw_sub [1, 2, 3, 4, 5, 0] rfl ?_
    exact t_X8_ofMade_L28 X hr a0 v1 v2 v3 v4 i2 (gi M r14 (v3 + (1 : Int32))) M h_a0
  · refine aw_iconst (pc := 27) X (0 : Int32) dX8_ofMade_27 (by decide) ?_
    refine aw_sub [1, 2, 3, 4, 5, 0] rfl ?_
    exact t_X8_ofMade_L28 X hr a0 v1 v2 v3 v4 i2 (0 : Int32) M h_a0)
/-! ReportBlocksModel.number -/
def rm_X8_number : Room := { frames := 2, cells := 0, slots := 0, locals := 55 }
theorem hd_X8_number : jHd yX8_number 3 := by unfold jHd; decide +kernel
theorem cl_X8_207 {ρ : Type} {l : Launch} {p : Program} {e : Env} {R : Room} {s : State} {m : MethodId} {args : Array Value} {below : List Frame} {meth : Method} {c : Code} {D : va_G} {cs : JC} {b nL : Nat} {H0 : Heap} {Qf : ρ × JM → State → Prop} {M : JM} {ks sl : Nat} {lv : List (Nat × Value)} {pc : Nat} {st : List Value} {cc : ByteArray} (X : jX p c cc nL s m args RX8 D cs b meth H0) {z0 : Nat} {z1 : Int32} {z2 : Int32} {z3 : Int32} {z4 : Int32} {K : Int64 → JM → Option (ρ × JM)} (hrm : jRm rm_X8_ofMade 11 R) (hW : (st.map fun v => v.category).sum ≤ 8) {ks2 sl2 : Nat} (hk2 : ks + rm_X8_ofMade.cells = ks2) (hs2 : sl + rm_X8_ofMade.slots = sl2) (hroom : ks2 ≤ R.cells ∧ sl2 ≤ R.slots) (hdg : decode cc pc = .ok (.invokevirtual 207, 3)) (h0 : oty M z0 18) (kk : ∀ (r : Int64) (M2 : JM), gn M ≤ gn M2 → AWO p l e R s m args below meth c D cs b nL H0 Qf (K r M2) M2 ks2 sl2 lv (pc + 3) (.long r :: st)) : AWO p l e R s m args below meth c D cs b nL H0 Qf (ob (f_X8_ofMade z0 z1 z2 z3 z4 M) K) M ks sl lv pc (.int z4 :: .int z3 :: .int z2 :: .int z1 :: .ref (b + z0) :: st) := by
  subst hk2
  subst hs2
  exact aw_callV (ci := 8) X [.int z1, .int z2, .int z3, .int z4] st rfl rfl wl_X8_207 wi_X8_ofMade wv_X8_ofMade wc_X8_ofMade wn_X8 (n := 4) hd_X8_ofMade rfl hrm hW hroom hdg h0 (t_X8_ofMade z0 z1 z2 z3 z4 M h0) (fun r M2 g _ => kk r M2 g)
def f_X8_number (a0 : Nat) (v1 : Int32) (v2 : Int32) (v3 : Int32) (M : JM) : Option (Int64 × JM) := ob (f_X8_isRecord a0 v1 M) fun r3 M1 => if r3 = true then (ob (f_X8_isPlace v2 M1) fun r6 M4 => if r6 = true then (sv (((22 : Int32) * (gi M4 a0 15)) + v2) fun i7 => orf (gr M4 a0 18) fun r8 => if 0 ≤ (((22 : Int32) * v1) + v2) ∧ (((22 : Int32) * v1) + v2) < ln r8 then (sv (gi M4 r8 (((22 : Int32) * v1) + v2)) fun i9 => orf (gr M4 a0 19) fun r10 => if 0 ≤ (((22 : Int32) * v1) + v2) ∧ (((22 : Int32) * v1) + v2) < ln r10 then (if (gi M4 r10 (((22 : Int32) * v1) + v2)) = 0 then (some ((-9 : Int64), M4)) else (orf (gr M4 a0 2) fun r11 => if 0 ≤ i7 ∧ i7 < ln r11 then (if (gi M4 r11 i7) = (0 : Int32) then (if v3 = 0 then (orf (gr M4 a0 3) fun r12 => if 0 ≤ i7 ∧ i7 < ln r12 then (ob (f_X8_together a0 i9 (gi M4 r12 i7) M4) fun r15 M13 => some (r15, M13)) else none) else (some ((-9 : Int64), M4))) else (if (gi M4 r11 i7) = (1 : Int32) then (some ((-9 : Int64), M4)) else (if (gi M4 r11 i7) = (2 : Int32) then (orf (gr M4 a0 16) fun r16 => if 0 ≤ i9 ∧ i9 < ln r16 then (ob (f_X8_in v3 (0 : Int32) ((gi M4 r16 i9) - (1 : Int32)) M4) fun r19 M17 => if r19 = true then (orf (gr M17 a0 3) fun r20 => if 0 ≤ i7 ∧ i7 < ln r20 then (orf (gr M17 a0 3) fun r21 => if 0 ≤ i7 ∧ i7 < ln r21 then (ob (f_X8_together a0 ((i9 + (1 : Int32)) + (v3 * (gi M17 r20 i7))) (gi M17 r21 i7) M17) fun r24 M22 => some (r24, M22)) else none) else none) else (some ((-9 : Int64), M17))) else none) else (if (gi M4 r11 i7) = (3 : Int32) then (ob (f_X8_ofMade a0 (gi M4 a0 15) v2 i9 v3 M4) fun r27 M25 => some (r27, M25)) else (some ((-9 : Int64), M4)))))) else none)) else none) else none) else (some ((-1 : Int64), M4))) else (some ((-1 : Int64), M1))
set_option maxRecDepth 10000 in
set_option maxHeartbeats 4000000 in
theorem t_X8_number {l : Launch} {D : va_G} {cs : JC} {b : Nat} (a0 : Nat) (v1 : Int32) (v2 : Int32) (v3 : Int32) (M : JM) (h_a0 : oty M a0 18) : ∀ q, f_X8_number a0 v1 v2 v3 M = some q → CTy l yX8_number (.code yX8_number cX8_number 6 (Option.some Jvm.ClassFile.FieldType.long) :: GB) rm_X8_number D cs b evL [.ref (b + a0), .int v1, .int v2, .int v3] M rm_X8_number.cells rm_X8_number.slots q := fun q hq => ct_of [(0, .ref (b + a0)), (1, .int v1), (2, .int v2), (3, .int v3)] rfl rfl (Nat.le_of_ble_eq_true rfl) hq (fun p e s m args below meth c X hr hin => by
  refine aw_callq (F' := ob (f_X8_isRecord a0 v1 M) fun r3 M1 => if r3 = true then (ob (f_X8_isPlace v2 M1) fun r6 M4 => if r6 = true then (sv (((22 : Int32) * (gi M4 a0 15)) + v2) fun i7 => orf (gr M4 a0 18) fun r8 => if 0 ≤ (((22 : Int32) * v1) + v2) ∧ (((22 : Int32) * v1) + v2) < ln r8 then (sv (gi M4 r8 (((22 : Int32) * v1) + v2)) fun i9 => orf (gr M4 a0 19) fun r10 => if 0 ≤ (((22 : Int32) * v1) + v2) ∧ (((22 : Int32) * v1) + v2) < ln r10 then (if (gi M4 r10 (((22 : Int32) * v1) + v2)) = 0 then (some ((-9 : Int64), M4)) else (orf (gr M4 a0 2) fun r11 => if 0 ≤ i7 ∧ i7 < ln r11 then (if (gi M4 r11 i7) = (0 : Int32) then (if v3 = 0 then (orf (gr M4 a0 3) fun r12 => if 0 ≤ i7 ∧ i7 < ln r12 then (ob (f_X8_together a0 i9 (gi M4 r12 i7) M4) fun r15 M13 => some (r15, M13)) else none) else (some ((-9 : Int64), M4))) else (if (gi M4 r11 i7) = (1 : Int32) then (some ((-9 : Int64), M4)) else (if (gi M4 r11 i7) = (2 : Int32) then (orf (gr M4 a0 16) fun r16 => if 0 ≤ i9 ∧ i9 < ln r16 then (ob (f_X8_in v3 (0 : Int32) ((gi M4 r16 i9) - (1 : Int32)) M4) fun r19 M17 => if r19 = true then (orf (gr M17 a0 3) fun r20 => if 0 ≤ i7 ∧ i7 < ln r20 then (orf (gr M17 a0 3) fun r21 => if 0 ≤ i7 ∧ i7 < ln r21 then (ob (f_X8_together a0 ((i9 + (1 : Int32)) + (v3 * (gi M17 r20 i7))) (gi M17 r21 i7) M17) fun r24 M22 => some (r24, M22)) else none) else none) else (some ((-9 : Int64), M17))) else none) else (if (gi M4 r11 i7) = (3 : Int32) then (ob (f_X8_ofMade a0 (gi M4 a0 15) v2 i9 v3 M4) fun r27 M25 => some (r27, M25)) else (some ((-9 : Int64), M4)))))) else none)) else none) else none) else (some ((-1 : Int64), M4))) else (some ((-1 : Int64), M1))) rfl ?_
  refine aw_aload_n (pc := 0) X 0 dX8_number_0 rfl ?_
  refine aw_iload_n (pc := 1) X 1 dX8_number_1 rfl ?_
  refine cl_X8_196 (pc := 2) X ⟨Nat.le_of_ble_eq_true rfl, Nat.le_of_ble_eq_true rfl⟩ (Nat.le_of_ble_eq_true rfl) (ks2 := 0) (sl2 := 0) rfl rfl ⟨(Nat.le_of_ble_eq_true rfl), (Nat.le_of_ble_eq_true rfl)⟩ dX8_number_2 h_a0 (fun r3 M1 g2 => ?_)
  have h_a0 := h_a0.mono g2
  refine aw_ifeqB (pc := 5) X 15 dX8_number_5 (by decide) ?_ ?_
  · refine aw_iload_n (pc := 8) X 2 dX8_number_8 rfl ?_
    refine cl_X8_124 (pc := 9) X ⟨Nat.le_of_ble_eq_true rfl, Nat.le_of_ble_eq_true rfl⟩ (Nat.le_of_ble_eq_true rfl) (ks2 := 0) (sl2 := 0) rfl rfl ⟨(Nat.le_of_ble_eq_true rfl), (Nat.le_of_ble_eq_true rfl)⟩ dX8_number_9  (fun r6 M4 g5 => ?_)
    have h_a0 := h_a0.mono g5
    refine aw_ifneB (pc := 12) X 19 dX8_number_12 (by decide) ?_ ?_
    · refine aw_bipush (pc := 19) X (22 : Int32) dX8_number_19 (by decide) ?_
      refine aw_aload_n (pc := 21) X 0 dX8_number_21 rfl ?_
      refine gf_X8_99 (pc := 22) X dX8_number_22 h_a0 ?_
      refine aw_imul (pc := 25) X dX8_number_25 ?_
      refine aw_iload_n (pc := 26) X 2 dX8_number_26 rfl ?_
      refine aw_iadd (pc := 27) X dX8_number_27 ?_
      refine aw_istoreV (pc := 28) X (fun y => [(4, .int y), (0, .ref (b + a0)), (1, .int v1), (2, .int v2), (3, .int v3)]) dX8_number_28 (by decide) (fun _ => rfl) (fun i7 => ?_)
      refine aw_aload_n (pc := 30) X 1 dX8_number_30 rfl ?_
      refine gf_X8_37 (pc := 31) X dX8_number_31 h_a0 (fun r8 h_r8 => ?_)
      refine aw_bipush (pc := 34) X (22 : Int32) dX8_number_34 (by decide) ?_
      refine aw_iload_n (pc := 36) X 2 dX8_number_36 rfl ?_
      refine aw_imul (pc := 37) X dX8_number_37 ?_
      refine aw_iload_n (pc := 38) X 3 dX8_number_38 rfl ?_
      refine aw_iadd (pc := 39) X dX8_number_39 ?_
      refine aw_iald (pc := 40) X dX8_number_40 h_r8 ?_
      refine aw_istoreV (pc := 41) X (fun y => [(5, .int y), (4, .int i7), (0, .ref (b + a0)), (1, .int v1), (2, .int v2), (3, .int v3)]) dX8_number_41 (by decide) (fun _ => rfl) (fun i9 => ?_)
      refine aw_aload_n (pc := 43) X 2 dX8_number_43 rfl ?_
      refine gf_X8_40 (pc := 44) X dX8_number_44 h_a0 (fun r10 h_r10 => ?_)
      refine aw_bipush (pc := 47) X (22 : Int32) dX8_number_47 (by decide) ?_
      refine aw_iload_n (pc := 49) X 3 dX8_number_49 rfl ?_
      refine aw_imul (pc := 50) X dX8_number_50 ?_
      refine aw_iload_n (pc := 51) X 4 dX8_number_51 rfl ?_
      refine aw_iadd (pc := 52) X dX8_number_52 ?_
      refine aw_iald (pc := 53) X dX8_number_53 h_r10 ?_
      refine aw_ifne (pc := 54) X 61 dX8_number_54 (by decide) ?_ ?_
      · refine aw_ldc2 (pc := 57) X (-9 : Int64) dX8_number_57 wo_X8_203 ?_
        exact aw_lret (pc := 60) X hr dX8_number_60 (Nat.le_of_ble_eq_true rfl) (Nat.le_of_ble_eq_true rfl)
      · refine aw_aload_n (pc := 61) X 2 dX8_number_61 rfl ?_
        refine gf_X8_13 (pc := 62) X dX8_number_62 h_a0 (fun r11 h_r11 => ?_)
        refine aw_iload (pc := 65) X 1 dX8_number_65 rfl ?_
        refine aw_iald (pc := 67) X dX8_number_67 h_r11 ?_
        refine aw_swIn (pc := 68) X (0 : Int32) 100 dX8_number_68 (by decide) (by decide) rfl (by decide) ?_ (fun hn0 => ?_)
        · refine aw_iload_n (pc := 100) X 5 dX8_number_100 rfl ?_
          refine aw_ifne (pc := 101) X 120 dX8_number_101 (by decide) ?_ ?_
          · refine aw_aload_n (pc := 104) X 2 dX8_number_104 rfl ?_
            refine aw_iload (pc := 105) X 0 dX8_number_105 rfl ?_
            refine aw_aload_n (pc := 107) X 2 dX8_number_107 rfl ?_
            refine gf_X8_16 (pc := 108) X dX8_number_108 h_a0 (fun r12 h_r12 => ?_)
            refine aw_iload (pc := 111) X 1 dX8_number_111 rfl ?_
            refine aw_iald (pc := 113) X dX8_number_113 h_r12 ?_
            refine cl_X8_199 (pc := 114) X ⟨Nat.le_of_ble_eq_true rfl, Nat.le_of_ble_eq_true rfl⟩ (Nat.le_of_ble_eq_true rfl) (ks2 := 0) (sl2 := 0) rfl rfl ⟨(Nat.le_of_ble_eq_true rfl), (Nat.le_of_ble_eq_true rfl)⟩ dX8_number_114 h_a0 (fun r15 M13 g14 => ?_)
            have h_a0 := h_a0.mono g14
            refine aw_goto (pc := 117) X 123 dX8_number_117 (by decide) ?_
            exact aw_lret (pc := 123) X hr dX8_number_123 (Nat.le_of_ble_eq_true rfl) (Nat.le_of_ble_eq_true rfl)
          · refine aw_ldc2 (pc := 120) X (-9 : Int64) dX8_number_120 wo_X8_203 ?_
            exact aw_lret (pc := 123) X hr dX8_number_123 (Nat.le_of_ble_eq_true rfl) (Nat.le_of_ble_eq_true rfl)
        refine aw_swIn (pc := 68) X (1 : Int32) 186 dX8_number_68 (by decide) (by decide) rfl (by decide) ?_ (fun hn1 => ?_)
        · refine aw_ldc2 (pc := 186) X (-9 : Int64) dX8_number_186 wo_X8_203 ?_
          exact aw_lret (pc := 189) X hr dX8_number_189 (Nat.le_of_ble_eq_true rfl) (Nat.le_of_ble_eq_true rfl)
        refine aw_swIn (pc := 68) X (2 : Int32) 124 dX8_number_68 (by decide) (by decide) rfl (by decide) ?_ (fun hn2 => ?_)
        · refine aw_iload_n (pc := 124) X 5 dX8_number_124 rfl ?_
          refine aw_iconst (pc := 125) X (0 : Int32) dX8_number_125 (by decide) ?_
          refine aw_aload_n (pc := 126) X 2 dX8_number_126 rfl ?_
          refine gf_X8_31 (pc := 127) X dX8_number_127 h_a0 (fun r16 h_r16 => ?_)
          refine aw_iload (pc := 130) X 0 dX8_number_130 rfl ?_
          refine aw_iald (pc := 132) X dX8_number_132 h_r16 ?_
          refine aw_iconst (pc := 133) X (1 : Int32) dX8_number_133 (by decide) ?_
          refine aw_isub (pc := 134) X dX8_number_134 ?_
          refine cl_X8_105 (pc := 135) X ⟨Nat.le_of_ble_eq_true rfl, Nat.le_of_ble_eq_true rfl⟩ (Nat.le_of_ble_eq_true rfl) (ks2 := 0) (sl2 := 0) rfl rfl ⟨(Nat.le_of_ble_eq_true rfl), (Nat.le_of_ble_eq_true rfl)⟩ dX8_number_135  (fun r19 M17 g18 => ?_)
          have h_a0 := h_a0.mono g18
          refine aw_ifeqB (pc := 138) X 169 dX8_number_138 (by decide) ?_ ?_
          · refine aw_aload_n (pc := 141) X 2 dX8_number_141 rfl ?_
            refine aw_iload (pc := 142) X 0 dX8_number_142 rfl ?_
            refine aw_iconst (pc := 144) X (1 : Int32) dX8_number_144 (by decide) ?_
            refine aw_iadd (pc := 145) X dX8_number_145 ?_
            refine aw_iload_n (pc := 146) X 5 dX8_number_146 rfl ?_
            refine aw_aload_n (pc := 147) X 2 dX8_number_147 rfl ?_
            refine gf_X8_16 (pc := 148) X dX8_number_148 h_a0 (fun r20 h_r20 => ?_)
            refine aw_iload (pc := 151) X 1 dX8_number_151 rfl ?_
            refine aw_iald (pc := 153) X dX8_number_153 h_r20 ?_
            refine aw_imul (pc := 154) X dX8_number_154 ?_
            refine aw_iadd (pc := 155) X dX8_number_155 ?_
            refine aw_aload_n (pc := 156) X 2 dX8_number_156 rfl ?_
            refine gf_X8_16 (pc := 157) X dX8_number_157 h_a0 (fun r21 h_r21 => ?_)
            refine aw_iload (pc := 160) X 1 dX8_number_160 rfl ?_
            refine aw_iald (pc := 162) X dX8_number_162 h_r21 ?_
            refine cl_X8_199 (pc := 163) X ⟨Nat.le_of_ble_eq_true rfl, Nat.le_of_ble_eq_true rfl⟩ (Nat.le_of_ble_eq_true rfl) (ks2 := 0) (sl2 := 0) rfl rfl ⟨(Nat.le_of_ble_eq_true rfl), (Nat.le_of_ble_eq_true rfl)⟩ dX8_number_163 h_a0 (fun r24 M22 g23 => ?_)
            have h_a0 := h_a0.mono g23
            refine aw_goto (pc := 166) X 172 dX8_number_166 (by decide) ?_
            exact aw_lret (pc := 172) X hr dX8_number_172 (Nat.le_of_ble_eq_true rfl) (Nat.le_of_ble_eq_true rfl)
          · refine aw_ldc2 (pc := 169) X (-9 : Int64) dX8_number_169 wo_X8_203 ?_
            exact aw_lret (pc := 172) X hr dX8_number_172 (Nat.le_of_ble_eq_true rfl) (Nat.le_of_ble_eq_true rfl)
        refine aw_swIn (pc := 68) X (3 : Int32) 173 dX8_number_68 (by decide) (by decide) rfl (by decide) ?_ (fun hn3 => ?_)
        · refine aw_aload_n (pc := 173) X 2 dX8_number_173 rfl ?_
          refine aw_aload_n (pc := 174) X 2 dX8_number_174 rfl ?_
          refine gf_X8_99 (pc := 175) X dX8_number_175 h_a0 ?_
          refine aw_iload_n (pc := 178) X 4 dX8_number_178 rfl ?_
          refine aw_iload (pc := 179) X 0 dX8_number_179 rfl ?_
          refine aw_iload_n (pc := 181) X 5 dX8_number_181 rfl ?_
          refine cl_X8_207 (pc := 182) X ⟨Nat.le_of_ble_eq_true rfl, Nat.le_of_ble_eq_true rfl⟩ (Nat.le_of_ble_eq_true rfl) (ks2 := 0) (sl2 := 0) rfl rfl ⟨(Nat.le_of_ble_eq_true rfl), (Nat.le_of_ble_eq_true rfl)⟩ dX8_number_182 h_a0 (fun r27 M25 g26 => ?_)
          have h_a0 := h_a0.mono g26
          exact aw_lret (pc := 185) X hr dX8_number_185 (Nat.le_of_ble_eq_true rfl) (Nat.le_of_ble_eq_true rfl)
        refine aw_swOut (pc := 68) X 186 dX8_number_68 (by have e0 := sw_ne (z := 0) hn0 rfl; have e1 := sw_ne (z := 1) hn1 rfl; have e2 := sw_ne (z := 2) hn2 rfl; have e3 := sw_ne (z := 3) hn3 rfl; omega) (by decide) ?_
        refine aw_ldc2 (pc := 186) X (-9 : Int64) dX8_number_186 wo_X8_203 ?_
        exact aw_lret (pc := 189) X hr dX8_number_189 (Nat.le_of_ble_eq_true rfl) (Nat.le_of_ble_eq_true rfl)
    · refine aw_ldc2 (pc := 15) X (-1 : Int64) dX8_number_15 wo_X8_205 ?_
      exact aw_lret (pc := 18) X hr dX8_number_18 (Nat.le_of_ble_eq_true rfl) (Nat.le_of_ble_eq_true rfl)
  · refine aw_ldc2 (pc := 15) X (-1 : Int64) dX8_number_15 wo_X8_205 ?_
    exact aw_lret (pc := 18) X hr dX8_number_18 (Nat.le_of_ble_eq_true rfl) (Nat.le_of_ble_eq_true rfl))
/-! ReportBlocks$OwnRecord.startFor -/
def rm_X2_startFor : Room := { frames := 1, cells := 0, slots := 0, locals := 23 }
theorem hd_X2_startFor : jHd yX2_startFor 1 := by unfold jHd; decide +kernel
theorem gf_X2_19 {ρ : Type} {l : Launch} {p : Program} {e : Env} {R : Room} {s : State} {m : MethodId} {args : Array Value} {below : List Frame} {meth : Method} {c : Code} {D : va_G} {cs : JC} {b nL : Nat} {H0 : Heap} {Qf : ρ × JM → State → Prop} {M : JM} {ks sl : Nat} {lv : List (Nat × Value)} {pc : Nat} {st : List Value} {cc : ByteArray} {k : Nat} (X : jX p c cc nL s m args RX2 D cs b meth H0) {K : Nat → Option (ρ × JM)} (hdg : decode cc pc = .ok (.getfield 19, 3)) (ho : oty M k 12) (kk : ∀ r : Nat, oty M r 1 → AWO p l e R s m args below meth c D cs b nL H0 Qf (K r) M ks sl lv (pc + 3) (.ref (b + r) :: st)) : AWO p l e R s m args below meth c D cs b nL H0 Qf (orf (gr M k 2) K) M ks sl lv pc (.ref (b + k) :: st) := aw_getR (ci := 2) (τ := 1) X 2 rfl gy_X2 (by decide) (by decide) rfl rfl (by decide) wf_X2_19 hdg ho kk
theorem cl_X2_22 {ρ : Type} {l : Launch} {p : Program} {e : Env} {R : Room} {s : State} {m : MethodId} {args : Array Value} {below : List Frame} {meth : Method} {c : Code} {D : va_G} {cs : JC} {b nL : Nat} {H0 : Heap} {Qf : ρ × JM → State → Prop} {M : JM} {ks sl : Nat} {lv : List (Nat × Value)} {pc : Nat} {st : List Value} {cc : ByteArray} (X : jX p c cc nL s m args RX2 D cs b meth H0) {z0 : Nat} {z1 : Int32} {K : JM → Option (ρ × JM)} (hrm : jRm rm_J7_fill_53178 4 R) (hW : (st.map fun v => v.category).sum ≤ 8) {ks2 sl2 : Nat} (hk2 : ks + rm_J7_fill_53178.cells = ks2) (hs2 : sl + rm_J7_fill_53178.slots = sl2) (hroom : ks2 ≤ R.cells ∧ sl2 ≤ R.slots) (hdg : decode cc pc = .ok (.invokestatic 22, 3)) (h0 : oty M z0 1) (kk : ∀ (M2 : JM), gn M ≤ gn M2 → AWO p l e R s m args below meth c D cs b nL H0 Qf (K M2) M2 ks2 sl2 lv (pc + 3) (st)) : AWO p l e R s m args below meth c D cs b nL H0 Qf (ob (f_J7_fill_53178 z0 z1 M) (fun _ => K)) M ks sl lv pc (.int z1 :: .ref (b + z0) :: st) := by
  subst hk2
  subst hs2
  exact aw_callS X [.ref (b + z0), .int z1] st rfl wl_X2_22 wt_J7_fill_53178 wc_J7_fill_53178 wn_J7 (n := 2) hd_J7_fill_53178 rfl hrm hW hroom hdg (t_J7_fill_53178 z0 z1 M h0) (fun _ M2 g _ => kk M2 g)
def f_X2_startFor (a0 : Nat) (v1 : Int32) (M : JM) : Option (Unit × JM) := sq (si M a0 0 v1) fun M1 => orf (gr M1 a0 2) fun r3 => ob (f_J7_fill_53178 r3 (0 : Int32) M1) fun _ M4 => some ((), M4)
set_option maxRecDepth 10000 in
set_option maxHeartbeats 4000000 in
theorem t_X2_startFor {l : Launch} {D : va_G} {cs : JC} {b : Nat} (a0 : Nat) (v1 : Int32) (M : JM) (h_a0 : oty M a0 12) : ∀ q, f_X2_startFor a0 v1 M = some q → CTy l yX2_startFor (.code yX2_startFor cX2_startFor 2 (Option.none) :: GB) rm_X2_startFor D cs b evV [.ref (b + a0), .int v1] M rm_X2_startFor.cells rm_X2_startFor.slots q := fun q hq => ct_of [(0, .ref (b + a0)), (1, .int v1)] rfl rfl (Nat.le_of_ble_eq_true rfl) hq (fun p e s m args below meth c X hr hin => by
  refine aw_callq (F' := sq (si M a0 0 v1) fun M1 => orf (gr M1 a0 2) fun r3 => ob (f_J7_fill_53178 r3 (0 : Int32) M1) fun _ M4 => some ((), M4)) rfl ?_
  refine aw_aload_n (pc := 0) X 0 dX2_startFor_0 rfl ?_
  refine aw_iload_n (pc := 1) X 1 dX2_startFor_1 rfl ?_
  refine pf_X2_9 (pc := 2) X dX2_startFor_2 h_a0 (fun M1 g2 => ?_)
  have h_a0 := h_a0.mono g2
  refine aw_aload_n (pc := 5) X 0 dX2_startFor_5 rfl ?_
  refine gf_X2_19 (pc := 6) X dX2_startFor_6 h_a0 (fun r3 h_r3 => ?_)
  refine aw_iconst (pc := 9) X (0 : Int32) dX2_startFor_9 (by decide) ?_
  refine cl_X2_22 (pc := 10) X ⟨Nat.le_of_ble_eq_true rfl, Nat.le_of_ble_eq_true rfl⟩ (Nat.le_of_ble_eq_true rfl) (ks2 := 0) (sl2 := 0) rfl rfl ⟨(Nat.le_of_ble_eq_true rfl), (Nat.le_of_ble_eq_true rfl)⟩ dX2_startFor_10 h_r3 (fun M4 g5 => ?_)
  have h_a0 := h_a0.mono g5
  exact aw_vret (pc := 13) X hr dX2_startFor_13 (Nat.le_of_ble_eq_true rfl) (Nat.le_of_ble_eq_true rfl))
/-! ReportBlocks.begin -/
def rm_X7_begin : Room := { frames := 2, cells := 0, slots := 0, locals := 44 }
theorem hd_X7_begin : jHd yX7_begin 1 := by unfold jHd; decide +kernel
theorem cl_X7_179 {ρ : Type} {l : Launch} {p : Program} {e : Env} {R : Room} {s : State} {m : MethodId} {args : Array Value} {below : List Frame} {meth : Method} {c : Code} {D : va_G} {cs : JC} {b nL : Nat} {H0 : Heap} {Qf : ρ × JM → State → Prop} {M : JM} {ks sl : Nat} {lv : List (Nat × Value)} {pc : Nat} {st : List Value} {cc : ByteArray} (X : jX p c cc nL s m args RX7 D cs b meth H0) {z0 : Nat} {z1 : Int32} {K : JM → Option (ρ × JM)} (hrm : jRm rm_X2_startFor 2 R) (hW : (st.map fun v => v.category).sum ≤ 8) {ks2 sl2 : Nat} (hk2 : ks + rm_X2_startFor.cells = ks2) (hs2 : sl + rm_X2_startFor.slots = sl2) (hroom : ks2 ≤ R.cells ∧ sl2 ≤ R.slots) (hdg : decode cc pc = .ok (.invokevirtual 179, 3)) (h0 : oty M z0 12) (kk : ∀ (M2 : JM), gn M ≤ gn M2 → AWO p l e R s m args below meth c D cs b nL H0 Qf (K M2) M2 ks2 sl2 lv (pc + 3) (st)) : AWO p l e R s m args below meth c D cs b nL H0 Qf (ob (f_X2_startFor z0 z1 M) (fun _ => K)) M ks sl lv pc (.int z1 :: .ref (b + z0) :: st) := by
  subst hk2
  subst hs2
  exact aw_callV (ci := 2) X [.int z1] st rfl rfl wl_X7_179 wi_X2_startFor wv_X2_startFor wc_X2_startFor wn_X2 (n := 1) hd_X2_startFor rfl hrm hW hroom hdg h0 (t_X2_startFor z0 z1 M h0) (fun _ M2 g _ => kk M2 g)
def f_X7_begin (a0 : Nat) (v1 : Int32) (M : JM) : Option (Int32 × JM) := ob (f_X7_categoryAt a0 v1 M) fun o4 M1 => oca o4 (some ((-1 : Int32), M1)) fun r3 => orf (gr M1 a0 6) fun r5 => ob (f_X2_startFor r5 v1 M1) fun _ M6 => some ((1 : Int32), M6)
set_option maxRecDepth 10000 in
set_option maxHeartbeats 4000000 in
theorem t_X7_begin {l : Launch} {D : va_G} {cs : JC} {b : Nat} (a0 : Nat) (v1 : Int32) (M : JM) (h_a0 : oty M a0 17) : ∀ q, f_X7_begin a0 v1 M = some q → CTy l yX7_begin (.code yX7_begin cX7_begin 2 (Option.some Jvm.ClassFile.FieldType.int) :: GB) rm_X7_begin D cs b evI [.ref (b + a0), .int v1] M rm_X7_begin.cells rm_X7_begin.slots q := fun q hq => ct_of [(0, .ref (b + a0)), (1, .int v1)] rfl rfl (Nat.le_of_ble_eq_true rfl) hq (fun p e s m args below meth c X hr hin => by
  refine aw_callq (F' := ob (f_X7_categoryAt a0 v1 M) fun o4 M1 => oca o4 (some ((-1 : Int32), M1)) fun r3 => orf (gr M1 a0 6) fun r5 => ob (f_X2_startFor r5 v1 M1) fun _ M6 => some ((1 : Int32), M6)) rfl ?_
  refine aw_aload_n (pc := 0) X 0 dX7_begin_0 rfl ?_
  refine aw_iload_n (pc := 1) X 1 dX7_begin_1 rfl ?_
  refine cl_X7_66 (pc := 2) X ⟨Nat.le_of_ble_eq_true rfl, Nat.le_of_ble_eq_true rfl⟩ (Nat.le_of_ble_eq_true rfl) (ks2 := 0) (sl2 := 0) rfl rfl ⟨(Nat.le_of_ble_eq_true rfl), (Nat.le_of_ble_eq_true rfl)⟩ dX7_begin_2 h_a0 (fun M1 g2 => ?_) (fun r3 M1 g2 h_r3 => ?_)
  · have h_a0 := h_a0.mono g2
    refine aw_ifnonnull_n (pc := 5) X dX7_begin_5 ?_
    refine aw_iconst (pc := 8) X (-1 : Int32) dX7_begin_8 (by decide) ?_
    exact aw_iret (pc := 9) X hr dX7_begin_9 (Nat.le_of_ble_eq_true rfl) (Nat.le_of_ble_eq_true rfl)
  · have h_a0 := h_a0.mono g2
    refine aw_ifnonnull_r (pc := 5) X 10 dX7_begin_5 (by decide) ?_
    refine aw_aload_n (pc := 10) X 0 dX7_begin_10 rfl ?_
    refine gf_X7_44 (pc := 11) X dX7_begin_11 h_a0 (fun r5 h_r5 => ?_)
    refine aw_iload_n (pc := 14) X 1 dX7_begin_14 rfl ?_
    refine cl_X7_179 (pc := 15) X ⟨Nat.le_of_ble_eq_true rfl, Nat.le_of_ble_eq_true rfl⟩ (Nat.le_of_ble_eq_true rfl) (ks2 := 0) (sl2 := 0) rfl rfl ⟨(Nat.le_of_ble_eq_true rfl), (Nat.le_of_ble_eq_true rfl)⟩ dX7_begin_15 h_r5 (fun M6 g7 => ?_)
    have h_a0 := h_a0.mono g7
    refine aw_iconst (pc := 18) X (1 : Int32) dX7_begin_18 (by decide) ?_
    exact aw_iret (pc := 19) X hr dX7_begin_19 (Nat.le_of_ble_eq_true rfl) (Nat.le_of_ble_eq_true rfl))
/-! ReportBlocksModel.begin -/
def rm_X8_begin : Room := { frames := 2, cells := 0, slots := 0, locals := 43 }
theorem hd_X8_begin : jHd yX8_begin 1 := by unfold jHd; decide +kernel
theorem gf_X8_60 {ρ : Type} {l : Launch} {p : Program} {e : Env} {R : Room} {s : State} {m : MethodId} {args : Array Value} {below : List Frame} {meth : Method} {c : Code} {D : va_G} {cs : JC} {b nL : Nat} {H0 : Heap} {Qf : ρ × JM → State → Prop} {M : JM} {ks sl : Nat} {lv : List (Nat × Value)} {pc : Nat} {st : List Value} {cc : ByteArray} {k : Nat} (X : jX p c cc nL s m args RX8 D cs b meth H0) {K : Nat → Option (ρ × JM)} (hdg : decode cc pc = .ok (.getfield 60, 3)) (ho : oty M k 18) (kk : ∀ r : Nat, oty M r 1 → AWO p l e R s m args below meth c D cs b nL H0 Qf (K r) M ks sl lv (pc + 3) (.ref (b + r) :: st)) : AWO p l e R s m args below meth c D cs b nL H0 Qf (orf (gr M k 26) K) M ks sl lv pc (.ref (b + k) :: st) := aw_getR (ci := 8) (τ := 1) X 26 rfl gy_X8 (by decide) (by decide) rfl rfl (by decide) wf_X8_60 hdg ho kk
def f_X8_begin_L17 : Nat → Nat → Int32 → JM → Option (Int32 × JM)
  | 0, _, _, _ => none
  | n + 1, a0, v2, M => if (21 : Int32) < v2 then (some ((1 : Int32), M)) else (orf (gr M a0 26) fun r7 => if 0 ≤ v2 ∧ v2 < ln r7 then (sq (si M r7 v2 (0 : Int32)) fun M8 => sv (v2 + (1 : Int32)) fun i10 => (f_X8_begin_L17 n) a0 i10 M8) else none)
set_option maxRecDepth 10000 in
set_option maxHeartbeats 4000000 in
theorem t_X8_begin_L17 {p : Program} {l : Launch} {e : Env} {s : State} {m : MethodId} {args : Array Value} {below : List Frame} {meth : Method} {c : Code} {D : va_G} {cs : JC} {b : Nat} (X : jX p c cX8_begin 3 s m args RX8 D cs b meth s.heap) (hr : meth.sig.returnType = Option.some Jvm.ClassFile.FieldType.int) : ∀ (n : Nat) (a0 : Nat) (v2 : Int32) (M : JM), oty M a0 18 → AWO p l e rm_X8_begin s m args below meth c D cs b 3 s.heap (jE below D cs b evI args s rm_X8_begin.cells rm_X8_begin.slots) (f_X8_begin_L17 n a0 v2 M) M 0 0 [(0, .ref (b + a0)), (2, .int v2)] 17 [] := by
  intro n
  induction n with
  | zero => intro a0 v2 M h_a0; exact aw_none
  | succ n ih =>
    intro a0 v2 M h_a0
    refine aw_callq (F' := if (21 : Int32) < v2 then (some ((1 : Int32), M)) else (orf (gr M a0 26) fun r7 => if 0 ≤ v2 ∧ v2 < ln r7 then (sq (si M r7 v2 (0 : Int32)) fun M8 => sv (v2 + (1 : Int32)) fun i10 => (f_X8_begin_L17 n) a0 i10 M8) else none)) rfl ?_
    refine aw_iload_n (pc := 17) X 1 dX8_begin_17 rfl ?_
    refine aw_bipush (pc := 18) X (21 : Int32) dX8_begin_18 (by decide) ?_
    refine aw_icmpgt (pc := 20) X 36 dX8_begin_20 (by decide) ?_ ?_
    · refine aw_iconst (pc := 36) X (1 : Int32) dX8_begin_36 (by decide) ?_
      exact aw_iret (pc := 37) X hr dX8_begin_37 (Nat.le_of_ble_eq_true rfl) (Nat.le_of_ble_eq_true rfl)
    · refine aw_aload_n (pc := 23) X 0 dX8_begin_23 rfl ?_
      refine gf_X8_60 (pc := 24) X dX8_begin_24 h_a0 (fun r7 h_r7 => ?_)
      refine aw_iload_n (pc := 27) X 1 dX8_begin_27 rfl ?_
      refine aw_iconst (pc := 28) X (0 : Int32) dX8_begin_28 (by decide) ?_
      refine aw_iastQ (pc := 29) X dX8_begin_29 h_r7 (fun M8 g9 => ?_)
      have h_a0 := h_a0.mono g9
      refine aw_iincV (pc := 30) X (fun y => [(2, .int y), (0, .ref (b + a0))]) 1 (v := (v2 + (1 : Int32))) dX8_begin_30 rfl rfl (by decide) (fun _ => rfl) (fun i10 => ?_)
      refine aw_goto (pc := 33) X 17 dX8_begin_33 (by decide) ?_
      refine aw_sub [1, 0] rfl ?_
      exact ih a0 i10 M8 h_a0
def f_X8_begin (a0 : Nat) (v1 : Int32) (M : JM) : Option (Int32 × JM) := ob (f_X8_isCategory a0 v1 M) fun r3 M1 => if r3 = true then (sq (si M1 a0 25 v1) fun M4 => sv (0 : Int32) fun i6 => f_X8_begin_L17 FU a0 i6 M4) else (some ((-1 : Int32), M1))
set_option maxRecDepth 10000 in
set_option maxHeartbeats 4000000 in
theorem t_X8_begin {l : Launch} {D : va_G} {cs : JC} {b : Nat} (a0 : Nat) (v1 : Int32) (M : JM) (h_a0 : oty M a0 18) : ∀ q, f_X8_begin a0 v1 M = some q → CTy l yX8_begin (.code yX8_begin cX8_begin 3 (Option.some Jvm.ClassFile.FieldType.int) :: GB) rm_X8_begin D cs b evI [.ref (b + a0), .int v1] M rm_X8_begin.cells rm_X8_begin.slots q := fun q hq => ct_of [(0, .ref (b + a0)), (1, .int v1)] rfl rfl (Nat.le_of_ble_eq_true rfl) hq (fun p e s m args below meth c X hr hin => by
  refine aw_callq (F' := ob (f_X8_isCategory a0 v1 M) fun r3 M1 => if r3 = true then (sq (si M1 a0 25 v1) fun M4 => sv (0 : Int32) fun i6 => f_X8_begin_L17 FU a0 i6 M4) else (some ((-1 : Int32), M1))) rfl ?_
  refine aw_aload_n (pc := 0) X 0 dX8_begin_0 rfl ?_
  refine aw_iload_n (pc := 1) X 1 dX8_begin_1 rfl ?_
  refine cl_X8_120 (pc := 2) X ⟨Nat.le_of_ble_eq_true rfl, Nat.le_of_ble_eq_true rfl⟩ (Nat.le_of_ble_eq_true rfl) (ks2 := 0) (sl2 := 0) rfl rfl ⟨(Nat.le_of_ble_eq_true rfl), (Nat.le_of_ble_eq_true rfl)⟩ dX8_begin_2 h_a0 (fun r3 M1 g2 => ?_)
  have h_a0 := h_a0.mono g2
  refine aw_ifneB (pc := 5) X 10 dX8_begin_5 (by decide) ?_ ?_
  · refine aw_aload_n (pc := 10) X 0 dX8_begin_10 rfl ?_
    refine aw_iload_n (pc := 11) X 1 dX8_begin_11 rfl ?_
    refine pf_X8_56 (pc := 12) X dX8_begin_12 h_a0 (fun M4 g5 => ?_)
    have h_a0 := h_a0.mono g5
    refine aw_iconst (pc := 15) X (0 : Int32) dX8_begin_15 (by decide) ?_
    refine aw_istoreV_n (pc := 16) X (fun y => [(2, .int y), (0, .ref (b + a0)), (1, .int v1)]) dX8_begin_16 (by decide) (fun _ => rfl) (fun i6 => ?_)
    refine aw_sub [1, 0] rfl ?_
    exact t_X8_begin_L17 X hr FU a0 i6 M4 h_a0
  · refine aw_iconst (pc := 8) X (-1 : Int32) dX8_begin_8 (by decide) ?_
    exact aw_iret (pc := 9) X hr dX8_begin_9 (Nat.le_of_ble_eq_true rfl) (Nat.le_of_ble_eq_true rfl))
/-! ReportBlocks$OwnRecord.rowOf -/
def rm_X2_rowOf : Room := { frames := 0, cells := 0, slots := 0, locals := 0 }
theorem hd_X2_rowOf : jHd yX2_rowOf 1 := by unfold jHd; decide +kernel
def f_X2_rowOf (v0 : Int32) (M : JM) : Option (Int32 × JM) := some (((v0 - (1 : Int32)) * (58 : Int32)), M)
set_option maxRecDepth 10000 in
set_option maxHeartbeats 4000000 in
theorem t_X2_rowOf {l : Launch} {D : va_G} {cs : JC} {b : Nat} (v0 : Int32) (M : JM)  : ∀ q, f_X2_rowOf v0 M = some q → CTy l yX2_rowOf (.code yX2_rowOf cX2_rowOf 1 (Option.some Jvm.ClassFile.FieldType.int) :: GB) rm_X2_rowOf D cs b evI [.int v0] M rm_X2_rowOf.cells rm_X2_rowOf.slots q := fun q hq => ct_of [(0, .int v0)] rfl rfl (Nat.le_of_ble_eq_true rfl) hq (fun p e s m args below meth c X hr hin => by
  refine aw_callq (F' := some (((v0 - (1 : Int32)) * (58 : Int32)), M)) rfl ?_
  refine aw_iload_n (pc := 0) X 0 dX2_rowOf_0 rfl ?_
  refine aw_iconst (pc := 1) X (1 : Int32) dX2_rowOf_1 (by decide) ?_
  refine aw_isub (pc := 2) X dX2_rowOf_2 ?_
  refine aw_bipush (pc := 3) X (58 : Int32) dX2_rowOf_3 (by decide) ?_
  refine aw_imul (pc := 5) X dX2_rowOf_5 ?_
  exact aw_iret (pc := 6) X hr dX2_rowOf_6 (Nat.le_of_ble_eq_true rfl) (Nat.le_of_ble_eq_true rfl))
