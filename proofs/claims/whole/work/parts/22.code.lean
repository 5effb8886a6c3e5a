/-! programs of the methods, and the rows that their bytecode answers so: written by wip/gen/gen.py out of the printed decode rows -/
/-! ReportBlocks$Category.partBytes -/
def rm_X1_partBytes : Room := { frames := 0, cells := 0, slots := 0, locals := 0 }
theorem hd_X1_partBytes : jHd yX1_partBytes 2 := by unfold jHd; decide +kernel
def f_X1_partBytes (a0 : Nat) (v1 : Int32) (v2 : Int32) (M : JM) : Option (Int32 × JM) := orf (gr M a0 3) fun r1 => if 0 ≤ ((v1 * (14 : Int32)) + v2) ∧ ((v1 * (14 : Int32)) + v2) < ln r1 then (some ((gi M r1 ((v1 * (14 : Int32)) + v2)), M)) else none
set_option maxRecDepth 10000 in
set_option maxHeartbeats 4000000 in
theorem t_X1_partBytes {l : Launch} {D : va_G} {cs : JC} {b : Nat} (a0 : Nat) (v1 : Int32) (v2 : Int32) (M : JM) (h_a0 : oty M a0 11) : ∀ q, f_X1_partBytes a0 v1 v2 M = some q → CTy l yX1_partBytes (.code yX1_partBytes cX1_partBytes 3 (Option.some Jvm.ClassFile.FieldType.int) :: GB) rm_X1_partBytes D cs b evI [.ref (b + a0), .int v1, .int v2] M rm_X1_partBytes.cells rm_X1_partBytes.slots q := fun q hq => ct_of [(0, .ref (b + a0)), (1, .int v1), (2, .int v2)] rfl rfl (Nat.le_of_ble_eq_true rfl) hq (fun p e s m args below meth c X hr hin => by
  refine aw_callq (F' := orf (gr M a0 3) fun r1 => if 0 ≤ ((v1 * (14 : Int32)) + v2) ∧ ((v1 * (14 : Int32)) + v2) < ln r1 then (some ((gi M r1 ((v1 * (14 : Int32)) + v2)), M)) else none) rfl ?_
  refine aw_aload_n (pc := 0) X 0 dX1_partBytes_0 rfl ?_
  refine gf_X1_22 (pc := 1) X dX1_partBytes_1 h_a0 (fun r1 h_r1 => ?_)
  refine aw_iload_n (pc := 4) X 1 dX1_partBytes_4 rfl ?_
  refine aw_bipush (pc := 5) X (14 : Int32) dX1_partBytes_5 (by decide) ?_
  refine aw_imul (pc := 7) X dX1_partBytes_7 ?_
  refine aw_iload_n (pc := 8) X 2 dX1_partBytes_8 rfl ?_
  refine aw_iadd (pc := 9) X dX1_partBytes_9 ?_
  refine aw_iald (pc := 10) X dX1_partBytes_10 h_r1 ?_
  exact aw_iret (pc := 11) X hr dX1_partBytes_11 (Nat.le_of_ble_eq_true rfl) (Nat.le_of_ble_eq_true rfl))
/-! ReportBlocks$Category.putPart -/
def rm_X1_putPart : Room := { frames := 0, cells := 0, slots := 0, locals := 0 }
theorem hd_X1_putPart : jHd yX1_putPart 3 := by unfold jHd; decide +kernel
def f_X1_putPart (a0 : Nat) (v1 : Int32) (v2 : Int32) (v3 : Int32) (M : JM) : Option (Unit × JM) := orf (gr M a0 3) fun r1 => if 0 ≤ ((v1 * (14 : Int32)) + v2) ∧ ((v1 * (14 : Int32)) + v2) < ln r1 then (sq (si M r1 ((v1 * (14 : Int32)) + v2) v3) fun M2 => some ((), M2)) else none
set_option maxRecDepth 10000 in
set_option maxHeartbeats 4000000 in
theorem t_X1_putPart {l : Launch} {D : va_G} {cs : JC} {b : Nat} (a0 : Nat) (v1 : Int32) (v2 : Int32) (v3 : Int32) (M : JM) (h_a0 : oty M a0 11) : ∀ q, f_X1_putPart a0 v1 v2 v3 M = some q → CTy l yX1_putPart (.code yX1_putPart cX1_putPart 4 (Option.none) :: GB) rm_X1_putPart D cs b evV [.ref (b + a0), .int v1, .int v2, .int v3] M rm_X1_putPart.cells rm_X1_putPart.slots q := fun q hq => ct_of [(0, .ref (b + a0)), (1, .int v1), (2, .int v2), (3, .int v3)] rfl rfl (Nat.le_of_ble_eq_true rfl) hq (fun p e s m args below meth c X hr hin => by
  refine aw_callq (F' := orf (gr M a0 3) fun r1 => if 0 ≤ ((v1 * (14 : Int32)) + v2) ∧ ((v1 * (14 : Int32)) + v2) < ln r1 then (sq (si M r1 ((v1 * (14 : Int32)) + v2) v3) fun M2 => some ((), M2)) else none) rfl ?_
  refine aw_aload_n (pc := 0) X 0 dX1_putPart_0 rfl ?_
  refine gf_X1_22 (pc := 1) X dX1_putPart_1 h_a0 (fun r1 h_r1 => ?_)
  refine aw_iload_n (pc := 4) X 1 dX1_putPart_4 rfl ?_
  refine aw_bipush (pc := 5) X (14 : Int32) dX1_putPart_5 (by decide) ?_
  refine aw_imul (pc := 7) X dX1_putPart_7 ?_
  refine aw_iload_n (pc := 8) X 2 dX1_putPart_8 rfl ?_
  refine aw_iadd (pc := 9) X dX1_putPart_9 ?_
  refine aw_iload_n (pc := 10) X 3 dX1_putPart_10 rfl ?_
  refine aw_iastQ (pc := 11) X dX1_putPart_11 h_r1 (fun M2 g3 => ?_)
  have h_a0 := h_a0.mono g3
  exact aw_vret (pc := 12) X hr dX1_putPart_12 (Nat.le_of_ble_eq_true rfl) (Nat.le_of_ble_eq_true rfl))
/-! ReportBlocks.part -/
def rm_X7_part : Room := { frames := 1, cells := 0, slots := 0, locals := 23 }
theorem hd_X7_part : jHd yX7_part 4 := by unfold jHd; decide +kernel
theorem cl_X7_89 {ρ : Type} {l : Launch} {p : Program} {e : Env} {R : Room} {s : State} {m : MethodId} {args : Array Value} {below : List Frame} {meth : Method} {c : Code} {D : va_G} {cs : JC} {b nL : Nat} {H0 : Heap} {Qf : ρ × JM → State → Prop} {M : JM} {ks sl : Nat} {lv : List (Nat × Value)} {pc : Nat} {st : List Value} {cc : ByteArray} (X : jX p c cc nL s m args RX7 D cs b meth H0) {z0 : Nat} {z1 : Int32} {z2 : Int32} {K : Int32 → JM → Option (ρ × JM)} (hrm : jRm rm_X1_partBytes 3 R) (hW : (st.map fun v => v.category).sum ≤ 8) {ks2 sl2 : Nat} (hk2 : ks + rm_X1_partBytes.cells = ks2) (hs2 : sl + rm_X1_partBytes.slots = sl2) (hroom : ks2 ≤ R.cells ∧ sl2 ≤ R.slots) (hdg : decode cc pc = .ok (.invokevirtual 89, 3)) (h0 : oty M z0 11) (kk : ∀ (r : Int32) (M2 : JM), gn M ≤ gn M2 → AWO p l e R s m args below meth c D cs b nL H0 Qf (K r M2) M2 ks2 sl2 lv (pc + 3) (.int r :: st)) : AWO p l e R s m args below meth c D cs b nL H0 Qf (ob (f_X1_partBytes z0 z1 z2 M) K) M ks sl lv pc (.int z2 :: .int z1 :: .ref (b + z0) :: st) := by
  subst hk2
  subst hs2
  exact aw_callV (ci := 1) X [.int z1, .int z2] st rfl rfl wl_X7_89 wi_X1_partBytes wv_X1_partBytes wc_X1_partBytes wn_X1 (n := 2) hd_X1_partBytes rfl hrm hW hroom hdg h0 (t_X1_partBytes z0 z1 z2 M h0) (fun r M2 g _ => kk r M2 g)
theorem cl_X7_93 {ρ : Type} {l : Launch} {p : Program} {e : Env} {R : Room} {s : State} {m : MethodId} {args : Array Value} {below : List Frame} {meth : Method} {c : Code} {D : va_G} {cs : JC} {b nL : Nat} {H0 : Heap} {Qf : ρ × JM → State → Prop} {M : JM} {ks sl : Nat} {lv : List (Nat × Value)} {pc : Nat} {st : List Value} {cc : ByteArray} (X : jX p c cc nL s m args RX7 D cs b meth H0) {z0 : Nat} {z1 : Int32} {z2 : Int32} {z3 : Int32} {K : JM → Option (ρ × JM)} (hrm : jRm rm_X1_putPart 4 R) (hW : (st.map fun v => v.category).sum ≤ 8) {ks2 sl2 : Nat} (hk2 : ks + rm_X1_putPart.cells = ks2) (hs2 : sl + rm_X1_putPart.slots = sl2) (hroom : ks2 ≤ R.cells ∧ sl2 ≤ R.slots) (hdg : decode cc pc = .ok (.invokevirtual 93, 3)) (h0 : oty M z0 11) (kk : ∀ (M2 : JM), gn M ≤ gn M2 → AWO p l e R s m args below meth c D cs b nL H0 Qf (K M2) M2 ks2 sl2 lv (pc + 3) (st)) : AWO p l e R s m args below meth c D cs b nL H0 Qf (ob (f_X1_putPart z0 z1 z2 z3 M) (fun _ => K)) M ks sl lv pc (.int z3 :: .int z2 :: .int z1 :: .ref (b + z0) :: st) := by
  subst hk2
  subst hs2
  exact aw_callV (ci := 1) X [.int z1, .int z2, .int z3] st rfl rfl wl_X7_93 wi_X1_putPart wv_X1_putPart wc_X1_putPart wn_X1 (n := 3) hd_X1_putPart rfl hrm hW hroom hdg h0 (t_X1_putPart z0 z1 z2 z3 M h0) (fun _ M2 g _ => kk M2 g)
def f_X7_part (a0 : Nat) (v1 : Int32) (v2 : Int32) (v3 : Int32) (v4 : Int32) (M : JM) : Option (Int32 × JM) := ob (f_X7_categoryAt a0 v1 M) fun o4 M1 => oca o4 (some ((-1 : Int32), M1)) fun r3 => ob (f_X7_isPlace v2 M1) fun r7 M5 => if r7 = true then (orf (gr M5 r3 1) fun r8 => if 0 ≤ v2 ∧ v2 < ln r8 then (if (gi M5 r8 v2) = (3 : Int32) then (if v3 < 0 then (some ((-1 : Int32), M5)) else (if v3 < (14 : Int32) then (if v4 < 0 then (some ((-1 : Int32), M5)) else (if (4 : Int32) < v4 then (some ((-1 : Int32), M5)) else (ob (f_X7_isInUse a0 v1 M5) fun r11 M9 => if r11 = true then (some ((-2 : Int32), M9)) else (ob (f_X1_partBytes r3 v2 v3 M9) fun r14 M12 => sv r14 fun i15 => ob (f_X1_putPart r3 v2 v3 v4 M12) fun _ M16 => some (i15, M16))))) else (some ((-1 : Int32), M5)))) else (some ((-1 : Int32), M5))) else none) else (some ((-1 : Int32), M5))
set_option maxRecDepth 10000 in
set_option maxHeartbeats 4000000 in
theorem t_X7_part {l : Launch} {D : va_G} {cs : JC} {b : Nat} (a0 : Nat) (v1 : Int32) (v2 : Int32) (v3 : Int32) (v4 : Int32) (M : JM) (h_a0 : oty M a0 17) : ∀ q, f_X7_part a0 v1 v2 v3 v4 M = some q → CTy l yX7_part (.code yX7_part cX7_part 7 (Option.some Jvm.ClassFile.FieldType.int) :: GB) rm_X7_part D cs b evI [.ref (b + a0), .int v1, .int v2, .int v3, .int v4] M rm_X7_part.cells rm_X7_part.slots q := fun q hq => ct_of [(0, .ref (b + a0)), (1, .int v1), (2, .int v2), (3, .int v3), (4, .int v4)] rfl rfl (Nat.le_of_ble_eq_true rfl) hq (fun p e s m args below meth c X hr hin => by
  refine aw_callq (F' := ob (f_X7_categoryAt a0 v1 M) fun o4 M1 => oca o4 (some ((-1 : Int32), M1)) fun r3 => ob (f_X7_isPlace v2 M1) fun r7 M5 => if r7 = true then (orf (gr M5 r3 1) fun r8 => if 0 ≤ v2 ∧ v2 < ln r8 then (if (gi M5 r8 v2) = (3 : Int32) then (if v3 < 0 then (some ((-1 : Int32), M5)) else (if v3 < (14 : Int32) then (if v4 < 0 then (some ((-1 : Int32), M5)) else (if (4 : Int32) < v4 then (some ((-1 : Int32), M5)) else (ob (f_X7_isInUse a0 v1 M5) fun r11 M9 => if r11 = true then (some ((-2 : Int32), M9)) else (ob (f_X1_partBytes r3 v2 v3 M9) fun r14 M12 => sv r14 fun i15 => ob (f_X1_putPart r3 v2 v3 v4 M12) fun _ M16 => some (i15, M16))))) else (some ((-1 : Int32), M5)))) else (some ((-1 : Int32), M5))) else none) else (some ((-1 : Int32), M5))) rfl ?_
  refine aw_aload_n (pc := 0) X 0 dX7_part_0 rfl ?_
  refine aw_iload_n (pc := 1) X 1 dX7_part_1 rfl ?_
  refine cl_X7_66 (pc := 2) X ⟨Nat.le_of_ble_eq_true rfl, Nat.le_of_ble_eq_true rfl⟩ (Nat.le_of_ble_eq_true rfl) (ks2 := 0) (sl2 := 0) rfl rfl ⟨(Nat.le_of_ble_eq_true rfl), (Nat.le_of_ble_eq_true rfl)⟩ dX7_part_2 h_a0 (fun M1 g2 => ?_) (fun r3 M1 g2 h_r3 => ?_)
  · have h_a0 := h_a0.mono g2
    refine aw_astore0 (pc := 5) X [(5, .null), (0, .ref (b + a0)), (1, .int v1), (2, .int v2), (3, .int v3), (4, .int v4)] dX7_part_5 (by decide) rfl ?_
    refine aw_aload0 (pc := 7) X 0 dX7_part_7 rfl ?_
    refine aw_ifnull_n (pc := 9) X 30 dX7_part_9 (by decide) ?_
    refine aw_iconst (pc := 30) X (-1 : Int32) dX7_part_30 (by decide) ?_
    exact aw_iret (pc := 31) X hr dX7_part_31 (Nat.le_of_ble_eq_true rfl) (Nat.le_of_ble_eq_true rfl)
  · have h_a0 := h_a0.mono g2
    refine aw_astore (pc := 5) X [(5, .ref (b + r3)), (0, .ref (b + a0)), (1, .int v1), (2, .int v2), (3, .int v3), (4, .int v4)] dX7_part_5 (by decide) rfl ?_
    refine aw_aload (pc := 7) X 0 dX7_part_7 rfl ?_
    refine aw_ifnull_r (pc := 9) X dX7_part_9 ?_
    refine aw_iload_n (pc := 12) X 3 dX7_part_12 rfl ?_
    refine cl_X7_70 (pc := 13) X ⟨Nat.le_of_ble_eq_true rfl, Nat.le_of_ble_eq_true rfl⟩ (Nat.le_of_ble_eq_true rfl) (ks2 := 0) (sl2 := 0) rfl rfl ⟨(Nat.le_of_ble_eq_true rfl), (Nat.le_of_ble_eq_true rfl)⟩ dX7_part_13  (fun r7 M5 g6 => ?_)
    have h_a0 := h_a0.mono g6
    have h_r3 := h_r3.mono g6
    refine aw_ifeqB (pc := 16) X 30 dX7_part_16 (by decide) ?_ ?_
    · refine aw_aload (pc := 19) X 0 dX7_part_19 rfl ?_
      refine gf_X7_81 (pc := 21) X dX7_part_21 h_r3 (fun r8 h_r8 => ?_)
      refine aw_iload_n (pc := 24) X 3 dX7_part_24 rfl ?_
      refine aw_iald (pc := 25) X dX7_part_25 h_r8 ?_
      refine aw_iconst (pc := 26) X (3 : Int32) dX7_part_26 (by decide) ?_
      refine aw_icmpeq (pc := 27) X 32 dX7_part_27 (by decide) ?_ ?_
      · refine aw_iload_n (pc := 32) X 4 dX7_part_32 rfl ?_
        refine aw_iflt (pc := 33) X 53 dX7_part_33 (by decide) ?_ ?_
        · refine aw_iconst (pc := 53) X (-1 : Int32) dX7_part_53 (by decide) ?_
          exact aw_iret (pc := 54) X hr dX7_part_54 (Nat.le_of_ble_eq_true rfl) (Nat.le_of_ble_eq_true rfl)
        · refine aw_iload_n (pc := 36) X 4 dX7_part_36 rfl ?_
          refine aw_bipush (pc := 37) X (14 : Int32) dX7_part_37 (by decide) ?_
          refine aw_icmpge (pc := 39) X 53 dX7_part_39 (by decide) ?_ ?_
          · refine aw_iload (pc := 42) X 5 dX7_part_42 rfl ?_
            refine aw_iflt (pc := 44) X 53 dX7_part_44 (by decide) ?_ ?_
            · refine aw_iconst (pc := 53) X (-1 : Int32) dX7_part_53 (by decide) ?_
              exact aw_iret (pc := 54) X hr dX7_part_54 (Nat.le_of_ble_eq_true rfl) (Nat.le_of_ble_eq_true rfl)
            · refine aw_iload (pc := 47) X 5 dX7_part_47 rfl ?_
              refine aw_iconst (pc := 49) X (4 : Int32) dX7_part_49 (by decide) ?_
              refine aw_icmple (pc := 50) X 55 dX7_part_50 (by decide) ?_ ?_
              · refine aw_iconst (pc := 53) X (-1 : Int32) dX7_part_53 (by decide) ?_
                exact aw_iret (pc := 54) X hr dX7_part_54 (Nat.le_of_ble_eq_true rfl) (Nat.le_of_ble_eq_true rfl)
              · refine aw_aload_n (pc := 55) X 1 dX7_part_55 rfl ?_
                refine aw_iload_n (pc := 56) X 2 dX7_part_56 rfl ?_
                refine cl_X7_78 (pc := 57) X ⟨Nat.le_of_ble_eq_true rfl, Nat.le_of_ble_eq_true rfl⟩ (Nat.le_of_ble_eq_true rfl) (ks2 := 0) (sl2 := 0) rfl rfl ⟨(Nat.le_of_ble_eq_true rfl), (Nat.le_of_ble_eq_true rfl)⟩ dX7_part_57 h_a0 (fun r11 M9 g10 => ?_)
                have h_a0 := h_a0.mono g10
                have h_r3 := h_r3.mono g10
                refine aw_ifeqB (pc := 60) X 66 dX7_part_60 (by decide) ?_ ?_
                · refine aw_bipush (pc := 63) X (-2 : Int32) dX7_part_63 (by decide) ?_
                  exact aw_iret (pc := 65) X hr dX7_part_65 (Nat.le_of_ble_eq_true rfl) (Nat.le_of_ble_eq_true rfl)
                · refine aw_aload (pc := 66) X 0 dX7_part_66 rfl ?_
                  refine aw_iload_n (pc := 68) X 3 dX7_part_68 rfl ?_
                  refine aw_iload_n (pc := 69) X 4 dX7_part_69 rfl ?_
                  refine cl_X7_89 (pc := 70) X ⟨Nat.le_of_ble_eq_true rfl, Nat.le_of_ble_eq_true rfl⟩ (Nat.le_of_ble_eq_true rfl) (ks2 := 0) (sl2 := 0) rfl rfl ⟨(Nat.le_of_ble_eq_true rfl), (Nat.le_of_ble_eq_true rfl)⟩ dX7_part_70 h_r3 (fun r14 M12 g13 => ?_)
                  have h_a0 := h_a0.mono g13
                  have h_r3 := h_r3.mono g13
                  refine aw_istoreV (pc := 73) X (fun y => [(6, .int y), (5, .ref (b + r3)), (0, .ref (b + a0)), (1, .int v1), (2, .int v2), (3, .int v3), (4, .int v4)]) dX7_part_73 (by decide) (fun _ => rfl) (fun i15 => ?_)
                  refine aw_aload (pc := 75) X 1 dX7_part_75 rfl ?_
                  refine aw_iload_n (pc := 77) X 4 dX7_part_77 rfl ?_
                  refine aw_iload_n (pc := 78) X 5 dX7_part_78 rfl ?_
                  refine aw_iload (pc := 79) X 6 dX7_part_79 rfl ?_
                  refine cl_X7_93 (pc := 81) X ⟨Nat.le_of_ble_eq_true rfl, Nat.le_of_ble_eq_true rfl⟩ (Nat.le_of_ble_eq_true rfl) (ks2 := 0) (sl2 := 0) rfl rfl ⟨(Nat.le_of_ble_eq_true rfl), (Nat.le_of_ble_eq_true rfl)⟩ dX7_part_81 h_r3 (fun M16 g17 => ?_)
                  have h_a0 := h_a0.mono g17
                  have h_r3 := h_r3.mono g17
                  refine aw_iload (pc := 84) X 0 dX7_part_84 rfl ?_
                  exact aw_iret (pc := 86) X hr dX7_part_86 (Nat.le_of_ble_eq_true rfl) (Nat.le_of_ble_eq_true rfl)
          · refine aw_iconst (pc := 53) X (-1 : Int32) dX7_part_53 (by decide) ?_
            exact aw_iret (pc := 54) X hr dX7_part_54 (Nat.le_of_ble_eq_true rfl) (Nat.le_of_ble_eq_true rfl)
      · refine aw_iconst (pc := 30) X (-1 : Int32) dX7_part_30 (by decide) ?_
        exact aw_iret (pc := 31) X hr dX7_part_31 (Nat.le_of_ble_eq_true rfl) (Nat.le_of_ble_eq_true rfl)
    · refine aw_iconst (pc := 30) X (-1 : Int32) dX7_part_30 (by decide) ?_
      exact aw_iret (pc := 31) X hr dX7_part_31 (Nat.le_of_ble_eq_true rfl) (Nat.le_of_ble_eq_true rfl))
/-! ReportBlocksModel.part -/
def rm_X8_part : Room := { frames := 2, cells := 0, slots := 0, locals := 43 }
theorem hd_X8_part : jHd yX8_part 4 := by unfold jHd; decide +kernel
def f_X8_part (a0 : Nat) (v1 : Int32) (v2 : Int32) (v3 : Int32) (v4 : Int32) (M : JM) : Option (Int32 × JM) := ob (f_X8_isCategory a0 v1 M) fun r3 M1 => if r3 = true then (ob (f_X8_isPlace v2 M1) fun r6 M4 => if r6 = true then (ob (f_X8_in v3 (0 : Int32) (13 : Int32) M4) fun r9 M7 => if r9 = true then (ob (f_X8_in v4 (0 : Int32) (4 : Int32) M7) fun r12 M10 => if r12 = true then (orf (gr M10 a0 2) fun r13 => if 0 ≤ (((22 : Int32) * v1) + v2) ∧ (((22 : Int32) * v1) + v2) < ln r13 then (if (gi M10 r13 (((22 : Int32) * v1) + v2)) = (3 : Int32) then (ob (f_X8_isInUse a0 v1 M10) fun r16 M14 => if r16 = true then (some ((-2 : Int32), M14)) else (orf (gr M14 a0 4) fun r17 => if 0 ≤ (((14 : Int32) * (((22 : Int32) * v1) + v2)) + v3) ∧ (((14 : Int32) * (((22 : Int32) * v1) + v2)) + v3) < ln r17 then (sv (gi M14 r17 (((14 : Int32) * (((22 : Int32) * v1) + v2)) + v3)) fun i18 => orf (gr M14 a0 4) fun r19 => if 0 ≤ (((14 : Int32) * (((22 : Int32) * v1) + v2)) + v3) ∧ (((14 : Int32) * (((22 : Int32) * v1) + v2)) + v3) < ln r19 then (sq (si M14 r19 (((14 : Int32) * (((22 : Int32) * v1) + v2)) + v3) v4) fun M20 => some (i18, M20)) else none) else none)) else (some ((-1 : Int32), M10))) else none) else (some ((-1 : Int32), M10))) else (some ((-1 : Int32), M7))) else (some ((-1 : Int32), M4))) else (some ((-1 : Int32), M1))
set_option maxRecDepth 10000 in
set_option maxHeartbeats 4000000 in
theorem t_X8_part {l : Launch} {D : va_G} {cs : JC} {b : Nat} (a0 : Nat) (v1 : Int32) (v2 : Int32) (v3 : Int32) (v4 : Int32) (M : JM) (h_a0 : oty M a0 18) : ∀ q, f_X8_part a0 v1 v2 v3 v4 M = some q → CTy l yX8_part (.code yX8_part cX8_part 6 (Option.some Jvm.ClassFile.FieldType.int) :: GB) rm_X8_part D cs b evI [.ref (b + a0), .int v1, .int v2, .int v3, .int v4] M rm_X8_part.cells rm_X8_part.slots q := fun q hq => ct_of [(0, .ref (b + a0)), (1, .int v1), (2, .int v2), (3, .int v3), (4, .int v4)] rfl rfl (Nat.le_of_ble_eq_true rfl) hq (fun p e s m args below meth c X hr hin => by
  refine aw_callq (F' := ob (f_X8_isCategory a0 v1 M) fun r3 M1 => if r3 = true then (ob (f_X8_isPlace v2 M1) fun r6 M4 => if r6 = true then (ob (f_X8_in v3 (0 : Int32) (13 : Int32) M4) fun r9 M7 => if r9 = true then (ob (f_X8_in v4 (0 : Int32) (4 : Int32) M7) fun r12 M10 => if r12 = true then (orf (gr M10 a0 2) fun r13 => if 0 ≤ (((22 : Int32) * v1) + v2) ∧ (((22 : Int32) * v1) + v2) < ln r13 then (if (gi M10 r13 (((22 : Int32) * v1) + v2)) = (3 : Int32) then (ob (f_X8_isInUse a0 v1 M10) fun r16 M14 => if r16 = true then (some ((-2 : Int32), M14)) else (orf (gr M14 a0 4) fun r17 => if 0 ≤ (((14 : Int32) * (((22 : Int32) * v1) + v2)) + v3) ∧ (((14 : Int32) * (((22 : Int32) * v1) + v2)) + v3) < ln r17 then (sv (gi M14 r17 (((14 : Int32) * (((22 : Int32) * v1) + v2)) + v3)) fun i18 => orf (gr M14 a0 4) fun r19 => if 0 ≤ (((14 : Int32) * (((22 : Int32) * v1) + v2)) + v3) ∧ (((14 : Int32) * (((22 : Int32) * v1) + v2)) + v3) < ln r19 then (sq (si M14 r19 (((14 : Int32) * (((22 : Int32) * v1) + v2)) + v3) v4) fun M20 => some (i18, M20)) else none) else none)) else (some ((-1 : Int32), M10))) else none) else (some ((-1 : Int32), M10))) else (some ((-1 : Int32), M7))) else (some ((-1 : Int32), M4))) else (some ((-1 : Int32), M1))) rfl ?_
  refine aw_aload_n (pc := 0) X 0 dX8_part_0 rfl ?_
  refine aw_iload_n (pc := 1) X 1 dX8_part_1 rfl ?_
  refine cl_X8_120 (pc := 2) X ⟨Nat.le_of_ble_eq_true rfl, Nat.le_of_ble_eq_true rfl⟩ (Nat.le_of_ble_eq_true rfl) (ks2 := 0) (sl2 := 0) rfl rfl ⟨(Nat.le_of_ble_eq_true rfl), (Nat.le_of_ble_eq_true rfl)⟩ dX8_part_2 h_a0 (fun r3 M1 g2 => ?_)
  have h_a0 := h_a0.mono g2
  refine aw_ifeqB (pc := 5) X 50 dX8_part_5 (by decide) ?_ ?_
  · refine aw_iload_n (pc := 8) X 2 dX8_part_8 rfl ?_
    refine cl_X8_124 (pc := 9) X ⟨Nat.le_of_ble_eq_true rfl, Nat.le_of_ble_eq_true rfl⟩ (Nat.le_of_ble_eq_true rfl) (ks2 := 0) (sl2 := 0) rfl rfl ⟨(Nat.le_of_ble_eq_true rfl), (Nat.le_of_ble_eq_true rfl)⟩ dX8_part_9  (fun r6 M4 g5 => ?_)
    have h_a0 := h_a0.mono g5
    refine aw_ifeqB (pc := 12) X 50 dX8_part_12 (by decide) ?_ ?_
    · refine aw_iload_n (pc := 15) X 3 dX8_part_15 rfl ?_
      refine aw_iconst (pc := 16) X (0 : Int32) dX8_part_16 (by decide) ?_
      refine aw_bipush (pc := 17) X (13 : Int32) dX8_part_17 (by decide) ?_
      refine cl_X8_105 (pc := 19) X ⟨Nat.le_of_ble_eq_true rfl, Nat.le_of_ble_eq_true rfl⟩ (Nat.le_of_ble_eq_true rfl) (ks2 := 0) (sl2 := 0) rfl rfl ⟨(Nat.le_of_ble_eq_true rfl), (Nat.le_of_ble_eq_true rfl)⟩ dX8_part_19  (fun r9 M7 g8 => ?_)
      have h_a0 := h_a0.mono g8
      refine aw_ifeqB (pc := 22) X 50 dX8_part_22 (by decide) ?_ ?_
      · refine aw_iload (pc := 25) X 4 dX8_part_25 rfl ?_
        refine aw_iconst (pc := 27) X (0 : Int32) dX8_part_27 (by decide) ?_
        refine aw_iconst (pc := 28) X (4 : Int32) dX8_part_28 (by decide) ?_
        refine cl_X8_105 (pc := 29) X ⟨Nat.le_of_ble_eq_true rfl, Nat.le_of_ble_eq_true rfl⟩ (Nat.le_of_ble_eq_true rfl) (ks2 := 0) (sl2 := 0) rfl rfl ⟨(Nat.le_of_ble_eq_true rfl), (Nat.le_of_ble_eq_true rfl)⟩ dX8_part_29  (fun r12 M10 g11 => ?_)
        have h_a0 := h_a0.mono g11
        refine aw_ifeqB (pc := 32) X 50 dX8_part_32 (by decide) ?_ ?_
        · refine aw_aload_n (pc := 35) X 0 dX8_part_35 rfl ?_
          refine gf_X8_13 (pc := 36) X dX8_part_36 h_a0 (fun r13 h_r13 => ?_)
          refine aw_bipush (pc := 39) X (22 : Int32) dX8_part_39 (by decide) ?_
          refine aw_iload_n (pc := 41) X 1 dX8_part_41 rfl ?_
          refine aw_imul (pc := 42) X dX8_part_42 ?_
          refine aw_iload_n (pc := 43) X 2 dX8_part_43 rfl ?_
          refine aw_iadd (pc := 44) X dX8_part_44 ?_
          refine aw_iald (pc := 45) X dX8_part_45 h_r13 ?_
          refine aw_iconst (pc := 46) X (3 : Int32) dX8_part_46 (by decide) ?_
          refine aw_icmpeq (pc := 47) X 52 dX8_part_47 (by decide) ?_ ?_
          · refine aw_aload_n (pc := 52) X 0 dX8_part_52 rfl ?_
            refine aw_iload_n (pc := 53) X 1 dX8_part_53 rfl ?_
            refine cl_X8_127 (pc := 54) X ⟨Nat.le_of_ble_eq_true rfl, Nat.le_of_ble_eq_true rfl⟩ (Nat.le_of_ble_eq_true rfl) (ks2 := 0) (sl2 := 0) rfl rfl ⟨(Nat.le_of_ble_eq_true rfl), (Nat.le_of_ble_eq_true rfl)⟩ dX8_part_54 h_a0 (fun r16 M14 g15 => ?_)
            have h_a0 := h_a0.mono g15
            refine aw_ifeqB (pc := 57) X 63 dX8_part_57 (by decide) ?_ ?_
            · refine aw_bipush (pc := 60) X (-2 : Int32) dX8_part_60 (by decide) ?_
              exact aw_iret (pc := 62) X hr dX8_part_62 (Nat.le_of_ble_eq_true rfl) (Nat.le_of_ble_eq_true rfl)
            · refine aw_aload_n (pc := 63) X 0 dX8_part_63 rfl ?_
              refine gf_X8_19 (pc := 64) X dX8_part_64 h_a0 (fun r17 h_r17 => ?_)
              refine aw_bipush (pc := 67) X (14 : Int32) dX8_part_67 (by decide) ?_
              refine aw_bipush (pc := 69) X (22 : Int32) dX8_part_69 (by decide) ?_
              refine aw_iload_n (pc := 71) X 1 dX8_part_71 rfl ?_
              refine aw_imul (pc := 72) X dX8_part_72 ?_
              refine aw_iload_n (pc := 73) X 2 dX8_part_73 rfl ?_
              refine aw_iadd (pc := 74) X dX8_part_74 ?_
              refine aw_imul (pc := 75) X dX8_part_75 ?_
              refine aw_iload_n (pc := 76) X 3 dX8_part_76 rfl ?_
              refine aw_iadd (pc := 77) X dX8_part_77 ?_
              refine aw_iald (pc := 78) X dX8_part_78 h_r17 ?_
              refine aw_istoreV (pc := 79) X (fun y => [(5, .int y), (0, .ref (b + a0)), (1, .int v1), (2, .int v2), (3, .int v3), (4, .int v4)]) dX8_part_79 (by decide) (fun _ => rfl) (fun i18 => ?_)
              refine aw_aload_n (pc := 81) X 1 dX8_part_81 rfl ?_
              refine gf_X8_19 (pc := 82) X dX8_part_82 h_a0 (fun r19 h_r19 => ?_)
              refine aw_bipush (pc := 85) X (14 : Int32) dX8_part_85 (by decide) ?_
              refine aw_bipush (pc := 87) X (22 : Int32) dX8_part_87 (by decide) ?_
              refine aw_iload_n (pc := 89) X 2 dX8_part_89 rfl ?_
              refine aw_imul (pc := 90) X dX8_part_90 ?_
              refine aw_iload_n (pc := 91) X 3 dX8_part_91 rfl ?_
              refine aw_iadd (pc := 92) X dX8_part_92 ?_
              refine aw_imul (pc := 93) X dX8_part_93 ?_
              refine aw_iload_n (pc := 94) X 4 dX8_part_94 rfl ?_
              refine aw_iadd (pc := 95) X dX8_part_95 ?_
              refine aw_iload (pc := 96) X 5 dX8_part_96 rfl ?_
              refine aw_iastQ (pc := 98) X dX8_part_98 h_r19 (fun M20 g21 => ?_)
              have h_a0 := h_a0.mono g21
              refine aw_iload (pc := 99) X 0 dX8_part_99 rfl ?_
              exact aw_iret (pc := 101) X hr dX8_part_101 (Nat.le_of_ble_eq_true rfl) (Nat.le_of_ble_eq_true rfl)
          · refine aw_iconst (pc := 50) X (-1 : Int32) dX8_part_50 (by decide) ?_
            exact aw_iret (pc := 51) X hr dX8_part_51 (Nat.le_of_ble_eq_true rfl) (Nat.le_of_ble_eq_true rfl)
        · refine aw_iconst (pc := 50) X (-1 : Int32) dX8_part_50 (by decide) ?_
          exact aw_iret (pc := 51) X hr dX8_part_51 (Nat.le_of_ble_eq_true rfl) (Nat.le_of_ble_eq_true rfl)
      · refine aw_iconst (pc := 50) X (-1 : Int32) dX8_part_50 (by decide) ?_
        exact aw_iret (pc := 51) X hr dX8_part_51 (Nat.le_of_ble_eq_true rfl) (Nat.le_of_ble_eq_true rfl)
    · refine aw_iconst (pc := 50) X (-1 : Int32) dX8_part_50 (by decide) ?_
      exact aw_iret (pc := 51) X hr dX8_part_51 (Nat.le_of_ble_eq_true rfl) (Nat.le_of_ble_eq_true rfl)
  · refine aw_iconst (pc := 50) X (-1 : Int32) dX8_part_50 (by decide) ?_
    exact aw_iret (pc := 51) X hr dX8_part_51 (Nat.le_of_ble_eq_true rfl) (Nat.le_of_ble_eq_true rfl))
/-! ReportBlocks$Category.isFixed -/
def rm_X1_isFixed : Room := { frames := 0, cells := 0, slots := 0, locals := 0 }
theorem hd_X1_isFixed : jHd yX1_isFixed 2 := by unfold jHd; decide +kernel
def f_X1_isFixed (a0 : Nat) (v1 : Int32) (v2 : Int32) (M : JM) : Option (Bool × JM) := orf (gr M a0 1) fun r1 => if 0 ≤ v1 ∧ v1 < ln r1 then (if (gi M r1 v1) = 0 then (orf (gr M a0 2) fun r2 => if 0 ≤ v1 ∧ v1 < ln r2 then (if (gi M r2 v1) = v2 then (some (true, M)) else (some (false, M))) else none) else (some (false, M))) else none
set_option maxRecDepth 10000 in
set_option maxHeartbeats 4000000 in
theorem t_X1_isFixed {l : Launch} {D : va_G} {cs : JC} {b : Nat} (a0 : Nat) (v1 : Int32) (v2 : Int32) (M : JM) (h_a0 : oty M a0 11) : ∀ q, f_X1_isFixed a0 v1 v2 M = some q → CTy l yX1_isFixed (.code yX1_isFixed cX1_isFixed 3 (Option.some Jvm.ClassFile.FieldType.boolean) :: GB) rm_X1_isFixed D cs b evB [.ref (b + a0), .int v1, .int v2] M rm_X1_isFixed.cells rm_X1_isFixed.slots q := fun q hq => ct_of [(0, .ref (b + a0)), (1, .int v1), (2, .int v2)] rfl rfl (Nat.le_of_ble_eq_true rfl) hq (fun p e s m args below meth c X hr hin => by
  refine aw_callq (F' := orf (gr M a0 1) fun r1 => if 0 ≤ v1 ∧ v1 < ln r1 then (if (gi M r1 v1) = 0 then (orf (gr M a0 2) fun r2 => if 0 ≤ v1 ∧ v1 < ln r2 then (if (gi M r2 v1) = v2 then (some (true, M)) else (some (false, M))) else none) else (some (false, M))) else none) rfl ?_
  refine aw_aload_n (pc := 0) X 0 dX1_isFixed_0 rfl ?_
  refine gf_X1_15 (pc := 1) X dX1_isFixed_1 h_a0 (fun r1 h_r1 => ?_)
  refine aw_iload_n (pc := 4) X 1 dX1_isFixed_4 rfl ?_
  refine aw_iald (pc := 5) X dX1_isFixed_5 h_r1 ?_
  refine aw_ifne (pc := 6) X 23 dX1_isFixed_6 (by decide) ?_ ?_
  · refine aw_aload_n (pc := 9) X 0 dX1_isFixed_9 rfl ?_
    refine gf_X1_19 (pc := 10) X dX1_isFixed_10 h_a0 (fun r2 h_r2 => ?_)
    refine aw_iload_n (pc := 13) X 1 dX1_isFixed_13 rfl ?_
    refine aw_iald (pc := 14) X dX1_isFixed_14 h_r2 ?_
    refine aw_iload_n (pc := 15) X 2 dX1_isFixed_15 rfl ?_
    refine aw_icmpne (pc := 16) X 23 dX1_isFixed_16 (by decide) ?_ ?_
    · refine aw_iconst (pc := 19) X (1 : Int32) dX1_isFixed_19 (by decide) ?_
      refine aw_goto (pc := 20) X 24 dX1_isFixed_20 (by decide) ?_
      exact aw_zret (pc := 24) X hr true rfl dX1_isFixed_24 (Nat.le_of_ble_eq_true rfl) (Nat.le_of_ble_eq_true rfl)
    · refine aw_iconst (pc := 23) X (0 : Int32) dX1_isFixed_23 (by decide) ?_
      exact aw_zret (pc := 24) X hr false rfl dX1_isFixed_24 (Nat.le_of_ble_eq_true rfl) (Nat.le_of_ble_eq_true rfl)
  · refine aw_iconst (pc := 23) X (0 : Int32) dX1_isFixed_23 (by decide) ?_
    exact aw_zret (pc := 24) X hr false rfl dX1_isFixed_24 (Nat.le_of_ble_eq_true rfl) (Nat.le_of_ble_eq_true rfl))
/-! ReportBlocks.tells -/
def rm_X7_tells : Room := { frames := 1, cells := 0, slots := 0, locals := 22 }
theorem hd_X7_tells : jHd yX7_tells 3 := by unfold jHd; decide +kernel
theorem cl_X7_96 {ρ : Type} {l : Launch} {p : Program} {e : Env} {R : Room} {s : State} {m : MethodId} {args : Array Value} {below : List Frame} {meth : Method} {c : Code} {D : va_G} {cs : JC} {b nL : Nat} {H0 : Heap} {Qf : ρ × JM → State → Prop} {M : JM} {ks sl : Nat} {lv : List (Nat × Value)} {pc : Nat} {st : List Value} {cc : ByteArray} (X : jX p c cc nL s m args RX7 D cs b meth H0) {z0 : Nat} {z1 : Int32} {z2 : Int32} {K : Bool → JM → Option (ρ × JM)} (hrm : jRm rm_X1_isFixed 3 R) (hW : (st.map fun v => v.category).sum ≤ 8) {ks2 sl2 : Nat} (hk2 : ks + rm_X1_isFixed.cells = ks2) (hs2 : sl + rm_X1_isFixed.slots = sl2) (hroom : ks2 ≤ R.cells ∧ sl2 ≤ R.slots) (hdg : decode cc pc = .ok (.invokevirtual 96, 3)) (h0 : oty M z0 11) (kk : ∀ (r : Bool) (M2 : JM), gn M ≤ gn M2 → AWO p l e R s m args below meth c D cs b nL H0 Qf (K r M2) M2 ks2 sl2 lv (pc + 3) (.int (bI r) :: st)) : AWO p l e R s m args below meth c D cs b nL H0 Qf (ob (f_X1_isFixed z0 z1 z2 M) K) M ks sl lv pc (.int z2 :: .int z1 :: .ref (b + z0) :: st) := by
  subst hk2
  subst hs2
  exact aw_callV (ci := 1) X [.int z1, .int z2] st rfl rfl wl_X7_96 wi_X1_isFixed wv_X1_isFixed wc_X1_isFixed wn_X1 (n := 2) hd_X1_isFixed rfl hrm hW hroom hdg h0 (t_X1_isFixed z0 z1 z2 M h0) (fun r M2 g _ => kk r M2 g)
theorem pf_X7_99 {ρ : Type} {l : Launch} {p : Program} {e : Env} {R : Room} {s : State} {m : MethodId} {args : Array Value} {below : List Frame} {meth : Method} {c : Code} {D : va_G} {cs : JC} {b nL : Nat} {H0 : Heap} {Qf : ρ × JM → State → Prop} {M : JM} {ks sl : Nat} {lv : List (Nat × Value)} {pc : Nat} {st : List Value} {cc : ByteArray} {k : Nat} {K : JM → Option (ρ × JM)} (X : jX p c cc nL s m args RX7 D cs b meth H0) {x : Int32} (hdg : decode cc pc = .ok (.putfield 99, 3)) (ho : oty M k 11) (kk : ∀ M2 : JM, gn M ≤ gn M2 → AWO p l e R s m args below meth c D cs b nL H0 Qf (K M2) M2 ks sl lv (pc + 3) st) : AWO p l e R s m args below meth c D cs b nL H0 Qf (sq (si M k 4 x) K) M ks sl lv pc (.int x :: .ref (b + k) :: st) := aw_putI (ci := 1) X 4 rfl gy_X1 tyX1 tyX1_ok nmX1 (by decide) (by decide) rfl rfl wf_X7_99 rfl (Or.inl rfl) hdg ho (kk _ (Nat.le_refl _))
theorem pf_X7_102 {ρ : Type} {l : Launch} {p : Program} {e : Env} {R : Room} {s : State} {m : MethodId} {args : Array Value} {below : List Frame} {meth : Method} {c : Code} {D : va_G} {cs : JC} {b nL : Nat} {H0 : Heap} {Qf : ρ × JM → State → Prop} {M : JM} {ks sl : Nat} {lv : List (Nat × Value)} {pc : Nat} {st : List Value} {cc : ByteArray} {k : Nat} {K : JM → Option (ρ × JM)} (X : jX p c cc nL s m args RX7 D cs b meth H0) {x : Int32} (hdg : decode cc pc = .ok (.putfield 102, 3)) (ho : oty M k 11) (kk : ∀ M2 : JM, gn M ≤ gn M2 → AWO p l e R s m args below meth c D cs b nL H0 Qf (K M2) M2 ks sl lv (pc + 3) st) : AWO p l e R s m args below meth c D cs b nL H0 Qf (sq (si M k 5 x) K) M ks sl lv pc (.int x :: .ref (b + k) :: st) := aw_putI (ci := 1) X 5 rfl gy_X1 tyX1 tyX1_ok nmX1 (by decide) (by decide) rfl rfl wf_X7_102 rfl (Or.inl rfl) hdg ho (kk _ (Nat.le_refl _))
def f_X7_tells (a0 : Nat) (v1 : Int32) (v2 : Int32) (v3 : Int32) (M : JM) : Option (Int32 × JM) := ob (f_X7_categoryAt a0 v1 M) fun o4 M1 => oca o4 (some ((-1 : Int32), M1)) fun r3 => ob (f_X7_isPlace v2 M1) fun r7 M5 => if r7 = true then (ob (f_X7_isPlace v3 M5) fun r10 M8 => if r10 = true then (ob (f_X1_isFixed r3 v2 (2 : Int32) M8) fun r13 M11 => if r13 = true then (ob (f_X1_isFixed r3 v3 (4 : Int32) M11) fun r16 M14 => if r16 = true then (sq (si M14 r3 4 v2) fun M17 => sq (si M17 r3 5 v3) fun M19 => some ((1 : Int32), M19)) else (some ((-1 : Int32), M14))) else (some ((-1 : Int32), M11))) else (some ((-1 : Int32), M8))) else (some ((-1 : Int32), M5))
set_option maxRecDepth 10000 in
set_option maxHeartbeats 4000000 in
theorem t_X7_tells {l : Launch} {D : va_G} {cs : JC} {b : Nat} (a0 : Nat) (v1 : Int32) (v2 : Int32) (v3 : Int32) (M : JM) (h_a0 : oty M a0 17) : ∀ q, f_X7_tells a0 v1 v2 v3 M = some q → CTy l yX7_tells (.code yX7_tells cX7_tells 5 (Option.some Jvm.ClassFile.FieldType.int) :: GB) rm_X7_tells D cs b evI [.ref (b + a0), .int v1, .int v2, .int v3] M rm_X7_tells.cells rm_X7_tells.slots q := fun q hq => ct_of [(0, .ref (b + a0)), (1, .int v1), (2, .int v2), (3, .int v3)] rfl rfl (Nat.le_of_ble_eq_true rfl) hq (fun p e s m args below meth c X hr hin => by
  refine aw_callq (F' := ob (f_X7_categoryAt a0 v1 M) fun o4 M1 => oca o4 (some ((-1 : Int32), M1)) fun r3 => ob (f_X7_isPlace v2 M1) fun r7 M5 => if r7 = true then (ob (f_X7_isPlace v3 M5) fun r10 M8 => if r10 = true then (ob (f_X1_isFixed r3 v2 (2 : Int32) M8) fun r13 M11 => if r13 = true then (ob (f_X1_isFixed r3 v3 (4 : Int32) M11) fun r16 M14 => if r16 = true then (sq (si M14 r3 4 v2) fun M17 => sq (si M17 r3 5 v3) fun M19 => some ((1 : Int32), M19)) else (some ((-1 : Int32), M14))) else (some ((-1 : Int32), M11))) else (some ((-1 : Int32), M8))) else (some ((-1 : Int32), M5))) rfl ?_
  refine aw_aload_n (pc := 0) X 0 dX7_tells_0 rfl ?_
  refine aw_iload_n (pc := 1) X 1 dX7_tells_1 rfl ?_
  refine cl_X7_66 (pc := 2) X ⟨Nat.le_of_ble_eq_true rfl, Nat.le_of_ble_eq_true rfl⟩ (Nat.le_of_ble_eq_true rfl) (ks2 := 0) (sl2 := 0) rfl rfl ⟨(Nat.le_of_ble_eq_true rfl), (Nat.le_of_ble_eq_true rfl)⟩ dX7_tells_2 h_a0 (fun M1 g2 => ?_) (fun r3 M1 g2 h_r3 => ?_)
  · have h_a0 := h_a0.mono g2
    refine aw_astore0 (pc := 5) X [(4, .null), (0, .ref (b + a0)), (1, .int v1), (2, .int v2), (3, .int v3)] dX7_tells_5 (by decide) rfl ?_
    refine aw_aload0 (pc := 7) X 0 dX7_tells_7 rfl ?_
    refine aw_ifnull_n (pc := 9) X 26 dX7_tells_9 (by decide) ?_
    refine aw_iconst (pc := 26) X (-1 : Int32) dX7_tells_26 (by decide) ?_
    exact aw_iret (pc := 27) X hr dX7_tells_27 (Nat.le_of_ble_eq_true rfl) (Nat.le_of_ble_eq_true rfl)
  · have h_a0 := h_a0.mono g2
    refine aw_astore (pc := 5) X [(4, .ref (b + r3)), (0, .ref (b + a0)), (1, .int v1), (2, .int v2), (3, .int v3)] dX7_tells_5 (by decide) rfl ?_
    refine aw_aload (pc := 7) X 0 dX7_tells_7 rfl ?_
    refine aw_ifnull_r (pc := 9) X dX7_tells_9 ?_
    refine aw_iload_n (pc := 12) X 3 dX7_tells_12 rfl ?_
    refine cl_X7_70 (pc := 13) X ⟨Nat.le_of_ble_eq_true rfl, Nat.le_of_ble_eq_true rfl⟩ (Nat.le_of_ble_eq_true rfl) (ks2 := 0) (sl2 := 0) rfl rfl ⟨(Nat.le_of_ble_eq_true rfl), (Nat.le_of_ble_eq_true rfl)⟩ dX7_tells_13  (fun r7 M5 g6 => ?_)
    have h_a0 := h_a0.mono g6
    have h_r3 := h_r3.mono g6
    refine aw_ifeqB (pc := 16) X 26 dX7_tells_16 (by decide) ?_ ?_
    · refine aw_iload_n (pc := 19) X 4 dX7_tells_19 rfl ?_
      refine cl_X7_70 (pc := 20) X ⟨Nat.le_of_ble_eq_true rfl, Nat.le_of_ble_eq_true rfl⟩ (Nat.le_of_ble_eq_true rfl) (ks2 := 0) (sl2 := 0) rfl rfl ⟨(Nat.le_of_ble_eq_true rfl), (Nat.le_of_ble_eq_true rfl)⟩ dX7_tells_20  (fun r10 M8 g9 => ?_)
      have h_a0 := h_a0.mono g9
      have h_r3 := h_r3.mono g9
      refine aw_ifneB (pc := 23) X 28 dX7_tells_23 (by decide) ?_ ?_
      · refine aw_aload (pc := 28) X 0 dX7_tells_28 rfl ?_
        refine aw_iload_n (pc := 30) X 3 dX7_tells_30 rfl ?_
        refine aw_iconst (pc := 31) X (2 : Int32) dX7_tells_31 (by decide) ?_
        refine cl_X7_96 (pc := 32) X ⟨Nat.le_of_ble_eq_true rfl, Nat.le_of_ble_eq_true rfl⟩ (Nat.le_of_ble_eq_true rfl) (ks2 := 0) (sl2 := 0) rfl rfl ⟨(Nat.le_of_ble_eq_true rfl), (Nat.le_of_ble_eq_true rfl)⟩ dX7_tells_32 h_r3 (fun r13 M11 g12 => ?_)
        have h_a0 := h_a0.mono g12
        have h_r3 := h_r3.mono g12
        refine aw_ifeqB (pc := 35) X 48 dX7_tells_35 (by decide) ?_ ?_
        · refine aw_aload (pc := 38) X 0 dX7_tells_38 rfl ?_
          refine aw_iload_n (pc := 40) X 4 dX7_tells_40 rfl ?_
          refine aw_iconst (pc := 41) X (4 : Int32) dX7_tells_41 (by decide) ?_
          refine cl_X7_96 (pc := 42) X ⟨Nat.le_of_ble_eq_true rfl, Nat.le_of_ble_eq_true rfl⟩ (Nat.le_of_ble_eq_true rfl) (ks2 := 0) (sl2 := 0) rfl rfl ⟨(Nat.le_of_ble_eq_true rfl), (Nat.le_of_ble_eq_true rfl)⟩ dX7_tells_42 h_r3 (fun r16 M14 g15 => ?_)
          have h_a0 := h_a0.mono g15
          have h_r3 := h_r3.mono g15
          refine aw_ifneB (pc := 45) X 50 dX7_tells_45 (by decide) ?_ ?_
          · refine aw_aload (pc := 50) X 0 dX7_tells_50 rfl ?_
            refine aw_iload_n (pc := 52) X 3 dX7_tells_52 rfl ?_
            refine pf_X7_99 (pc := 53) X dX7_tells_53 h_r3 (fun M17 g18 => ?_)
            have h_a0 := h_a0.mono g18
            have h_r3 := h_r3.mono g18
            refine aw_aload (pc := 56) X 0 dX7_tells_56 rfl ?_
            refine aw_iload_n (pc := 58) X 4 dX7_tells_58 rfl ?_
            refine pf_X7_102 (pc := 59) X dX7_tells_59 h_r3 (fun M19 g20 => ?_)
            have h_a0 := h_a0.mono g20
            have h_r3 := h_r3.mono g20
            refine aw_iconst (pc := 62) X (1 : Int32) dX7_tells_62 (by decide) ?_
            exact aw_iret (pc := 63) X hr dX7_tells_63 (Nat.le_of_ble_eq_true rfl) (Nat.le_of_ble_eq_true rfl)
          · refine aw_iconst (pc := 48) X (-1 : Int32) dX7_tells_48 (by decide) ?_
            exact aw_iret (pc := 49) X hr dX7_tells_49 (Nat.le_of_ble_eq_true rfl) (Nat.le_of_ble_eq_true rfl)
        · refine aw_iconst (pc := 48) X (-1 : Int32) dX7_tells_48 (by decide) ?_
          exact aw_iret (pc := 49) X hr dX7_tells_49 (Nat.le_of_ble_eq_true rfl) (Nat.le_of_ble_eq_true rfl)
      · refine aw_iconst (pc := 26) X (-1 : Int32) dX7_tells_26 (by decide) ?_
        exact aw_iret (pc := 27) X hr dX7_tells_27 (Nat.le_of_ble_eq_true rfl) (Nat.le_of_ble_eq_true rfl)
    · refine aw_iconst (pc := 26) X (-1 : Int32) dX7_tells_26 (by decide) ?_
      exact aw_iret (pc := 27) X hr dX7_tells_27 (Nat.le_of_ble_eq_true rfl) (Nat.le_of_ble_eq_true rfl))
/-! ReportBlocksModel.isFixed -/
def rm_X8_isFixed : Room := { frames := 0, cells := 0, slots := 0, locals := 0 }
theorem hd_X8_isFixed : jHd yX8_isFixed 3 := by unfold jHd; decide +kernel
def f_X8_isFixed (a0 : Nat) (v1 : Int32) (v2 : Int32) (v3 : Int32) (M : JM) : Option (Bool × JM) := orf (gr M a0 2) fun r1 => if 0 ≤ (((22 : Int32) * v1) + v2) ∧ (((22 : Int32) * v1) + v2) < ln r1 then (if (gi M r1 (((22 : Int32) * v1) + v2)) = 0 then (orf (gr M a0 3) fun r2 => if 0 ≤ (((22 : Int32) * v1) + v2) ∧ (((22 : Int32) * v1) + v2) < ln r2 then (if (gi M r2 (((22 : Int32) * v1) + v2)) = v3 then (some (true, M)) else (some (false, M))) else none) else (some (false, M))) else none
set_option maxRecDepth 10000 in
set_option maxHeartbeats 4000000 in
theorem t_X8_isFixed {l : Launch} {D : va_G} {cs : JC} {b : Nat} (a0 : Nat) (v1 : Int32) (v2 : Int32) (v3 : Int32) (M : JM) (h_a0 : oty M a0 18) : ∀ q, f_X8_isFixed a0 v1 v2 v3 M = some q → CTy l yX8_isFixed (.code yX8_isFixed cX8_isFixed 4 (Option.some Jvm.ClassFile.FieldType.boolean) :: GB) rm_X8_isFixed D cs b evB [.ref (b + a0), .int v1, .int v2, .int v3] M rm_X8_isFixed.cells rm_X8_isFixed.slots q := fun q hq => ct_of [(0, .ref (b + a0)), (1, .int v1), (2, .int v2), (3, .int v3)] rfl rfl (Nat.le_of_ble_eq_true rfl) hq (fun p e s m args below meth c X hr hin => by
  refine aw_callq (F' := orf (gr M a0 2) fun r1 => if 0 ≤ (((22 : Int32) * v1) + v2) ∧ (((22 : Int32) * v1) + v2) < ln r1 then (if (gi M r1 (((22 : Int32) * v1) + v2)) = 0 then (orf (gr M a0 3) fun r2 => if 0 ≤ (((22 : Int32) * v1) + v2) ∧ (((22 : Int32) * v1) + v2) < ln r2 then (if (gi M r2 (((22 : Int32) * v1) + v2)) = v3 then (some (true, M)) else (some (false, M))) else none) else (some (false, M))) else none) rfl ?_
  refine aw_aload_n (pc := 0) X 0 dX8_isFixed_0 rfl ?_
  refine gf_X8_13 (pc := 1) X dX8_isFixed_1 h_a0 (fun r1 h_r1 => ?_)
  refine aw_bipush (pc := 4) X (22 : Int32) dX8_isFixed_4 (by decide) ?_
  refine aw_iload_n (pc := 6) X 1 dX8_isFixed_6 rfl ?_
  refine aw_imul (pc := 7) X dX8_isFixed_7 ?_
  refine aw_iload_n (pc := 8) X 2 dX8_isFixed_8 rfl ?_
  refine aw_iadd (pc := 9) X dX8_isFixed_9 ?_
  refine aw_iald (pc := 10) X dX8_isFixed_10 h_r1 ?_
  refine aw_ifne (pc := 11) X 33 dX8_isFixed_11 (by decide) ?_ ?_
  · refine aw_aload_n (pc := 14) X 0 dX8_isFixed_14 rfl ?_
    refine gf_X8_16 (pc := 15) X dX8_isFixed_15 h_a0 (fun r2 h_r2 => ?_)
    refine aw_bipush (pc := 18) X (22 : Int32) dX8_isFixed_18 (by decide) ?_
    refine aw_iload_n (pc := 20) X 1 dX8_isFixed_20 rfl ?_
    refine aw_imul (pc := 21) X dX8_isFixed_21 ?_
    refine aw_iload_n (pc := 22) X 2 dX8_isFixed_22 rfl ?_
    refine aw_iadd (pc := 23) X dX8_isFixed_23 ?_
    refine aw_iald (pc := 24) X dX8_isFixed_24 h_r2 ?_
    refine aw_iload_n (pc := 25) X 3 dX8_isFixed_25 rfl ?_
    refine aw_icmpne (pc := 26) X 33 dX8_isFixed_26 (by decide) ?_ ?_
    · refine aw_iconst (pc := 29) X (1 : Int32) dX8_isFixed_29 (by decide) ?_
      refine aw_goto (pc := 30) X 34 dX8_isFixed_30 (by decide) ?_
      exact aw_zret (pc := 34) X hr true rfl dX8_isFixed_34 (Nat.le_of_ble_eq_true rfl) (Nat.le_of_ble_eq_true rfl)
    · refine aw_iconst (pc := 33) X (0 : Int32) dX8_isFixed_33 (by decide) ?_
      exact aw_zret (pc := 34) X hr false rfl dX8_isFixed_34 (Nat.le_of_ble_eq_true rfl) (Nat.le_of_ble_eq_true rfl)
  · refine aw_iconst (pc := 33) X (0 : Int32) dX8_isFixed_33 (by decide) ?_
    exact aw_zret (pc := 34) X hr false rfl dX8_isFixed_34 (Nat.le_of_ble_eq_true rfl) (Nat.le_of_ble_eq_true rfl))
/-! ReportBlocksModel.tells -/
def rm_X8_tells : Room := { frames := 2, cells := 0, slots := 0, locals := 43 }
theorem hd_X8_tells : jHd yX8_tells 3 := by unfold jHd; decide +kernel
theorem cl_X8_130 {ρ : Type} {l : Launch} {p : Program} {e : Env} {R : Room} {s : State} {m : MethodId} {args : Array Value} {below : List Frame} {meth : Method} {c : Code} {D : va_G} {cs : JC} {b nL : Nat} {H0 : Heap} {Qf : ρ × JM → State → Prop} {M : JM} {ks sl : Nat} {lv : List (Nat × Value)} {pc : Nat} {st : List Value} {cc : ByteArray} (X : jX p c cc nL s m args RX8 D cs b meth H0) {z0 : Nat} {z1 : Int32} {z2 : Int32} {z3 : Int32} {K : Bool → JM → Option (ρ × JM)} (hrm : jRm rm_X8_isFixed 4 R) (hW : (st.map fun v => v.category).sum ≤ 8) {ks2 sl2 : Nat} (hk2 : ks + rm_X8_isFixed.cells = ks2) (hs2 : sl + rm_X8_isFixed.slots = sl2) (hroom : ks2 ≤ R.cells ∧ sl2 ≤ R.slots) (hdg : decode cc pc = .ok (.invokevirtual 130, 3)) (h0 : oty M z0 18) (kk : ∀ (r : Bool) (M2 : JM), gn M ≤ gn M2 → AWO p l e R s m args below meth c D cs b nL H0 Qf (K r M2) M2 ks2 sl2 lv (pc + 3) (.int (bI r) :: st)) : AWO p l e R s m args below meth c D cs b nL H0 Qf (ob (f_X8_isFixed z0 z1 z2 z3 M) K) M ks sl lv pc (.int z3 :: .int z2 :: .int z1 :: .ref (b + z0) :: st) := by
  subst hk2
  subst hs2
  exact aw_callV (ci := 8) X [.int z1, .int z2, .int z3] st rfl rfl wl_X8_130 wi_X8_isFixed wv_X8_isFixed wc_X8_isFixed wn_X8 (n := 3) hd_X8_isFixed rfl hrm hW hroom hdg h0 (t_X8_isFixed z0 z1 z2 z3 M h0) (fun r M2 g _ => kk r M2 g)
def f_X8_tells (a0 : Nat) (v1 : Int32) (v2 : Int32) (v3 : Int32) (M : JM) : Option (Int32 × JM) := ob (f_X8_isCategory a0 v1 M) fun r3 M1 => if r3 = true then (ob (f_X8_isPlace v2 M1) fun r6 M4 => if r6 = true then (ob (f_X8_isPlace v3 M4) fun r9 M7 => if r9 = true then (ob (f_X8_isFixed a0 v1 v2 (2 : Int32) M7) fun r12 M10 => if r12 = true then (ob (f_X8_isFixed a0 v1 v3 (4 : Int32) M10) fun r15 M13 => if r15 = true then (orf (gr M13 a0 5) fun r16 => if 0 ≤ v1 ∧ v1 < ln r16 then (sq (si M13 r16 v1 v2) fun M17 => orf (gr M17 a0 6) fun r19 => if 0 ≤ v1 ∧ v1 < ln r19 then (sq (si M17 r19 v1 v3) fun M20 => some ((1 : Int32), M20)) else none) else none) else (some ((-1 : Int32), M13))) else (some ((-1 : Int32), M10))) else (some ((-1 : Int32), M7))) else (some ((-1 : Int32), M4))) else (some ((-1 : Int32), M1))
set_option maxRecDepth 10000 in
set_option maxHeartbeats 4000000 in
theorem t_X8_tells {l : Launch} {D : va_G} {cs : JC} {b : Nat} (a0 : Nat) (v1 : Int32) (v2 : Int32) (v3 : Int32) (M : JM) (h_a0 : oty M a0 18) : ∀ q, f_X8_tells a0 v1 v2 v3 M = some q → CTy l yX8_tells (.code yX8_tells cX8_tells 4 (Option.some Jvm.ClassFile.FieldType.int) :: GB) rm_X8_tells D cs b evI [.ref (b + a0), .int v1, .int v2, .int v3] M rm_X8_tells.cells rm_X8_tells.slots q := fun q hq => ct_of [(0, .ref (b + a0)), (1, .int v1), (2, .int v2), (3, .int v3)] rfl rfl (Nat.le_of_ble_eq_true rfl) hq (fun p e s m args below meth c X hr hin => by
  refine aw_callq (F' := ob (f_X8_isCategory a0 v1 M) fun r3 M1 => if r3 = true then (ob (f_X8_isPlace v2 M1) fun r6 M4 => if r6 = true then (ob (f_X8_isPlace v3 M4) fun r9 M7 => if r9 = true then (ob (f_X8_isFixed a0 v1 v2 (2 : Int32) M7) fun r12 M10 => if r12 = true then (ob (f_X8_isFixed a0 v1 v3 (4 : Int32) M10) fun r15 M13 => if r15 = true then (orf (gr M13 a0 5) fun r16 => if 0 ≤ v1 ∧ v1 < ln r16 then (sq (si M13 r16 v1 v2) fun M17 => orf (gr M17 a0 6) fun r19 => if 0 ≤ v1 ∧ v1 < ln r19 then (sq (si M17 r19 v1 v3) fun M20 => some ((1 : Int32), M20)) else none) else none) else (some ((-1 : Int32), M13))) else (some ((-1 : Int32), M10))) else (some ((-1 : Int32), M7))) else (some ((-1 : Int32), M4))) else (some ((-1 : Int32), M1))) rfl ?_
  refine aw_aload_n (pc := 0) X 0 dX8_tells_0 rfl ?_
  refine aw_iload_n (pc := 1) X 1 dX8_tells_1 rfl ?_
  refine cl_X8_120 (pc := 2) X ⟨Nat.le_of_ble_eq_true rfl, Nat.le_of_ble_eq_true rfl⟩ (Nat.le_of_ble_eq_true rfl) (ks2 := 0) (sl2 := 0) rfl rfl ⟨(Nat.le_of_ble_eq_true rfl), (Nat.le_of_ble_eq_true rfl)⟩ dX8_tells_2 h_a0 (fun r3 M1 g2 => ?_)
  have h_a0 := h_a0.mono g2
  refine aw_ifeqB (pc := 5) X 42 dX8_tells_5 (by decide) ?_ ?_
  · refine aw_iload_n (pc := 8) X 2 dX8_tells_8 rfl ?_
    refine cl_X8_124 (pc := 9) X ⟨Nat.le_of_ble_eq_true rfl, Nat.le_of_ble_eq_true rfl⟩ (Nat.le_of_ble_eq_true rfl) (ks2 := 0) (sl2 := 0) rfl rfl ⟨(Nat.le_of_ble_eq_true rfl), (Nat.le_of_ble_eq_true rfl)⟩ dX8_tells_9  (fun r6 M4 g5 => ?_)
    have h_a0 := h_a0.mono g5
    refine aw_ifeqB (pc := 12) X 42 dX8_tells_12 (by decide) ?_ ?_
    · refine aw_iload_n (pc := 15) X 3 dX8_tells_15 rfl ?_
      refine cl_X8_124 (pc := 16) X ⟨Nat.le_of_ble_eq_true rfl, Nat.le_of_ble_eq_true rfl⟩ (Nat.le_of_ble_eq_true rfl) (ks2 := 0) (sl2 := 0) rfl rfl ⟨(Nat.le_of_ble_eq_true rfl), (Nat.le_of_ble_eq_true rfl)⟩ dX8_tells_16  (fun r9 M7 g8 => ?_)
      have h_a0 := h_a0.mono g8
      refine aw_ifeqB (pc := 19) X 42 dX8_tells_19 (by decide) ?_ ?_
      · refine aw_aload_n (pc := 22) X 0 dX8_tells_22 rfl ?_
        refine aw_iload_n (pc := 23) X 1 dX8_tells_23 rfl ?_
        refine aw_iload_n (pc := 24) X 2 dX8_tells_24 rfl ?_
        refine aw_iconst (pc := 25) X (2 : Int32) dX8_tells_25 (by decide) ?_
        refine cl_X8_130 (pc := 26) X ⟨Nat.le_of_ble_eq_true rfl, Nat.le_of_ble_eq_true rfl⟩ (Nat.le_of_ble_eq_true rfl) (ks2 := 0) (sl2 := 0) rfl rfl ⟨(Nat.le_of_ble_eq_true rfl), (Nat.le_of_ble_eq_true rfl)⟩ dX8_tells_26 h_a0 (fun r12 M10 g11 => ?_)
        have h_a0 := h_a0.mono g11
        refine aw_ifeqB (pc := 29) X 42 dX8_tells_29 (by decide) ?_ ?_
        · refine aw_aload_n (pc := 32) X 0 dX8_tells_32 rfl ?_
          refine aw_iload_n (pc := 33) X 1 dX8_tells_33 rfl ?_
          refine aw_iload_n (pc := 34) X 3 dX8_tells_34 rfl ?_
          refine aw_iconst (pc := 35) X (4 : Int32) dX8_tells_35 (by decide) ?_
          refine cl_X8_130 (pc := 36) X ⟨Nat.le_of_ble_eq_true rfl, Nat.le_of_ble_eq_true rfl⟩ (Nat.le_of_ble_eq_true rfl) (ks2 := 0) (sl2 := 0) rfl rfl ⟨(Nat.le_of_ble_eq_true rfl), (Nat.le_of_ble_eq_true rfl)⟩ dX8_tells_36 h_a0 (fun r15 M13 g14 => ?_)
          have h_a0 := h_a0.mono g14
          refine aw_ifneB (pc := 39) X 44 dX8_tells_39 (by decide) ?_ ?_
          · refine aw_aload_n (pc := 44) X 0 dX8_tells_44 rfl ?_
            refine gf_X8_22 (pc := 45) X dX8_tells_45 h_a0 (fun r16 h_r16 => ?_)
            refine aw_iload_n (pc := 48) X 1 dX8_tells_48 rfl ?_
            refine aw_iload_n (pc := 49) X 2 dX8_tells_49 rfl ?_
            refine aw_iastQ (pc := 50) X dX8_tells_50 h_r16 (fun M17 g18 => ?_)
            have h_a0 := h_a0.mono g18
            refine aw_aload_n (pc := 51) X 0 dX8_tells_51 rfl ?_
            refine gf_X8_25 (pc := 52) X dX8_tells_52 h_a0 (fun r19 h_r19 => ?_)
            refine aw_iload_n (pc := 55) X 1 dX8_tells_55 rfl ?_
            refine aw_iload_n (pc := 56) X 3 dX8_tells_56 rfl ?_
            refine aw_iastQ (pc := 57) X dX8_tells_57 h_r19 (fun M20 g21 => ?_)
            have h_a0 := h_a0.mono g21
            refine aw_iconst (pc := 58) X (1 : Int32) dX8_tells_58 (by decide) ?_
            exact aw_iret (pc := 59) X hr dX8_tells_59 (Nat.le_of_ble_eq_true rfl) (Nat.le_of_ble_eq_true rfl)
          · refine aw_iconst (pc := 42) X (-1 : Int32) dX8_tells_42 (by decide) ?_
            exact aw_iret (pc := 43) X hr dX8_tells_43 (Nat.le_of_ble_eq_true rfl) (Nat.le_of_ble_eq_true rfl)
        · refine aw_iconst (pc := 42) X (-1 : Int32) dX8_tells_42 (by decide) ?_
          exact aw_iret (pc := 43) X hr dX8_tells_43 (Nat.le_of_ble_eq_true rfl) (Nat.le_of_ble_eq_true rfl)
      · refine aw_iconst (pc := 42) X (-1 : Int32) dX8_tells_42 (by decide) ?_
        exact aw_iret (pc := 43) X hr dX8_tells_43 (Nat.le_of_ble_eq_true rfl) (Nat.le_of_ble_eq_true rfl)
    · refine aw_iconst (pc := 42) X (-1 : Int32) dX8_tells_42 (by decide) ?_
      exact aw_iret (pc := 43) X hr dX8_tells_43 (Nat.le_of_ble_eq_true rfl) (Nat.le_of_ble_eq_true rfl)
  · refine aw_iconst (pc := 42) X (-1 : Int32) dX8_tells_42 (by decide) ?_
    exact aw_iret (pc := 43) X hr dX8_tells_43 (Nat.le_of_ble_eq_true rfl) (Nat.le_of_ble_eq_true rfl))
/-! ReportBlocks.table -/
def rm_X7_table : Room := { frames := 1, cells := 0, slots := 0, locals := 22 }
theorem hd_X7_table : jHd yX7_table 3 := by unfold jHd; decide +kernel
theorem gf_X7_105 {ρ : Type} {l : Launch} {p : Program} {e : Env} {R : Room} {s : State} {m : MethodId} {args : Array Value} {below : List Frame} {meth : Method} {c : Code} {D : va_G} {cs : JC} {b nL : Nat} {H0 : Heap} {Qf : ρ × JM → State → Prop} {M : JM} {ks sl : Nat} {lv : List (Nat × Value)} {pc : Nat} {st : List Value} {cc : ByteArray} {k : Nat} (X : jX p c cc nL s m args RX7 D cs b meth H0) {K : Nat → Option (ρ × JM)} (hdg : decode cc pc = .ok (.getfield 105, 3)) (ho : oty M k 11) (kk : ∀ r : Nat, oty M r 1 → AWO p l e R s m args below meth c D cs b nL H0 Qf (K r) M ks sl lv (pc + 3) (.ref (b + r) :: st)) : AWO p l e R s m args below meth c D cs b nL H0 Qf (orf (gr M k 2) K) M ks sl lv pc (.ref (b + k) :: st) := aw_getR (ci := 1) (τ := 1) X 2 rfl gy_X1 (by decide) (by decide) rfl rfl (by decide) wf_X7_105 hdg ho kk
def f_X7_table (a0 : Nat) (v1 : Int32) (v2 : Int32) (v3 : Int32) (M : JM) : Option (Int32 × JM) := ob (f_X7_categoryAt a0 v1 M) fun o4 M1 => oca o4 (some ((-1 : Int32), M1)) fun r3 => ob (f_X7_isPlace v2 M1) fun r7 M5 => if r7 = true then (if v3 < 0 then (some ((-1 : Int32), M5)) else (if (15 : Int32) < v3 then (some ((-1 : Int32), M5)) else (if v3 = 0 then (orf (gr M5 r3 1) fun r12 => if 0 ≤ v2 ∧ v2 < ln r12 then (some ((gi M5 r12 v2), M5)) else none) else (if v3 = (1 : Int32) then (orf (gr M5 r3 2) fun r11 => if 0 ≤ v2 ∧ v2 < ln r11 then (some ((gi M5 r11 v2), M5)) else none) else (ob (f_X1_partBytes r3 v2 (v3 - (2 : Int32)) M5) fun r10 M8 => some (r10, M8)))))) else (some ((-1 : Int32), M5))
set_option maxRecDepth 10000 in
set_option maxHeartbeats 4000000 in
theorem t_X7_table {l : Launch} {D : va_G} {cs : JC} {b : Nat} (a0 : Nat) (v1 : Int32) (v2 : Int32) (v3 : Int32) (M : JM) (h_a0 : oty M a0 17) : ∀ q, f_X7_table a0 v1 v2 v3 M = some q → CTy l yX7_table (.code yX7_table cX7_table 5 (Option.some Jvm.ClassFile.FieldType.int) :: GB) rm_X7_table D cs b evI [.ref (b + a0), .int v1, .int v2, .int v3] M rm_X7_table.cells rm_X7_table.slots q := fun q hq => ct_of [(0, .ref (b + a0)), (1, .int v1), (2, .int v2), (3, .int v3)] rfl rfl (Nat.le_of_ble_eq_true rfl) hq (fun p e s m args below meth c X hr hin => by
  refine aw_callq (F' := ob (f_X7_categoryAt a0 v1 M) fun o4 M1 => oca o4 (some ((-1 : Int32), M1)) fun r3 => ob (f_X7_isPlace v2 M1) fun r7 M5 => if r7 = true then (if v3 < 0 then (some ((-1 : Int32), M5)) else (if (15 : Int32) < v3 then (some ((-1 : Int32), M5)) else (if v3 = 0 then (orf (gr M5 r3 1) fun r12 => if 0 ≤ v2 ∧ v2 < ln r12 then (some ((gi M5 r12 v2), M5)) else none) else (if v3 = (1 : Int32) then (orf (gr M5 r3 2) fun r11 => if 0 ≤ v2 ∧ v2 < ln r11 then (some ((gi M5 r11 v2), M5)) else none) else (ob (f_X1_partBytes r3 v2 (v3 - (2 : Int32)) M5) fun r10 M8 => some (r10, M8)))))) else (some ((-1 : Int32), M5))) rfl ?_
  refine aw_aload_n (pc := 0) X 0 dX7_table_0 rfl ?_
  refine aw_iload_n (pc := 1) X 1 dX7_table_1 rfl ?_
  refine cl_X7_66 (pc := 2) X ⟨Nat.le_of_ble_eq_true rfl, Nat.le_of_ble_eq_true rfl⟩ (Nat.le_of_ble_eq_true rfl) (ks2 := 0) (sl2 := 0) rfl rfl ⟨(Nat.le_of_ble_eq_true rfl), (Nat.le_of_ble_eq_true rfl)⟩ dX7_table_2 h_a0 (fun M1 g2 => ?_) (fun r3 M1 g2 h_r3 => ?_)
  · have h_a0 := h_a0.mono g2
    refine aw_astore0 (pc := 5) X [(4, .null), (0, .ref (b + a0)), (1, .int v1), (2, .int v2), (3, .int v3)] dX7_table_5 (by decide) rfl ?_
    refine aw_aload0 (pc := 7) X 0 dX7_table_7 rfl ?_
    refine aw_ifnull_n (pc := 9) X 29 dX7_table_9 (by decide) ?_
    refine aw_iconst (pc := 29) X (-1 : Int32) dX7_table_29 (by decide) ?_
    exact aw_iret (pc := 30) X hr dX7_table_30 (Nat.le_of_ble_eq_true rfl) (Nat.le_of_ble_eq_true rfl)
  · have h_a0 := h_a0.mono g2
    refine aw_astore (pc := 5) X [(4, .ref (b + r3)), (0, .ref (b + a0)), (1, .int v1), (2, .int v2), (3, .int v3)] dX7_table_5 (by decide) rfl ?_
    refine aw_aload (pc := 7) X 0 dX7_table_7 rfl ?_
    refine aw_ifnull_r (pc := 9) X dX7_table_9 ?_
    refine aw_iload_n (pc := 12) X 3 dX7_table_12 rfl ?_
    refine cl_X7_70 (pc := 13) X ⟨Nat.le_of_ble_eq_true rfl, Nat.le_of_ble_eq_true rfl⟩ (Nat.le_of_ble_eq_true rfl) (ks2 := 0) (sl2 := 0) rfl rfl ⟨(Nat.le_of_ble_eq_true rfl), (Nat.le_of_ble_eq_true rfl)⟩ dX7_table_13  (fun r7 M5 g6 => ?_)
    have h_a0 := h_a0.mono g6
    have h_r3 := h_r3.mono g6
    refine aw_ifeqB (pc := 16) X 29 dX7_table_16 (by decide) ?_ ?_
    · refine aw_iload_n (pc := 19) X 4 dX7_table_19 rfl ?_
      refine aw_iflt (pc := 20) X 29 dX7_table_20 (by decide) ?_ ?_
      · refine aw_iconst (pc := 29) X (-1 : Int32) dX7_table_29 (by decide) ?_
        exact aw_iret (pc := 30) X hr dX7_table_30 (Nat.le_of_ble_eq_true rfl) (Nat.le_of_ble_eq_true rfl)
      · refine aw_iload_n (pc := 23) X 4 dX7_table_23 rfl ?_
        refine aw_bipush (pc := 24) X (15 : Int32) dX7_table_24 (by decide) ?_
        refine aw_icmple (pc := 26) X 31 dX7_table_26 (by decide) ?_ ?_
        · refine aw_iconst (pc := 29) X (-1 : Int32) dX7_table_29 (by decide) ?_
          exact aw_iret (pc := 30) X hr dX7_table_30 (Nat.le_of_ble_eq_true rfl) (Nat.le_of_ble_eq_true rfl)
        · refine aw_iload_n (pc := 31) X 4 dX7_table_31 rfl ?_
          refine aw_ifne (pc := 32) X 43 dX7_table_32 (by decide) ?_ ?_
          · refine aw_aload (pc := 35) X 0 dX7_table_35 rfl ?_
            refine gf_X7_81 (pc := 37) X dX7_table_37 h_r3 (fun r12 h_r12 => ?_)
            refine aw_iload_n (pc := 40) X 3 dX7_table_40 rfl ?_
            refine aw_iald (pc := 41) X dX7_table_41 h_r12 ?_
            exact aw_iret (pc := 42) X hr dX7_table_42 (Nat.le_of_ble_eq_true rfl) (Nat.le_of_ble_eq_true rfl)
          · refine aw_iload_n (pc := 43) X 4 dX7_table_43 rfl ?_
            refine aw_iconst (pc := 44) X (1 : Int32) dX7_table_44 (by decide) ?_
            refine aw_icmpne (pc := 45) X 56 dX7_table_45 (by decide) ?_ ?_
            · refine aw_aload (pc := 48) X 0 dX7_table_48 rfl ?_
              refine gf_X7_105 (pc := 50) X dX7_table_50 h_r3 (fun r11 h_r11 => ?_)
              refine aw_iload_n (pc := 53) X 3 dX7_table_53 rfl ?_
              refine aw_iald (pc := 54) X dX7_table_54 h_r11 ?_
              exact aw_iret (pc := 55) X hr dX7_table_55 (Nat.le_of_ble_eq_true rfl) (Nat.le_of_ble_eq_true rfl)
            · refine aw_aload (pc := 56) X 0 dX7_table_56 rfl ?_
              refine aw_iload_n (pc := 58) X 3 dX7_table_58 rfl ?_
              refine aw_iload_n (pc := 59) X 4 dX7_table_59 rfl ?_
              refine aw_iconst (pc := 60) X (2 : Int32) dX7_table_60 (by decide) ?_
              refine aw_isub (pc := 61) X dX7_table_61 ?_
              refine cl_X7_89 (pc := 62) X ⟨Nat.le_of_ble_eq_true rfl, Nat.le_of_ble_eq_true rfl⟩ (Nat.le_of_ble_eq_true rfl) (ks2 := 0) (sl2 := 0) rfl rfl ⟨(Nat.le_of_ble_eq_true rfl), (Nat.le_of_ble_eq_true rfl)⟩ dX7_table_62 h_r3 (fun r10 M8 g9 => ?_)
              have h_a0 := h_a0.mono g9
              have h_r3 := h_r3.mono g9
              exact aw_iret (pc := 65) X hr dX7_table_65 (Nat.le_of_ble_eq_true rfl) (Nat.le_of_ble_eq_true rfl)
    · refine aw_iconst (pc := 29) X (-1 : Int32) dX7_table_29 (by decide) ?_
      exact aw_iret (pc := 30) X hr dX7_table_30 (Nat.le_of_ble_eq_true rfl) (Nat.le_of_ble_eq_true rfl))
/-! ReportBlocksModel.table -/
def rm_X8_table : Room := { frames := 2, cells := 0, slots := 0, locals := 43 }
theorem hd_X8_table : jHd yX8_table 3 := by unfold jHd; decide +kernel
def f_X8_table (a0 : Nat) (v1 : Int32) (v2 : Int32) (v3 : Int32) (M : JM) : Option (Int32 × JM) := ob (f_X8_isCategory a0 v1 M) fun r3 M1 => if r3 = true then (ob (f_X8_isPlace v2 M1) fun r6 M4 => if r6 = true then (ob (f_X8_in v3 (0 : Int32) (15 : Int32) M4) fun r9 M7 => if r9 = true then (sv (((22 : Int32) * v1) + v2) fun i10 => if v3 = 0 then (orf (gr M7 a0 2) fun r13 => if 0 ≤ i10 ∧ i10 < ln r13 then (some ((gi M7 r13 i10), M7)) else none) else (if v3 = (1 : Int32) then (orf (gr M7 a0 3) fun r12 => if 0 ≤ i10 ∧ i10 < ln r12 then (some ((gi M7 r12 i10), M7)) else none) else (orf (gr M7 a0 4) fun r11 => if 0 ≤ ((((14 : Int32) * i10) + v3) - (2 : Int32)) ∧ ((((14 : Int32) * i10) + v3) - (2 : Int32)) < ln r11 then (some ((gi M7 r11 ((((14 : Int32) * i10) + v3) - (2 : Int32))), M7)) else none))) else (some ((-1 : Int32), M7))) else (some ((-1 : Int32), M4))) else (some ((-1 : Int32), M1))
set_option maxRecDepth 10000 in
set_option maxHeartbeats 4000000 in
theorem t_X8_table {l : Launch} {D : va_G} {cs : JC} {b : Nat} (a0 : Nat) (v1 : Int32) (v2 : Int32) (v3 : Int32) (M : JM) (h_a0 : oty M a0 18) : ∀ q, f_X8_table a0 v1 v2 v3 M = some q → CTy l yX8_table (.code yX8_table cX8_table 5 (Option.some Jvm.ClassFile.FieldType.int) :: GB) rm_X8_table D cs b evI [.ref (b + a0), .int v1, .int v2, .int v3] M rm_X8_table.cells rm_X8_table.slots q := fun q hq => ct_of [(0, .ref (b + a0)), (1, .int v1), (2, .int v2), (3, .int v3)] rfl rfl (Nat.le_of_ble_eq_true rfl) hq (fun p e s m args below meth c X hr hin => by
  refine aw_callq (F' := ob (f_X8_isCategory a0 v1 M) fun r3 M1 => if r3 = true then (ob (f_X8_isPlace v2 M1) fun r6 M4 => if r6 = true then (ob (f_X8_in v3 (0 : Int32) (15 : Int32) M4) fun r9 M7 => if r9 = true then (sv (((22 : Int32) * v1) + v2) fun i10 => if v3 = 0 then (orf (gr M7 a0 2) fun r13 => if 0 ≤ i10 ∧ i10 < ln r13 then (some ((gi M7 r13 i10), M7)) else none) else (if v3 = (1 : Int32) then (orf (gr M7 a0 3) fun r12 => if 0 ≤ i10 ∧ i10 < ln r12 then (some ((gi M7 r12 i10), M7)) else none) else (orf (gr M7 a0 4) fun r11 => if 0 ≤ ((((14 : Int32) * i10) + v3) - (2 : Int32)) ∧ ((((14 : Int32) * i10) + v3) - (2 : Int32)) < ln r11 then (some ((gi M7 r11 ((((14 : Int32) * i10) + v3) - (2 : Int32))), M7)) else none))) else (some ((-1 : Int32), M7))) else (some ((-1 : Int32), M4))) else (some ((-1 : Int32), M1))) rfl ?_
  refine aw_aload_n (pc := 0) X 0 dX8_table_0 rfl ?_
  refine aw_iload_n (pc := 1) X 1 dX8_table_1 rfl ?_
  refine cl_X8_120 (pc := 2) X ⟨Nat.le_of_ble_eq_true rfl, Nat.le_of_ble_eq_true rfl⟩ (Nat.le_of_ble_eq_true rfl) (ks2 := 0) (sl2 := 0) rfl rfl ⟨(Nat.le_of_ble_eq_true rfl), (Nat.le_of_ble_eq_true rfl)⟩ dX8_table_2 h_a0 (fun r3 M1 g2 => ?_)
  have h_a0 := h_a0.mono g2
  refine aw_ifeqB (pc := 5) X 25 dX8_table_5 (by decide) ?_ ?_
  · refine aw_iload_n (pc := 8) X 2 dX8_table_8 rfl ?_
    refine cl_X8_124 (pc := 9) X ⟨Nat.le_of_ble_eq_true rfl, Nat.le_of_ble_eq_true rfl⟩ (Nat.le_of_ble_eq_true rfl) (ks2 := 0) (sl2 := 0) rfl rfl ⟨(Nat.le_of_ble_eq_true rfl), (Nat.le_of_ble_eq_true rfl)⟩ dX8_table_9  (fun r6 M4 g5 => ?_)
    have h_a0 := h_a0.mono g5
    refine aw_ifeqB (pc := 12) X 25 dX8_table_12 (by decide) ?_ ?_
    · refine aw_iload_n (pc := 15) X 3 dX8_table_15 rfl ?_
      refine aw_iconst (pc := 16) X (0 : Int32) dX8_table_16 (by decide) ?_
      refine aw_bipush (pc := 17) X (15 : Int32) dX8_table_17 (by decide) ?_
      refine cl_X8_105 (pc := 19) X ⟨Nat.le_of_ble_eq_true rfl, Nat.le_of_ble_eq_true rfl⟩ (Nat.le_of_ble_eq_true rfl) (ks2 := 0) (sl2 := 0) rfl rfl ⟨(Nat.le_of_ble_eq_true rfl), (Nat.le_of_ble_eq_true rfl)⟩ dX8_table_19  (fun r9 M7 g8 => ?_)
      have h_a0 := h_a0.mono g8
      refine aw_ifneB (pc := 22) X 27 dX8_table_22 (by decide) ?_ ?_
      · refine aw_bipush (pc := 27) X (22 : Int32) dX8_table_27 (by decide) ?_
        refine aw_iload_n (pc := 29) X 1 dX8_table_29 rfl ?_
        refine aw_imul (pc := 30) X dX8_table_30 ?_
        refine aw_iload_n (pc := 31) X 2 dX8_table_31 rfl ?_
        refine aw_iadd (pc := 32) X dX8_table_32 ?_
        refine aw_istoreV (pc := 33) X (fun y => [(4, .int y), (0, .ref (b + a0)), (1, .int v1), (2, .int v2), (3, .int v3)]) dX8_table_33 (by decide) (fun _ => rfl) (fun i10 => ?_)
        refine aw_iload_n (pc := 35) X 4 dX8_table_35 rfl ?_
        refine aw_ifne (pc := 36) X 49 dX8_table_36 (by decide) ?_ ?_
        · refine aw_aload_n (pc := 39) X 1 dX8_table_39 rfl ?_
          refine gf_X8_13 (pc := 40) X dX8_table_40 h_a0 (fun r13 h_r13 => ?_)
          refine aw_iload (pc := 43) X 0 dX8_table_43 rfl ?_
          refine aw_iald (pc := 45) X dX8_table_45 h_r13 ?_
          refine aw_goto (pc := 46) X 78 dX8_table_46 (by decide) ?_
          exact aw_iret (pc := 78) X hr dX8_table_78 (Nat.le_of_ble_eq_true rfl) (Nat.le_of_ble_eq_true rfl)
        · refine aw_iload_n (pc := 49) X 4 dX8_table_49 rfl ?_
          refine aw_iconst (pc := 50) X (1 : Int32) dX8_table_50 (by decide) ?_
          refine aw_icmpne (pc := 51) X 64 dX8_table_51 (by decide) ?_ ?_
          · refine aw_aload_n (pc := 54) X 1 dX8_table_54 rfl ?_
            refine gf_X8_16 (pc := 55) X dX8_table_55 h_a0 (fun r12 h_r12 => ?_)
            refine aw_iload (pc := 58) X 0 dX8_table_58 rfl ?_
            refine aw_iald (pc := 60) X dX8_table_60 h_r12 ?_
            refine aw_goto (pc := 61) X 78 dX8_table_61 (by decide) ?_
            exact aw_iret (pc := 78) X hr dX8_table_78 (Nat.le_of_ble_eq_true rfl) (Nat.le_of_ble_eq_true rfl)
          · refine aw_aload_n (pc := 64) X 1 dX8_table_64 rfl ?_
            refine gf_X8_19 (pc := 65) X dX8_table_65 h_a0 (fun r11 h_r11 => ?_)
            refine aw_bipush (pc := 68) X (14 : Int32) dX8_table_68 (by decide) ?_
            refine aw_iload (pc := 70) X 0 dX8_table_70 rfl ?_
            refine aw_imul (pc := 72) X dX8_table_72 ?_
            refine aw_iload_n (pc := 73) X 4 dX8_table_73 rfl ?_
            refine aw_iadd (pc := 74) X dX8_table_74 ?_
            refine aw_iconst (pc := 75) X (2 : Int32) dX8_table_75 (by decide) ?_
            refine aw_isub (pc := 76) X dX8_table_76 ?_
            refine aw_iald (pc := 77) X dX8_table_77 h_r11 ?_
            exact aw_iret (pc := 78) X hr dX8_table_78 (Nat.le_of_ble_eq_true rfl) (Nat.le_of_ble_eq_true rfl)
      · refine aw_iconst (pc := 25) X (-1 : Int32) dX8_table_25 (by decide) ?_
        exact aw_iret (pc := 26) X hr dX8_table_26 (Nat.le_of_ble_eq_true rfl) (Nat.le_of_ble_eq_true rfl)
    · refine aw_iconst (pc := 25) X (-1 : Int32) dX8_table_25 (by decide) ?_
      exact aw_iret (pc := 26) X hr dX8_table_26 (Nat.le_of_ble_eq_true rfl) (Nat.le_of_ble_eq_true rfl)
  · refine aw_iconst (pc := 25) X (-1 : Int32) dX8_table_25 (by decide) ?_
    exact aw_iret (pc := 26) X hr dX8_table_26 (Nat.le_of_ble_eq_true rfl) (Nat.le_of_ble_eq_true rfl))
/-! ReportBlocks$Tape.hasRoom -/
def rm_X4_hasRoom : Room := { frames := 0, cells := 0, slots := 0, locals := 0 }
theorem hd_X4_hasRoom : jHd yX4_hasRoom 1 := by unfold jHd; decide +kernel
theorem gf_X4_15 {ρ : Type} {l : Launch} {p : Program} {e : Env} {R : Room} {s : State} {m : MethodId} {args : Array Value} {below : List Frame} {meth : Method} {c : Code} {D : va_G} {cs : JC} {b nL : Nat} {H0 : Heap} {Qf : ρ × JM → State → Prop} {M : JM} {ks sl : Nat} {lv : List (Nat × Value)} {pc : Nat} {st : List Value} {cc : ByteArray} {k : Nat} (X : jX p c cc nL s m args RX4 D cs b meth H0) {F : Option (ρ × JM)} (hdg : decode cc pc = .ok (.getfield 15, 3)) (ho : oty M k 14) (kk : AWO p l e R s m args below meth c D cs b nL H0 Qf F M ks sl lv (pc + 3) (.int (gi M k 1) :: st)) : AWO p l e R s m args below meth c D cs b nL H0 Qf F M ks sl lv pc (.ref (b + k) :: st) := aw_getI (ci := 4) X 1 rfl gy_X4 (by decide) rfl rfl wf_X4_15 hdg ho kk
def f_X4_hasRoom (a0 : Nat) (v1 : Int32) (M : JM) : Option (Bool × JM) := if ((300 : Int32) - (gi M a0 1)) < v1 then (some (false, M)) else (some (true, M))
set_option maxRecDepth 10000 in
set_option maxHeartbeats 4000000 in
theorem t_X4_hasRoom {l : Launch} {D : va_G} {cs : JC} {b : Nat} (a0 : Nat) (v1 : Int32) (M : JM) (h_a0 : oty M a0 14) : ∀ q, f_X4_hasRoom a0 v1 M = some q → CTy l yX4_hasRoom (.code yX4_hasRoom cX4_hasRoom 2 (Option.some Jvm.ClassFile.FieldType.boolean) :: GB) rm_X4_hasRoom D cs b evB [.ref (b + a0), .int v1] M rm_X4_hasRoom.cells rm_X4_hasRoom.slots q := fun q hq => ct_of [(0, .ref (b + a0)), (1, .int v1)] rfl rfl (Nat.le_of_ble_eq_true rfl) hq (fun p e s m args below meth c X hr hin => by
  refine aw_callq (F' := if ((300 : Int32) - (gi M a0 1)) < v1 then (some (false, M)) else (some (true, M))) rfl ?_
  refine aw_iload_n (pc := 0) X 1 dX4_hasRoom_0 rfl ?_
  refine aw_sipush (pc := 1) X (300 : Int32) dX4_hasRoom_1 (by decide) ?_
  refine aw_aload_n (pc := 4) X 0 dX4_hasRoom_4 rfl ?_
  refine gf_X4_15 (pc := 5) X dX4_hasRoom_5 h_a0 ?_
  refine aw_isub (pc := 8) X dX4_hasRoom_8 ?_
  refine aw_icmpgt (pc := 9) X 16 dX4_hasRoom_9 (by decide) ?_ ?_
  · refine aw_iconst (pc := 16) X (0 : Int32) dX4_hasRoom_16 (by decide) ?_
    exact aw_zret (pc := 17) X hr false rfl dX4_hasRoom_17 (Nat.le_of_ble_eq_true rfl) (Nat.le_of_ble_eq_true rfl)
  · refine aw_iconst (pc := 12) X (1 : Int32) dX4_hasRoom_12 (by decide) ?_
    refine aw_goto (pc := 13) X 17 dX4_hasRoom_13 (by decide) ?_
    exact aw_zret (pc := 17) X hr true rfl dX4_hasRoom_17 (Nat.le_of_ble_eq_true rfl) (Nat.le_of_ble_eq_true rfl))
/-! ReportBlocks$Tape.put -/
def rm_X4_put : Room := { frames := 0, cells := 0, slots := 0, locals := 0 }
theorem hd_X4_put : jHd yX4_put 1 := by unfold jHd; decide +kernel
theorem gf_X4_9 {ρ : Type} {l : Launch} {p : Program} {e : Env} {R : Room} {s : State} {m : MethodId} {args : Array Value} {below : List Frame} {meth : Method} {c : Code} {D : va_G} {cs : JC} {b nL : Nat} {H0 : Heap} {Qf : ρ × JM → State → Prop} {M : JM} {ks sl : Nat} {lv : List (Nat × Value)} {pc : Nat} {st : List Value} {cc : ByteArray} {k : Nat} (X : jX p c cc nL s m args RX4 D cs b meth H0) {K : Nat → Option (ρ × JM)} (hdg : decode cc pc = .ok (.getfield 9, 3)) (ho : oty M k 14) (kk : ∀ r : Nat, oty M r 1 → AWO p l e R s m args below meth c D cs b nL H0 Qf (K r) M ks sl lv (pc + 3) (.ref (b + r) :: st)) : AWO p l e R s m args below meth c D cs b nL H0 Qf (orf (gr M k 0) K) M ks sl lv pc (.ref (b + k) :: st) := aw_getR (ci := 4) (τ := 1) X 0 rfl gy_X4 (by decide) (by decide) rfl rfl (by decide) wf_X4_9 hdg ho kk
theorem pf_X4_15 {ρ : Type} {l : Launch} {p : Program} {e : Env} {R : Room} {s : State} {m : MethodId} {args : Array Value} {below : List Frame} {meth : Method} {c : Code} {D : va_G} {cs : JC} {b nL : Nat} {H0 : Heap} {Qf : ρ × JM → State → Prop} {M : JM} {ks sl : Nat} {lv : List (Nat × Value)} {pc : Nat} {st : List Value} {cc : ByteArray} {k : Nat} {K : JM → Option (ρ × JM)} (X : jX p c cc nL s m args RX4 D cs b meth H0) {x : Int32} (hdg : decode cc pc = .ok (.putfield 15, 3)) (ho : oty M k 14) (kk : ∀ M2 : JM, gn M ≤ gn M2 → AWO p l e R s m args below meth c D cs b nL H0 Qf (K M2) M2 ks sl lv (pc + 3) st) : AWO p l e R s m args below meth c D cs b nL H0 Qf (sq (si M k 1 x) K) M ks sl lv pc (.int x :: .ref (b + k) :: st) := aw_putI (ci := 4) X 1 rfl gy_X4 tyX4 tyX4_ok nmX4 (by decide) (by decide) rfl rfl wf_X4_15 rfl (Or.inl rfl) hdg ho (kk _ (Nat.le_refl _))
def f_X4_put (a0 : Nat) (v1 : Int32) (M : JM) : Option (Unit × JM) := if (gi M a0 1) < (300 : Int32) then (orf (gr M a0 0) fun r1 => if 0 ≤ (gi M a0 1) ∧ (gi M a0 1) < ln r1 then (sq (si M r1 (gi M a0 1) v1) fun M2 => sq (si M2 a0 1 ((gi M2 a0 1) + (1 : Int32))) fun M4 => some ((), M4)) else none) else (some ((), M))
set_option maxRecDepth 10000 in
set_option maxHeartbeats 4000000 in
theorem t_X4_put {l : Launch} {D : va_G} {cs : JC} {b : Nat} (a0 : Nat) (v1 : Int32) (M : JM) (h_a0 : oty M a0 14) : ∀ q, f_X4_put a0 v1 M = some q → CTy l yX4_put (.code yX4_put cX4_put 2 (Option.none) :: GB) rm_X4_put D cs b evV [.ref (b + a0), .int v1] M rm_X4_put.cells rm_X4_put.slots q := fun q hq => ct_of [(0, .ref (b + a0)), (1, .int v1)] rfl rfl (Nat.le_of_ble_eq_true rfl) hq (fun p e s m args below meth c X hr hin => by
  refine aw_callq (F' := if (gi M a0 1) < (300 : Int32) then (orf (gr M a0 0) fun r1 => if 0 ≤ (gi M a0 1) ∧ (gi M a0 1) < ln r1 then (sq (si M r1 (gi M a0 1) v1) fun M2 => sq (si M2 a0 1 ((gi M2 a0 1) + (1 : Int32))) fun M4 => some ((), M4)) else none) else (some ((), M))) rfl ?_
  refine aw_aload_n (pc := 0) X 0 dX4_put_0 rfl ?_
  refine gf_X4_15 (pc := 1) X dX4_put_1 h_a0 ?_
  refine aw_sipush (pc := 4) X (300 : Int32) dX4_put_4 (by decide) ?_
  refine aw_icmpge (pc := 7) X 30 dX4_put_7 (by decide) ?_ ?_
  · refine aw_aload_n (pc := 10) X 0 dX4_put_10 rfl ?_
    refine gf_X4_9 (pc := 11) X dX4_put_11 h_a0 (fun r1 h_r1 => ?_)
    refine aw_aload_n (pc := 14) X 0 dX4_put_14 rfl ?_
    refine gf_X4_15 (pc := 15) X dX4_put_15 h_a0 ?_
    refine aw_iload_n (pc := 18) X 1 dX4_put_18 rfl ?_
    refine aw_iastQ (pc := 19) X dX4_put_19 h_r1 (fun M2 g3 => ?_)
    have h_a0 := h_a0.mono g3
    refine aw_aload_n (pc := 20) X 0 dX4_put_20 rfl ?_
    refine aw_dup_a (pc := 21) X dX4_put_21 ?_
    refine gf_X4_15 (pc := 22) X dX4_put_22 h_a0 ?_
    refine aw_iconst (pc := 25) X (1 : Int32) dX4_put_25 (by decide) ?_
    refine aw_iadd (pc := 26) X dX4_put_26 ?_
    refine pf_X4_15 (pc := 27) X dX4_put_27 h_a0 (fun M4 g5 => ?_)
    have h_a0 := h_a0.mono g5
    exact aw_vret (pc := 30) X hr dX4_put_30 (Nat.le_of_ble_eq_true rfl) (Nat.le_of_ble_eq_true rfl)
  · exact aw_vret (pc := 30) X hr dX4_put_30 (Nat.le_of_ble_eq_true rfl) (Nat.le_of_ble_eq_true rfl))
/-! ReportBlocks.feed -/
def rm_X7_feed : Room := { frames := 1, cells := 0, slots := 0, locals := 21 }
theorem hd_X7_feed : jHd yX7_feed 2 := by unfold jHd; decide +kernel
theorem cl_X7_108 {ρ : Type} {l : Launch} {p : Program} {e : Env} {R : Room} {s : State} {m : MethodId} {args : Array Value} {below : List Frame} {meth : Method} {c : Code} {D : va_G} {cs : JC} {b nL : Nat} {H0 : Heap} {Qf : ρ × JM → State → Prop} {M : JM} {ks sl : Nat} {lv : List (Nat × Value)} {pc : Nat} {st : List Value} {cc : ByteArray} (X : jX p c cc nL s m args RX7 D cs b meth H0) {z0 : Nat} {z1 : Int32} {K : Bool → JM → Option (ρ × JM)} (hrm : jRm rm_X4_hasRoom 2 R) (hW : (st.map fun v => v.category).sum ≤ 8) {ks2 sl2 : Nat} (hk2 : ks + rm_X4_hasRoom.cells = ks2) (hs2 : sl + rm_X4_hasRoom.slots = sl2) (hroom : ks2 ≤ R.cells ∧ sl2 ≤ R.slots) (hdg : decode cc pc = .ok (.invokevirtual 108, 3)) (h0 : oty M z0 14) (kk : ∀ (r : Bool) (M2 : JM), gn M ≤ gn M2 → AWO p l e R s m args below meth c D cs b nL H0 Qf (K r M2) M2 ks2 sl2 lv (pc + 3) (.int (bI r) :: st)) : AWO p l e R s m args below meth c D cs b nL H0 Qf (ob (f_X4_hasRoom z0 z1 M) K) M ks sl lv pc (.int z1 :: .ref (b + z0) :: st) := by
  subst hk2
  subst hs2
  exact aw_callV (ci := 4) X [.int z1] st rfl rfl wl_X7_108 wi_X4_hasRoom wv_X4_hasRoom wc_X4_hasRoom wn_X4 (n := 1) hd_X4_hasRoom rfl hrm hW hroom hdg h0 (t_X4_hasRoom z0 z1 M h0) (fun r M2 g _ => kk r M2 g)
theorem gf_X7_114 {ρ : Type} {l : Launch} {p : Program} {e : Env} {R : Room} {s : State} {m : MethodId} {args : Array Value} {below : List Frame} {meth : Method} {c : Code} {D : va_G} {cs : JC} {b nL : Nat} {H0 : Heap} {Qf : ρ × JM → State → Prop} {M : JM} {ks sl : Nat} {lv : List (Nat × Value)} {pc : Nat} {st : List Value} {cc : ByteArray} {k : Nat} (X : jX p c cc nL s m args RX7 D cs b meth H0) {F : Option (ρ × JM)} (hdg : decode cc pc = .ok (.getfield 114, 3)) (ho : oty M k 14) (kk : AWO p l e R s m args below meth c D cs b nL H0 Qf F M ks sl lv (pc + 3) (.int (gi M k 1) :: st)) : AWO p l e R s m args below meth c D cs b nL H0 Qf F M ks sl lv pc (.ref (b + k) :: st) := aw_getI (ci := 4) X 1 rfl gy_X4 (by decide) rfl rfl wf_X7_114 hdg ho kk
def f_X7_feed_L62 : Nat → JM → Option (Int32 × JM) := fun a0 M => orf (gr M a0 2) fun r6 => some ((gi M r6 1), M)
set_option maxRecDepth 10000 in
set_option maxHeartbeats 4000000 in
theorem t_X7_feed_L62 {p : Program} {l : Launch} {e : Env} {s : State} {m : MethodId} {args : Array Value} {below : List Frame} {meth : Method} {c : Code} {D : va_G} {cs : JC} {b : Nat} (X : jX p c cX7_feed 5 s m args RX7 D cs b meth s.heap) (hr : meth.sig.returnType = Option.some Jvm.ClassFile.FieldType.int) : ∀ (a0 : Nat) (M : JM), oty M a0 17 → AWO p l e rm_X7_feed s m args below meth c D cs b 5 s.heap (jE below D cs b evI args s rm_X7_feed.cells rm_X7_feed.slots) (f_X7_feed_L62 a0 M) M 0 0 [(0, .ref (b + a0))] 62 [] := by
  intro a0 M h_a0
  refine aw_callq (F' := orf (gr M a0 2) fun r6 => some ((gi M r6 1), M)) rfl ?_
  refine aw_aload_n (pc := 62) X 0 dX7_feed_62 rfl ?_
  refine gf_X7_18 (pc := 63) X dX7_feed_63 h_a0 (fun r6 h_r6 => ?_)
  refine gf_X7_114 (pc := 66) X dX7_feed_66 h_r6 ?_
  exact aw_iret (pc := 69) X hr dX7_feed_69 (Nat.le_of_ble_eq_true rfl) (Nat.le_of_ble_eq_true rfl)
theorem cl_X7_111 {ρ : Type} {l : Launch} {p : Program} {e : Env} {R : Room} {s : State} {m : MethodId} {args : Array Value} {below : List Frame} {meth : Method} {c : Code} {D : va_G} {cs : JC} {b nL : Nat} {H0 : Heap} {Qf : ρ × JM → State → Prop} {M : JM} {ks sl : Nat} {lv : List (Nat × Value)} {pc : Nat} {st : List Value} {cc : ByteArray} (X : jX p c cc nL s m args RX7 D cs b meth H0) {z0 : Nat} {z1 : Int32} {K : JM → Option (ρ × JM)} (hrm : jRm rm_X4_put 2 R) (hW : (st.map fun v => v.category).sum ≤ 8) {ks2 sl2 : Nat} (hk2 : ks + rm_X4_put.cells = ks2) (hs2 : sl + rm_X4_put.slots = sl2) (hroom : ks2 ≤ R.cells ∧ sl2 ≤ R.slots) (hdg : decode cc pc = .ok (.invokevirtual 111, 3)) (h0 : oty M z0 14) (kk : ∀ (M2 : JM), gn M ≤ gn M2 → AWO p l e R s m args below meth c D cs b nL H0 Qf (K M2) M2 ks2 sl2 lv (pc + 3) (st)) : AWO p l e R s m args below meth c D cs b nL H0 Qf (ob (f_X4_put z0 z1 M) (fun _ => K)) M ks sl lv pc (.int z1 :: .ref (b + z0) :: st) := by
  subst hk2
  subst hs2
  exact aw_callV (ci := 4) X [.int z1] st rfl rfl wl_X7_111 wi_X4_put wv_X4_put wc_X4_put wn_X4 (n := 1) hd_X4_put rfl hrm hW hroom hdg h0 (t_X4_put z0 z1 M h0) (fun _ M2 g _ => kk M2 g)
def f_X7_feed_L32 : Nat → Nat → Int64 → Int32 → JM → Option (Int32 × JM)
  | 0, _, _, _, _ => none
  | n + 1, a0, v1, v4, M => if v4 < 0 then (f_X7_feed_L62 a0 M) else (orf (gr M a0 2) fun r7 => ob (f_X4_put r7 ((v1 >>> (((8 : Int32) * v4).toInt64 &&& 63)).toInt32 &&& (255 : Int32)) M) fun _ M8 => sv (v4 + (-1 : Int32)) fun i10 => (f_X7_feed_L32 n) a0 v1 i10 M8)
set_option maxRecDepth 10000 in
set_option maxHeartbeats 4000000 in
theorem t_X7_feed_L32 {p : Program} {l : Launch} {e : Env} {s : State} {m : MethodId} {args : Array Value} {below : List Frame} {meth : Method} {c : Code} {D : va_G} {cs : JC} {b : Nat} (X : jX p c cX7_feed 5 s m args RX7 D cs b meth s.heap) (hr : meth.sig.returnType = Option.some Jvm.ClassFile.FieldType.int) : ∀ (n : Nat) (a0 : Nat) (v1 : Int64) (v4 : Int32) (M : JM), oty M a0 17 → AWO p l e rm_X7_feed s m args below meth c D cs b 5 s.heap (jE below D cs b evI args s rm_X7_feed.cells rm_X7_feed.slots) (f_X7_feed_L32 n a0 v1 v4 M) M 0 0 [(0, .ref (b + a0)), (1, .long v1), (4, .int v4)] 32 [] := by
  intro n
  induction n with
  | zero => intro a0 v1 v4 M h_a0; exact aw_none
  | succ n ih =>
    intro a0 v1 v4 M h_a0
    refine aw_callq (F' := if v4 < 0 then (f_X7_feed_L62 a0 M) else (orf (gr M a0 2) fun r7 => ob (f_X4_put r7 ((v1 >>> (((8 : Int32) * v4).toInt64 &&& 63)).toInt32 &&& (255 : Int32)) M) fun _ M8 => sv (v4 + (-1 : Int32)) fun i10 => (f_X7_feed_L32 n) a0 v1 i10 M8)) rfl ?_
    refine aw_iload (pc := 32) X 2 dX7_feed_32 rfl ?_
    refine aw_iflt (pc := 34) X 62 dX7_feed_34 (by decide) ?_ ?_
    · refine aw_sub [0] rfl ?_
      exact t_X7_feed_L62 X hr a0 M h_a0
    · refine aw_aload_n (pc := 37) X 0 dX7_feed_37 rfl ?_
      refine gf_X7_18 (pc := 38) X dX7_feed_38 h_a0 (fun r7 h_r7 => ?_)
      refine aw_lload_n (pc := 41) X 1 dX7_feed_41 rfl ?_
      refine aw_bipush (pc := 42) X (8 : Int32) dX7_feed_42 (by decide) ?_
      refine aw_iload (pc := 44) X 2 dX7_feed_44 rfl ?_
      refine aw_imul (pc := 46) X dX7_feed_46 ?_
      refine aw_lshr (pc := 47) X dX7_feed_47 ?_
      refine aw_l2i (pc := 48) X dX7_feed_48 ?_
      refine aw_sipush (pc := 49) X (255 : Int32) dX7_feed_49 (by decide) ?_
      refine aw_iand (pc := 52) X dX7_feed_52 ?_
      refine cl_X7_111 (pc := 53) X ⟨Nat.le_of_ble_eq_true rfl, Nat.le_of_ble_eq_true rfl⟩ (Nat.le_of_ble_eq_true rfl) (ks2 := 0) (sl2 := 0) rfl rfl ⟨(Nat.le_of_ble_eq_true rfl), (Nat.le_of_ble_eq_true rfl)⟩ dX7_feed_53 h_r7 (fun M8 g9 => ?_)
      have h_a0 := h_a0.mono g9
      refine aw_iincV (pc := 56) X (fun y => [(4, .int y), (0, .ref (b + a0)), (1, .long v1)]) 2 (v := (v4 + (-1 : Int32))) dX7_feed_56 rfl rfl (by decide) (fun _ => rfl) (fun i10 => ?_)
      refine aw_goto (pc := 59) X 32 dX7_feed_59 (by decide) ?_
      refine aw_sub [1, 2, 0] rfl ?_
      exact ih a0 v1 i10 M8 h_a0
def f_X7_feed (a0 : Nat) (v1 : Int64) (v3 : Int32) (M : JM) : Option (Int32 × JM) := if v3 < (1 : Int32) then (some ((-1 : Int32), M)) else (if (8 : Int32) < v3 then (some ((-1 : Int32), M)) else (orf (gr M a0 2) fun r1 => ob (f_X4_hasRoom r1 v3 M) fun r4 M2 => if r4 = true then (sv (v3 - (1 : Int32)) fun i5 => f_X7_feed_L32 FU a0 v1 i5 M2) else (some ((-3 : Int32), M2))))
set_option maxRecDepth 10000 in
set_option maxHeartbeats 4000000 in
theorem t_X7_feed {l : Launch} {D : va_G} {cs : JC} {b : Nat} (a0 : Nat) (v1 : Int64) (v3 : Int32) (M : JM) (h_a0 : oty M a0 17) : ∀ q, f_X7_feed a0 v1 v3 M = some q → CTy l yX7_feed (.code yX7_feed cX7_feed 5 (Option.some Jvm.ClassFile.FieldType.int) :: GB) rm_X7_feed D cs b evI [.ref (b + a0), .long v1, .int v3] M rm_X7_feed.cells rm_X7_feed.slots q := fun q hq => ct_of [(0, .ref (b + a0)), (1, .long v1), (3, .int v3)] rfl rfl (Nat.le_of_ble_eq_true rfl) hq (fun p e s m args below meth c X hr hin => by
  refine aw_callq (F' := if v3 < (1 : Int32) then (some ((-1 : Int32), M)) else (if (8 : Int32) < v3 then (some ((-1 : Int32), M)) else (orf (gr M a0 2) fun r1 => ob (f_X4_hasRoom r1 v3 M) fun r4 M2 => if r4 = true then (sv (v3 - (1 : Int32)) fun i5 => f_X7_feed_L32 FU a0 v1 i5 M2) else (some ((-3 : Int32), M2))))) rfl ?_
  refine aw_iload_n (pc := 0) X 2 dX7_feed_0 rfl ?_
  refine aw_iconst (pc := 1) X (1 : Int32) dX7_feed_1 (by decide) ?_
  refine aw_icmplt (pc := 2) X 11 dX7_feed_2 (by decide) ?_ ?_
  · refine aw_iconst (pc := 11) X (-1 : Int32) dX7_feed_11 (by decide) ?_
    exact aw_iret (pc := 12) X hr dX7_feed_12 (Nat.le_of_ble_eq_true rfl) (Nat.le_of_ble_eq_true rfl)
  · refine aw_iload_n (pc := 5) X 2 dX7_feed_5 rfl ?_
    refine aw_bipush (pc := 6) X (8 : Int32) dX7_feed_6 (by decide) ?_
    refine aw_icmple (pc := 8) X 13 dX7_feed_8 (by decide) ?_ ?_
    · refine aw_iconst (pc := 11) X (-1 : Int32) dX7_feed_11 (by decide) ?_
      exact aw_iret (pc := 12) X hr dX7_feed_12 (Nat.le_of_ble_eq_true rfl) (Nat.le_of_ble_eq_true rfl)
    · refine aw_aload_n (pc := 13) X 0 dX7_feed_13 rfl ?_
      refine gf_X7_18 (pc := 14) X dX7_feed_14 h_a0 (fun r1 h_r1 => ?_)
      refine aw_iload_n (pc := 17) X 2 dX7_feed_17 rfl ?_
      refine cl_X7_108 (pc := 18) X ⟨Nat.le_of_ble_eq_true rfl, Nat.le_of_ble_eq_true rfl⟩ (Nat.le_of_ble_eq_true rfl) (ks2 := 0) (sl2 := 0) rfl rfl ⟨(Nat.le_of_ble_eq_true rfl), (Nat.le_of_ble_eq_true rfl)⟩ dX7_feed_18 h_r1 (fun r4 M2 g3 => ?_)
      have h_a0 := h_a0.mono g3
      refine aw_ifneB (pc := 21) X 27 dX7_feed_21 (by decide) ?_ ?_
      · refine aw_iload_n (pc := 27) X 2 dX7_feed_27 rfl ?_
        refine aw_iconst (pc := 28) X (1 : Int32) dX7_feed_28 (by decide) ?_
        refine aw_isub (pc := 29) X dX7_feed_29 ?_
        refine aw_istoreV (pc := 30) X (fun y => [(4, .int y), (0, .ref (b + a0)), (1, .long v1), (3, .int v3)]) dX7_feed_30 (by decide) (fun _ => rfl) (fun i5 => ?_)
        refine aw_sub [1, 2, 0] rfl ?_
        exact t_X7_feed_L32 X hr FU a0 v1 i5 M2 h_a0
      · refine aw_bipush (pc := 24) X (-3 : Int32) dX7_feed_24 (by decide) ?_
        exact aw_iret (pc := 26) X hr dX7_feed_26 (Nat.le_of_ble_eq_true rfl) (Nat.le_of_ble_eq_true rfl))
/-! ReportBlocksModel.feed -/
def rm_X8_feed : Room := { frames := 1, cells := 0, slots := 0, locals := 22 }
theorem hd_X8_feed : jHd yX8_feed 2 := by unfold jHd; decide +kernel
theorem gf_X8_133 {ρ : Type} {l : Launch} {p : Program} {e : Env} {R : Room} {s : State} {m : MethodId} {args : Array Value} {below : List Frame} {meth : Method} {c : Code} {D : va_G} {cs : JC} {b nL : Nat} {H0 : Heap} {Qf : ρ × JM → State → Prop} {M : JM} {ks sl : Nat} {lv : List (Nat × Value)} {pc : Nat} {st : List Value} {cc : ByteArray} {k : Nat} (X : jX p c cc nL s m args RX8 D cs b meth H0) {F : Option (ρ × JM)} (hdg : decode cc pc = .ok (.getfield 133, 3)) (ho : oty M k 18) (kk : AWO p l e R s m args below meth c D cs b nL H0 Qf F M ks sl lv (pc + 3) (.int (gi M k 8) :: st)) : AWO p l e R s m args below meth c D cs b nL H0 Qf F M ks sl lv pc (.ref (b + k) :: st) := aw_getI (ci := 8) X 8 rfl gy_X8 (by decide) rfl rfl wf_X8_133 hdg ho kk
def f_X8_feed_L74 : Nat → JM → Option (Int32 × JM) := fun a0 M => some ((gi M a0 8), M)
set_option maxRecDepth 10000 in
set_option maxHeartbeats 4000000 in
theorem t_X8_feed_L74 {p : Program} {l : Launch} {e : Env} {s : State} {m : MethodId} {args : Array Value} {below : List Frame} {meth : Method} {c : Code} {D : va_G} {cs : JC} {b : Nat} (X : jX p c cX8_feed 5 s m args RX8 D cs b meth s.heap) (hr : meth.sig.returnType = Option.some Jvm.ClassFile.FieldType.int) : ∀ (a0 : Nat) (M : JM), oty M a0 18 → AWO p l e rm_X8_feed s m args below meth c D cs b 5 s.heap (jE below D cs b evI args s rm_X8_feed.cells rm_X8_feed.slots) (f_X8_feed_L74 a0 M) M 0 0 [(0, .ref (b + a0))] 74 [] := by
  intro a0 M h_a0
  refine aw_callq (F' := some ((gi M a0 8), M)) rfl ?_
  refine aw_aload_n (pc := 74) X 0 dX8_feed_74 rfl ?_
  refine gf_X8_133 (pc := 75) X dX8_feed_75 h_a0 ?_
  exact aw_iret (pc := 78) X hr dX8_feed_78 (Nat.le_of_ble_eq_true rfl) (Nat.le_of_ble_eq_true rfl)
theorem gf_X8_28 {ρ : Type} {l : Launch} {p : Program} {e : Env} {R : Room} {s : State} {m : MethodId} {args : Array Value} {below : List Frame} {meth : Method} {c : Code} {D : va_G} {cs : JC} {b nL : Nat} {H0 : Heap} {Qf : ρ × JM → State → Prop} {M : JM} {ks sl : Nat} {lv : List (Nat × Value)} {pc : Nat} {st : List Value} {cc : ByteArray} {k : Nat} (X : jX p c cc nL s m args RX8 D cs b meth H0) {K : Nat → Option (ρ × JM)} (hdg : decode cc pc = .ok (.getfield 28, 3)) (ho : oty M k 18) (kk : ∀ r : Nat, oty M r 1 → AWO p l e R s m args below meth c D cs b nL H0 Qf (K r) M ks sl lv (pc + 3) (.ref (b + r) :: st)) : AWO p l e R s m args below meth c D cs b nL H0 Qf (orf (gr M k 7) K) M ks sl lv pc (.ref (b + k) :: st) := aw_getR (ci := 8) (τ := 1) X 7 rfl gy_X8 (by decide) (by decide) rfl rfl (by decide) wf_X8_28 hdg ho kk
theorem pf_X8_133 {ρ : Type} {l : Launch} {p : Program} {e : Env} {R : Room} {s : State} {m : MethodId} {args : Array Value} {below : List Frame} {meth : Method} {c : Code} {D : va_G} {cs : JC} {b nL : Nat} {H0 : Heap} {Qf : ρ × JM → State → Prop} {M : JM} {ks sl : Nat} {lv : List (Nat × Value)} {pc : Nat} {st : List Value} {cc : ByteArray} {k : Nat} {K : JM → Option (ρ × JM)} (X : jX p c cc nL s m args RX8 D cs b meth H0) {x : Int32} (hdg : decode cc pc = .ok (.putfield 133, 3)) (ho : oty M k 18) (kk : ∀ M2 : JM, gn M ≤ gn M2 → AWO p l e R s m args below meth c D cs b nL H0 Qf (K M2) M2 ks sl lv (pc + 3) st) : AWO p l e R s m args below meth c D cs b nL H0 Qf (sq (si M k 8 x) K) M ks sl lv pc (.int x :: .ref (b + k) :: st) := aw_putI (ci := 8) X 8 rfl gy_X8 tyX8 tyX8_ok nmX8 (by decide) (by decide) rfl rfl wf_X8_133 rfl (Or.inl rfl) hdg ho (kk _ (Nat.le_refl _))
def f_X8_feed_L32 : Nat → Nat → Int64 → Int32 → JM → Option (Int32 × JM)
  | 0, _, _, _, _ => none
  | n + 1, a0, v1, v4, M => if v4 < 0 then (f_X8_feed_L74 a0 M) else (orf (gr M a0 7) fun r5 => if 0 ≤ (gi M a0 8) ∧ (gi M a0 8) < ln r5 then (sq (si M r5 (gi M a0 8) ((v1 >>> (((8 : Int32) * v4).toInt64 &&& 63)).toInt32 &&& (255 : Int32))) fun M6 => sq (si M6 a0 8 ((gi M6 a0 8) + (1 : Int32))) fun M8 => sv (v4 + (-1 : Int32)) fun i10 => (f_X8_feed_L32 n) a0 v1 i10 M8) else none)
set_option maxRecDepth 10000 in
set_option maxHeartbeats 4000000 in
theorem t_X8_feed_L32 {p : Program} {l : Launch} {e : Env} {s : State} {m : MethodId} {args : Array Value} {below : List Frame} {meth : Method} {c : Code} {D : va_G} {cs : JC} {b : Nat} (X : jX p c cX8_feed 5 s m args RX8 D cs b meth s.heap) (hr : meth.sig.returnType = Option.some Jvm.ClassFile.FieldType.int) : ∀ (n : Nat) (a0 : Nat) (v1 : Int64) (v4 : Int32) (M : JM), oty M a0 18 → AWO p l e rm_X8_feed s m args below meth c D cs b 5 s.heap (jE below D cs b evI args s rm_X8_feed.cells rm_X8_feed.slots) (f_X8_feed_L32 n a0 v1 v4 M) M 0 0 [(0, .ref (b + a0)), (1, .long v1), (4, .int v4)] 32 [] := by
  intro n
  induction n with
  | zero => intro a0 v1 v4 M h_a0; exact aw_none
  | succ n ih =>
    intro a0 v1 v4 M h_a0
    refine aw_callq (F' := if v4 < 0 then (f_X8_feed_L74 a0 M) else (orf (gr M a0 7) fun r5 => if 0 ≤ (gi M a0 8) ∧ (gi M a0 8) < ln r5 then (sq (si M r5 (gi M a0 8) ((v1 >>> (((8 : Int32) * v4).toInt64 &&& 63)).toInt32 &&& (255 : Int32))) fun M6 => sq (si M6 a0 8 ((gi M6 a0 8) + (1 : Int32))) fun M8 => sv (v4 + (-1 : Int32)) fun i10 => (f_X8_feed_L32 n) a0 v1 i10 M8) else none)) rfl ?_
    refine aw_iload (pc := 32) X 2 dX8_feed_32 rfl ?_
    refine aw_iflt (pc := 34) X 74 dX8_feed_34 (by decide) ?_ ?_
    · refine aw_sub [0] rfl ?_
      exact t_X8_feed_L74 X hr a0 M h_a0
    · refine aw_aload_n (pc := 37) X 0 dX8_feed_37 rfl ?_
      refine gf_X8_28 (pc := 38) X dX8_feed_38 h_a0 (fun r5 h_r5 => ?_)
      refine aw_aload_n (pc := 41) X 0 dX8_feed_41 rfl ?_
      refine gf_X8_133 (pc := 42) X dX8_feed_42 h_a0 ?_
      refine aw_lload_n (pc := 45) X 1 dX8_feed_45 rfl ?_
      refine aw_bipush (pc := 46) X (8 : Int32) dX8_feed_46 (by decide) ?_
      refine aw_iload (pc := 48) X 2 dX8_feed_48 rfl ?_
      refine aw_imul (pc := 50) X dX8_feed_50 ?_
      refine aw_lshr (pc := 51) X dX8_feed_51 ?_
      refine aw_l2i (pc := 52) X dX8_feed_52 ?_
      refine aw_sipush (pc := 53) X (255 : Int32) dX8_feed_53 (by decide) ?_
      refine aw_iand (pc := 56) X dX8_feed_56 ?_
      refine aw_iastQ (pc := 57) X dX8_feed_57 h_r5 (fun M6 g7 => ?_)
      have h_a0 := h_a0.mono g7
      refine aw_aload_n (pc := 58) X 0 dX8_feed_58 rfl ?_
      refine aw_dup_a (pc := 59) X dX8_feed_59 ?_
      refine gf_X8_133 (pc := 60) X dX8_feed_60 h_a0 ?_
      refine aw_iconst (pc := 63) X (1 : Int32) dX8_feed_63 (by decide) ?_
      refine aw_iadd (pc := 64) X dX8_feed_64 ?_
      refine pf_X8_133 (pc := 65) X dX8_feed_65 h_a0 (fun M8 g9 => ?_)
      have h_a0 := h_a0.mono g9
      refine aw_iincV (pc := 68) X (fun y => [(4, .int y), (0, .ref (b + a0)), (1, .long v1)]) 2 (v := (v4 + (-1 : Int32))) dX8_feed_68 rfl rfl (by decide) (fun _ => rfl) (fun i10 => ?_)
      refine aw_goto (pc := 71) X 32 dX8_feed_71 (by decide) ?_
      refine aw_sub [1, 2, 0] rfl ?_
      exact ih a0 v1 i10 M8 h_a0
def f_X8_feed (a0 : Nat) (v1 : Int64) (v3 : Int32) (M : JM) : Option (Int32 × JM) := ob (f_X8_in v3 (1 : Int32) (8 : Int32) M) fun r3 M1 => if r3 = true then (if (300 : Int32) < ((gi M1 a0 8) + v3) then (some ((-3 : Int32), M1)) else (sv (v3 - (1 : Int32)) fun i4 => f_X8_feed_L32 FU a0 v1 i4 M1)) else (some ((-1 : Int32), M1))
set_option maxRecDepth 10000 in
set_option maxHeartbeats 4000000 in
theorem t_X8_feed {l : Launch} {D : va_G} {cs : JC} {b : Nat} (a0 : Nat) (v1 : Int64) (v3 : Int32) (M : JM) (h_a0 : oty M a0 18) : ∀ q, f_X8_feed a0 v1 v3 M = some q → CTy l yX8_feed (.code yX8_feed cX8_feed 5 (Option.some Jvm.ClassFile.FieldType.int) :: GB) rm_X8_feed D cs b evI [.ref (b + a0), .long v1, .int v3] M rm_X8_feed.cells rm_X8_feed.slots q := fun q hq => ct_of [(0, .ref (b + a0)), (1, .long v1), (3, .int v3)] rfl rfl (Nat.le_of_ble_eq_true rfl) hq (fun p e s m args below meth c X hr hin => by
  refine aw_callq (F' := ob (f_X8_in v3 (1 : Int32) (8 : Int32) M) fun r3 M1 => if r3 = true then (if (300 : Int32) < ((gi M1 a0 8) + v3) then (some ((-3 : Int32), M1)) else (sv (v3 - (1 : Int32)) fun i4 => f_X8_feed_L32 FU a0 v1 i4 M1)) else (some ((-1 : Int32), M1))) rfl ?_
  refine aw_iload_n (pc := 0) X 2 dX8_feed_0 rfl ?_
  refine aw_iconst (pc := 1) X (1 : Int32) dX8_feed_1 (by decide) ?_
  refine aw_bipush (pc := 2) X (8 : Int32) dX8_feed_2 (by decide) ?_
  refine cl_X8_105 (pc := 4) X ⟨Nat.le_of_ble_eq_true rfl, Nat.le_of_ble_eq_true rfl⟩ (Nat.le_of_ble_eq_true rfl) (ks2 := 0) (sl2 := 0) rfl rfl ⟨(Nat.le_of_ble_eq_true rfl), (Nat.le_of_ble_eq_true rfl)⟩ dX8_feed_4  (fun r3 M1 g2 => ?_)
  have h_a0 := h_a0.mono g2
  refine aw_ifneB (pc := 7) X 12 dX8_feed_7 (by decide) ?_ ?_
  · refine aw_aload_n (pc := 12) X 0 dX8_feed_12 rfl ?_
    refine gf_X8_133 (pc := 13) X dX8_feed_13 h_a0 ?_
    refine aw_iload_n (pc := 16) X 2 dX8_feed_16 rfl ?_
    refine aw_iadd (pc := 17) X dX8_feed_17 ?_
    refine aw_sipush (pc := 18) X (300 : Int32) dX8_feed_18 (by decide) ?_
    refine aw_icmple (pc := 21) X 27 dX8_feed_21 (by decide) ?_ ?_
    · refine aw_bipush (pc := 24) X (-3 : Int32) dX8_feed_24 (by decide) ?_
      exact aw_iret (pc := 26) X hr dX8_feed_26 (Nat.le_of_ble_eq_true rfl) (Nat.le_of_ble_eq_true rfl)
    · refine aw_iload_n (pc := 27) X 2 dX8_feed_27 rfl ?_
      refine aw_iconst (pc := 28) X (1 : Int32) dX8_feed_28 (by decide) ?_
      refine aw_isub (pc := 29) X dX8_feed_29 ?_
      refine aw_istoreV (pc := 30) X (fun y => [(4, .int y), (0, .ref (b + a0)), (1, .long v1), (3, .int v3)]) dX8_feed_30 (by decide) (fun _ => rfl) (fun i4 => ?_)
      refine aw_sub [1, 2, 0] rfl ?_
      exact t_X8_feed_L32 X hr FU a0 v1 i4 M1 h_a0
  · refine aw_iconst (pc := 10) X (-1 : Int32) dX8_feed_10 (by decide) ?_
    exact aw_iret (pc := 11) X hr dX8_feed_11 (Nat.le_of_ble_eq_true rfl) (Nat.le_of_ble_eq_true rfl))
