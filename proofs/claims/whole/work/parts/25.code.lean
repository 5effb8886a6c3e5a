/-! programs of the methods, and the rows that their bytecode answers so: written by wip/gen/gen.py out of the printed decode rows -/
/-! ReportBlocksModel.readGoing -/
def rm_X8_readGoing : Room := { frames := 3, cells := 0, slots := 0, locals := 63 }
theorem hd_X8_readGoing : jHd yX8_readGoing 0 := by unfold jHd; decide +kernel
def f_X8_readGoing_L30 (k4 : Nat → Int32 → Int32 → JM → Option (Unit × JM)) : Nat → Int32 → Int32 → JM → Option (Unit × JM) := fun a0 v1 u0 M => sv u0 fun i6 => sv (v1 + (1 : Int32)) fun i7 => if i6 = 0 then (k4 a0 i7 i6 M) else (if i7 = (6 : Int32) then (ob (f_X8_fails a0 (7 : Int32) ((gi M a0 9) - (1 : Int32)) M) fun _ M8 => k4 a0 i7 i6 M8) else (k4 a0 i7 i6 M))
set_option maxRecDepth 10000 in
set_option maxHeartbeats 4000000 in
theorem t_X8_readGoing_L30 {p : Program} {l : Launch} {e : Env} {s : State} {m : MethodId} {args : Array Value} {below : List Frame} {meth : Method} {c : Code} {D : va_G} {cs : JC} {b : Nat} (X : jX p c cX8_readGoing 3 s m args RX8 D cs b meth s.heap) (hr : meth.sig.returnType = Option.none) (k4 : Nat → Int32 → Int32 → JM → Option (Unit × JM)) (hk4 : ∀ (a0 : Nat) (v1 : Int32) (v2 : Int32) (M : JM), oty M a0 18 → AWO p l e rm_X8_readGoing s m args below meth c D cs b 3 s.heap (jE below D cs b evV args s rm_X8_readGoing.cells rm_X8_readGoing.slots) (k4 a0 v1 v2 M) M 0 0 [(0, .ref (b + a0)), (1, .int v1), (2, .int v2)] 4 []) : ∀ (a0 : Nat) (v1 : Int32) (u0 : Int32) (M : JM), oty M a0 18 → AWO p l e rm_X8_readGoing s m args below meth c D cs b 3 s.heap (jE below D cs b evV args s rm_X8_readGoing.cells rm_X8_readGoing.slots) (f_X8_readGoing_L30 k4 a0 v1 u0 M) M 0 0 [(0, .ref (b + a0)), (1, .int v1)] 30 [.int u0] := by
  intro a0 v1 u0 M h_a0
  refine aw_callq (F' := sv u0 fun i6 => sv (v1 + (1 : Int32)) fun i7 => if i6 = 0 then (k4 a0 i7 i6 M) else (if i7 = (6 : Int32) then (ob (f_X8_fails a0 (7 : Int32) ((gi M a0 9) - (1 : Int32)) M) fun _ M8 => k4 a0 i7 i6 M8) else (k4 a0 i7 i6 M))) rfl ?_
  refine aw_istoreV_n (pc := 30) X (fun y => [(2, .int y), (0, .ref (b + a0)), (1, .int v1)]) dX8_readGoing_30 (by decide) (fun _ => rfl) (fun i6 => ?_)
  refine aw_iincV (pc := 31) X (fun y => [(1, .int y), (2, .int i6), (0, .ref (b + a0))]) 2 (v := (v1 + (1 : Int32))) dX8_readGoing_31 rfl rfl (by decide) (fun _ => rfl) (fun i7 => ?_)
  refine aw_iload_n (pc := 34) X 1 dX8_readGoing_34 rfl ?_
  refine aw_ifeq (pc := 35) X 4 dX8_readGoing_35 (by decide) ?_ ?_
  · refine aw_sub [2, 0, 1] rfl ?_
    exact hk4 a0 i7 i6 M h_a0
  · refine aw_iload_n (pc := 38) X 0 dX8_readGoing_38 rfl ?_
    refine aw_bipush (pc := 39) X (6 : Int32) dX8_readGoing_39 (by decide) ?_
    refine aw_icmpne (pc := 41) X 4 dX8_readGoing_41 (by decide) ?_ ?_
    · refine aw_aload_n (pc := 44) X 2 dX8_readGoing_44 rfl ?_
      refine aw_bipush (pc := 45) X (7 : Int32) dX8_readGoing_45 (by decide) ?_
      refine aw_aload_n (pc := 47) X 2 dX8_readGoing_47 rfl ?_
      refine gf_X8_142 (pc := 48) X dX8_readGoing_48 h_a0 ?_
      refine aw_iconst (pc := 51) X (1 : Int32) dX8_readGoing_51 (by decide) ?_
      refine aw_isub (pc := 52) X dX8_readGoing_52 ?_
      refine cl_X8_148 (pc := 53) X ⟨Nat.le_of_ble_eq_true rfl, Nat.le_of_ble_eq_true rfl⟩ (Nat.le_of_ble_eq_true rfl) (ks2 := 0) (sl2 := 0) rfl rfl ⟨(Nat.le_of_ble_eq_true rfl), (Nat.le_of_ble_eq_true rfl)⟩ dX8_readGoing_53 h_a0 (fun M8 g9 => ?_)
      have h_a0 := h_a0.mono g9
      refine aw_goto (pc := 56) X 4 dX8_readGoing_56 (by decide) ?_
      refine aw_sub [2, 0, 1] rfl ?_
      exact hk4 a0 i7 i6 M8 h_a0
    · refine aw_sub [2, 0, 1] rfl ?_
      exact hk4 a0 i7 i6 M h_a0
def f_X8_readGoing_L4 : Nat → Nat → Int32 → Int32 → JM → Option (Unit × JM)
  | 0, _, _, _, _ => none
  | n + 1, a0, v1, v2, M => if v2 = 0 then (some ((), M)) else (if (gi M a0 11) = 0 then (ob (f_X8_takes a0 M) fun r5 M3 => if (r5 &&& (1 : Int32)) = (1 : Int32) then (f_X8_readGoing_L30 (f_X8_readGoing_L4 n) a0 v1 (1 : Int32) M3) else (f_X8_readGoing_L30 (f_X8_readGoing_L4 n) a0 v1 (0 : Int32) M3)) else (some ((), M)))
set_option maxRecDepth 10000 in
set_option maxHeartbeats 4000000 in
theorem t_X8_readGoing_L4 {p : Program} {l : Launch} {e : Env} {s : State} {m : MethodId} {args : Array Value} {below : List Frame} {meth : Method} {c : Code} {D : va_G} {cs : JC} {b : Nat} (X : jX p c cX8_readGoing 3 s m args RX8 D cs b meth s.heap) (hr : meth.sig.returnType = Option.none) : ∀ (n : Nat) (a0 : Nat) (v1 : Int32) (v2 : Int32) (M : JM), oty M a0 18 → AWO p l e rm_X8_readGoing s m args below meth c D cs b 3 s.heap (jE below D cs b evV args s rm_X8_readGoing.cells rm_X8_readGoing.slots) (f_X8_readGoing_L4 n a0 v1 v2 M) M 0 0 [(0, .ref (b + a0)), (1, .int v1), (2, .int v2)] 4 [] := by
  intro n
  induction n with
  | zero => intro a0 v1 v2 M h_a0; exact aw_none
  | succ n ih =>
    intro a0 v1 v2 M h_a0
    refine aw_callq (F' := if v2 = 0 then (some ((), M)) else (if (gi M a0 11) = 0 then (ob (f_X8_takes a0 M) fun r5 M3 => if (r5 &&& (1 : Int32)) = (1 : Int32) then (f_X8_readGoing_L30 (f_X8_readGoing_L4 n) a0 v1 (1 : Int32) M3) else (f_X8_readGoing_L30 (f_X8_readGoing_L4 n) a0 v1 (0 : Int32) M3)) else (some ((), M)))) rfl ?_
    refine aw_iload_n (pc := 4) X 2 dX8_readGoing_4 rfl ?_
    refine aw_ifeq (pc := 5) X 59 dX8_readGoing_5 (by decide) ?_ ?_
    · exact aw_vret (pc := 59) X hr dX8_readGoing_59 (Nat.le_of_ble_eq_true rfl) (Nat.le_of_ble_eq_true rfl)
    · refine aw_aload_n (pc := 8) X 0 dX8_readGoing_8 rfl ?_
      refine gf_X8_136 (pc := 9) X dX8_readGoing_9 h_a0 ?_
      refine aw_ifne (pc := 12) X 59 dX8_readGoing_12 (by decide) ?_ ?_
      · refine aw_aload_n (pc := 15) X 0 dX8_readGoing_15 rfl ?_
        refine cl_X8_162 (pc := 16) X ⟨Nat.le_of_ble_eq_true rfl, Nat.le_of_ble_eq_true rfl⟩ (Nat.le_of_ble_eq_true rfl) (ks2 := 0) (sl2 := 0) rfl rfl ⟨(Nat.le_of_ble_eq_true rfl), (Nat.le_of_ble_eq_true rfl)⟩ dX8_readGoing_16 h_a0 (fun r5 M3 g4 => ?_)
        have h_a0 := h_a0.mono g4
        refine aw_iconst (pc := 19) X (1 : Int32) dX8_readGoing_19 (by decide) ?_
        refine aw_iand (pc := 20) X dX8_readGoing_20 ?_
        refine aw_iconst (pc := 21) X (1 : Int32) dX8_readGoing_21 (by decide) ?_
        refine aw_icmpne (pc := 22) X 29 dX8_readGoing_22 (by decide) ?_ ?_
        · refine aw_iconst (pc := 25) X (1 : Int32) dX8_readGoing_25 (by decide) ?_
          refine aw_goto (pc := 26) X 30 dX8_readGoing_26 (by decide) ?_
          refine aw_sub [0, 1] rfl ?_
          exact t_X8_readGoing_L30 X hr (f_X8_readGoing_L4 n) ih a0 v1 (1 : Int32) M3 h_a0
        · refine aw_iconst (pc := 29) X (0 : Int32) dX8_readGoing_29 (by decide) ?_
          refine aw_sub [0, 1] rfl ?_
          exact t_X8_readGoing_L30 X hr (f_X8_readGoing_L4 n) ih a0 v1 (0 : Int32) M3 h_a0
      · exact aw_vret (pc := 59) X hr dX8_readGoing_59 (Nat.le_of_ble_eq_true rfl) (Nat.le_of_ble_eq_true rfl)
def f_X8_readGoing (a0 : Nat) (M : JM) : Option (Unit × JM) := sv (0 : Int32) fun i1 => sv (1 : Int32) fun i2 => f_X8_readGoing_L4 FU a0 i1 i2 M
set_option maxRecDepth 10000 in
set_option maxHeartbeats 4000000 in
theorem t_X8_readGoing {l : Launch} {D : va_G} {cs : JC} {b : Nat} (a0 : Nat) (M : JM) (h_a0 : oty M a0 18) : ∀ q, f_X8_readGoing a0 M = some q → CTy l yX8_readGoing (.code yX8_readGoing cX8_readGoing 3 (Option.none) :: GB) rm_X8_readGoing D cs b evV [.ref (b + a0)] M rm_X8_readGoing.cells rm_X8_readGoing.slots q := fun q hq => ct_of [(0, .ref (b + a0))] rfl rfl (Nat.le_of_ble_eq_true rfl) hq (fun p e s m args below meth c X hr hin => by
  refine aw_callq (F' := sv (0 : Int32) fun i1 => sv (1 : Int32) fun i2 => f_X8_readGoing_L4 FU a0 i1 i2 M) rfl ?_
  refine aw_iconst (pc := 0) X (0 : Int32) dX8_readGoing_0 (by decide) ?_
  refine aw_istoreV_n (pc := 1) X (fun y => [(1, .int y), (0, .ref (b + a0))]) dX8_readGoing_1 (by decide) (fun _ => rfl) (fun i1 => ?_)
  refine aw_iconst (pc := 2) X (1 : Int32) dX8_readGoing_2 (by decide) ?_
  refine aw_istoreV_n (pc := 3) X (fun y => [(2, .int y), (1, .int i1), (0, .ref (b + a0))]) dX8_readGoing_3 (by decide) (fun _ => rfl) (fun i2 => ?_)
  refine aw_sub [2, 1, 0] rfl ?_
  exact t_X8_readGoing_L4 X hr FU a0 i1 i2 M h_a0)
/-! ReportBlocksModel.readMade -/
def rm_X8_readMade : Room := { frames := 4, cells := 0, slots := 0, locals := 88 }
theorem hd_X8_readMade : jHd yX8_readMade 2 := by unfold jHd; decide +kernel
theorem cl_X8_169 {ρ : Type} {l : Launch} {p : Program} {e : Env} {R : Room} {s : State} {m : MethodId} {args : Array Value} {below : List Frame} {meth : Method} {c : Code} {D : va_G} {cs : JC} {b nL : Nat} {H0 : Heap} {Qf : ρ × JM → State → Prop} {M : JM} {ks sl : Nat} {lv : List (Nat × Value)} {pc : Nat} {st : List Value} {cc : ByteArray} (X : jX p c cc nL s m args RX8 D cs b meth H0) {z0 : Nat} {z1 : Int32} {K : JM → Option (ρ × JM)} (hrm : jRm rm_X8_readBits 6 R) (hW : (st.map fun v => v.category).sum ≤ 8) {ks2 sl2 : Nat} (hk2 : ks + rm_X8_readBits.cells = ks2) (hs2 : sl + rm_X8_readBits.slots = sl2) (hroom : ks2 ≤ R.cells ∧ sl2 ≤ R.slots) (hdg : decode cc pc = .ok (.invokevirtual 169, 3)) (h0 : oty M z0 18) (kk : ∀ (M2 : JM), gn M ≤ gn M2 → AWO p l e R s m args below meth c D cs b nL H0 Qf (K M2) M2 ks2 sl2 lv (pc + 3) (st)) : AWO p l e R s m args below meth c D cs b nL H0 Qf (ob (f_X8_readBits z0 z1 M) (fun _ => K)) M ks sl lv pc (.int z1 :: .ref (b + z0) :: st) := by
  subst hk2
  subst hs2
  exact aw_callV (ci := 8) X [.int z1] st rfl rfl wl_X8_169 wi_X8_readBits wv_X8_readBits wc_X8_readBits wn_X8 (n := 1) hd_X8_readBits rfl hrm hW hroom hdg h0 (t_X8_readBits z0 z1 M h0) (fun _ M2 g _ => kk M2 g)
def f_X8_readMade_L102 (k65 : Nat → Int32 → Int32 → Int32 → JM → Option (Unit × JM)) : Nat → Int32 → Int32 → Int32 → JM → Option (Unit × JM) := fun a0 v1 v2 v3 M => sv (v3 + (1 : Int32)) fun i6 => k65 a0 v1 v2 i6 M
set_option maxRecDepth 10000 in
set_option maxHeartbeats 4000000 in
theorem t_X8_readMade_L102 {p : Program} {l : Launch} {e : Env} {s : State} {m : MethodId} {args : Array Value} {below : List Frame} {meth : Method} {c : Code} {D : va_G} {cs : JC} {b : Nat} (X : jX p c cX8_readMade 4 s m args RX8 D cs b meth s.heap) (hr : meth.sig.returnType = Option.none) (k65 : Nat → Int32 → Int32 → Int32 → JM → Option (Unit × JM)) (hk65 : ∀ (a0 : Nat) (v1 : Int32) (v2 : Int32) (v3 : Int32) (M : JM), oty M a0 18 → AWO p l e rm_X8_readMade s m args below meth c D cs b 4 s.heap (jE below D cs b evV args s rm_X8_readMade.cells rm_X8_readMade.slots) (k65 a0 v1 v2 v3 M) M 0 0 [(0, .ref (b + a0)), (1, .int v1), (2, .int v2), (3, .int v3)] 65 []) : ∀ (a0 : Nat) (v1 : Int32) (v2 : Int32) (v3 : Int32) (M : JM), oty M a0 18 → AWO p l e rm_X8_readMade s m args below meth c D cs b 4 s.heap (jE below D cs b evV args s rm_X8_readMade.cells rm_X8_readMade.slots) (f_X8_readMade_L102 k65 a0 v1 v2 v3 M) M 0 0 [(0, .ref (b + a0)), (1, .int v1), (2, .int v2), (3, .int v3)] 102 [] := by
  intro a0 v1 v2 v3 M h_a0
  refine aw_callq (F' := sv (v3 + (1 : Int32)) fun i6 => k65 a0 v1 v2 i6 M) rfl ?_
  refine aw_iincV (pc := 102) X (fun y => [(3, .int y), (0, .ref (b + a0)), (1, .int v1), (2, .int v2)]) 3 (v := (v3 + (1 : Int32))) dX8_readMade_102 rfl rfl (by decide) (fun _ => rfl) (fun i6 => ?_)
  refine aw_goto (pc := 105) X 65 dX8_readMade_105 (by decide) ?_
  refine aw_sub [1, 2, 3, 0] rfl ?_
  exact hk65 a0 v1 v2 i6 M h_a0
def f_X8_readMade_L65 : Nat → Nat → Int32 → Int32 → Int32 → JM → Option (Unit × JM)
  | 0, _, _, _, _, _ => none
  | n + 1, a0, v1, v2, v3, M => if v3 < (14 : Int32) then (orf (gr M a0 24) fun r5 => if 0 ≤ (v3 + (1 : Int32)) ∧ (v3 + (1 : Int32)) < ln r5 then (if (gi M r5 (v3 + (1 : Int32))) = 0 then (f_X8_readMade_L102 (f_X8_readMade_L65 n) a0 v1 v2 v3 M) else (orf (gr M a0 4) fun r7 => if 0 ≤ (((14 : Int32) * (((22 : Int32) * v1) + v2)) + v3) ∧ (((14 : Int32) * (((22 : Int32) * v1) + v2)) + v3) < ln r7 then (ob (f_X8_needs a0 (gi M r7 (((14 : Int32) * (((22 : Int32) * v1) + v2)) + v3)) M) fun _ M8 => f_X8_readMade_L102 (f_X8_readMade_L65 n) a0 v1 v2 v3 M8) else none)) else none) else (some ((), M))
set_option maxRecDepth 10000 in
set_option maxHeartbeats 4000000 in
theorem t_X8_readMade_L65 {p : Program} {l : Launch} {e : Env} {s : State} {m : MethodId} {args : Array Value} {below : List Frame} {meth : Method} {c : Code} {D : va_G} {cs : JC} {b : Nat} (X : jX p c cX8_readMade 4 s m args RX8 D cs b meth s.heap) (hr : meth.sig.returnType = Option.none) : ∀ (n : Nat) (a0 : Nat) (v1 : Int32) (v2 : Int32) (v3 : Int32) (M : JM), oty M a0 18 → AWO p l e rm_X8_readMade s m args below meth c D cs b 4 s.heap (jE below D cs b evV args s rm_X8_readMade.cells rm_X8_readMade.slots) (f_X8_readMade_L65 n a0 v1 v2 v3 M) M 0 0 [(0, .ref (b + a0)), (1, .int v1), (2, .int v2), (3, .int v3)] 65 [] := by
  intro n
  induction n with
  | zero => intro a0 v1 v2 v3 M h_a0; exact aw_none
  | succ n ih =>
    intro a0 v1 v2 v3 M h_a0
    refine aw_callq (F' := if v3 < (14 : Int32) then (orf (gr M a0 24) fun r5 => if 0 ≤ (v3 + (1 : Int32)) ∧ (v3 + (1 : Int32)) < ln r5 then (if (gi M r5 (v3 + (1 : Int32))) = 0 then (f_X8_readMade_L102 (f_X8_readMade_L65 n) a0 v1 v2 v3 M) else (orf (gr M a0 4) fun r7 => if 0 ≤ (((14 : Int32) * (((22 : Int32) * v1) + v2)) + v3) ∧ (((14 : Int32) * (((22 : Int32) * v1) + v2)) + v3) < ln r7 then (ob (f_X8_needs a0 (gi M r7 (((14 : Int32) * (((22 : Int32) * v1) + v2)) + v3)) M) fun _ M8 => f_X8_readMade_L102 (f_X8_readMade_L65 n) a0 v1 v2 v3 M8) else none)) else none) else (some ((), M))) rfl ?_
    refine aw_iload_n (pc := 65) X 3 dX8_readMade_65 rfl ?_
    refine aw_bipush (pc := 66) X (14 : Int32) dX8_readMade_66 (by decide) ?_
    refine aw_icmpge (pc := 68) X 108 dX8_readMade_68 (by decide) ?_ ?_
    · refine aw_aload_n (pc := 71) X 0 dX8_readMade_71 rfl ?_
      refine gf_X8_52 (pc := 72) X dX8_readMade_72 h_a0 (fun r5 h_r5 => ?_)
      refine aw_iload_n (pc := 75) X 3 dX8_readMade_75 rfl ?_
      refine aw_iconst (pc := 76) X (1 : Int32) dX8_readMade_76 (by decide) ?_
      refine aw_iadd (pc := 77) X dX8_readMade_77 ?_
      refine aw_zald (pc := 78) X dX8_readMade_78 h_r5 ?_
      refine aw_ifeq (pc := 79) X 102 dX8_readMade_79 (by decide) ?_ ?_
      · refine aw_sub [0, 1, 2, 3] rfl ?_
        exact t_X8_readMade_L102 X hr (f_X8_readMade_L65 n) ih a0 v1 v2 v3 M h_a0
      · refine aw_aload_n (pc := 82) X 0 dX8_readMade_82 rfl ?_
        refine aw_aload_n (pc := 83) X 0 dX8_readMade_83 rfl ?_
        refine gf_X8_19 (pc := 84) X dX8_readMade_84 h_a0 (fun r7 h_r7 => ?_)
        refine aw_bipush (pc := 87) X (14 : Int32) dX8_readMade_87 (by decide) ?_
        refine aw_bipush (pc := 89) X (22 : Int32) dX8_readMade_89 (by decide) ?_
        refine aw_iload_n (pc := 91) X 1 dX8_readMade_91 rfl ?_
        refine aw_imul (pc := 92) X dX8_readMade_92 ?_
        refine aw_iload_n (pc := 93) X 2 dX8_readMade_93 rfl ?_
        refine aw_iadd (pc := 94) X dX8_readMade_94 ?_
        refine aw_imul (pc := 95) X dX8_readMade_95 ?_
        refine aw_iload_n (pc := 96) X 3 dX8_readMade_96 rfl ?_
        refine aw_iadd (pc := 97) X dX8_readMade_97 ?_
        refine aw_iald (pc := 98) X dX8_readMade_98 h_r7 ?_
        refine cl_X8_152 (pc := 99) X ⟨Nat.le_of_ble_eq_true rfl, Nat.le_of_ble_eq_true rfl⟩ (Nat.le_of_ble_eq_true rfl) (ks2 := 0) (sl2 := 0) rfl rfl ⟨(Nat.le_of_ble_eq_true rfl), (Nat.le_of_ble_eq_true rfl)⟩ dX8_readMade_99 h_a0 (fun M8 g9 => ?_)
        have h_a0 := h_a0.mono g9
        refine aw_sub [0, 1, 2, 3] rfl ?_
        exact t_X8_readMade_L102 X hr (f_X8_readMade_L65 n) ih a0 v1 v2 v3 M8 h_a0
    · exact aw_vret (pc := 108) X hr dX8_readMade_108 (Nat.le_of_ble_eq_true rfl) (Nat.le_of_ble_eq_true rfl)
def f_X8_readMade_L63 : Nat → Int32 → Int32 → JM → Option (Unit × JM) := fun a0 v1 v2 M => sv (0 : Int32) fun i4 => f_X8_readMade_L65 FU a0 v1 v2 i4 M
set_option maxRecDepth 10000 in
set_option maxHeartbeats 4000000 in
theorem t_X8_readMade_L63 {p : Program} {l : Launch} {e : Env} {s : State} {m : MethodId} {args : Array Value} {below : List Frame} {meth : Method} {c : Code} {D : va_G} {cs : JC} {b : Nat} (X : jX p c cX8_readMade 4 s m args RX8 D cs b meth s.heap) (hr : meth.sig.returnType = Option.none) : ∀ (a0 : Nat) (v1 : Int32) (v2 : Int32) (M : JM), oty M a0 18 → AWO p l e rm_X8_readMade s m args below meth c D cs b 4 s.heap (jE below D cs b evV args s rm_X8_readMade.cells rm_X8_readMade.slots) (f_X8_readMade_L63 a0 v1 v2 M) M 0 0 [(0, .ref (b + a0)), (1, .int v1), (2, .int v2)] 63 [] := by
  intro a0 v1 v2 M h_a0
  refine aw_callq (F' := sv (0 : Int32) fun i4 => f_X8_readMade_L65 FU a0 v1 v2 i4 M) rfl ?_
  refine aw_iconst (pc := 63) X (0 : Int32) dX8_readMade_63 (by decide) ?_
  refine aw_istoreV_n (pc := 64) X (fun y => [(3, .int y), (0, .ref (b + a0)), (1, .int v1), (2, .int v2)]) dX8_readMade_64 (by decide) (fun _ => rfl) (fun i4 => ?_)
  refine aw_sub [1, 2, 3, 0] rfl ?_
  exact t_X8_readMade_L65 X hr FU a0 v1 v2 i4 M h_a0
def f_X8_readMade_L57 (k7 : Nat → Int32 → Int32 → Int32 → JM → Option (Unit × JM)) : Nat → Int32 → Int32 → Int32 → JM → Option (Unit × JM) := fun a0 v1 v2 v3 M => sv (v3 + (1 : Int32)) fun i11 => k7 a0 v1 v2 i11 M
set_option maxRecDepth 10000 in
set_option maxHeartbeats 4000000 in
theorem t_X8_readMade_L57 {p : Program} {l : Launch} {e : Env} {s : State} {m : MethodId} {args : Array Value} {below : List Frame} {meth : Method} {c : Code} {D : va_G} {cs : JC} {b : Nat} (X : jX p c cX8_readMade 4 s m args RX8 D cs b meth s.heap) (hr : meth.sig.returnType = Option.none) (k7 : Nat → Int32 → Int32 → Int32 → JM → Option (Unit × JM)) (hk7 : ∀ (a0 : Nat) (v1 : Int32) (v2 : Int32) (v3 : Int32) (M : JM), oty M a0 18 → AWO p l e rm_X8_readMade s m args below meth c D cs b 4 s.heap (jE below D cs b evV args s rm_X8_readMade.cells rm_X8_readMade.slots) (k7 a0 v1 v2 v3 M) M 0 0 [(0, .ref (b + a0)), (1, .int v1), (2, .int v2), (3, .int v3)] 7 []) : ∀ (a0 : Nat) (v1 : Int32) (v2 : Int32) (v3 : Int32) (M : JM), oty M a0 18 → AWO p l e rm_X8_readMade s m args below meth c D cs b 4 s.heap (jE below D cs b evV args s rm_X8_readMade.cells rm_X8_readMade.slots) (f_X8_readMade_L57 k7 a0 v1 v2 v3 M) M 0 0 [(0, .ref (b + a0)), (1, .int v1), (2, .int v2), (3, .int v3)] 57 [] := by
  intro a0 v1 v2 v3 M h_a0
  refine aw_callq (F' := sv (v3 + (1 : Int32)) fun i11 => k7 a0 v1 v2 i11 M) rfl ?_
  refine aw_iincV (pc := 57) X (fun y => [(3, .int y), (0, .ref (b + a0)), (1, .int v1), (2, .int v2)]) 3 (v := (v3 + (1 : Int32))) dX8_readMade_57 rfl rfl (by decide) (fun _ => rfl) (fun i11 => ?_)
  refine aw_goto (pc := 60) X 7 dX8_readMade_60 (by decide) ?_
  refine aw_sub [1, 2, 3, 0] rfl ?_
  exact hk7 a0 v1 v2 i11 M h_a0
theorem gf_X8_156 {ρ : Type} {l : Launch} {p : Program} {e : Env} {R : Room} {s : State} {m : MethodId} {args : Array Value} {below : List Frame} {meth : Method} {c : Code} {D : va_G} {cs : JC} {b nL : Nat} {H0 : Heap} {Qf : ρ × JM → State → Prop} {M : JM} {ks sl : Nat} {lv : List (Nat × Value)} {pc : Nat} {st : List Value} {cc : ByteArray} {k : Nat} (X : jX p c cc nL s m args RX8 D cs b meth H0) {F : Option (ρ × JM)} (hdg : decode cc pc = .ok (.getfield 156, 3)) (ho : oty M k 18) (kk : AWO p l e R s m args below meth c D cs b nL H0 Qf F M ks sl lv (pc + 3) (.int (gi M k 43) :: st)) : AWO p l e R s m args below meth c D cs b nL H0 Qf F M ks sl lv pc (.ref (b + k) :: st) := aw_getI (ci := 8) X 43 rfl gy_X8 (by decide) rfl rfl wf_X8_156 hdg ho kk
def f_X8_readMade_L7 : Nat → Nat → Int32 → Int32 → Int32 → JM → Option (Unit × JM)
  | 0, _, _, _, _, _ => none
  | n + 1, a0, v1, v2, v3, M => if v3 < (14 : Int32) then (orf (gr M a0 24) fun r10 => if 0 ≤ (v3 + (1 : Int32)) ∧ (v3 + (1 : Int32)) < ln r10 then (if (gi M r10 (v3 + (1 : Int32))) = 0 then (f_X8_readMade_L57 (f_X8_readMade_L7 n) a0 v1 v2 v3 M) else (orf (gr M a0 4) fun r12 => if 0 ≤ (((14 : Int32) * (((22 : Int32) * v1) + v2)) + v3) ∧ (((14 : Int32) * (((22 : Int32) * v1) + v2)) + v3) < ln r12 then (if (gi M r12 (((14 : Int32) * (((22 : Int32) * v1) + v2)) + v3)) = 0 then (ob (f_X8_fails a0 (5 : Int32) ((gi M a0 43) + (v3 / (7 : Int32))) M) fun _ M13 => f_X8_readMade_L57 (f_X8_readMade_L7 n) a0 v1 v2 v3 M13) else (f_X8_readMade_L57 (f_X8_readMade_L7 n) a0 v1 v2 v3 M)) else none)) else none) else (f_X8_readMade_L63 a0 v1 v2 M)
set_option maxRecDepth 10000 in
set_option maxHeartbeats 4000000 in
theorem t_X8_readMade_L7 {p : Program} {l : Launch} {e : Env} {s : State} {m : MethodId} {args : Array Value} {below : List Frame} {meth : Method} {c : Code} {D : va_G} {cs : JC} {b : Nat} (X : jX p c cX8_readMade 4 s m args RX8 D cs b meth s.heap) (hr : meth.sig.returnType = Option.none) : ∀ (n : Nat) (a0 : Nat) (v1 : Int32) (v2 : Int32) (v3 : Int32) (M : JM), oty M a0 18 → AWO p l e rm_X8_readMade s m args below meth c D cs b 4 s.heap (jE below D cs b evV args s rm_X8_readMade.cells rm_X8_readMade.slots) (f_X8_readMade_L7 n a0 v1 v2 v3 M) M 0 0 [(0, .ref (b + a0)), (1, .int v1), (2, .int v2), (3, .int v3)] 7 [] := by
  intro n
  induction n with
  | zero => intro a0 v1 v2 v3 M h_a0; exact aw_none
  | succ n ih =>
    intro a0 v1 v2 v3 M h_a0
    refine aw_callq (F' := if v3 < (14 : Int32) then (orf (gr M a0 24) fun r10 => if 0 ≤ (v3 + (1 : Int32)) ∧ (v3 + (1 : Int32)) < ln r10 then (if (gi M r10 (v3 + (1 : Int32))) = 0 then (f_X8_readMade_L57 (f_X8_readMade_L7 n) a0 v1 v2 v3 M) else (orf (gr M a0 4) fun r12 => if 0 ≤ (((14 : Int32) * (((22 : Int32) * v1) + v2)) + v3) ∧ (((14 : Int32) * (((22 : Int32) * v1) + v2)) + v3) < ln r12 then (if (gi M r12 (((14 : Int32) * (((22 : Int32) * v1) + v2)) + v3)) = 0 then (ob (f_X8_fails a0 (5 : Int32) ((gi M a0 43) + (v3 / (7 : Int32))) M) fun _ M13 => f_X8_readMade_L57 (f_X8_readMade_L7 n) a0 v1 v2 v3 M13) else (f_X8_readMade_L57 (f_X8_readMade_L7 n) a0 v1 v2 v3 M)) else none)) else none) else (f_X8_readMade_L63 a0 v1 v2 M)) rfl ?_
    refine aw_iload_n (pc := 7) X 3 dX8_readMade_7 rfl ?_
    refine aw_bipush (pc := 8) X (14 : Int32) dX8_readMade_8 (by decide) ?_
    refine aw_icmpge (pc := 10) X 63 dX8_readMade_10 (by decide) ?_ ?_
    · refine aw_aload_n (pc := 13) X 0 dX8_readMade_13 rfl ?_
      refine gf_X8_52 (pc := 14) X dX8_readMade_14 h_a0 (fun r10 h_r10 => ?_)
      refine aw_iload_n (pc := 17) X 3 dX8_readMade_17 rfl ?_
      refine aw_iconst (pc := 18) X (1 : Int32) dX8_readMade_18 (by decide) ?_
      refine aw_iadd (pc := 19) X dX8_readMade_19 ?_
      refine aw_zald (pc := 20) X dX8_readMade_20 h_r10 ?_
      refine aw_ifeq (pc := 21) X 57 dX8_readMade_21 (by decide) ?_ ?_
      · refine aw_sub [0, 1, 2, 3] rfl ?_
        exact t_X8_readMade_L57 X hr (f_X8_readMade_L7 n) ih a0 v1 v2 v3 M h_a0
      · refine aw_aload_n (pc := 24) X 0 dX8_readMade_24 rfl ?_
        refine gf_X8_19 (pc := 25) X dX8_readMade_25 h_a0 (fun r12 h_r12 => ?_)
        refine aw_bipush (pc := 28) X (14 : Int32) dX8_readMade_28 (by decide) ?_
        refine aw_bipush (pc := 30) X (22 : Int32) dX8_readMade_30 (by decide) ?_
        refine aw_iload_n (pc := 32) X 1 dX8_readMade_32 rfl ?_
        refine aw_imul (pc := 33) X dX8_readMade_33 ?_
        refine aw_iload_n (pc := 34) X 2 dX8_readMade_34 rfl ?_
        refine aw_iadd (pc := 35) X dX8_readMade_35 ?_
        refine aw_imul (pc := 36) X dX8_readMade_36 ?_
        refine aw_iload_n (pc := 37) X 3 dX8_readMade_37 rfl ?_
        refine aw_iadd (pc := 38) X dX8_readMade_38 ?_
        refine aw_iald (pc := 39) X dX8_readMade_39 h_r12 ?_
        refine aw_ifne (pc := 40) X 57 dX8_readMade_40 (by decide) ?_ ?_
        · refine aw_aload_n (pc := 43) X 0 dX8_readMade_43 rfl ?_
          refine aw_iconst (pc := 44) X (5 : Int32) dX8_readMade_44 (by decide) ?_
          refine aw_aload_n (pc := 45) X 0 dX8_readMade_45 rfl ?_
          refine gf_X8_156 (pc := 46) X dX8_readMade_46 h_a0 ?_
          refine aw_iload_n (pc := 49) X 3 dX8_readMade_49 rfl ?_
          refine aw_bipush (pc := 50) X (7 : Int32) dX8_readMade_50 (by decide) ?_
          refine aw_idivK (pc := 52) X dX8_readMade_52 (by decide) ?_
          refine aw_iadd (pc := 53) X dX8_readMade_53 ?_
          refine cl_X8_148 (pc := 54) X ⟨Nat.le_of_ble_eq_true rfl, Nat.le_of_ble_eq_true rfl⟩ (Nat.le_of_ble_eq_true rfl) (ks2 := 0) (sl2 := 0) rfl rfl ⟨(Nat.le_of_ble_eq_true rfl), (Nat.le_of_ble_eq_true rfl)⟩ dX8_readMade_54 h_a0 (fun M13 g14 => ?_)
          have h_a0 := h_a0.mono g14
          refine aw_sub [0, 1, 2, 3] rfl ?_
          exact t_X8_readMade_L57 X hr (f_X8_readMade_L7 n) ih a0 v1 v2 v3 M13 h_a0
        · refine aw_sub [0, 1, 2, 3] rfl ?_
          exact t_X8_readMade_L57 X hr (f_X8_readMade_L7 n) ih a0 v1 v2 v3 M h_a0
    · refine aw_sub [0, 1, 2] rfl ?_
      exact t_X8_readMade_L63 X hr a0 v1 v2 M h_a0
def f_X8_readMade (a0 : Nat) (v1 : Int32) (v2 : Int32) (M : JM) : Option (Unit × JM) := ob (f_X8_readBits a0 (2 : Int32) M) fun _ M1 => sv (0 : Int32) fun i3 => f_X8_readMade_L7 FU a0 v1 v2 i3 M1
set_option maxRecDepth 10000 in
set_option maxHeartbeats 4000000 in
theorem t_X8_readMade {l : Launch} {D : va_G} {cs : JC} {b : Nat} (a0 : Nat) (v1 : Int32) (v2 : Int32) (M : JM) (h_a0 : oty M a0 18) : ∀ q, f_X8_readMade a0 v1 v2 M = some q → CTy l yX8_readMade (.code yX8_readMade cX8_readMade 4 (Option.none) :: GB) rm_X8_readMade D cs b evV [.ref (b + a0), .int v1, .int v2] M rm_X8_readMade.cells rm_X8_readMade.slots q := fun q hq => ct_of [(0, .ref (b + a0)), (1, .int v1), (2, .int v2)] rfl rfl (Nat.le_of_ble_eq_true rfl) hq (fun p e s m args below meth c X hr hin => by
  refine aw_callq (F' := ob (f_X8_readBits a0 (2 : Int32) M) fun _ M1 => sv (0 : Int32) fun i3 => f_X8_readMade_L7 FU a0 v1 v2 i3 M1) rfl ?_
  refine aw_aload_n (pc := 0) X 0 dX8_readMade_0 rfl ?_
  refine aw_iconst (pc := 1) X (2 : Int32) dX8_readMade_1 (by decide) ?_
  refine cl_X8_169 (pc := 2) X ⟨Nat.le_of_ble_eq_true rfl, Nat.le_of_ble_eq_true rfl⟩ (Nat.le_of_ble_eq_true rfl) (ks2 := 0) (sl2 := 0) rfl rfl ⟨(Nat.le_of_ble_eq_true rfl), (Nat.le_of_ble_eq_true rfl)⟩ dX8_readMade_2 h_a0 (fun M1 g2 => ?_)
  have h_a0 := h_a0.mono g2
  refine aw_iconst (pc := 5) X (0 : Int32) dX8_readMade_5 (by decide) ?_
  refine aw_istoreV_n (pc := 6) X (fun y => [(3, .int y), (0, .ref (b + a0)), (1, .int v1), (2, .int v2)]) dX8_readMade_6 (by decide) (fun _ => rfl) (fun i3 => ?_)
  refine aw_sub [1, 2, 3, 0] rfl ?_
  exact t_X8_readMade_L7 X hr FU a0 v1 v2 i3 M1 h_a0)
/-! ReportBlocksModel.readItem -/
def rm_X8_readItem : Room := { frames := 5, cells := 0, slots := 0, locals := 111 }
theorem hd_X8_readItem : jHd yX8_readItem 2 := by unfold jHd; decide +kernel
theorem cl_X8_172 {ρ : Type} {l : Launch} {p : Program} {e : Env} {R : Room} {s : State} {m : MethodId} {args : Array Value} {below : List Frame} {meth : Method} {c : Code} {D : va_G} {cs : JC} {b nL : Nat} {H0 : Heap} {Qf : ρ × JM → State → Prop} {M : JM} {ks sl : Nat} {lv : List (Nat × Value)} {pc : Nat} {st : List Value} {cc : ByteArray} (X : jX p c cc nL s m args RX8 D cs b meth H0) {z0 : Nat} {K : JM → Option (ρ × JM)} (hrm : jRm rm_X8_readGoing 3 R) (hW : (st.map fun v => v.category).sum ≤ 8) {ks2 sl2 : Nat} (hk2 : ks + rm_X8_readGoing.cells = ks2) (hs2 : sl + rm_X8_readGoing.slots = sl2) (hroom : ks2 ≤ R.cells ∧ sl2 ≤ R.slots) (hdg : decode cc pc = .ok (.invokevirtual 172, 3)) (h0 : oty M z0 18) (kk : ∀ (M2 : JM), gn M ≤ gn M2 → AWO p l e R s m args below meth c D cs b nL H0 Qf (K M2) M2 ks2 sl2 lv (pc + 3) (st)) : AWO p l e R s m args below meth c D cs b nL H0 Qf (ob (f_X8_readGoing z0 M) (fun _ => K)) M ks sl lv pc (.ref (b + z0) :: st) := by
  subst hk2
  subst hs2
  exact aw_callV (ci := 8) X [] st rfl rfl wl_X8_172 wi_X8_readGoing wv_X8_readGoing wc_X8_readGoing wn_X8 (n := 0) hd_X8_readGoing rfl hrm hW hroom hdg h0 (t_X8_readGoing z0 M h0) (fun _ M2 g _ => kk M2 g)
def f_X8_readItem_L98 : Nat → Int32 → Int32 → JM → Option (Unit × JM) := fun a0 v3 v4 M => ob (f_X8_needs a0 (v4 * v3) M) fun _ M12 => some ((), M12)
set_option maxRecDepth 10000 in
set_option maxHeartbeats 4000000 in
theorem t_X8_readItem_L98 {p : Program} {l : Launch} {e : Env} {s : State} {m : MethodId} {args : Array Value} {below : List Frame} {meth : Method} {c : Code} {D : va_G} {cs : JC} {b : Nat} (X : jX p c cX8_readItem 5 s m args RX8 D cs b meth s.heap) (hr : meth.sig.returnType = Option.none) : ∀ (a0 : Nat) (v3 : Int32) (v4 : Int32) (M : JM), oty M a0 18 → AWO p l e rm_X8_readItem s m args below meth c D cs b 5 s.heap (jE below D cs b evV args s rm_X8_readItem.cells rm_X8_readItem.slots) (f_X8_readItem_L98 a0 v3 v4 M) M 0 0 [(0, .ref (b + a0)), (3, .int v3), (4, .int v4)] 98 [] := by
  intro a0 v3 v4 M h_a0
  refine aw_callq (F' := ob (f_X8_needs a0 (v4 * v3) M) fun _ M12 => some ((), M12)) rfl ?_
  refine aw_aload_n (pc := 98) X 0 dX8_readItem_98 rfl ?_
  refine aw_iload (pc := 99) X 2 dX8_readItem_99 rfl ?_
  refine aw_iload_n (pc := 101) X 1 dX8_readItem_101 rfl ?_
  refine aw_imul (pc := 102) X dX8_readItem_102 ?_
  refine cl_X8_152 (pc := 103) X ⟨Nat.le_of_ble_eq_true rfl, Nat.le_of_ble_eq_true rfl⟩ (Nat.le_of_ble_eq_true rfl) (ks2 := 0) (sl2 := 0) rfl rfl ⟨(Nat.le_of_ble_eq_true rfl), (Nat.le_of_ble_eq_true rfl)⟩ dX8_readItem_103 h_a0 (fun M12 g13 => ?_)
  have h_a0 := h_a0.mono g13
  refine aw_goto (pc := 106) X 115 dX8_readItem_106 (by decide) ?_
  exact aw_vret (pc := 115) X hr dX8_readItem_115 (Nat.le_of_ble_eq_true rfl) (Nat.le_of_ble_eq_true rfl)
theorem cl_X8_175 {ρ : Type} {l : Launch} {p : Program} {e : Env} {R : Room} {s : State} {m : MethodId} {args : Array Value} {below : List Frame} {meth : Method} {c : Code} {D : va_G} {cs : JC} {b nL : Nat} {H0 : Heap} {Qf : ρ × JM → State → Prop} {M : JM} {ks sl : Nat} {lv : List (Nat × Value)} {pc : Nat} {st : List Value} {cc : ByteArray} (X : jX p c cc nL s m args RX8 D cs b meth H0) {z0 : Nat} {z1 : Int32} {z2 : Int32} {K : JM → Option (ρ × JM)} (hrm : jRm rm_X8_readMade 4 R) (hW : (st.map fun v => v.category).sum ≤ 8) {ks2 sl2 : Nat} (hk2 : ks + rm_X8_readMade.cells = ks2) (hs2 : sl + rm_X8_readMade.slots = sl2) (hroom : ks2 ≤ R.cells ∧ sl2 ≤ R.slots) (hdg : decode cc pc = .ok (.invokevirtual 175, 3)) (h0 : oty M z0 18) (kk : ∀ (M2 : JM), gn M ≤ gn M2 → AWO p l e R s m args below meth c D cs b nL H0 Qf (K M2) M2 ks2 sl2 lv (pc + 3) (st)) : AWO p l e R s m args below meth c D cs b nL H0 Qf (ob (f_X8_readMade z0 z1 z2 M) (fun _ => K)) M ks sl lv pc (.int z2 :: .int z1 :: .ref (b + z0) :: st) := by
  subst hk2
  subst hs2
  exact aw_callV (ci := 8) X [.int z1, .int z2] st rfl rfl wl_X8_175 wi_X8_readMade wv_X8_readMade wc_X8_readMade wn_X8 (n := 2) hd_X8_readMade rfl hrm hW hroom hdg h0 (t_X8_readMade z0 z1 z2 M h0) (fun _ M2 g _ => kk M2 g)
def f_X8_readItem (a0 : Nat) (v1 : Int32) (v2 : Int32) (M : JM) : Option (Unit × JM) := orf (gr M a0 3) fun r1 => if 0 ≤ (((22 : Int32) * v1) + v2) ∧ (((22 : Int32) * v1) + v2) < ln r1 then (sv (gi M r1 (((22 : Int32) * v1) + v2)) fun i2 => orf (gr M a0 2) fun r3 => if 0 ≤ (((22 : Int32) * v1) + v2) ∧ (((22 : Int32) * v1) + v2) < ln r3 then (if (gi M r3 (((22 : Int32) * v1) + v2)) = (0 : Int32) then (ob (f_X8_needs a0 i2 M) fun _ M4 => some ((), M4)) else (if (gi M r3 (((22 : Int32) * v1) + v2)) = (1 : Int32) then (ob (f_X8_readGoing a0 M) fun _ M6 => some ((), M6)) else (if (gi M r3 (((22 : Int32) * v1) + v2)) = (2 : Int32) then (ob (f_X8_takes a0 M) fun r10 M8 => sv r10 fun i11 => if (gi M8 a0 11) = 0 then (ob (f_X8_in i11 (1 : Int32) (5 : Int32) M8) fun r16 M14 => if r16 = true then (f_X8_readItem_L98 a0 i2 i11 M14) else (ob (f_X8_fails a0 (6 : Int32) ((gi M14 a0 9) - (1 : Int32)) M14) fun _ M17 => f_X8_readItem_L98 a0 i2 i11 M17)) else (f_X8_readItem_L98 a0 i2 i11 M8)) else (ob (f_X8_readMade a0 v1 v2 M) fun _ M19 => some ((), M19))))) else none) else none
set_option maxRecDepth 10000 in
set_option maxHeartbeats 4000000 in
theorem t_X8_readItem {l : Launch} {D : va_G} {cs : JC} {b : Nat} (a0 : Nat) (v1 : Int32) (v2 : Int32) (M : JM) (h_a0 : oty M a0 18) : ∀ q, f_X8_readItem a0 v1 v2 M = some q → CTy l yX8_readItem (.code yX8_readItem cX8_readItem 5 (Option.none) :: GB) rm_X8_readItem D cs b evV [.ref (b + a0), .int v1, .int v2] M rm_X8_readItem.cells rm_X8_readItem.slots q := fun q hq => ct_of [(0, .ref (b + a0)), (1, .int v1), (2, .int v2)] rfl rfl (Nat.le_of_ble_eq_true rfl) hq (fun p e s m args below meth c X hr hin => by
  refine aw_callq (F' := orf (gr M a0 3) fun r1 => if 0 ≤ (((22 : Int32) * v1) + v2) ∧ (((22 : Int32) * v1) + v2) < ln r1 then (sv (gi M r1 (((22 : Int32) * v1) + v2)) fun i2 => orf (gr M a0 2) fun r3 => if 0 ≤ (((22 : Int32) * v1) + v2) ∧ (((22 : Int32) * v1) + v2) < ln r3 then (if (gi M r3 (((22 : Int32) * v1) + v2)) = (0 : Int32) then (ob (f_X8_needs a0 i2 M) fun _ M4 => some ((), M4)) else (if (gi M r3 (((22 : Int32) * v1) + v2)) = (1 : Int32) then (ob (f_X8_readGoing a0 M) fun _ M6 => some ((), M6)) else (if (gi M r3 (((22 : Int32) * v1) + v2)) = (2 : Int32) then (ob (f_X8_takes a0 M) fun r10 M8 => sv r10 fun i11 => if (gi M8 a0 11) = 0 then (ob (f_X8_in i11 (1 : Int32) (5 : Int32) M8) fun r16 M14 => if r16 = true then (f_X8_readItem_L98 a0 i2 i11 M14) else (ob (f_X8_fails a0 (6 : Int32) ((gi M14 a0 9) - (1 : Int32)) M14) fun _ M17 => f_X8_readItem_L98 a0 i2 i11 M17)) else (f_X8_readItem_L98 a0 i2 i11 M8)) else (ob (f_X8_readMade a0 v1 v2 M) fun _ M19 => some ((), M19))))) else none) else none) rfl ?_
  refine aw_aload_n (pc := 0) X 0 dX8_readItem_0 rfl ?_
  refine gf_X8_16 (pc := 1) X dX8_readItem_1 h_a0 (fun r1 h_r1 => ?_)
  refine aw_bipush (pc := 4) X (22 : Int32) dX8_readItem_4 (by decide) ?_
  refine aw_iload_n (pc := 6) X 1 dX8_readItem_6 rfl ?_
  refine aw_imul (pc := 7) X dX8_readItem_7 ?_
  refine aw_iload_n (pc := 8) X 2 dX8_readItem_8 rfl ?_
  refine aw_iadd (pc := 9) X dX8_readItem_9 ?_
  refine aw_iald (pc := 10) X dX8_readItem_10 h_r1 ?_
  refine aw_istoreV_n (pc := 11) X (fun y => [(3, .int y), (0, .ref (b + a0)), (1, .int v1), (2, .int v2)]) dX8_readItem_11 (by decide) (fun _ => rfl) (fun i2 => ?_)
  refine aw_aload_n (pc := 12) X 1 dX8_readItem_12 rfl ?_
  refine gf_X8_13 (pc := 13) X dX8_readItem_13 h_a0 (fun r3 h_r3 => ?_)
  refine aw_bipush (pc := 16) X (22 : Int32) dX8_readItem_16 (by decide) ?_
  refine aw_iload_n (pc := 18) X 2 dX8_readItem_18 rfl ?_
  refine aw_imul (pc := 19) X dX8_readItem_19 ?_
  refine aw_iload_n (pc := 20) X 3 dX8_readItem_20 rfl ?_
  refine aw_iadd (pc := 21) X dX8_readItem_21 ?_
  refine aw_iald (pc := 22) X dX8_readItem_22 h_r3 ?_
  refine aw_swIn (pc := 23) X (0 : Int32) 48 dX8_readItem_23 (by decide) (by decide) rfl (by decide) ?_ (fun hn0 => ?_)
  · refine aw_aload_n (pc := 48) X 1 dX8_readItem_48 rfl ?_
    refine aw_iload_n (pc := 49) X 0 dX8_readItem_49 rfl ?_
    refine cl_X8_152 (pc := 50) X ⟨Nat.le_of_ble_eq_true rfl, Nat.le_of_ble_eq_true rfl⟩ (Nat.le_of_ble_eq_true rfl) (ks2 := 0) (sl2 := 0) rfl rfl ⟨(Nat.le_of_ble_eq_true rfl), (Nat.le_of_ble_eq_true rfl)⟩ dX8_readItem_50 h_a0 (fun M4 g5 => ?_)
    have h_a0 := h_a0.mono g5
    refine aw_goto (pc := 53) X 115 dX8_readItem_53 (by decide) ?_
    exact aw_vret (pc := 115) X hr dX8_readItem_115 (Nat.le_of_ble_eq_true rfl) (Nat.le_of_ble_eq_true rfl)
  refine aw_swIn (pc := 23) X (1 : Int32) 56 dX8_readItem_23 (by decide) (by decide) rfl (by decide) ?_ (fun hn1 => ?_)
  · refine aw_aload_n (pc := 56) X 1 dX8_readItem_56 rfl ?_
    refine cl_X8_172 (pc := 57) X ⟨Nat.le_of_ble_eq_true rfl, Nat.le_of_ble_eq_true rfl⟩ (Nat.le_of_ble_eq_true rfl) (ks2 := 0) (sl2 := 0) rfl rfl ⟨(Nat.le_of_ble_eq_true rfl), (Nat.le_of_ble_eq_true rfl)⟩ dX8_readItem_57 h_a0 (fun M6 g7 => ?_)
    have h_a0 := h_a0.mono g7
    refine aw_goto (pc := 60) X 115 dX8_readItem_60 (by decide) ?_
    exact aw_vret (pc := 115) X hr dX8_readItem_115 (Nat.le_of_ble_eq_true rfl) (Nat.le_of_ble_eq_true rfl)
  refine aw_swIn (pc := 23) X (2 : Int32) 63 dX8_readItem_23 (by decide) (by decide) rfl (by decide) ?_ (fun hn2 => ?_)
  · refine aw_aload_n (pc := 63) X 1 dX8_readItem_63 rfl ?_
    refine cl_X8_162 (pc := 64) X ⟨Nat.le_of_ble_eq_true rfl, Nat.le_of_ble_eq_true rfl⟩ (Nat.le_of_ble_eq_true rfl) (ks2 := 0) (sl2 := 0) rfl rfl ⟨(Nat.le_of_ble_eq_true rfl), (Nat.le_of_ble_eq_true rfl)⟩ dX8_readItem_64 h_a0 (fun r10 M8 g9 => ?_)
    have h_a0 := h_a0.mono g9
    refine aw_istoreV (pc := 67) X (fun y => [(4, .int y), (3, .int i2), (0, .ref (b + a0)), (1, .int v1), (2, .int v2)]) dX8_readItem_67 (by decide) (fun _ => rfl) (fun i11 => ?_)
    refine aw_aload_n (pc := 69) X 2 dX8_readItem_69 rfl ?_
    refine gf_X8_136 (pc := 70) X dX8_readItem_70 h_a0 ?_
    refine aw_ifne (pc := 73) X 98 dX8_readItem_73 (by decide) ?_ ?_
    · refine aw_iload (pc := 76) X 0 dX8_readItem_76 rfl ?_
      refine aw_iconst (pc := 78) X (1 : Int32) dX8_readItem_78 (by decide) ?_
      refine aw_iconst (pc := 79) X (5 : Int32) dX8_readItem_79 (by decide) ?_
      refine cl_X8_105 (pc := 80) X ⟨Nat.le_of_ble_eq_true rfl, Nat.le_of_ble_eq_true rfl⟩ (Nat.le_of_ble_eq_true rfl) (ks2 := 0) (sl2 := 0) rfl rfl ⟨(Nat.le_of_ble_eq_true rfl), (Nat.le_of_ble_eq_true rfl)⟩ dX8_readItem_80  (fun r16 M14 g15 => ?_)
      have h_a0 := h_a0.mono g15
      refine aw_ifneB (pc := 83) X 98 dX8_readItem_83 (by decide) ?_ ?_
      · refine aw_sub [2, 1, 0] rfl ?_
        exact t_X8_readItem_L98 X hr a0 i2 i11 M14 h_a0
      · refine aw_aload_n (pc := 86) X 2 dX8_readItem_86 rfl ?_
        refine aw_bipush (pc := 87) X (6 : Int32) dX8_readItem_87 (by decide) ?_
        refine aw_aload_n (pc := 89) X 2 dX8_readItem_89 rfl ?_
        refine gf_X8_142 (pc := 90) X dX8_readItem_90 h_a0 ?_
        refine aw_iconst (pc := 93) X (1 : Int32) dX8_readItem_93 (by decide) ?_
        refine aw_isub (pc := 94) X dX8_readItem_94 ?_
        refine cl_X8_148 (pc := 95) X ⟨Nat.le_of_ble_eq_true rfl, Nat.le_of_ble_eq_true rfl⟩ (Nat.le_of_ble_eq_true rfl) (ks2 := 0) (sl2 := 0) rfl rfl ⟨(Nat.le_of_ble_eq_true rfl), (Nat.le_of_ble_eq_true rfl)⟩ dX8_readItem_95 h_a0 (fun M17 g18 => ?_)
        have h_a0 := h_a0.mono g18
        refine aw_sub [2, 1, 0] rfl ?_
        exact t_X8_readItem_L98 X hr a0 i2 i11 M17 h_a0
    · refine aw_sub [2, 1, 0] rfl ?_
      exact t_X8_readItem_L98 X hr a0 i2 i11 M8 h_a0
  refine aw_swOut (pc := 23) X 109 dX8_readItem_23 (by have e0 := sw_ne (z := 0) hn0 rfl; have e1 := sw_ne (z := 1) hn1 rfl; have e2 := sw_ne (z := 2) hn2 rfl; omega) (by decide) ?_
  refine aw_aload_n (pc := 109) X 1 dX8_readItem_109 rfl ?_
  refine aw_iload_n (pc := 110) X 2 dX8_readItem_110 rfl ?_
  refine aw_iload_n (pc := 111) X 3 dX8_readItem_111 rfl ?_
  refine cl_X8_175 (pc := 112) X ⟨Nat.le_of_ble_eq_true rfl, Nat.le_of_ble_eq_true rfl⟩ (Nat.le_of_ble_eq_true rfl) (ks2 := 0) (sl2 := 0) rfl rfl ⟨(Nat.le_of_ble_eq_true rfl), (Nat.le_of_ble_eq_true rfl)⟩ dX8_readItem_112 h_a0 (fun M19 g20 => ?_)
  have h_a0 := h_a0.mono g20
  exact aw_vret (pc := 115) X hr dX8_readItem_115 (Nat.le_of_ble_eq_true rfl) (Nat.le_of_ble_eq_true rfl))
/-! ReportBlocksModel.readRecord -/
def rm_X8_readRecord : Room := { frames := 6, cells := 0, slots := 0, locals := 135 }
theorem hd_X8_readRecord : jHd yX8_readRecord 1 := by unfold jHd; decide +kernel
theorem gf_X8_178 {ρ : Type} {l : Launch} {p : Program} {e : Env} {R : Room} {s : State} {m : MethodId} {args : Array Value} {below : List Frame} {meth : Method} {c : Code} {D : va_G} {cs : JC} {b nL : Nat} {H0 : Heap} {Qf : ρ × JM → State → Prop} {M : JM} {ks sl : Nat} {lv : List (Nat × Value)} {pc : Nat} {st : List Value} {cc : ByteArray} {k : Nat} (X : jX p c cc nL s m args RX8 D cs b meth H0) {F : Option (ρ × JM)} (hdg : decode cc pc = .ok (.getfield 178, 3)) (ho : oty M k 18) (kk : AWO p l e R s m args below meth c D cs b nL H0 Qf F M ks sl lv (pc + 3) (.int (gi M k 20) :: st)) : AWO p l e R s m args below meth c D cs b nL H0 Qf F M ks sl lv pc (.ref (b + k) :: st) := aw_getI (ci := 8) X 20 rfl gy_X8 (by decide) rfl rfl wf_X8_178 hdg ho kk
theorem gf_X8_43 {ρ : Type} {l : Launch} {p : Program} {e : Env} {R : Room} {s : State} {m : MethodId} {args : Array Value} {below : List Frame} {meth : Method} {c : Code} {D : va_G} {cs : JC} {b nL : Nat} {H0 : Heap} {Qf : ρ × JM → State → Prop} {M : JM} {ks sl : Nat} {lv : List (Nat × Value)} {pc : Nat} {st : List Value} {cc : ByteArray} {k : Nat} (X : jX p c cc nL s m args RX8 D cs b meth H0) {K : Nat → Option (ρ × JM)} (hdg : decode cc pc = .ok (.getfield 43, 3)) (ho : oty M k 18) (kk : ∀ r : Nat, oty M r 1 → AWO p l e R s m args below meth c D cs b nL H0 Qf (K r) M ks sl lv (pc + 3) (.ref (b + r) :: st)) : AWO p l e R s m args below meth c D cs b nL H0 Qf (orf (gr M k 21) K) M ks sl lv pc (.ref (b + k) :: st) := aw_getR (ci := 8) (τ := 1) X 21 rfl gy_X8 (by decide) (by decide) rfl rfl (by decide) wf_X8_43 hdg ho kk
theorem pf_X8_178 {ρ : Type} {l : Launch} {p : Program} {e : Env} {R : Room} {s : State} {m : MethodId} {args : Array Value} {below : List Frame} {meth : Method} {c : Code} {D : va_G} {cs : JC} {b nL : Nat} {H0 : Heap} {Qf : ρ × JM → State → Prop} {M : JM} {ks sl : Nat} {lv : List (Nat × Value)} {pc : Nat} {st : List Value} {cc : ByteArray} {k : Nat} {K : JM → Option (ρ × JM)} (X : jX p c cc nL s m args RX8 D cs b meth H0) {x : Int32} (hdg : decode cc pc = .ok (.putfield 178, 3)) (ho : oty M k 18) (kk : ∀ M2 : JM, gn M ≤ gn M2 → AWO p l e R s m args below meth c D cs b nL H0 Qf (K M2) M2 ks sl lv (pc + 3) st) : AWO p l e R s m args below meth c D cs b nL H0 Qf (sq (si M k 20 x) K) M ks sl lv pc (.int x :: .ref (b + k) :: st) := aw_putI (ci := 8) X 20 rfl gy_X8 tyX8 tyX8_ok nmX8 (by decide) (by decide) rfl rfl wf_X8_178 rfl (Or.inl rfl) hdg ho (kk _ (Nat.le_refl _))
def f_X8_readRecord_L240 : Nat → JM → Option (Unit × JM) := fun a0 M => sq (si M a0 20 ((gi M a0 20) + (1 : Int32))) fun M10 => orf (gr M10 a0 21) fun r12 => if 0 ≤ (gi M10 a0 20) ∧ (gi M10 a0 20) < ln r12 then (sq (si M10 r12 (gi M10 a0 20) (gi M10 a0 9)) fun M13 => some ((), M13)) else none
set_option maxRecDepth 10000 in
set_option maxHeartbeats 4000000 in
theorem t_X8_readRecord_L240 {p : Program} {l : Launch} {e : Env} {s : State} {m : MethodId} {args : Array Value} {below : List Frame} {meth : Method} {c : Code} {D : va_G} {cs : JC} {b : Nat} (X : jX p c cX8_readRecord 6 s m args RX8 D cs b meth s.heap) (hr : meth.sig.returnType = Option.none) : ∀ (a0 : Nat) (M : JM), oty M a0 18 → AWO p l e rm_X8_readRecord s m args below meth c D cs b 6 s.heap (jE below D cs b evV args s rm_X8_readRecord.cells rm_X8_readRecord.slots) (f_X8_readRecord_L240 a0 M) M 0 0 [(0, .ref (b + a0))] 240 [] := by
  intro a0 M h_a0
  refine aw_callq (F' := sq (si M a0 20 ((gi M a0 20) + (1 : Int32))) fun M10 => orf (gr M10 a0 21) fun r12 => if 0 ≤ (gi M10 a0 20) ∧ (gi M10 a0 20) < ln r12 then (sq (si M10 r12 (gi M10 a0 20) (gi M10 a0 9)) fun M13 => some ((), M13)) else none) rfl ?_
  refine aw_aload_n (pc := 240) X 0 dX8_readRecord_240 rfl ?_
  refine aw_dup_a (pc := 241) X dX8_readRecord_241 ?_
  refine gf_X8_178 (pc := 242) X dX8_readRecord_242 h_a0 ?_
  refine aw_iconst (pc := 245) X (1 : Int32) dX8_readRecord_245 (by decide) ?_
  refine aw_iadd (pc := 246) X dX8_readRecord_246 ?_
  refine pf_X8_178 (pc := 247) X dX8_readRecord_247 h_a0 (fun M10 g11 => ?_)
  have h_a0 := h_a0.mono g11
  refine aw_aload_n (pc := 250) X 0 dX8_readRecord_250 rfl ?_
  refine gf_X8_43 (pc := 251) X dX8_readRecord_251 h_a0 (fun r12 h_r12 => ?_)
  refine aw_aload_n (pc := 254) X 0 dX8_readRecord_254 rfl ?_
  refine gf_X8_178 (pc := 255) X dX8_readRecord_255 h_a0 ?_
  refine aw_aload_n (pc := 258) X 0 dX8_readRecord_258 rfl ?_
  refine gf_X8_142 (pc := 259) X dX8_readRecord_259 h_a0 ?_
  refine aw_iastQ (pc := 262) X dX8_readRecord_262 h_r12 (fun M13 g14 => ?_)
  have h_a0 := h_a0.mono g14
  exact aw_vret (pc := 263) X hr dX8_readRecord_263 (Nat.le_of_ble_eq_true rfl) (Nat.le_of_ble_eq_true rfl)
theorem gf_X8_46 {ρ : Type} {l : Launch} {p : Program} {e : Env} {R : Room} {s : State} {m : MethodId} {args : Array Value} {below : List Frame} {meth : Method} {c : Code} {D : va_G} {cs : JC} {b nL : Nat} {H0 : Heap} {Qf : ρ × JM → State → Prop} {M : JM} {ks sl : Nat} {lv : List (Nat × Value)} {pc : Nat} {st : List Value} {cc : ByteArray} {k : Nat} (X : jX p c cc nL s m args RX8 D cs b meth H0) {K : Nat → Option (ρ × JM)} (hdg : decode cc pc = .ok (.getfield 46, 3)) (ho : oty M k 18) (kk : ∀ r : Nat, oty M r 1 → AWO p l e R s m args below meth c D cs b nL H0 Qf (K r) M ks sl lv (pc + 3) (.ref (b + r) :: st)) : AWO p l e R s m args below meth c D cs b nL H0 Qf (orf (gr M k 22) K) M ks sl lv pc (.ref (b + k) :: st) := aw_getR (ci := 8) (τ := 1) X 22 rfl gy_X8 (by decide) (by decide) rfl rfl (by decide) wf_X8_46 hdg ho kk
theorem gf_X8_96 {ρ : Type} {l : Launch} {p : Program} {e : Env} {R : Room} {s : State} {m : MethodId} {args : Array Value} {below : List Frame} {meth : Method} {c : Code} {D : va_G} {cs : JC} {b nL : Nat} {H0 : Heap} {Qf : ρ × JM → State → Prop} {M : JM} {ks sl : Nat} {lv : List (Nat × Value)} {pc : Nat} {st : List Value} {cc : ByteArray} {k : Nat} (X : jX p c cc nL s m args RX8 D cs b meth H0) {K : Nat → Option (ρ × JM)} (hdg : decode cc pc = .ok (.getfield 96, 3)) (ho : oty M k 18) (kk : ∀ r : Nat, oty M r 2 → AWO p l e R s m args below meth c D cs b nL H0 Qf (K r) M ks sl lv (pc + 3) (.ref (b + r) :: st)) : AWO p l e R s m args below meth c D cs b nL H0 Qf (orf (gr M k 45) K) M ks sl lv pc (.ref (b + k) :: st) := aw_getR (ci := 8) (τ := 2) X 45 rfl gy_X8 (by decide) (by decide) rfl rfl (by decide) wf_X8_96 hdg ho kk
theorem gf_X8_49 {ρ : Type} {l : Launch} {p : Program} {e : Env} {R : Room} {s : State} {m : MethodId} {args : Array Value} {below : List Frame} {meth : Method} {c : Code} {D : va_G} {cs : JC} {b nL : Nat} {H0 : Heap} {Qf : ρ × JM → State → Prop} {M : JM} {ks sl : Nat} {lv : List (Nat × Value)} {pc : Nat} {st : List Value} {cc : ByteArray} {k : Nat} (X : jX p c cc nL s m args RX8 D cs b meth H0) {K : Nat → Option (ρ × JM)} (hdg : decode cc pc = .ok (.getfield 49, 3)) (ho : oty M k 18) (kk : ∀ r : Nat, oty M r 1 → AWO p l e R s m args below meth c D cs b nL H0 Qf (K r) M ks sl lv (pc + 3) (.ref (b + r) :: st)) : AWO p l e R s m args below meth c D cs b nL H0 Qf (orf (gr M k 23) K) M ks sl lv pc (.ref (b + k) :: st) := aw_getR (ci := 8) (τ := 1) X 23 rfl gy_X8 (by decide) (by decide) rfl rfl (by decide) wf_X8_49 hdg ho kk
def f_X8_readRecord_L215 (k168 : Nat → Int32 → Int32 → JM → Option (Unit × JM)) : Nat → Int32 → Int32 → Int32 → JM → Option (Unit × JM) := fun a0 v1 v4 v5 M => orf (gr M a0 23) fun r20 => orf (gr M a0 22) fun r21 => if 0 ≤ v5 ∧ v5 < ln r21 then (if 0 ≤ v5 ∧ v5 < ln r20 then (sq (si M r20 v5 ((gi M a0 9) - (gi M r21 v5))) fun M22 => sv (v4 + (1 : Int32)) fun i24 => k168 a0 v1 i24 M22) else none) else none
set_option maxRecDepth 10000 in
set_option maxHeartbeats 4000000 in
theorem t_X8_readRecord_L215 {p : Program} {l : Launch} {e : Env} {s : State} {m : MethodId} {args : Array Value} {below : List Frame} {meth : Method} {c : Code} {D : va_G} {cs : JC} {b : Nat} (X : jX p c cX8_readRecord 6 s m args RX8 D cs b meth s.heap) (hr : meth.sig.returnType = Option.none) (k168 : Nat → Int32 → Int32 → JM → Option (Unit × JM)) (hk168 : ∀ (a0 : Nat) (v1 : Int32) (v4 : Int32) (M : JM), oty M a0 18 → AWO p l e rm_X8_readRecord s m args below meth c D cs b 6 s.heap (jE below D cs b evV args s rm_X8_readRecord.cells rm_X8_readRecord.slots) (k168 a0 v1 v4 M) M 0 0 [(0, .ref (b + a0)), (1, .int v1), (4, .int v4)] 168 []) : ∀ (a0 : Nat) (v1 : Int32) (v4 : Int32) (v5 : Int32) (M : JM), oty M a0 18 → AWO p l e rm_X8_readRecord s m args below meth c D cs b 6 s.heap (jE below D cs b evV args s rm_X8_readRecord.cells rm_X8_readRecord.slots) (f_X8_readRecord_L215 k168 a0 v1 v4 v5 M) M 0 0 [(0, .ref (b + a0)), (1, .int v1), (4, .int v4), (5, .int v5)] 215 [] := by
  intro a0 v1 v4 v5 M h_a0
  refine aw_callq (F' := orf (gr M a0 23) fun r20 => orf (gr M a0 22) fun r21 => if 0 ≤ v5 ∧ v5 < ln r21 then (if 0 ≤ v5 ∧ v5 < ln r20 then (sq (si M r20 v5 ((gi M a0 9) - (gi M r21 v5))) fun M22 => sv (v4 + (1 : Int32)) fun i24 => k168 a0 v1 i24 M22) else none) else none) rfl ?_
  refine aw_aload_n (pc := 215) X 0 dX8_readRecord_215 rfl ?_
  refine gf_X8_49 (pc := 216) X dX8_readRecord_216 h_a0 (fun r20 h_r20 => ?_)
  refine aw_iload (pc := 219) X 3 dX8_readRecord_219 rfl ?_
  refine aw_aload_n (pc := 221) X 0 dX8_readRecord_221 rfl ?_
  refine gf_X8_142 (pc := 222) X dX8_readRecord_222 h_a0 ?_
  refine aw_aload_n (pc := 225) X 0 dX8_readRecord_225 rfl ?_
  refine gf_X8_46 (pc := 226) X dX8_readRecord_226 h_a0 (fun r21 h_r21 => ?_)
  refine aw_iload (pc := 229) X 3 dX8_readRecord_229 rfl ?_
  refine aw_iald (pc := 231) X dX8_readRecord_231 h_r21 ?_
  refine aw_isub (pc := 232) X dX8_readRecord_232 ?_
  refine aw_iastQ (pc := 233) X dX8_readRecord_233 h_r20 (fun M22 g23 => ?_)
  have h_a0 := h_a0.mono g23
  refine aw_iincV (pc := 234) X (fun y => [(4, .int y), (0, .ref (b + a0)), (1, .int v1), (5, .int v5)]) 2 (v := (v4 + (1 : Int32))) dX8_readRecord_234 rfl rfl (by decide) (fun _ => rfl) (fun i24 => ?_)
  refine aw_goto (pc := 237) X 168 dX8_readRecord_237 (by decide) ?_
  refine aw_sub [1, 2, 0] rfl ?_
  exact hk168 a0 v1 i24 M22 h_a0
theorem cl_X8_181 {ρ : Type} {l : Launch} {p : Program} {e : Env} {R : Room} {s : State} {m : MethodId} {args : Array Value} {below : List Frame} {meth : Method} {c : Code} {D : va_G} {cs : JC} {b nL : Nat} {H0 : Heap} {Qf : ρ × JM → State → Prop} {M : JM} {ks sl : Nat} {lv : List (Nat × Value)} {pc : Nat} {st : List Value} {cc : ByteArray} (X : jX p c cc nL s m args RX8 D cs b meth H0) {z0 : Nat} {z1 : Int32} {z2 : Int32} {K : JM → Option (ρ × JM)} (hrm : jRm rm_X8_readItem 5 R) (hW : (st.map fun v => v.category).sum ≤ 8) {ks2 sl2 : Nat} (hk2 : ks + rm_X8_readItem.cells = ks2) (hs2 : sl + rm_X8_readItem.slots = sl2) (hroom : ks2 ≤ R.cells ∧ sl2 ≤ R.slots) (hdg : decode cc pc = .ok (.invokevirtual 181, 3)) (h0 : oty M z0 18) (kk : ∀ (M2 : JM), gn M ≤ gn M2 → AWO p l e R s m args below meth c D cs b nL H0 Qf (K M2) M2 ks2 sl2 lv (pc + 3) (st)) : AWO p l e R s m args below meth c D cs b nL H0 Qf (ob (f_X8_readItem z0 z1 z2 M) (fun _ => K)) M ks sl lv pc (.int z2 :: .int z1 :: .ref (b + z0) :: st) := by
  subst hk2
  subst hs2
  exact aw_callV (ci := 8) X [.int z1, .int z2] st rfl rfl wl_X8_181 wi_X8_readItem wv_X8_readItem wc_X8_readItem wn_X8 (n := 2) hd_X8_readItem rfl hrm hW hroom hdg h0 (t_X8_readItem z0 z1 z2 M h0) (fun _ M2 g _ => kk M2 g)
def f_X8_readRecord_L168 : Nat → Nat → Int32 → Int32 → JM → Option (Unit × JM)
  | 0, _, _, _, _ => none
  | n + 1, a0, v1, v4, M => if (21 : Int32) < v4 then (f_X8_readRecord_L240 a0 M) else (sv (((22 : Int32) * (gi M a0 20)) + v4) fun i15 => orf (gr M a0 22) fun r16 => if 0 ≤ i15 ∧ i15 < ln r16 then (sq (si M r16 i15 (gi M a0 9)) fun M17 => orf (gr M17 a0 45) fun r19 => if 0 ≤ v4 ∧ v4 < ln r19 then (if (gi M17 r19 v4) = 0 then (f_X8_readRecord_L215 (f_X8_readRecord_L168 n) a0 v1 v4 i15 M17) else (ob (f_X8_readItem a0 v1 v4 M17) fun _ M25 => f_X8_readRecord_L215 (f_X8_readRecord_L168 n) a0 v1 v4 i15 M25)) else none) else none)
set_option maxRecDepth 10000 in
set_option maxHeartbeats 4000000 in
theorem t_X8_readRecord_L168 {p : Program} {l : Launch} {e : Env} {s : State} {m : MethodId} {args : Array Value} {below : List Frame} {meth : Method} {c : Code} {D : va_G} {cs : JC} {b : Nat} (X : jX p c cX8_readRecord 6 s m args RX8 D cs b meth s.heap) (hr : meth.sig.returnType = Option.none) : ∀ (n : Nat) (a0 : Nat) (v1 : Int32) (v4 : Int32) (M : JM), oty M a0 18 → AWO p l e rm_X8_readRecord s m args below meth c D cs b 6 s.heap (jE below D cs b evV args s rm_X8_readRecord.cells rm_X8_readRecord.slots) (f_X8_readRecord_L168 n a0 v1 v4 M) M 0 0 [(0, .ref (b + a0)), (1, .int v1), (4, .int v4)] 168 [] := by
  intro n
  induction n with
  | zero => intro a0 v1 v4 M h_a0; exact aw_none
  | succ n ih =>
    intro a0 v1 v4 M h_a0
    refine aw_callq (F' := if (21 : Int32) < v4 then (f_X8_readRecord_L240 a0 M) else (sv (((22 : Int32) * (gi M a0 20)) + v4) fun i15 => orf (gr M a0 22) fun r16 => if 0 ≤ i15 ∧ i15 < ln r16 then (sq (si M r16 i15 (gi M a0 9)) fun M17 => orf (gr M17 a0 45) fun r19 => if 0 ≤ v4 ∧ v4 < ln r19 then (if (gi M17 r19 v4) = 0 then (f_X8_readRecord_L215 (f_X8_readRecord_L168 n) a0 v1 v4 i15 M17) else (ob (f_X8_readItem a0 v1 v4 M17) fun _ M25 => f_X8_readRecord_L215 (f_X8_readRecord_L168 n) a0 v1 v4 i15 M25)) else none) else none)) rfl ?_
    refine aw_iload (pc := 168) X 2 dX8_readRecord_168 rfl ?_
    refine aw_bipush (pc := 170) X (21 : Int32) dX8_readRecord_170 (by decide) ?_
    refine aw_icmpgt (pc := 172) X 240 dX8_readRecord_172 (by decide) ?_ ?_
    · refine aw_sub [0] rfl ?_
      exact t_X8_readRecord_L240 X hr a0 M h_a0
    · refine aw_bipush (pc := 175) X (22 : Int32) dX8_readRecord_175 (by decide) ?_
      refine aw_aload_n (pc := 177) X 0 dX8_readRecord_177 rfl ?_
      refine gf_X8_178 (pc := 178) X dX8_readRecord_178 h_a0 ?_
      refine aw_imul (pc := 181) X dX8_readRecord_181 ?_
      refine aw_iload (pc := 182) X 2 dX8_readRecord_182 rfl ?_
      refine aw_iadd (pc := 184) X dX8_readRecord_184 ?_
      refine aw_istoreV (pc := 185) X (fun y => [(5, .int y), (0, .ref (b + a0)), (1, .int v1), (4, .int v4)]) dX8_readRecord_185 (by decide) (fun _ => rfl) (fun i15 => ?_)
      refine aw_aload_n (pc := 187) X 1 dX8_readRecord_187 rfl ?_
      refine gf_X8_46 (pc := 188) X dX8_readRecord_188 h_a0 (fun r16 h_r16 => ?_)
      refine aw_iload (pc := 191) X 0 dX8_readRecord_191 rfl ?_
      refine aw_aload_n (pc := 193) X 1 dX8_readRecord_193 rfl ?_
      refine gf_X8_142 (pc := 194) X dX8_readRecord_194 h_a0 ?_
      refine aw_iastQ (pc := 197) X dX8_readRecord_197 h_r16 (fun M17 g18 => ?_)
      have h_a0 := h_a0.mono g18
      refine aw_aload_n (pc := 198) X 1 dX8_readRecord_198 rfl ?_
      refine gf_X8_96 (pc := 199) X dX8_readRecord_199 h_a0 (fun r19 h_r19 => ?_)
      refine aw_iload (pc := 202) X 3 dX8_readRecord_202 rfl ?_
      refine aw_zald (pc := 204) X dX8_readRecord_204 h_r19 ?_
      refine aw_ifeq (pc := 205) X 215 dX8_readRecord_205 (by decide) ?_ ?_
      · refine aw_sub [1, 2, 3, 0] rfl ?_
        exact t_X8_readRecord_L215 X hr (f_X8_readRecord_L168 n) ih a0 v1 v4 i15 M17 h_a0
      · refine aw_aload_n (pc := 208) X 1 dX8_readRecord_208 rfl ?_
        refine aw_iload_n (pc := 209) X 2 dX8_readRecord_209 rfl ?_
        refine aw_iload (pc := 210) X 3 dX8_readRecord_210 rfl ?_
        refine cl_X8_181 (pc := 212) X ⟨Nat.le_of_ble_eq_true rfl, Nat.le_of_ble_eq_true rfl⟩ (Nat.le_of_ble_eq_true rfl) (ks2 := 0) (sl2 := 0) rfl rfl ⟨(Nat.le_of_ble_eq_true rfl), (Nat.le_of_ble_eq_true rfl)⟩ dX8_readRecord_212 h_a0 (fun M25 g26 => ?_)
        have h_a0 := h_a0.mono g26
        refine aw_sub [1, 2, 3, 0] rfl ?_
        exact t_X8_readRecord_L215 X hr (f_X8_readRecord_L168 n) ih a0 v1 v4 i15 M25 h_a0
def f_X8_readRecord_L147 : Nat → Int32 → Int32 → JM → Option (Unit × JM) := fun a0 v1 v2 M => if (gi M a0 11) = 0 then (orf (gr M a0 21) fun r6 => if 0 ≤ (gi M a0 20) ∧ (gi M a0 20) < ln r6 then (sq (si M r6 (gi M a0 20) v2) fun M7 => sv (1 : Int32) fun i9 => f_X8_readRecord_L168 FU a0 v1 i9 M7) else none) else (some ((), M))
set_option maxRecDepth 10000 in
set_option maxHeartbeats 4000000 in
theorem t_X8_readRecord_L147 {p : Program} {l : Launch} {e : Env} {s : State} {m : MethodId} {args : Array Value} {below : List Frame} {meth : Method} {c : Code} {D : va_G} {cs : JC} {b : Nat} (X : jX p c cX8_readRecord 6 s m args RX8 D cs b meth s.heap) (hr : meth.sig.returnType = Option.none) : ∀ (a0 : Nat) (v1 : Int32) (v2 : Int32) (M : JM), oty M a0 18 → AWO p l e rm_X8_readRecord s m args below meth c D cs b 6 s.heap (jE below D cs b evV args s rm_X8_readRecord.cells rm_X8_readRecord.slots) (f_X8_readRecord_L147 a0 v1 v2 M) M 0 0 [(0, .ref (b + a0)), (1, .int v1), (2, .int v2)] 147 [] := by
  intro a0 v1 v2 M h_a0
  refine aw_callq (F' := if (gi M a0 11) = 0 then (orf (gr M a0 21) fun r6 => if 0 ≤ (gi M a0 20) ∧ (gi M a0 20) < ln r6 then (sq (si M r6 (gi M a0 20) v2) fun M7 => sv (1 : Int32) fun i9 => f_X8_readRecord_L168 FU a0 v1 i9 M7) else none) else (some ((), M))) rfl ?_
  refine aw_aload_n (pc := 147) X 0 dX8_readRecord_147 rfl ?_
  refine gf_X8_136 (pc := 148) X dX8_readRecord_148 h_a0 ?_
  refine aw_ifeq (pc := 151) X 155 dX8_readRecord_151 (by decide) ?_ ?_
  · refine aw_aload_n (pc := 155) X 0 dX8_readRecord_155 rfl ?_
    refine gf_X8_43 (pc := 156) X dX8_readRecord_156 h_a0 (fun r6 h_r6 => ?_)
    refine aw_aload_n (pc := 159) X 0 dX8_readRecord_159 rfl ?_
    refine gf_X8_178 (pc := 160) X dX8_readRecord_160 h_a0 ?_
    refine aw_iload_n (pc := 163) X 2 dX8_readRecord_163 rfl ?_
    refine aw_iastQ (pc := 164) X dX8_readRecord_164 h_r6 (fun M7 g8 => ?_)
    have h_a0 := h_a0.mono g8
    refine aw_iconst (pc := 165) X (1 : Int32) dX8_readRecord_165 (by decide) ?_
    refine aw_istoreV (pc := 166) X (fun y => [(4, .int y), (0, .ref (b + a0)), (1, .int v1), (2, .int v2)]) dX8_readRecord_166 (by decide) (fun _ => rfl) (fun i9 => ?_)
    refine aw_sub [1, 2, 0] rfl ?_
    exact t_X8_readRecord_L168 X hr FU a0 v1 i9 M7 h_a0
  · exact aw_vret (pc := 154) X hr dX8_readRecord_154 (Nat.le_of_ble_eq_true rfl) (Nat.le_of_ble_eq_true rfl)
def f_X8_readRecord_L136 : Nat → Int32 → Int32 → Int32 → JM → Option (Unit × JM) := fun a0 v1 v2 v3 M => if v3 = 0 then (f_X8_readRecord_L147 a0 v1 v2 M) else (ob (f_X8_fails a0 (8 : Int32) v2 M) fun _ M27 => f_X8_readRecord_L147 a0 v1 v2 M27)
set_option maxRecDepth 10000 in
set_option maxHeartbeats 4000000 in
theorem t_X8_readRecord_L136 {p : Program} {l : Launch} {e : Env} {s : State} {m : MethodId} {args : Array Value} {below : List Frame} {meth : Method} {c : Code} {D : va_G} {cs : JC} {b : Nat} (X : jX p c cX8_readRecord 6 s m args RX8 D cs b meth s.heap) (hr : meth.sig.returnType = Option.none) : ∀ (a0 : Nat) (v1 : Int32) (v2 : Int32) (v3 : Int32) (M : JM), oty M a0 18 → AWO p l e rm_X8_readRecord s m args below meth c D cs b 6 s.heap (jE below D cs b evV args s rm_X8_readRecord.cells rm_X8_readRecord.slots) (f_X8_readRecord_L136 a0 v1 v2 v3 M) M 0 0 [(0, .ref (b + a0)), (1, .int v1), (2, .int v2), (3, .int v3)] 136 [] := by
  intro a0 v1 v2 v3 M h_a0
  refine aw_callq (F' := if v3 = 0 then (f_X8_readRecord_L147 a0 v1 v2 M) else (ob (f_X8_fails a0 (8 : Int32) v2 M) fun _ M27 => f_X8_readRecord_L147 a0 v1 v2 M27)) rfl ?_
  refine aw_iload_n (pc := 136) X 3 dX8_readRecord_136 rfl ?_
  refine aw_ifeq (pc := 137) X 147 dX8_readRecord_137 (by decide) ?_ ?_
  · refine aw_sub [0, 1, 2] rfl ?_
    exact t_X8_readRecord_L147 X hr a0 v1 v2 M h_a0
  · refine aw_aload_n (pc := 140) X 0 dX8_readRecord_140 rfl ?_
    refine aw_bipush (pc := 141) X (8 : Int32) dX8_readRecord_141 (by decide) ?_
    refine aw_iload_n (pc := 143) X 2 dX8_readRecord_143 rfl ?_
    refine cl_X8_148 (pc := 144) X ⟨Nat.le_of_ble_eq_true rfl, Nat.le_of_ble_eq_true rfl⟩ (Nat.le_of_ble_eq_true rfl) (ks2 := 0) (sl2 := 0) rfl rfl ⟨(Nat.le_of_ble_eq_true rfl), (Nat.le_of_ble_eq_true rfl)⟩ dX8_readRecord_144 h_a0 (fun M27 g28 => ?_)
    have h_a0 := h_a0.mono g28
    refine aw_sub [0, 1, 2] rfl ?_
    exact t_X8_readRecord_L147 X hr a0 v1 v2 M27 h_a0
def f_X8_readRecord_L130 (k57 : Nat → Int32 → Int32 → Int32 → Int32 → JM → Option (Unit × JM)) : Nat → Int32 → Int32 → Int32 → Int32 → JM → Option (Unit × JM) := fun a0 v1 v2 v3 v4 M => sv (v4 + (1 : Int32)) fun i34 => k57 a0 v1 v2 v3 i34 M
set_option maxRecDepth 10000 in
set_option maxHeartbeats 4000000 in
theorem t_X8_readRecord_L130 {p : Program} {l : Launch} {e : Env} {s : State} {m : MethodId} {args : Array Value} {below : List Frame} {meth : Method} {c : Code} {D : va_G} {cs : JC} {b : Nat} (X : jX p c cX8_readRecord 6 s m args RX8 D cs b meth s.heap) (hr : meth.sig.returnType = Option.none) (k57 : Nat → Int32 → Int32 → Int32 → Int32 → JM → Option (Unit × JM)) (hk57 : ∀ (a0 : Nat) (v1 : Int32) (v2 : Int32) (v3 : Int32) (v4 : Int32) (M : JM), oty M a0 18 → AWO p l e rm_X8_readRecord s m args below meth c D cs b 6 s.heap (jE below D cs b evV args s rm_X8_readRecord.cells rm_X8_readRecord.slots) (k57 a0 v1 v2 v3 v4 M) M 0 0 [(0, .ref (b + a0)), (1, .int v1), (2, .int v2), (3, .int v3), (4, .int v4)] 57 []) : ∀ (a0 : Nat) (v1 : Int32) (v2 : Int32) (v3 : Int32) (v4 : Int32) (M : JM), oty M a0 18 → AWO p l e rm_X8_readRecord s m args below meth c D cs b 6 s.heap (jE below D cs b evV args s rm_X8_readRecord.cells rm_X8_readRecord.slots) (f_X8_readRecord_L130 k57 a0 v1 v2 v3 v4 M) M 0 0 [(0, .ref (b + a0)), (1, .int v1), (2, .int v2), (3, .int v3), (4, .int v4)] 130 [] := by
  intro a0 v1 v2 v3 v4 M h_a0
  refine aw_callq (F' := sv (v4 + (1 : Int32)) fun i34 => k57 a0 v1 v2 v3 i34 M) rfl ?_
  refine aw_iincV (pc := 130) X (fun y => [(4, .int y), (0, .ref (b + a0)), (1, .int v1), (2, .int v2), (3, .int v3)]) 4 (v := (v4 + (1 : Int32))) dX8_readRecord_130 rfl rfl (by decide) (fun _ => rfl) (fun i34 => ?_)
  refine aw_goto (pc := 133) X 57 dX8_readRecord_133 (by decide) ?_
  refine aw_sub [1, 2, 3, 4, 0] rfl ?_
  exact hk57 a0 v1 v2 v3 i34 M h_a0
def f_X8_readRecord_L116 (k57 : Nat → Int32 → Int32 → Int32 → Int32 → JM → Option (Unit × JM)) : Nat → Int32 → Int32 → Int32 → Int32 → JM → Option (Unit × JM) := fun a0 v1 v2 v3 v4 M => ob (f_X8_fails a0 (5 : Int32) (v2 + ((v4 - (1 : Int32)) / (7 : Int32))) M) fun _ M36 => f_X8_readRecord_L130 k57 a0 v1 v2 v3 v4 M36
set_option maxRecDepth 10000 in
set_option maxHeartbeats 4000000 in
theorem t_X8_readRecord_L116 {p : Program} {l : Launch} {e : Env} {s : State} {m : MethodId} {args : Array Value} {below : List Frame} {meth : Method} {c : Code} {D : va_G} {cs : JC} {b : Nat} (X : jX p c cX8_readRecord 6 s m args RX8 D cs b meth s.heap) (hr : meth.sig.returnType = Option.none) (k57 : Nat → Int32 → Int32 → Int32 → Int32 → JM → Option (Unit × JM)) (hk57 : ∀ (a0 : Nat) (v1 : Int32) (v2 : Int32) (v3 : Int32) (v4 : Int32) (M : JM), oty M a0 18 → AWO p l e rm_X8_readRecord s m args below meth c D cs b 6 s.heap (jE below D cs b evV args s rm_X8_readRecord.cells rm_X8_readRecord.slots) (k57 a0 v1 v2 v3 v4 M) M 0 0 [(0, .ref (b + a0)), (1, .int v1), (2, .int v2), (3, .int v3), (4, .int v4)] 57 []) : ∀ (a0 : Nat) (v1 : Int32) (v2 : Int32) (v3 : Int32) (v4 : Int32) (M : JM), oty M a0 18 → AWO p l e rm_X8_readRecord s m args below meth c D cs b 6 s.heap (jE below D cs b evV args s rm_X8_readRecord.cells rm_X8_readRecord.slots) (f_X8_readRecord_L116 k57 a0 v1 v2 v3 v4 M) M 0 0 [(0, .ref (b + a0)), (1, .int v1), (2, .int v2), (3, .int v3), (4, .int v4)] 116 [] := by
  intro a0 v1 v2 v3 v4 M h_a0
  refine aw_callq (F' := ob (f_X8_fails a0 (5 : Int32) (v2 + ((v4 - (1 : Int32)) / (7 : Int32))) M) fun _ M36 => f_X8_readRecord_L130 k57 a0 v1 v2 v3 v4 M36) rfl ?_
  refine aw_aload_n (pc := 116) X 0 dX8_readRecord_116 rfl ?_
  refine aw_iconst (pc := 117) X (5 : Int32) dX8_readRecord_117 (by decide) ?_
  refine aw_iload_n (pc := 118) X 2 dX8_readRecord_118 rfl ?_
  refine aw_iload (pc := 119) X 4 dX8_readRecord_119 rfl ?_
  refine aw_iconst (pc := 121) X (1 : Int32) dX8_readRecord_121 (by decide) ?_
  refine aw_isub (pc := 122) X dX8_readRecord_122 ?_
  refine aw_bipush (pc := 123) X (7 : Int32) dX8_readRecord_123 (by decide) ?_
  refine aw_idivK (pc := 125) X dX8_readRecord_125 (by decide) ?_
  refine aw_iadd (pc := 126) X dX8_readRecord_126 ?_
  refine cl_X8_148 (pc := 127) X ⟨Nat.le_of_ble_eq_true rfl, Nat.le_of_ble_eq_true rfl⟩ (Nat.le_of_ble_eq_true rfl) (ks2 := 0) (sl2 := 0) rfl rfl ⟨(Nat.le_of_ble_eq_true rfl), (Nat.le_of_ble_eq_true rfl)⟩ dX8_readRecord_127 h_a0 (fun M36 g37 => ?_)
  have h_a0 := h_a0.mono g37
  refine aw_sub [0, 1, 2, 3, 4] rfl ?_
  exact t_X8_readRecord_L130 X hr k57 hk57 a0 v1 v2 v3 v4 M36 h_a0
def f_X8_readRecord_L57 : Nat → Nat → Int32 → Int32 → Int32 → Int32 → JM → Option (Unit × JM)
  | 0, _, _, _, _, _, _ => none
  | n + 1, a0, v1, v2, v3, v4, M => if (21 : Int32) < v4 then (f_X8_readRecord_L136 a0 v1 v2 v3 M) else (orf (gr M a0 45) fun r29 => orf (gr M a0 24) fun r30 => if 0 ≤ v4 ∧ v4 < ln r30 then (if 0 ≤ v4 ∧ v4 < ln r29 then (sq (si M r29 v4 (vp_nar .boolean (gi M r30 v4))) fun M31 => orf (gr M31 a0 24) fun r33 => if 0 ≤ v4 ∧ v4 < ln r33 then (if (gi M31 r33 v4) = 0 then (f_X8_readRecord_L130 (f_X8_readRecord_L57 n) a0 v1 v2 v3 v4 M31) else (orf (gr M31 a0 2) fun r35 => if 0 ≤ (((22 : Int32) * v1) + v4) ∧ (((22 : Int32) * v1) + v4) < ln r35 then (if (gi M31 r35 (((22 : Int32) * v1) + v4)) = (-9 : Int32) then (if v3 = 0 then (f_X8_readRecord_L116 (f_X8_readRecord_L57 n) a0 v1 v2 v3 v4 M31) else (if v4 < (8 : Int32) then (f_X8_readRecord_L116 (f_X8_readRecord_L57 n) a0 v1 v2 v3 v4 M31) else (f_X8_readRecord_L130 (f_X8_readRecord_L57 n) a0 v1 v2 v3 v4 M31))) else (f_X8_readRecord_L130 (f_X8_readRecord_L57 n) a0 v1 v2 v3 v4 M31)) else none)) else none) else none) else none)
set_option maxRecDepth 10000 in
set_option maxHeartbeats 4000000 in
theorem t_X8_readRecord_L57 {p : Program} {l : Launch} {e : Env} {s : State} {m : MethodId} {args : Array Value} {below : List Frame} {meth : Method} {c : Code} {D : va_G} {cs : JC} {b : Nat} (X : jX p c cX8_readRecord 6 s m args RX8 D cs b meth s.heap) (hr : meth.sig.returnType = Option.none) : ∀ (n : Nat) (a0 : Nat) (v1 : Int32) (v2 : Int32) (v3 : Int32) (v4 : Int32) (M : JM), oty M a0 18 → AWO p l e rm_X8_readRecord s m args below meth c D cs b 6 s.heap (jE below D cs b evV args s rm_X8_readRecord.cells rm_X8_readRecord.slots) (f_X8_readRecord_L57 n a0 v1 v2 v3 v4 M) M 0 0 [(0, .ref (b + a0)), (1, .int v1), (2, .int v2), (3, .int v3), (4, .int v4)] 57 [] := by
  intro n
  induction n with
  | zero => intro a0 v1 v2 v3 v4 M h_a0; exact aw_none
  | succ n ih =>
    intro a0 v1 v2 v3 v4 M h_a0
    refine aw_callq (F' := if (21 : Int32) < v4 then (f_X8_readRecord_L136 a0 v1 v2 v3 M) else (orf (gr M a0 45) fun r29 => orf (gr M a0 24) fun r30 => if 0 ≤ v4 ∧ v4 < ln r30 then (if 0 ≤ v4 ∧ v4 < ln r29 then (sq (si M r29 v4 (vp_nar .boolean (gi M r30 v4))) fun M31 => orf (gr M31 a0 24) fun r33 => if 0 ≤ v4 ∧ v4 < ln r33 then (if (gi M31 r33 v4) = 0 then (f_X8_readRecord_L130 (f_X8_readRecord_L57 n) a0 v1 v2 v3 v4 M31) else (orf (gr M31 a0 2) fun r35 => if 0 ≤ (((22 : Int32) * v1) + v4) ∧ (((22 : Int32) * v1) + v4) < ln r35 then (if (gi M31 r35 (((22 : Int32) * v1) + v4)) = (-9 : Int32) then (if v3 = 0 then (f_X8_readRecord_L116 (f_X8_readRecord_L57 n) a0 v1 v2 v3 v4 M31) else (if v4 < (8 : Int32) then (f_X8_readRecord_L116 (f_X8_readRecord_L57 n) a0 v1 v2 v3 v4 M31) else (f_X8_readRecord_L130 (f_X8_readRecord_L57 n) a0 v1 v2 v3 v4 M31))) else (f_X8_readRecord_L130 (f_X8_readRecord_L57 n) a0 v1 v2 v3 v4 M31)) else none)) else none) else none) else none)) rfl ?_
    refine aw_iload (pc := 57) X 4 dX8_readRecord_57 rfl ?_
    refine aw_bipush (pc := 59) X (21 : Int32) dX8_readRecord_59 (by decide) ?_
    refine aw_icmpgt (pc := 61) X 136 dX8_readRecord_61 (by decide) ?_ ?_
    · refine aw_sub [0, 1, 2, 3] rfl ?_
      exact t_X8_readRecord_L136 X hr a0 v1 v2 v3 M h_a0
    · refine aw_aload_n (pc := 64) X 0 dX8_readRecord_64 rfl ?_
      refine gf_X8_96 (pc := 65) X dX8_readRecord_65 h_a0 (fun r29 h_r29 => ?_)
      refine aw_iload (pc := 68) X 4 dX8_readRecord_68 rfl ?_
      refine aw_aload_n (pc := 70) X 0 dX8_readRecord_70 rfl ?_
      refine gf_X8_52 (pc := 71) X dX8_readRecord_71 h_a0 (fun r30 h_r30 => ?_)
      refine aw_iload (pc := 74) X 4 dX8_readRecord_74 rfl ?_
      refine aw_zald (pc := 76) X dX8_readRecord_76 h_r30 ?_
      refine aw_zastQ (pc := 77) X dX8_readRecord_77 h_r29 (fun M31 g32 => ?_)
      have h_a0 := h_a0.mono g32
      refine aw_aload_n (pc := 78) X 0 dX8_readRecord_78 rfl ?_
      refine gf_X8_52 (pc := 79) X dX8_readRecord_79 h_a0 (fun r33 h_r33 => ?_)
      refine aw_iload (pc := 82) X 4 dX8_readRecord_82 rfl ?_
      refine aw_zald (pc := 84) X dX8_readRecord_84 h_r33 ?_
      refine aw_ifeq (pc := 85) X 130 dX8_readRecord_85 (by decide) ?_ ?_
      · refine aw_sub [0, 1, 2, 3, 4] rfl ?_
        exact t_X8_readRecord_L130 X hr (f_X8_readRecord_L57 n) ih a0 v1 v2 v3 v4 M31 h_a0
      · refine aw_aload_n (pc := 88) X 0 dX8_readRecord_88 rfl ?_
        refine gf_X8_13 (pc := 89) X dX8_readRecord_89 h_a0 (fun r35 h_r35 => ?_)
        refine aw_bipush (pc := 92) X (22 : Int32) dX8_readRecord_92 (by decide) ?_
        refine aw_iload_n (pc := 94) X 1 dX8_readRecord_94 rfl ?_
        refine aw_imul (pc := 95) X dX8_readRecord_95 ?_
        refine aw_iload (pc := 96) X 4 dX8_readRecord_96 rfl ?_
        refine aw_iadd (pc := 98) X dX8_readRecord_98 ?_
        refine aw_iald (pc := 99) X dX8_readRecord_99 h_r35 ?_
        refine aw_bipush (pc := 100) X (-9 : Int32) dX8_readRecord_100 (by decide) ?_
        refine aw_icmpne (pc := 102) X 130 dX8_readRecord_102 (by decide) ?_ ?_
        · refine aw_iload_n (pc := 105) X 3 dX8_readRecord_105 rfl ?_
          refine aw_ifeq (pc := 106) X 116 dX8_readRecord_106 (by decide) ?_ ?_
          · refine aw_sub [0, 1, 2, 3, 4] rfl ?_
            exact t_X8_readRecord_L116 X hr (f_X8_readRecord_L57 n) ih a0 v1 v2 v3 v4 M31 h_a0
          · refine aw_iload (pc := 109) X 4 dX8_readRecord_109 rfl ?_
            refine aw_bipush (pc := 111) X (8 : Int32) dX8_readRecord_111 (by decide) ?_
            refine aw_icmpge (pc := 113) X 130 dX8_readRecord_113 (by decide) ?_ ?_
            · refine aw_sub [0, 1, 2, 3, 4] rfl ?_
              exact t_X8_readRecord_L116 X hr (f_X8_readRecord_L57 n) ih a0 v1 v2 v3 v4 M31 h_a0
            · refine aw_sub [0, 1, 2, 3, 4] rfl ?_
              exact t_X8_readRecord_L130 X hr (f_X8_readRecord_L57 n) ih a0 v1 v2 v3 v4 M31 h_a0
        · refine aw_sub [0, 1, 2, 3, 4] rfl ?_
          exact t_X8_readRecord_L130 X hr (f_X8_readRecord_L57 n) ih a0 v1 v2 v3 v4 M31 h_a0
def f_X8_readRecord_L54 : Nat → Int32 → Int32 → Int32 → JM → Option (Unit × JM) := fun a0 v1 v2 v3 M => sv (1 : Int32) fun i5 => f_X8_readRecord_L57 FU a0 v1 v2 v3 i5 M
set_option maxRecDepth 10000 in
set_option maxHeartbeats 4000000 in
theorem t_X8_readRecord_L54 {p : Program} {l : Launch} {e : Env} {s : State} {m : MethodId} {args : Array Value} {below : List Frame} {meth : Method} {c : Code} {D : va_G} {cs : JC} {b : Nat} (X : jX p c cX8_readRecord 6 s m args RX8 D cs b meth s.heap) (hr : meth.sig.returnType = Option.none) : ∀ (a0 : Nat) (v1 : Int32) (v2 : Int32) (v3 : Int32) (M : JM), oty M a0 18 → AWO p l e rm_X8_readRecord s m args below meth c D cs b 6 s.heap (jE below D cs b evV args s rm_X8_readRecord.cells rm_X8_readRecord.slots) (f_X8_readRecord_L54 a0 v1 v2 v3 M) M 0 0 [(0, .ref (b + a0)), (1, .int v1), (2, .int v2), (3, .int v3)] 54 [] := by
  intro a0 v1 v2 v3 M h_a0
  refine aw_callq (F' := sv (1 : Int32) fun i5 => f_X8_readRecord_L57 FU a0 v1 v2 v3 i5 M) rfl ?_
  refine aw_iconst (pc := 54) X (1 : Int32) dX8_readRecord_54 (by decide) ?_
  refine aw_istoreV (pc := 55) X (fun y => [(4, .int y), (0, .ref (b + a0)), (1, .int v1), (2, .int v2), (3, .int v3)]) dX8_readRecord_55 (by decide) (fun _ => rfl) (fun i5 => ?_)
  refine aw_sub [1, 2, 3, 4, 0] rfl ?_
  exact t_X8_readRecord_L57 X hr FU a0 v1 v2 v3 i5 M h_a0
theorem gf_X8_139 {ρ : Type} {l : Launch} {p : Program} {e : Env} {R : Room} {s : State} {m : MethodId} {args : Array Value} {below : List Frame} {meth : Method} {c : Code} {D : va_G} {cs : JC} {b nL : Nat} {H0 : Heap} {Qf : ρ × JM → State → Prop} {M : JM} {ks sl : Nat} {lv : List (Nat × Value)} {pc : Nat} {st : List Value} {cc : ByteArray} {k : Nat} (X : jX p c cc nL s m args RX8 D cs b meth H0) {F : Option (ρ × JM)} (hdg : decode cc pc = .ok (.getfield 139, 3)) (ho : oty M k 18) (kk : AWO p l e R s m args below meth c D cs b nL H0 Qf F M ks sl lv (pc + 3) (.int (gi M k 12) :: st)) : AWO p l e R s m args below meth c D cs b nL H0 Qf F M ks sl lv pc (.ref (b + k) :: st) := aw_getI (ci := 8) X 12 rfl gy_X8 (by decide) rfl rfl wf_X8_139 hdg ho kk
def f_X8_readRecord_L24 : Nat → Int32 → Int32 → Int32 → JM → Option (Unit × JM) := fun a0 v1 v2 u0 M => sv u0 fun i4 => if i4 = 0 then (f_X8_readRecord_L54 a0 v1 v2 i4 M) else (if (gi M a0 11) = 0 then (f_X8_readRecord_L54 a0 v1 v2 i4 M) else (if v2 < (gi M a0 12) then (sq (si M a0 11 (0 : Int32)) fun M38 => sq (si M38 a0 44 (1 : Int32)) fun M40 => f_X8_readRecord_L54 a0 v1 v2 i4 M40) else (f_X8_readRecord_L54 a0 v1 v2 i4 M)))
set_option maxRecDepth 10000 in
set_option maxHeartbeats 4000000 in
theorem t_X8_readRecord_L24 {p : Program} {l : Launch} {e : Env} {s : State} {m : MethodId} {args : Array Value} {below : List Frame} {meth : Method} {c : Code} {D : va_G} {cs : JC} {b : Nat} (X : jX p c cX8_readRecord 6 s m args RX8 D cs b meth s.heap) (hr : meth.sig.returnType = Option.none) : ∀ (a0 : Nat) (v1 : Int32) (v2 : Int32) (u0 : Int32) (M : JM), oty M a0 18 → AWO p l e rm_X8_readRecord s m args below meth c D cs b 6 s.heap (jE below D cs b evV args s rm_X8_readRecord.cells rm_X8_readRecord.slots) (f_X8_readRecord_L24 a0 v1 v2 u0 M) M 0 0 [(0, .ref (b + a0)), (1, .int v1), (2, .int v2)] 24 [.int u0] := by
  intro a0 v1 v2 u0 M h_a0
  refine aw_callq (F' := sv u0 fun i4 => if i4 = 0 then (f_X8_readRecord_L54 a0 v1 v2 i4 M) else (if (gi M a0 11) = 0 then (f_X8_readRecord_L54 a0 v1 v2 i4 M) else (if v2 < (gi M a0 12) then (sq (si M a0 11 (0 : Int32)) fun M38 => sq (si M38 a0 44 (1 : Int32)) fun M40 => f_X8_readRecord_L54 a0 v1 v2 i4 M40) else (f_X8_readRecord_L54 a0 v1 v2 i4 M)))) rfl ?_
  refine aw_istoreV_n (pc := 24) X (fun y => [(3, .int y), (0, .ref (b + a0)), (1, .int v1), (2, .int v2)]) dX8_readRecord_24 (by decide) (fun _ => rfl) (fun i4 => ?_)
  refine aw_iload_n (pc := 25) X 0 dX8_readRecord_25 rfl ?_
  refine aw_ifeq (pc := 26) X 54 dX8_readRecord_26 (by decide) ?_ ?_
  · refine aw_sub [1, 2, 3, 0] rfl ?_
    exact t_X8_readRecord_L54 X hr a0 v1 v2 i4 M h_a0
  · refine aw_aload_n (pc := 29) X 1 dX8_readRecord_29 rfl ?_
    refine gf_X8_136 (pc := 30) X dX8_readRecord_30 h_a0 ?_
    refine aw_ifeq (pc := 33) X 54 dX8_readRecord_33 (by decide) ?_ ?_
    · refine aw_sub [1, 2, 3, 0] rfl ?_
      exact t_X8_readRecord_L54 X hr a0 v1 v2 i4 M h_a0
    · refine aw_aload_n (pc := 36) X 1 dX8_readRecord_36 rfl ?_
      refine gf_X8_139 (pc := 37) X dX8_readRecord_37 h_a0 ?_
      refine aw_iload_n (pc := 40) X 3 dX8_readRecord_40 rfl ?_
      refine aw_icmple (pc := 41) X 54 dX8_readRecord_41 (by decide) ?_ ?_
      · refine aw_aload_n (pc := 44) X 1 dX8_readRecord_44 rfl ?_
        refine aw_iconst (pc := 45) X (0 : Int32) dX8_readRecord_45 (by decide) ?_
        refine pf_X8_136 (pc := 46) X dX8_readRecord_46 h_a0 (fun M38 g39 => ?_)
        have h_a0 := h_a0.mono g39
        refine aw_aload_n (pc := 49) X 1 dX8_readRecord_49 rfl ?_
        refine aw_iconst (pc := 50) X (1 : Int32) dX8_readRecord_50 (by decide) ?_
        refine pf_X8_159 (pc := 51) X dX8_readRecord_51 h_a0 (fun M40 g41 => ?_)
        have h_a0 := h_a0.mono g41
        refine aw_sub [1, 2, 3, 0] rfl ?_
        exact t_X8_readRecord_L54 X hr a0 v1 v2 i4 M40 h_a0
      · refine aw_sub [1, 2, 3, 0] rfl ?_
        exact t_X8_readRecord_L54 X hr a0 v1 v2 i4 M h_a0
def f_X8_readRecord (a0 : Nat) (v1 : Int32) (M : JM) : Option (Unit × JM) := sv (gi M a0 9) fun i1 => ob (f_X8_readBits a0 (3 : Int32) M) fun _ M2 => if (gi M2 a0 20) = (8 : Int32) then (f_X8_readRecord_L24 a0 v1 i1 (1 : Int32) M2) else (f_X8_readRecord_L24 a0 v1 i1 (0 : Int32) M2)
set_option maxRecDepth 10000 in
set_option maxHeartbeats 4000000 in
theorem t_X8_readRecord {l : Launch} {D : va_G} {cs : JC} {b : Nat} (a0 : Nat) (v1 : Int32) (M : JM) (h_a0 : oty M a0 18) : ∀ q, f_X8_readRecord a0 v1 M = some q → CTy l yX8_readRecord (.code yX8_readRecord cX8_readRecord 6 (Option.none) :: GB) rm_X8_readRecord D cs b evV [.ref (b + a0), .int v1] M rm_X8_readRecord.cells rm_X8_readRecord.slots q := fun q hq => ct_of [(0, .ref (b + a0)), (1, .int v1)] rfl rfl (Nat.le_of_ble_eq_true rfl) hq (fun p e s m args below meth c X hr hin => by
  refine aw_callq (F' := sv (gi M a0 9) fun i1 => ob (f_X8_readBits a0 (3 : Int32) M) fun _ M2 => if (gi M2 a0 20) = (8 : Int32) then (f_X8_readRecord_L24 a0 v1 i1 (1 : Int32) M2) else (f_X8_readRecord_L24 a0 v1 i1 (0 : Int32) M2)) rfl ?_
  refine aw_aload_n (pc := 0) X 0 dX8_readRecord_0 rfl ?_
  refine gf_X8_142 (pc := 1) X dX8_readRecord_1 h_a0 ?_
  refine aw_istoreV_n (pc := 4) X (fun y => [(2, .int y), (0, .ref (b + a0)), (1, .int v1)]) dX8_readRecord_4 (by decide) (fun _ => rfl) (fun i1 => ?_)
  refine aw_aload_n (pc := 5) X 1 dX8_readRecord_5 rfl ?_
  refine aw_iconst (pc := 6) X (3 : Int32) dX8_readRecord_6 (by decide) ?_
  refine cl_X8_169 (pc := 7) X ⟨Nat.le_of_ble_eq_true rfl, Nat.le_of_ble_eq_true rfl⟩ (Nat.le_of_ble_eq_true rfl) (ks2 := 0) (sl2 := 0) rfl rfl ⟨(Nat.le_of_ble_eq_true rfl), (Nat.le_of_ble_eq_true rfl)⟩ dX8_readRecord_7 h_a0 (fun M2 g3 => ?_)
  have h_a0 := h_a0.mono g3
  refine aw_aload_n (pc := 10) X 1 dX8_readRecord_10 rfl ?_
  refine gf_X8_178 (pc := 11) X dX8_readRecord_11 h_a0 ?_
  refine aw_bipush (pc := 14) X (8 : Int32) dX8_readRecord_14 (by decide) ?_
  refine aw_icmpne (pc := 16) X 23 dX8_readRecord_16 (by decide) ?_ ?_
  · refine aw_iconst (pc := 19) X (1 : Int32) dX8_readRecord_19 (by decide) ?_
    refine aw_goto (pc := 20) X 24 dX8_readRecord_20 (by decide) ?_
    refine aw_sub [1, 2, 0] rfl ?_
    exact t_X8_readRecord_L24 X hr a0 v1 i1 (1 : Int32) M2 h_a0
  · refine aw_iconst (pc := 23) X (0 : Int32) dX8_readRecord_23 (by decide) ?_
    refine aw_sub [1, 2, 0] rfl ?_
    exact t_X8_readRecord_L24 X hr a0 v1 i1 (0 : Int32) M2 h_a0)
/-! ReportBlocksModel.readBlock -/
def rm_X8_readBlock : Room := { frames := 7, cells := 0, slots := 0, locals := 160 }
theorem hd_X8_readBlock : jHd yX8_readBlock 0 := by unfold jHd; decide +kernel
theorem pf_X8_145 {ρ : Type} {l : Launch} {p : Program} {e : Env} {R : Room} {s : State} {m : MethodId} {args : Array Value} {below : List Frame} {meth : Method} {c : Code} {D : va_G} {cs : JC} {b nL : Nat} {H0 : Heap} {Qf : ρ × JM → State → Prop} {M : JM} {ks sl : Nat} {lv : List (Nat × Value)} {pc : Nat} {st : List Value} {cc : ByteArray} {k : Nat} {K : JM → Option (ρ × JM)} (X : jX p c cc nL s m args RX8 D cs b meth H0) {x : Int32} (hdg : decode cc pc = .ok (.putfield 145, 3)) (ho : oty M k 18) (kk : ∀ M2 : JM, gn M ≤ gn M2 → AWO p l e R s m args below meth c D cs b nL H0 Qf (K M2) M2 ks sl lv (pc + 3) st) : AWO p l e R s m args below meth c D cs b nL H0 Qf (sq (si M k 10 x) K) M ks sl lv pc (.int x :: .ref (b + k) :: st) := aw_putI (ci := 8) X 10 rfl gy_X8 tyX8 tyX8_ok nmX8 (by decide) (by decide) rfl rfl wf_X8_145 rfl (Or.inl rfl) hdg ho (kk _ (Nat.le_refl _))
theorem cl_X8_184 {ρ : Type} {l : Launch} {p : Program} {e : Env} {R : Room} {s : State} {m : MethodId} {args : Array Value} {below : List Frame} {meth : Method} {c : Code} {D : va_G} {cs : JC} {b nL : Nat} {H0 : Heap} {Qf : ρ × JM → State → Prop} {M : JM} {ks sl : Nat} {lv : List (Nat × Value)} {pc : Nat} {st : List Value} {cc : ByteArray} (X : jX p c cc nL s m args RX8 D cs b meth H0) {z0 : Nat} {z1 : Int32} {K : JM → Option (ρ × JM)} (hrm : jRm rm_X8_readRecord 6 R) (hW : (st.map fun v => v.category).sum ≤ 8) {ks2 sl2 : Nat} (hk2 : ks + rm_X8_readRecord.cells = ks2) (hs2 : sl + rm_X8_readRecord.slots = sl2) (hroom : ks2 ≤ R.cells ∧ sl2 ≤ R.slots) (hdg : decode cc pc = .ok (.invokevirtual 184, 3)) (h0 : oty M z0 18) (kk : ∀ (M2 : JM), gn M ≤ gn M2 → AWO p l e R s m args below meth c D cs b nL H0 Qf (K M2) M2 ks2 sl2 lv (pc + 3) (st)) : AWO p l e R s m args below meth c D cs b nL H0 Qf (ob (f_X8_readRecord z0 z1 M) (fun _ => K)) M ks sl lv pc (.int z1 :: .ref (b + z0) :: st) := by
  subst hk2
  subst hs2
  exact aw_callV (ci := 8) X [.int z1] st rfl rfl wl_X8_184 wi_X8_readRecord wv_X8_readRecord wc_X8_readRecord wn_X8 (n := 1) hd_X8_readRecord rfl hrm hW hroom hdg h0 (t_X8_readRecord z0 z1 M h0) (fun _ M2 g _ => kk M2 g)
def f_X8_readBlock_L84 : Nat → Nat → Int32 → JM → Option (Int32 × JM)
  | 0, _, _, _ => none
  | n + 1, a0, v1, M => if (gi M a0 11) = 0 then (if (gi M a0 9) < (gi M a0 10) then (ob (f_X8_readRecord a0 v1 M) fun _ M17 => (f_X8_readBlock_L84 n) a0 v1 M17) else (some (v1, M))) else (some (v1, M))
set_option maxRecDepth 10000 in
set_option maxHeartbeats 4000000 in
theorem t_X8_readBlock_L84 {p : Program} {l : Launch} {e : Env} {s : State} {m : MethodId} {args : Array Value} {below : List Frame} {meth : Method} {c : Code} {D : va_G} {cs : JC} {b : Nat} (X : jX p c cX8_readBlock 3 s m args RX8 D cs b meth s.heap) (hr : meth.sig.returnType = Option.some Jvm.ClassFile.FieldType.int) : ∀ (n : Nat) (a0 : Nat) (v1 : Int32) (M : JM), oty M a0 18 → AWO p l e rm_X8_readBlock s m args below meth c D cs b 3 s.heap (jE below D cs b evI args s rm_X8_readBlock.cells rm_X8_readBlock.slots) (f_X8_readBlock_L84 n a0 v1 M) M 0 0 [(0, .ref (b + a0)), (1, .int v1)] 84 [] := by
  intro n
  induction n with
  | zero => intro a0 v1 M h_a0; exact aw_none
  | succ n ih =>
    intro a0 v1 M h_a0
    refine aw_callq (F' := if (gi M a0 11) = 0 then (if (gi M a0 9) < (gi M a0 10) then (ob (f_X8_readRecord a0 v1 M) fun _ M17 => (f_X8_readBlock_L84 n) a0 v1 M17) else (some (v1, M))) else (some (v1, M))) rfl ?_
    refine aw_aload_n (pc := 84) X 0 dX8_readBlock_84 rfl ?_
    refine gf_X8_136 (pc := 85) X dX8_readBlock_85 h_a0 ?_
    refine aw_ifne (pc := 88) X 110 dX8_readBlock_88 (by decide) ?_ ?_
    · refine aw_aload_n (pc := 91) X 0 dX8_readBlock_91 rfl ?_
      refine gf_X8_142 (pc := 92) X dX8_readBlock_92 h_a0 ?_
      refine aw_aload_n (pc := 95) X 0 dX8_readBlock_95 rfl ?_
      refine gf_X8_145 (pc := 96) X dX8_readBlock_96 h_a0 ?_
      refine aw_icmpge (pc := 99) X 110 dX8_readBlock_99 (by decide) ?_ ?_
      · refine aw_aload_n (pc := 102) X 0 dX8_readBlock_102 rfl ?_
        refine aw_iload_n (pc := 103) X 1 dX8_readBlock_103 rfl ?_
        refine cl_X8_184 (pc := 104) X ⟨Nat.le_of_ble_eq_true rfl, Nat.le_of_ble_eq_true rfl⟩ (Nat.le_of_ble_eq_true rfl) (ks2 := 0) (sl2 := 0) rfl rfl ⟨(Nat.le_of_ble_eq_true rfl), (Nat.le_of_ble_eq_true rfl)⟩ dX8_readBlock_104 h_a0 (fun M17 g18 => ?_)
        have h_a0 := h_a0.mono g18
        refine aw_goto (pc := 107) X 84 dX8_readBlock_107 (by decide) ?_
        refine aw_sub [0, 1] rfl ?_
        exact ih a0 v1 M17 h_a0
      · refine aw_iload_n (pc := 110) X 1 dX8_readBlock_110 rfl ?_
        exact aw_iret (pc := 111) X hr dX8_readBlock_111 (Nat.le_of_ble_eq_true rfl) (Nat.le_of_ble_eq_true rfl)
    · refine aw_iload_n (pc := 110) X 1 dX8_readBlock_110 rfl ?_
      exact aw_iret (pc := 111) X hr dX8_readBlock_111 (Nat.le_of_ble_eq_true rfl) (Nat.le_of_ble_eq_true rfl)
def f_X8_readBlock_L69 : Nat → Int32 → Int32 → JM → Option (Int32 × JM) := fun a0 v1 v2 M => sq (si M a0 9 (3 : Int32)) fun M11 => sq (si M11 a0 10 v2) fun M13 => sq (si M13 a0 20 (0 : Int32)) fun M15 => f_X8_readBlock_L84 FU a0 v1 M15
set_option maxRecDepth 10000 in
set_option maxHeartbeats 4000000 in
theorem t_X8_readBlock_L69 {p : Program} {l : Launch} {e : Env} {s : State} {m : MethodId} {args : Array Value} {below : List Frame} {meth : Method} {c : Code} {D : va_G} {cs : JC} {b : Nat} (X : jX p c cX8_readBlock 3 s m args RX8 D cs b meth s.heap) (hr : meth.sig.returnType = Option.some Jvm.ClassFile.FieldType.int) : ∀ (a0 : Nat) (v1 : Int32) (v2 : Int32) (M : JM), oty M a0 18 → AWO p l e rm_X8_readBlock s m args below meth c D cs b 3 s.heap (jE below D cs b evI args s rm_X8_readBlock.cells rm_X8_readBlock.slots) (f_X8_readBlock_L69 a0 v1 v2 M) M 0 0 [(0, .ref (b + a0)), (1, .int v1), (2, .int v2)] 69 [] := by
  intro a0 v1 v2 M h_a0
  refine aw_callq (F' := sq (si M a0 9 (3 : Int32)) fun M11 => sq (si M11 a0 10 v2) fun M13 => sq (si M13 a0 20 (0 : Int32)) fun M15 => f_X8_readBlock_L84 FU a0 v1 M15) rfl ?_
  refine aw_aload_n (pc := 69) X 0 dX8_readBlock_69 rfl ?_
  refine aw_iconst (pc := 70) X (3 : Int32) dX8_readBlock_70 (by decide) ?_
  refine pf_X8_142 (pc := 71) X dX8_readBlock_71 h_a0 (fun M11 g12 => ?_)
  have h_a0 := h_a0.mono g12
  refine aw_aload_n (pc := 74) X 0 dX8_readBlock_74 rfl ?_
  refine aw_iload_n (pc := 75) X 2 dX8_readBlock_75 rfl ?_
  refine pf_X8_145 (pc := 76) X dX8_readBlock_76 h_a0 (fun M13 g14 => ?_)
  have h_a0 := h_a0.mono g14
  refine aw_aload_n (pc := 79) X 0 dX8_readBlock_79 rfl ?_
  refine aw_iconst (pc := 80) X (0 : Int32) dX8_readBlock_80 (by decide) ?_
  refine pf_X8_178 (pc := 81) X dX8_readBlock_81 h_a0 (fun M15 g16 => ?_)
  have h_a0 := h_a0.mono g16
  refine aw_sub [0, 1] rfl ?_
  exact t_X8_readBlock_L84 X hr FU a0 v1 M15 h_a0
def f_X8_readBlock_L63 : Nat → Int32 → Int32 → JM → Option (Int32 × JM) := fun a0 v1 v2 M => ob (f_X8_fails a0 (2 : Int32) (1 : Int32) M) fun _ M9 => f_X8_readBlock_L69 a0 v1 v2 M9
set_option maxRecDepth 10000 in
set_option maxHeartbeats 4000000 in
theorem t_X8_readBlock_L63 {p : Program} {l : Launch} {e : Env} {s : State} {m : MethodId} {args : Array Value} {below : List Frame} {meth : Method} {c : Code} {D : va_G} {cs : JC} {b : Nat} (X : jX p c cX8_readBlock 3 s m args RX8 D cs b meth s.heap) (hr : meth.sig.returnType = Option.some Jvm.ClassFile.FieldType.int) : ∀ (a0 : Nat) (v1 : Int32) (v2 : Int32) (M : JM), oty M a0 18 → AWO p l e rm_X8_readBlock s m args below meth c D cs b 3 s.heap (jE below D cs b evI args s rm_X8_readBlock.cells rm_X8_readBlock.slots) (f_X8_readBlock_L63 a0 v1 v2 M) M 0 0 [(0, .ref (b + a0)), (1, .int v1), (2, .int v2)] 63 [] := by
  intro a0 v1 v2 M h_a0
  refine aw_callq (F' := ob (f_X8_fails a0 (2 : Int32) (1 : Int32) M) fun _ M9 => f_X8_readBlock_L69 a0 v1 v2 M9) rfl ?_
  refine aw_aload_n (pc := 63) X 0 dX8_readBlock_63 rfl ?_
  refine aw_iconst (pc := 64) X (2 : Int32) dX8_readBlock_64 (by decide) ?_
  refine aw_iconst (pc := 65) X (1 : Int32) dX8_readBlock_65 (by decide) ?_
  refine cl_X8_148 (pc := 66) X ⟨Nat.le_of_ble_eq_true rfl, Nat.le_of_ble_eq_true rfl⟩ (Nat.le_of_ble_eq_true rfl) (ks2 := 0) (sl2 := 0) rfl rfl ⟨(Nat.le_of_ble_eq_true rfl), (Nat.le_of_ble_eq_true rfl)⟩ dX8_readBlock_66 h_a0 (fun M9 g10 => ?_)
  have h_a0 := h_a0.mono g10
  refine aw_sub [0, 1, 2] rfl ?_
  exact t_X8_readBlock_L69 X hr a0 v1 v2 M9 h_a0
def f_X8_readBlock_L49 : Nat → Int32 → Int32 → JM → Option (Int32 × JM) := fun a0 v1 u0 M => sv u0 fun i8 => if i8 < (4 : Int32) then (f_X8_readBlock_L63 a0 v1 i8 M) else (if (gi M a0 8) < i8 then (f_X8_readBlock_L63 a0 v1 i8 M) else (f_X8_readBlock_L69 a0 v1 i8 M))
set_option maxRecDepth 10000 in
set_option maxHeartbeats 4000000 in
theorem t_X8_readBlock_L49 {p : Program} {l : Launch} {e : Env} {s : State} {m : MethodId} {args : Array Value} {below : List Frame} {meth : Method} {c : Code} {D : va_G} {cs : JC} {b : Nat} (X : jX p c cX8_readBlock 3 s m args RX8 D cs b meth s.heap) (hr : meth.sig.returnType = Option.some Jvm.ClassFile.FieldType.int) : ∀ (a0 : Nat) (v1 : Int32) (u0 : Int32) (M : JM), oty M a0 18 → AWO p l e rm_X8_readBlock s m args below meth c D cs b 3 s.heap (jE below D cs b evI args s rm_X8_readBlock.cells rm_X8_readBlock.slots) (f_X8_readBlock_L49 a0 v1 u0 M) M 0 0 [(0, .ref (b + a0)), (1, .int v1)] 49 [.int u0] := by
  intro a0 v1 u0 M h_a0
  refine aw_callq (F' := sv u0 fun i8 => if i8 < (4 : Int32) then (f_X8_readBlock_L63 a0 v1 i8 M) else (if (gi M a0 8) < i8 then (f_X8_readBlock_L63 a0 v1 i8 M) else (f_X8_readBlock_L69 a0 v1 i8 M))) rfl ?_
  refine aw_istoreV_n (pc := 49) X (fun y => [(2, .int y), (0, .ref (b + a0)), (1, .int v1)]) dX8_readBlock_49 (by decide) (fun _ => rfl) (fun i8 => ?_)
  refine aw_iload_n (pc := 50) X 0 dX8_readBlock_50 rfl ?_
  refine aw_iconst (pc := 51) X (4 : Int32) dX8_readBlock_51 (by decide) ?_
  refine aw_icmplt (pc := 52) X 63 dX8_readBlock_52 (by decide) ?_ ?_
  · refine aw_sub [1, 2, 0] rfl ?_
    exact t_X8_readBlock_L63 X hr a0 v1 i8 M h_a0
  · refine aw_iload_n (pc := 55) X 0 dX8_readBlock_55 rfl ?_
    refine aw_aload_n (pc := 56) X 1 dX8_readBlock_56 rfl ?_
    refine gf_X8_133 (pc := 57) X dX8_readBlock_57 h_a0 ?_
    refine aw_icmple (pc := 60) X 69 dX8_readBlock_60 (by decide) ?_ ?_
    · refine aw_sub [1, 2, 0] rfl ?_
      exact t_X8_readBlock_L63 X hr a0 v1 i8 M h_a0
    · refine aw_sub [1, 2, 0] rfl ?_
      exact t_X8_readBlock_L69 X hr a0 v1 i8 M h_a0
def f_X8_readBlock_L21 : Nat → Int32 → JM → Option (Int32 × JM) := fun a0 v1 M => if (gi M a0 8) < (3 : Int32) then (f_X8_readBlock_L49 a0 v1 (0 : Int32) M) else (orf (gr M a0 7) fun r6 => if 0 ≤ (1 : Int32) ∧ (1 : Int32) < ln r6 then (orf (gr M a0 7) fun r7 => if 0 ≤ (2 : Int32) ∧ (2 : Int32) < ln r7 then (f_X8_readBlock_L49 a0 v1 (((gi M r6 (1 : Int32)) <<< ((8 : Int32) &&& 31)) ||| (gi M r7 (2 : Int32))) M) else none) else none)
set_option maxRecDepth 10000 in
set_option maxHeartbeats 4000000 in
theorem t_X8_readBlock_L21 {p : Program} {l : Launch} {e : Env} {s : State} {m : MethodId} {args : Array Value} {below : List Frame} {meth : Method} {c : Code} {D : va_G} {cs : JC} {b : Nat} (X : jX p c cX8_readBlock 3 s m args RX8 D cs b meth s.heap) (hr : meth.sig.returnType = Option.some Jvm.ClassFile.FieldType.int) : ∀ (a0 : Nat) (v1 : Int32) (M : JM), oty M a0 18 → AWO p l e rm_X8_readBlock s m args below meth c D cs b 3 s.heap (jE below D cs b evI args s rm_X8_readBlock.cells rm_X8_readBlock.slots) (f_X8_readBlock_L21 a0 v1 M) M 0 0 [(0, .ref (b + a0)), (1, .int v1)] 21 [] := by
  intro a0 v1 M h_a0
  refine aw_callq (F' := if (gi M a0 8) < (3 : Int32) then (f_X8_readBlock_L49 a0 v1 (0 : Int32) M) else (orf (gr M a0 7) fun r6 => if 0 ≤ (1 : Int32) ∧ (1 : Int32) < ln r6 then (orf (gr M a0 7) fun r7 => if 0 ≤ (2 : Int32) ∧ (2 : Int32) < ln r7 then (f_X8_readBlock_L49 a0 v1 (((gi M r6 (1 : Int32)) <<< ((8 : Int32) &&& 31)) ||| (gi M r7 (2 : Int32))) M) else none) else none)) rfl ?_
  refine aw_aload_n (pc := 21) X 0 dX8_readBlock_21 rfl ?_
  refine gf_X8_133 (pc := 22) X dX8_readBlock_22 h_a0 ?_
  refine aw_iconst (pc := 25) X (3 : Int32) dX8_readBlock_25 (by decide) ?_
  refine aw_icmpge (pc := 26) X 33 dX8_readBlock_26 (by decide) ?_ ?_
  · refine aw_iconst (pc := 29) X (0 : Int32) dX8_readBlock_29 (by decide) ?_
    refine aw_goto (pc := 30) X 49 dX8_readBlock_30 (by decide) ?_
    refine aw_sub [0, 1] rfl ?_
    exact t_X8_readBlock_L49 X hr a0 v1 (0 : Int32) M h_a0
  · refine aw_aload_n (pc := 33) X 0 dX8_readBlock_33 rfl ?_
    refine gf_X8_28 (pc := 34) X dX8_readBlock_34 h_a0 (fun r6 h_r6 => ?_)
    refine aw_iconst (pc := 37) X (1 : Int32) dX8_readBlock_37 (by decide) ?_
    refine aw_iald (pc := 38) X dX8_readBlock_38 h_r6 ?_
    refine aw_bipush (pc := 39) X (8 : Int32) dX8_readBlock_39 (by decide) ?_
    refine aw_ishl (pc := 41) X dX8_readBlock_41 ?_
    refine aw_aload_n (pc := 42) X 0 dX8_readBlock_42 rfl ?_
    refine gf_X8_28 (pc := 43) X dX8_readBlock_43 h_a0 (fun r7 h_r7 => ?_)
    refine aw_iconst (pc := 46) X (2 : Int32) dX8_readBlock_46 (by decide) ?_
    refine aw_iald (pc := 47) X dX8_readBlock_47 h_r7 ?_
    refine aw_ior (pc := 48) X dX8_readBlock_48 ?_
    refine aw_sub [0, 1] rfl ?_
    exact t_X8_readBlock_L49 X hr a0 v1 (((gi M r6 (1 : Int32)) <<< ((8 : Int32) &&& 31)) ||| (gi M r7 (2 : Int32))) M h_a0
def f_X8_readBlock (a0 : Nat) (M : JM) : Option (Int32 × JM) := orf (gr M a0 7) fun r1 => if 0 ≤ (0 : Int32) ∧ (0 : Int32) < ln r1 then (ob (f_X8_find a0 (gi M r1 (0 : Int32)) M) fun r4 M2 => sv r4 fun i5 => if i5 < 0 then (ob (f_X8_fails a0 (1 : Int32) (0 : Int32) M2) fun _ M19 => f_X8_readBlock_L21 a0 i5 M19) else (f_X8_readBlock_L21 a0 i5 M2)) else none
set_option maxRecDepth 10000 in
set_option maxHeartbeats 4000000 in
theorem t_X8_readBlock {l : Launch} {D : va_G} {cs : JC} {b : Nat} (a0 : Nat) (M : JM) (h_a0 : oty M a0 18) : ∀ q, f_X8_readBlock a0 M = some q → CTy l yX8_readBlock (.code yX8_readBlock cX8_readBlock 3 (Option.some Jvm.ClassFile.FieldType.int) :: GB) rm_X8_readBlock D cs b evI [.ref (b + a0)] M rm_X8_readBlock.cells rm_X8_readBlock.slots q := fun q hq => ct_of [(0, .ref (b + a0))] rfl rfl (Nat.le_of_ble_eq_true rfl) hq (fun p e s m args below meth c X hr hin => by
  refine aw_callq (F' := orf (gr M a0 7) fun r1 => if 0 ≤ (0 : Int32) ∧ (0 : Int32) < ln r1 then (ob (f_X8_find a0 (gi M r1 (0 : Int32)) M) fun r4 M2 => sv r4 fun i5 => if i5 < 0 then (ob (f_X8_fails a0 (1 : Int32) (0 : Int32) M2) fun _ M19 => f_X8_readBlock_L21 a0 i5 M19) else (f_X8_readBlock_L21 a0 i5 M2)) else none) rfl ?_
  refine aw_aload_n (pc := 0) X 0 dX8_readBlock_0 rfl ?_
  refine aw_aload_n (pc := 1) X 0 dX8_readBlock_1 rfl ?_
  refine gf_X8_28 (pc := 2) X dX8_readBlock_2 h_a0 (fun r1 h_r1 => ?_)
  refine aw_iconst (pc := 5) X (0 : Int32) dX8_readBlock_5 (by decide) ?_
  refine aw_iald (pc := 6) X dX8_readBlock_6 h_r1 ?_
  refine cl_X8_109 (pc := 7) X ⟨Nat.le_of_ble_eq_true rfl, Nat.le_of_ble_eq_true rfl⟩ (Nat.le_of_ble_eq_true rfl) (ks2 := 0) (sl2 := 0) rfl rfl ⟨(Nat.le_of_ble_eq_true rfl), (Nat.le_of_ble_eq_true rfl)⟩ dX8_readBlock_7 h_a0 (fun r4 M2 g3 => ?_)
  have h_a0 := h_a0.mono g3
  refine aw_istoreV_n (pc := 10) X (fun y => [(1, .int y), (0, .ref (b + a0))]) dX8_readBlock_10 (by decide) (fun _ => rfl) (fun i5 => ?_)
  refine aw_iload_n (pc := 11) X 0 dX8_readBlock_11 rfl ?_
  refine aw_ifge (pc := 12) X 21 dX8_readBlock_12 (by decide) ?_ ?_
  · refine aw_aload_n (pc := 15) X 1 dX8_readBlock_15 rfl ?_
    refine aw_iconst (pc := 16) X (1 : Int32) dX8_readBlock_16 (by decide) ?_
    refine aw_iconst (pc := 17) X (0 : Int32) dX8_readBlock_17 (by decide) ?_
    refine cl_X8_148 (pc := 18) X ⟨Nat.le_of_ble_eq_true rfl, Nat.le_of_ble_eq_true rfl⟩ (Nat.le_of_ble_eq_true rfl) (ks2 := 0) (sl2 := 0) rfl rfl ⟨(Nat.le_of_ble_eq_true rfl), (Nat.le_of_ble_eq_true rfl)⟩ dX8_readBlock_18 h_a0 (fun M19 g20 => ?_)
    have h_a0 := h_a0.mono g20
    refine aw_sub [1, 0] rfl ?_
    exact t_X8_readBlock_L21 X hr a0 i5 M19 h_a0
  · refine aw_sub [1, 0] rfl ?_
    exact t_X8_readBlock_L21 X hr a0 i5 M2 h_a0)
/-! ReportBlocksModel.read -/
def rm_X8_read : Room := { frames := 8, cells := 0, slots := 0, locals := 182 }
theorem hd_X8_read : jHd yX8_read 0 := by unfold jHd; decide +kernel
theorem cl_X8_187 {ρ : Type} {l : Launch} {p : Program} {e : Env} {R : Room} {s : State} {m : MethodId} {args : Array Value} {below : List Frame} {meth : Method} {c : Code} {D : va_G} {cs : JC} {b nL : Nat} {H0 : Heap} {Qf : ρ × JM → State → Prop} {M : JM} {ks sl : Nat} {lv : List (Nat × Value)} {pc : Nat} {st : List Value} {cc : ByteArray} (X : jX p c cc nL s m args RX8 D cs b meth H0) {z0 : Nat} {K : Int32 → JM → Option (ρ × JM)} (hrm : jRm rm_X8_readBlock 3 R) (hW : (st.map fun v => v.category).sum ≤ 8) {ks2 sl2 : Nat} (hk2 : ks + rm_X8_readBlock.cells = ks2) (hs2 : sl + rm_X8_readBlock.slots = sl2) (hroom : ks2 ≤ R.cells ∧ sl2 ≤ R.slots) (hdg : decode cc pc = .ok (.invokevirtual 187, 3)) (h0 : oty M z0 18) (kk : ∀ (r : Int32) (M2 : JM), gn M ≤ gn M2 → AWO p l e R s m args below meth c D cs b nL H0 Qf (K r M2) M2 ks2 sl2 lv (pc + 3) (.int r :: st)) : AWO p l e R s m args below meth c D cs b nL H0 Qf (ob (f_X8_readBlock z0 M) K) M ks sl lv pc (.ref (b + z0) :: st) := by
  subst hk2
  subst hs2
  exact aw_callV (ci := 8) X [] st rfl rfl wl_X8_187 wi_X8_readBlock wv_X8_readBlock wc_X8_readBlock wn_X8 (n := 0) hd_X8_readBlock rfl hrm hW hroom hdg h0 (t_X8_readBlock z0 M h0) (fun r M2 g _ => kk r M2 g)
theorem pf_X8_190 {ρ : Type} {l : Launch} {p : Program} {e : Env} {R : Room} {s : State} {m : MethodId} {args : Array Value} {below : List Frame} {meth : Method} {c : Code} {D : va_G} {cs : JC} {b nL : Nat} {H0 : Heap} {Qf : ρ × JM → State → Prop} {M : JM} {ks sl : Nat} {lv : List (Nat × Value)} {pc : Nat} {st : List Value} {cc : ByteArray} {k : Nat} {K : JM → Option (ρ × JM)} (X : jX p c cc nL s m args RX8 D cs b meth H0) {x : Int32} (hdg : decode cc pc = .ok (.putfield 190, 3)) (ho : oty M k 18) (kk : ∀ M2 : JM, gn M ≤ gn M2 → AWO p l e R s m args below meth c D cs b nL H0 Qf (K M2) M2 ks sl lv (pc + 3) st) : AWO p l e R s m args below meth c D cs b nL H0 Qf (sq (si M k 13 x) K) M ks sl lv pc (.int x :: .ref (b + k) :: st) := aw_putI (ci := 8) X 13 rfl gy_X8 tyX8 tyX8_ok nmX8 (by decide) (by decide) rfl rfl wf_X8_190 rfl (Or.inl rfl) hdg ho (kk _ (Nat.le_refl _))
theorem pf_X8_117 {ρ : Type} {l : Launch} {p : Program} {e : Env} {R : Room} {s : State} {m : MethodId} {args : Array Value} {below : List Frame} {meth : Method} {c : Code} {D : va_G} {cs : JC} {b nL : Nat} {H0 : Heap} {Qf : ρ × JM → State → Prop} {M : JM} {ks sl : Nat} {lv : List (Nat × Value)} {pc : Nat} {st : List Value} {cc : ByteArray} {k : Nat} {K : JM → Option (ρ × JM)} (X : jX p c cc nL s m args RX8 D cs b meth H0) {x : Int32} (hdg : decode cc pc = .ok (.putfield 117, 3)) (ho : oty M k 18) (kk : ∀ M2 : JM, gn M ≤ gn M2 → AWO p l e R s m args below meth c D cs b nL H0 Qf (K M2) M2 ks sl lv (pc + 3) st) : AWO p l e R s m args below meth c D cs b nL H0 Qf (sq (si M k 14 x) K) M ks sl lv pc (.int x :: .ref (b + k) :: st) := aw_putI (ci := 8) X 14 rfl gy_X8 tyX8 tyX8_ok nmX8 (by decide) (by decide) rfl rfl wf_X8_117 rfl (Or.inl rfl) hdg ho (kk _ (Nat.le_refl _))
theorem gf_X8_193 {ρ : Type} {l : Launch} {p : Program} {e : Env} {R : Room} {s : State} {m : MethodId} {args : Array Value} {below : List Frame} {meth : Method} {c : Code} {D : va_G} {cs : JC} {b nL : Nat} {H0 : Heap} {Qf : ρ × JM → State → Prop} {M : JM} {ks sl : Nat} {lv : List (Nat × Value)} {pc : Nat} {st : List Value} {cc : ByteArray} {k : Nat} (X : jX p c cc nL s m args RX8 D cs b meth H0) {F : Option (ρ × JM)} (hdg : decode cc pc = .ok (.getfield 193, 3)) (ho : oty M k 18) (kk : AWO p l e R s m args below meth c D cs b nL H0 Qf F M ks sl lv (pc + 3) (.int (gi M k 42) :: st)) : AWO p l e R s m args below meth c D cs b nL H0 Qf F M ks sl lv pc (.ref (b + k) :: st) := aw_getI (ci := 8) X 42 rfl gy_X8 (by decide) rfl rfl wf_X8_193 hdg ho kk
theorem pf_X8_193 {ρ : Type} {l : Launch} {p : Program} {e : Env} {R : Room} {s : State} {m : MethodId} {args : Array Value} {below : List Frame} {meth : Method} {c : Code} {D : va_G} {cs : JC} {b nL : Nat} {H0 : Heap} {Qf : ρ × JM → State → Prop} {M : JM} {ks sl : Nat} {lv : List (Nat × Value)} {pc : Nat} {st : List Value} {cc : ByteArray} {k : Nat} {K : JM → Option (ρ × JM)} (X : jX p c cc nL s m args RX8 D cs b meth H0) {x : Int32} (hdg : decode cc pc = .ok (.putfield 193, 3)) (ho : oty M k 18) (kk : ∀ M2 : JM, gn M ≤ gn M2 → AWO p l e R s m args below meth c D cs b nL H0 Qf (K M2) M2 ks sl lv (pc + 3) st) : AWO p l e R s m args below meth c D cs b nL H0 Qf (sq (si M k 42 x) K) M ks sl lv pc (.int x :: .ref (b + k) :: st) := aw_putI (ci := 8) X 42 rfl gy_X8 tyX8 tyX8_ok nmX8 (by decide) (by decide) rfl rfl wf_X8_193 rfl (Or.inl rfl) hdg ho (kk _ (Nat.le_refl _))
def f_X8_read_L187 : Nat → JM → Option (Int32 × JM) := fun a0 M => sq (si M a0 8 ((gi M a0 8) - (gi M a0 10))) fun M18 => some ((gi M18 a0 14), M18)
set_option maxRecDepth 10000 in
set_option maxHeartbeats 4000000 in
theorem t_X8_read_L187 {p : Program} {l : Launch} {e : Env} {s : State} {m : MethodId} {args : Array Value} {below : List Frame} {meth : Method} {c : Code} {D : va_G} {cs : JC} {b : Nat} (X : jX p c cX8_read 3 s m args RX8 D cs b meth s.heap) (hr : meth.sig.returnType = Option.some Jvm.ClassFile.FieldType.int) : ∀ (a0 : Nat) (M : JM), oty M a0 18 → AWO p l e rm_X8_read s m args below meth c D cs b 3 s.heap (jE below D cs b evI args s rm_X8_read.cells rm_X8_read.slots) (f_X8_read_L187 a0 M) M 0 0 [(0, .ref (b + a0))] 187 [] := by
  intro a0 M h_a0
  refine aw_callq (F' := sq (si M a0 8 ((gi M a0 8) - (gi M a0 10))) fun M18 => some ((gi M18 a0 14), M18)) rfl ?_
  refine aw_aload_n (pc := 187) X 0 dX8_read_187 rfl ?_
  refine aw_dup_a (pc := 188) X dX8_read_188 ?_
  refine gf_X8_133 (pc := 189) X dX8_read_189 h_a0 ?_
  refine aw_aload_n (pc := 192) X 0 dX8_read_192 rfl ?_
  refine gf_X8_145 (pc := 193) X dX8_read_193 h_a0 ?_
  refine aw_isub (pc := 196) X dX8_read_196 ?_
  refine pf_X8_133 (pc := 197) X dX8_read_197 h_a0 (fun M18 g19 => ?_)
  have h_a0 := h_a0.mono g19
  refine aw_aload_n (pc := 200) X 0 dX8_read_200 rfl ?_
  refine gf_X8_117 (pc := 201) X dX8_read_201 h_a0 ?_
  exact aw_iret (pc := 204) X hr dX8_read_204 (Nat.le_of_ble_eq_true rfl) (Nat.le_of_ble_eq_true rfl)
def f_X8_read_L181 (k133 : Nat → Int32 → JM → Option (Int32 × JM)) : Nat → Int32 → JM → Option (Int32 × JM) := fun a0 v2 M => sv (v2 + (1 : Int32)) fun i24 => k133 a0 i24 M
set_option maxRecDepth 10000 in
set_option maxHeartbeats 4000000 in
theorem t_X8_read_L181 {p : Program} {l : Launch} {e : Env} {s : State} {m : MethodId} {args : Array Value} {below : List Frame} {meth : Method} {c : Code} {D : va_G} {cs : JC} {b : Nat} (X : jX p c cX8_read 3 s m args RX8 D cs b meth s.heap) (hr : meth.sig.returnType = Option.some Jvm.ClassFile.FieldType.int) (k133 : Nat → Int32 → JM → Option (Int32 × JM)) (hk133 : ∀ (a0 : Nat) (v2 : Int32) (M : JM), oty M a0 18 → AWO p l e rm_X8_read s m args below meth c D cs b 3 s.heap (jE below D cs b evI args s rm_X8_read.cells rm_X8_read.slots) (k133 a0 v2 M) M 0 0 [(0, .ref (b + a0)), (2, .int v2)] 133 []) : ∀ (a0 : Nat) (v2 : Int32) (M : JM), oty M a0 18 → AWO p l e rm_X8_read s m args below meth c D cs b 3 s.heap (jE below D cs b evI args s rm_X8_read.cells rm_X8_read.slots) (f_X8_read_L181 k133 a0 v2 M) M 0 0 [(0, .ref (b + a0)), (2, .int v2)] 181 [] := by
  intro a0 v2 M h_a0
  refine aw_callq (F' := sv (v2 + (1 : Int32)) fun i24 => k133 a0 i24 M) rfl ?_
  refine aw_iincV (pc := 181) X (fun y => [(2, .int y), (0, .ref (b + a0))]) 1 (v := (v2 + (1 : Int32))) dX8_read_181 rfl rfl (by decide) (fun _ => rfl) (fun i24 => ?_)
  refine aw_goto (pc := 184) X 133 dX8_read_184 (by decide) ?_
  refine aw_sub [1, 0] rfl ?_
  exact hk133 a0 i24 M h_a0
theorem gf_X8_31 {ρ : Type} {l : Launch} {p : Program} {e : Env} {R : Room} {s : State} {m : MethodId} {args : Array Value} {below : List Frame} {meth : Method} {c : Code} {D : va_G} {cs : JC} {b nL : Nat} {H0 : Heap} {Qf : ρ × JM → State → Prop} {M : JM} {ks sl : Nat} {lv : List (Nat × Value)} {pc : Nat} {st : List Value} {cc : ByteArray} {k : Nat} (X : jX p c cc nL s m args RX8 D cs b meth H0) {K : Nat → Option (ρ × JM)} (hdg : decode cc pc = .ok (.getfield 31, 3)) (ho : oty M k 18) (kk : ∀ r : Nat, oty M r 1 → AWO p l e R s m args below meth c D cs b nL H0 Qf (K r) M ks sl lv (pc + 3) (.ref (b + r) :: st)) : AWO p l e R s m args below meth c D cs b nL H0 Qf (orf (gr M k 16) K) M ks sl lv pc (.ref (b + k) :: st) := aw_getR (ci := 8) (τ := 1) X 16 rfl gy_X8 (by decide) (by decide) rfl rfl (by decide) wf_X8_31 hdg ho kk
def f_X8_read_L133 : Nat → Nat → Int32 → JM → Option (Int32 × JM)
  | 0, _, _, _ => none
  | n + 1, a0, v2, M => if v2 < (gi M a0 8) then (if v2 < (gi M a0 10) then (orf (gr M a0 16) fun r25 => orf (gr M a0 7) fun r26 => if 0 ≤ v2 ∧ v2 < ln r26 then (if 0 ≤ v2 ∧ v2 < ln r25 then (sq (si M r25 v2 (gi M r26 v2)) fun M27 => f_X8_read_L181 (f_X8_read_L133 n) a0 v2 M27) else none) else none) else (orf (gr M a0 7) fun r20 => orf (gr M a0 7) fun r21 => if 0 ≤ v2 ∧ v2 < ln r21 then (if 0 ≤ (v2 - (gi M a0 10)) ∧ (v2 - (gi M a0 10)) < ln r20 then (sq (si M r20 (v2 - (gi M a0 10)) (gi M r21 v2)) fun M22 => f_X8_read_L181 (f_X8_read_L133 n) a0 v2 M22) else none) else none)) else (f_X8_read_L187 a0 M)
set_option maxRecDepth 10000 in
set_option maxHeartbeats 4000000 in
theorem t_X8_read_L133 {p : Program} {l : Launch} {e : Env} {s : State} {m : MethodId} {args : Array Value} {below : List Frame} {meth : Method} {c : Code} {D : va_G} {cs : JC} {b : Nat} (X : jX p c cX8_read 3 s m args RX8 D cs b meth s.heap) (hr : meth.sig.returnType = Option.some Jvm.ClassFile.FieldType.int) : ∀ (n : Nat) (a0 : Nat) (v2 : Int32) (M : JM), oty M a0 18 → AWO p l e rm_X8_read s m args below meth c D cs b 3 s.heap (jE below D cs b evI args s rm_X8_read.cells rm_X8_read.slots) (f_X8_read_L133 n a0 v2 M) M 0 0 [(0, .ref (b + a0)), (2, .int v2)] 133 [] := by
  intro n
  induction n with
  | zero => intro a0 v2 M h_a0; exact aw_none
  | succ n ih =>
    intro a0 v2 M h_a0
    refine aw_callq (F' := if v2 < (gi M a0 8) then (if v2 < (gi M a0 10) then (orf (gr M a0 16) fun r25 => orf (gr M a0 7) fun r26 => if 0 ≤ v2 ∧ v2 < ln r26 then (if 0 ≤ v2 ∧ v2 < ln r25 then (sq (si M r25 v2 (gi M r26 v2)) fun M27 => f_X8_read_L181 (f_X8_read_L133 n) a0 v2 M27) else none) else none) else (orf (gr M a0 7) fun r20 => orf (gr M a0 7) fun r21 => if 0 ≤ v2 ∧ v2 < ln r21 then (if 0 ≤ (v2 - (gi M a0 10)) ∧ (v2 - (gi M a0 10)) < ln r20 then (sq (si M r20 (v2 - (gi M a0 10)) (gi M r21 v2)) fun M22 => f_X8_read_L181 (f_X8_read_L133 n) a0 v2 M22) else none) else none)) else (f_X8_read_L187 a0 M)) rfl ?_
    refine aw_iload_n (pc := 133) X 1 dX8_read_133 rfl ?_
    refine aw_aload_n (pc := 134) X 0 dX8_read_134 rfl ?_
    refine gf_X8_133 (pc := 135) X dX8_read_135 h_a0 ?_
    refine aw_icmpge (pc := 138) X 187 dX8_read_138 (by decide) ?_ ?_
    · refine aw_iload_n (pc := 141) X 1 dX8_read_141 rfl ?_
      refine aw_aload_n (pc := 142) X 0 dX8_read_142 rfl ?_
      refine gf_X8_145 (pc := 143) X dX8_read_143 h_a0 ?_
      refine aw_icmpge (pc := 146) X 164 dX8_read_146 (by decide) ?_ ?_
      · refine aw_aload_n (pc := 149) X 0 dX8_read_149 rfl ?_
        refine gf_X8_31 (pc := 150) X dX8_read_150 h_a0 (fun r25 h_r25 => ?_)
        refine aw_iload_n (pc := 153) X 1 dX8_read_153 rfl ?_
        refine aw_aload_n (pc := 154) X 0 dX8_read_154 rfl ?_
        refine gf_X8_28 (pc := 155) X dX8_read_155 h_a0 (fun r26 h_r26 => ?_)
        refine aw_iload_n (pc := 158) X 1 dX8_read_158 rfl ?_
        refine aw_iald (pc := 159) X dX8_read_159 h_r26 ?_
        refine aw_iastQ (pc := 160) X dX8_read_160 h_r25 (fun M27 g28 => ?_)
        have h_a0 := h_a0.mono g28
        refine aw_goto (pc := 161) X 181 dX8_read_161 (by decide) ?_
        refine aw_sub [0, 1] rfl ?_
        exact t_X8_read_L181 X hr (f_X8_read_L133 n) ih a0 v2 M27 h_a0
      · refine aw_aload_n (pc := 164) X 0 dX8_read_164 rfl ?_
        refine gf_X8_28 (pc := 165) X dX8_read_165 h_a0 (fun r20 h_r20 => ?_)
        refine aw_iload_n (pc := 168) X 1 dX8_read_168 rfl ?_
        refine aw_aload_n (pc := 169) X 0 dX8_read_169 rfl ?_
        refine gf_X8_145 (pc := 170) X dX8_read_170 h_a0 ?_
        refine aw_isub (pc := 173) X dX8_read_173 ?_
        refine aw_aload_n (pc := 174) X 0 dX8_read_174 rfl ?_
        refine gf_X8_28 (pc := 175) X dX8_read_175 h_a0 (fun r21 h_r21 => ?_)
        refine aw_iload_n (pc := 178) X 1 dX8_read_178 rfl ?_
        refine aw_iald (pc := 179) X dX8_read_179 h_r21 ?_
        refine aw_iastQ (pc := 180) X dX8_read_180 h_r20 (fun M22 g23 => ?_)
        have h_a0 := h_a0.mono g23
        refine aw_sub [0, 1] rfl ?_
        exact t_X8_read_L181 X hr (f_X8_read_L133 n) ih a0 v2 M22 h_a0
    · refine aw_sub [0] rfl ?_
      exact t_X8_read_L187 X hr a0 M h_a0
def f_X8_read_L131 : Nat → JM → Option (Int32 × JM) := fun a0 M => sv (0 : Int32) fun i17 => f_X8_read_L133 FU a0 i17 M
set_option maxRecDepth 10000 in
set_option maxHeartbeats 4000000 in
theorem t_X8_read_L131 {p : Program} {l : Launch} {e : Env} {s : State} {m : MethodId} {args : Array Value} {below : List Frame} {meth : Method} {c : Code} {D : va_G} {cs : JC} {b : Nat} (X : jX p c cX8_read 3 s m args RX8 D cs b meth s.heap) (hr : meth.sig.returnType = Option.some Jvm.ClassFile.FieldType.int) : ∀ (a0 : Nat) (M : JM), oty M a0 18 → AWO p l e rm_X8_read s m args below meth c D cs b 3 s.heap (jE below D cs b evI args s rm_X8_read.cells rm_X8_read.slots) (f_X8_read_L131 a0 M) M 0 0 [(0, .ref (b + a0))] 131 [] := by
  intro a0 M h_a0
  refine aw_callq (F' := sv (0 : Int32) fun i17 => f_X8_read_L133 FU a0 i17 M) rfl ?_
  refine aw_iconst (pc := 131) X (0 : Int32) dX8_read_131 (by decide) ?_
  refine aw_istoreV_n (pc := 132) X (fun y => [(2, .int y), (0, .ref (b + a0))]) dX8_read_132 (by decide) (fun _ => rfl) (fun i17 => ?_)
  refine aw_sub [1, 0] rfl ?_
  exact t_X8_read_L133 X hr FU a0 i17 M h_a0
theorem gf_X8_34 {ρ : Type} {l : Launch} {p : Program} {e : Env} {R : Room} {s : State} {m : MethodId} {args : Array Value} {below : List Frame} {meth : Method} {c : Code} {D : va_G} {cs : JC} {b nL : Nat} {H0 : Heap} {Qf : ρ × JM → State → Prop} {M : JM} {ks sl : Nat} {lv : List (Nat × Value)} {pc : Nat} {st : List Value} {cc : ByteArray} {k : Nat} (X : jX p c cc nL s m args RX8 D cs b meth H0) {K : Nat → Option (ρ × JM)} (hdg : decode cc pc = .ok (.getfield 34, 3)) (ho : oty M k 18) (kk : ∀ r : Nat, oty M r 1 → AWO p l e R s m args below meth c D cs b nL H0 Qf (K r) M ks sl lv (pc + 3) (.ref (b + r) :: st)) : AWO p l e R s m args below meth c D cs b nL H0 Qf (orf (gr M k 17) K) M ks sl lv pc (.ref (b + k) :: st) := aw_getR (ci := 8) (τ := 1) X 17 rfl gy_X8 (by decide) (by decide) rfl rfl (by decide) wf_X8_34 hdg ho kk
def f_X8_read_L107 : Nat → Nat → Int32 → JM → Option (Int32 × JM)
  | 0, _, _, _ => none
  | n + 1, a0, v2, M => if v2 < (9 : Int32) then (orf (gr M a0 17) fun r29 => orf (gr M a0 21) fun r30 => if 0 ≤ v2 ∧ v2 < ln r30 then (if 0 ≤ v2 ∧ v2 < ln r29 then (sq (si M r29 v2 (gi M r30 v2)) fun M31 => sv (v2 + (1 : Int32)) fun i33 => (f_X8_read_L107 n) a0 i33 M31) else none) else none) else (f_X8_read_L131 a0 M)
set_option maxRecDepth 10000 in
set_option maxHeartbeats 4000000 in
theorem t_X8_read_L107 {p : Program} {l : Launch} {e : Env} {s : State} {m : MethodId} {args : Array Value} {below : List Frame} {meth : Method} {c : Code} {D : va_G} {cs : JC} {b : Nat} (X : jX p c cX8_read 3 s m args RX8 D cs b meth s.heap) (hr : meth.sig.returnType = Option.some Jvm.ClassFile.FieldType.int) : ∀ (n : Nat) (a0 : Nat) (v2 : Int32) (M : JM), oty M a0 18 → AWO p l e rm_X8_read s m args below meth c D cs b 3 s.heap (jE below D cs b evI args s rm_X8_read.cells rm_X8_read.slots) (f_X8_read_L107 n a0 v2 M) M 0 0 [(0, .ref (b + a0)), (2, .int v2)] 107 [] := by
  intro n
  induction n with
  | zero => intro a0 v2 M h_a0; exact aw_none
  | succ n ih =>
    intro a0 v2 M h_a0
    refine aw_callq (F' := if v2 < (9 : Int32) then (orf (gr M a0 17) fun r29 => orf (gr M a0 21) fun r30 => if 0 ≤ v2 ∧ v2 < ln r30 then (if 0 ≤ v2 ∧ v2 < ln r29 then (sq (si M r29 v2 (gi M r30 v2)) fun M31 => sv (v2 + (1 : Int32)) fun i33 => (f_X8_read_L107 n) a0 i33 M31) else none) else none) else (f_X8_read_L131 a0 M)) rfl ?_
    refine aw_iload_n (pc := 107) X 1 dX8_read_107 rfl ?_
    refine aw_bipush (pc := 108) X (9 : Int32) dX8_read_108 (by decide) ?_
    refine aw_icmpge (pc := 110) X 131 dX8_read_110 (by decide) ?_ ?_
    · refine aw_aload_n (pc := 113) X 0 dX8_read_113 rfl ?_
      refine gf_X8_34 (pc := 114) X dX8_read_114 h_a0 (fun r29 h_r29 => ?_)
      refine aw_iload_n (pc := 117) X 1 dX8_read_117 rfl ?_
      refine aw_aload_n (pc := 118) X 0 dX8_read_118 rfl ?_
      refine gf_X8_43 (pc := 119) X dX8_read_119 h_a0 (fun r30 h_r30 => ?_)
      refine aw_iload_n (pc := 122) X 1 dX8_read_122 rfl ?_
      refine aw_iald (pc := 123) X dX8_read_123 h_r30 ?_
      refine aw_iastQ (pc := 124) X dX8_read_124 h_r29 (fun M31 g32 => ?_)
      have h_a0 := h_a0.mono g32
      refine aw_iincV (pc := 125) X (fun y => [(2, .int y), (0, .ref (b + a0))]) 1 (v := (v2 + (1 : Int32))) dX8_read_125 rfl rfl (by decide) (fun _ => rfl) (fun i33 => ?_)
      refine aw_goto (pc := 128) X 107 dX8_read_128 (by decide) ?_
      refine aw_sub [1, 0] rfl ?_
      exact ih a0 i33 M31 h_a0
    · refine aw_sub [0] rfl ?_
      exact t_X8_read_L131 X hr a0 M h_a0
def f_X8_read_L105 : Nat → JM → Option (Int32 × JM) := fun a0 M => sv (0 : Int32) fun i16 => f_X8_read_L107 FU a0 i16 M
set_option maxRecDepth 10000 in
set_option maxHeartbeats 4000000 in
theorem t_X8_read_L105 {p : Program} {l : Launch} {e : Env} {s : State} {m : MethodId} {args : Array Value} {below : List Frame} {meth : Method} {c : Code} {D : va_G} {cs : JC} {b : Nat} (X : jX p c cX8_read 3 s m args RX8 D cs b meth s.heap) (hr : meth.sig.returnType = Option.some Jvm.ClassFile.FieldType.int) : ∀ (a0 : Nat) (M : JM), oty M a0 18 → AWO p l e rm_X8_read s m args below meth c D cs b 3 s.heap (jE below D cs b evI args s rm_X8_read.cells rm_X8_read.slots) (f_X8_read_L105 a0 M) M 0 0 [(0, .ref (b + a0))] 105 [] := by
  intro a0 M h_a0
  refine aw_callq (F' := sv (0 : Int32) fun i16 => f_X8_read_L107 FU a0 i16 M) rfl ?_
  refine aw_iconst (pc := 105) X (0 : Int32) dX8_read_105 (by decide) ?_
  refine aw_istoreV_n (pc := 106) X (fun y => [(2, .int y), (0, .ref (b + a0))]) dX8_read_106 (by decide) (fun _ => rfl) (fun i16 => ?_)
  refine aw_sub [1, 0] rfl ?_
  exact t_X8_read_L107 X hr FU a0 i16 M h_a0
theorem gf_X8_37 {ρ : Type} {l : Launch} {p : Program} {e : Env} {R : Room} {s : State} {m : MethodId} {args : Array Value} {below : List Frame} {meth : Method} {c : Code} {D : va_G} {cs : JC} {b nL : Nat} {H0 : Heap} {Qf : ρ × JM → State → Prop} {M : JM} {ks sl : Nat} {lv : List (Nat × Value)} {pc : Nat} {st : List Value} {cc : ByteArray} {k : Nat} (X : jX p c cc nL s m args RX8 D cs b meth H0) {K : Nat → Option (ρ × JM)} (hdg : decode cc pc = .ok (.getfield 37, 3)) (ho : oty M k 18) (kk : ∀ r : Nat, oty M r 1 → AWO p l e R s m args below meth c D cs b nL H0 Qf (K r) M ks sl lv (pc + 3) (.ref (b + r) :: st)) : AWO p l e R s m args below meth c D cs b nL H0 Qf (orf (gr M k 18) K) M ks sl lv pc (.ref (b + k) :: st) := aw_getR (ci := 8) (τ := 1) X 18 rfl gy_X8 (by decide) (by decide) rfl rfl (by decide) wf_X8_37 hdg ho kk
theorem gf_X8_40 {ρ : Type} {l : Launch} {p : Program} {e : Env} {R : Room} {s : State} {m : MethodId} {args : Array Value} {below : List Frame} {meth : Method} {c : Code} {D : va_G} {cs : JC} {b nL : Nat} {H0 : Heap} {Qf : ρ × JM → State → Prop} {M : JM} {ks sl : Nat} {lv : List (Nat × Value)} {pc : Nat} {st : List Value} {cc : ByteArray} {k : Nat} (X : jX p c cc nL s m args RX8 D cs b meth H0) {K : Nat → Option (ρ × JM)} (hdg : decode cc pc = .ok (.getfield 40, 3)) (ho : oty M k 18) (kk : ∀ r : Nat, oty M r 1 → AWO p l e R s m args below meth c D cs b nL H0 Qf (K r) M ks sl lv (pc + 3) (.ref (b + r) :: st)) : AWO p l e R s m args below meth c D cs b nL H0 Qf (orf (gr M k 19) K) M ks sl lv pc (.ref (b + k) :: st) := aw_getR (ci := 8) (τ := 1) X 19 rfl gy_X8 (by decide) (by decide) rfl rfl (by decide) wf_X8_40 hdg ho kk
def f_X8_read_L68 : Nat → Nat → Int32 → JM → Option (Int32 × JM)
  | 0, _, _, _ => none
  | n + 1, a0, v2, M => if v2 < (176 : Int32) then (orf (gr M a0 18) fun r34 => orf (gr M a0 22) fun r35 => if 0 ≤ v2 ∧ v2 < ln r35 then (if 0 ≤ v2 ∧ v2 < ln r34 then (sq (si M r34 v2 (gi M r35 v2)) fun M36 => orf (gr M36 a0 19) fun r38 => orf (gr M36 a0 23) fun r39 => if 0 ≤ v2 ∧ v2 < ln r39 then (if 0 ≤ v2 ∧ v2 < ln r38 then (sq (si M36 r38 v2 (gi M36 r39 v2)) fun M40 => sv (v2 + (1 : Int32)) fun i42 => (f_X8_read_L68 n) a0 i42 M40) else none) else none) else none) else none) else (f_X8_read_L105 a0 M)
set_option maxRecDepth 10000 in
set_option maxHeartbeats 4000000 in
theorem t_X8_read_L68 {p : Program} {l : Launch} {e : Env} {s : State} {m : MethodId} {args : Array Value} {below : List Frame} {meth : Method} {c : Code} {D : va_G} {cs : JC} {b : Nat} (X : jX p c cX8_read 3 s m args RX8 D cs b meth s.heap) (hr : meth.sig.returnType = Option.some Jvm.ClassFile.FieldType.int) : ∀ (n : Nat) (a0 : Nat) (v2 : Int32) (M : JM), oty M a0 18 → AWO p l e rm_X8_read s m args below meth c D cs b 3 s.heap (jE below D cs b evI args s rm_X8_read.cells rm_X8_read.slots) (f_X8_read_L68 n a0 v2 M) M 0 0 [(0, .ref (b + a0)), (2, .int v2)] 68 [] := by
  intro n
  induction n with
  | zero => intro a0 v2 M h_a0; exact aw_none
  | succ n ih =>
    intro a0 v2 M h_a0
    refine aw_callq (F' := if v2 < (176 : Int32) then (orf (gr M a0 18) fun r34 => orf (gr M a0 22) fun r35 => if 0 ≤ v2 ∧ v2 < ln r35 then (if 0 ≤ v2 ∧ v2 < ln r34 then (sq (si M r34 v2 (gi M r35 v2)) fun M36 => orf (gr M36 a0 19) fun r38 => orf (gr M36 a0 23) fun r39 => if 0 ≤ v2 ∧ v2 < ln r39 then (if 0 ≤ v2 ∧ v2 < ln r38 then (sq (si M36 r38 v2 (gi M36 r39 v2)) fun M40 => sv (v2 + (1 : Int32)) fun i42 => (f_X8_read_L68 n) a0 i42 M40) else none) else none) else none) else none) else (f_X8_read_L105 a0 M)) rfl ?_
    refine aw_iload_n (pc := 68) X 1 dX8_read_68 rfl ?_
    refine aw_sipush (pc := 69) X (176 : Int32) dX8_read_69 (by decide) ?_
    refine aw_icmpge (pc := 72) X 105 dX8_read_72 (by decide) ?_ ?_
    · refine aw_aload_n (pc := 75) X 0 dX8_read_75 rfl ?_
      refine gf_X8_37 (pc := 76) X dX8_read_76 h_a0 (fun r34 h_r34 => ?_)
      refine aw_iload_n (pc := 79) X 1 dX8_read_79 rfl ?_
      refine aw_aload_n (pc := 80) X 0 dX8_read_80 rfl ?_
      refine gf_X8_46 (pc := 81) X dX8_read_81 h_a0 (fun r35 h_r35 => ?_)
      refine aw_iload_n (pc := 84) X 1 dX8_read_84 rfl ?_
      refine aw_iald (pc := 85) X dX8_read_85 h_r35 ?_
      refine aw_iastQ (pc := 86) X dX8_read_86 h_r34 (fun M36 g37 => ?_)
      have h_a0 := h_a0.mono g37
      refine aw_aload_n (pc := 87) X 0 dX8_read_87 rfl ?_
      refine gf_X8_40 (pc := 88) X dX8_read_88 h_a0 (fun r38 h_r38 => ?_)
      refine aw_iload_n (pc := 91) X 1 dX8_read_91 rfl ?_
      refine aw_aload_n (pc := 92) X 0 dX8_read_92 rfl ?_
      refine gf_X8_49 (pc := 93) X dX8_read_93 h_a0 (fun r39 h_r39 => ?_)
      refine aw_iload_n (pc := 96) X 1 dX8_read_96 rfl ?_
      refine aw_iald (pc := 97) X dX8_read_97 h_r39 ?_
      refine aw_iastQ (pc := 98) X dX8_read_98 h_r38 (fun M40 g41 => ?_)
      have h_a0 := h_a0.mono g41
      refine aw_iincV (pc := 99) X (fun y => [(2, .int y), (0, .ref (b + a0))]) 1 (v := (v2 + (1 : Int32))) dX8_read_99 rfl rfl (by decide) (fun _ => rfl) (fun i42 => ?_)
      refine aw_goto (pc := 102) X 68 dX8_read_102 (by decide) ?_
      refine aw_sub [1, 0] rfl ?_
      exact ih a0 i42 M40 h_a0
    · refine aw_sub [0] rfl ?_
      exact t_X8_read_L105 X hr a0 M h_a0
def f_X8_read (a0 : Nat) (M : JM) : Option (Int32 × JM) := if (gi M a0 8) = 0 then (some ((-2 : Int32), M)) else (sq (si M a0 11 (0 : Int32)) fun M1 => ob (f_X8_readBlock a0 M1) fun r5 M3 => sv r5 fun i6 => sq (si M3 a0 13 (gi M3 a0 11)) fun M7 => if (gi M7 a0 11) = 0 then (sq (si M7 a0 14 (gi M7 a0 20)) fun M9 => sq (si M9 a0 15 i6) fun M11 => sq (si M11 a0 42 ((gi M11 a0 42) + (1 : Int32))) fun M13 => sv (0 : Int32) fun i15 => f_X8_read_L68 FU a0 i15 M13) else (some (((-100 : Int32) - (gi M7 a0 12)), M7)))
set_option maxRecDepth 10000 in
set_option maxHeartbeats 4000000 in
theorem t_X8_read {l : Launch} {D : va_G} {cs : JC} {b : Nat} (a0 : Nat) (M : JM) (h_a0 : oty M a0 18) : ∀ q, f_X8_read a0 M = some q → CTy l yX8_read (.code yX8_read cX8_read 3 (Option.some Jvm.ClassFile.FieldType.int) :: GB) rm_X8_read D cs b evI [.ref (b + a0)] M rm_X8_read.cells rm_X8_read.slots q := fun q hq => ct_of [(0, .ref (b + a0))] rfl rfl (Nat.le_of_ble_eq_true rfl) hq (fun p e s m args below meth c X hr hin => by
  refine aw_callq (F' := if (gi M a0 8) = 0 then (some ((-2 : Int32), M)) else (sq (si M a0 11 (0 : Int32)) fun M1 => ob (f_X8_readBlock a0 M1) fun r5 M3 => sv r5 fun i6 => sq (si M3 a0 13 (gi M3 a0 11)) fun M7 => if (gi M7 a0 11) = 0 then (sq (si M7 a0 14 (gi M7 a0 20)) fun M9 => sq (si M9 a0 15 i6) fun M11 => sq (si M11 a0 42 ((gi M11 a0 42) + (1 : Int32))) fun M13 => sv (0 : Int32) fun i15 => f_X8_read_L68 FU a0 i15 M13) else (some (((-100 : Int32) - (gi M7 a0 12)), M7)))) rfl ?_
  refine aw_aload_n (pc := 0) X 0 dX8_read_0 rfl ?_
  refine gf_X8_133 (pc := 1) X dX8_read_1 h_a0 ?_
  refine aw_ifne (pc := 4) X 10 dX8_read_4 (by decide) ?_ ?_
  · refine aw_bipush (pc := 7) X (-2 : Int32) dX8_read_7 (by decide) ?_
    exact aw_iret (pc := 9) X hr dX8_read_9 (Nat.le_of_ble_eq_true rfl) (Nat.le_of_ble_eq_true rfl)
  · refine aw_aload_n (pc := 10) X 0 dX8_read_10 rfl ?_
    refine aw_iconst (pc := 11) X (0 : Int32) dX8_read_11 (by decide) ?_
    refine pf_X8_136 (pc := 12) X dX8_read_12 h_a0 (fun M1 g2 => ?_)
    have h_a0 := h_a0.mono g2
    refine aw_aload_n (pc := 15) X 0 dX8_read_15 rfl ?_
    refine cl_X8_187 (pc := 16) X ⟨Nat.le_of_ble_eq_true rfl, Nat.le_of_ble_eq_true rfl⟩ (Nat.le_of_ble_eq_true rfl) (ks2 := 0) (sl2 := 0) rfl rfl ⟨(Nat.le_of_ble_eq_true rfl), (Nat.le_of_ble_eq_true rfl)⟩ dX8_read_16 h_a0 (fun r5 M3 g4 => ?_)
    have h_a0 := h_a0.mono g4
    refine aw_istoreV_n (pc := 19) X (fun y => [(1, .int y), (0, .ref (b + a0))]) dX8_read_19 (by decide) (fun _ => rfl) (fun i6 => ?_)
    refine aw_aload_n (pc := 20) X 1 dX8_read_20 rfl ?_
    refine aw_aload_n (pc := 21) X 1 dX8_read_21 rfl ?_
    refine gf_X8_136 (pc := 22) X dX8_read_22 h_a0 ?_
    refine pf_X8_190 (pc := 25) X dX8_read_25 h_a0 (fun M7 g8 => ?_)
    have h_a0 := h_a0.mono g8
    refine aw_aload_n (pc := 28) X 1 dX8_read_28 rfl ?_
    refine gf_X8_136 (pc := 29) X dX8_read_29 h_a0 ?_
    refine aw_ifeq (pc := 32) X 43 dX8_read_32 (by decide) ?_ ?_
    · refine aw_aload_n (pc := 43) X 1 dX8_read_43 rfl ?_
      refine aw_aload_n (pc := 44) X 1 dX8_read_44 rfl ?_
      refine gf_X8_178 (pc := 45) X dX8_read_45 h_a0 ?_
      refine pf_X8_117 (pc := 48) X dX8_read_48 h_a0 (fun M9 g10 => ?_)
      have h_a0 := h_a0.mono g10
      refine aw_aload_n (pc := 51) X 1 dX8_read_51 rfl ?_
      refine aw_iload_n (pc := 52) X 0 dX8_read_52 rfl ?_
      refine pf_X8_99 (pc := 53) X dX8_read_53 h_a0 (fun M11 g12 => ?_)
      have h_a0 := h_a0.mono g12
      refine aw_aload_n (pc := 56) X 1 dX8_read_56 rfl ?_
      refine aw_dup_a (pc := 57) X dX8_read_57 ?_
      refine gf_X8_193 (pc := 58) X dX8_read_58 h_a0 ?_
      refine aw_iconst (pc := 61) X (1 : Int32) dX8_read_61 (by decide) ?_
      refine aw_iadd (pc := 62) X dX8_read_62 ?_
      refine pf_X8_193 (pc := 63) X dX8_read_63 h_a0 (fun M13 g14 => ?_)
      have h_a0 := h_a0.mono g14
      refine aw_iconst (pc := 66) X (0 : Int32) dX8_read_66 (by decide) ?_
      refine aw_istoreV_n (pc := 67) X (fun y => [(2, .int y), (1, .int i6), (0, .ref (b + a0))]) dX8_read_67 (by decide) (fun _ => rfl) (fun i15 => ?_)
      refine aw_sub [2, 0] rfl ?_
      exact t_X8_read_L68 X hr FU a0 i15 M13 h_a0
    · refine aw_bipush (pc := 35) X (-100 : Int32) dX8_read_35 (by decide) ?_
      refine aw_aload_n (pc := 37) X 1 dX8_read_37 rfl ?_
      refine gf_X8_139 (pc := 38) X dX8_read_38 h_a0 ?_
      refine aw_isub (pc := 41) X dX8_read_41 ?_
      exact aw_iret (pc := 42) X hr dX8_read_42 (Nat.le_of_ble_eq_true rfl) (Nat.le_of_ble_eq_true rfl))
/-! ReportBlocks.fault -/
def rm_X7_fault : Room := { frames := 0, cells := 0, slots := 0, locals := 0 }
theorem hd_X7_fault : jHd yX7_fault 0 := by unfold jHd; decide +kernel
def f_X7_fault (a0 : Nat) (M : JM) : Option (Int32 × JM) := some ((gi M a0 8), M)
set_option maxRecDepth 10000 in
set_option maxHeartbeats 4000000 in
theorem t_X7_fault {l : Launch} {D : va_G} {cs : JC} {b : Nat} (a0 : Nat) (M : JM) (h_a0 : oty M a0 17) : ∀ q, f_X7_fault a0 M = some q → CTy l yX7_fault (.code yX7_fault cX7_fault 1 (Option.some Jvm.ClassFile.FieldType.int) :: GB) rm_X7_fault D cs b evI [.ref (b + a0)] M rm_X7_fault.cells rm_X7_fault.slots q := fun q hq => ct_of [(0, .ref (b + a0))] rfl rfl (Nat.le_of_ble_eq_true rfl) hq (fun p e s m args below meth c X hr hin => by
  refine aw_callq (F' := some ((gi M a0 8), M)) rfl ?_
  refine aw_aload_n (pc := 0) X 0 dX7_fault_0 rfl ?_
  refine gf_X7_129 (pc := 1) X dX7_fault_1 h_a0 ?_
  exact aw_iret (pc := 4) X hr dX7_fault_4 (Nat.le_of_ble_eq_true rfl) (Nat.le_of_ble_eq_true rfl))
/-! ReportBlocksModel.fault -/
def rm_X8_fault : Room := { frames := 0, cells := 0, slots := 0, locals := 0 }
theorem hd_X8_fault : jHd yX8_fault 0 := by unfold jHd; decide +kernel
theorem gf_X8_190 {ρ : Type} {l : Launch} {p : Program} {e : Env} {R : Room} {s : State} {m : MethodId} {args : Array Value} {below : List Frame} {meth : Method} {c : Code} {D : va_G} {cs : JC} {b nL : Nat} {H0 : Heap} {Qf : ρ × JM → State → Prop} {M : JM} {ks sl : Nat} {lv : List (Nat × Value)} {pc : Nat} {st : List Value} {cc : ByteArray} {k : Nat} (X : jX p c cc nL s m args RX8 D cs b meth H0) {F : Option (ρ × JM)} (hdg : decode cc pc = .ok (.getfield 190, 3)) (ho : oty M k 18) (kk : AWO p l e R s m args below meth c D cs b nL H0 Qf F M ks sl lv (pc + 3) (.int (gi M k 13) :: st)) : AWO p l e R s m args below meth c D cs b nL H0 Qf F M ks sl lv pc (.ref (b + k) :: st) := aw_getI (ci := 8) X 13 rfl gy_X8 (by decide) rfl rfl wf_X8_190 hdg ho kk
def f_X8_fault (a0 : Nat) (M : JM) : Option (Int32 × JM) := some ((gi M a0 13), M)
set_option maxRecDepth 10000 in
set_option maxHeartbeats 4000000 in
theorem t_X8_fault {l : Launch} {D : va_G} {cs : JC} {b : Nat} (a0 : Nat) (M : JM) (h_a0 : oty M a0 18) : ∀ q, f_X8_fault a0 M = some q → CTy l yX8_fault (.code yX8_fault cX8_fault 1 (Option.some Jvm.ClassFile.FieldType.int) :: GB) rm_X8_fault D cs b evI [.ref (b + a0)] M rm_X8_fault.cells rm_X8_fault.slots q := fun q hq => ct_of [(0, .ref (b + a0))] rfl rfl (Nat.le_of_ble_eq_true rfl) hq (fun p e s m args below meth c X hr hin => by
  refine aw_callq (F' := some ((gi M a0 13), M)) rfl ?_
  refine aw_aload_n (pc := 0) X 0 dX8_fault_0 rfl ?_
  refine gf_X8_190 (pc := 1) X dX8_fault_1 h_a0 ?_
  exact aw_iret (pc := 4) X hr dX8_fault_4 (Nat.le_of_ble_eq_true rfl) (Nat.le_of_ble_eq_true rfl))
/-! ReportBlocks.records -/
def rm_X7_records : Room := { frames := 0, cells := 0, slots := 0, locals := 0 }
theorem hd_X7_records : jHd yX7_records 1 := by unfold jHd; decide +kernel
def f_X7_records (a0 : Nat) (v1 : Int32) (M : JM) : Option (Int32 × JM) := if v1 = 0 then (orf (gr M a0 4) fun r2 => some ((gi M r2 1), M)) else (if v1 = (1 : Int32) then (orf (gr M a0 4) fun r1 => some ((gi M r1 0), M)) else (some ((-1 : Int32), M)))
set_option maxRecDepth 10000 in
set_option maxHeartbeats 4000000 in
theorem t_X7_records {l : Launch} {D : va_G} {cs : JC} {b : Nat} (a0 : Nat) (v1 : Int32) (M : JM) (h_a0 : oty M a0 17) : ∀ q, f_X7_records a0 v1 M = some q → CTy l yX7_records (.code yX7_records cX7_records 2 (Option.some Jvm.ClassFile.FieldType.int) :: GB) rm_X7_records D cs b evI [.ref (b + a0), .int v1] M rm_X7_records.cells rm_X7_records.slots q := fun q hq => ct_of [(0, .ref (b + a0)), (1, .int v1)] rfl rfl (Nat.le_of_ble_eq_true rfl) hq (fun p e s m args below meth c X hr hin => by
  refine aw_callq (F' := if v1 = 0 then (orf (gr M a0 4) fun r2 => some ((gi M r2 1), M)) else (if v1 = (1 : Int32) then (orf (gr M a0 4) fun r1 => some ((gi M r1 0), M)) else (some ((-1 : Int32), M)))) rfl ?_
  refine aw_iload_n (pc := 0) X 1 dX7_records_0 rfl ?_
  refine aw_ifne (pc := 1) X 12 dX7_records_1 (by decide) ?_ ?_
  · refine aw_aload_n (pc := 4) X 0 dX7_records_4 rfl ?_
    refine gf_X7_34 (pc := 5) X dX7_records_5 h_a0 (fun r2 h_r2 => ?_)
    refine gf_X7_151 (pc := 8) X dX7_records_8 h_r2 ?_
    exact aw_iret (pc := 11) X hr dX7_records_11 (Nat.le_of_ble_eq_true rfl) (Nat.le_of_ble_eq_true rfl)
  · refine aw_iload_n (pc := 12) X 1 dX7_records_12 rfl ?_
    refine aw_iconst (pc := 13) X (1 : Int32) dX7_records_13 (by decide) ?_
    refine aw_icmpne (pc := 14) X 27 dX7_records_14 (by decide) ?_ ?_
    · refine aw_aload_n (pc := 17) X 0 dX7_records_17 rfl ?_
      refine gf_X7_34 (pc := 18) X dX7_records_18 h_a0 (fun r1 h_r1 => ?_)
      refine gf_X7_154 (pc := 21) X dX7_records_21 h_r1 ?_
      refine aw_goto (pc := 24) X 28 dX7_records_24 (by decide) ?_
      exact aw_iret (pc := 28) X hr dX7_records_28 (Nat.le_of_ble_eq_true rfl) (Nat.le_of_ble_eq_true rfl)
    · refine aw_iconst (pc := 27) X (-1 : Int32) dX7_records_27 (by decide) ?_
      exact aw_iret (pc := 28) X hr dX7_records_28 (Nat.le_of_ble_eq_true rfl) (Nat.le_of_ble_eq_true rfl))
/-! ReportBlocksModel.records -/
def rm_X8_records : Room := { frames := 0, cells := 0, slots := 0, locals := 0 }
theorem hd_X8_records : jHd yX8_records 1 := by unfold jHd; decide +kernel
def f_X8_records (a0 : Nat) (v1 : Int32) (M : JM) : Option (Int32 × JM) := if v1 = 0 then (some ((gi M a0 14), M)) else (if v1 = (1 : Int32) then (some ((gi M a0 15), M)) else (some ((-1 : Int32), M)))
set_option maxRecDepth 10000 in
set_option maxHeartbeats 4000000 in
theorem t_X8_records {l : Launch} {D : va_G} {cs : JC} {b : Nat} (a0 : Nat) (v1 : Int32) (M : JM) (h_a0 : oty M a0 18) : ∀ q, f_X8_records a0 v1 M = some q → CTy l yX8_records (.code yX8_records cX8_records 2 (Option.some Jvm.ClassFile.FieldType.int) :: GB) rm_X8_records D cs b evI [.ref (b + a0), .int v1] M rm_X8_records.cells rm_X8_records.slots q := fun q hq => ct_of [(0, .ref (b + a0)), (1, .int v1)] rfl rfl (Nat.le_of_ble_eq_true rfl) hq (fun p e s m args below meth c X hr hin => by
  refine aw_callq (F' := if v1 = 0 then (some ((gi M a0 14), M)) else (if v1 = (1 : Int32) then (some ((gi M a0 15), M)) else (some ((-1 : Int32), M)))) rfl ?_
  refine aw_iload_n (pc := 0) X 1 dX8_records_0 rfl ?_
  refine aw_ifne (pc := 1) X 11 dX8_records_1 (by decide) ?_ ?_
  · refine aw_aload_n (pc := 4) X 0 dX8_records_4 rfl ?_
    refine gf_X8_117 (pc := 5) X dX8_records_5 h_a0 ?_
    refine aw_goto (pc := 8) X 24 dX8_records_8 (by decide) ?_
    exact aw_iret (pc := 24) X hr dX8_records_24 (Nat.le_of_ble_eq_true rfl) (Nat.le_of_ble_eq_true rfl)
  · refine aw_iload_n (pc := 11) X 1 dX8_records_11 rfl ?_
    refine aw_iconst (pc := 12) X (1 : Int32) dX8_records_12 (by decide) ?_
    refine aw_icmpne (pc := 13) X 23 dX8_records_13 (by decide) ?_ ?_
    · refine aw_aload_n (pc := 16) X 0 dX8_records_16 rfl ?_
      refine gf_X8_99 (pc := 17) X dX8_records_17 h_a0 ?_
      refine aw_goto (pc := 20) X 24 dX8_records_20 (by decide) ?_
      exact aw_iret (pc := 24) X hr dX8_records_24 (Nat.le_of_ble_eq_true rfl) (Nat.le_of_ble_eq_true rfl)
    · refine aw_iconst (pc := 23) X (-1 : Int32) dX8_records_23 (by decide) ?_
      exact aw_iret (pc := 24) X hr dX8_records_24 (Nat.le_of_ble_eq_true rfl) (Nat.le_of_ble_eq_true rfl))
/-! ReportBlocks.isRecord -/
def rm_X7_isRecord : Room := { frames := 0, cells := 0, slots := 0, locals := 0 }
theorem hd_X7_isRecord : jHd yX7_isRecord 1 := by unfold jHd; decide +kernel
def f_X7_isRecord (a0 : Nat) (v1 : Int32) (M : JM) : Option (Bool × JM) := if v1 < 0 then (some (false, M)) else (orf (gr M a0 4) fun r1 => if v1 < (gi M r1 1) then (some (true, M)) else (some (false, M)))
set_option maxRecDepth 10000 in
set_option maxHeartbeats 4000000 in
theorem t_X7_isRecord {l : Launch} {D : va_G} {cs : JC} {b : Nat} (a0 : Nat) (v1 : Int32) (M : JM) (h_a0 : oty M a0 17) : ∀ q, f_X7_isRecord a0 v1 M = some q → CTy l yX7_isRecord (.code yX7_isRecord cX7_isRecord 2 (Option.some Jvm.ClassFile.FieldType.boolean) :: GB) rm_X7_isRecord D cs b evB [.ref (b + a0), .int v1] M rm_X7_isRecord.cells rm_X7_isRecord.slots q := fun q hq => ct_of [(0, .ref (b + a0)), (1, .int v1)] rfl rfl (Nat.le_of_ble_eq_true rfl) hq (fun p e s m args below meth c X hr hin => by
  refine aw_callq (F' := if v1 < 0 then (some (false, M)) else (orf (gr M a0 4) fun r1 => if v1 < (gi M r1 1) then (some (true, M)) else (some (false, M)))) rfl ?_
  refine aw_iload_n (pc := 0) X 1 dX7_isRecord_0 rfl ?_
  refine aw_iflt (pc := 1) X 19 dX7_isRecord_1 (by decide) ?_ ?_
  · refine aw_iconst (pc := 19) X (0 : Int32) dX7_isRecord_19 (by decide) ?_
    exact aw_zret (pc := 20) X hr false rfl dX7_isRecord_20 (Nat.le_of_ble_eq_true rfl) (Nat.le_of_ble_eq_true rfl)
  · refine aw_iload_n (pc := 4) X 1 dX7_isRecord_4 rfl ?_
    refine aw_aload_n (pc := 5) X 0 dX7_isRecord_5 rfl ?_
    refine gf_X7_34 (pc := 6) X dX7_isRecord_6 h_a0 (fun r1 h_r1 => ?_)
    refine gf_X7_151 (pc := 9) X dX7_isRecord_9 h_r1 ?_
    refine aw_icmpge (pc := 12) X 19 dX7_isRecord_12 (by decide) ?_ ?_
    · refine aw_iconst (pc := 15) X (1 : Int32) dX7_isRecord_15 (by decide) ?_
      refine aw_goto (pc := 16) X 20 dX7_isRecord_16 (by decide) ?_
      exact aw_zret (pc := 20) X hr true rfl dX7_isRecord_20 (Nat.le_of_ble_eq_true rfl) (Nat.le_of_ble_eq_true rfl)
    · refine aw_iconst (pc := 19) X (0 : Int32) dX7_isRecord_19 (by decide) ?_
      exact aw_zret (pc := 20) X hr false rfl dX7_isRecord_20 (Nat.le_of_ble_eq_true rfl) (Nat.le_of_ble_eq_true rfl))
/-! ReportBlocks$Block.sizeOf -/
def rm_X0_sizeOf : Room := { frames := 1, cells := 0, slots := 0, locals := 21 }
theorem hd_X0_sizeOf : jHd yX0_sizeOf 2 := by unfold jHd; decide +kernel
def f_X0_sizeOf (a0 : Nat) (v1 : Int32) (v2 : Int32) (M : JM) : Option (Int32 × JM) := orf (gr M a0 6) fun r1 => ob (f_X0_slot v1 v2 M) fun r4 M2 => if 0 ≤ r4 ∧ r4 < ln r1 then (some ((gi M2 r1 r4), M2)) else none
set_option maxRecDepth 10000 in
set_option maxHeartbeats 4000000 in
theorem t_X0_sizeOf {l : Launch} {D : va_G} {cs : JC} {b : Nat} (a0 : Nat) (v1 : Int32) (v2 : Int32) (M : JM) (h_a0 : oty M a0 10) : ∀ q, f_X0_sizeOf a0 v1 v2 M = some q → CTy l yX0_sizeOf (.code yX0_sizeOf cX0_sizeOf 3 (Option.some Jvm.ClassFile.FieldType.int) :: GB) rm_X0_sizeOf D cs b evI [.ref (b + a0), .int v1, .int v2] M rm_X0_sizeOf.cells rm_X0_sizeOf.slots q := fun q hq => ct_of [(0, .ref (b + a0)), (1, .int v1), (2, .int v2)] rfl rfl (Nat.le_of_ble_eq_true rfl) hq (fun p e s m args below meth c X hr hin => by
  refine aw_callq (F' := orf (gr M a0 6) fun r1 => ob (f_X0_slot v1 v2 M) fun r4 M2 => if 0 ≤ r4 ∧ r4 < ln r1 then (some ((gi M2 r1 r4), M2)) else none) rfl ?_
  refine aw_aload_n (pc := 0) X 0 dX0_sizeOf_0 rfl ?_
  refine gf_X0_25 (pc := 1) X dX0_sizeOf_1 h_a0 (fun r1 h_r1 => ?_)
  refine aw_iload_n (pc := 4) X 1 dX0_sizeOf_4 rfl ?_
  refine aw_iload_n (pc := 5) X 2 dX0_sizeOf_5 rfl ?_
  refine cl_X0_46 (pc := 6) X ⟨Nat.le_of_ble_eq_true rfl, Nat.le_of_ble_eq_true rfl⟩ (Nat.le_of_ble_eq_true rfl) (ks2 := 0) (sl2 := 0) rfl rfl ⟨(Nat.le_of_ble_eq_true rfl), (Nat.le_of_ble_eq_true rfl)⟩ dX0_sizeOf_6  (fun r4 M2 g3 => ?_)
  have h_a0 := h_a0.mono g3
  have h_r1 := h_r1.mono g3
  refine aw_iald (pc := 9) X dX0_sizeOf_9 h_r1 ?_
  exact aw_iret (pc := 10) X hr dX0_sizeOf_10 (Nat.le_of_ble_eq_true rfl) (Nat.le_of_ble_eq_true rfl))
/-! ReportBlocks$Block.beginOf -/
def rm_X0_beginOf : Room := { frames := 2, cells := 0, slots := 0, locals := 43 }
theorem hd_X0_beginOf : jHd yX0_beginOf 2 := by unfold jHd; decide +kernel
theorem cl_X0_50 {ρ : Type} {l : Launch} {p : Program} {e : Env} {R : Room} {s : State} {m : MethodId} {args : Array Value} {below : List Frame} {meth : Method} {c : Code} {D : va_G} {cs : JC} {b nL : Nat} {H0 : Heap} {Qf : ρ × JM → State → Prop} {M : JM} {ks sl : Nat} {lv : List (Nat × Value)} {pc : Nat} {st : List Value} {cc : ByteArray} (X : jX p c cc nL s m args RX0 D cs b meth H0) {z0 : Nat} {z1 : Int32} {z2 : Int32} {K : Int32 → JM → Option (ρ × JM)} (hrm : jRm rm_X0_sizeOf 3 R) (hW : (st.map fun v => v.category).sum ≤ 8) {ks2 sl2 : Nat} (hk2 : ks + rm_X0_sizeOf.cells = ks2) (hs2 : sl + rm_X0_sizeOf.slots = sl2) (hroom : ks2 ≤ R.cells ∧ sl2 ≤ R.slots) (hdg : decode cc pc = .ok (.invokevirtual 50, 3)) (h0 : oty M z0 10) (kk : ∀ (r : Int32) (M2 : JM), gn M ≤ gn M2 → AWO p l e R s m args below meth c D cs b nL H0 Qf (K r M2) M2 ks2 sl2 lv (pc + 3) (.int r :: st)) : AWO p l e R s m args below meth c D cs b nL H0 Qf (ob (f_X0_sizeOf z0 z1 z2 M) K) M ks sl lv pc (.int z2 :: .int z1 :: .ref (b + z0) :: st) := by
  subst hk2
  subst hs2
  exact aw_callV (ci := 0) X [.int z1, .int z2] st rfl rfl wl_X0_50 wi_X0_sizeOf wv_X0_sizeOf wc_X0_sizeOf wn_X0 (n := 2) hd_X0_sizeOf rfl hrm hW hroom hdg h0 (t_X0_sizeOf z0 z1 z2 M h0) (fun r M2 g _ => kk r M2 g)
def f_X0_beginOf (a0 : Nat) (v1 : Int32) (v2 : Int32) (M : JM) : Option (Int32 × JM) := ob (f_X0_sizeOf a0 v1 v2 M) fun r3 M1 => if r3 = 0 then (some ((-9 : Int32), M1)) else (orf (gr M1 a0 5) fun r4 => ob (f_X0_slot v1 v2 M1) fun r7 M5 => if 0 ≤ r7 ∧ r7 < ln r4 then (some ((gi M5 r4 r7), M5)) else none)
set_option maxRecDepth 10000 in
set_option maxHeartbeats 4000000 in
theorem t_X0_beginOf {l : Launch} {D : va_G} {cs : JC} {b : Nat} (a0 : Nat) (v1 : Int32) (v2 : Int32) (M : JM) (h_a0 : oty M a0 10) : ∀ q, f_X0_beginOf a0 v1 v2 M = some q → CTy l yX0_beginOf (.code yX0_beginOf cX0_beginOf 3 (Option.some Jvm.ClassFile.FieldType.int) :: GB) rm_X0_beginOf D cs b evI [.ref (b + a0), .int v1, .int v2] M rm_X0_beginOf.cells rm_X0_beginOf.slots q := fun q hq => ct_of [(0, .ref (b + a0)), (1, .int v1), (2, .int v2)] rfl rfl (Nat.le_of_ble_eq_true rfl) hq (fun p e s m args below meth c X hr hin => by
  refine aw_callq (F' := ob (f_X0_sizeOf a0 v1 v2 M) fun r3 M1 => if r3 = 0 then (some ((-9 : Int32), M1)) else (orf (gr M1 a0 5) fun r4 => ob (f_X0_slot v1 v2 M1) fun r7 M5 => if 0 ≤ r7 ∧ r7 < ln r4 then (some ((gi M5 r4 r7), M5)) else none)) rfl ?_
  refine aw_aload_n (pc := 0) X 0 dX0_beginOf_0 rfl ?_
  refine aw_iload_n (pc := 1) X 1 dX0_beginOf_1 rfl ?_
  refine aw_iload_n (pc := 2) X 2 dX0_beginOf_2 rfl ?_
  refine cl_X0_50 (pc := 3) X ⟨Nat.le_of_ble_eq_true rfl, Nat.le_of_ble_eq_true rfl⟩ (Nat.le_of_ble_eq_true rfl) (ks2 := 0) (sl2 := 0) rfl rfl ⟨(Nat.le_of_ble_eq_true rfl), (Nat.le_of_ble_eq_true rfl)⟩ dX0_beginOf_3 h_a0 (fun r3 M1 g2 => ?_)
  have h_a0 := h_a0.mono g2
  refine aw_ifne (pc := 6) X 14 dX0_beginOf_6 (by decide) ?_ ?_
  · refine aw_bipush (pc := 9) X (-9 : Int32) dX0_beginOf_9 (by decide) ?_
    refine aw_goto (pc := 11) X 24 dX0_beginOf_11 (by decide) ?_
    exact aw_iret (pc := 24) X hr dX0_beginOf_24 (Nat.le_of_ble_eq_true rfl) (Nat.le_of_ble_eq_true rfl)
  · refine aw_aload_n (pc := 14) X 0 dX0_beginOf_14 rfl ?_
    refine gf_X0_22 (pc := 15) X dX0_beginOf_15 h_a0 (fun r4 h_r4 => ?_)
    refine aw_iload_n (pc := 18) X 1 dX0_beginOf_18 rfl ?_
    refine aw_iload_n (pc := 19) X 2 dX0_beginOf_19 rfl ?_
    refine cl_X0_46 (pc := 20) X ⟨Nat.le_of_ble_eq_true rfl, Nat.le_of_ble_eq_true rfl⟩ (Nat.le_of_ble_eq_true rfl) (ks2 := 0) (sl2 := 0) rfl rfl ⟨(Nat.le_of_ble_eq_true rfl), (Nat.le_of_ble_eq_true rfl)⟩ dX0_beginOf_20  (fun r7 M5 g6 => ?_)
    have h_a0 := h_a0.mono g6
    have h_r4 := h_r4.mono g6
    refine aw_iald (pc := 23) X dX0_beginOf_23 h_r4 ?_
    exact aw_iret (pc := 24) X hr dX0_beginOf_24 (Nat.le_of_ble_eq_true rfl) (Nat.le_of_ble_eq_true rfl))
/-! ReportBlocks.has -/
def rm_X7_has : Room := { frames := 3, cells := 0, slots := 0, locals := 65 }
theorem hd_X7_has : jHd yX7_has 3 := by unfold jHd; decide +kernel
theorem cl_X7_157 {ρ : Type} {l : Launch} {p : Program} {e : Env} {R : Room} {s : State} {m : MethodId} {args : Array Value} {below : List Frame} {meth : Method} {c : Code} {D : va_G} {cs : JC} {b nL : Nat} {H0 : Heap} {Qf : ρ × JM → State → Prop} {M : JM} {ks sl : Nat} {lv : List (Nat × Value)} {pc : Nat} {st : List Value} {cc : ByteArray} (X : jX p c cc nL s m args RX7 D cs b meth H0) {z0 : Nat} {z1 : Int32} {K : Bool → JM → Option (ρ × JM)} (hrm : jRm rm_X7_isRecord 2 R) (hW : (st.map fun v => v.category).sum ≤ 8) {ks2 sl2 : Nat} (hk2 : ks + rm_X7_isRecord.cells = ks2) (hs2 : sl + rm_X7_isRecord.slots = sl2) (hroom : ks2 ≤ R.cells ∧ sl2 ≤ R.slots) (hdg : decode cc pc = .ok (.invokevirtual 157, 3)) (h0 : oty M z0 17) (kk : ∀ (r : Bool) (M2 : JM), gn M ≤ gn M2 → AWO p l e R s m args below meth c D cs b nL H0 Qf (K r M2) M2 ks2 sl2 lv (pc + 3) (.int (bI r) :: st)) : AWO p l e R s m args below meth c D cs b nL H0 Qf (ob (f_X7_isRecord z0 z1 M) K) M ks sl lv pc (.int z1 :: .ref (b + z0) :: st) := by
  subst hk2
  subst hs2
  exact aw_callV (ci := 7) X [.int z1] st rfl rfl wl_X7_157 wi_X7_isRecord wv_X7_isRecord wc_X7_isRecord wn_X7 (n := 1) hd_X7_isRecord rfl hrm hW hroom hdg h0 (t_X7_isRecord z0 z1 M h0) (fun r M2 g _ => kk r M2 g)
theorem cl_X7_163 {ρ : Type} {l : Launch} {p : Program} {e : Env} {R : Room} {s : State} {m : MethodId} {args : Array Value} {below : List Frame} {meth : Method} {c : Code} {D : va_G} {cs : JC} {b nL : Nat} {H0 : Heap} {Qf : ρ × JM → State → Prop} {M : JM} {ks sl : Nat} {lv : List (Nat × Value)} {pc : Nat} {st : List Value} {cc : ByteArray} (X : jX p c cc nL s m args RX7 D cs b meth H0) {z0 : Nat} {z1 : Int32} {z2 : Int32} {K : Int32 → JM → Option (ρ × JM)} (hrm : jRm rm_X0_beginOf 3 R) (hW : (st.map fun v => v.category).sum ≤ 8) {ks2 sl2 : Nat} (hk2 : ks + rm_X0_beginOf.cells = ks2) (hs2 : sl + rm_X0_beginOf.slots = sl2) (hroom : ks2 ≤ R.cells ∧ sl2 ≤ R.slots) (hdg : decode cc pc = .ok (.invokevirtual 163, 3)) (h0 : oty M z0 10) (kk : ∀ (r : Int32) (M2 : JM), gn M ≤ gn M2 → AWO p l e R s m args below meth c D cs b nL H0 Qf (K r M2) M2 ks2 sl2 lv (pc + 3) (.int r :: st)) : AWO p l e R s m args below meth c D cs b nL H0 Qf (ob (f_X0_beginOf z0 z1 z2 M) K) M ks sl lv pc (.int z2 :: .int z1 :: .ref (b + z0) :: st) := by
  subst hk2
  subst hs2
  exact aw_callV (ci := 0) X [.int z1, .int z2] st rfl rfl wl_X7_163 wi_X0_beginOf wv_X0_beginOf wc_X0_beginOf wn_X0 (n := 2) hd_X0_beginOf rfl hrm hW hroom hdg h0 (t_X0_beginOf z0 z1 z2 M h0) (fun r M2 g _ => kk r M2 g)
theorem cl_X7_160 {ρ : Type} {l : Launch} {p : Program} {e : Env} {R : Room} {s : State} {m : MethodId} {args : Array Value} {below : List Frame} {meth : Method} {c : Code} {D : va_G} {cs : JC} {b nL : Nat} {H0 : Heap} {Qf : ρ × JM → State → Prop} {M : JM} {ks sl : Nat} {lv : List (Nat × Value)} {pc : Nat} {st : List Value} {cc : ByteArray} (X : jX p c cc nL s m args RX7 D cs b meth H0) {z0 : Nat} {z1 : Int32} {z2 : Int32} {K : Int32 → JM → Option (ρ × JM)} (hrm : jRm rm_X0_sizeOf 3 R) (hW : (st.map fun v => v.category).sum ≤ 8) {ks2 sl2 : Nat} (hk2 : ks + rm_X0_sizeOf.cells = ks2) (hs2 : sl + rm_X0_sizeOf.slots = sl2) (hroom : ks2 ≤ R.cells ∧ sl2 ≤ R.slots) (hdg : decode cc pc = .ok (.invokevirtual 160, 3)) (h0 : oty M z0 10) (kk : ∀ (r : Int32) (M2 : JM), gn M ≤ gn M2 → AWO p l e R s m args below meth c D cs b nL H0 Qf (K r M2) M2 ks2 sl2 lv (pc + 3) (.int r :: st)) : AWO p l e R s m args below meth c D cs b nL H0 Qf (ob (f_X0_sizeOf z0 z1 z2 M) K) M ks sl lv pc (.int z2 :: .int z1 :: .ref (b + z0) :: st) := by
  subst hk2
  subst hs2
  exact aw_callV (ci := 0) X [.int z1, .int z2] st rfl rfl wl_X7_160 wi_X0_sizeOf wv_X0_sizeOf wc_X0_sizeOf wn_X0 (n := 2) hd_X0_sizeOf rfl hrm hW hroom hdg h0 (t_X0_sizeOf z0 z1 z2 M h0) (fun r M2 g _ => kk r M2 g)
def f_X7_has (a0 : Nat) (v1 : Int32) (v2 : Int32) (v3 : Int32) (M : JM) : Option (Int32 × JM) := ob (f_X7_isRecord a0 v1 M) fun r3 M1 => if r3 = true then (ob (f_X7_isPlace v2 M1) fun r6 M4 => if r6 = true then (if v3 < 0 then (some ((-1 : Int32), M4)) else (if (1 : Int32) < v3 then (some ((-1 : Int32), M4)) else (if v3 = 0 then (orf (gr M4 a0 4) fun r11 => ob (f_X0_sizeOf r11 v1 v2 M4) fun r14 M12 => some (r14, M12)) else (orf (gr M4 a0 4) fun r7 => ob (f_X0_beginOf r7 v1 v2 M4) fun r10 M8 => some (r10, M8))))) else (some ((-1 : Int32), M4))) else (some ((-1 : Int32), M1))
set_option maxRecDepth 10000 in
set_option maxHeartbeats 4000000 in
theorem t_X7_has {l : Launch} {D : va_G} {cs : JC} {b : Nat} (a0 : Nat) (v1 : Int32) (v2 : Int32) (v3 : Int32) (M : JM) (h_a0 : oty M a0 17) : ∀ q, f_X7_has a0 v1 v2 v3 M = some q → CTy l yX7_has (.code yX7_has cX7_has 4 (Option.some Jvm.ClassFile.FieldType.int) :: GB) rm_X7_has D cs b evI [.ref (b + a0), .int v1, .int v2, .int v3] M rm_X7_has.cells rm_X7_has.slots q := fun q hq => ct_of [(0, .ref (b + a0)), (1, .int v1), (2, .int v2), (3, .int v3)] rfl rfl (Nat.le_of_ble_eq_true rfl) hq (fun p e s m args below meth c X hr hin => by
  refine aw_callq (F' := ob (f_X7_isRecord a0 v1 M) fun r3 M1 => if r3 = true then (ob (f_X7_isPlace v2 M1) fun r6 M4 => if r6 = true then (if v3 < 0 then (some ((-1 : Int32), M4)) else (if (1 : Int32) < v3 then (some ((-1 : Int32), M4)) else (if v3 = 0 then (orf (gr M4 a0 4) fun r11 => ob (f_X0_sizeOf r11 v1 v2 M4) fun r14 M12 => some (r14, M12)) else (orf (gr M4 a0 4) fun r7 => ob (f_X0_beginOf r7 v1 v2 M4) fun r10 M8 => some (r10, M8))))) else (some ((-1 : Int32), M4))) else (some ((-1 : Int32), M1))) rfl ?_
  refine aw_aload_n (pc := 0) X 0 dX7_has_0 rfl ?_
  refine aw_iload_n (pc := 1) X 1 dX7_has_1 rfl ?_
  refine cl_X7_157 (pc := 2) X ⟨Nat.le_of_ble_eq_true rfl, Nat.le_of_ble_eq_true rfl⟩ (Nat.le_of_ble_eq_true rfl) (ks2 := 0) (sl2 := 0) rfl rfl ⟨(Nat.le_of_ble_eq_true rfl), (Nat.le_of_ble_eq_true rfl)⟩ dX7_has_2 h_a0 (fun r3 M1 g2 => ?_)
  have h_a0 := h_a0.mono g2
  refine aw_ifeqB (pc := 5) X 24 dX7_has_5 (by decide) ?_ ?_
  · refine aw_iload_n (pc := 8) X 2 dX7_has_8 rfl ?_
    refine cl_X7_70 (pc := 9) X ⟨Nat.le_of_ble_eq_true rfl, Nat.le_of_ble_eq_true rfl⟩ (Nat.le_of_ble_eq_true rfl) (ks2 := 0) (sl2 := 0) rfl rfl ⟨(Nat.le_of_ble_eq_true rfl), (Nat.le_of_ble_eq_true rfl)⟩ dX7_has_9  (fun r6 M4 g5 => ?_)
    have h_a0 := h_a0.mono g5
    refine aw_ifeqB (pc := 12) X 24 dX7_has_12 (by decide) ?_ ?_
    · refine aw_iload_n (pc := 15) X 3 dX7_has_15 rfl ?_
      refine aw_iflt (pc := 16) X 24 dX7_has_16 (by decide) ?_ ?_
      · refine aw_iconst (pc := 24) X (-1 : Int32) dX7_has_24 (by decide) ?_
        exact aw_iret (pc := 25) X hr dX7_has_25 (Nat.le_of_ble_eq_true rfl) (Nat.le_of_ble_eq_true rfl)
      · refine aw_iload_n (pc := 19) X 3 dX7_has_19 rfl ?_
        refine aw_iconst (pc := 20) X (1 : Int32) dX7_has_20 (by decide) ?_
        refine aw_icmple (pc := 21) X 26 dX7_has_21 (by decide) ?_ ?_
        · refine aw_iconst (pc := 24) X (-1 : Int32) dX7_has_24 (by decide) ?_
          exact aw_iret (pc := 25) X hr dX7_has_25 (Nat.le_of_ble_eq_true rfl) (Nat.le_of_ble_eq_true rfl)
        · refine aw_iload_n (pc := 26) X 3 dX7_has_26 rfl ?_
          refine aw_ifne (pc := 27) X 42 dX7_has_27 (by decide) ?_ ?_
          · refine aw_aload_n (pc := 30) X 0 dX7_has_30 rfl ?_
            refine gf_X7_34 (pc := 31) X dX7_has_31 h_a0 (fun r11 h_r11 => ?_)
            refine aw_iload_n (pc := 34) X 1 dX7_has_34 rfl ?_
            refine aw_iload_n (pc := 35) X 2 dX7_has_35 rfl ?_
            refine cl_X7_160 (pc := 36) X ⟨Nat.le_of_ble_eq_true rfl, Nat.le_of_ble_eq_true rfl⟩ (Nat.le_of_ble_eq_true rfl) (ks2 := 0) (sl2 := 0) rfl rfl ⟨(Nat.le_of_ble_eq_true rfl), (Nat.le_of_ble_eq_true rfl)⟩ dX7_has_36 h_r11 (fun r14 M12 g13 => ?_)
            have h_a0 := h_a0.mono g13
            refine aw_goto (pc := 39) X 51 dX7_has_39 (by decide) ?_
            exact aw_iret (pc := 51) X hr dX7_has_51 (Nat.le_of_ble_eq_true rfl) (Nat.le_of_ble_eq_true rfl)
          · refine aw_aload_n (pc := 42) X 0 dX7_has_42 rfl ?_
            refine gf_X7_34 (pc := 43) X dX7_has_43 h_a0 (fun r7 h_r7 => ?_)
            refine aw_iload_n (pc := 46) X 1 dX7_has_46 rfl ?_
            refine aw_iload_n (pc := 47) X 2 dX7_has_47 rfl ?_
            refine cl_X7_163 (pc := 48) X ⟨Nat.le_of_ble_eq_true rfl, Nat.le_of_ble_eq_true rfl⟩ (Nat.le_of_ble_eq_true rfl) (ks2 := 0) (sl2 := 0) rfl rfl ⟨(Nat.le_of_ble_eq_true rfl), (Nat.le_of_ble_eq_true rfl)⟩ dX7_has_48 h_r7 (fun r10 M8 g9 => ?_)
            have h_a0 := h_a0.mono g9
            exact aw_iret (pc := 51) X hr dX7_has_51 (Nat.le_of_ble_eq_true rfl) (Nat.le_of_ble_eq_true rfl)
    · refine aw_iconst (pc := 24) X (-1 : Int32) dX7_has_24 (by decide) ?_
      exact aw_iret (pc := 25) X hr dX7_has_25 (Nat.le_of_ble_eq_true rfl) (Nat.le_of_ble_eq_true rfl)
  · refine aw_iconst (pc := 24) X (-1 : Int32) dX7_has_24 (by decide) ?_
    exact aw_iret (pc := 25) X hr dX7_has_25 (Nat.le_of_ble_eq_true rfl) (Nat.le_of_ble_eq_true rfl))
