/-! programs of the methods, and the rows that their bytecode answers so: written by wip/gen/gen.py out of the printed decode rows -/
/-! ReportBlocks$TrackRow.passTick -/
def rm_X6_passTick : Room := { frames := 1, cells := 0, slots := 0, locals := 20 }
theorem hd_X6_passTick : jHd yX6_passTick 0 := by unfold jHd; decide +kernel
theorem gf_X6_36 {ρ : Type} {l : Launch} {p : Program} {e : Env} {R : Room} {s : State} {m : MethodId} {args : Array Value} {below : List Frame} {meth : Method} {c : Code} {D : va_G} {cs : JC} {b nL : Nat} {H0 : Heap} {Qf : ρ × JM → State → Prop} {M : JM} {ks sl : Nat} {lv : List (Nat × Value)} {pc : Nat} {st : List Value} {cc : ByteArray} {k : Nat} (X : jX p c cc nL s m args RX6 D cs b meth H0) {F : Option (ρ × JM)} (hdg : decode cc pc = .ok (.getfield 36, 3)) (ho : oty M k 16) (kk : AWO p l e R s m args below meth c D cs b nL H0 Qf F M ks sl lv (pc + 3) (.int (gi M k 4) :: st)) : AWO p l e R s m args below meth c D cs b nL H0 Qf F M ks sl lv pc (.ref (b + k) :: st) := aw_getI (ci := 6) X 4 rfl gy_X6 (by decide) rfl rfl wf_X6_36 hdg ho kk
theorem pf_X6_36 {ρ : Type} {l : Launch} {p : Program} {e : Env} {R : Room} {s : State} {m : MethodId} {args : Array Value} {below : List Frame} {meth : Method} {c : Code} {D : va_G} {cs : JC} {b nL : Nat} {H0 : Heap} {Qf : ρ × JM → State → Prop} {M : JM} {ks sl : Nat} {lv : List (Nat × Value)} {pc : Nat} {st : List Value} {cc : ByteArray} {k : Nat} {K : JM → Option (ρ × JM)} (X : jX p c cc nL s m args RX6 D cs b meth H0) {x : Int32} (hdg : decode cc pc = .ok (.putfield 36, 3)) (ho : oty M k 16) (kk : ∀ M2 : JM, gn M ≤ gn M2 → AWO p l e R s m args below meth c D cs b nL H0 Qf (K M2) M2 ks sl lv (pc + 3) st) : AWO p l e R s m args below meth c D cs b nL H0 Qf (sq (si M k 4 x) K) M ks sl lv pc (.int x :: .ref (b + k) :: st) := aw_putI (ci := 6) X 4 rfl gy_X6 tyX6 tyX6_ok nmX6 (by decide) (by decide) rfl rfl wf_X6_36 rfl (Or.inl rfl) hdg ho (kk _ (Nat.le_refl _))
theorem gf_X6_45 {ρ : Type} {l : Launch} {p : Program} {e : Env} {R : Room} {s : State} {m : MethodId} {args : Array Value} {below : List Frame} {meth : Method} {c : Code} {D : va_G} {cs : JC} {b nL : Nat} {H0 : Heap} {Qf : ρ × JM → State → Prop} {M : JM} {ks sl : Nat} {lv : List (Nat × Value)} {pc : Nat} {st : List Value} {cc : ByteArray} {k : Nat} (X : jX p c cc nL s m args RX6 D cs b meth H0) {F : Option (ρ × JM)} (hdg : decode cc pc = .ok (.getfield 45, 3)) (ho : oty M k 16) (kk : AWO p l e R s m args below meth c D cs b nL H0 Qf F M ks sl lv (pc + 3) (.int (gi M k 3) :: st)) : AWO p l e R s m args below meth c D cs b nL H0 Qf F M ks sl lv pc (.ref (b + k) :: st) := aw_getI (ci := 6) X 3 rfl gy_X6 (by decide) rfl rfl wf_X6_45 hdg ho kk
theorem pf_X6_45 {ρ : Type} {l : Launch} {p : Program} {e : Env} {R : Room} {s : State} {m : MethodId} {args : Array Value} {below : List Frame} {meth : Method} {c : Code} {D : va_G} {cs : JC} {b nL : Nat} {H0 : Heap} {Qf : ρ × JM → State → Prop} {M : JM} {ks sl : Nat} {lv : List (Nat × Value)} {pc : Nat} {st : List Value} {cc : ByteArray} {k : Nat} {K : JM → Option (ρ × JM)} (X : jX p c cc nL s m args RX6 D cs b meth H0) {x : Int32} (hdg : decode cc pc = .ok (.putfield 45, 3)) (ho : oty M k 16) (kk : ∀ M2 : JM, gn M ≤ gn M2 → AWO p l e R s m args below meth c D cs b nL H0 Qf (K M2) M2 ks sl lv (pc + 3) st) : AWO p l e R s m args below meth c D cs b nL H0 Qf (sq (si M k 3 x) K) M ks sl lv pc (.int x :: .ref (b + k) :: st) := aw_putI (ci := 6) X 3 rfl gy_X6 tyX6 tyX6_ok nmX6 (by decide) (by decide) rfl rfl wf_X6_45 rfl (Or.inl rfl) hdg ho (kk _ (Nat.le_refl _))
def f_X6_passTick_L70 : Nat → Int32 → JM → Option (Unit × JM) := fun a0 v1 M => sq (si M a0 3 ((gi M a0 3) + ((gi M a0 1) - v1))) fun M5 => sq (si M5 a0 1 v1) fun M7 => some ((), M7)
set_option maxRecDepth 10000 in
set_option maxHeartbeats 4000000 in
theorem t_X6_passTick_L70 {p : Program} {l : Launch} {e : Env} {s : State} {m : MethodId} {args : Array Value} {below : List Frame} {meth : Method} {c : Code} {D : va_G} {cs : JC} {b : Nat} (X : jX p c cX6_passTick 4 s m args RX6 D cs b meth s.heap) (hr : meth.sig.returnType = Option.none) : ∀ (a0 : Nat) (v1 : Int32) (M : JM), oty M a0 16 → AWO p l e rm_X6_passTick s m args below meth c D cs b 4 s.heap (jE below D cs b evV args s rm_X6_passTick.cells rm_X6_passTick.slots) (f_X6_passTick_L70 a0 v1 M) M 0 0 [(0, .ref (b + a0)), (1, .int v1)] 70 [] := by
  intro a0 v1 M h_a0
  refine aw_callq (F' := sq (si M a0 3 ((gi M a0 3) + ((gi M a0 1) - v1))) fun M5 => sq (si M5 a0 1 v1) fun M7 => some ((), M7)) rfl ?_
  refine aw_aload_n (pc := 70) X 0 dX6_passTick_70 rfl ?_
  refine aw_dup_a (pc := 71) X dX6_passTick_71 ?_
  refine gf_X6_45 (pc := 72) X dX6_passTick_72 h_a0 ?_
  refine aw_aload_n (pc := 75) X 0 dX6_passTick_75 rfl ?_
  refine gf_X6_18 (pc := 76) X dX6_passTick_76 h_a0 ?_
  refine aw_iload_n (pc := 79) X 1 dX6_passTick_79 rfl ?_
  refine aw_isub (pc := 80) X dX6_passTick_80 ?_
  refine aw_iadd (pc := 81) X dX6_passTick_81 ?_
  refine pf_X6_45 (pc := 82) X dX6_passTick_82 h_a0 (fun M5 g6 => ?_)
  have h_a0 := h_a0.mono g6
  refine aw_aload_n (pc := 85) X 0 dX6_passTick_85 rfl ?_
  refine aw_iload_n (pc := 86) X 1 dX6_passTick_86 rfl ?_
  refine pf_X6_18 (pc := 87) X dX6_passTick_87 h_a0 (fun M7 g8 => ?_)
  have h_a0 := h_a0.mono g8
  exact aw_vret (pc := 90) X hr dX6_passTick_90 (Nat.le_of_ble_eq_true rfl) (Nat.le_of_ble_eq_true rfl)
theorem cl_X6_39 {ρ : Type} {l : Launch} {p : Program} {e : Env} {R : Room} {s : State} {m : MethodId} {args : Array Value} {below : List Frame} {meth : Method} {c : Code} {D : va_G} {cs : JC} {b nL : Nat} {H0 : Heap} {Qf : ρ × JM → State → Prop} {M : JM} {ks sl : Nat} {lv : List (Nat × Value)} {pc : Nat} {st : List Value} {cc : ByteArray} (X : jX p c cc nL s m args RX6 D cs b meth H0) {z0 : Nat} {K : JM → Option (ρ × JM)} (hrm : jRm rm_X5_passTick 1 R) (hW : (st.map fun v => v.category).sum ≤ 8) {ks2 sl2 : Nat} (hk2 : ks + rm_X5_passTick.cells = ks2) (hs2 : sl + rm_X5_passTick.slots = sl2) (hroom : ks2 ≤ R.cells ∧ sl2 ≤ R.slots) (hdg : decode cc pc = .ok (.invokevirtual 39, 3)) (h0 : oty M z0 15) (kk : ∀ (M2 : JM), gn M ≤ gn M2 → AWO p l e R s m args below meth c D cs b nL H0 Qf (K M2) M2 ks2 sl2 lv (pc + 3) (st)) : AWO p l e R s m args below meth c D cs b nL H0 Qf (ob (f_X5_passTick z0 M) (fun _ => K)) M ks sl lv pc (.ref (b + z0) :: st) := by
  subst hk2
  subst hs2
  exact aw_callV (ci := 5) X [] st rfl rfl wl_X6_39 wi_X5_passTick wv_X5_passTick wc_X5_passTick wn_X5 (n := 0) hd_X5_passTick rfl hrm hW hroom hdg h0 (t_X5_passTick z0 M h0) (fun _ M2 g _ => kk M2 g)
theorem gf_X6_42 {ρ : Type} {l : Launch} {p : Program} {e : Env} {R : Room} {s : State} {m : MethodId} {args : Array Value} {below : List Frame} {meth : Method} {c : Code} {D : va_G} {cs : JC} {b nL : Nat} {H0 : Heap} {Qf : ρ × JM → State → Prop} {M : JM} {ks sl : Nat} {lv : List (Nat × Value)} {pc : Nat} {st : List Value} {cc : ByteArray} {k : Nat} (X : jX p c cc nL s m args RX6 D cs b meth H0) {F : Option (ρ × JM)} (hdg : decode cc pc = .ok (.getfield 42, 3)) (ho : oty M k 15) (kk : AWO p l e R s m args below meth c D cs b nL H0 Qf F M ks sl lv (pc + 3) (.int (gi M k 7) :: st)) : AWO p l e R s m args below meth c D cs b nL H0 Qf F M ks sl lv pc (.ref (b + k) :: st) := aw_getI (ci := 5) X 7 rfl gy_X5 (by decide) rfl rfl wf_X6_42 hdg ho kk
def f_X6_passTick_L64 (k14 : Nat → Int32 → Int32 → JM → Option (Unit × JM)) : Nat → Int32 → Int32 → JM → Option (Unit × JM) := fun a0 v1 v2 M => sv (v2 + (1 : Int32)) fun i13 => k14 a0 v1 i13 M
set_option maxRecDepth 10000 in
set_option maxHeartbeats 4000000 in
theorem t_X6_passTick_L64 {p : Program} {l : Launch} {e : Env} {s : State} {m : MethodId} {args : Array Value} {below : List Frame} {meth : Method} {c : Code} {D : va_G} {cs : JC} {b : Nat} (X : jX p c cX6_passTick 4 s m args RX6 D cs b meth s.heap) (hr : meth.sig.returnType = Option.none) (k14 : Nat → Int32 → Int32 → JM → Option (Unit × JM)) (hk14 : ∀ (a0 : Nat) (v1 : Int32) (v2 : Int32) (M : JM), oty M a0 16 → AWO p l e rm_X6_passTick s m args below meth c D cs b 4 s.heap (jE below D cs b evV args s rm_X6_passTick.cells rm_X6_passTick.slots) (k14 a0 v1 v2 M) M 0 0 [(0, .ref (b + a0)), (1, .int v1), (2, .int v2)] 14 []) : ∀ (a0 : Nat) (v1 : Int32) (v2 : Int32) (M : JM), oty M a0 16 → AWO p l e rm_X6_passTick s m args below meth c D cs b 4 s.heap (jE below D cs b evV args s rm_X6_passTick.cells rm_X6_passTick.slots) (f_X6_passTick_L64 k14 a0 v1 v2 M) M 0 0 [(0, .ref (b + a0)), (1, .int v1), (2, .int v2)] 64 [] := by
  intro a0 v1 v2 M h_a0
  refine aw_callq (F' := sv (v2 + (1 : Int32)) fun i13 => k14 a0 v1 i13 M) rfl ?_
  refine aw_iincV (pc := 64) X (fun y => [(2, .int y), (0, .ref (b + a0)), (1, .int v1)]) 2 (v := (v2 + (1 : Int32))) dX6_passTick_64 rfl rfl (by decide) (fun _ => rfl) (fun i13 => ?_)
  refine aw_goto (pc := 67) X 14 dX6_passTick_67 (by decide) ?_
  refine aw_sub [1, 2, 0] rfl ?_
  exact hk14 a0 v1 i13 M h_a0
def f_X6_passTick_L14 : Nat → Nat → Int32 → Int32 → JM → Option (Unit × JM)
  | 0, _, _, _, _ => none
  | n + 1, a0, v1, v2, M => if v2 < (gi M a0 1) then (orf (gr M a0 0) fun r9 => if 0 ≤ v2 ∧ v2 < ln r9 then (orf (gr M r9 v2) fun r10 => ob (f_X5_passTick r10 M) fun _ M11 => if (gi M11 r10 7) < (6 : Int32) then (orf (gr M11 a0 0) fun r14 => orf (gr M11 a0 0) fun r15 => if 0 ≤ v1 ∧ v1 < ln r15 then (orf (gr M11 r15 v1) fun r16 => if 0 ≤ v2 ∧ v2 < ln r14 then (sq (sr M11 r14 v2 (some r16)) fun M17 => orf (gr M17 a0 0) fun r19 => if 0 ≤ v1 ∧ v1 < ln r19 then (sq (sr M17 r19 v1 (some r10)) fun M20 => sv (v1 + (1 : Int32)) fun i22 => f_X6_passTick_L64 (f_X6_passTick_L14 n) a0 i22 v2 M20) else none) else none) else none) else (f_X6_passTick_L64 (f_X6_passTick_L14 n) a0 v1 v2 M11)) else none) else (f_X6_passTick_L70 a0 v1 M)
set_option maxRecDepth 10000 in
set_option maxHeartbeats 4000000 in
theorem t_X6_passTick_L14 {p : Program} {l : Launch} {e : Env} {s : State} {m : MethodId} {args : Array Value} {below : List Frame} {meth : Method} {c : Code} {D : va_G} {cs : JC} {b : Nat} (X : jX p c cX6_passTick 4 s m args RX6 D cs b meth s.heap) (hr : meth.sig.returnType = Option.none) : ∀ (n : Nat) (a0 : Nat) (v1 : Int32) (v2 : Int32) (M : JM), oty M a0 16 → AWO p l e rm_X6_passTick s m args below meth c D cs b 4 s.heap (jE below D cs b evV args s rm_X6_passTick.cells rm_X6_passTick.slots) (f_X6_passTick_L14 n a0 v1 v2 M) M 0 0 [(0, .ref (b + a0)), (1, .int v1), (2, .int v2)] 14 [] := by
  intro n
  induction n with
  | zero => intro a0 v1 v2 M h_a0; exact aw_none
  | succ n ih =>
    intro a0 v1 v2 M h_a0
    refine aw_callq (F' := if v2 < (gi M a0 1) then (orf (gr M a0 0) fun r9 => if 0 ≤ v2 ∧ v2 < ln r9 then (orf (gr M r9 v2) fun r10 => ob (f_X5_passTick r10 M) fun _ M11 => if (gi M11 r10 7) < (6 : Int32) then (orf (gr M11 a0 0) fun r14 => orf (gr M11 a0 0) fun r15 => if 0 ≤ v1 ∧ v1 < ln r15 then (orf (gr M11 r15 v1) fun r16 => if 0 ≤ v2 ∧ v2 < ln r14 then (sq (sr M11 r14 v2 (some r16)) fun M17 => orf (gr M17 a0 0) fun r19 => if 0 ≤ v1 ∧ v1 < ln r19 then (sq (sr M17 r19 v1 (some r10)) fun M20 => sv (v1 + (1 : Int32)) fun i22 => f_X6_passTick_L64 (f_X6_passTick_L14 n) a0 i22 v2 M20) else none) else none) else none) else (f_X6_passTick_L64 (f_X6_passTick_L14 n) a0 v1 v2 M11)) else none) else (f_X6_passTick_L70 a0 v1 M)) rfl ?_
    refine aw_iload_n (pc := 14) X 2 dX6_passTick_14 rfl ?_
    refine aw_aload_n (pc := 15) X 0 dX6_passTick_15 rfl ?_
    refine gf_X6_18 (pc := 16) X dX6_passTick_16 h_a0 ?_
    refine aw_icmpge (pc := 19) X 70 dX6_passTick_19 (by decide) ?_ ?_
    · refine aw_aload_n (pc := 22) X 0 dX6_passTick_22 rfl ?_
      refine gf_X6_11 (pc := 23) X dX6_passTick_23 h_a0 (fun r9 h_r9 => ?_)
      refine aw_iload_n (pc := 26) X 2 dX6_passTick_26 rfl ?_
      refine aw_aldT (pc := 27) X dX6_passTick_27 h_r9 (fun r10 h_r10 => ?_)
      refine aw_astore_n (pc := 28) X [(3, .ref (b + r10)), (0, .ref (b + a0)), (1, .int v1), (2, .int v2)] dX6_passTick_28 (by decide) rfl ?_
      refine aw_aload_n (pc := 29) X 0 dX6_passTick_29 rfl ?_
      refine cl_X6_39 (pc := 30) X ⟨Nat.le_of_ble_eq_true rfl, Nat.le_of_ble_eq_true rfl⟩ (Nat.le_of_ble_eq_true rfl) (ks2 := 0) (sl2 := 0) rfl rfl ⟨(Nat.le_of_ble_eq_true rfl), (Nat.le_of_ble_eq_true rfl)⟩ dX6_passTick_30 h_r10 (fun M11 g12 => ?_)
      have h_a0 := h_a0.mono g12
      have h_r10 := h_r10.mono g12
      refine aw_aload_n (pc := 33) X 0 dX6_passTick_33 rfl ?_
      refine gf_X6_42 (pc := 34) X dX6_passTick_34 h_r10 ?_
      refine aw_bipush (pc := 37) X (6 : Int32) dX6_passTick_37 (by decide) ?_
      refine aw_icmpge (pc := 39) X 64 dX6_passTick_39 (by decide) ?_ ?_
      · refine aw_aload_n (pc := 42) X 1 dX6_passTick_42 rfl ?_
        refine gf_X6_11 (pc := 43) X dX6_passTick_43 h_a0 (fun r14 h_r14 => ?_)
        refine aw_iload_n (pc := 46) X 3 dX6_passTick_46 rfl ?_
        refine aw_aload_n (pc := 47) X 1 dX6_passTick_47 rfl ?_
        refine gf_X6_11 (pc := 48) X dX6_passTick_48 h_a0 (fun r15 h_r15 => ?_)
        refine aw_iload_n (pc := 51) X 2 dX6_passTick_51 rfl ?_
        refine aw_aldT (pc := 52) X dX6_passTick_52 h_r15 (fun r16 h_r16 => ?_)
        refine aw_astTQ (pc := 53) X dX6_passTick_53 h_r14 h_r16 (fun M17 g18 => ?_)
        have h_a0 := h_a0.mono g18
        have h_r10 := h_r10.mono g18
        refine aw_aload_n (pc := 54) X 1 dX6_passTick_54 rfl ?_
        refine gf_X6_11 (pc := 55) X dX6_passTick_55 h_a0 (fun r19 h_r19 => ?_)
        refine aw_iload_n (pc := 58) X 2 dX6_passTick_58 rfl ?_
        refine aw_aload_n (pc := 59) X 0 dX6_passTick_59 rfl ?_
        refine aw_astTQ (pc := 60) X dX6_passTick_60 h_r19 h_r10 (fun M20 g21 => ?_)
        have h_a0 := h_a0.mono g21
        have h_r10 := h_r10.mono g21
        refine aw_iincV (pc := 61) X (fun y => [(1, .int y), (3, .ref (b + r10)), (0, .ref (b + a0)), (2, .int v2)]) 2 (v := (v1 + (1 : Int32))) dX6_passTick_61 rfl rfl (by decide) (fun _ => rfl) (fun i22 => ?_)
        refine aw_sub [2, 0, 3] rfl ?_
        exact t_X6_passTick_L64 X hr (f_X6_passTick_L14 n) ih a0 i22 v2 M20 h_a0
      · refine aw_sub [1, 2, 3] rfl ?_
        exact t_X6_passTick_L64 X hr (f_X6_passTick_L14 n) ih a0 v1 v2 M11 h_a0
    · refine aw_sub [0, 1] rfl ?_
      exact t_X6_passTick_L70 X hr a0 v1 M h_a0
def f_X6_passTick (a0 : Nat) (M : JM) : Option (Unit × JM) := sq (si M a0 4 ((gi M a0 4) + (1 : Int32))) fun M1 => sv (0 : Int32) fun i3 => sv (0 : Int32) fun i4 => f_X6_passTick_L14 FU a0 i3 i4 M1
set_option maxRecDepth 10000 in
set_option maxHeartbeats 4000000 in
theorem t_X6_passTick {l : Launch} {D : va_G} {cs : JC} {b : Nat} (a0 : Nat) (M : JM) (h_a0 : oty M a0 16) : ∀ q, f_X6_passTick a0 M = some q → CTy l yX6_passTick (.code yX6_passTick cX6_passTick 4 (Option.none) :: GB) rm_X6_passTick D cs b evV [.ref (b + a0)] M rm_X6_passTick.cells rm_X6_passTick.slots q := fun q hq => ct_of [(0, .ref (b + a0))] rfl rfl (Nat.le_of_ble_eq_true rfl) hq (fun p e s m args below meth c X hr hin => by
  refine aw_callq (F' := sq (si M a0 4 ((gi M a0 4) + (1 : Int32))) fun M1 => sv (0 : Int32) fun i3 => sv (0 : Int32) fun i4 => f_X6_passTick_L14 FU a0 i3 i4 M1) rfl ?_
  refine aw_aload_n (pc := 0) X 0 dX6_passTick_0 rfl ?_
  refine aw_dup_a (pc := 1) X dX6_passTick_1 ?_
  refine gf_X6_36 (pc := 2) X dX6_passTick_2 h_a0 ?_
  refine aw_iconst (pc := 5) X (1 : Int32) dX6_passTick_5 (by decide) ?_
  refine aw_iadd (pc := 6) X dX6_passTick_6 ?_
  refine pf_X6_36 (pc := 7) X dX6_passTick_7 h_a0 (fun M1 g2 => ?_)
  have h_a0 := h_a0.mono g2
  refine aw_iconst (pc := 10) X (0 : Int32) dX6_passTick_10 (by decide) ?_
  refine aw_istoreV_n (pc := 11) X (fun y => [(1, .int y), (0, .ref (b + a0))]) dX6_passTick_11 (by decide) (fun _ => rfl) (fun i3 => ?_)
  refine aw_iconst (pc := 12) X (0 : Int32) dX6_passTick_12 (by decide) ?_
  refine aw_istoreV_n (pc := 13) X (fun y => [(2, .int y), (1, .int i3), (0, .ref (b + a0))]) dX6_passTick_13 (by decide) (fun _ => rfl) (fun i4 => ?_)
  refine aw_sub [2, 1, 0] rfl ?_
  exact t_X6_passTick_L14 X hr FU a0 i3 i4 M1 h_a0)
/-! ReportBlocks.tick -/
def rm_X7_tick : Room := { frames := 2, cells := 0, slots := 0, locals := 43 }
theorem hd_X7_tick : jHd yX7_tick 1 := by unfold jHd; decide +kernel
theorem gf_X7_240 {ρ : Type} {l : Launch} {p : Program} {e : Env} {R : Room} {s : State} {m : MethodId} {args : Array Value} {below : List Frame} {meth : Method} {c : Code} {D : va_G} {cs : JC} {b nL : Nat} {H0 : Heap} {Qf : ρ × JM → State → Prop} {M : JM} {ks sl : Nat} {lv : List (Nat × Value)} {pc : Nat} {st : List Value} {cc : ByteArray} {k : Nat} (X : jX p c cc nL s m args RX7 D cs b meth H0) {F : Option (ρ × JM)} (hdg : decode cc pc = .ok (.getfield 240, 3)) (ho : oty M k 16) (kk : AWO p l e R s m args below meth c D cs b nL H0 Qf F M ks sl lv (pc + 3) (.int (gi M k 3) :: st)) : AWO p l e R s m args below meth c D cs b nL H0 Qf F M ks sl lv pc (.ref (b + k) :: st) := aw_getI (ci := 6) X 3 rfl gy_X6 (by decide) rfl rfl wf_X7_240 hdg ho kk
def f_X7_tick_L41 : Nat → Int32 → JM → Option (Int32 × JM) := fun a0 v2 M => orf (gr M a0 7) fun r4 => some (((gi M r4 3) - v2), M)
set_option maxRecDepth 10000 in
set_option maxHeartbeats 4000000 in
theorem t_X7_tick_L41 {p : Program} {l : Launch} {e : Env} {s : State} {m : MethodId} {args : Array Value} {below : List Frame} {meth : Method} {c : Code} {D : va_G} {cs : JC} {b : Nat} (X : jX p c cX7_tick 4 s m args RX7 D cs b meth s.heap) (hr : meth.sig.returnType = Option.some Jvm.ClassFile.FieldType.int) : ∀ (a0 : Nat) (v2 : Int32) (M : JM), oty M a0 17 → AWO p l e rm_X7_tick s m args below meth c D cs b 4 s.heap (jE below D cs b evI args s rm_X7_tick.cells rm_X7_tick.slots) (f_X7_tick_L41 a0 v2 M) M 0 0 [(0, .ref (b + a0)), (2, .int v2)] 41 [] := by
  intro a0 v2 M h_a0
  refine aw_callq (F' := orf (gr M a0 7) fun r4 => some (((gi M r4 3) - v2), M)) rfl ?_
  refine aw_aload_n (pc := 41) X 0 dX7_tick_41 rfl ?_
  refine gf_X7_51 (pc := 42) X dX7_tick_42 h_a0 (fun r4 h_r4 => ?_)
  refine gf_X7_240 (pc := 45) X dX7_tick_45 h_r4 ?_
  refine aw_iload_n (pc := 48) X 1 dX7_tick_48 rfl ?_
  refine aw_isub (pc := 49) X dX7_tick_49 ?_
  exact aw_iret (pc := 50) X hr dX7_tick_50 (Nat.le_of_ble_eq_true rfl) (Nat.le_of_ble_eq_true rfl)
theorem cl_X7_243 {ρ : Type} {l : Launch} {p : Program} {e : Env} {R : Room} {s : State} {m : MethodId} {args : Array Value} {below : List Frame} {meth : Method} {c : Code} {D : va_G} {cs : JC} {b nL : Nat} {H0 : Heap} {Qf : ρ × JM → State → Prop} {M : JM} {ks sl : Nat} {lv : List (Nat × Value)} {pc : Nat} {st : List Value} {cc : ByteArray} (X : jX p c cc nL s m args RX7 D cs b meth H0) {z0 : Nat} {K : JM → Option (ρ × JM)} (hrm : jRm rm_X6_passTick 4 R) (hW : (st.map fun v => v.category).sum ≤ 8) {ks2 sl2 : Nat} (hk2 : ks + rm_X6_passTick.cells = ks2) (hs2 : sl + rm_X6_passTick.slots = sl2) (hroom : ks2 ≤ R.cells ∧ sl2 ≤ R.slots) (hdg : decode cc pc = .ok (.invokevirtual 243, 3)) (h0 : oty M z0 16) (kk : ∀ (M2 : JM), gn M ≤ gn M2 → AWO p l e R s m args below meth c D cs b nL H0 Qf (K M2) M2 ks2 sl2 lv (pc + 3) (st)) : AWO p l e R s m args below meth c D cs b nL H0 Qf (ob (f_X6_passTick z0 M) (fun _ => K)) M ks sl lv pc (.ref (b + z0) :: st) := by
  subst hk2
  subst hs2
  exact aw_callV (ci := 6) X [] st rfl rfl wl_X7_243 wi_X6_passTick wv_X6_passTick wc_X6_passTick wn_X6 (n := 0) hd_X6_passTick rfl hrm hW hroom hdg h0 (t_X6_passTick z0 M h0) (fun _ M2 g _ => kk M2 g)
def f_X7_tick_L23 : Nat → Nat → Int32 → Int32 → Int32 → JM → Option (Int32 × JM)
  | 0, _, _, _, _, _ => none
  | n + 1, a0, v1, v2, v3, M => if v3 < v1 then (orf (gr M a0 7) fun r5 => ob (f_X6_passTick r5 M) fun _ M6 => sv (v3 + (1 : Int32)) fun i8 => (f_X7_tick_L23 n) a0 v1 v2 i8 M6) else (f_X7_tick_L41 a0 v2 M)
set_option maxRecDepth 10000 in
set_option maxHeartbeats 4000000 in
theorem t_X7_tick_L23 {p : Program} {l : Launch} {e : Env} {s : State} {m : MethodId} {args : Array Value} {below : List Frame} {meth : Method} {c : Code} {D : va_G} {cs : JC} {b : Nat} (X : jX p c cX7_tick 4 s m args RX7 D cs b meth s.heap) (hr : meth.sig.returnType = Option.some Jvm.ClassFile.FieldType.int) : ∀ (n : Nat) (a0 : Nat) (v1 : Int32) (v2 : Int32) (v3 : Int32) (M : JM), oty M a0 17 → AWO p l e rm_X7_tick s m args below meth c D cs b 4 s.heap (jE below D cs b evI args s rm_X7_tick.cells rm_X7_tick.slots) (f_X7_tick_L23 n a0 v1 v2 v3 M) M 0 0 [(0, .ref (b + a0)), (1, .int v1), (2, .int v2), (3, .int v3)] 23 [] := by
  intro n
  induction n with
  | zero => intro a0 v1 v2 v3 M h_a0; exact aw_none
  | succ n ih =>
    intro a0 v1 v2 v3 M h_a0
    refine aw_callq (F' := if v3 < v1 then (orf (gr M a0 7) fun r5 => ob (f_X6_passTick r5 M) fun _ M6 => sv (v3 + (1 : Int32)) fun i8 => (f_X7_tick_L23 n) a0 v1 v2 i8 M6) else (f_X7_tick_L41 a0 v2 M)) rfl ?_
    refine aw_iload_n (pc := 23) X 3 dX7_tick_23 rfl ?_
    refine aw_iload_n (pc := 24) X 1 dX7_tick_24 rfl ?_
    refine aw_icmpge (pc := 25) X 41 dX7_tick_25 (by decide) ?_ ?_
    · refine aw_aload_n (pc := 28) X 0 dX7_tick_28 rfl ?_
      refine gf_X7_51 (pc := 29) X dX7_tick_29 h_a0 (fun r5 h_r5 => ?_)
      refine cl_X7_243 (pc := 32) X ⟨Nat.le_of_ble_eq_true rfl, Nat.le_of_ble_eq_true rfl⟩ (Nat.le_of_ble_eq_true rfl) (ks2 := 0) (sl2 := 0) rfl rfl ⟨(Nat.le_of_ble_eq_true rfl), (Nat.le_of_ble_eq_true rfl)⟩ dX7_tick_32 h_r5 (fun M6 g7 => ?_)
      have h_a0 := h_a0.mono g7
      refine aw_iincV (pc := 35) X (fun y => [(3, .int y), (0, .ref (b + a0)), (1, .int v1), (2, .int v2)]) 3 (v := (v3 + (1 : Int32))) dX7_tick_35 rfl rfl (by decide) (fun _ => rfl) (fun i8 => ?_)
      refine aw_goto (pc := 38) X 23 dX7_tick_38 (by decide) ?_
      refine aw_sub [1, 2, 3, 0] rfl ?_
      exact ih a0 v1 v2 i8 M6 h_a0
    · refine aw_sub [0, 2] rfl ?_
      exact t_X7_tick_L41 X hr a0 v2 M h_a0
def f_X7_tick (a0 : Nat) (v1 : Int32) (M : JM) : Option (Int32 × JM) := if v1 < (1 : Int32) then (some ((-1 : Int32), M)) else (if (20 : Int32) < v1 then (some ((-1 : Int32), M)) else (orf (gr M a0 7) fun r1 => sv (gi M r1 3) fun i2 => sv (0 : Int32) fun i3 => f_X7_tick_L23 FU a0 v1 i2 i3 M))
set_option maxRecDepth 10000 in
set_option maxHeartbeats 4000000 in
theorem t_X7_tick {l : Launch} {D : va_G} {cs : JC} {b : Nat} (a0 : Nat) (v1 : Int32) (M : JM) (h_a0 : oty M a0 17) : ∀ q, f_X7_tick a0 v1 M = some q → CTy l yX7_tick (.code yX7_tick cX7_tick 4 (Option.some Jvm.ClassFile.FieldType.int) :: GB) rm_X7_tick D cs b evI [.ref (b + a0), .int v1] M rm_X7_tick.cells rm_X7_tick.slots q := fun q hq => ct_of [(0, .ref (b + a0)), (1, .int v1)] rfl rfl (Nat.le_of_ble_eq_true rfl) hq (fun p e s m args below meth c X hr hin => by
  refine aw_callq (F' := if v1 < (1 : Int32) then (some ((-1 : Int32), M)) else (if (20 : Int32) < v1 then (some ((-1 : Int32), M)) else (orf (gr M a0 7) fun r1 => sv (gi M r1 3) fun i2 => sv (0 : Int32) fun i3 => f_X7_tick_L23 FU a0 v1 i2 i3 M))) rfl ?_
  refine aw_iload_n (pc := 0) X 1 dX7_tick_0 rfl ?_
  refine aw_iconst (pc := 1) X (1 : Int32) dX7_tick_1 (by decide) ?_
  refine aw_icmplt (pc := 2) X 11 dX7_tick_2 (by decide) ?_ ?_
  · refine aw_iconst (pc := 11) X (-1 : Int32) dX7_tick_11 (by decide) ?_
    exact aw_iret (pc := 12) X hr dX7_tick_12 (Nat.le_of_ble_eq_true rfl) (Nat.le_of_ble_eq_true rfl)
  · refine aw_iload_n (pc := 5) X 1 dX7_tick_5 rfl ?_
    refine aw_bipush (pc := 6) X (20 : Int32) dX7_tick_6 (by decide) ?_
    refine aw_icmple (pc := 8) X 13 dX7_tick_8 (by decide) ?_ ?_
    · refine aw_iconst (pc := 11) X (-1 : Int32) dX7_tick_11 (by decide) ?_
      exact aw_iret (pc := 12) X hr dX7_tick_12 (Nat.le_of_ble_eq_true rfl) (Nat.le_of_ble_eq_true rfl)
    · refine aw_aload_n (pc := 13) X 0 dX7_tick_13 rfl ?_
      refine gf_X7_51 (pc := 14) X dX7_tick_14 h_a0 (fun r1 h_r1 => ?_)
      refine gf_X7_240 (pc := 17) X dX7_tick_17 h_r1 ?_
      refine aw_istoreV_n (pc := 20) X (fun y => [(2, .int y), (0, .ref (b + a0)), (1, .int v1)]) dX7_tick_20 (by decide) (fun _ => rfl) (fun i2 => ?_)
      refine aw_iconst (pc := 21) X (0 : Int32) dX7_tick_21 (by decide) ?_
      refine aw_istoreV_n (pc := 22) X (fun y => [(3, .int y), (2, .int i2), (0, .ref (b + a0)), (1, .int v1)]) dX7_tick_22 (by decide) (fun _ => rfl) (fun i3 => ?_)
      refine aw_sub [2, 3, 1, 0] rfl ?_
      exact t_X7_tick_L23 X hr FU a0 v1 i2 i3 M h_a0)
/-! ReportBlocksModel.moves -/
def rm_X8_moves : Room := { frames := 0, cells := 0, slots := 0, locals := 0 }
theorem hd_X8_moves : jHd yX8_moves 2 := by unfold jHd; decide +kernel
def f_X8_moves (a0 : Nat) (v1 : Int32) (v2 : Int32) (M : JM) : Option (Unit × JM) := orf (gr M a0 29) fun r1 => orf (gr M a0 29) fun r2 => if 0 ≤ v1 ∧ v1 < ln r2 then (if 0 ≤ v2 ∧ v2 < ln r1 then (sq (si M r1 v2 (gi M r2 v1)) fun M3 => orf (gr M3 a0 30) fun r5 => orf (gr M3 a0 30) fun r6 => if 0 ≤ v1 ∧ v1 < ln r6 then (if 0 ≤ v2 ∧ v2 < ln r5 then (sq (si M3 r5 v2 (gi M3 r6 v1)) fun M7 => orf (gr M7 a0 31) fun r9 => orf (gr M7 a0 31) fun r10 => if 0 ≤ v1 ∧ v1 < ln r10 then (if 0 ≤ v2 ∧ v2 < ln r9 then (sq (si M7 r9 v2 (gi M7 r10 v1)) fun M11 => orf (gr M11 a0 32) fun r13 => orf (gr M11 a0 32) fun r14 => if 0 ≤ v1 ∧ v1 < ln r14 then (if 0 ≤ v2 ∧ v2 < ln r13 then (sq (si M11 r13 v2 (gi M11 r14 v1)) fun M15 => orf (gr M15 a0 33) fun r17 => orf (gr M15 a0 33) fun r18 => if 0 ≤ v1 ∧ v1 < ln r18 then (if 0 ≤ v2 ∧ v2 < ln r17 then (sq (si M15 r17 v2 (gi M15 r18 v1)) fun M19 => orf (gr M19 a0 34) fun r21 => orf (gr M19 a0 34) fun r22 => if 0 ≤ v1 ∧ v1 < ln r22 then (if 0 ≤ v2 ∧ v2 < ln r21 then (sq (si M19 r21 v2 (gi M19 r22 v1)) fun M23 => orf (gr M23 a0 35) fun r25 => orf (gr M23 a0 35) fun r26 => if 0 ≤ v1 ∧ v1 < ln r26 then (if 0 ≤ v2 ∧ v2 < ln r25 then (sq (si M23 r25 v2 (gi M23 r26 v1)) fun M27 => orf (gr M27 a0 36) fun r29 => orf (gr M27 a0 36) fun r30 => if 0 ≤ v1 ∧ v1 < ln r30 then (if 0 ≤ v2 ∧ v2 < ln r29 then (sq (si M27 r29 v2 (gi M27 r30 v1)) fun M31 => orf (gr M31 a0 37) fun r33 => orf (gr M31 a0 37) fun r34 => if 0 ≤ v1 ∧ v1 < ln r34 then (if 0 ≤ v2 ∧ v2 < ln r33 then (sq (si M31 r33 v2 (gi M31 r34 v1)) fun M35 => orf (gr M35 a0 38) fun r37 => orf (gr M35 a0 38) fun r38 => if 0 ≤ v1 ∧ v1 < ln r38 then (if 0 ≤ v2 ∧ v2 < ln r37 then (sq (si M35 r37 v2 (gi M35 r38 v1)) fun M39 => some ((), M39)) else none) else none) else none) else none) else none) else none) else none) else none) else none) else none) else none) else none) else none) else none) else none) else none) else none) else none) else none) else none
set_option maxRecDepth 10000 in
set_option maxHeartbeats 4000000 in
theorem t_X8_moves {l : Launch} {D : va_G} {cs : JC} {b : Nat} (a0 : Nat) (v1 : Int32) (v2 : Int32) (M : JM) (h_a0 : oty M a0 18) : ∀ q, f_X8_moves a0 v1 v2 M = some q → CTy l yX8_moves (.code yX8_moves cX8_moves 3 (Option.none) :: GB) rm_X8_moves D cs b evV [.ref (b + a0), .int v1, .int v2] M rm_X8_moves.cells rm_X8_moves.slots q := fun q hq => ct_of [(0, .ref (b + a0)), (1, .int v1), (2, .int v2)] rfl rfl (Nat.le_of_ble_eq_true rfl) hq (fun p e s m args below meth c X hr hin => by
  refine aw_callq (F' := orf (gr M a0 29) fun r1 => orf (gr M a0 29) fun r2 => if 0 ≤ v1 ∧ v1 < ln r2 then (if 0 ≤ v2 ∧ v2 < ln r1 then (sq (si M r1 v2 (gi M r2 v1)) fun M3 => orf (gr M3 a0 30) fun r5 => orf (gr M3 a0 30) fun r6 => if 0 ≤ v1 ∧ v1 < ln r6 then (if 0 ≤ v2 ∧ v2 < ln r5 then (sq (si M3 r5 v2 (gi M3 r6 v1)) fun M7 => orf (gr M7 a0 31) fun r9 => orf (gr M7 a0 31) fun r10 => if 0 ≤ v1 ∧ v1 < ln r10 then (if 0 ≤ v2 ∧ v2 < ln r9 then (sq (si M7 r9 v2 (gi M7 r10 v1)) fun M11 => orf (gr M11 a0 32) fun r13 => orf (gr M11 a0 32) fun r14 => if 0 ≤ v1 ∧ v1 < ln r14 then (if 0 ≤ v2 ∧ v2 < ln r13 then (sq (si M11 r13 v2 (gi M11 r14 v1)) fun M15 => orf (gr M15 a0 33) fun r17 => orf (gr M15 a0 33) fun r18 => if 0 ≤ v1 ∧ v1 < ln r18 then (if 0 ≤ v2 ∧ v2 < ln r17 then (sq (si M15 r17 v2 (gi M15 r18 v1)) fun M19 => orf (gr M19 a0 34) fun r21 => orf (gr M19 a0 34) fun r22 => if 0 ≤ v1 ∧ v1 < ln r22 then (if 0 ≤ v2 ∧ v2 < ln r21 then (sq (si M19 r21 v2 (gi M19 r22 v1)) fun M23 => orf (gr M23 a0 35) fun r25 => orf (gr M23 a0 35) fun r26 => if 0 ≤ v1 ∧ v1 < ln r26 then (if 0 ≤ v2 ∧ v2 < ln r25 then (sq (si M23 r25 v2 (gi M23 r26 v1)) fun M27 => orf (gr M27 a0 36) fun r29 => orf (gr M27 a0 36) fun r30 => if 0 ≤ v1 ∧ v1 < ln r30 then (if 0 ≤ v2 ∧ v2 < ln r29 then (sq (si M27 r29 v2 (gi M27 r30 v1)) fun M31 => orf (gr M31 a0 37) fun r33 => orf (gr M31 a0 37) fun r34 => if 0 ≤ v1 ∧ v1 < ln r34 then (if 0 ≤ v2 ∧ v2 < ln r33 then (sq (si M31 r33 v2 (gi M31 r34 v1)) fun M35 => orf (gr M35 a0 38) fun r37 => orf (gr M35 a0 38) fun r38 => if 0 ≤ v1 ∧ v1 < ln r38 then (if 0 ≤ v2 ∧ v2 < ln r37 then (sq (si M35 r37 v2 (gi M35 r38 v1)) fun M39 => some ((), M39)) else none) else none) else none) else none) else none) else none) else none) else none) else none) else none) else none) else none) else none) else none) else none) else none) else none) else none) else none) else none) rfl ?_
  refine aw_aload_n (pc := 0) X 0 dX8_moves_0 rfl ?_
  refine gf_X8_66 (pc := 1) X dX8_moves_1 h_a0 (fun r1 h_r1 => ?_)
  refine aw_iload_n (pc := 4) X 2 dX8_moves_4 rfl ?_
  refine aw_aload_n (pc := 5) X 0 dX8_moves_5 rfl ?_
  refine gf_X8_66 (pc := 6) X dX8_moves_6 h_a0 (fun r2 h_r2 => ?_)
  refine aw_iload_n (pc := 9) X 1 dX8_moves_9 rfl ?_
  refine aw_iald (pc := 10) X dX8_moves_10 h_r2 ?_
  refine aw_iastQ (pc := 11) X dX8_moves_11 h_r1 (fun M3 g4 => ?_)
  have h_a0 := h_a0.mono g4
  refine aw_aload_n (pc := 12) X 0 dX8_moves_12 rfl ?_
  refine gf_X8_69 (pc := 13) X dX8_moves_13 h_a0 (fun r5 h_r5 => ?_)
  refine aw_iload_n (pc := 16) X 2 dX8_moves_16 rfl ?_
  refine aw_aload_n (pc := 17) X 0 dX8_moves_17 rfl ?_
  refine gf_X8_69 (pc := 18) X dX8_moves_18 h_a0 (fun r6 h_r6 => ?_)
  refine aw_iload_n (pc := 21) X 1 dX8_moves_21 rfl ?_
  refine aw_iald (pc := 22) X dX8_moves_22 h_r6 ?_
  refine aw_iastQ (pc := 23) X dX8_moves_23 h_r5 (fun M7 g8 => ?_)
  have h_a0 := h_a0.mono g8
  refine aw_aload_n (pc := 24) X 0 dX8_moves_24 rfl ?_
  refine gf_X8_72 (pc := 25) X dX8_moves_25 h_a0 (fun r9 h_r9 => ?_)
  refine aw_iload_n (pc := 28) X 2 dX8_moves_28 rfl ?_
  refine aw_aload_n (pc := 29) X 0 dX8_moves_29 rfl ?_
  refine gf_X8_72 (pc := 30) X dX8_moves_30 h_a0 (fun r10 h_r10 => ?_)
  refine aw_iload_n (pc := 33) X 1 dX8_moves_33 rfl ?_
  refine aw_iald (pc := 34) X dX8_moves_34 h_r10 ?_
  refine aw_iastQ (pc := 35) X dX8_moves_35 h_r9 (fun M11 g12 => ?_)
  have h_a0 := h_a0.mono g12
  refine aw_aload_n (pc := 36) X 0 dX8_moves_36 rfl ?_
  refine gf_X8_75 (pc := 37) X dX8_moves_37 h_a0 (fun r13 h_r13 => ?_)
  refine aw_iload_n (pc := 40) X 2 dX8_moves_40 rfl ?_
  refine aw_aload_n (pc := 41) X 0 dX8_moves_41 rfl ?_
  refine gf_X8_75 (pc := 42) X dX8_moves_42 h_a0 (fun r14 h_r14 => ?_)
  refine aw_iload_n (pc := 45) X 1 dX8_moves_45 rfl ?_
  refine aw_iald (pc := 46) X dX8_moves_46 h_r14 ?_
  refine aw_iastQ (pc := 47) X dX8_moves_47 h_r13 (fun M15 g16 => ?_)
  have h_a0 := h_a0.mono g16
  refine aw_aload_n (pc := 48) X 0 dX8_moves_48 rfl ?_
  refine gf_X8_78 (pc := 49) X dX8_moves_49 h_a0 (fun r17 h_r17 => ?_)
  refine aw_iload_n (pc := 52) X 2 dX8_moves_52 rfl ?_
  refine aw_aload_n (pc := 53) X 0 dX8_moves_53 rfl ?_
  refine gf_X8_78 (pc := 54) X dX8_moves_54 h_a0 (fun r18 h_r18 => ?_)
  refine aw_iload_n (pc := 57) X 1 dX8_moves_57 rfl ?_
  refine aw_iald (pc := 58) X dX8_moves_58 h_r18 ?_
  refine aw_iastQ (pc := 59) X dX8_moves_59 h_r17 (fun M19 g20 => ?_)
  have h_a0 := h_a0.mono g20
  refine aw_aload_n (pc := 60) X 0 dX8_moves_60 rfl ?_
  refine gf_X8_81 (pc := 61) X dX8_moves_61 h_a0 (fun r21 h_r21 => ?_)
  refine aw_iload_n (pc := 64) X 2 dX8_moves_64 rfl ?_
  refine aw_aload_n (pc := 65) X 0 dX8_moves_65 rfl ?_
  refine gf_X8_81 (pc := 66) X dX8_moves_66 h_a0 (fun r22 h_r22 => ?_)
  refine aw_iload_n (pc := 69) X 1 dX8_moves_69 rfl ?_
  refine aw_iald (pc := 70) X dX8_moves_70 h_r22 ?_
  refine aw_iastQ (pc := 71) X dX8_moves_71 h_r21 (fun M23 g24 => ?_)
  have h_a0 := h_a0.mono g24
  refine aw_aload_n (pc := 72) X 0 dX8_moves_72 rfl ?_
  refine gf_X8_84 (pc := 73) X dX8_moves_73 h_a0 (fun r25 h_r25 => ?_)
  refine aw_iload_n (pc := 76) X 2 dX8_moves_76 rfl ?_
  refine aw_aload_n (pc := 77) X 0 dX8_moves_77 rfl ?_
  refine gf_X8_84 (pc := 78) X dX8_moves_78 h_a0 (fun r26 h_r26 => ?_)
  refine aw_iload_n (pc := 81) X 1 dX8_moves_81 rfl ?_
  refine aw_iald (pc := 82) X dX8_moves_82 h_r26 ?_
  refine aw_iastQ (pc := 83) X dX8_moves_83 h_r25 (fun M27 g28 => ?_)
  have h_a0 := h_a0.mono g28
  refine aw_aload_n (pc := 84) X 0 dX8_moves_84 rfl ?_
  refine gf_X8_87 (pc := 85) X dX8_moves_85 h_a0 (fun r29 h_r29 => ?_)
  refine aw_iload_n (pc := 88) X 2 dX8_moves_88 rfl ?_
  refine aw_aload_n (pc := 89) X 0 dX8_moves_89 rfl ?_
  refine gf_X8_87 (pc := 90) X dX8_moves_90 h_a0 (fun r30 h_r30 => ?_)
  refine aw_iload_n (pc := 93) X 1 dX8_moves_93 rfl ?_
  refine aw_iald (pc := 94) X dX8_moves_94 h_r30 ?_
  refine aw_iastQ (pc := 95) X dX8_moves_95 h_r29 (fun M31 g32 => ?_)
  have h_a0 := h_a0.mono g32
  refine aw_aload_n (pc := 96) X 0 dX8_moves_96 rfl ?_
  refine gf_X8_90 (pc := 97) X dX8_moves_97 h_a0 (fun r33 h_r33 => ?_)
  refine aw_iload_n (pc := 100) X 2 dX8_moves_100 rfl ?_
  refine aw_aload_n (pc := 101) X 0 dX8_moves_101 rfl ?_
  refine gf_X8_90 (pc := 102) X dX8_moves_102 h_a0 (fun r34 h_r34 => ?_)
  refine aw_iload_n (pc := 105) X 1 dX8_moves_105 rfl ?_
  refine aw_iald (pc := 106) X dX8_moves_106 h_r34 ?_
  refine aw_iastQ (pc := 107) X dX8_moves_107 h_r33 (fun M35 g36 => ?_)
  have h_a0 := h_a0.mono g36
  refine aw_aload_n (pc := 108) X 0 dX8_moves_108 rfl ?_
  refine gf_X8_93 (pc := 109) X dX8_moves_109 h_a0 (fun r37 h_r37 => ?_)
  refine aw_iload_n (pc := 112) X 2 dX8_moves_112 rfl ?_
  refine aw_aload_n (pc := 113) X 0 dX8_moves_113 rfl ?_
  refine gf_X8_93 (pc := 114) X dX8_moves_114 h_a0 (fun r38 h_r38 => ?_)
  refine aw_iload_n (pc := 117) X 1 dX8_moves_117 rfl ?_
  refine aw_iald (pc := 118) X dX8_moves_118 h_r38 ?_
  refine aw_iastQ (pc := 119) X dX8_moves_119 h_r37 (fun M39 g40 => ?_)
  have h_a0 := h_a0.mono g40
  exact aw_vret (pc := 120) X hr dX8_moves_120 (Nat.le_of_ble_eq_true rfl) (Nat.le_of_ble_eq_true rfl))
/-! ReportBlocksModel.tick -/
def rm_X8_tick : Room := { frames := 1, cells := 0, slots := 0, locals := 22 }
theorem hd_X8_tick : jHd yX8_tick 1 := by unfold jHd; decide +kernel
theorem gf_X8_235 {ρ : Type} {l : Launch} {p : Program} {e : Env} {R : Room} {s : State} {m : MethodId} {args : Array Value} {below : List Frame} {meth : Method} {c : Code} {D : va_G} {cs : JC} {b nL : Nat} {H0 : Heap} {Qf : ρ × JM → State → Prop} {M : JM} {ks sl : Nat} {lv : List (Nat × Value)} {pc : Nat} {st : List Value} {cc : ByteArray} {k : Nat} (X : jX p c cc nL s m args RX8 D cs b meth H0) {F : Option (ρ × JM)} (hdg : decode cc pc = .ok (.getfield 235, 3)) (ho : oty M k 18) (kk : AWO p l e R s m args below meth c D cs b nL H0 Qf F M ks sl lv (pc + 3) (.int (gi M k 40) :: st)) : AWO p l e R s m args below meth c D cs b nL H0 Qf F M ks sl lv pc (.ref (b + k) :: st) := aw_getI (ci := 8) X 40 rfl gy_X8 (by decide) rfl rfl wf_X8_235 hdg ho kk
theorem pf_X8_235 {ρ : Type} {l : Launch} {p : Program} {e : Env} {R : Room} {s : State} {m : MethodId} {args : Array Value} {below : List Frame} {meth : Method} {c : Code} {D : va_G} {cs : JC} {b nL : Nat} {H0 : Heap} {Qf : ρ × JM → State → Prop} {M : JM} {ks sl : Nat} {lv : List (Nat × Value)} {pc : Nat} {st : List Value} {cc : ByteArray} {k : Nat} {K : JM → Option (ρ × JM)} (X : jX p c cc nL s m args RX8 D cs b meth H0) {x : Int32} (hdg : decode cc pc = .ok (.putfield 235, 3)) (ho : oty M k 18) (kk : ∀ M2 : JM, gn M ≤ gn M2 → AWO p l e R s m args below meth c D cs b nL H0 Qf (K M2) M2 ks sl lv (pc + 3) st) : AWO p l e R s m args below meth c D cs b nL H0 Qf (sq (si M k 40 x) K) M ks sl lv pc (.int x :: .ref (b + k) :: st) := aw_putI (ci := 8) X 40 rfl gy_X8 tyX8 tyX8_ok nmX8 (by decide) (by decide) rfl rfl wf_X8_235 rfl (Or.inl rfl) hdg ho (kk _ (Nat.le_refl _))
def f_X8_tick_L171 : Nat → Int32 → JM → Option (Int32 × JM) := fun a0 v2 M => sq (si M a0 40 ((gi M a0 40) + v2)) fun M6 => some (v2, M6)
set_option maxRecDepth 10000 in
set_option maxHeartbeats 4000000 in
theorem t_X8_tick_L171 {p : Program} {l : Launch} {e : Env} {s : State} {m : MethodId} {args : Array Value} {below : List Frame} {meth : Method} {c : Code} {D : va_G} {cs : JC} {b : Nat} (X : jX p c cX8_tick 6 s m args RX8 D cs b meth s.heap) (hr : meth.sig.returnType = Option.some Jvm.ClassFile.FieldType.int) : ∀ (a0 : Nat) (v2 : Int32) (M : JM), oty M a0 18 → AWO p l e rm_X8_tick s m args below meth c D cs b 6 s.heap (jE below D cs b evI args s rm_X8_tick.cells rm_X8_tick.slots) (f_X8_tick_L171 a0 v2 M) M 0 0 [(0, .ref (b + a0)), (2, .int v2)] 171 [] := by
  intro a0 v2 M h_a0
  refine aw_callq (F' := sq (si M a0 40 ((gi M a0 40) + v2)) fun M6 => some (v2, M6)) rfl ?_
  refine aw_aload_n (pc := 171) X 0 dX8_tick_171 rfl ?_
  refine aw_dup_a (pc := 172) X dX8_tick_172 ?_
  refine gf_X8_235 (pc := 173) X dX8_tick_173 h_a0 ?_
  refine aw_iload_n (pc := 176) X 1 dX8_tick_176 rfl ?_
  refine aw_iadd (pc := 177) X dX8_tick_177 ?_
  refine pf_X8_235 (pc := 178) X dX8_tick_178 h_a0 (fun M6 g7 => ?_)
  have h_a0 := h_a0.mono g7
  refine aw_iload_n (pc := 181) X 1 dX8_tick_181 rfl ?_
  exact aw_iret (pc := 182) X hr dX8_tick_182 (Nat.le_of_ble_eq_true rfl) (Nat.le_of_ble_eq_true rfl)
theorem pf_X8_229 {ρ : Type} {l : Launch} {p : Program} {e : Env} {R : Room} {s : State} {m : MethodId} {args : Array Value} {below : List Frame} {meth : Method} {c : Code} {D : va_G} {cs : JC} {b nL : Nat} {H0 : Heap} {Qf : ρ × JM → State → Prop} {M : JM} {ks sl : Nat} {lv : List (Nat × Value)} {pc : Nat} {st : List Value} {cc : ByteArray} {k : Nat} {K : JM → Option (ρ × JM)} (X : jX p c cc nL s m args RX8 D cs b meth H0) {x : Int32} (hdg : decode cc pc = .ok (.putfield 229, 3)) (ho : oty M k 18) (kk : ∀ M2 : JM, gn M ≤ gn M2 → AWO p l e R s m args below meth c D cs b nL H0 Qf (K M2) M2 ks sl lv (pc + 3) st) : AWO p l e R s m args below meth c D cs b nL H0 Qf (sq (si M k 41 x) K) M ks sl lv pc (.int x :: .ref (b + k) :: st) := aw_putI (ci := 8) X 41 rfl gy_X8 tyX8 tyX8_ok nmX8 (by decide) (by decide) rfl rfl wf_X8_229 rfl (Or.inl rfl) hdg ho (kk _ (Nat.le_refl _))
def f_X8_tick_L149 (k16 : Nat → Int32 → Int32 → Int32 → JM → Option (Int32 × JM)) : Nat → Int32 → Int32 → Int32 → Int32 → JM → Option (Int32 × JM) := fun a0 v1 v2 v3 v4 M => sv (v2 + ((gi M a0 28) - v4)) fun i12 => sq (si M a0 28 v4) fun M13 => sv (v3 + (1 : Int32)) fun i15 => k16 a0 v1 i12 i15 M13
set_option maxRecDepth 10000 in
set_option maxHeartbeats 4000000 in
theorem t_X8_tick_L149 {p : Program} {l : Launch} {e : Env} {s : State} {m : MethodId} {args : Array Value} {below : List Frame} {meth : Method} {c : Code} {D : va_G} {cs : JC} {b : Nat} (X : jX p c cX8_tick 6 s m args RX8 D cs b meth s.heap) (hr : meth.sig.returnType = Option.some Jvm.ClassFile.FieldType.int) (k16 : Nat → Int32 → Int32 → Int32 → JM → Option (Int32 × JM)) (hk16 : ∀ (a0 : Nat) (v1 : Int32) (v2 : Int32) (v3 : Int32) (M : JM), oty M a0 18 → AWO p l e rm_X8_tick s m args below meth c D cs b 6 s.heap (jE below D cs b evI args s rm_X8_tick.cells rm_X8_tick.slots) (k16 a0 v1 v2 v3 M) M 0 0 [(0, .ref (b + a0)), (1, .int v1), (2, .int v2), (3, .int v3)] 16 []) : ∀ (a0 : Nat) (v1 : Int32) (v2 : Int32) (v3 : Int32) (v4 : Int32) (M : JM), oty M a0 18 → AWO p l e rm_X8_tick s m args below meth c D cs b 6 s.heap (jE below D cs b evI args s rm_X8_tick.cells rm_X8_tick.slots) (f_X8_tick_L149 k16 a0 v1 v2 v3 v4 M) M 0 0 [(0, .ref (b + a0)), (1, .int v1), (2, .int v2), (3, .int v3), (4, .int v4)] 149 [] := by
  intro a0 v1 v2 v3 v4 M h_a0
  refine aw_callq (F' := sv (v2 + ((gi M a0 28) - v4)) fun i12 => sq (si M a0 28 v4) fun M13 => sv (v3 + (1 : Int32)) fun i15 => k16 a0 v1 i12 i15 M13) rfl ?_
  refine aw_iload_n (pc := 149) X 2 dX8_tick_149 rfl ?_
  refine aw_aload_n (pc := 150) X 0 dX8_tick_150 rfl ?_
  refine gf_X8_216 (pc := 151) X dX8_tick_151 h_a0 ?_
  refine aw_iload (pc := 154) X 4 dX8_tick_154 rfl ?_
  refine aw_isub (pc := 156) X dX8_tick_156 ?_
  refine aw_iadd (pc := 157) X dX8_tick_157 ?_
  refine aw_istoreV_n (pc := 158) X (fun y => [(2, .int y), (0, .ref (b + a0)), (1, .int v1), (3, .int v3), (4, .int v4)]) dX8_tick_158 (by decide) (fun _ => rfl) (fun i12 => ?_)
  refine aw_aload_n (pc := 159) X 1 dX8_tick_159 rfl ?_
  refine aw_iload (pc := 160) X 4 dX8_tick_160 rfl ?_
  refine pf_X8_216 (pc := 162) X dX8_tick_162 h_a0 (fun M13 g14 => ?_)
  have h_a0 := h_a0.mono g14
  refine aw_iincV (pc := 165) X (fun y => [(3, .int y), (2, .int i12), (0, .ref (b + a0)), (1, .int v1), (4, .int v4)]) 3 (v := (v3 + (1 : Int32))) dX8_tick_165 rfl rfl (by decide) (fun _ => rfl) (fun i15 => ?_)
  refine aw_goto (pc := 168) X 16 dX8_tick_168 (by decide) ?_
  refine aw_sub [2, 3, 1, 0] rfl ?_
  exact hk16 a0 v1 i12 i15 M13 h_a0
def f_X8_tick_L143 (k16 : Nat → Int32 → Int32 → Int32 → JM → Option (Int32 × JM)) (k37 : Nat → Int32 → Int32 → Int32 → Int32 → Int32 → JM → Option (Int32 × JM)) : Nat → Int32 → Int32 → Int32 → Int32 → Int32 → JM → Option (Int32 × JM) := fun a0 v1 v2 v3 v4 v5 M => sv (v5 + (1 : Int32)) fun i20 => k37 a0 v1 v2 v3 v4 i20 M
set_option maxRecDepth 10000 in
set_option maxHeartbeats 4000000 in
theorem t_X8_tick_L143 {p : Program} {l : Launch} {e : Env} {s : State} {m : MethodId} {args : Array Value} {below : List Frame} {meth : Method} {c : Code} {D : va_G} {cs : JC} {b : Nat} (X : jX p c cX8_tick 6 s m args RX8 D cs b meth s.heap) (hr : meth.sig.returnType = Option.some Jvm.ClassFile.FieldType.int) (k16 : Nat → Int32 → Int32 → Int32 → JM → Option (Int32 × JM)) (hk16 : ∀ (a0 : Nat) (v1 : Int32) (v2 : Int32) (v3 : Int32) (M : JM), oty M a0 18 → AWO p l e rm_X8_tick s m args below meth c D cs b 6 s.heap (jE below D cs b evI args s rm_X8_tick.cells rm_X8_tick.slots) (k16 a0 v1 v2 v3 M) M 0 0 [(0, .ref (b + a0)), (1, .int v1), (2, .int v2), (3, .int v3)] 16 []) (k37 : Nat → Int32 → Int32 → Int32 → Int32 → Int32 → JM → Option (Int32 × JM)) (hk37 : ∀ (a0 : Nat) (v1 : Int32) (v2 : Int32) (v3 : Int32) (v4 : Int32) (v5 : Int32) (M : JM), oty M a0 18 → AWO p l e rm_X8_tick s m args below meth c D cs b 6 s.heap (jE below D cs b evI args s rm_X8_tick.cells rm_X8_tick.slots) (k37 a0 v1 v2 v3 v4 v5 M) M 0 0 [(0, .ref (b + a0)), (1, .int v1), (2, .int v2), (3, .int v3), (4, .int v4), (5, .int v5)] 37 []) : ∀ (a0 : Nat) (v1 : Int32) (v2 : Int32) (v3 : Int32) (v4 : Int32) (v5 : Int32) (M : JM), oty M a0 18 → AWO p l e rm_X8_tick s m args below meth c D cs b 6 s.heap (jE below D cs b evI args s rm_X8_tick.cells rm_X8_tick.slots) (f_X8_tick_L143 k16 k37 a0 v1 v2 v3 v4 v5 M) M 0 0 [(0, .ref (b + a0)), (1, .int v1), (2, .int v2), (3, .int v3), (4, .int v4), (5, .int v5)] 143 [] := by
  intro a0 v1 v2 v3 v4 v5 M h_a0
  refine aw_callq (F' := sv (v5 + (1 : Int32)) fun i20 => k37 a0 v1 v2 v3 v4 i20 M) rfl ?_
  refine aw_iincV (pc := 143) X (fun y => [(5, .int y), (0, .ref (b + a0)), (1, .int v1), (2, .int v2), (3, .int v3), (4, .int v4)]) 5 (v := (v5 + (1 : Int32))) dX8_tick_143 rfl rfl (by decide) (fun _ => rfl) (fun i20 => ?_)
  refine aw_goto (pc := 146) X 37 dX8_tick_146 (by decide) ?_
  refine aw_sub [1, 2, 3, 4, 5, 0] rfl ?_
  exact hk37 a0 v1 v2 v3 v4 i20 M h_a0
theorem cl_X8_232 {ρ : Type} {l : Launch} {p : Program} {e : Env} {R : Room} {s : State} {m : MethodId} {args : Array Value} {below : List Frame} {meth : Method} {c : Code} {D : va_G} {cs : JC} {b nL : Nat} {H0 : Heap} {Qf : ρ × JM → State → Prop} {M : JM} {ks sl : Nat} {lv : List (Nat × Value)} {pc : Nat} {st : List Value} {cc : ByteArray} (X : jX p c cc nL s m args RX8 D cs b meth H0) {z0 : Nat} {z1 : Int32} {z2 : Int32} {K : JM → Option (ρ × JM)} (hrm : jRm rm_X8_moves 3 R) (hW : (st.map fun v => v.category).sum ≤ 8) {ks2 sl2 : Nat} (hk2 : ks + rm_X8_moves.cells = ks2) (hs2 : sl + rm_X8_moves.slots = sl2) (hroom : ks2 ≤ R.cells ∧ sl2 ≤ R.slots) (hdg : decode cc pc = .ok (.invokevirtual 232, 3)) (h0 : oty M z0 18) (kk : ∀ (M2 : JM), gn M ≤ gn M2 → AWO p l e R s m args below meth c D cs b nL H0 Qf (K M2) M2 ks2 sl2 lv (pc + 3) (st)) : AWO p l e R s m args below meth c D cs b nL H0 Qf (ob (f_X8_moves z0 z1 z2 M) (fun _ => K)) M ks sl lv pc (.int z2 :: .int z1 :: .ref (b + z0) :: st) := by
  subst hk2
  subst hs2
  exact aw_callV (ci := 8) X [.int z1, .int z2] st rfl rfl wl_X8_232 wi_X8_moves wv_X8_moves wc_X8_moves wn_X8 (n := 2) hd_X8_moves rfl hrm hW hroom hdg h0 (t_X8_moves z0 z1 z2 M h0) (fun _ M2 g _ => kk M2 g)
def f_X8_tick_L132 (k16 : Nat → Int32 → Int32 → Int32 → JM → Option (Int32 × JM)) (k37 : Nat → Int32 → Int32 → Int32 → Int32 → Int32 → JM → Option (Int32 × JM)) : Nat → Int32 → Int32 → Int32 → Int32 → Int32 → JM → Option (Int32 × JM) := fun a0 v1 v2 v3 v4 v5 M => ob (f_X8_moves a0 v5 v4 M) fun _ M22 => sv (v4 + (1 : Int32)) fun i24 => f_X8_tick_L143 k16 k37 a0 v1 v2 v3 i24 v5 M22
set_option maxRecDepth 10000 in
set_option maxHeartbeats 4000000 in
theorem t_X8_tick_L132 {p : Program} {l : Launch} {e : Env} {s : State} {m : MethodId} {args : Array Value} {below : List Frame} {meth : Method} {c : Code} {D : va_G} {cs : JC} {b : Nat} (X : jX p c cX8_tick 6 s m args RX8 D cs b meth s.heap) (hr : meth.sig.returnType = Option.some Jvm.ClassFile.FieldType.int) (k16 : Nat → Int32 → Int32 → Int32 → JM → Option (Int32 × JM)) (hk16 : ∀ (a0 : Nat) (v1 : Int32) (v2 : Int32) (v3 : Int32) (M : JM), oty M a0 18 → AWO p l e rm_X8_tick s m args below meth c D cs b 6 s.heap (jE below D cs b evI args s rm_X8_tick.cells rm_X8_tick.slots) (k16 a0 v1 v2 v3 M) M 0 0 [(0, .ref (b + a0)), (1, .int v1), (2, .int v2), (3, .int v3)] 16 []) (k37 : Nat → Int32 → Int32 → Int32 → Int32 → Int32 → JM → Option (Int32 × JM)) (hk37 : ∀ (a0 : Nat) (v1 : Int32) (v2 : Int32) (v3 : Int32) (v4 : Int32) (v5 : Int32) (M : JM), oty M a0 18 → AWO p l e rm_X8_tick s m args below meth c D cs b 6 s.heap (jE below D cs b evI args s rm_X8_tick.cells rm_X8_tick.slots) (k37 a0 v1 v2 v3 v4 v5 M) M 0 0 [(0, .ref (b + a0)), (1, .int v1), (2, .int v2), (3, .int v3), (4, .int v4), (5, .int v5)] 37 []) : ∀ (a0 : Nat) (v1 : Int32) (v2 : Int32) (v3 : Int32) (v4 : Int32) (v5 : Int32) (M : JM), oty M a0 18 → AWO p l e rm_X8_tick s m args below meth c D cs b 6 s.heap (jE below D cs b evI args s rm_X8_tick.cells rm_X8_tick.slots) (f_X8_tick_L132 k16 k37 a0 v1 v2 v3 v4 v5 M) M 0 0 [(0, .ref (b + a0)), (1, .int v1), (2, .int v2), (3, .int v3), (4, .int v4), (5, .int v5)] 132 [] := by
  intro a0 v1 v2 v3 v4 v5 M h_a0
  refine aw_callq (F' := ob (f_X8_moves a0 v5 v4 M) fun _ M22 => sv (v4 + (1 : Int32)) fun i24 => f_X8_tick_L143 k16 k37 a0 v1 v2 v3 i24 v5 M22) rfl ?_
  refine aw_aload_n (pc := 132) X 0 dX8_tick_132 rfl ?_
  refine aw_iload (pc := 133) X 5 dX8_tick_133 rfl ?_
  refine aw_iload (pc := 135) X 4 dX8_tick_135 rfl ?_
  refine cl_X8_232 (pc := 137) X ⟨Nat.le_of_ble_eq_true rfl, Nat.le_of_ble_eq_true rfl⟩ (Nat.le_of_ble_eq_true rfl) (ks2 := 0) (sl2 := 0) rfl rfl ⟨(Nat.le_of_ble_eq_true rfl), (Nat.le_of_ble_eq_true rfl)⟩ dX8_tick_137 h_a0 (fun M22 g23 => ?_)
  have h_a0 := h_a0.mono g23
  refine aw_iincV (pc := 140) X (fun y => [(4, .int y), (0, .ref (b + a0)), (1, .int v1), (2, .int v2), (3, .int v3), (5, .int v5)]) 4 (v := (v4 + (1 : Int32))) dX8_tick_140 rfl rfl (by decide) (fun _ => rfl) (fun i24 => ?_)
  refine aw_sub [1, 2, 3, 4, 0, 5] rfl ?_
  exact t_X8_tick_L143 X hr k16 hk16 k37 hk37 a0 v1 v2 v3 i24 v5 M22 h_a0
def f_X8_tick_L37 (k16 : Nat → Int32 → Int32 → Int32 → JM → Option (Int32 × JM)) : Nat → Nat → Int32 → Int32 → Int32 → Int32 → Int32 → JM → Option (Int32 × JM)
  | 0, _, _, _, _, _, _, _ => none
  | n + 1, a0, v1, v2, v3, v4, v5, M => if v5 < (gi M a0 28) then (orf (gr M a0 34) fun r16 => if 0 ≤ v5 ∧ v5 < ln r16 then (if 0 ≤ v5 ∧ v5 < ln r16 then (sq (si M r16 v5 ((gi M r16 v5) + (1 : Int32))) fun M17 => orf (gr M17 a0 34) fun r19 => if 0 ≤ v5 ∧ v5 < ln r19 then (if (gi M17 r19 v5) < (6 : Int32) then (orf (gr M17 a0 34) fun r21 => if 0 ≤ v5 ∧ v5 < ln r21 then (if (1 : Int32) < (gi M17 r21 v5) then (orf (gr M17 a0 30) fun r25 => orf (gr M17 a0 30) fun r26 => if 0 ≤ v5 ∧ v5 < ln r26 then (orf (gr M17 a0 32) fun r27 => if 0 ≤ v5 ∧ v5 < ln r27 then (ob (f_X8_signed (((gi M17 r26 v5) + (gi M17 r27 v5)).toInt64) M17) fun r30 M28 => if 0 ≤ v5 ∧ v5 < ln r25 then (sq (si M28 r25 v5 r30) fun M31 => orf (gr M31 a0 31) fun r33 => orf (gr M31 a0 31) fun r34 => if 0 ≤ v5 ∧ v5 < ln r34 then (orf (gr M31 a0 33) fun r35 => if 0 ≤ v5 ∧ v5 < ln r35 then (ob (f_X8_signed (((gi M31 r34 v5) + (gi M31 r35 v5)).toInt64) M31) fun r38 M36 => if 0 ≤ v5 ∧ v5 < ln r33 then (sq (si M36 r33 v5 r38) fun M39 => f_X8_tick_L132 k16 (f_X8_tick_L37 k16 n) a0 v1 v2 v3 v4 v5 M39) else none) else none) else none) else none) else none) else none) else (f_X8_tick_L132 k16 (f_X8_tick_L37 k16 n) a0 v1 v2 v3 v4 v5 M17)) else none) else (f_X8_tick_L143 k16 (f_X8_tick_L37 k16 n) a0 v1 v2 v3 v4 v5 M17)) else none) else none) else none) else (f_X8_tick_L149 k16 a0 v1 v2 v3 v4 M)
set_option maxRecDepth 10000 in
set_option maxHeartbeats 4000000 in
theorem t_X8_tick_L37 {p : Program} {l : Launch} {e : Env} {s : State} {m : MethodId} {args : Array Value} {below : List Frame} {meth : Method} {c : Code} {D : va_G} {cs : JC} {b : Nat} (X : jX p c cX8_tick 6 s m args RX8 D cs b meth s.heap) (hr : meth.sig.returnType = Option.some Jvm.ClassFile.FieldType.int) (k16 : Nat → Int32 → Int32 → Int32 → JM → Option (Int32 × JM)) (hk16 : ∀ (a0 : Nat) (v1 : Int32) (v2 : Int32) (v3 : Int32) (M : JM), oty M a0 18 → AWO p l e rm_X8_tick s m args below meth c D cs b 6 s.heap (jE below D cs b evI args s rm_X8_tick.cells rm_X8_tick.slots) (k16 a0 v1 v2 v3 M) M 0 0 [(0, .ref (b + a0)), (1, .int v1), (2, .int v2), (3, .int v3)] 16 []) : ∀ (n : Nat) (a0 : Nat) (v1 : Int32) (v2 : Int32) (v3 : Int32) (v4 : Int32) (v5 : Int32) (M : JM), oty M a0 18 → AWO p l e rm_X8_tick s m args below meth c D cs b 6 s.heap (jE below D cs b evI args s rm_X8_tick.cells rm_X8_tick.slots) (f_X8_tick_L37 k16 n a0 v1 v2 v3 v4 v5 M) M 0 0 [(0, .ref (b + a0)), (1, .int v1), (2, .int v2), (3, .int v3), (4, .int v4), (5, .int v5)] 37 [] := by
  intro n
  induction n with
  | zero => intro a0 v1 v2 v3 v4 v5 M h_a0; exact aw_none
  | succ n ih =>
    intro a0 v1 v2 v3 v4 v5 M h_a0
    refine aw_callq (F' := if v5 < (gi M a0 28) then (orf (gr M a0 34) fun r16 => if 0 ≤ v5 ∧ v5 < ln r16 then (if 0 ≤ v5 ∧ v5 < ln r16 then (sq (si M r16 v5 ((gi M r16 v5) + (1 : Int32))) fun M17 => orf (gr M17 a0 34) fun r19 => if 0 ≤ v5 ∧ v5 < ln r19 then (if (gi M17 r19 v5) < (6 : Int32) then (orf (gr M17 a0 34) fun r21 => if 0 ≤ v5 ∧ v5 < ln r21 then (if (1 : Int32) < (gi M17 r21 v5) then (orf (gr M17 a0 30) fun r25 => orf (gr M17 a0 30) fun r26 => if 0 ≤ v5 ∧ v5 < ln r26 then (orf (gr M17 a0 32) fun r27 => if 0 ≤ v5 ∧ v5 < ln r27 then (ob (f_X8_signed (((gi M17 r26 v5) + (gi M17 r27 v5)).toInt64) M17) fun r30 M28 => if 0 ≤ v5 ∧ v5 < ln r25 then (sq (si M28 r25 v5 r30) fun M31 => orf (gr M31 a0 31) fun r33 => orf (gr M31 a0 31) fun r34 => if 0 ≤ v5 ∧ v5 < ln r34 then (orf (gr M31 a0 33) fun r35 => if 0 ≤ v5 ∧ v5 < ln r35 then (ob (f_X8_signed (((gi M31 r34 v5) + (gi M31 r35 v5)).toInt64) M31) fun r38 M36 => if 0 ≤ v5 ∧ v5 < ln r33 then (sq (si M36 r33 v5 r38) fun M39 => f_X8_tick_L132 k16 (f_X8_tick_L37 k16 n) a0 v1 v2 v3 v4 v5 M39) else none) else none) else none) else none) else none) else none) else (f_X8_tick_L132 k16 (f_X8_tick_L37 k16 n) a0 v1 v2 v3 v4 v5 M17)) else none) else (f_X8_tick_L143 k16 (f_X8_tick_L37 k16 n) a0 v1 v2 v3 v4 v5 M17)) else none) else none) else none) else (f_X8_tick_L149 k16 a0 v1 v2 v3 v4 M)) rfl ?_
    refine aw_iload (pc := 37) X 5 dX8_tick_37 rfl ?_
    refine aw_aload_n (pc := 39) X 0 dX8_tick_39 rfl ?_
    refine gf_X8_216 (pc := 40) X dX8_tick_40 h_a0 ?_
    refine aw_icmpge (pc := 43) X 149 dX8_tick_43 (by decide) ?_ ?_
    · refine aw_aload_n (pc := 46) X 0 dX8_tick_46 rfl ?_
      refine gf_X8_81 (pc := 47) X dX8_tick_47 h_a0 (fun r16 h_r16 => ?_)
      refine aw_iload (pc := 50) X 5 dX8_tick_50 rfl ?_
      refine aw_dup2_ia (pc := 52) X dX8_tick_52 ?_
      refine aw_iald (pc := 53) X dX8_tick_53 h_r16 ?_
      refine aw_iconst (pc := 54) X (1 : Int32) dX8_tick_54 (by decide) ?_
      refine aw_iadd (pc := 55) X dX8_tick_55 ?_
      refine aw_iastQ (pc := 56) X dX8_tick_56 h_r16 (fun M17 g18 => ?_)
      have h_a0 := h_a0.mono g18
      refine aw_aload_n (pc := 57) X 0 dX8_tick_57 rfl ?_
      refine gf_X8_81 (pc := 58) X dX8_tick_58 h_a0 (fun r19 h_r19 => ?_)
      refine aw_iload (pc := 61) X 5 dX8_tick_61 rfl ?_
      refine aw_iald (pc := 63) X dX8_tick_63 h_r19 ?_
      refine aw_bipush (pc := 64) X (6 : Int32) dX8_tick_64 (by decide) ?_
      refine aw_icmpge (pc := 66) X 143 dX8_tick_66 (by decide) ?_ ?_
      · refine aw_aload_n (pc := 69) X 0 dX8_tick_69 rfl ?_
        refine gf_X8_81 (pc := 70) X dX8_tick_70 h_a0 (fun r21 h_r21 => ?_)
        refine aw_iload (pc := 73) X 5 dX8_tick_73 rfl ?_
        refine aw_iald (pc := 75) X dX8_tick_75 h_r21 ?_
        refine aw_iconst (pc := 76) X (1 : Int32) dX8_tick_76 (by decide) ?_
        refine aw_icmple (pc := 77) X 132 dX8_tick_77 (by decide) ?_ ?_
        · refine aw_aload_n (pc := 80) X 0 dX8_tick_80 rfl ?_
          refine gf_X8_69 (pc := 81) X dX8_tick_81 h_a0 (fun r25 h_r25 => ?_)
          refine aw_iload (pc := 84) X 5 dX8_tick_84 rfl ?_
          refine aw_aload_n (pc := 86) X 0 dX8_tick_86 rfl ?_
          refine gf_X8_69 (pc := 87) X dX8_tick_87 h_a0 (fun r26 h_r26 => ?_)
          refine aw_iload (pc := 90) X 5 dX8_tick_90 rfl ?_
          refine aw_iald (pc := 92) X dX8_tick_92 h_r26 ?_
          refine aw_aload_n (pc := 93) X 0 dX8_tick_93 rfl ?_
          refine gf_X8_75 (pc := 94) X dX8_tick_94 h_a0 (fun r27 h_r27 => ?_)
          refine aw_iload (pc := 97) X 5 dX8_tick_97 rfl ?_
          refine aw_iald (pc := 99) X dX8_tick_99 h_r27 ?_
          refine aw_iadd (pc := 100) X dX8_tick_100 ?_
          refine aw_i2l (pc := 101) X dX8_tick_101 ?_
          refine cl_X8_219 (pc := 102) X ⟨Nat.le_of_ble_eq_true rfl, Nat.le_of_ble_eq_true rfl⟩ (Nat.le_of_ble_eq_true rfl) (ks2 := 0) (sl2 := 0) rfl rfl ⟨(Nat.le_of_ble_eq_true rfl), (Nat.le_of_ble_eq_true rfl)⟩ dX8_tick_102  (fun r30 M28 g29 => ?_)
          have h_a0 := h_a0.mono g29
          have h_r25 := h_r25.mono g29
          refine aw_iastQ (pc := 105) X dX8_tick_105 h_r25 (fun M31 g32 => ?_)
          have h_a0 := h_a0.mono g32
          refine aw_aload_n (pc := 106) X 0 dX8_tick_106 rfl ?_
          refine gf_X8_72 (pc := 107) X dX8_tick_107 h_a0 (fun r33 h_r33 => ?_)
          refine aw_iload (pc := 110) X 5 dX8_tick_110 rfl ?_
          refine aw_aload_n (pc := 112) X 0 dX8_tick_112 rfl ?_
          refine gf_X8_72 (pc := 113) X dX8_tick_113 h_a0 (fun r34 h_r34 => ?_)
          refine aw_iload (pc := 116) X 5 dX8_tick_116 rfl ?_
          refine aw_iald (pc := 118) X dX8_tick_118 h_r34 ?_
          refine aw_aload_n (pc := 119) X 0 dX8_tick_119 rfl ?_
          refine gf_X8_78 (pc := 120) X dX8_tick_120 h_a0 (fun r35 h_r35 => ?_)
          refine aw_iload (pc := 123) X 5 dX8_tick_123 rfl ?_
          refine aw_iald (pc := 125) X dX8_tick_125 h_r35 ?_
          refine aw_iadd (pc := 126) X dX8_tick_126 ?_
          refine aw_i2l (pc := 127) X dX8_tick_127 ?_
          refine cl_X8_219 (pc := 128) X ⟨Nat.le_of_ble_eq_true rfl, Nat.le_of_ble_eq_true rfl⟩ (Nat.le_of_ble_eq_true rfl) (ks2 := 0) (sl2 := 0) rfl rfl ⟨(Nat.le_of_ble_eq_true rfl), (Nat.le_of_ble_eq_true rfl)⟩ dX8_tick_128  (fun r38 M36 g37 => ?_)
          have h_a0 := h_a0.mono g37
          have h_r33 := h_r33.mono g37
          refine aw_iastQ (pc := 131) X dX8_tick_131 h_r33 (fun M39 g40 => ?_)
          have h_a0 := h_a0.mono g40
          refine aw_sub [0, 1, 2, 3, 4, 5] rfl ?_
          exact t_X8_tick_L132 X hr k16 hk16 (f_X8_tick_L37 k16 n) ih a0 v1 v2 v3 v4 v5 M39 h_a0
        · refine aw_sub [0, 1, 2, 3, 4, 5] rfl ?_
          exact t_X8_tick_L132 X hr k16 hk16 (f_X8_tick_L37 k16 n) ih a0 v1 v2 v3 v4 v5 M17 h_a0
      · refine aw_sub [0, 1, 2, 3, 4, 5] rfl ?_
        exact t_X8_tick_L143 X hr k16 hk16 (f_X8_tick_L37 k16 n) ih a0 v1 v2 v3 v4 v5 M17 h_a0
    · refine aw_sub [0, 1, 2, 3, 4] rfl ?_
      exact t_X8_tick_L149 X hr k16 hk16 a0 v1 v2 v3 v4 M h_a0
def f_X8_tick_L16 : Nat → Nat → Int32 → Int32 → Int32 → JM → Option (Int32 × JM)
  | 0, _, _, _, _, _ => none
  | n + 1, a0, v1, v2, v3, M => if v3 < v1 then (sq (si M a0 41 ((gi M a0 41) + (1 : Int32))) fun M8 => sv (0 : Int32) fun i10 => sv (0 : Int32) fun i11 => f_X8_tick_L37 (f_X8_tick_L16 n) FU a0 v1 v2 v3 i10 i11 M8) else (f_X8_tick_L171 a0 v2 M)
set_option maxRecDepth 10000 in
set_option maxHeartbeats 4000000 in
theorem t_X8_tick_L16 {p : Program} {l : Launch} {e : Env} {s : State} {m : MethodId} {args : Array Value} {below : List Frame} {meth : Method} {c : Code} {D : va_G} {cs : JC} {b : Nat} (X : jX p c cX8_tick 6 s m args RX8 D cs b meth s.heap) (hr : meth.sig.returnType = Option.some Jvm.ClassFile.FieldType.int) : ∀ (n : Nat) (a0 : Nat) (v1 : Int32) (v2 : Int32) (v3 : Int32) (M : JM), oty M a0 18 → AWO p l e rm_X8_tick s m args below meth c D cs b 6 s.heap (jE below D cs b evI args s rm_X8_tick.cells rm_X8_tick.slots) (f_X8_tick_L16 n a0 v1 v2 v3 M) M 0 0 [(0, .ref (b + a0)), (1, .int v1), (2, .int v2), (3, .int v3)] 16 [] := by
  intro n
  induction n with
  | zero => intro a0 v1 v2 v3 M h_a0; exact aw_none
  | succ n ih =>
    intro a0 v1 v2 v3 M h_a0
    refine aw_callq (F' := if v3 < v1 then (sq (si M a0 41 ((gi M a0 41) + (1 : Int32))) fun M8 => sv (0 : Int32) fun i10 => sv (0 : Int32) fun i11 => f_X8_tick_L37 (f_X8_tick_L16 n) FU a0 v1 v2 v3 i10 i11 M8) else (f_X8_tick_L171 a0 v2 M)) rfl ?_
    refine aw_iload_n (pc := 16) X 3 dX8_tick_16 rfl ?_
    refine aw_iload_n (pc := 17) X 1 dX8_tick_17 rfl ?_
    refine aw_icmpge (pc := 18) X 171 dX8_tick_18 (by decide) ?_ ?_
    · refine aw_aload_n (pc := 21) X 0 dX8_tick_21 rfl ?_
      refine aw_dup_a (pc := 22) X dX8_tick_22 ?_
      refine gf_X8_229 (pc := 23) X dX8_tick_23 h_a0 ?_
      refine aw_iconst (pc := 26) X (1 : Int32) dX8_tick_26 (by decide) ?_
      refine aw_iadd (pc := 27) X dX8_tick_27 ?_
      refine pf_X8_229 (pc := 28) X dX8_tick_28 h_a0 (fun M8 g9 => ?_)
      have h_a0 := h_a0.mono g9
      refine aw_iconst (pc := 31) X (0 : Int32) dX8_tick_31 (by decide) ?_
      refine aw_istoreV (pc := 32) X (fun y => [(4, .int y), (0, .ref (b + a0)), (1, .int v1), (2, .int v2), (3, .int v3)]) dX8_tick_32 (by decide) (fun _ => rfl) (fun i10 => ?_)
      refine aw_iconst (pc := 34) X (0 : Int32) dX8_tick_34 (by decide) ?_
      refine aw_istoreV (pc := 35) X (fun y => [(5, .int y), (4, .int i10), (0, .ref (b + a0)), (1, .int v1), (2, .int v2), (3, .int v3)]) dX8_tick_35 (by decide) (fun _ => rfl) (fun i11 => ?_)
      refine aw_sub [2, 3, 4, 5, 1, 0] rfl ?_
      exact t_X8_tick_L37 X hr (f_X8_tick_L16 n) ih FU a0 v1 v2 v3 i10 i11 M8 h_a0
    · refine aw_sub [0, 2] rfl ?_
      exact t_X8_tick_L171 X hr a0 v2 M h_a0
def f_X8_tick (a0 : Nat) (v1 : Int32) (M : JM) : Option (Int32 × JM) := ob (f_X8_in v1 (1 : Int32) (20 : Int32) M) fun r3 M1 => if r3 = true then (sv (0 : Int32) fun i4 => sv (0 : Int32) fun i5 => f_X8_tick_L16 FU a0 v1 i4 i5 M1) else (some ((-1 : Int32), M1))
set_option maxRecDepth 10000 in
set_option maxHeartbeats 4000000 in
theorem t_X8_tick {l : Launch} {D : va_G} {cs : JC} {b : Nat} (a0 : Nat) (v1 : Int32) (M : JM) (h_a0 : oty M a0 18) : ∀ q, f_X8_tick a0 v1 M = some q → CTy l yX8_tick (.code yX8_tick cX8_tick 6 (Option.some Jvm.ClassFile.FieldType.int) :: GB) rm_X8_tick D cs b evI [.ref (b + a0), .int v1] M rm_X8_tick.cells rm_X8_tick.slots q := fun q hq => ct_of [(0, .ref (b + a0)), (1, .int v1)] rfl rfl (Nat.le_of_ble_eq_true rfl) hq (fun p e s m args below meth c X hr hin => by
  refine aw_callq (F' := ob (f_X8_in v1 (1 : Int32) (20 : Int32) M) fun r3 M1 => if r3 = true then (sv (0 : Int32) fun i4 => sv (0 : Int32) fun i5 => f_X8_tick_L16 FU a0 v1 i4 i5 M1) else (some ((-1 : Int32), M1))) rfl ?_
  refine aw_iload_n (pc := 0) X 1 dX8_tick_0 rfl ?_
  refine aw_iconst (pc := 1) X (1 : Int32) dX8_tick_1 (by decide) ?_
  refine aw_bipush (pc := 2) X (20 : Int32) dX8_tick_2 (by decide) ?_
  refine cl_X8_105 (pc := 4) X ⟨Nat.le_of_ble_eq_true rfl, Nat.le_of_ble_eq_true rfl⟩ (Nat.le_of_ble_eq_true rfl) (ks2 := 0) (sl2 := 0) rfl rfl ⟨(Nat.le_of_ble_eq_true rfl), (Nat.le_of_ble_eq_true rfl)⟩ dX8_tick_4  (fun r3 M1 g2 => ?_)
  have h_a0 := h_a0.mono g2
  refine aw_ifneB (pc := 7) X 12 dX8_tick_7 (by decide) ?_ ?_
  · refine aw_iconst (pc := 12) X (0 : Int32) dX8_tick_12 (by decide) ?_
    refine aw_istoreV_n (pc := 13) X (fun y => [(2, .int y), (0, .ref (b + a0)), (1, .int v1)]) dX8_tick_13 (by decide) (fun _ => rfl) (fun i4 => ?_)
    refine aw_iconst (pc := 14) X (0 : Int32) dX8_tick_14 (by decide) ?_
    refine aw_istoreV_n (pc := 15) X (fun y => [(3, .int y), (2, .int i4), (0, .ref (b + a0)), (1, .int v1)]) dX8_tick_15 (by decide) (fun _ => rfl) (fun i5 => ?_)
    refine aw_sub [2, 3, 1, 0] rfl ?_
    exact t_X8_tick_L16 X hr FU a0 v1 i4 i5 M1 h_a0
  · refine aw_iconst (pc := 10) X (-1 : Int32) dX8_tick_10 (by decide) ?_
    exact aw_iret (pc := 11) X hr dX8_tick_11 (Nat.le_of_ble_eq_true rfl) (Nat.le_of_ble_eq_true rfl))
/-! ReportBlocks.track -/
def rm_X7_track : Room := { frames := 0, cells := 0, slots := 0, locals := 0 }
theorem hd_X7_track : jHd yX7_track 2 := by unfold jHd; decide +kernel
theorem gf_X7_246 {ρ : Type} {l : Launch} {p : Program} {e : Env} {R : Room} {s : State} {m : MethodId} {args : Array Value} {below : List Frame} {meth : Method} {c : Code} {D : va_G} {cs : JC} {b nL : Nat} {H0 : Heap} {Qf : ρ × JM → State → Prop} {M : JM} {ks sl : Nat} {lv : List (Nat × Value)} {pc : Nat} {st : List Value} {cc : ByteArray} {k : Nat} (X : jX p c cc nL s m args RX7 D cs b meth H0) {F : Option (ρ × JM)} (hdg : decode cc pc = .ok (.getfield 246, 3)) (ho : oty M k 16) (kk : AWO p l e R s m args below meth c D cs b nL H0 Qf F M ks sl lv (pc + 3) (.int (gi M k 1) :: st)) : AWO p l e R s m args below meth c D cs b nL H0 Qf F M ks sl lv pc (.ref (b + k) :: st) := aw_getI (ci := 6) X 1 rfl gy_X6 (by decide) rfl rfl wf_X7_246 hdg ho kk
theorem gf_X7_247 {ρ : Type} {l : Launch} {p : Program} {e : Env} {R : Room} {s : State} {m : MethodId} {args : Array Value} {below : List Frame} {meth : Method} {c : Code} {D : va_G} {cs : JC} {b nL : Nat} {H0 : Heap} {Qf : ρ × JM → State → Prop} {M : JM} {ks sl : Nat} {lv : List (Nat × Value)} {pc : Nat} {st : List Value} {cc : ByteArray} {k : Nat} (X : jX p c cc nL s m args RX7 D cs b meth H0) {K : Nat → Option (ρ × JM)} (hdg : decode cc pc = .ok (.getfield 247, 3)) (ho : oty M k 16) (kk : ∀ r : Nat, oty M r 4 → AWO p l e R s m args below meth c D cs b nL H0 Qf (K r) M ks sl lv (pc + 3) (.ref (b + r) :: st)) : AWO p l e R s m args below meth c D cs b nL H0 Qf (orf (gr M k 0) K) M ks sl lv pc (.ref (b + k) :: st) := aw_getR (ci := 6) (τ := 4) X 0 rfl gy_X6 (by decide) (by decide) rfl rfl (by decide) wf_X7_247 hdg ho kk
theorem gf_X7_251 {ρ : Type} {l : Launch} {p : Program} {e : Env} {R : Room} {s : State} {m : MethodId} {args : Array Value} {below : List Frame} {meth : Method} {c : Code} {D : va_G} {cs : JC} {b nL : Nat} {H0 : Heap} {Qf : ρ × JM → State → Prop} {M : JM} {ks sl : Nat} {lv : List (Nat × Value)} {pc : Nat} {st : List Value} {cc : ByteArray} {k : Nat} (X : jX p c cc nL s m args RX7 D cs b meth H0) {F : Option (ρ × JM)} (hdg : decode cc pc = .ok (.getfield 251, 3)) (ho : oty M k 15) (kk : AWO p l e R s m args below meth c D cs b nL H0 Qf F M ks sl lv (pc + 3) (.int (gi M k 0) :: st)) : AWO p l e R s m args below meth c D cs b nL H0 Qf F M ks sl lv pc (.ref (b + k) :: st) := aw_getI (ci := 5) X 0 rfl gy_X5 (by decide) rfl rfl wf_X7_251 hdg ho kk
theorem gf_X7_254 {ρ : Type} {l : Launch} {p : Program} {e : Env} {R : Room} {s : State} {m : MethodId} {args : Array Value} {below : List Frame} {meth : Method} {c : Code} {D : va_G} {cs : JC} {b nL : Nat} {H0 : Heap} {Qf : ρ × JM → State → Prop} {M : JM} {ks sl : Nat} {lv : List (Nat × Value)} {pc : Nat} {st : List Value} {cc : ByteArray} {k : Nat} (X : jX p c cc nL s m args RX7 D cs b meth H0) {F : Option (ρ × JM)} (hdg : decode cc pc = .ok (.getfield 254, 3)) (ho : oty M k 15) (kk : AWO p l e R s m args below meth c D cs b nL H0 Qf F M ks sl lv (pc + 3) (.int (gi M k 1) :: st)) : AWO p l e R s m args below meth c D cs b nL H0 Qf F M ks sl lv pc (.ref (b + k) :: st) := aw_getI (ci := 5) X 1 rfl gy_X5 (by decide) rfl rfl wf_X7_254 hdg ho kk
theorem gf_X7_257 {ρ : Type} {l : Launch} {p : Program} {e : Env} {R : Room} {s : State} {m : MethodId} {args : Array Value} {below : List Frame} {meth : Method} {c : Code} {D : va_G} {cs : JC} {b nL : Nat} {H0 : Heap} {Qf : ρ × JM → State → Prop} {M : JM} {ks sl : Nat} {lv : List (Nat × Value)} {pc : Nat} {st : List Value} {cc : ByteArray} {k : Nat} (X : jX p c cc nL s m args RX7 D cs b meth H0) {F : Option (ρ × JM)} (hdg : decode cc pc = .ok (.getfield 257, 3)) (ho : oty M k 15) (kk : AWO p l e R s m args below meth c D cs b nL H0 Qf F M ks sl lv (pc + 3) (.int (gi M k 2) :: st)) : AWO p l e R s m args below meth c D cs b nL H0 Qf F M ks sl lv pc (.ref (b + k) :: st) := aw_getI (ci := 5) X 2 rfl gy_X5 (by decide) rfl rfl wf_X7_257 hdg ho kk
theorem gf_X7_260 {ρ : Type} {l : Launch} {p : Program} {e : Env} {R : Room} {s : State} {m : MethodId} {args : Array Value} {below : List Frame} {meth : Method} {c : Code} {D : va_G} {cs : JC} {b nL : Nat} {H0 : Heap} {Qf : ρ × JM → State → Prop} {M : JM} {ks sl : Nat} {lv : List (Nat × Value)} {pc : Nat} {st : List Value} {cc : ByteArray} {k : Nat} (X : jX p c cc nL s m args RX7 D cs b meth H0) {F : Option (ρ × JM)} (hdg : decode cc pc = .ok (.getfield 260, 3)) (ho : oty M k 15) (kk : AWO p l e R s m args below meth c D cs b nL H0 Qf F M ks sl lv (pc + 3) (.int (gi M k 5) :: st)) : AWO p l e R s m args below meth c D cs b nL H0 Qf F M ks sl lv pc (.ref (b + k) :: st) := aw_getI (ci := 5) X 5 rfl gy_X5 (by decide) rfl rfl wf_X7_260 hdg ho kk
theorem gf_X7_263 {ρ : Type} {l : Launch} {p : Program} {e : Env} {R : Room} {s : State} {m : MethodId} {args : Array Value} {below : List Frame} {meth : Method} {c : Code} {D : va_G} {cs : JC} {b nL : Nat} {H0 : Heap} {Qf : ρ × JM → State → Prop} {M : JM} {ks sl : Nat} {lv : List (Nat × Value)} {pc : Nat} {st : List Value} {cc : ByteArray} {k : Nat} (X : jX p c cc nL s m args RX7 D cs b meth H0) {F : Option (ρ × JM)} (hdg : decode cc pc = .ok (.getfield 263, 3)) (ho : oty M k 15) (kk : AWO p l e R s m args below meth c D cs b nL H0 Qf F M ks sl lv (pc + 3) (.int (gi M k 6) :: st)) : AWO p l e R s m args below meth c D cs b nL H0 Qf F M ks sl lv pc (.ref (b + k) :: st) := aw_getI (ci := 5) X 6 rfl gy_X5 (by decide) rfl rfl wf_X7_263 hdg ho kk
theorem gf_X7_266 {ρ : Type} {l : Launch} {p : Program} {e : Env} {R : Room} {s : State} {m : MethodId} {args : Array Value} {below : List Frame} {meth : Method} {c : Code} {D : va_G} {cs : JC} {b nL : Nat} {H0 : Heap} {Qf : ρ × JM → State → Prop} {M : JM} {ks sl : Nat} {lv : List (Nat × Value)} {pc : Nat} {st : List Value} {cc : ByteArray} {k : Nat} (X : jX p c cc nL s m args RX7 D cs b meth H0) {F : Option (ρ × JM)} (hdg : decode cc pc = .ok (.getfield 266, 3)) (ho : oty M k 15) (kk : AWO p l e R s m args below meth c D cs b nL H0 Qf F M ks sl lv (pc + 3) (.int (gi M k 7) :: st)) : AWO p l e R s m args below meth c D cs b nL H0 Qf F M ks sl lv pc (.ref (b + k) :: st) := aw_getI (ci := 5) X 7 rfl gy_X5 (by decide) rfl rfl wf_X7_266 hdg ho kk
theorem gf_X7_269 {ρ : Type} {l : Launch} {p : Program} {e : Env} {R : Room} {s : State} {m : MethodId} {args : Array Value} {below : List Frame} {meth : Method} {c : Code} {D : va_G} {cs : JC} {b nL : Nat} {H0 : Heap} {Qf : ρ × JM → State → Prop} {M : JM} {ks sl : Nat} {lv : List (Nat × Value)} {pc : Nat} {st : List Value} {cc : ByteArray} {k : Nat} (X : jX p c cc nL s m args RX7 D cs b meth H0) {F : Option (ρ × JM)} (hdg : decode cc pc = .ok (.getfield 269, 3)) (ho : oty M k 15) (kk : AWO p l e R s m args below meth c D cs b nL H0 Qf F M ks sl lv (pc + 3) (.int (gi M k 8) :: st)) : AWO p l e R s m args below meth c D cs b nL H0 Qf F M ks sl lv pc (.ref (b + k) :: st) := aw_getI (ci := 5) X 8 rfl gy_X5 (by decide) rfl rfl wf_X7_269 hdg ho kk
def f_X7_track (a0 : Nat) (v1 : Int32) (v2 : Int32) (M : JM) : Option (Int32 × JM) := if v1 < 0 then (some ((-1 : Int32), M)) else (orf (gr M a0 7) fun r1 => if v1 < (gi M r1 1) then (orf (gr M a0 7) fun r2 => orf (gr M r2 0) fun r3 => if 0 ≤ v1 ∧ v1 < ln r3 then (orf (gr M r3 v1) fun r4 => if v2 = (0 : Int32) then (some ((gi M r4 0), M)) else (if v2 = (1 : Int32) then (some ((gi M r4 1), M)) else (if v2 = (2 : Int32) then (some ((gi M r4 2), M)) else (if v2 = (3 : Int32) then (some ((gi M r4 5), M)) else (if v2 = (4 : Int32) then (some ((gi M r4 6), M)) else (if v2 = (5 : Int32) then (some ((gi M r4 7), M)) else (if v2 = (6 : Int32) then (some ((gi M r4 8), M)) else (some ((-1 : Int32), M))))))))) else none) else (some ((-1 : Int32), M)))
set_option maxRecDepth 10000 in
set_option maxHeartbeats 4000000 in
theorem t_X7_track {l : Launch} {D : va_G} {cs : JC} {b : Nat} (a0 : Nat) (v1 : Int32) (v2 : Int32) (M : JM) (h_a0 : oty M a0 17) : ∀ q, f_X7_track a0 v1 v2 M = some q → CTy l yX7_track (.code yX7_track cX7_track 4 (Option.some Jvm.ClassFile.FieldType.int) :: GB) rm_X7_track D cs b evI [.ref (b + a0), .int v1, .int v2] M rm_X7_track.cells rm_X7_track.slots q := fun q hq => ct_of [(0, .ref (b + a0)), (1, .int v1), (2, .int v2)] rfl rfl (Nat.le_of_ble_eq_true rfl) hq (fun p e s m args below meth c X hr hin => by
  refine aw_callq (F' := if v1 < 0 then (some ((-1 : Int32), M)) else (orf (gr M a0 7) fun r1 => if v1 < (gi M r1 1) then (orf (gr M a0 7) fun r2 => orf (gr M r2 0) fun r3 => if 0 ≤ v1 ∧ v1 < ln r3 then (orf (gr M r3 v1) fun r4 => if v2 = (0 : Int32) then (some ((gi M r4 0), M)) else (if v2 = (1 : Int32) then (some ((gi M r4 1), M)) else (if v2 = (2 : Int32) then (some ((gi M r4 2), M)) else (if v2 = (3 : Int32) then (some ((gi M r4 5), M)) else (if v2 = (4 : Int32) then (some ((gi M r4 6), M)) else (if v2 = (5 : Int32) then (some ((gi M r4 7), M)) else (if v2 = (6 : Int32) then (some ((gi M r4 8), M)) else (some ((-1 : Int32), M))))))))) else none) else (some ((-1 : Int32), M)))) rfl ?_
  refine aw_iload_n (pc := 0) X 1 dX7_track_0 rfl ?_
  refine aw_iflt (pc := 1) X 15 dX7_track_1 (by decide) ?_ ?_
  · refine aw_iconst (pc := 15) X (-1 : Int32) dX7_track_15 (by decide) ?_
    exact aw_iret (pc := 16) X hr dX7_track_16 (Nat.le_of_ble_eq_true rfl) (Nat.le_of_ble_eq_true rfl)
  · refine aw_iload_n (pc := 4) X 1 dX7_track_4 rfl ?_
    refine aw_aload_n (pc := 5) X 0 dX7_track_5 rfl ?_
    refine gf_X7_51 (pc := 6) X dX7_track_6 h_a0 (fun r1 h_r1 => ?_)
    refine gf_X7_246 (pc := 9) X dX7_track_9 h_r1 ?_
    refine aw_icmplt (pc := 12) X 17 dX7_track_12 (by decide) ?_ ?_
    · refine aw_aload_n (pc := 17) X 0 dX7_track_17 rfl ?_
      refine gf_X7_51 (pc := 18) X dX7_track_18 h_a0 (fun r2 h_r2 => ?_)
      refine gf_X7_247 (pc := 21) X dX7_track_21 h_r2 (fun r3 h_r3 => ?_)
      refine aw_iload_n (pc := 24) X 1 dX7_track_24 rfl ?_
      refine aw_aldT (pc := 25) X dX7_track_25 h_r3 (fun r4 h_r4 => ?_)
      refine aw_astore_n (pc := 26) X [(3, .ref (b + r4)), (0, .ref (b + a0)), (1, .int v1), (2, .int v2)] dX7_track_26 (by decide) rfl ?_
      refine aw_iload_n (pc := 27) X 3 dX7_track_27 rfl ?_
      refine aw_swIn (pc := 28) X (0 : Int32) 72 dX7_track_28 (by decide) (by decide) rfl (by decide) ?_ (fun hn0 => ?_)
      · refine aw_aload_n (pc := 72) X 0 dX7_track_72 rfl ?_
        refine gf_X7_251 (pc := 73) X dX7_track_73 h_r4 ?_
        exact aw_iret (pc := 76) X hr dX7_track_76 (Nat.le_of_ble_eq_true rfl) (Nat.le_of_ble_eq_true rfl)
      refine aw_swIn (pc := 28) X (1 : Int32) 77 dX7_track_28 (by decide) (by decide) rfl (by decide) ?_ (fun hn1 => ?_)
      · refine aw_aload_n (pc := 77) X 0 dX7_track_77 rfl ?_
        refine gf_X7_254 (pc := 78) X dX7_track_78 h_r4 ?_
        exact aw_iret (pc := 81) X hr dX7_track_81 (Nat.le_of_ble_eq_true rfl) (Nat.le_of_ble_eq_true rfl)
      refine aw_swIn (pc := 28) X (2 : Int32) 82 dX7_track_28 (by decide) (by decide) rfl (by decide) ?_ (fun hn2 => ?_)
      · refine aw_aload_n (pc := 82) X 0 dX7_track_82 rfl ?_
        refine gf_X7_257 (pc := 83) X dX7_track_83 h_r4 ?_
        exact aw_iret (pc := 86) X hr dX7_track_86 (Nat.le_of_ble_eq_true rfl) (Nat.le_of_ble_eq_true rfl)
      refine aw_swIn (pc := 28) X (3 : Int32) 87 dX7_track_28 (by decide) (by decide) rfl (by decide) ?_ (fun hn3 => ?_)
      · refine aw_aload_n (pc := 87) X 0 dX7_track_87 rfl ?_
        refine gf_X7_260 (pc := 88) X dX7_track_88 h_r4 ?_
        exact aw_iret (pc := 91) X hr dX7_track_91 (Nat.le_of_ble_eq_true rfl) (Nat.le_of_ble_eq_true rfl)
      refine aw_swIn (pc := 28) X (4 : Int32) 92 dX7_track_28 (by decide) (by decide) rfl (by decide) ?_ (fun hn4 => ?_)
      · refine aw_aload_n (pc := 92) X 0 dX7_track_92 rfl ?_
        refine gf_X7_263 (pc := 93) X dX7_track_93 h_r4 ?_
        exact aw_iret (pc := 96) X hr dX7_track_96 (Nat.le_of_ble_eq_true rfl) (Nat.le_of_ble_eq_true rfl)
      refine aw_swIn (pc := 28) X (5 : Int32) 97 dX7_track_28 (by decide) (by decide) rfl (by decide) ?_ (fun hn5 => ?_)
      · refine aw_aload_n (pc := 97) X 0 dX7_track_97 rfl ?_
        refine gf_X7_266 (pc := 98) X dX7_track_98 h_r4 ?_
        exact aw_iret (pc := 101) X hr dX7_track_101 (Nat.le_of_ble_eq_true rfl) (Nat.le_of_ble_eq_true rfl)
      refine aw_swIn (pc := 28) X (6 : Int32) 102 dX7_track_28 (by decide) (by decide) rfl (by decide) ?_ (fun hn6 => ?_)
      · refine aw_aload_n (pc := 102) X 0 dX7_track_102 rfl ?_
        refine gf_X7_269 (pc := 103) X dX7_track_103 h_r4 ?_
        exact aw_iret (pc := 106) X hr dX7_track_106 (Nat.le_of_ble_eq_true rfl) (Nat.le_of_ble_eq_true rfl)
      refine aw_swOut (pc := 28) X 107 dX7_track_28 (by have e0 := sw_ne (z := 0) hn0 rfl; have e1 := sw_ne (z := 1) hn1 rfl; have e2 := sw_ne (z := 2) hn2 rfl; have e3 := sw_ne (z := 3) hn3 rfl; have e4 := sw_ne (z := 4) hn4 rfl; have e5 := sw_ne (z := 5) hn5 rfl; have e6 := sw_ne (z := 6) hn6 rfl; omega) (by decide) ?_
      refine aw_iconst (pc := 107) X (-1 : Int32) dX7_track_107 (by decide) ?_
      exact aw_iret (pc := 108) X hr dX7_track_108 (Nat.le_of_ble_eq_true rfl) (Nat.le_of_ble_eq_true rfl)
    · refine aw_iconst (pc := 15) X (-1 : Int32) dX7_track_15 (by decide) ?_
      exact aw_iret (pc := 16) X hr dX7_track_16 (Nat.le_of_ble_eq_true rfl) (Nat.le_of_ble_eq_true rfl))
/-! ReportBlocksModel.track -/
def rm_X8_track : Room := { frames := 1, cells := 0, slots := 0, locals := 22 }
theorem hd_X8_track : jHd yX8_track 2 := by unfold jHd; decide +kernel
def f_X8_track (a0 : Nat) (v1 : Int32) (v2 : Int32) (M : JM) : Option (Int32 × JM) := ob (f_X8_in v1 (0 : Int32) ((gi M a0 28) - (1 : Int32)) M) fun r3 M1 => if r3 = true then (if v2 = (0 : Int32) then (orf (gr M1 a0 29) fun r4 => if 0 ≤ v1 ∧ v1 < ln r4 then (some ((gi M1 r4 v1), M1)) else none) else (if v2 = (1 : Int32) then (orf (gr M1 a0 30) fun r5 => if 0 ≤ v1 ∧ v1 < ln r5 then (some ((gi M1 r5 v1), M1)) else none) else (if v2 = (2 : Int32) then (orf (gr M1 a0 31) fun r6 => if 0 ≤ v1 ∧ v1 < ln r6 then (some ((gi M1 r6 v1), M1)) else none) else (if v2 = (3 : Int32) then (orf (gr M1 a0 32) fun r7 => if 0 ≤ v1 ∧ v1 < ln r7 then (some ((gi M1 r7 v1), M1)) else none) else (if v2 = (4 : Int32) then (orf (gr M1 a0 33) fun r8 => if 0 ≤ v1 ∧ v1 < ln r8 then (some ((gi M1 r8 v1), M1)) else none) else (if v2 = (5 : Int32) then (orf (gr M1 a0 34) fun r9 => if 0 ≤ v1 ∧ v1 < ln r9 then (some ((gi M1 r9 v1), M1)) else none) else (if v2 = (6 : Int32) then (orf (gr M1 a0 35) fun r10 => if 0 ≤ v1 ∧ v1 < ln r10 then (some ((gi M1 r10 v1), M1)) else none) else (some ((-1 : Int32), M1))))))))) else (some ((-1 : Int32), M1))
set_option maxRecDepth 10000 in
set_option maxHeartbeats 4000000 in
theorem t_X8_track {l : Launch} {D : va_G} {cs : JC} {b : Nat} (a0 : Nat) (v1 : Int32) (v2 : Int32) (M : JM) (h_a0 : oty M a0 18) : ∀ q, f_X8_track a0 v1 v2 M = some q → CTy l yX8_track (.code yX8_track cX8_track 3 (Option.some Jvm.ClassFile.FieldType.int) :: GB) rm_X8_track D cs b evI [.ref (b + a0), .int v1, .int v2] M rm_X8_track.cells rm_X8_track.slots q := fun q hq => ct_of [(0, .ref (b + a0)), (1, .int v1), (2, .int v2)] rfl rfl (Nat.le_of_ble_eq_true rfl) hq (fun p e s m args below meth c X hr hin => by
  refine aw_callq (F' := ob (f_X8_in v1 (0 : Int32) ((gi M a0 28) - (1 : Int32)) M) fun r3 M1 => if r3 = true then (if v2 = (0 : Int32) then (orf (gr M1 a0 29) fun r4 => if 0 ≤ v1 ∧ v1 < ln r4 then (some ((gi M1 r4 v1), M1)) else none) else (if v2 = (1 : Int32) then (orf (gr M1 a0 30) fun r5 => if 0 ≤ v1 ∧ v1 < ln r5 then (some ((gi M1 r5 v1), M1)) else none) else (if v2 = (2 : Int32) then (orf (gr M1 a0 31) fun r6 => if 0 ≤ v1 ∧ v1 < ln r6 then (some ((gi M1 r6 v1), M1)) else none) else (if v2 = (3 : Int32) then (orf (gr M1 a0 32) fun r7 => if 0 ≤ v1 ∧ v1 < ln r7 then (some ((gi M1 r7 v1), M1)) else none) else (if v2 = (4 : Int32) then (orf (gr M1 a0 33) fun r8 => if 0 ≤ v1 ∧ v1 < ln r8 then (some ((gi M1 r8 v1), M1)) else none) else (if v2 = (5 : Int32) then (orf (gr M1 a0 34) fun r9 => if 0 ≤ v1 ∧ v1 < ln r9 then (some ((gi M1 r9 v1), M1)) else none) else (if v2 = (6 : Int32) then (orf (gr M1 a0 35) fun r10 => if 0 ≤ v1 ∧ v1 < ln r10 then (some ((gi M1 r10 v1), M1)) else none) else (some ((-1 : Int32), M1))))))))) else (some ((-1 : Int32), M1))) rfl ?_
  refine aw_iload_n (pc := 0) X 1 dX8_track_0 rfl ?_
  refine aw_iconst (pc := 1) X (0 : Int32) dX8_track_1 (by decide) ?_
  refine aw_aload_n (pc := 2) X 0 dX8_track_2 rfl ?_
  refine gf_X8_216 (pc := 3) X dX8_track_3 h_a0 ?_
  refine aw_iconst (pc := 6) X (1 : Int32) dX8_track_6 (by decide) ?_
  refine aw_isub (pc := 7) X dX8_track_7 ?_
  refine cl_X8_105 (pc := 8) X ⟨Nat.le_of_ble_eq_true rfl, Nat.le_of_ble_eq_true rfl⟩ (Nat.le_of_ble_eq_true rfl) (ks2 := 0) (sl2 := 0) rfl rfl ⟨(Nat.le_of_ble_eq_true rfl), (Nat.le_of_ble_eq_true rfl)⟩ dX8_track_8  (fun r3 M1 g2 => ?_)
  have h_a0 := h_a0.mono g2
  refine aw_ifneB (pc := 11) X 16 dX8_track_11 (by decide) ?_ ?_
  · refine aw_iload_n (pc := 16) X 2 dX8_track_16 rfl ?_
    refine aw_swIn (pc := 17) X (0 : Int32) 60 dX8_track_17 (by decide) (by decide) rfl (by decide) ?_ (fun hn0 => ?_)
    · refine aw_aload_n (pc := 60) X 0 dX8_track_60 rfl ?_
      refine gf_X8_66 (pc := 61) X dX8_track_61 h_a0 (fun r4 h_r4 => ?_)
      refine aw_iload_n (pc := 64) X 1 dX8_track_64 rfl ?_
      refine aw_iald (pc := 65) X dX8_track_65 h_r4 ?_
      exact aw_iret (pc := 66) X hr dX8_track_66 (Nat.le_of_ble_eq_true rfl) (Nat.le_of_ble_eq_true rfl)
    refine aw_swIn (pc := 17) X (1 : Int32) 67 dX8_track_17 (by decide) (by decide) rfl (by decide) ?_ (fun hn1 => ?_)
    · refine aw_aload_n (pc := 67) X 0 dX8_track_67 rfl ?_
      refine gf_X8_69 (pc := 68) X dX8_track_68 h_a0 (fun r5 h_r5 => ?_)
      refine aw_iload_n (pc := 71) X 1 dX8_track_71 rfl ?_
      refine aw_iald (pc := 72) X dX8_track_72 h_r5 ?_
      exact aw_iret (pc := 73) X hr dX8_track_73 (Nat.le_of_ble_eq_true rfl) (Nat.le_of_ble_eq_true rfl)
    refine aw_swIn (pc := 17) X (2 : Int32) 74 dX8_track_17 (by decide) (by decide) rfl (by decide) ?_ (fun hn2 => ?_)
    · refine aw_aload_n (pc := 74) X 0 dX8_track_74 rfl ?_
      refine gf_X8_72 (pc := 75) X dX8_track_75 h_a0 (fun r6 h_r6 => ?_)
      refine aw_iload_n (pc := 78) X 1 dX8_track_78 rfl ?_
      refine aw_iald (pc := 79) X dX8_track_79 h_r6 ?_
      exact aw_iret (pc := 80) X hr dX8_track_80 (Nat.le_of_ble_eq_true rfl) (Nat.le_of_ble_eq_true rfl)
    refine aw_swIn (pc := 17) X (3 : Int32) 81 dX8_track_17 (by decide) (by decide) rfl (by decide) ?_ (fun hn3 => ?_)
    · refine aw_aload_n (pc := 81) X 0 dX8_track_81 rfl ?_
      refine gf_X8_75 (pc := 82) X dX8_track_82 h_a0 (fun r7 h_r7 => ?_)
      refine aw_iload_n (pc := 85) X 1 dX8_track_85 rfl ?_
      refine aw_iald (pc := 86) X dX8_track_86 h_r7 ?_
      exact aw_iret (pc := 87) X hr dX8_track_87 (Nat.le_of_ble_eq_true rfl) (Nat.le_of_ble_eq_true rfl)
    refine aw_swIn (pc := 17) X (4 : Int32) 88 dX8_track_17 (by decide) (by decide) rfl (by decide) ?_ (fun hn4 => ?_)
    · refine aw_aload_n (pc := 88) X 0 dX8_track_88 rfl ?_
      refine gf_X8_78 (pc := 89) X dX8_track_89 h_a0 (fun r8 h_r8 => ?_)
      refine aw_iload_n (pc := 92) X 1 dX8_track_92 rfl ?_
      refine aw_iald (pc := 93) X dX8_track_93 h_r8 ?_
      exact aw_iret (pc := 94) X hr dX8_track_94 (Nat.le_of_ble_eq_true rfl) (Nat.le_of_ble_eq_true rfl)
    refine aw_swIn (pc := 17) X (5 : Int32) 95 dX8_track_17 (by decide) (by decide) rfl (by decide) ?_ (fun hn5 => ?_)
    · refine aw_aload_n (pc := 95) X 0 dX8_track_95 rfl ?_
      refine gf_X8_81 (pc := 96) X dX8_track_96 h_a0 (fun r9 h_r9 => ?_)
      refine aw_iload_n (pc := 99) X 1 dX8_track_99 rfl ?_
      refine aw_iald (pc := 100) X dX8_track_100 h_r9 ?_
      exact aw_iret (pc := 101) X hr dX8_track_101 (Nat.le_of_ble_eq_true rfl) (Nat.le_of_ble_eq_true rfl)
    refine aw_swIn (pc := 17) X (6 : Int32) 102 dX8_track_17 (by decide) (by decide) rfl (by decide) ?_ (fun hn6 => ?_)
    · refine aw_aload_n (pc := 102) X 0 dX8_track_102 rfl ?_
      refine gf_X8_84 (pc := 103) X dX8_track_103 h_a0 (fun r10 h_r10 => ?_)
      refine aw_iload_n (pc := 106) X 1 dX8_track_106 rfl ?_
      refine aw_iald (pc := 107) X dX8_track_107 h_r10 ?_
      exact aw_iret (pc := 108) X hr dX8_track_108 (Nat.le_of_ble_eq_true rfl) (Nat.le_of_ble_eq_true rfl)
    refine aw_swOut (pc := 17) X 109 dX8_track_17 (by have e0 := sw_ne (z := 0) hn0 rfl; have e1 := sw_ne (z := 1) hn1 rfl; have e2 := sw_ne (z := 2) hn2 rfl; have e3 := sw_ne (z := 3) hn3 rfl; have e4 := sw_ne (z := 4) hn4 rfl; have e5 := sw_ne (z := 5) hn5 rfl; have e6 := sw_ne (z := 6) hn6 rfl; omega) (by decide) ?_
    refine aw_iconst (pc := 109) X (-1 : Int32) dX8_track_109 (by decide) ?_
    exact aw_iret (pc := 110) X hr dX8_track_110 (Nat.le_of_ble_eq_true rfl) (Nat.le_of_ble_eq_true rfl)
  · refine aw_iconst (pc := 14) X (-1 : Int32) dX8_track_14 (by decide) ?_
    exact aw_iret (pc := 15) X hr dX8_track_15 (Nat.le_of_ble_eq_true rfl) (Nat.le_of_ble_eq_true rfl))
/-! ReportBlocks.count -/
def rm_X7_count : Room := { frames := 0, cells := 0, slots := 0, locals := 0 }
theorem hd_X7_count : jHd yX7_count 1 := by unfold jHd; decide +kernel
theorem gf_X7_272 {ρ : Type} {l : Launch} {p : Program} {e : Env} {R : Room} {s : State} {m : MethodId} {args : Array Value} {below : List Frame} {meth : Method} {c : Code} {D : va_G} {cs : JC} {b nL : Nat} {H0 : Heap} {Qf : ρ × JM → State → Prop} {M : JM} {ks sl : Nat} {lv : List (Nat × Value)} {pc : Nat} {st : List Value} {cc : ByteArray} {k : Nat} (X : jX p c cc nL s m args RX7 D cs b meth H0) {F : Option (ρ × JM)} (hdg : decode cc pc = .ok (.getfield 272, 3)) (ho : oty M k 16) (kk : AWO p l e R s m args below meth c D cs b nL H0 Qf F M ks sl lv (pc + 3) (.int (gi M k 2) :: st)) : AWO p l e R s m args below meth c D cs b nL H0 Qf F M ks sl lv pc (.ref (b + k) :: st) := aw_getI (ci := 6) X 2 rfl gy_X6 (by decide) rfl rfl wf_X7_272 hdg ho kk
theorem gf_X7_275 {ρ : Type} {l : Launch} {p : Program} {e : Env} {R : Room} {s : State} {m : MethodId} {args : Array Value} {below : List Frame} {meth : Method} {c : Code} {D : va_G} {cs : JC} {b nL : Nat} {H0 : Heap} {Qf : ρ × JM → State → Prop} {M : JM} {ks sl : Nat} {lv : List (Nat × Value)} {pc : Nat} {st : List Value} {cc : ByteArray} {k : Nat} (X : jX p c cc nL s m args RX7 D cs b meth H0) {F : Option (ρ × JM)} (hdg : decode cc pc = .ok (.getfield 275, 3)) (ho : oty M k 16) (kk : AWO p l e R s m args below meth c D cs b nL H0 Qf F M ks sl lv (pc + 3) (.int (gi M k 4) :: st)) : AWO p l e R s m args below meth c D cs b nL H0 Qf F M ks sl lv pc (.ref (b + k) :: st) := aw_getI (ci := 6) X 4 rfl gy_X6 (by decide) rfl rfl wf_X7_275 hdg ho kk
def f_X7_count (a0 : Nat) (v1 : Int32) (M : JM) : Option (Int32 × JM) := if v1 = (0 : Int32) then (some ((gi M a0 1), M)) else (if v1 = (1 : Int32) then (orf (gr M a0 7) fun r1 => some ((gi M r1 1), M)) else (if v1 = (2 : Int32) then (orf (gr M a0 7) fun r2 => some ((gi M r2 2), M)) else (if v1 = (3 : Int32) then (orf (gr M a0 7) fun r3 => some ((gi M r3 3), M)) else (if v1 = (4 : Int32) then (orf (gr M a0 7) fun r4 => some ((gi M r4 4), M)) else (if v1 = (5 : Int32) then (orf (gr M a0 2) fun r5 => some ((gi M r5 1), M)) else (if v1 = (6 : Int32) then (some ((gi M a0 9), M)) else (some ((-1 : Int32), M))))))))
set_option maxRecDepth 10000 in
set_option maxHeartbeats 4000000 in
theorem t_X7_count {l : Launch} {D : va_G} {cs : JC} {b : Nat} (a0 : Nat) (v1 : Int32) (M : JM) (h_a0 : oty M a0 17) : ∀ q, f_X7_count a0 v1 M = some q → CTy l yX7_count (.code yX7_count cX7_count 2 (Option.some Jvm.ClassFile.FieldType.int) :: GB) rm_X7_count D cs b evI [.ref (b + a0), .int v1] M rm_X7_count.cells rm_X7_count.slots q := fun q hq => ct_of [(0, .ref (b + a0)), (1, .int v1)] rfl rfl (Nat.le_of_ble_eq_true rfl) hq (fun p e s m args below meth c X hr hin => by
  refine aw_callq (F' := if v1 = (0 : Int32) then (some ((gi M a0 1), M)) else (if v1 = (1 : Int32) then (orf (gr M a0 7) fun r1 => some ((gi M r1 1), M)) else (if v1 = (2 : Int32) then (orf (gr M a0 7) fun r2 => some ((gi M r2 2), M)) else (if v1 = (3 : Int32) then (orf (gr M a0 7) fun r3 => some ((gi M r3 3), M)) else (if v1 = (4 : Int32) then (orf (gr M a0 7) fun r4 => some ((gi M r4 4), M)) else (if v1 = (5 : Int32) then (orf (gr M a0 2) fun r5 => some ((gi M r5 1), M)) else (if v1 = (6 : Int32) then (some ((gi M a0 9), M)) else (some ((-1 : Int32), M))))))))) rfl ?_
  refine aw_iload_n (pc := 0) X 1 dX7_count_0 rfl ?_
  refine aw_swIn (pc := 1) X (0 : Int32) 44 dX7_count_1 (by decide) (by decide) rfl (by decide) ?_ (fun hn0 => ?_)
  · refine aw_aload_n (pc := 44) X 0 dX7_count_44 rfl ?_
    refine gf_X7_59 (pc := 45) X dX7_count_45 h_a0 ?_
    exact aw_iret (pc := 48) X hr dX7_count_48 (Nat.le_of_ble_eq_true rfl) (Nat.le_of_ble_eq_true rfl)
  refine aw_swIn (pc := 1) X (1 : Int32) 49 dX7_count_1 (by decide) (by decide) rfl (by decide) ?_ (fun hn1 => ?_)
  · refine aw_aload_n (pc := 49) X 0 dX7_count_49 rfl ?_
    refine gf_X7_51 (pc := 50) X dX7_count_50 h_a0 (fun r1 h_r1 => ?_)
    refine gf_X7_246 (pc := 53) X dX7_count_53 h_r1 ?_
    exact aw_iret (pc := 56) X hr dX7_count_56 (Nat.le_of_ble_eq_true rfl) (Nat.le_of_ble_eq_true rfl)
  refine aw_swIn (pc := 1) X (2 : Int32) 57 dX7_count_1 (by decide) (by decide) rfl (by decide) ?_ (fun hn2 => ?_)
  · refine aw_aload_n (pc := 57) X 0 dX7_count_57 rfl ?_
    refine gf_X7_51 (pc := 58) X dX7_count_58 h_a0 (fun r2 h_r2 => ?_)
    refine gf_X7_272 (pc := 61) X dX7_count_61 h_r2 ?_
    exact aw_iret (pc := 64) X hr dX7_count_64 (Nat.le_of_ble_eq_true rfl) (Nat.le_of_ble_eq_true rfl)
  refine aw_swIn (pc := 1) X (3 : Int32) 65 dX7_count_1 (by decide) (by decide) rfl (by decide) ?_ (fun hn3 => ?_)
  · refine aw_aload_n (pc := 65) X 0 dX7_count_65 rfl ?_
    refine gf_X7_51 (pc := 66) X dX7_count_66 h_a0 (fun r3 h_r3 => ?_)
    refine gf_X7_240 (pc := 69) X dX7_count_69 h_r3 ?_
    exact aw_iret (pc := 72) X hr dX7_count_72 (Nat.le_of_ble_eq_true rfl) (Nat.le_of_ble_eq_true rfl)
  refine aw_swIn (pc := 1) X (4 : Int32) 73 dX7_count_1 (by decide) (by decide) rfl (by decide) ?_ (fun hn4 => ?_)
  · refine aw_aload_n (pc := 73) X 0 dX7_count_73 rfl ?_
    refine gf_X7_51 (pc := 74) X dX7_count_74 h_a0 (fun r4 h_r4 => ?_)
    refine gf_X7_275 (pc := 77) X dX7_count_77 h_r4 ?_
    exact aw_iret (pc := 80) X hr dX7_count_80 (Nat.le_of_ble_eq_true rfl) (Nat.le_of_ble_eq_true rfl)
  refine aw_swIn (pc := 1) X (5 : Int32) 81 dX7_count_1 (by decide) (by decide) rfl (by decide) ?_ (fun hn5 => ?_)
  · refine aw_aload_n (pc := 81) X 0 dX7_count_81 rfl ?_
    refine gf_X7_18 (pc := 82) X dX7_count_82 h_a0 (fun r5 h_r5 => ?_)
    refine gf_X7_114 (pc := 85) X dX7_count_85 h_r5 ?_
    exact aw_iret (pc := 88) X hr dX7_count_88 (Nat.le_of_ble_eq_true rfl) (Nat.le_of_ble_eq_true rfl)
  refine aw_swIn (pc := 1) X (6 : Int32) 89 dX7_count_1 (by decide) (by decide) rfl (by decide) ?_ (fun hn6 => ?_)
  · refine aw_aload_n (pc := 89) X 0 dX7_count_89 rfl ?_
    refine gf_X7_148 (pc := 90) X dX7_count_90 h_a0 ?_
    exact aw_iret (pc := 93) X hr dX7_count_93 (Nat.le_of_ble_eq_true rfl) (Nat.le_of_ble_eq_true rfl)
  refine aw_swOut (pc := 1) X 94 dX7_count_1 (by have e0 := sw_ne (z := 0) hn0 rfl; have e1 := sw_ne (z := 1) hn1 rfl; have e2 := sw_ne (z := 2) hn2 rfl; have e3 := sw_ne (z := 3) hn3 rfl; have e4 := sw_ne (z := 4) hn4 rfl; have e5 := sw_ne (z := 5) hn5 rfl; have e6 := sw_ne (z := 6) hn6 rfl; omega) (by decide) ?_
  refine aw_iconst (pc := 94) X (-1 : Int32) dX7_count_94 (by decide) ?_
  exact aw_iret (pc := 95) X hr dX7_count_95 (Nat.le_of_ble_eq_true rfl) (Nat.le_of_ble_eq_true rfl))
/-! ReportBlocksModel.count -/
def rm_X8_count : Room := { frames := 0, cells := 0, slots := 0, locals := 0 }
theorem hd_X8_count : jHd yX8_count 1 := by unfold jHd; decide +kernel
def f_X8_count (a0 : Nat) (v1 : Int32) (M : JM) : Option (Int32 × JM) := if v1 = (0 : Int32) then (some ((gi M a0 0), M)) else (if v1 = (1 : Int32) then (some ((gi M a0 28), M)) else (if v1 = (2 : Int32) then (some ((gi M a0 39), M)) else (if v1 = (3 : Int32) then (some ((gi M a0 40), M)) else (if v1 = (4 : Int32) then (some ((gi M a0 41), M)) else (if v1 = (5 : Int32) then (some ((gi M a0 8), M)) else (if v1 = (6 : Int32) then (some ((gi M a0 42), M)) else (some ((-1 : Int32), M))))))))
set_option maxRecDepth 10000 in
set_option maxHeartbeats 4000000 in
theorem t_X8_count {l : Launch} {D : va_G} {cs : JC} {b : Nat} (a0 : Nat) (v1 : Int32) (M : JM) (h_a0 : oty M a0 18) : ∀ q, f_X8_count a0 v1 M = some q → CTy l yX8_count (.code yX8_count cX8_count 2 (Option.some Jvm.ClassFile.FieldType.int) :: GB) rm_X8_count D cs b evI [.ref (b + a0), .int v1] M rm_X8_count.cells rm_X8_count.slots q := fun q hq => ct_of [(0, .ref (b + a0)), (1, .int v1)] rfl rfl (Nat.le_of_ble_eq_true rfl) hq (fun p e s m args below meth c X hr hin => by
  refine aw_callq (F' := if v1 = (0 : Int32) then (some ((gi M a0 0), M)) else (if v1 = (1 : Int32) then (some ((gi M a0 28), M)) else (if v1 = (2 : Int32) then (some ((gi M a0 39), M)) else (if v1 = (3 : Int32) then (some ((gi M a0 40), M)) else (if v1 = (4 : Int32) then (some ((gi M a0 41), M)) else (if v1 = (5 : Int32) then (some ((gi M a0 8), M)) else (if v1 = (6 : Int32) then (some ((gi M a0 42), M)) else (some ((-1 : Int32), M))))))))) rfl ?_
  refine aw_iload_n (pc := 0) X 1 dX8_count_0 rfl ?_
  refine aw_swIn (pc := 1) X (0 : Int32) 44 dX8_count_1 (by decide) (by decide) rfl (by decide) ?_ (fun hn0 => ?_)
  · refine aw_aload_n (pc := 44) X 0 dX8_count_44 rfl ?_
    refine gf_X8_102 (pc := 45) X dX8_count_45 h_a0 ?_
    exact aw_iret (pc := 48) X hr dX8_count_48 (Nat.le_of_ble_eq_true rfl) (Nat.le_of_ble_eq_true rfl)
  refine aw_swIn (pc := 1) X (1 : Int32) 49 dX8_count_1 (by decide) (by decide) rfl (by decide) ?_ (fun hn1 => ?_)
  · refine aw_aload_n (pc := 49) X 0 dX8_count_49 rfl ?_
    refine gf_X8_216 (pc := 50) X dX8_count_50 h_a0 ?_
    exact aw_iret (pc := 53) X hr dX8_count_53 (Nat.le_of_ble_eq_true rfl) (Nat.le_of_ble_eq_true rfl)
  refine aw_swIn (pc := 1) X (2 : Int32) 54 dX8_count_1 (by decide) (by decide) rfl (by decide) ?_ (fun hn2 => ?_)
  · refine aw_aload_n (pc := 54) X 0 dX8_count_54 rfl ?_
    refine gf_X8_226 (pc := 55) X dX8_count_55 h_a0 ?_
    exact aw_iret (pc := 58) X hr dX8_count_58 (Nat.le_of_ble_eq_true rfl) (Nat.le_of_ble_eq_true rfl)
  refine aw_swIn (pc := 1) X (3 : Int32) 59 dX8_count_1 (by decide) (by decide) rfl (by decide) ?_ (fun hn3 => ?_)
  · refine aw_aload_n (pc := 59) X 0 dX8_count_59 rfl ?_
    refine gf_X8_235 (pc := 60) X dX8_count_60 h_a0 ?_
    exact aw_iret (pc := 63) X hr dX8_count_63 (Nat.le_of_ble_eq_true rfl) (Nat.le_of_ble_eq_true rfl)
  refine aw_swIn (pc := 1) X (4 : Int32) 64 dX8_count_1 (by decide) (by decide) rfl (by decide) ?_ (fun hn4 => ?_)
  · refine aw_aload_n (pc := 64) X 0 dX8_count_64 rfl ?_
    refine gf_X8_229 (pc := 65) X dX8_count_65 h_a0 ?_
    exact aw_iret (pc := 68) X hr dX8_count_68 (Nat.le_of_ble_eq_true rfl) (Nat.le_of_ble_eq_true rfl)
  refine aw_swIn (pc := 1) X (5 : Int32) 69 dX8_count_1 (by decide) (by decide) rfl (by decide) ?_ (fun hn5 => ?_)
  · refine aw_aload_n (pc := 69) X 0 dX8_count_69 rfl ?_
    refine gf_X8_133 (pc := 70) X dX8_count_70 h_a0 ?_
    exact aw_iret (pc := 73) X hr dX8_count_73 (Nat.le_of_ble_eq_true rfl) (Nat.le_of_ble_eq_true rfl)
  refine aw_swIn (pc := 1) X (6 : Int32) 74 dX8_count_1 (by decide) (by decide) rfl (by decide) ?_ (fun hn6 => ?_)
  · refine aw_aload_n (pc := 74) X 0 dX8_count_74 rfl ?_
    refine gf_X8_193 (pc := 75) X dX8_count_75 h_a0 ?_
    exact aw_iret (pc := 78) X hr dX8_count_78 (Nat.le_of_ble_eq_true rfl) (Nat.le_of_ble_eq_true rfl)
  refine aw_swOut (pc := 1) X 79 dX8_count_1 (by have e0 := sw_ne (z := 0) hn0 rfl; have e1 := sw_ne (z := 1) hn1 rfl; have e2 := sw_ne (z := 2) hn2 rfl; have e3 := sw_ne (z := 3) hn3 rfl; have e4 := sw_ne (z := 4) hn4 rfl; have e5 := sw_ne (z := 5) hn5 rfl; have e6 := sw_ne (z := 6) hn6 rfl; omega) (by decide) ?_
  refine aw_iconst (pc := 79) X (-1 : Int32) dX8_count_79 (by decide) ?_
  exact aw_iret (pc := 80) X hr dX8_count_80 (Nat.le_of_ble_eq_true rfl) (Nat.le_of_ble_eq_true rfl))
