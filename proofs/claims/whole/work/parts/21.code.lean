/-! programs of the methods, and the rows that their bytecode answers so: written by wip/gen/gen.py out of the printed decode rows -/
/-! ReportBlocksModel.becomes -/
def rm_X8_becomes : Room := { frames := 0, cells := 0, slots := 0, locals := 0 }
theorem hd_X8_becomes : jHd yX8_becomes 4 := by unfold jHd; decide +kernel
theorem gf_X8_13 {ρ : Type} {l : Launch} {p : Program} {e : Env} {R : Room} {s : State} {m : MethodId} {args : Array Value} {below : List Frame} {meth : Method} {c : Code} {D : va_G} {cs : JC} {b nL : Nat} {H0 : Heap} {Qf : ρ × JM → State → Prop} {M : JM} {ks sl : Nat} {lv : List (Nat × Value)} {pc : Nat} {st : List Value} {cc : ByteArray} {k : Nat} (X : jX p c cc nL s m args RX8 D cs b meth H0) {K : Nat → Option (ρ × JM)} (hdg : decode cc pc = .ok (.getfield 13, 3)) (ho : oty M k 18) (kk : ∀ r : Nat, oty M r 1 → AWO p l e R s m args below meth c D cs b nL H0 Qf (K r) M ks sl lv (pc + 3) (.ref (b + r) :: st)) : AWO p l e R s m args below meth c D cs b nL H0 Qf (orf (gr M k 2) K) M ks sl lv pc (.ref (b + k) :: st) := aw_getR (ci := 8) (τ := 1) X 2 rfl gy_X8 (by decide) (by decide) rfl rfl (by decide) wf_X8_13 hdg ho kk
theorem gf_X8_16 {ρ : Type} {l : Launch} {p : Program} {e : Env} {R : Room} {s : State} {m : MethodId} {args : Array Value} {below : List Frame} {meth : Method} {c : Code} {D : va_G} {cs : JC} {b nL : Nat} {H0 : Heap} {Qf : ρ × JM → State → Prop} {M : JM} {ks sl : Nat} {lv : List (Nat × Value)} {pc : Nat} {st : List Value} {cc : ByteArray} {k : Nat} (X : jX p c cc nL s m args RX8 D cs b meth H0) {K : Nat → Option (ρ × JM)} (hdg : decode cc pc = .ok (.getfield 16, 3)) (ho : oty M k 18) (kk : ∀ r : Nat, oty M r 1 → AWO p l e R s m args below meth c D cs b nL H0 Qf (K r) M ks sl lv (pc + 3) (.ref (b + r) :: st)) : AWO p l e R s m args below meth c D cs b nL H0 Qf (orf (gr M k 3) K) M ks sl lv pc (.ref (b + k) :: st) := aw_getR (ci := 8) (τ := 1) X 3 rfl gy_X8 (by decide) (by decide) rfl rfl (by decide) wf_X8_16 hdg ho kk
theorem gf_X8_19 {ρ : Type} {l : Launch} {p : Program} {e : Env} {R : Room} {s : State} {m : MethodId} {args : Array Value} {below : List Frame} {meth : Method} {c : Code} {D : va_G} {cs : JC} {b nL : Nat} {H0 : Heap} {Qf : ρ × JM → State → Prop} {M : JM} {ks sl : Nat} {lv : List (Nat × Value)} {pc : Nat} {st : List Value} {cc : ByteArray} {k : Nat} (X : jX p c cc nL s m args RX8 D cs b meth H0) {K : Nat → Option (ρ × JM)} (hdg : decode cc pc = .ok (.getfield 19, 3)) (ho : oty M k 18) (kk : ∀ r : Nat, oty M r 1 → AWO p l e R s m args below meth c D cs b nL H0 Qf (K r) M ks sl lv (pc + 3) (.ref (b + r) :: st)) : AWO p l e R s m args below meth c D cs b nL H0 Qf (orf (gr M k 4) K) M ks sl lv pc (.ref (b + k) :: st) := aw_getR (ci := 8) (τ := 1) X 4 rfl gy_X8 (by decide) (by decide) rfl rfl (by decide) wf_X8_19 hdg ho kk
def f_X8_becomes_L28 : Nat → Nat → Int32 → Int32 → Int32 → JM → Option (Unit × JM)
  | 0, _, _, _, _, _ => none
  | n + 1, a0, v1, v2, v5, M => if v5 < (14 : Int32) then (orf (gr M a0 4) fun r8 => if 0 ≤ (((14 : Int32) * (((22 : Int32) * v1) + v2)) + v5) ∧ (((14 : Int32) * (((22 : Int32) * v1) + v2)) + v5) < ln r8 then (sq (si M r8 (((14 : Int32) * (((22 : Int32) * v1) + v2)) + v5) (0 : Int32)) fun M9 => sv (v5 + (1 : Int32)) fun i11 => (f_X8_becomes_L28 n) a0 v1 v2 i11 M9) else none) else (some ((), M))
set_option maxRecDepth 10000 in
set_option maxHeartbeats 4000000 in
theorem t_X8_becomes_L28 {p : Program} {l : Launch} {e : Env} {s : State} {m : MethodId} {args : Array Value} {below : List Frame} {meth : Method} {c : Code} {D : va_G} {cs : JC} {b : Nat} (X : jX p c cX8_becomes 6 s m args RX8 D cs b meth s.heap) (hr : meth.sig.returnType = Option.none) : ∀ (n : Nat) (a0 : Nat) (v1 : Int32) (v2 : Int32) (v5 : Int32) (M : JM), oty M a0 18 → AWO p l e rm_X8_becomes s m args below meth c D cs b 6 s.heap (jE below D cs b evV args s rm_X8_becomes.cells rm_X8_becomes.slots) (f_X8_becomes_L28 n a0 v1 v2 v5 M) M 0 0 [(0, .ref (b + a0)), (1, .int v1), (2, .int v2), (5, .int v5)] 28 [] := by
  intro n
  induction n with
  | zero => intro a0 v1 v2 v5 M h_a0; exact aw_none
  | succ n ih =>
    intro a0 v1 v2 v5 M h_a0
    refine aw_callq (F' := if v5 < (14 : Int32) then (orf (gr M a0 4) fun r8 => if 0 ≤ (((14 : Int32) * (((22 : Int32) * v1) + v2)) + v5) ∧ (((14 : Int32) * (((22 : Int32) * v1) + v2)) + v5) < ln r8 then (sq (si M r8 (((14 : Int32) * (((22 : Int32) * v1) + v2)) + v5) (0 : Int32)) fun M9 => sv (v5 + (1 : Int32)) fun i11 => (f_X8_becomes_L28 n) a0 v1 v2 i11 M9) else none) else (some ((), M))) rfl ?_
    refine aw_iload (pc := 28) X 3 dX8_becomes_28 rfl ?_
    refine aw_bipush (pc := 30) X (14 : Int32) dX8_becomes_30 (by decide) ?_
    refine aw_icmpge (pc := 32) X 59 dX8_becomes_32 (by decide) ?_ ?_
    · refine aw_aload_n (pc := 35) X 0 dX8_becomes_35 rfl ?_
      refine gf_X8_19 (pc := 36) X dX8_becomes_36 h_a0 (fun r8 h_r8 => ?_)
      refine aw_bipush (pc := 39) X (14 : Int32) dX8_becomes_39 (by decide) ?_
      refine aw_bipush (pc := 41) X (22 : Int32) dX8_becomes_41 (by decide) ?_
      refine aw_iload_n (pc := 43) X 1 dX8_becomes_43 rfl ?_
      refine aw_imul (pc := 44) X dX8_becomes_44 ?_
      refine aw_iload_n (pc := 45) X 2 dX8_becomes_45 rfl ?_
      refine aw_iadd (pc := 46) X dX8_becomes_46 ?_
      refine aw_imul (pc := 47) X dX8_becomes_47 ?_
      refine aw_iload (pc := 48) X 3 dX8_becomes_48 rfl ?_
      refine aw_iadd (pc := 50) X dX8_becomes_50 ?_
      refine aw_iconst (pc := 51) X (0 : Int32) dX8_becomes_51 (by decide) ?_
      refine aw_iastQ (pc := 52) X dX8_becomes_52 h_r8 (fun M9 g10 => ?_)
      have h_a0 := h_a0.mono g10
      refine aw_iincV (pc := 53) X (fun y => [(5, .int y), (0, .ref (b + a0)), (1, .int v1), (2, .int v2)]) 3 (v := (v5 + (1 : Int32))) dX8_becomes_53 rfl rfl (by decide) (fun _ => rfl) (fun i11 => ?_)
      refine aw_goto (pc := 56) X 28 dX8_becomes_56 (by decide) ?_
      refine aw_sub [1, 2, 3, 0] rfl ?_
      exact ih a0 v1 v2 i11 M9 h_a0
    · exact aw_vret (pc := 59) X hr dX8_becomes_59 (Nat.le_of_ble_eq_true rfl) (Nat.le_of_ble_eq_true rfl)
def f_X8_becomes (a0 : Nat) (v1 : Int32) (v2 : Int32) (v3 : Int32) (v4 : Int32) (M : JM) : Option (Unit × JM) := orf (gr M a0 2) fun r1 => if 0 ≤ (((22 : Int32) * v1) + v2) ∧ (((22 : Int32) * v1) + v2) < ln r1 then (sq (si M r1 (((22 : Int32) * v1) + v2) v3) fun M2 => orf (gr M2 a0 3) fun r4 => if 0 ≤ (((22 : Int32) * v1) + v2) ∧ (((22 : Int32) * v1) + v2) < ln r4 then (sq (si M2 r4 (((22 : Int32) * v1) + v2) v4) fun M5 => sv (0 : Int32) fun i7 => f_X8_becomes_L28 FU a0 v1 v2 i7 M5) else none) else none
set_option maxRecDepth 10000 in
set_option maxHeartbeats 4000000 in
theorem t_X8_becomes {l : Launch} {D : va_G} {cs : JC} {b : Nat} (a0 : Nat) (v1 : Int32) (v2 : Int32) (v3 : Int32) (v4 : Int32) (M : JM) (h_a0 : oty M a0 18) : ∀ q, f_X8_becomes a0 v1 v2 v3 v4 M = some q → CTy l yX8_becomes (.code yX8_becomes cX8_becomes 6 (Option.none) :: GB) rm_X8_becomes D cs b evV [.ref (b + a0), .int v1, .int v2, .int v3, .int v4] M rm_X8_becomes.cells rm_X8_becomes.slots q := fun q hq => ct_of [(0, .ref (b + a0)), (1, .int v1), (2, .int v2), (3, .int v3), (4, .int v4)] rfl rfl (Nat.le_of_ble_eq_true rfl) hq (fun p e s m args below meth c X hr hin => by
  refine aw_callq (F' := orf (gr M a0 2) fun r1 => if 0 ≤ (((22 : Int32) * v1) + v2) ∧ (((22 : Int32) * v1) + v2) < ln r1 then (sq (si M r1 (((22 : Int32) * v1) + v2) v3) fun M2 => orf (gr M2 a0 3) fun r4 => if 0 ≤ (((22 : Int32) * v1) + v2) ∧ (((22 : Int32) * v1) + v2) < ln r4 then (sq (si M2 r4 (((22 : Int32) * v1) + v2) v4) fun M5 => sv (0 : Int32) fun i7 => f_X8_becomes_L28 FU a0 v1 v2 i7 M5) else none) else none) rfl ?_
  refine aw_aload_n (pc := 0) X 0 dX8_becomes_0 rfl ?_
  refine gf_X8_13 (pc := 1) X dX8_becomes_1 h_a0 (fun r1 h_r1 => ?_)
  refine aw_bipush (pc := 4) X (22 : Int32) dX8_becomes_4 (by decide) ?_
  refine aw_iload_n (pc := 6) X 1 dX8_becomes_6 rfl ?_
  refine aw_imul (pc := 7) X dX8_becomes_7 ?_
  refine aw_iload_n (pc := 8) X 2 dX8_becomes_8 rfl ?_
  refine aw_iadd (pc := 9) X dX8_becomes_9 ?_
  refine aw_iload_n (pc := 10) X 3 dX8_becomes_10 rfl ?_
  refine aw_iastQ (pc := 11) X dX8_becomes_11 h_r1 (fun M2 g3 => ?_)
  have h_a0 := h_a0.mono g3
  refine aw_aload_n (pc := 12) X 0 dX8_becomes_12 rfl ?_
  refine gf_X8_16 (pc := 13) X dX8_becomes_13 h_a0 (fun r4 h_r4 => ?_)
  refine aw_bipush (pc := 16) X (22 : Int32) dX8_becomes_16 (by decide) ?_
  refine aw_iload_n (pc := 18) X 1 dX8_becomes_18 rfl ?_
  refine aw_imul (pc := 19) X dX8_becomes_19 ?_
  refine aw_iload_n (pc := 20) X 2 dX8_becomes_20 rfl ?_
  refine aw_iadd (pc := 21) X dX8_becomes_21 ?_
  refine aw_iload (pc := 22) X 4 dX8_becomes_22 rfl ?_
  refine aw_iastQ (pc := 24) X dX8_becomes_24 h_r4 (fun M5 g6 => ?_)
  have h_a0 := h_a0.mono g6
  refine aw_iconst (pc := 25) X (0 : Int32) dX8_becomes_25 (by decide) ?_
  refine aw_istoreV (pc := 26) X (fun y => [(5, .int y), (0, .ref (b + a0)), (1, .int v1), (2, .int v2), (3, .int v3), (4, .int v4)]) dX8_becomes_26 (by decide) (fun _ => rfl) (fun i7 => ?_)
  refine aw_sub [1, 2, 3, 0] rfl ?_
  exact t_X8_becomes_L28 X hr FU a0 v1 v2 i7 M5 h_a0)
/-! ReportBlocksModel.category -/
def rm_X8_category : Room := { frames := 1, cells := 0, slots := 0, locals := 25 }
theorem hd_X8_category : jHd yX8_category 1 := by unfold jHd; decide +kernel
theorem cl_X8_105 {ρ : Type} {l : Launch} {p : Program} {e : Env} {R : Room} {s : State} {m : MethodId} {args : Array Value} {below : List Frame} {meth : Method} {c : Code} {D : va_G} {cs : JC} {b nL : Nat} {H0 : Heap} {Qf : ρ × JM → State → Prop} {M : JM} {ks sl : Nat} {lv : List (Nat × Value)} {pc : Nat} {st : List Value} {cc : ByteArray} (X : jX p c cc nL s m args RX8 D cs b meth H0) {z0 : Int32} {z1 : Int32} {z2 : Int32} {K : Bool → JM → Option (ρ × JM)} (hrm : jRm rm_X8_in 3 R) (hW : (st.map fun v => v.category).sum ≤ 8) {ks2 sl2 : Nat} (hk2 : ks + rm_X8_in.cells = ks2) (hs2 : sl + rm_X8_in.slots = sl2) (hroom : ks2 ≤ R.cells ∧ sl2 ≤ R.slots) (hdg : decode cc pc = .ok (.invokestatic 105, 3)) (kk : ∀ (r : Bool) (M2 : JM), gn M ≤ gn M2 → AWO p l e R s m args below meth c D cs b nL H0 Qf (K r M2) M2 ks2 sl2 lv (pc + 3) (.int (bI r) :: st)) : AWO p l e R s m args below meth c D cs b nL H0 Qf (ob (f_X8_in z0 z1 z2 M) K) M ks sl lv pc (.int z2 :: .int z1 :: .int z0 :: st) := by
  subst hk2
  subst hs2
  exact aw_callS X [.int z0, .int z1, .int z2] st rfl wl_X8_105 wt_X8_in wc_X8_in wn_X8 (n := 3) hd_X8_in rfl hrm hW hroom hdg (t_X8_in z0 z1 z2 M ) (fun r M2 g _ => kk r M2 g)
theorem cl_X8_109 {ρ : Type} {l : Launch} {p : Program} {e : Env} {R : Room} {s : State} {m : MethodId} {args : Array Value} {below : List Frame} {meth : Method} {c : Code} {D : va_G} {cs : JC} {b nL : Nat} {H0 : Heap} {Qf : ρ × JM → State → Prop} {M : JM} {ks sl : Nat} {lv : List (Nat × Value)} {pc : Nat} {st : List Value} {cc : ByteArray} (X : jX p c cc nL s m args RX8 D cs b meth H0) {z0 : Nat} {z1 : Int32} {K : Int32 → JM → Option (ρ × JM)} (hrm : jRm rm_X8_find 3 R) (hW : (st.map fun v => v.category).sum ≤ 8) {ks2 sl2 : Nat} (hk2 : ks + rm_X8_find.cells = ks2) (hs2 : sl + rm_X8_find.slots = sl2) (hroom : ks2 ≤ R.cells ∧ sl2 ≤ R.slots) (hdg : decode cc pc = .ok (.invokevirtual 109, 3)) (h0 : oty M z0 18) (kk : ∀ (r : Int32) (M2 : JM), gn M ≤ gn M2 → AWO p l e R s m args below meth c D cs b nL H0 Qf (K r M2) M2 ks2 sl2 lv (pc + 3) (.int r :: st)) : AWO p l e R s m args below meth c D cs b nL H0 Qf (ob (f_X8_find z0 z1 M) K) M ks sl lv pc (.int z1 :: .ref (b + z0) :: st) := by
  subst hk2
  subst hs2
  exact aw_callV (ci := 8) X [.int z1] st rfl rfl wl_X8_109 wi_X8_find wv_X8_find wc_X8_find wn_X8 (n := 1) hd_X8_find rfl hrm hW hroom hdg h0 (t_X8_find z0 z1 M h0) (fun r M2 g _ => kk r M2 g)
theorem gf_X8_22 {ρ : Type} {l : Launch} {p : Program} {e : Env} {R : Room} {s : State} {m : MethodId} {args : Array Value} {below : List Frame} {meth : Method} {c : Code} {D : va_G} {cs : JC} {b nL : Nat} {H0 : Heap} {Qf : ρ × JM → State → Prop} {M : JM} {ks sl : Nat} {lv : List (Nat × Value)} {pc : Nat} {st : List Value} {cc : ByteArray} {k : Nat} (X : jX p c cc nL s m args RX8 D cs b meth H0) {K : Nat → Option (ρ × JM)} (hdg : decode cc pc = .ok (.getfield 22, 3)) (ho : oty M k 18) (kk : ∀ r : Nat, oty M r 1 → AWO p l e R s m args below meth c D cs b nL H0 Qf (K r) M ks sl lv (pc + 3) (.ref (b + r) :: st)) : AWO p l e R s m args below meth c D cs b nL H0 Qf (orf (gr M k 5) K) M ks sl lv pc (.ref (b + k) :: st) := aw_getR (ci := 8) (τ := 1) X 5 rfl gy_X8 (by decide) (by decide) rfl rfl (by decide) wf_X8_22 hdg ho kk
theorem gf_X8_25 {ρ : Type} {l : Launch} {p : Program} {e : Env} {R : Room} {s : State} {m : MethodId} {args : Array Value} {below : List Frame} {meth : Method} {c : Code} {D : va_G} {cs : JC} {b nL : Nat} {H0 : Heap} {Qf : ρ × JM → State → Prop} {M : JM} {ks sl : Nat} {lv : List (Nat × Value)} {pc : Nat} {st : List Value} {cc : ByteArray} {k : Nat} (X : jX p c cc nL s m args RX8 D cs b meth H0) {K : Nat → Option (ρ × JM)} (hdg : decode cc pc = .ok (.getfield 25, 3)) (ho : oty M k 18) (kk : ∀ r : Nat, oty M r 1 → AWO p l e R s m args below meth c D cs b nL H0 Qf (K r) M ks sl lv (pc + 3) (.ref (b + r) :: st)) : AWO p l e R s m args below meth c D cs b nL H0 Qf (orf (gr M k 6) K) M ks sl lv pc (.ref (b + k) :: st) := aw_getR (ci := 8) (τ := 1) X 6 rfl gy_X8 (by decide) (by decide) rfl rfl (by decide) wf_X8_25 hdg ho kk
theorem pf_X8_102 {ρ : Type} {l : Launch} {p : Program} {e : Env} {R : Room} {s : State} {m : MethodId} {args : Array Value} {below : List Frame} {meth : Method} {c : Code} {D : va_G} {cs : JC} {b nL : Nat} {H0 : Heap} {Qf : ρ × JM → State → Prop} {M : JM} {ks sl : Nat} {lv : List (Nat × Value)} {pc : Nat} {st : List Value} {cc : ByteArray} {k : Nat} {K : JM → Option (ρ × JM)} (X : jX p c cc nL s m args RX8 D cs b meth H0) {x : Int32} (hdg : decode cc pc = .ok (.putfield 102, 3)) (ho : oty M k 18) (kk : ∀ M2 : JM, gn M ≤ gn M2 → AWO p l e R s m args below meth c D cs b nL H0 Qf (K M2) M2 ks sl lv (pc + 3) st) : AWO p l e R s m args below meth c D cs b nL H0 Qf (sq (si M k 0 x) K) M ks sl lv pc (.int x :: .ref (b + k) :: st) := aw_putI (ci := 8) X 0 rfl gy_X8 tyX8 tyX8_ok nmX8 (by decide) (by decide) rfl rfl wf_X8_102 rfl (Or.inl rfl) hdg ho (kk _ (Nat.le_refl _))
def f_X8_category_L90 : Nat → JM → Option (Int32 × JM) := fun a0 M => sq (si M a0 0 ((gi M a0 0) + (1 : Int32))) fun M17 => some (((gi M17 a0 0) - (1 : Int32)), M17)
set_option maxRecDepth 10000 in
set_option maxHeartbeats 4000000 in
theorem t_X8_category_L90 {p : Program} {l : Launch} {e : Env} {s : State} {m : MethodId} {args : Array Value} {below : List Frame} {meth : Method} {c : Code} {D : va_G} {cs : JC} {b : Nat} (X : jX p c cX8_category 3 s m args RX8 D cs b meth s.heap) (hr : meth.sig.returnType = Option.some Jvm.ClassFile.FieldType.int) : ∀ (a0 : Nat) (M : JM), oty M a0 18 → AWO p l e rm_X8_category s m args below meth c D cs b 3 s.heap (jE below D cs b evI args s rm_X8_category.cells rm_X8_category.slots) (f_X8_category_L90 a0 M) M 0 0 [(0, .ref (b + a0))] 90 [] := by
  intro a0 M h_a0
  refine aw_callq (F' := sq (si M a0 0 ((gi M a0 0) + (1 : Int32))) fun M17 => some (((gi M17 a0 0) - (1 : Int32)), M17)) rfl ?_
  refine aw_aload_n (pc := 90) X 0 dX8_category_90 rfl ?_
  refine aw_dup_a (pc := 91) X dX8_category_91 ?_
  refine gf_X8_102 (pc := 92) X dX8_category_92 h_a0 ?_
  refine aw_iconst (pc := 95) X (1 : Int32) dX8_category_95 (by decide) ?_
  refine aw_iadd (pc := 96) X dX8_category_96 ?_
  refine pf_X8_102 (pc := 97) X dX8_category_97 h_a0 (fun M17 g18 => ?_)
  have h_a0 := h_a0.mono g18
  refine aw_aload_n (pc := 100) X 0 dX8_category_100 rfl ?_
  refine gf_X8_102 (pc := 101) X dX8_category_101 h_a0 ?_
  refine aw_iconst (pc := 104) X (1 : Int32) dX8_category_104 (by decide) ?_
  refine aw_isub (pc := 105) X dX8_category_105 ?_
  exact aw_iret (pc := 106) X hr dX8_category_106 (Nat.le_of_ble_eq_true rfl) (Nat.le_of_ble_eq_true rfl)
theorem cl_X8_113 {ρ : Type} {l : Launch} {p : Program} {e : Env} {R : Room} {s : State} {m : MethodId} {args : Array Value} {below : List Frame} {meth : Method} {c : Code} {D : va_G} {cs : JC} {b nL : Nat} {H0 : Heap} {Qf : ρ × JM → State → Prop} {M : JM} {ks sl : Nat} {lv : List (Nat × Value)} {pc : Nat} {st : List Value} {cc : ByteArray} (X : jX p c cc nL s m args RX8 D cs b meth H0) {z0 : Nat} {z1 : Int32} {z2 : Int32} {z3 : Int32} {z4 : Int32} {K : JM → Option (ρ × JM)} (hrm : jRm rm_X8_becomes 6 R) (hW : (st.map fun v => v.category).sum ≤ 8) {ks2 sl2 : Nat} (hk2 : ks + rm_X8_becomes.cells = ks2) (hs2 : sl + rm_X8_becomes.slots = sl2) (hroom : ks2 ≤ R.cells ∧ sl2 ≤ R.slots) (hdg : decode cc pc = .ok (.invokevirtual 113, 3)) (h0 : oty M z0 18) (kk : ∀ (M2 : JM), gn M ≤ gn M2 → AWO p l e R s m args below meth c D cs b nL H0 Qf (K M2) M2 ks2 sl2 lv (pc + 3) (st)) : AWO p l e R s m args below meth c D cs b nL H0 Qf (ob (f_X8_becomes z0 z1 z2 z3 z4 M) (fun _ => K)) M ks sl lv pc (.int z4 :: .int z3 :: .int z2 :: .int z1 :: .ref (b + z0) :: st) := by
  subst hk2
  subst hs2
  exact aw_callV (ci := 8) X [.int z1, .int z2, .int z3, .int z4] st rfl rfl wl_X8_113 wi_X8_becomes wv_X8_becomes wc_X8_becomes wn_X8 (n := 4) hd_X8_becomes rfl hrm hW hroom hdg h0 (t_X8_becomes z0 z1 z2 z3 z4 M h0) (fun _ M2 g _ => kk M2 g)
def f_X8_category_L66 : Nat → Nat → Int32 → JM → Option (Int32 × JM)
  | 0, _, _, _ => none
  | n + 1, a0, v2, M => if (21 : Int32) < v2 then (f_X8_category_L90 a0 M) else (ob (f_X8_becomes a0 (gi M a0 0) v2 (-9 : Int32) (0 : Int32) M) fun _ M19 => sv (v2 + (1 : Int32)) fun i21 => (f_X8_category_L66 n) a0 i21 M19)
set_option maxRecDepth 10000 in
set_option maxHeartbeats 4000000 in
theorem t_X8_category_L66 {p : Program} {l : Launch} {e : Env} {s : State} {m : MethodId} {args : Array Value} {below : List Frame} {meth : Method} {c : Code} {D : va_G} {cs : JC} {b : Nat} (X : jX p c cX8_category 3 s m args RX8 D cs b meth s.heap) (hr : meth.sig.returnType = Option.some Jvm.ClassFile.FieldType.int) : ∀ (n : Nat) (a0 : Nat) (v2 : Int32) (M : JM), oty M a0 18 → AWO p l e rm_X8_category s m args below meth c D cs b 3 s.heap (jE below D cs b evI args s rm_X8_category.cells rm_X8_category.slots) (f_X8_category_L66 n a0 v2 M) M 0 0 [(0, .ref (b + a0)), (2, .int v2)] 66 [] := by
  intro n
  induction n with
  | zero => intro a0 v2 M h_a0; exact aw_none
  | succ n ih =>
    intro a0 v2 M h_a0
    refine aw_callq (F' := if (21 : Int32) < v2 then (f_X8_category_L90 a0 M) else (ob (f_X8_becomes a0 (gi M a0 0) v2 (-9 : Int32) (0 : Int32) M) fun _ M19 => sv (v2 + (1 : Int32)) fun i21 => (f_X8_category_L66 n) a0 i21 M19)) rfl ?_
    refine aw_iload_n (pc := 66) X 1 dX8_category_66 rfl ?_
    refine aw_bipush (pc := 67) X (21 : Int32) dX8_category_67 (by decide) ?_
    refine aw_icmpgt (pc := 69) X 90 dX8_category_69 (by decide) ?_ ?_
    · refine aw_sub [0] rfl ?_
      exact t_X8_category_L90 X hr a0 M h_a0
    · refine aw_aload_n (pc := 72) X 0 dX8_category_72 rfl ?_
      refine aw_aload_n (pc := 73) X 0 dX8_category_73 rfl ?_
      refine gf_X8_102 (pc := 74) X dX8_category_74 h_a0 ?_
      refine aw_iload_n (pc := 77) X 1 dX8_category_77 rfl ?_
      refine aw_bipush (pc := 78) X (-9 : Int32) dX8_category_78 (by decide) ?_
      refine aw_iconst (pc := 80) X (0 : Int32) dX8_category_80 (by decide) ?_
      refine cl_X8_113 (pc := 81) X ⟨Nat.le_of_ble_eq_true rfl, Nat.le_of_ble_eq_true rfl⟩ (Nat.le_of_ble_eq_true rfl) (ks2 := 0) (sl2 := 0) rfl rfl ⟨(Nat.le_of_ble_eq_true rfl), (Nat.le_of_ble_eq_true rfl)⟩ dX8_category_81 h_a0 (fun M19 g20 => ?_)
      have h_a0 := h_a0.mono g20
      refine aw_iincV (pc := 84) X (fun y => [(2, .int y), (0, .ref (b + a0))]) 1 (v := (v2 + (1 : Int32))) dX8_category_84 rfl rfl (by decide) (fun _ => rfl) (fun i21 => ?_)
      refine aw_goto (pc := 87) X 66 dX8_category_87 (by decide) ?_
      refine aw_sub [1, 0] rfl ?_
      exact ih a0 i21 M19 h_a0
def f_X8_category (a0 : Nat) (v1 : Int32) (M : JM) : Option (Int32 × JM) := ob (f_X8_in v1 (1 : Int32) (255 : Int32) M) fun r3 M1 => if r3 = true then (ob (f_X8_find a0 v1 M1) fun r6 M4 => if r6 < 0 then (if (gi M4 a0 0) = (3 : Int32) then (some ((-3 : Int32), M4)) else (orf (gr M4 a0 1) fun r7 => if 0 ≤ (gi M4 a0 0) ∧ (gi M4 a0 0) < ln r7 then (sq (si M4 r7 (gi M4 a0 0) v1) fun M8 => orf (gr M8 a0 5) fun r10 => if 0 ≤ (gi M8 a0 0) ∧ (gi M8 a0 0) < ln r10 then (sq (si M8 r10 (gi M8 a0 0) (-9 : Int32)) fun M11 => orf (gr M11 a0 6) fun r13 => if 0 ≤ (gi M11 a0 0) ∧ (gi M11 a0 0) < ln r13 then (sq (si M11 r13 (gi M11 a0 0) (-9 : Int32)) fun M14 => sv (0 : Int32) fun i16 => f_X8_category_L66 FU a0 i16 M14) else none) else none) else none)) else (some ((-1 : Int32), M4))) else (some ((-1 : Int32), M1))
set_option maxRecDepth 10000 in
set_option maxHeartbeats 4000000 in
theorem t_X8_category {l : Launch} {D : va_G} {cs : JC} {b : Nat} (a0 : Nat) (v1 : Int32) (M : JM) (h_a0 : oty M a0 18) : ∀ q, f_X8_category a0 v1 M = some q → CTy l yX8_category (.code yX8_category cX8_category 3 (Option.some Jvm.ClassFile.FieldType.int) :: GB) rm_X8_category D cs b evI [.ref (b + a0), .int v1] M rm_X8_category.cells rm_X8_category.slots q := fun q hq => ct_of [(0, .ref (b + a0)), (1, .int v1)] rfl rfl (Nat.le_of_ble_eq_true rfl) hq (fun p e s m args below meth c X hr hin => by
  refine aw_callq (F' := ob (f_X8_in v1 (1 : Int32) (255 : Int32) M) fun r3 M1 => if r3 = true then (ob (f_X8_find a0 v1 M1) fun r6 M4 => if r6 < 0 then (if (gi M4 a0 0) = (3 : Int32) then (some ((-3 : Int32), M4)) else (orf (gr M4 a0 1) fun r7 => if 0 ≤ (gi M4 a0 0) ∧ (gi M4 a0 0) < ln r7 then (sq (si M4 r7 (gi M4 a0 0) v1) fun M8 => orf (gr M8 a0 5) fun r10 => if 0 ≤ (gi M8 a0 0) ∧ (gi M8 a0 0) < ln r10 then (sq (si M8 r10 (gi M8 a0 0) (-9 : Int32)) fun M11 => orf (gr M11 a0 6) fun r13 => if 0 ≤ (gi M11 a0 0) ∧ (gi M11 a0 0) < ln r13 then (sq (si M11 r13 (gi M11 a0 0) (-9 : Int32)) fun M14 => sv (0 : Int32) fun i16 => f_X8_category_L66 FU a0 i16 M14) else none) else none) else none)) else (some ((-1 : Int32), M4))) else (some ((-1 : Int32), M1))) rfl ?_
  refine aw_iload_n (pc := 0) X 1 dX8_category_0 rfl ?_
  refine aw_iconst (pc := 1) X (1 : Int32) dX8_category_1 (by decide) ?_
  refine aw_sipush (pc := 2) X (255 : Int32) dX8_category_2 (by decide) ?_
  refine cl_X8_105 (pc := 5) X ⟨Nat.le_of_ble_eq_true rfl, Nat.le_of_ble_eq_true rfl⟩ (Nat.le_of_ble_eq_true rfl) (ks2 := 0) (sl2 := 0) rfl rfl ⟨(Nat.le_of_ble_eq_true rfl), (Nat.le_of_ble_eq_true rfl)⟩ dX8_category_5  (fun r3 M1 g2 => ?_)
  have h_a0 := h_a0.mono g2
  refine aw_ifeqB (pc := 8) X 19 dX8_category_8 (by decide) ?_ ?_
  · refine aw_aload_n (pc := 11) X 0 dX8_category_11 rfl ?_
    refine aw_iload_n (pc := 12) X 1 dX8_category_12 rfl ?_
    refine cl_X8_109 (pc := 13) X ⟨Nat.le_of_ble_eq_true rfl, Nat.le_of_ble_eq_true rfl⟩ (Nat.le_of_ble_eq_true rfl) (ks2 := 0) (sl2 := 0) rfl rfl ⟨(Nat.le_of_ble_eq_true rfl), (Nat.le_of_ble_eq_true rfl)⟩ dX8_category_13 h_a0 (fun r6 M4 g5 => ?_)
    have h_a0 := h_a0.mono g5
    refine aw_iflt (pc := 16) X 21 dX8_category_16 (by decide) ?_ ?_
    · refine aw_aload_n (pc := 21) X 0 dX8_category_21 rfl ?_
      refine gf_X8_102 (pc := 22) X dX8_category_22 h_a0 ?_
      refine aw_iconst (pc := 25) X (3 : Int32) dX8_category_25 (by decide) ?_
      refine aw_icmpne (pc := 26) X 32 dX8_category_26 (by decide) ?_ ?_
      · refine aw_bipush (pc := 29) X (-3 : Int32) dX8_category_29 (by decide) ?_
        exact aw_iret (pc := 31) X hr dX8_category_31 (Nat.le_of_ble_eq_true rfl) (Nat.le_of_ble_eq_true rfl)
      · refine aw_aload_n (pc := 32) X 0 dX8_category_32 rfl ?_
        refine gf_X8_7 (pc := 33) X dX8_category_33 h_a0 (fun r7 h_r7 => ?_)
        refine aw_aload_n (pc := 36) X 0 dX8_category_36 rfl ?_
        refine gf_X8_102 (pc := 37) X dX8_category_37 h_a0 ?_
        refine aw_iload_n (pc := 40) X 1 dX8_category_40 rfl ?_
        refine aw_iastQ (pc := 41) X dX8_category_41 h_r7 (fun M8 g9 => ?_)
        have h_a0 := h_a0.mono g9
        refine aw_aload_n (pc := 42) X 0 dX8_category_42 rfl ?_
        refine gf_X8_22 (pc := 43) X dX8_category_43 h_a0 (fun r10 h_r10 => ?_)
        refine aw_aload_n (pc := 46) X 0 dX8_category_46 rfl ?_
        refine gf_X8_102 (pc := 47) X dX8_category_47 h_a0 ?_
        refine aw_bipush (pc := 50) X (-9 : Int32) dX8_category_50 (by decide) ?_
        refine aw_iastQ (pc := 52) X dX8_category_52 h_r10 (fun M11 g12 => ?_)
        have h_a0 := h_a0.mono g12
        refine aw_aload_n (pc := 53) X 0 dX8_category_53 rfl ?_
        refine gf_X8_25 (pc := 54) X dX8_category_54 h_a0 (fun r13 h_r13 => ?_)
        refine aw_aload_n (pc := 57) X 0 dX8_category_57 rfl ?_
        refine gf_X8_102 (pc := 58) X dX8_category_58 h_a0 ?_
        refine aw_bipush (pc := 61) X (-9 : Int32) dX8_category_61 (by decide) ?_
        refine aw_iastQ (pc := 63) X dX8_category_63 h_r13 (fun M14 g15 => ?_)
        have h_a0 := h_a0.mono g15
        refine aw_iconst (pc := 64) X (0 : Int32) dX8_category_64 (by decide) ?_
        refine aw_istoreV_n (pc := 65) X (fun y => [(2, .int y), (0, .ref (b + a0)), (1, .int v1)]) dX8_category_65 (by decide) (fun _ => rfl) (fun i16 => ?_)
        refine aw_sub [1, 0] rfl ?_
        exact t_X8_category_L66 X hr FU a0 i16 M14 h_a0
    · refine aw_iconst (pc := 19) X (-1 : Int32) dX8_category_19 (by decide) ?_
      exact aw_iret (pc := 20) X hr dX8_category_20 (Nat.le_of_ble_eq_true rfl) (Nat.le_of_ble_eq_true rfl)
  · refine aw_iconst (pc := 19) X (-1 : Int32) dX8_category_19 (by decide) ?_
    exact aw_iret (pc := 20) X hr dX8_category_20 (Nat.le_of_ble_eq_true rfl) (Nat.le_of_ble_eq_true rfl))
/-! ReportBlocks.categoryAt -/
def rm_X7_categoryAt : Room := { frames := 0, cells := 0, slots := 0, locals := 0 }
theorem hd_X7_categoryAt : jHd yX7_categoryAt 1 := by unfold jHd; decide +kernel
def f_X7_categoryAt_L12 : JM → Option ((Option Nat) × JM) := fun M => some (none, M)
set_option maxRecDepth 10000 in
set_option maxHeartbeats 4000000 in
theorem t_X7_categoryAt_L12 {p : Program} {l : Launch} {e : Env} {s : State} {m : MethodId} {args : Array Value} {below : List Frame} {meth : Method} {c : Code} {D : va_G} {cs : JC} {b : Nat} (X : jX p c cX7_categoryAt 2 s m args RX7 D cs b meth s.heap) (hr : meth.sig.returnType = Option.some (Jvm.ClassFile.FieldType.object "ReportBlocks$Category")) : ∀ (M : JM), AWO p l e rm_X7_categoryAt s m args below meth c D cs b 2 s.heap (jE below D cs b (evR b) args s rm_X7_categoryAt.cells rm_X7_categoryAt.slots) (f_X7_categoryAt_L12  M) M 0 0 [] 12 [] := by
  intro M
  refine aw_callq (F' := some (none, M)) rfl ?_
  refine aw_null (pc := 12) X dX7_categoryAt_12 ?_
  refine aw_goto (pc := 13) X 22 dX7_categoryAt_13 (by decide) ?_
  exact aw_aret (pc := 22) X hr none rfl (fun k h => by cases h) dX7_categoryAt_22 (Nat.le_of_ble_eq_true rfl) (Nat.le_of_ble_eq_true rfl)
def f_X7_categoryAt (a0 : Nat) (v1 : Int32) (M : JM) : Option ((Option Nat) × JM) := if v1 < 0 then (f_X7_categoryAt_L12  M) else (if v1 < (gi M a0 1) then (orf (gr M a0 0) fun r1 => if 0 ≤ v1 ∧ v1 < ln r1 then (some ((gr M r1 v1), M)) else none) else (f_X7_categoryAt_L12  M))
set_option maxRecDepth 10000 in
set_option maxHeartbeats 4000000 in
theorem t_X7_categoryAt {l : Launch} {D : va_G} {cs : JC} {b : Nat} (a0 : Nat) (v1 : Int32) (M : JM) (h_a0 : oty M a0 17) : ∀ q, f_X7_categoryAt a0 v1 M = some q → CTy l yX7_categoryAt (.code yX7_categoryAt cX7_categoryAt 2 (Option.some (Jvm.ClassFile.FieldType.object "ReportBlocks$Category")) :: GB) rm_X7_categoryAt D cs b (evR b) [.ref (b + a0), .int v1] M rm_X7_categoryAt.cells rm_X7_categoryAt.slots q := fun q hq => ct_of [(0, .ref (b + a0)), (1, .int v1)] rfl rfl (Nat.le_of_ble_eq_true rfl) hq (fun p e s m args below meth c X hr hin => by
  refine aw_callq (F' := if v1 < 0 then (f_X7_categoryAt_L12  M) else (if v1 < (gi M a0 1) then (orf (gr M a0 0) fun r1 => if 0 ≤ v1 ∧ v1 < ln r1 then (some ((gr M r1 v1), M)) else none) else (f_X7_categoryAt_L12  M))) rfl ?_
  refine aw_iload_n (pc := 0) X 1 dX7_categoryAt_0 rfl ?_
  refine aw_iflt (pc := 1) X 12 dX7_categoryAt_1 (by decide) ?_ ?_
  · refine aw_sub [] rfl ?_
    exact t_X7_categoryAt_L12 X hr  M 
  · refine aw_iload_n (pc := 4) X 1 dX7_categoryAt_4 rfl ?_
    refine aw_aload_n (pc := 5) X 0 dX7_categoryAt_5 rfl ?_
    refine gf_X7_59 (pc := 6) X dX7_categoryAt_6 h_a0 ?_
    refine aw_icmplt (pc := 9) X 16 dX7_categoryAt_9 (by decide) ?_ ?_
    · refine aw_aload_n (pc := 16) X 0 dX7_categoryAt_16 rfl ?_
      refine gf_X7_11 (pc := 17) X dX7_categoryAt_17 h_a0 (fun r1 h_r1 => ?_)
      refine aw_iload_n (pc := 20) X 1 dX7_categoryAt_20 rfl ?_
      refine aw_aldCo (pc := 21) X dX7_categoryAt_21 h_r1 (fun hx2 => ?_)
      exact aw_aret (pc := 22) X hr (gr M r1 v1) rfl hx2 dX7_categoryAt_22 (Nat.le_of_ble_eq_true rfl) (Nat.le_of_ble_eq_true rfl)
    · refine aw_sub [] rfl ?_
      exact t_X7_categoryAt_L12 X hr  M )
/-! ReportBlocks.isPlace -/
def rm_X7_isPlace : Room := { frames := 0, cells := 0, slots := 0, locals := 0 }
theorem hd_X7_isPlace : jHd yX7_isPlace 1 := by unfold jHd; decide +kernel
def f_X7_isPlace (v0 : Int32) (M : JM) : Option (Bool × JM) := if v0 < (1 : Int32) then (some (false, M)) else (if (21 : Int32) < v0 then (some (false, M)) else (some (true, M)))
set_option maxRecDepth 10000 in
set_option maxHeartbeats 4000000 in
theorem t_X7_isPlace {l : Launch} {D : va_G} {cs : JC} {b : Nat} (v0 : Int32) (M : JM)  : ∀ q, f_X7_isPlace v0 M = some q → CTy l yX7_isPlace (.code yX7_isPlace cX7_isPlace 1 (Option.some Jvm.ClassFile.FieldType.boolean) :: GB) rm_X7_isPlace D cs b evB [.int v0] M rm_X7_isPlace.cells rm_X7_isPlace.slots q := fun q hq => ct_of [(0, .int v0)] rfl rfl (Nat.le_of_ble_eq_true rfl) hq (fun p e s m args below meth c X hr hin => by
  refine aw_callq (F' := if v0 < (1 : Int32) then (some (false, M)) else (if (21 : Int32) < v0 then (some (false, M)) else (some (true, M)))) rfl ?_
  refine aw_iload_n (pc := 0) X 0 dX7_isPlace_0 rfl ?_
  refine aw_iconst (pc := 1) X (1 : Int32) dX7_isPlace_1 (by decide) ?_
  refine aw_icmplt (pc := 2) X 15 dX7_isPlace_2 (by decide) ?_ ?_
  · refine aw_iconst (pc := 15) X (0 : Int32) dX7_isPlace_15 (by decide) ?_
    exact aw_zret (pc := 16) X hr false rfl dX7_isPlace_16 (Nat.le_of_ble_eq_true rfl) (Nat.le_of_ble_eq_true rfl)
  · refine aw_iload_n (pc := 5) X 0 dX7_isPlace_5 rfl ?_
    refine aw_bipush (pc := 6) X (21 : Int32) dX7_isPlace_6 (by decide) ?_
    refine aw_icmpgt (pc := 8) X 15 dX7_isPlace_8 (by decide) ?_ ?_
    · refine aw_iconst (pc := 15) X (0 : Int32) dX7_isPlace_15 (by decide) ?_
      exact aw_zret (pc := 16) X hr false rfl dX7_isPlace_16 (Nat.le_of_ble_eq_true rfl) (Nat.le_of_ble_eq_true rfl)
    · refine aw_iconst (pc := 11) X (1 : Int32) dX7_isPlace_11 (by decide) ?_
      refine aw_goto (pc := 12) X 16 dX7_isPlace_12 (by decide) ?_
      exact aw_zret (pc := 16) X hr true rfl dX7_isPlace_16 (Nat.le_of_ble_eq_true rfl) (Nat.le_of_ble_eq_true rfl))
/-! ReportBlocks.isItem -/
def rm_X7_isItem : Room := { frames := 0, cells := 0, slots := 0, locals := 0 }
theorem hd_X7_isItem : jHd yX7_isItem 2 := by unfold jHd; decide +kernel
def f_X7_isItem (v0 : Int32) (v1 : Int32) (M : JM) : Option (Bool × JM) := if v0 = (-1 : Int32) then (some (true, M)) else (if v0 = (0 : Int32) then (if v1 < (1 : Int32) then (some (false, M)) else (if (8 : Int32) < v1 then (some (false, M)) else (some (true, M)))) else (if v0 = (1 : Int32) then (some (true, M)) else (if v0 = (2 : Int32) then (if v1 < (1 : Int32) then (some (false, M)) else (if (4 : Int32) < v1 then (some (false, M)) else (some (true, M)))) else (if v0 = (3 : Int32) then (some (true, M)) else (some (false, M))))))
set_option maxRecDepth 10000 in
set_option maxHeartbeats 4000000 in
theorem t_X7_isItem {l : Launch} {D : va_G} {cs : JC} {b : Nat} (v0 : Int32) (v1 : Int32) (M : JM)  : ∀ q, f_X7_isItem v0 v1 M = some q → CTy l yX7_isItem (.code yX7_isItem cX7_isItem 2 (Option.some Jvm.ClassFile.FieldType.boolean) :: GB) rm_X7_isItem D cs b evB [.int v0, .int v1] M rm_X7_isItem.cells rm_X7_isItem.slots q := fun q hq => ct_of [(0, .int v0), (1, .int v1)] rfl rfl (Nat.le_of_ble_eq_true rfl) hq (fun p e s m args below meth c X hr hin => by
  refine aw_callq (F' := if v0 = (-1 : Int32) then (some (true, M)) else (if v0 = (0 : Int32) then (if v1 < (1 : Int32) then (some (false, M)) else (if (8 : Int32) < v1 then (some (false, M)) else (some (true, M)))) else (if v0 = (1 : Int32) then (some (true, M)) else (if v0 = (2 : Int32) then (if v1 < (1 : Int32) then (some (false, M)) else (if (4 : Int32) < v1 then (some (false, M)) else (some (true, M)))) else (if v0 = (3 : Int32) then (some (true, M)) else (some (false, M))))))) rfl ?_
  refine aw_iload_n (pc := 0) X 0 dX7_isItem_0 rfl ?_
  refine aw_swIn (pc := 1) X (-1 : Int32) 69 dX7_isItem_1 (by decide) (by decide) rfl (by decide) ?_ (fun hn0 => ?_)
  · refine aw_iconst (pc := 69) X (1 : Int32) dX7_isItem_69 (by decide) ?_
    exact aw_zret (pc := 70) X hr true rfl dX7_isItem_70 (Nat.le_of_ble_eq_true rfl) (Nat.le_of_ble_eq_true rfl)
  refine aw_swIn (pc := 1) X (0 : Int32) 36 dX7_isItem_1 (by decide) (by decide) rfl (by decide) ?_ (fun hn1 => ?_)
  · refine aw_iload_n (pc := 36) X 1 dX7_isItem_36 rfl ?_
    refine aw_iconst (pc := 37) X (1 : Int32) dX7_isItem_37 (by decide) ?_
    refine aw_icmplt (pc := 38) X 51 dX7_isItem_38 (by decide) ?_ ?_
    · refine aw_iconst (pc := 51) X (0 : Int32) dX7_isItem_51 (by decide) ?_
      exact aw_zret (pc := 52) X hr false rfl dX7_isItem_52 (Nat.le_of_ble_eq_true rfl) (Nat.le_of_ble_eq_true rfl)
    · refine aw_iload_n (pc := 41) X 1 dX7_isItem_41 rfl ?_
      refine aw_bipush (pc := 42) X (8 : Int32) dX7_isItem_42 (by decide) ?_
      refine aw_icmpgt (pc := 44) X 51 dX7_isItem_44 (by decide) ?_ ?_
      · refine aw_iconst (pc := 51) X (0 : Int32) dX7_isItem_51 (by decide) ?_
        exact aw_zret (pc := 52) X hr false rfl dX7_isItem_52 (Nat.le_of_ble_eq_true rfl) (Nat.le_of_ble_eq_true rfl)
      · refine aw_iconst (pc := 47) X (1 : Int32) dX7_isItem_47 (by decide) ?_
        refine aw_goto (pc := 48) X 52 dX7_isItem_48 (by decide) ?_
        exact aw_zret (pc := 52) X hr true rfl dX7_isItem_52 (Nat.le_of_ble_eq_true rfl) (Nat.le_of_ble_eq_true rfl)
  refine aw_swIn (pc := 1) X (1 : Int32) 69 dX7_isItem_1 (by decide) (by decide) rfl (by decide) ?_ (fun hn2 => ?_)
  · refine aw_iconst (pc := 69) X (1 : Int32) dX7_isItem_69 (by decide) ?_
    exact aw_zret (pc := 70) X hr true rfl dX7_isItem_70 (Nat.le_of_ble_eq_true rfl) (Nat.le_of_ble_eq_true rfl)
  refine aw_swIn (pc := 1) X (2 : Int32) 53 dX7_isItem_1 (by decide) (by decide) rfl (by decide) ?_ (fun hn3 => ?_)
  · refine aw_iload_n (pc := 53) X 1 dX7_isItem_53 rfl ?_
    refine aw_iconst (pc := 54) X (1 : Int32) dX7_isItem_54 (by decide) ?_
    refine aw_icmplt (pc := 55) X 67 dX7_isItem_55 (by decide) ?_ ?_
    · refine aw_iconst (pc := 67) X (0 : Int32) dX7_isItem_67 (by decide) ?_
      exact aw_zret (pc := 68) X hr false rfl dX7_isItem_68 (Nat.le_of_ble_eq_true rfl) (Nat.le_of_ble_eq_true rfl)
    · refine aw_iload_n (pc := 58) X 1 dX7_isItem_58 rfl ?_
      refine aw_iconst (pc := 59) X (4 : Int32) dX7_isItem_59 (by decide) ?_
      refine aw_icmpgt (pc := 60) X 67 dX7_isItem_60 (by decide) ?_ ?_
      · refine aw_iconst (pc := 67) X (0 : Int32) dX7_isItem_67 (by decide) ?_
        exact aw_zret (pc := 68) X hr false rfl dX7_isItem_68 (Nat.le_of_ble_eq_true rfl) (Nat.le_of_ble_eq_true rfl)
      · refine aw_iconst (pc := 63) X (1 : Int32) dX7_isItem_63 (by decide) ?_
        refine aw_goto (pc := 64) X 68 dX7_isItem_64 (by decide) ?_
        exact aw_zret (pc := 68) X hr true rfl dX7_isItem_68 (Nat.le_of_ble_eq_true rfl) (Nat.le_of_ble_eq_true rfl)
  refine aw_swIn (pc := 1) X (3 : Int32) 69 dX7_isItem_1 (by decide) (by decide) rfl (by decide) ?_ (fun hn4 => ?_)
  · refine aw_iconst (pc := 69) X (1 : Int32) dX7_isItem_69 (by decide) ?_
    exact aw_zret (pc := 70) X hr true rfl dX7_isItem_70 (Nat.le_of_ble_eq_true rfl) (Nat.le_of_ble_eq_true rfl)
  refine aw_swOut (pc := 1) X 71 dX7_isItem_1 (by have e0 := sw_ne (z := -1) hn0 rfl; have e1 := sw_ne (z := 0) hn1 rfl; have e2 := sw_ne (z := 1) hn2 rfl; have e3 := sw_ne (z := 2) hn3 rfl; have e4 := sw_ne (z := 3) hn4 rfl; omega) (by decide) ?_
  refine aw_iconst (pc := 71) X (0 : Int32) dX7_isItem_71 (by decide) ?_
  exact aw_zret (pc := 72) X hr false rfl dX7_isItem_72 (Nat.le_of_ble_eq_true rfl) (Nat.le_of_ble_eq_true rfl))
/-! ReportBlocks.isInUse -/
def rm_X7_isInUse : Room := { frames := 0, cells := 0, slots := 0, locals := 0 }
theorem hd_X7_isInUse : jHd yX7_isInUse 1 := by unfold jHd; decide +kernel
theorem gf_X7_34 {ρ : Type} {l : Launch} {p : Program} {e : Env} {R : Room} {s : State} {m : MethodId} {args : Array Value} {below : List Frame} {meth : Method} {c : Code} {D : va_G} {cs : JC} {b nL : Nat} {H0 : Heap} {Qf : ρ × JM → State → Prop} {M : JM} {ks sl : Nat} {lv : List (Nat × Value)} {pc : Nat} {st : List Value} {cc : ByteArray} {k : Nat} (X : jX p c cc nL s m args RX7 D cs b meth H0) {K : Nat → Option (ρ × JM)} (hdg : decode cc pc = .ok (.getfield 34, 3)) (ho : oty M k 17) (kk : ∀ r : Nat, oty M r 10 → AWO p l e R s m args below meth c D cs b nL H0 Qf (K r) M ks sl lv (pc + 3) (.ref (b + r) :: st)) : AWO p l e R s m args below meth c D cs b nL H0 Qf (orf (gr M k 4) K) M ks sl lv pc (.ref (b + k) :: st) := aw_getR (ci := 7) (τ := 10) X 4 rfl gy_X7 (by decide) (by decide) rfl rfl (by decide) wf_X7_34 hdg ho kk
theorem gf_X7_154 {ρ : Type} {l : Launch} {p : Program} {e : Env} {R : Room} {s : State} {m : MethodId} {args : Array Value} {below : List Frame} {meth : Method} {c : Code} {D : va_G} {cs : JC} {b nL : Nat} {H0 : Heap} {Qf : ρ × JM → State → Prop} {M : JM} {ks sl : Nat} {lv : List (Nat × Value)} {pc : Nat} {st : List Value} {cc : ByteArray} {k : Nat} (X : jX p c cc nL s m args RX7 D cs b meth H0) {F : Option (ρ × JM)} (hdg : decode cc pc = .ok (.getfield 154, 3)) (ho : oty M k 10) (kk : AWO p l e R s m args below meth c D cs b nL H0 Qf F M ks sl lv (pc + 3) (.int (gi M k 0) :: st)) : AWO p l e R s m args below meth c D cs b nL H0 Qf F M ks sl lv pc (.ref (b + k) :: st) := aw_getI (ci := 0) X 0 rfl gy_X0 (by decide) rfl rfl wf_X7_154 hdg ho kk
def f_X7_isInUse_L22 : JM → Option (Bool × JM) := fun M => some (true, M)
set_option maxRecDepth 10000 in
set_option maxHeartbeats 4000000 in
theorem t_X7_isInUse_L22 {p : Program} {l : Launch} {e : Env} {s : State} {m : MethodId} {args : Array Value} {below : List Frame} {meth : Method} {c : Code} {D : va_G} {cs : JC} {b : Nat} (X : jX p c cX7_isInUse 2 s m args RX7 D cs b meth s.heap) (hr : meth.sig.returnType = Option.some Jvm.ClassFile.FieldType.boolean) : ∀ (M : JM), AWO p l e rm_X7_isInUse s m args below meth c D cs b 2 s.heap (jE below D cs b evB args s rm_X7_isInUse.cells rm_X7_isInUse.slots) (f_X7_isInUse_L22  M) M 0 0 [] 22 [] := by
  intro M
  refine aw_callq (F' := some (true, M)) rfl ?_
  refine aw_iconst (pc := 22) X (1 : Int32) dX7_isInUse_22 (by decide) ?_
  refine aw_goto (pc := 23) X 27 dX7_isInUse_23 (by decide) ?_
  exact aw_zret (pc := 27) X hr true rfl dX7_isInUse_27 (Nat.le_of_ble_eq_true rfl) (Nat.le_of_ble_eq_true rfl)
theorem gf_X7_44 {ρ : Type} {l : Launch} {p : Program} {e : Env} {R : Room} {s : State} {m : MethodId} {args : Array Value} {below : List Frame} {meth : Method} {c : Code} {D : va_G} {cs : JC} {b nL : Nat} {H0 : Heap} {Qf : ρ × JM → State → Prop} {M : JM} {ks sl : Nat} {lv : List (Nat × Value)} {pc : Nat} {st : List Value} {cc : ByteArray} {k : Nat} (X : jX p c cc nL s m args RX7 D cs b meth H0) {K : Nat → Option (ρ × JM)} (hdg : decode cc pc = .ok (.getfield 44, 3)) (ho : oty M k 17) (kk : ∀ r : Nat, oty M r 12 → AWO p l e R s m args below meth c D cs b nL H0 Qf (K r) M ks sl lv (pc + 3) (.ref (b + r) :: st)) : AWO p l e R s m args below meth c D cs b nL H0 Qf (orf (gr M k 6) K) M ks sl lv pc (.ref (b + k) :: st) := aw_getR (ci := 7) (τ := 12) X 6 rfl gy_X7 (by decide) (by decide) rfl rfl (by decide) wf_X7_44 hdg ho kk
theorem gf_X7_182 {ρ : Type} {l : Launch} {p : Program} {e : Env} {R : Room} {s : State} {m : MethodId} {args : Array Value} {below : List Frame} {meth : Method} {c : Code} {D : va_G} {cs : JC} {b nL : Nat} {H0 : Heap} {Qf : ρ × JM → State → Prop} {M : JM} {ks sl : Nat} {lv : List (Nat × Value)} {pc : Nat} {st : List Value} {cc : ByteArray} {k : Nat} (X : jX p c cc nL s m args RX7 D cs b meth H0) {F : Option (ρ × JM)} (hdg : decode cc pc = .ok (.getfield 182, 3)) (ho : oty M k 12) (kk : AWO p l e R s m args below meth c D cs b nL H0 Qf F M ks sl lv (pc + 3) (.int (gi M k 0) :: st)) : AWO p l e R s m args below meth c D cs b nL H0 Qf F M ks sl lv pc (.ref (b + k) :: st) := aw_getI (ci := 2) X 0 rfl gy_X2 (by decide) rfl rfl wf_X7_182 hdg ho kk
def f_X7_isInUse (a0 : Nat) (v1 : Int32) (M : JM) : Option (Bool × JM) := orf (gr M a0 4) fun r1 => if (gi M r1 0) = v1 then (f_X7_isInUse_L22  M) else (orf (gr M a0 6) fun r2 => if (gi M r2 0) = v1 then (f_X7_isInUse_L22  M) else (some (false, M)))
set_option maxRecDepth 10000 in
set_option maxHeartbeats 4000000 in
theorem t_X7_isInUse {l : Launch} {D : va_G} {cs : JC} {b : Nat} (a0 : Nat) (v1 : Int32) (M : JM) (h_a0 : oty M a0 17) : ∀ q, f_X7_isInUse a0 v1 M = some q → CTy l yX7_isInUse (.code yX7_isInUse cX7_isInUse 2 (Option.some Jvm.ClassFile.FieldType.boolean) :: GB) rm_X7_isInUse D cs b evB [.ref (b + a0), .int v1] M rm_X7_isInUse.cells rm_X7_isInUse.slots q := fun q hq => ct_of [(0, .ref (b + a0)), (1, .int v1)] rfl rfl (Nat.le_of_ble_eq_true rfl) hq (fun p e s m args below meth c X hr hin => by
  refine aw_callq (F' := orf (gr M a0 4) fun r1 => if (gi M r1 0) = v1 then (f_X7_isInUse_L22  M) else (orf (gr M a0 6) fun r2 => if (gi M r2 0) = v1 then (f_X7_isInUse_L22  M) else (some (false, M)))) rfl ?_
  refine aw_aload_n (pc := 0) X 0 dX7_isInUse_0 rfl ?_
  refine gf_X7_34 (pc := 1) X dX7_isInUse_1 h_a0 (fun r1 h_r1 => ?_)
  refine gf_X7_154 (pc := 4) X dX7_isInUse_4 h_r1 ?_
  refine aw_iload_n (pc := 7) X 1 dX7_isInUse_7 rfl ?_
  refine aw_icmpeq (pc := 8) X 22 dX7_isInUse_8 (by decide) ?_ ?_
  · refine aw_sub [] rfl ?_
    exact t_X7_isInUse_L22 X hr  M 
  · refine aw_aload_n (pc := 11) X 0 dX7_isInUse_11 rfl ?_
    refine gf_X7_44 (pc := 12) X dX7_isInUse_12 h_a0 (fun r2 h_r2 => ?_)
    refine gf_X7_182 (pc := 15) X dX7_isInUse_15 h_r2 ?_
    refine aw_iload_n (pc := 18) X 1 dX7_isInUse_18 rfl ?_
    refine aw_icmpne (pc := 19) X 26 dX7_isInUse_19 (by decide) ?_ ?_
    · refine aw_sub [] rfl ?_
      exact t_X7_isInUse_L22 X hr  M 
    · refine aw_iconst (pc := 26) X (0 : Int32) dX7_isInUse_26 (by decide) ?_
      exact aw_zret (pc := 27) X hr false rfl dX7_isInUse_27 (Nat.le_of_ble_eq_true rfl) (Nat.le_of_ble_eq_true rfl))
/-! java.util.Arrays.rangeCheck -/
def rm_J7_rangeCheck_23922 : Room := { frames := 0, cells := 0, slots := 0, locals := 0 }
theorem hd_J7_rangeCheck_23922 : jHd yJ7_rangeCheck_23922 3 := by unfold jHd; decide +kernel
def f_J7_rangeCheck_23922 (v0 : Int32) (v1 : Int32) (v2 : Int32) (M : JM) : Option (Unit × JM) := if v2 < v1 then (none) else (if v1 < 0 then (none) else (if v0 < v2 then (none) else (some ((), M))))
set_option maxRecDepth 10000 in
set_option maxHeartbeats 4000000 in
theorem t_J7_rangeCheck_23922 {l : Launch} {D : va_G} {cs : JC} {b : Nat} (v0 : Int32) (v1 : Int32) (v2 : Int32) (M : JM)  : ∀ q, f_J7_rangeCheck_23922 v0 v1 v2 M = some q → CTy l yJ7_rangeCheck_23922 (.code yJ7_rangeCheck_23922 cJ7_rangeCheck_23922 3 (Option.none) :: GB) rm_J7_rangeCheck_23922 D cs b evV [.int v0, .int v1, .int v2] M rm_J7_rangeCheck_23922.cells rm_J7_rangeCheck_23922.slots q := fun q hq => ct_of [(0, .int v0), (1, .int v1), (2, .int v2)] rfl rfl (Nat.le_of_ble_eq_true rfl) hq (fun p e s m args below meth c X hr hin => by
  refine aw_callq (F' := if v2 < v1 then (none) else (if v1 < 0 then (none) else (if v0 < v2 then (none) else (some ((), M))))) rfl ?_
  refine aw_iload_n (pc := 0) X 1 dJ7_rangeCheck_23922_0 rfl ?_
  refine aw_iload_n (pc := 1) X 2 dJ7_rangeCheck_23922_1 rfl ?_
  refine aw_icmple (pc := 2) X 46 dJ7_rangeCheck_23922_2 (by decide) ?_ ?_
  · exact aw_none
  · refine aw_iload_n (pc := 46) X 1 dJ7_rangeCheck_23922_46 rfl ?_
    refine aw_ifge (pc := 47) X 59 dJ7_rangeCheck_23922_47 (by decide) ?_ ?_
    · exact aw_none
    · refine aw_iload_n (pc := 59) X 2 dJ7_rangeCheck_23922_59 rfl ?_
      refine aw_iload_n (pc := 60) X 0 dJ7_rangeCheck_23922_60 rfl ?_
      refine aw_icmple (pc := 61) X 73 dJ7_rangeCheck_23922_61 (by decide) ?_ ?_
      · exact aw_none
      · exact aw_vret (pc := 73) X hr dJ7_rangeCheck_23922_73 (Nat.le_of_ble_eq_true rfl) (Nat.le_of_ble_eq_true rfl))
/-! java.util.Arrays.fill -/
def rm_J7_fill_fda19 : Room := { frames := 1, cells := 0, slots := 0, locals := 22 }
theorem hd_J7_fill_fda19 : jHd yJ7_fill_fda19 4 := by unfold jHd; decide +kernel
theorem cl_J7_13 {ρ : Type} {l : Launch} {p : Program} {e : Env} {R : Room} {s : State} {m : MethodId} {args : Array Value} {below : List Frame} {meth : Method} {c : Code} {D : va_G} {cs : JC} {b nL : Nat} {H0 : Heap} {Qf : ρ × JM → State → Prop} {M : JM} {ks sl : Nat} {lv : List (Nat × Value)} {pc : Nat} {st : List Value} {cc : ByteArray} (X : jX p c cc nL s m args RJ7 D cs b meth H0) {z0 : Int32} {z1 : Int32} {z2 : Int32} {K : JM → Option (ρ × JM)} (hrm : jRm rm_J7_rangeCheck_23922 3 R) (hW : (st.map fun v => v.category).sum ≤ 8) {ks2 sl2 : Nat} (hk2 : ks + rm_J7_rangeCheck_23922.cells = ks2) (hs2 : sl + rm_J7_rangeCheck_23922.slots = sl2) (hroom : ks2 ≤ R.cells ∧ sl2 ≤ R.slots) (hdg : decode cc pc = .ok (.invokestatic 13, 3)) (kk : ∀ (M2 : JM), gn M ≤ gn M2 → AWO p l e R s m args below meth c D cs b nL H0 Qf (K M2) M2 ks2 sl2 lv (pc + 3) (st)) : AWO p l e R s m args below meth c D cs b nL H0 Qf (ob (f_J7_rangeCheck_23922 z0 z1 z2 M) (fun _ => K)) M ks sl lv pc (.int z2 :: .int z1 :: .int z0 :: st) := by
  subst hk2
  subst hs2
  exact aw_callS X [.int z0, .int z1, .int z2] st rfl wl_J7_13 wt_J7_rangeCheck_23922 wc_J7_rangeCheck_23922 wn_J7 (n := 3) hd_J7_rangeCheck_23922 rfl hrm hW hroom hdg (t_J7_rangeCheck_23922 z0 z1 z2 M ) (fun _ M2 g _ => kk M2 g)
def f_J7_fill_fda19_L10 : Nat → Nat → Int32 → Int32 → Int32 → JM → Option (Unit × JM)
  | 0, _, _, _, _, _ => none
  | n + 1, a0, v2, v3, v4, M => if v4 < v2 then (if 0 ≤ v4 ∧ v4 < ln a0 then (sq (si M a0 v4 v3) fun M4 => sv (v4 + (1 : Int32)) fun i6 => (f_J7_fill_fda19_L10 n) a0 v2 v3 i6 M4) else none) else (some ((), M))
set_option maxRecDepth 10000 in
set_option maxHeartbeats 4000000 in
theorem t_J7_fill_fda19_L10 {p : Program} {l : Launch} {e : Env} {s : State} {m : MethodId} {args : Array Value} {below : List Frame} {meth : Method} {c : Code} {D : va_G} {cs : JC} {b : Nat} (X : jX p c cJ7_fill_fda19 5 s m args RJ7 D cs b meth s.heap) (hr : meth.sig.returnType = Option.none) : ∀ (n : Nat) (a0 : Nat) (v2 : Int32) (v3 : Int32) (v4 : Int32) (M : JM), oty M a0 1 → AWO p l e rm_J7_fill_fda19 s m args below meth c D cs b 5 s.heap (jE below D cs b evV args s rm_J7_fill_fda19.cells rm_J7_fill_fda19.slots) (f_J7_fill_fda19_L10 n a0 v2 v3 v4 M) M 0 0 [(0, .ref (b + a0)), (2, .int v2), (3, .int v3), (4, .int v4)] 10 [] := by
  intro n
  induction n with
  | zero => intro a0 v2 v3 v4 M h_a0; exact aw_none
  | succ n ih =>
    intro a0 v2 v3 v4 M h_a0
    refine aw_callq (F' := if v4 < v2 then (if 0 ≤ v4 ∧ v4 < ln a0 then (sq (si M a0 v4 v3) fun M4 => sv (v4 + (1 : Int32)) fun i6 => (f_J7_fill_fda19_L10 n) a0 v2 v3 i6 M4) else none) else (some ((), M))) rfl ?_
    refine aw_iload (pc := 10) X 3 dJ7_fill_fda19_10 rfl ?_
    refine aw_iload_n (pc := 12) X 1 dJ7_fill_fda19_12 rfl ?_
    refine aw_icmpge (pc := 13) X 27 dJ7_fill_fda19_13 (by decide) ?_ ?_
    · refine aw_aload_n (pc := 16) X 0 dJ7_fill_fda19_16 rfl ?_
      refine aw_iload (pc := 17) X 3 dJ7_fill_fda19_17 rfl ?_
      refine aw_iload_n (pc := 19) X 2 dJ7_fill_fda19_19 rfl ?_
      refine aw_iastQ (pc := 20) X dJ7_fill_fda19_20 h_a0 (fun M4 g5 => ?_)
      have h_a0 := h_a0.mono g5
      refine aw_iincV (pc := 21) X (fun y => [(4, .int y), (0, .ref (b + a0)), (2, .int v2), (3, .int v3)]) 3 (v := (v4 + (1 : Int32))) dJ7_fill_fda19_21 rfl rfl (by decide) (fun _ => rfl) (fun i6 => ?_)
      refine aw_goto (pc := 24) X 10 dJ7_fill_fda19_24 (by decide) ?_
      refine aw_sub [1, 2, 3, 0] rfl ?_
      exact ih a0 v2 v3 i6 M4 h_a0
    · exact aw_vret (pc := 27) X hr dJ7_fill_fda19_27 (Nat.le_of_ble_eq_true rfl) (Nat.le_of_ble_eq_true rfl)
def f_J7_fill_fda19 (a0 : Nat) (v1 : Int32) (v2 : Int32) (v3 : Int32) (M : JM) : Option (Unit × JM) := ob (f_J7_rangeCheck_23922 (ln a0) v1 v2 M) fun _ M1 => sv v1 fun i3 => f_J7_fill_fda19_L10 FU a0 v2 v3 i3 M1
set_option maxRecDepth 10000 in
set_option maxHeartbeats 4000000 in
theorem t_J7_fill_fda19 {l : Launch} {D : va_G} {cs : JC} {b : Nat} (a0 : Nat) (v1 : Int32) (v2 : Int32) (v3 : Int32) (M : JM) (h_a0 : oty M a0 1) : ∀ q, f_J7_fill_fda19 a0 v1 v2 v3 M = some q → CTy l yJ7_fill_fda19 (.code yJ7_fill_fda19 cJ7_fill_fda19 5 (Option.none) :: GB) rm_J7_fill_fda19 D cs b evV [.ref (b + a0), .int v1, .int v2, .int v3] M rm_J7_fill_fda19.cells rm_J7_fill_fda19.slots q := fun q hq => ct_of [(0, .ref (b + a0)), (1, .int v1), (2, .int v2), (3, .int v3)] rfl rfl (Nat.le_of_ble_eq_true rfl) hq (fun p e s m args below meth c X hr hin => by
  refine aw_callq (F' := ob (f_J7_rangeCheck_23922 (ln a0) v1 v2 M) fun _ M1 => sv v1 fun i3 => f_J7_fill_fda19_L10 FU a0 v2 v3 i3 M1) rfl ?_
  refine aw_aload_n (pc := 0) X 0 dJ7_fill_fda19_0 rfl ?_
  refine aw_alen (pc := 1) X dJ7_fill_fda19_1 h_a0 ?_
  refine aw_iload_n (pc := 2) X 1 dJ7_fill_fda19_2 rfl ?_
  refine aw_iload_n (pc := 3) X 2 dJ7_fill_fda19_3 rfl ?_
  refine cl_J7_13 (pc := 4) X ⟨Nat.le_of_ble_eq_true rfl, Nat.le_of_ble_eq_true rfl⟩ (Nat.le_of_ble_eq_true rfl) (ks2 := 0) (sl2 := 0) rfl rfl ⟨(Nat.le_of_ble_eq_true rfl), (Nat.le_of_ble_eq_true rfl)⟩ dJ7_fill_fda19_4  (fun M1 g2 => ?_)
  have h_a0 := h_a0.mono g2
  refine aw_iload_n (pc := 7) X 1 dJ7_fill_fda19_7 rfl ?_
  refine aw_istoreV (pc := 8) X (fun y => [(4, .int y), (0, .ref (b + a0)), (1, .int v1), (2, .int v2), (3, .int v3)]) dJ7_fill_fda19_8 (by decide) (fun _ => rfl) (fun i3 => ?_)
  refine aw_sub [1, 3, 4, 0] rfl ?_
  exact t_J7_fill_fda19_L10 X hr FU a0 v2 v3 i3 M1 h_a0)
/-! ReportBlocks$Category.putItem -/
def rm_X1_putItem : Room := { frames := 2, cells := 0, slots := 0, locals := 46 }
theorem hd_X1_putItem : jHd yX1_putItem 3 := by unfold jHd; decide +kernel
theorem gf_X1_19 {ρ : Type} {l : Launch} {p : Program} {e : Env} {R : Room} {s : State} {m : MethodId} {args : Array Value} {below : List Frame} {meth : Method} {c : Code} {D : va_G} {cs : JC} {b nL : Nat} {H0 : Heap} {Qf : ρ × JM → State → Prop} {M : JM} {ks sl : Nat} {lv : List (Nat × Value)} {pc : Nat} {st : List Value} {cc : ByteArray} {k : Nat} (X : jX p c cc nL s m args RX1 D cs b meth H0) {K : Nat → Option (ρ × JM)} (hdg : decode cc pc = .ok (.getfield 19, 3)) (ho : oty M k 11) (kk : ∀ r : Nat, oty M r 1 → AWO p l e R s m args below meth c D cs b nL H0 Qf (K r) M ks sl lv (pc + 3) (.ref (b + r) :: st)) : AWO p l e R s m args below meth c D cs b nL H0 Qf (orf (gr M k 2) K) M ks sl lv pc (.ref (b + k) :: st) := aw_getR (ci := 1) (τ := 1) X 2 rfl gy_X1 (by decide) (by decide) rfl rfl (by decide) wf_X1_19 hdg ho kk
theorem gf_X1_22 {ρ : Type} {l : Launch} {p : Program} {e : Env} {R : Room} {s : State} {m : MethodId} {args : Array Value} {below : List Frame} {meth : Method} {c : Code} {D : va_G} {cs : JC} {b nL : Nat} {H0 : Heap} {Qf : ρ × JM → State → Prop} {M : JM} {ks sl : Nat} {lv : List (Nat × Value)} {pc : Nat} {st : List Value} {cc : ByteArray} {k : Nat} (X : jX p c cc nL s m args RX1 D cs b meth H0) {K : Nat → Option (ρ × JM)} (hdg : decode cc pc = .ok (.getfield 22, 3)) (ho : oty M k 11) (kk : ∀ r : Nat, oty M r 1 → AWO p l e R s m args below meth c D cs b nL H0 Qf (K r) M ks sl lv (pc + 3) (.ref (b + r) :: st)) : AWO p l e R s m args below meth c D cs b nL H0 Qf (orf (gr M k 3) K) M ks sl lv pc (.ref (b + k) :: st) := aw_getR (ci := 1) (τ := 1) X 3 rfl gy_X1 (by decide) (by decide) rfl rfl (by decide) wf_X1_22 hdg ho kk
theorem cl_X1_31 {ρ : Type} {l : Launch} {p : Program} {e : Env} {R : Room} {s : State} {m : MethodId} {args : Array Value} {below : List Frame} {meth : Method} {c : Code} {D : va_G} {cs : JC} {b nL : Nat} {H0 : Heap} {Qf : ρ × JM → State → Prop} {M : JM} {ks sl : Nat} {lv : List (Nat × Value)} {pc : Nat} {st : List Value} {cc : ByteArray} (X : jX p c cc nL s m args RX1 D cs b meth H0) {z0 : Nat} {z1 : Int32} {z2 : Int32} {z3 : Int32} {K : JM → Option (ρ × JM)} (hrm : jRm rm_J7_fill_fda19 5 R) (hW : (st.map fun v => v.category).sum ≤ 8) {ks2 sl2 : Nat} (hk2 : ks + rm_J7_fill_fda19.cells = ks2) (hs2 : sl + rm_J7_fill_fda19.slots = sl2) (hroom : ks2 ≤ R.cells ∧ sl2 ≤ R.slots) (hdg : decode cc pc = .ok (.invokestatic 31, 3)) (h0 : oty M z0 1) (kk : ∀ (M2 : JM), gn M ≤ gn M2 → AWO p l e R s m args below meth c D cs b nL H0 Qf (K M2) M2 ks2 sl2 lv (pc + 3) (st)) : AWO p l e R s m args below meth c D cs b nL H0 Qf (ob (f_J7_fill_fda19 z0 z1 z2 z3 M) (fun _ => K)) M ks sl lv pc (.int z3 :: .int z2 :: .int z1 :: .ref (b + z0) :: st) := by
  subst hk2
  subst hs2
  exact aw_callS X [.ref (b + z0), .int z1, .int z2, .int z3] st rfl wl_X1_31 wt_J7_fill_fda19 wc_J7_fill_fda19 wn_J7 (n := 4) hd_J7_fill_fda19 rfl hrm hW hroom hdg (t_J7_fill_fda19 z0 z1 z2 z3 M h0) (fun _ M2 g _ => kk M2 g)
def f_X1_putItem_L36 : Nat → Int32 → Int32 → Int32 → Nat → JM → Option (Unit × JM) := fun a0 v1 u0 u1 w2 M => if 0 ≤ u1 ∧ u1 < ln w2 then (sq (si M w2 u1 u0) fun M5 => orf (gr M5 a0 3) fun r7 => ob (f_J7_fill_fda19 r7 (v1 * (14 : Int32)) ((v1 + (1 : Int32)) * (14 : Int32)) (0 : Int32) M5) fun _ M8 => some ((), M8)) else none
set_option maxRecDepth 10000 in
set_option maxHeartbeats 4000000 in
theorem t_X1_putItem_L36 {p : Program} {l : Launch} {e : Env} {s : State} {m : MethodId} {args : Array Value} {below : List Frame} {meth : Method} {c : Code} {D : va_G} {cs : JC} {b : Nat} (X : jX p c cX1_putItem 4 s m args RX1 D cs b meth s.heap) (hr : meth.sig.returnType = Option.none) : ∀ (a0 : Nat) (v1 : Int32) (u0 : Int32) (u1 : Int32) (w2 : Nat) (M : JM), oty M a0 11 → oty M w2 1 → AWO p l e rm_X1_putItem s m args below meth c D cs b 4 s.heap (jE below D cs b evV args s rm_X1_putItem.cells rm_X1_putItem.slots) (f_X1_putItem_L36 a0 v1 u0 u1 w2 M) M 0 0 [(0, .ref (b + a0)), (1, .int v1)] 36 [.int u0, .int u1, .ref (b + w2)] := by
  intro a0 v1 u0 u1 w2 M h_a0 h_w2
  refine aw_callq (F' := if 0 ≤ u1 ∧ u1 < ln w2 then (sq (si M w2 u1 u0) fun M5 => orf (gr M5 a0 3) fun r7 => ob (f_J7_fill_fda19 r7 (v1 * (14 : Int32)) ((v1 + (1 : Int32)) * (14 : Int32)) (0 : Int32) M5) fun _ M8 => some ((), M8)) else none) rfl ?_
  refine aw_iastQ (pc := 36) X dX1_putItem_36 h_w2 (fun M5 g6 => ?_)
  have h_a0 := h_a0.mono g6
  refine aw_aload_n (pc := 37) X 0 dX1_putItem_37 rfl ?_
  refine gf_X1_22 (pc := 38) X dX1_putItem_38 h_a0 (fun r7 h_r7 => ?_)
  refine aw_iload_n (pc := 41) X 1 dX1_putItem_41 rfl ?_
  refine aw_bipush (pc := 42) X (14 : Int32) dX1_putItem_42 (by decide) ?_
  refine aw_imul (pc := 44) X dX1_putItem_44 ?_
  refine aw_iload_n (pc := 45) X 1 dX1_putItem_45 rfl ?_
  refine aw_iconst (pc := 46) X (1 : Int32) dX1_putItem_46 (by decide) ?_
  refine aw_iadd (pc := 47) X dX1_putItem_47 ?_
  refine aw_bipush (pc := 48) X (14 : Int32) dX1_putItem_48 (by decide) ?_
  refine aw_imul (pc := 50) X dX1_putItem_50 ?_
  refine aw_iconst (pc := 51) X (0 : Int32) dX1_putItem_51 (by decide) ?_
  refine cl_X1_31 (pc := 52) X ⟨Nat.le_of_ble_eq_true rfl, Nat.le_of_ble_eq_true rfl⟩ (Nat.le_of_ble_eq_true rfl) (ks2 := 0) (sl2 := 0) rfl rfl ⟨(Nat.le_of_ble_eq_true rfl), (Nat.le_of_ble_eq_true rfl)⟩ dX1_putItem_52 h_r7 (fun M8 g9 => ?_)
  have h_a0 := h_a0.mono g9
  exact aw_vret (pc := 55) X hr dX1_putItem_55 (Nat.le_of_ble_eq_true rfl) (Nat.le_of_ble_eq_true rfl)
def f_X1_putItem_L31 : Nat → Int32 → Int32 → Int32 → Nat → JM → Option (Unit × JM) := fun a0 v1 v3 u0 w1 M => f_X1_putItem_L36 a0 v1 v3 u0 w1 M
set_option maxRecDepth 10000 in
set_option maxHeartbeats 4000000 in
theorem t_X1_putItem_L31 {p : Program} {l : Launch} {e : Env} {s : State} {m : MethodId} {args : Array Value} {below : List Frame} {meth : Method} {c : Code} {D : va_G} {cs : JC} {b : Nat} (X : jX p c cX1_putItem 4 s m args RX1 D cs b meth s.heap) (hr : meth.sig.returnType = Option.none) : ∀ (a0 : Nat) (v1 : Int32) (v3 : Int32) (u0 : Int32) (w1 : Nat) (M : JM), oty M a0 11 → oty M w1 1 → AWO p l e rm_X1_putItem s m args below meth c D cs b 4 s.heap (jE below D cs b evV args s rm_X1_putItem.cells rm_X1_putItem.slots) (f_X1_putItem_L31 a0 v1 v3 u0 w1 M) M 0 0 [(0, .ref (b + a0)), (1, .int v1), (3, .int v3)] 31 [.int u0, .ref (b + w1)] := by
  intro a0 v1 v3 u0 w1 M h_a0 h_w1
  refine aw_callq (F' := f_X1_putItem_L36 a0 v1 v3 u0 w1 M) rfl ?_
  refine aw_iload_n (pc := 31) X 2 dX1_putItem_31 rfl ?_
  refine aw_goto (pc := 32) X 36 dX1_putItem_32 (by decide) ?_
  refine aw_sub [0, 1] rfl ?_
  exact t_X1_putItem_L36 X hr a0 v1 v3 u0 w1 M h_a0 h_w1
def f_X1_putItem_L16 : Nat → Int32 → Int32 → Int32 → Int32 → Int32 → Nat → JM → Option (Unit × JM) := fun a0 v1 v2 v3 u0 u1 w2 M => if 0 ≤ u1 ∧ u1 < ln w2 then (sq (si M w2 u1 u0) fun M2 => orf (gr M2 a0 2) fun r4 => if v2 = 0 then (f_X1_putItem_L31 a0 v1 v3 v1 r4 M2) else (if v2 = (2 : Int32) then (f_X1_putItem_L31 a0 v1 v3 v1 r4 M2) else (f_X1_putItem_L36 a0 v1 (0 : Int32) v1 r4 M2))) else none
set_option maxRecDepth 10000 in
set_option maxHeartbeats 4000000 in
theorem t_X1_putItem_L16 {p : Program} {l : Launch} {e : Env} {s : State} {m : MethodId} {args : Array Value} {below : List Frame} {meth : Method} {c : Code} {D : va_G} {cs : JC} {b : Nat} (X : jX p c cX1_putItem 4 s m args RX1 D cs b meth s.heap) (hr : meth.sig.returnType = Option.none) : ∀ (a0 : Nat) (v1 : Int32) (v2 : Int32) (v3 : Int32) (u0 : Int32) (u1 : Int32) (w2 : Nat) (M : JM), oty M a0 11 → oty M w2 1 → AWO p l e rm_X1_putItem s m args below meth c D cs b 4 s.heap (jE below D cs b evV args s rm_X1_putItem.cells rm_X1_putItem.slots) (f_X1_putItem_L16 a0 v1 v2 v3 u0 u1 w2 M) M 0 0 [(0, .ref (b + a0)), (1, .int v1), (2, .int v2), (3, .int v3)] 16 [.int u0, .int u1, .ref (b + w2)] := by
  intro a0 v1 v2 v3 u0 u1 w2 M h_a0 h_w2
  refine aw_callq (F' := if 0 ≤ u1 ∧ u1 < ln w2 then (sq (si M w2 u1 u0) fun M2 => orf (gr M2 a0 2) fun r4 => if v2 = 0 then (f_X1_putItem_L31 a0 v1 v3 v1 r4 M2) else (if v2 = (2 : Int32) then (f_X1_putItem_L31 a0 v1 v3 v1 r4 M2) else (f_X1_putItem_L36 a0 v1 (0 : Int32) v1 r4 M2))) else none) rfl ?_
  refine aw_iastQ (pc := 16) X dX1_putItem_16 h_w2 (fun M2 g3 => ?_)
  have h_a0 := h_a0.mono g3
  refine aw_aload_n (pc := 17) X 0 dX1_putItem_17 rfl ?_
  refine gf_X1_19 (pc := 18) X dX1_putItem_18 h_a0 (fun r4 h_r4 => ?_)
  refine aw_iload_n (pc := 21) X 1 dX1_putItem_21 rfl ?_
  refine aw_iload_n (pc := 22) X 2 dX1_putItem_22 rfl ?_
  refine aw_ifeq (pc := 23) X 31 dX1_putItem_23 (by decide) ?_ ?_
  · refine aw_sub [0, 1, 3] rfl ?_
    exact t_X1_putItem_L31 X hr a0 v1 v3 v1 r4 M2 h_a0 h_r4
  · refine aw_iload_n (pc := 26) X 2 dX1_putItem_26 rfl ?_
    refine aw_iconst (pc := 27) X (2 : Int32) dX1_putItem_27 (by decide) ?_
    refine aw_icmpne (pc := 28) X 35 dX1_putItem_28 (by decide) ?_ ?_
    · refine aw_sub [0, 1, 3] rfl ?_
      exact t_X1_putItem_L31 X hr a0 v1 v3 v1 r4 M2 h_a0 h_r4
    · refine aw_iconst (pc := 35) X (0 : Int32) dX1_putItem_35 (by decide) ?_
      refine aw_sub [0, 1] rfl ?_
      exact t_X1_putItem_L36 X hr a0 v1 (0 : Int32) v1 r4 M2 h_a0 h_r4
def f_X1_putItem (a0 : Nat) (v1 : Int32) (v2 : Int32) (v3 : Int32) (M : JM) : Option (Unit × JM) := orf (gr M a0 1) fun r1 => if v2 = (-1 : Int32) then (f_X1_putItem_L16 a0 v1 v2 v3 (-9 : Int32) v1 r1 M) else (f_X1_putItem_L16 a0 v1 v2 v3 v2 v1 r1 M)
set_option maxRecDepth 10000 in
set_option maxHeartbeats 4000000 in
theorem t_X1_putItem {l : Launch} {D : va_G} {cs : JC} {b : Nat} (a0 : Nat) (v1 : Int32) (v2 : Int32) (v3 : Int32) (M : JM) (h_a0 : oty M a0 11) : ∀ q, f_X1_putItem a0 v1 v2 v3 M = some q → CTy l yX1_putItem (.code yX1_putItem cX1_putItem 4 (Option.none) :: GB) rm_X1_putItem D cs b evV [.ref (b + a0), .int v1, .int v2, .int v3] M rm_X1_putItem.cells rm_X1_putItem.slots q := fun q hq => ct_of [(0, .ref (b + a0)), (1, .int v1), (2, .int v2), (3, .int v3)] rfl rfl (Nat.le_of_ble_eq_true rfl) hq (fun p e s m args below meth c X hr hin => by
  refine aw_callq (F' := orf (gr M a0 1) fun r1 => if v2 = (-1 : Int32) then (f_X1_putItem_L16 a0 v1 v2 v3 (-9 : Int32) v1 r1 M) else (f_X1_putItem_L16 a0 v1 v2 v3 v2 v1 r1 M)) rfl ?_
  refine aw_aload_n (pc := 0) X 0 dX1_putItem_0 rfl ?_
  refine gf_X1_15 (pc := 1) X dX1_putItem_1 h_a0 (fun r1 h_r1 => ?_)
  refine aw_iload_n (pc := 4) X 1 dX1_putItem_4 rfl ?_
  refine aw_iload_n (pc := 5) X 2 dX1_putItem_5 rfl ?_
  refine aw_iconst (pc := 6) X (-1 : Int32) dX1_putItem_6 (by decide) ?_
  refine aw_icmpne (pc := 7) X 15 dX1_putItem_7 (by decide) ?_ ?_
  · refine aw_bipush (pc := 10) X (-9 : Int32) dX1_putItem_10 (by decide) ?_
    refine aw_goto (pc := 12) X 16 dX1_putItem_12 (by decide) ?_
    refine aw_sub [0, 1, 2, 3] rfl ?_
    exact t_X1_putItem_L16 X hr a0 v1 v2 v3 (-9 : Int32) v1 r1 M h_a0 h_r1
  · refine aw_iload_n (pc := 15) X 2 dX1_putItem_15 rfl ?_
    refine aw_sub [0, 1, 2, 3] rfl ?_
    exact t_X1_putItem_L16 X hr a0 v1 v2 v3 v2 v1 r1 M h_a0 h_r1)
/-! ReportBlocks.item -/
def rm_X7_item : Room := { frames := 3, cells := 0, slots := 0, locals := 69 }
theorem hd_X7_item : jHd yX7_item 4 := by unfold jHd; decide +kernel
theorem cl_X7_66 {ρ : Type} {l : Launch} {p : Program} {e : Env} {R : Room} {s : State} {m : MethodId} {args : Array Value} {below : List Frame} {meth : Method} {c : Code} {D : va_G} {cs : JC} {b nL : Nat} {H0 : Heap} {Qf : ρ × JM → State → Prop} {M : JM} {ks sl : Nat} {lv : List (Nat × Value)} {pc : Nat} {st : List Value} {cc : ByteArray} (X : jX p c cc nL s m args RX7 D cs b meth H0) {z0 : Nat} {z1 : Int32} {KN : JM → Option (ρ × JM)} {KS : Nat → JM → Option (ρ × JM)} (hrm : jRm rm_X7_categoryAt 2 R) (hW : (st.map fun v => v.category).sum ≤ 8) {ks2 sl2 : Nat} (hk2 : ks + rm_X7_categoryAt.cells = ks2) (hs2 : sl + rm_X7_categoryAt.slots = sl2) (hroom : ks2 ≤ R.cells ∧ sl2 ≤ R.slots) (hdg : decode cc pc = .ok (.invokevirtual 66, 3)) (h0 : oty M z0 17) (kn : ∀ (M2 : JM), gn M ≤ gn M2 → AWO p l e R s m args below meth c D cs b nL H0 Qf (KN M2) M2 ks2 sl2 lv (pc + 3) (.null :: st)) (kk : ∀ (x : Nat) (M2 : JM), gn M ≤ gn M2 → oty M2 x 11 → AWO p l e R s m args below meth c D cs b nL H0 Qf (KS x M2) M2 ks2 sl2 lv (pc + 3) (.ref (b + x) :: st)) : AWO p l e R s m args below meth c D cs b nL H0 Qf (ob (f_X7_categoryAt z0 z1 M) (fun o M2 => oca o (KN M2) (fun x => KS x M2))) M ks sl lv pc (.int z1 :: .ref (b + z0) :: st) := by
  subst hk2
  subst hs2
  exact aw_callV (ci := 7) X [.int z1] st rfl rfl wl_X7_66 wi_X7_categoryAt wv_X7_categoryAt wc_X7_categoryAt wn_X7 (n := 1) hd_X7_categoryAt rfl hrm hW hroom hdg h0 (t_X7_categoryAt z0 z1 M h0) (fun o M2 g ht => by cases o with | none => exact kn M2 g | some x => exact kk x M2 g (ht x rfl))
theorem cl_X7_70 {ρ : Type} {l : Launch} {p : Program} {e : Env} {R : Room} {s : State} {m : MethodId} {args : Array Value} {below : List Frame} {meth : Method} {c : Code} {D : va_G} {cs : JC} {b nL : Nat} {H0 : Heap} {Qf : ρ × JM → State → Prop} {M : JM} {ks sl : Nat} {lv : List (Nat × Value)} {pc : Nat} {st : List Value} {cc : ByteArray} (X : jX p c cc nL s m args RX7 D cs b meth H0) {z0 : Int32} {K : Bool → JM → Option (ρ × JM)} (hrm : jRm rm_X7_isPlace 1 R) (hW : (st.map fun v => v.category).sum ≤ 8) {ks2 sl2 : Nat} (hk2 : ks + rm_X7_isPlace.cells = ks2) (hs2 : sl + rm_X7_isPlace.slots = sl2) (hroom : ks2 ≤ R.cells ∧ sl2 ≤ R.slots) (hdg : decode cc pc = .ok (.invokestatic 70, 3)) (kk : ∀ (r : Bool) (M2 : JM), gn M ≤ gn M2 → AWO p l e R s m args below meth c D cs b nL H0 Qf (K r M2) M2 ks2 sl2 lv (pc + 3) (.int (bI r) :: st)) : AWO p l e R s m args below meth c D cs b nL H0 Qf (ob (f_X7_isPlace z0 M) K) M ks sl lv pc (.int z0 :: st) := by
  subst hk2
  subst hs2
  exact aw_callS X [.int z0] st rfl wl_X7_70 wt_X7_isPlace wc_X7_isPlace wn_X7 (n := 1) hd_X7_isPlace rfl hrm hW hroom hdg (t_X7_isPlace z0 M ) (fun r M2 g _ => kk r M2 g)
theorem cl_X7_74 {ρ : Type} {l : Launch} {p : Program} {e : Env} {R : Room} {s : State} {m : MethodId} {args : Array Value} {below : List Frame} {meth : Method} {c : Code} {D : va_G} {cs : JC} {b nL : Nat} {H0 : Heap} {Qf : ρ × JM → State → Prop} {M : JM} {ks sl : Nat} {lv : List (Nat × Value)} {pc : Nat} {st : List Value} {cc : ByteArray} (X : jX p c cc nL s m args RX7 D cs b meth H0) {z0 : Int32} {z1 : Int32} {K : Bool → JM → Option (ρ × JM)} (hrm : jRm rm_X7_isItem 2 R) (hW : (st.map fun v => v.category).sum ≤ 8) {ks2 sl2 : Nat} (hk2 : ks + rm_X7_isItem.cells = ks2) (hs2 : sl + rm_X7_isItem.slots = sl2) (hroom : ks2 ≤ R.cells ∧ sl2 ≤ R.slots) (hdg : decode cc pc = .ok (.invokestatic 74, 3)) (kk : ∀ (r : Bool) (M2 : JM), gn M ≤ gn M2 → AWO p l e R s m args below meth c D cs b nL H0 Qf (K r M2) M2 ks2 sl2 lv (pc + 3) (.int (bI r) :: st)) : AWO p l e R s m args below meth c D cs b nL H0 Qf (ob (f_X7_isItem z0 z1 M) K) M ks sl lv pc (.int z1 :: .int z0 :: st) := by
  subst hk2
  subst hs2
  exact aw_callS X [.int z0, .int z1] st rfl wl_X7_74 wt_X7_isItem wc_X7_isItem wn_X7 (n := 2) hd_X7_isItem rfl hrm hW hroom hdg (t_X7_isItem z0 z1 M ) (fun r M2 g _ => kk r M2 g)
theorem cl_X7_78 {ρ : Type} {l : Launch} {p : Program} {e : Env} {R : Room} {s : State} {m : MethodId} {args : Array Value} {below : List Frame} {meth : Method} {c : Code} {D : va_G} {cs : JC} {b nL : Nat} {H0 : Heap} {Qf : ρ × JM → State → Prop} {M : JM} {ks sl : Nat} {lv : List (Nat × Value)} {pc : Nat} {st : List Value} {cc : ByteArray} (X : jX p c cc nL s m args RX7 D cs b meth H0) {z0 : Nat} {z1 : Int32} {K : Bool → JM → Option (ρ × JM)} (hrm : jRm rm_X7_isInUse 2 R) (hW : (st.map fun v => v.category).sum ≤ 8) {ks2 sl2 : Nat} (hk2 : ks + rm_X7_isInUse.cells = ks2) (hs2 : sl + rm_X7_isInUse.slots = sl2) (hroom : ks2 ≤ R.cells ∧ sl2 ≤ R.slots) (hdg : decode cc pc = .ok (.invokevirtual 78, 3)) (h0 : oty M z0 17) (kk : ∀ (r : Bool) (M2 : JM), gn M ≤ gn M2 → AWO p l e R s m args below meth c D cs b nL H0 Qf (K r M2) M2 ks2 sl2 lv (pc + 3) (.int (bI r) :: st)) : AWO p l e R s m args below meth c D cs b nL H0 Qf (ob (f_X7_isInUse z0 z1 M) K) M ks sl lv pc (.int z1 :: .ref (b + z0) :: st) := by
  subst hk2
  subst hs2
  exact aw_callV (ci := 7) X [.int z1] st rfl rfl wl_X7_78 wi_X7_isInUse wv_X7_isInUse wc_X7_isInUse wn_X7 (n := 1) hd_X7_isInUse rfl hrm hW hroom hdg h0 (t_X7_isInUse z0 z1 M h0) (fun r M2 g _ => kk r M2 g)
theorem gf_X7_81 {ρ : Type} {l : Launch} {p : Program} {e : Env} {R : Room} {s : State} {m : MethodId} {args : Array Value} {below : List Frame} {meth : Method} {c : Code} {D : va_G} {cs : JC} {b nL : Nat} {H0 : Heap} {Qf : ρ × JM → State → Prop} {M : JM} {ks sl : Nat} {lv : List (Nat × Value)} {pc : Nat} {st : List Value} {cc : ByteArray} {k : Nat} (X : jX p c cc nL s m args RX7 D cs b meth H0) {K : Nat → Option (ρ × JM)} (hdg : decode cc pc = .ok (.getfield 81, 3)) (ho : oty M k 11) (kk : ∀ r : Nat, oty M r 1 → AWO p l e R s m args below meth c D cs b nL H0 Qf (K r) M ks sl lv (pc + 3) (.ref (b + r) :: st)) : AWO p l e R s m args below meth c D cs b nL H0 Qf (orf (gr M k 1) K) M ks sl lv pc (.ref (b + k) :: st) := aw_getR (ci := 1) (τ := 1) X 1 rfl gy_X1 (by decide) (by decide) rfl rfl (by decide) wf_X7_81 hdg ho kk
theorem cl_X7_85 {ρ : Type} {l : Launch} {p : Program} {e : Env} {R : Room} {s : State} {m : MethodId} {args : Array Value} {below : List Frame} {meth : Method} {c : Code} {D : va_G} {cs : JC} {b nL : Nat} {H0 : Heap} {Qf : ρ × JM → State → Prop} {M : JM} {ks sl : Nat} {lv : List (Nat × Value)} {pc : Nat} {st : List Value} {cc : ByteArray} (X : jX p c cc nL s m args RX7 D cs b meth H0) {z0 : Nat} {z1 : Int32} {z2 : Int32} {z3 : Int32} {K : JM → Option (ρ × JM)} (hrm : jRm rm_X1_putItem 4 R) (hW : (st.map fun v => v.category).sum ≤ 8) {ks2 sl2 : Nat} (hk2 : ks + rm_X1_putItem.cells = ks2) (hs2 : sl + rm_X1_putItem.slots = sl2) (hroom : ks2 ≤ R.cells ∧ sl2 ≤ R.slots) (hdg : decode cc pc = .ok (.invokevirtual 85, 3)) (h0 : oty M z0 11) (kk : ∀ (M2 : JM), gn M ≤ gn M2 → AWO p l e R s m args below meth c D cs b nL H0 Qf (K M2) M2 ks2 sl2 lv (pc + 3) (st)) : AWO p l e R s m args below meth c D cs b nL H0 Qf (ob (f_X1_putItem z0 z1 z2 z3 M) (fun _ => K)) M ks sl lv pc (.int z3 :: .int z2 :: .int z1 :: .ref (b + z0) :: st) := by
  subst hk2
  subst hs2
  exact aw_callV (ci := 1) X [.int z1, .int z2, .int z3] st rfl rfl wl_X7_85 wi_X1_putItem wv_X1_putItem wc_X1_putItem wn_X1 (n := 3) hd_X1_putItem rfl hrm hW hroom hdg h0 (t_X1_putItem z0 z1 z2 z3 M h0) (fun _ M2 g _ => kk M2 g)
def f_X7_item (a0 : Nat) (v1 : Int32) (v2 : Int32) (v3 : Int32) (v4 : Int32) (M : JM) : Option (Int32 × JM) := ob (f_X7_categoryAt a0 v1 M) fun o4 M1 => oca o4 (some ((-1 : Int32), M1)) fun r3 => ob (f_X7_isPlace v2 M1) fun r7 M5 => if r7 = true then (ob (f_X7_isItem v3 v4 M5) fun r10 M8 => if r10 = true then (ob (f_X7_isInUse a0 v1 M8) fun r13 M11 => if r13 = true then (some ((-2 : Int32), M11)) else (orf (gr M11 r3 1) fun r14 => if 0 ≤ v2 ∧ v2 < ln r14 then (sv (gi M11 r14 v2) fun i15 => ob (f_X1_putItem r3 v2 v3 v4 M11) fun _ M16 => some (i15, M16)) else none)) else (some ((-1 : Int32), M8))) else (some ((-1 : Int32), M5))
set_option maxRecDepth 10000 in
set_option maxHeartbeats 4000000 in
theorem t_X7_item {l : Launch} {D : va_G} {cs : JC} {b : Nat} (a0 : Nat) (v1 : Int32) (v2 : Int32) (v3 : Int32) (v4 : Int32) (M : JM) (h_a0 : oty M a0 17) : ∀ q, f_X7_item a0 v1 v2 v3 v4 M = some q → CTy l yX7_item (.code yX7_item cX7_item 7 (Option.some Jvm.ClassFile.FieldType.int) :: GB) rm_X7_item D cs b evI [.ref (b + a0), .int v1, .int v2, .int v3, .int v4] M rm_X7_item.cells rm_X7_item.slots q := fun q hq => ct_of [(0, .ref (b + a0)), (1, .int v1), (2, .int v2), (3, .int v3), (4, .int v4)] rfl rfl (Nat.le_of_ble_eq_true rfl) hq (fun p e s m args below meth c X hr hin => by
  refine aw_callq (F' := ob (f_X7_categoryAt a0 v1 M) fun o4 M1 => oca o4 (some ((-1 : Int32), M1)) fun r3 => ob (f_X7_isPlace v2 M1) fun r7 M5 => if r7 = true then (ob (f_X7_isItem v3 v4 M5) fun r10 M8 => if r10 = true then (ob (f_X7_isInUse a0 v1 M8) fun r13 M11 => if r13 = true then (some ((-2 : Int32), M11)) else (orf (gr M11 r3 1) fun r14 => if 0 ≤ v2 ∧ v2 < ln r14 then (sv (gi M11 r14 v2) fun i15 => ob (f_X1_putItem r3 v2 v3 v4 M11) fun _ M16 => some (i15, M16)) else none)) else (some ((-1 : Int32), M8))) else (some ((-1 : Int32), M5))) rfl ?_
  refine aw_aload_n (pc := 0) X 0 dX7_item_0 rfl ?_
  refine aw_iload_n (pc := 1) X 1 dX7_item_1 rfl ?_
  refine cl_X7_66 (pc := 2) X ⟨Nat.le_of_ble_eq_true rfl, Nat.le_of_ble_eq_true rfl⟩ (Nat.le_of_ble_eq_true rfl) (ks2 := 0) (sl2 := 0) rfl rfl ⟨(Nat.le_of_ble_eq_true rfl), (Nat.le_of_ble_eq_true rfl)⟩ dX7_item_2 h_a0 (fun M1 g2 => ?_) (fun r3 M1 g2 h_r3 => ?_)
  · have h_a0 := h_a0.mono g2
    refine aw_astore0 (pc := 5) X [(5, .null), (0, .ref (b + a0)), (1, .int v1), (2, .int v2), (3, .int v3), (4, .int v4)] dX7_item_5 (by decide) rfl ?_
    refine aw_aload0 (pc := 7) X 0 dX7_item_7 rfl ?_
    refine aw_ifnull_n (pc := 9) X 28 dX7_item_9 (by decide) ?_
    refine aw_iconst (pc := 28) X (-1 : Int32) dX7_item_28 (by decide) ?_
    exact aw_iret (pc := 29) X hr dX7_item_29 (Nat.le_of_ble_eq_true rfl) (Nat.le_of_ble_eq_true rfl)
  · have h_a0 := h_a0.mono g2
    refine aw_astore (pc := 5) X [(5, .ref (b + r3)), (0, .ref (b + a0)), (1, .int v1), (2, .int v2), (3, .int v3), (4, .int v4)] dX7_item_5 (by decide) rfl ?_
    refine aw_aload (pc := 7) X 0 dX7_item_7 rfl ?_
    refine aw_ifnull_r (pc := 9) X dX7_item_9 ?_
    refine aw_iload_n (pc := 12) X 3 dX7_item_12 rfl ?_
    refine cl_X7_70 (pc := 13) X ⟨Nat.le_of_ble_eq_true rfl, Nat.le_of_ble_eq_true rfl⟩ (Nat.le_of_ble_eq_true rfl) (ks2 := 0) (sl2 := 0) rfl rfl ⟨(Nat.le_of_ble_eq_true rfl), (Nat.le_of_ble_eq_true rfl)⟩ dX7_item_13  (fun r7 M5 g6 => ?_)
    have h_a0 := h_a0.mono g6
    have h_r3 := h_r3.mono g6
    refine aw_ifeqB (pc := 16) X 28 dX7_item_16 (by decide) ?_ ?_
    · refine aw_iload_n (pc := 19) X 4 dX7_item_19 rfl ?_
      refine aw_iload (pc := 20) X 5 dX7_item_20 rfl ?_
      refine cl_X7_74 (pc := 22) X ⟨Nat.le_of_ble_eq_true rfl, Nat.le_of_ble_eq_true rfl⟩ (Nat.le_of_ble_eq_true rfl) (ks2 := 0) (sl2 := 0) rfl rfl ⟨(Nat.le_of_ble_eq_true rfl), (Nat.le_of_ble_eq_true rfl)⟩ dX7_item_22  (fun r10 M8 g9 => ?_)
      have h_a0 := h_a0.mono g9
      have h_r3 := h_r3.mono g9
      refine aw_ifneB (pc := 25) X 30 dX7_item_25 (by decide) ?_ ?_
      · refine aw_aload_n (pc := 30) X 1 dX7_item_30 rfl ?_
        refine aw_iload_n (pc := 31) X 2 dX7_item_31 rfl ?_
        refine cl_X7_78 (pc := 32) X ⟨Nat.le_of_ble_eq_true rfl, Nat.le_of_ble_eq_true rfl⟩ (Nat.le_of_ble_eq_true rfl) (ks2 := 0) (sl2 := 0) rfl rfl ⟨(Nat.le_of_ble_eq_true rfl), (Nat.le_of_ble_eq_true rfl)⟩ dX7_item_32 h_a0 (fun r13 M11 g12 => ?_)
        have h_a0 := h_a0.mono g12
        have h_r3 := h_r3.mono g12
        refine aw_ifeqB (pc := 35) X 41 dX7_item_35 (by decide) ?_ ?_
        · refine aw_bipush (pc := 38) X (-2 : Int32) dX7_item_38 (by decide) ?_
          exact aw_iret (pc := 40) X hr dX7_item_40 (Nat.le_of_ble_eq_true rfl) (Nat.le_of_ble_eq_true rfl)
        · refine aw_aload (pc := 41) X 0 dX7_item_41 rfl ?_
          refine gf_X7_81 (pc := 43) X dX7_item_43 h_r3 (fun r14 h_r14 => ?_)
          refine aw_iload_n (pc := 46) X 3 dX7_item_46 rfl ?_
          refine aw_iald (pc := 47) X dX7_item_47 h_r14 ?_
          refine aw_istoreV (pc := 48) X (fun y => [(6, .int y), (5, .ref (b + r3)), (0, .ref (b + a0)), (1, .int v1), (2, .int v2), (3, .int v3), (4, .int v4)]) dX7_item_48 (by decide) (fun _ => rfl) (fun i15 => ?_)
          refine aw_aload (pc := 50) X 1 dX7_item_50 rfl ?_
          refine aw_iload_n (pc := 52) X 4 dX7_item_52 rfl ?_
          refine aw_iload_n (pc := 53) X 5 dX7_item_53 rfl ?_
          refine aw_iload (pc := 54) X 6 dX7_item_54 rfl ?_
          refine cl_X7_85 (pc := 56) X ⟨Nat.le_of_ble_eq_true rfl, Nat.le_of_ble_eq_true rfl⟩ (Nat.le_of_ble_eq_true rfl) (ks2 := 0) (sl2 := 0) rfl rfl ⟨(Nat.le_of_ble_eq_true rfl), (Nat.le_of_ble_eq_true rfl)⟩ dX7_item_56 h_r3 (fun M16 g17 => ?_)
          have h_a0 := h_a0.mono g17
          have h_r3 := h_r3.mono g17
          refine aw_iload (pc := 59) X 0 dX7_item_59 rfl ?_
          exact aw_iret (pc := 61) X hr dX7_item_61 (Nat.le_of_ble_eq_true rfl) (Nat.le_of_ble_eq_true rfl)
      · refine aw_iconst (pc := 28) X (-1 : Int32) dX7_item_28 (by decide) ?_
        exact aw_iret (pc := 29) X hr dX7_item_29 (Nat.le_of_ble_eq_true rfl) (Nat.le_of_ble_eq_true rfl)
    · refine aw_iconst (pc := 28) X (-1 : Int32) dX7_item_28 (by decide) ?_
      exact aw_iret (pc := 29) X hr dX7_item_29 (Nat.le_of_ble_eq_true rfl) (Nat.le_of_ble_eq_true rfl))
/-! ReportBlocksModel.isCategory -/
def rm_X8_isCategory : Room := { frames := 1, cells := 0, slots := 0, locals := 22 }
theorem hd_X8_isCategory : jHd yX8_isCategory 1 := by unfold jHd; decide +kernel
def f_X8_isCategory (a0 : Nat) (v1 : Int32) (M : JM) : Option (Bool × JM) := ob (f_X8_in v1 (0 : Int32) ((gi M a0 0) - (1 : Int32)) M) fun r3 M1 => some (r3, M1)
set_option maxRecDepth 10000 in
set_option maxHeartbeats 4000000 in
theorem t_X8_isCategory {l : Launch} {D : va_G} {cs : JC} {b : Nat} (a0 : Nat) (v1 : Int32) (M : JM) (h_a0 : oty M a0 18) : ∀ q, f_X8_isCategory a0 v1 M = some q → CTy l yX8_isCategory (.code yX8_isCategory cX8_isCategory 2 (Option.some Jvm.ClassFile.FieldType.boolean) :: GB) rm_X8_isCategory D cs b evB [.ref (b + a0), .int v1] M rm_X8_isCategory.cells rm_X8_isCategory.slots q := fun q hq => ct_of [(0, .ref (b + a0)), (1, .int v1)] rfl rfl (Nat.le_of_ble_eq_true rfl) hq (fun p e s m args below meth c X hr hin => by
  refine aw_callq (F' := ob (f_X8_in v1 (0 : Int32) ((gi M a0 0) - (1 : Int32)) M) fun r3 M1 => some (r3, M1)) rfl ?_
  refine aw_iload_n (pc := 0) X 1 dX8_isCategory_0 rfl ?_
  refine aw_iconst (pc := 1) X (0 : Int32) dX8_isCategory_1 (by decide) ?_
  refine aw_aload_n (pc := 2) X 0 dX8_isCategory_2 rfl ?_
  refine gf_X8_102 (pc := 3) X dX8_isCategory_3 h_a0 ?_
  refine aw_iconst (pc := 6) X (1 : Int32) dX8_isCategory_6 (by decide) ?_
  refine aw_isub (pc := 7) X dX8_isCategory_7 ?_
  refine cl_X8_105 (pc := 8) X ⟨Nat.le_of_ble_eq_true rfl, Nat.le_of_ble_eq_true rfl⟩ (Nat.le_of_ble_eq_true rfl) (ks2 := 0) (sl2 := 0) rfl rfl ⟨(Nat.le_of_ble_eq_true rfl), (Nat.le_of_ble_eq_true rfl)⟩ dX8_isCategory_8  (fun r3 M1 g2 => ?_)
  have h_a0 := h_a0.mono g2
  exact aw_zret (pc := 11) X hr r3 rfl dX8_isCategory_11 (Nat.le_of_ble_eq_true rfl) (Nat.le_of_ble_eq_true rfl))
/-! ReportBlocksModel.isPlace -/
def rm_X8_isPlace : Room := { frames := 1, cells := 0, slots := 0, locals := 22 }
theorem hd_X8_isPlace : jHd yX8_isPlace 1 := by unfold jHd; decide +kernel
def f_X8_isPlace (v0 : Int32) (M : JM) : Option (Bool × JM) := ob (f_X8_in v0 (1 : Int32) (21 : Int32) M) fun r3 M1 => some (r3, M1)
set_option maxRecDepth 10000 in
set_option maxHeartbeats 4000000 in
theorem t_X8_isPlace {l : Launch} {D : va_G} {cs : JC} {b : Nat} (v0 : Int32) (M : JM)  : ∀ q, f_X8_isPlace v0 M = some q → CTy l yX8_isPlace (.code yX8_isPlace cX8_isPlace 1 (Option.some Jvm.ClassFile.FieldType.boolean) :: GB) rm_X8_isPlace D cs b evB [.int v0] M rm_X8_isPlace.cells rm_X8_isPlace.slots q := fun q hq => ct_of [(0, .int v0)] rfl rfl (Nat.le_of_ble_eq_true rfl) hq (fun p e s m args below meth c X hr hin => by
  refine aw_callq (F' := ob (f_X8_in v0 (1 : Int32) (21 : Int32) M) fun r3 M1 => some (r3, M1)) rfl ?_
  refine aw_iload_n (pc := 0) X 0 dX8_isPlace_0 rfl ?_
  refine aw_iconst (pc := 1) X (1 : Int32) dX8_isPlace_1 (by decide) ?_
  refine aw_bipush (pc := 2) X (21 : Int32) dX8_isPlace_2 (by decide) ?_
  refine cl_X8_105 (pc := 4) X ⟨Nat.le_of_ble_eq_true rfl, Nat.le_of_ble_eq_true rfl⟩ (Nat.le_of_ble_eq_true rfl) (ks2 := 0) (sl2 := 0) rfl rfl ⟨(Nat.le_of_ble_eq_true rfl), (Nat.le_of_ble_eq_true rfl)⟩ dX8_isPlace_4  (fun r3 M1 g2 => ?_)
  exact aw_zret (pc := 7) X hr r3 rfl dX8_isPlace_7 (Nat.le_of_ble_eq_true rfl) (Nat.le_of_ble_eq_true rfl))
/-! ReportBlocksModel.isInUse -/
def rm_X8_isInUse : Room := { frames := 0, cells := 0, slots := 0, locals := 0 }
theorem hd_X8_isInUse : jHd yX8_isInUse 1 := by unfold jHd; decide +kernel
theorem gf_X8_117 {ρ : Type} {l : Launch} {p : Program} {e : Env} {R : Room} {s : State} {m : MethodId} {args : Array Value} {below : List Frame} {meth : Method} {c : Code} {D : va_G} {cs : JC} {b nL : Nat} {H0 : Heap} {Qf : ρ × JM → State → Prop} {M : JM} {ks sl : Nat} {lv : List (Nat × Value)} {pc : Nat} {st : List Value} {cc : ByteArray} {k : Nat} (X : jX p c cc nL s m args RX8 D cs b meth H0) {F : Option (ρ × JM)} (hdg : decode cc pc = .ok (.getfield 117, 3)) (ho : oty M k 18) (kk : AWO p l e R s m args below meth c D cs b nL H0 Qf F M ks sl lv (pc + 3) (.int (gi M k 14) :: st)) : AWO p l e R s m args below meth c D cs b nL H0 Qf F M ks sl lv pc (.ref (b + k) :: st) := aw_getI (ci := 8) X 14 rfl gy_X8 (by decide) rfl rfl wf_X8_117 hdg ho kk
theorem gf_X8_56 {ρ : Type} {l : Launch} {p : Program} {e : Env} {R : Room} {s : State} {m : MethodId} {args : Array Value} {below : List Frame} {meth : Method} {c : Code} {D : va_G} {cs : JC} {b nL : Nat} {H0 : Heap} {Qf : ρ × JM → State → Prop} {M : JM} {ks sl : Nat} {lv : List (Nat × Value)} {pc : Nat} {st : List Value} {cc : ByteArray} {k : Nat} (X : jX p c cc nL s m args RX8 D cs b meth H0) {F : Option (ρ × JM)} (hdg : decode cc pc = .ok (.getfield 56, 3)) (ho : oty M k 18) (kk : AWO p l e R s m args below meth c D cs b nL H0 Qf F M ks sl lv (pc + 3) (.int (gi M k 25) :: st)) : AWO p l e R s m args below meth c D cs b nL H0 Qf F M ks sl lv pc (.ref (b + k) :: st) := aw_getI (ci := 8) X 25 rfl gy_X8 (by decide) rfl rfl wf_X8_56 hdg ho kk
def f_X8_isInUse_L23 : JM → Option (Bool × JM) := fun M => some (true, M)
set_option maxRecDepth 10000 in
set_option maxHeartbeats 4000000 in
theorem t_X8_isInUse_L23 {p : Program} {l : Launch} {e : Env} {s : State} {m : MethodId} {args : Array Value} {below : List Frame} {meth : Method} {c : Code} {D : va_G} {cs : JC} {b : Nat} (X : jX p c cX8_isInUse 2 s m args RX8 D cs b meth s.heap) (hr : meth.sig.returnType = Option.some Jvm.ClassFile.FieldType.boolean) : ∀ (M : JM), AWO p l e rm_X8_isInUse s m args below meth c D cs b 2 s.heap (jE below D cs b evB args s rm_X8_isInUse.cells rm_X8_isInUse.slots) (f_X8_isInUse_L23  M) M 0 0 [] 23 [] := by
  intro M
  refine aw_callq (F' := some (true, M)) rfl ?_
  refine aw_iconst (pc := 23) X (1 : Int32) dX8_isInUse_23 (by decide) ?_
  refine aw_goto (pc := 24) X 28 dX8_isInUse_24 (by decide) ?_
  exact aw_zret (pc := 28) X hr true rfl dX8_isInUse_28 (Nat.le_of_ble_eq_true rfl) (Nat.le_of_ble_eq_true rfl)
def f_X8_isInUse_L15 : Nat → Int32 → JM → Option (Bool × JM) := fun a0 v1 M => if (gi M a0 25) = v1 then (f_X8_isInUse_L23  M) else (some (false, M))
set_option maxRecDepth 10000 in
set_option maxHeartbeats 4000000 in
theorem t_X8_isInUse_L15 {p : Program} {l : Launch} {e : Env} {s : State} {m : MethodId} {args : Array Value} {below : List Frame} {meth : Method} {c : Code} {D : va_G} {cs : JC} {b : Nat} (X : jX p c cX8_isInUse 2 s m args RX8 D cs b meth s.heap) (hr : meth.sig.returnType = Option.some Jvm.ClassFile.FieldType.boolean) : ∀ (a0 : Nat) (v1 : Int32) (M : JM), oty M a0 18 → AWO p l e rm_X8_isInUse s m args below meth c D cs b 2 s.heap (jE below D cs b evB args s rm_X8_isInUse.cells rm_X8_isInUse.slots) (f_X8_isInUse_L15 a0 v1 M) M 0 0 [(0, .ref (b + a0)), (1, .int v1)] 15 [] := by
  intro a0 v1 M h_a0
  refine aw_callq (F' := if (gi M a0 25) = v1 then (f_X8_isInUse_L23  M) else (some (false, M))) rfl ?_
  refine aw_aload_n (pc := 15) X 0 dX8_isInUse_15 rfl ?_
  refine gf_X8_56 (pc := 16) X dX8_isInUse_16 h_a0 ?_
  refine aw_iload_n (pc := 19) X 1 dX8_isInUse_19 rfl ?_
  refine aw_icmpne (pc := 20) X 27 dX8_isInUse_20 (by decide) ?_ ?_
  · refine aw_sub [] rfl ?_
    exact t_X8_isInUse_L23 X hr  M 
  · refine aw_iconst (pc := 27) X (0 : Int32) dX8_isInUse_27 (by decide) ?_
    exact aw_zret (pc := 28) X hr false rfl dX8_isInUse_28 (Nat.le_of_ble_eq_true rfl) (Nat.le_of_ble_eq_true rfl)
theorem gf_X8_99 {ρ : Type} {l : Launch} {p : Program} {e : Env} {R : Room} {s : State} {m : MethodId} {args : Array Value} {below : List Frame} {meth : Method} {c : Code} {D : va_G} {cs : JC} {b nL : Nat} {H0 : Heap} {Qf : ρ × JM → State → Prop} {M : JM} {ks sl : Nat} {lv : List (Nat × Value)} {pc : Nat} {st : List Value} {cc : ByteArray} {k : Nat} (X : jX p c cc nL s m args RX8 D cs b meth H0) {F : Option (ρ × JM)} (hdg : decode cc pc = .ok (.getfield 99, 3)) (ho : oty M k 18) (kk : AWO p l e R s m args below meth c D cs b nL H0 Qf F M ks sl lv (pc + 3) (.int (gi M k 15) :: st)) : AWO p l e R s m args below meth c D cs b nL H0 Qf F M ks sl lv pc (.ref (b + k) :: st) := aw_getI (ci := 8) X 15 rfl gy_X8 (by decide) rfl rfl wf_X8_99 hdg ho kk
def f_X8_isInUse (a0 : Nat) (v1 : Int32) (M : JM) : Option (Bool × JM) := if 0 < (gi M a0 14) then (if (gi M a0 15) = v1 then (f_X8_isInUse_L23  M) else (f_X8_isInUse_L15 a0 v1 M)) else (f_X8_isInUse_L15 a0 v1 M)
set_option maxRecDepth 10000 in
set_option maxHeartbeats 4000000 in
theorem t_X8_isInUse {l : Launch} {D : va_G} {cs : JC} {b : Nat} (a0 : Nat) (v1 : Int32) (M : JM) (h_a0 : oty M a0 18) : ∀ q, f_X8_isInUse a0 v1 M = some q → CTy l yX8_isInUse (.code yX8_isInUse cX8_isInUse 2 (Option.some Jvm.ClassFile.FieldType.boolean) :: GB) rm_X8_isInUse D cs b evB [.ref (b + a0), .int v1] M rm_X8_isInUse.cells rm_X8_isInUse.slots q := fun q hq => ct_of [(0, .ref (b + a0)), (1, .int v1)] rfl rfl (Nat.le_of_ble_eq_true rfl) hq (fun p e s m args below meth c X hr hin => by
  refine aw_callq (F' := if 0 < (gi M a0 14) then (if (gi M a0 15) = v1 then (f_X8_isInUse_L23  M) else (f_X8_isInUse_L15 a0 v1 M)) else (f_X8_isInUse_L15 a0 v1 M)) rfl ?_
  refine aw_aload_n (pc := 0) X 0 dX8_isInUse_0 rfl ?_
  refine gf_X8_117 (pc := 1) X dX8_isInUse_1 h_a0 ?_
  refine aw_ifle (pc := 4) X 15 dX8_isInUse_4 (by decide) ?_ ?_
  · refine aw_aload_n (pc := 7) X 0 dX8_isInUse_7 rfl ?_
    refine gf_X8_99 (pc := 8) X dX8_isInUse_8 h_a0 ?_
    refine aw_iload_n (pc := 11) X 1 dX8_isInUse_11 rfl ?_
    refine aw_icmpeq (pc := 12) X 23 dX8_isInUse_12 (by decide) ?_ ?_
    · refine aw_sub [] rfl ?_
      exact t_X8_isInUse_L23 X hr  M 
    · refine aw_sub [0, 1] rfl ?_
      exact t_X8_isInUse_L15 X hr a0 v1 M h_a0
  · refine aw_sub [0, 1] rfl ?_
    exact t_X8_isInUse_L15 X hr a0 v1 M h_a0)
/-! ReportBlocksModel.item -/
def rm_X8_item : Room := { frames := 2, cells := 0, slots := 0, locals := 43 }
theorem hd_X8_item : jHd yX8_item 4 := by unfold jHd; decide +kernel
theorem cl_X8_120 {ρ : Type} {l : Launch} {p : Program} {e : Env} {R : Room} {s : State} {m : MethodId} {args : Array Value} {below : List Frame} {meth : Method} {c : Code} {D : va_G} {cs : JC} {b nL : Nat} {H0 : Heap} {Qf : ρ × JM → State → Prop} {M : JM} {ks sl : Nat} {lv : List (Nat × Value)} {pc : Nat} {st : List Value} {cc : ByteArray} (X : jX p c cc nL s m args RX8 D cs b meth H0) {z0 : Nat} {z1 : Int32} {K : Bool → JM → Option (ρ × JM)} (hrm : jRm rm_X8_isCategory 2 R) (hW : (st.map fun v => v.category).sum ≤ 8) {ks2 sl2 : Nat} (hk2 : ks + rm_X8_isCategory.cells = ks2) (hs2 : sl + rm_X8_isCategory.slots = sl2) (hroom : ks2 ≤ R.cells ∧ sl2 ≤ R.slots) (hdg : decode cc pc = .ok (.invokevirtual 120, 3)) (h0 : oty M z0 18) (kk : ∀ (r : Bool) (M2 : JM), gn M ≤ gn M2 → AWO p l e R s m args below meth c D cs b nL H0 Qf (K r M2) M2 ks2 sl2 lv (pc + 3) (.int (bI r) :: st)) : AWO p l e R s m args below meth c D cs b nL H0 Qf (ob (f_X8_isCategory z0 z1 M) K) M ks sl lv pc (.int z1 :: .ref (b + z0) :: st) := by
  subst hk2
  subst hs2
  exact aw_callV (ci := 8) X [.int z1] st rfl rfl wl_X8_120 wi_X8_isCategory wv_X8_isCategory wc_X8_isCategory wn_X8 (n := 1) hd_X8_isCategory rfl hrm hW hroom hdg h0 (t_X8_isCategory z0 z1 M h0) (fun r M2 g _ => kk r M2 g)
theorem cl_X8_124 {ρ : Type} {l : Launch} {p : Program} {e : Env} {R : Room} {s : State} {m : MethodId} {args : Array Value} {below : List Frame} {meth : Method} {c : Code} {D : va_G} {cs : JC} {b nL : Nat} {H0 : Heap} {Qf : ρ × JM → State → Prop} {M : JM} {ks sl : Nat} {lv : List (Nat × Value)} {pc : Nat} {st : List Value} {cc : ByteArray} (X : jX p c cc nL s m args RX8 D cs b meth H0) {z0 : Int32} {K : Bool → JM → Option (ρ × JM)} (hrm : jRm rm_X8_isPlace 1 R) (hW : (st.map fun v => v.category).sum ≤ 8) {ks2 sl2 : Nat} (hk2 : ks + rm_X8_isPlace.cells = ks2) (hs2 : sl + rm_X8_isPlace.slots = sl2) (hroom : ks2 ≤ R.cells ∧ sl2 ≤ R.slots) (hdg : decode cc pc = .ok (.invokestatic 124, 3)) (kk : ∀ (r : Bool) (M2 : JM), gn M ≤ gn M2 → AWO p l e R s m args below meth c D cs b nL H0 Qf (K r M2) M2 ks2 sl2 lv (pc + 3) (.int (bI r) :: st)) : AWO p l e R s m args below meth c D cs b nL H0 Qf (ob (f_X8_isPlace z0 M) K) M ks sl lv pc (.int z0 :: st) := by
  subst hk2
  subst hs2
  exact aw_callS X [.int z0] st rfl wl_X8_124 wt_X8_isPlace wc_X8_isPlace wn_X8 (n := 1) hd_X8_isPlace rfl hrm hW hroom hdg (t_X8_isPlace z0 M ) (fun r M2 g _ => kk r M2 g)
theorem cl_X8_127 {ρ : Type} {l : Launch} {p : Program} {e : Env} {R : Room} {s : State} {m : MethodId} {args : Array Value} {below : List Frame} {meth : Method} {c : Code} {D : va_G} {cs : JC} {b nL : Nat} {H0 : Heap} {Qf : ρ × JM → State → Prop} {M : JM} {ks sl : Nat} {lv : List (Nat × Value)} {pc : Nat} {st : List Value} {cc : ByteArray} (X : jX p c cc nL s m args RX8 D cs b meth H0) {z0 : Nat} {z1 : Int32} {K : Bool → JM → Option (ρ × JM)} (hrm : jRm rm_X8_isInUse 2 R) (hW : (st.map fun v => v.category).sum ≤ 8) {ks2 sl2 : Nat} (hk2 : ks + rm_X8_isInUse.cells = ks2) (hs2 : sl + rm_X8_isInUse.slots = sl2) (hroom : ks2 ≤ R.cells ∧ sl2 ≤ R.slots) (hdg : decode cc pc = .ok (.invokevirtual 127, 3)) (h0 : oty M z0 18) (kk : ∀ (r : Bool) (M2 : JM), gn M ≤ gn M2 → AWO p l e R s m args below meth c D cs b nL H0 Qf (K r M2) M2 ks2 sl2 lv (pc + 3) (.int (bI r) :: st)) : AWO p l e R s m args below meth c D cs b nL H0 Qf (ob (f_X8_isInUse z0 z1 M) K) M ks sl lv pc (.int z1 :: .ref (b + z0) :: st) := by
  subst hk2
  subst hs2
  exact aw_callV (ci := 8) X [.int z1] st rfl rfl wl_X8_127 wi_X8_isInUse wv_X8_isInUse wc_X8_isInUse wn_X8 (n := 1) hd_X8_isInUse rfl hrm hW hroom hdg h0 (t_X8_isInUse z0 z1 M h0) (fun r M2 g _ => kk r M2 g)
def f_X8_item_L126 : Int32 → Int32 → Int32 → Int32 → Int32 → Nat → JM → Option (Int32 × JM) := fun v6 u0 u1 u2 u3 w4 M => ob (f_X8_becomes w4 u3 u2 u1 u0 M) fun _ M13 => some (v6, M13)
set_option maxRecDepth 10000 in
set_option maxHeartbeats 4000000 in
theorem t_X8_item_L126 {p : Program} {l : Launch} {e : Env} {s : State} {m : MethodId} {args : Array Value} {below : List Frame} {meth : Method} {c : Code} {D : va_G} {cs : JC} {b : Nat} (X : jX p c cX8_item 7 s m args RX8 D cs b meth s.heap) (hr : meth.sig.returnType = Option.some Jvm.ClassFile.FieldType.int) : ∀ (v6 : Int32) (u0 : Int32) (u1 : Int32) (u2 : Int32) (u3 : Int32) (w4 : Nat) (M : JM), oty M w4 18 → AWO p l e rm_X8_item s m args below meth c D cs b 7 s.heap (jE below D cs b evI args s rm_X8_item.cells rm_X8_item.slots) (f_X8_item_L126 v6 u0 u1 u2 u3 w4 M) M 0 0 [(6, .int v6)] 126 [.int u0, .int u1, .int u2, .int u3, .ref (b + w4)] := by
  intro v6 u0 u1 u2 u3 w4 M h_w4
  refine aw_callq (F' := ob (f_X8_becomes w4 u3 u2 u1 u0 M) fun _ M13 => some (v6, M13)) rfl ?_
  refine cl_X8_113 (pc := 126) X ⟨Nat.le_of_ble_eq_true rfl, Nat.le_of_ble_eq_true rfl⟩ (Nat.le_of_ble_eq_true rfl) (ks2 := 0) (sl2 := 0) rfl rfl ⟨(Nat.le_of_ble_eq_true rfl), (Nat.le_of_ble_eq_true rfl)⟩ dX8_item_126 h_w4 (fun M13 g14 => ?_)
  refine aw_iload (pc := 129) X 0 dX8_item_129 rfl ?_
  exact aw_iret (pc := 131) X hr dX8_item_131 (Nat.le_of_ble_eq_true rfl) (Nat.le_of_ble_eq_true rfl)
def f_X8_item_L120 : Int32 → Int32 → Int32 → Int32 → Int32 → Nat → JM → Option (Int32 × JM) := fun v4 v6 u0 u1 u2 w3 M => f_X8_item_L126 v6 v4 u0 u1 u2 w3 M
set_option maxRecDepth 10000 in
set_option maxHeartbeats 4000000 in
theorem t_X8_item_L120 {p : Program} {l : Launch} {e : Env} {s : State} {m : MethodId} {args : Array Value} {below : List Frame} {meth : Method} {c : Code} {D : va_G} {cs : JC} {b : Nat} (X : jX p c cX8_item 7 s m args RX8 D cs b meth s.heap) (hr : meth.sig.returnType = Option.some Jvm.ClassFile.FieldType.int) : ∀ (v4 : Int32) (v6 : Int32) (u0 : Int32) (u1 : Int32) (u2 : Int32) (w3 : Nat) (M : JM), oty M w3 18 → AWO p l e rm_X8_item s m args below meth c D cs b 7 s.heap (jE below D cs b evI args s rm_X8_item.cells rm_X8_item.slots) (f_X8_item_L120 v4 v6 u0 u1 u2 w3 M) M 0 0 [(4, .int v4), (6, .int v6)] 120 [.int u0, .int u1, .int u2, .ref (b + w3)] := by
  intro v4 v6 u0 u1 u2 w3 M h_w3
  refine aw_callq (F' := f_X8_item_L126 v6 v4 u0 u1 u2 w3 M) rfl ?_
  refine aw_iload (pc := 120) X 0 dX8_item_120 rfl ?_
  refine aw_goto (pc := 122) X 126 dX8_item_122 (by decide) ?_
  refine aw_sub [1] rfl ?_
  exact t_X8_item_L126 X hr v6 v4 u0 u1 u2 w3 M h_w3
def f_X8_item_L111 : Int32 → Int32 → Int32 → Int32 → Int32 → Int32 → Nat → JM → Option (Int32 × JM) := fun v3 v4 v6 u0 u1 u2 w3 M => if v3 = 0 then (f_X8_item_L120 v4 v6 u0 u1 u2 w3 M) else (if v3 = (2 : Int32) then (f_X8_item_L120 v4 v6 u0 u1 u2 w3 M) else (f_X8_item_L126 v6 (0 : Int32) u0 u1 u2 w3 M))
set_option maxRecDepth 10000 in
set_option maxHeartbeats 4000000 in
theorem t_X8_item_L111 {p : Program} {l : Launch} {e : Env} {s : State} {m : MethodId} {args : Array Value} {below : List Frame} {meth : Method} {c : Code} {D : va_G} {cs : JC} {b : Nat} (X : jX p c cX8_item 7 s m args RX8 D cs b meth s.heap) (hr : meth.sig.returnType = Option.some Jvm.ClassFile.FieldType.int) : ∀ (v3 : Int32) (v4 : Int32) (v6 : Int32) (u0 : Int32) (u1 : Int32) (u2 : Int32) (w3 : Nat) (M : JM), oty M w3 18 → AWO p l e rm_X8_item s m args below meth c D cs b 7 s.heap (jE below D cs b evI args s rm_X8_item.cells rm_X8_item.slots) (f_X8_item_L111 v3 v4 v6 u0 u1 u2 w3 M) M 0 0 [(3, .int v3), (4, .int v4), (6, .int v6)] 111 [.int u0, .int u1, .int u2, .ref (b + w3)] := by
  intro v3 v4 v6 u0 u1 u2 w3 M h_w3
  refine aw_callq (F' := if v3 = 0 then (f_X8_item_L120 v4 v6 u0 u1 u2 w3 M) else (if v3 = (2 : Int32) then (f_X8_item_L120 v4 v6 u0 u1 u2 w3 M) else (f_X8_item_L126 v6 (0 : Int32) u0 u1 u2 w3 M))) rfl ?_
  refine aw_iload_n (pc := 111) X 0 dX8_item_111 rfl ?_
  refine aw_ifeq (pc := 112) X 120 dX8_item_112 (by decide) ?_ ?_
  · refine aw_sub [1, 2] rfl ?_
    exact t_X8_item_L120 X hr v4 v6 u0 u1 u2 w3 M h_w3
  · refine aw_iload_n (pc := 115) X 0 dX8_item_115 rfl ?_
    refine aw_iconst (pc := 116) X (2 : Int32) dX8_item_116 (by decide) ?_
    refine aw_icmpne (pc := 117) X 125 dX8_item_117 (by decide) ?_ ?_
    · refine aw_sub [1, 2] rfl ?_
      exact t_X8_item_L120 X hr v4 v6 u0 u1 u2 w3 M h_w3
    · refine aw_iconst (pc := 125) X (0 : Int32) dX8_item_125 (by decide) ?_
      refine aw_sub [2] rfl ?_
      exact t_X8_item_L126 X hr v6 (0 : Int32) u0 u1 u2 w3 M h_w3
def f_X8_item_L50 : Nat → Int32 → Int32 → Int32 → Int32 → Int32 → JM → Option (Int32 × JM) := fun a0 v1 v2 v3 v4 u0 M => sv u0 fun i1 => ob (f_X8_isCategory a0 v1 M) fun r4 M2 => if r4 = true then (ob (f_X8_isPlace v2 M2) fun r7 M5 => if r7 = true then (if i1 = 0 then (some ((-1 : Int32), M5)) else (ob (f_X8_isInUse a0 v1 M5) fun r10 M8 => if r10 = true then (some ((-2 : Int32), M8)) else (orf (gr M8 a0 2) fun r11 => if 0 ≤ (((22 : Int32) * v1) + v2) ∧ (((22 : Int32) * v1) + v2) < ln r11 then (sv (gi M8 r11 (((22 : Int32) * v1) + v2)) fun i12 => if v3 < 0 then (f_X8_item_L111 v3 v4 i12 (-9 : Int32) v2 v1 a0 M8) else (f_X8_item_L111 v3 v4 i12 v3 v2 v1 a0 M8)) else none))) else (some ((-1 : Int32), M5))) else (some ((-1 : Int32), M2))
set_option maxRecDepth 10000 in
set_option maxHeartbeats 4000000 in
theorem t_X8_item_L50 {p : Program} {l : Launch} {e : Env} {s : State} {m : MethodId} {args : Array Value} {below : List Frame} {meth : Method} {c : Code} {D : va_G} {cs : JC} {b : Nat} (X : jX p c cX8_item 7 s m args RX8 D cs b meth s.heap) (hr : meth.sig.returnType = Option.some Jvm.ClassFile.FieldType.int) : ∀ (a0 : Nat) (v1 : Int32) (v2 : Int32) (v3 : Int32) (v4 : Int32) (u0 : Int32) (M : JM), oty M a0 18 → AWO p l e rm_X8_item s m args below meth c D cs b 7 s.heap (jE below D cs b evI args s rm_X8_item.cells rm_X8_item.slots) (f_X8_item_L50 a0 v1 v2 v3 v4 u0 M) M 0 0 [(0, .ref (b + a0)), (1, .int v1), (2, .int v2), (3, .int v3), (4, .int v4)] 50 [.int u0] := by
  intro a0 v1 v2 v3 v4 u0 M h_a0
  refine aw_callq (F' := sv u0 fun i1 => ob (f_X8_isCategory a0 v1 M) fun r4 M2 => if r4 = true then (ob (f_X8_isPlace v2 M2) fun r7 M5 => if r7 = true then (if i1 = 0 then (some ((-1 : Int32), M5)) else (ob (f_X8_isInUse a0 v1 M5) fun r10 M8 => if r10 = true then (some ((-2 : Int32), M8)) else (orf (gr M8 a0 2) fun r11 => if 0 ≤ (((22 : Int32) * v1) + v2) ∧ (((22 : Int32) * v1) + v2) < ln r11 then (sv (gi M8 r11 (((22 : Int32) * v1) + v2)) fun i12 => if v3 < 0 then (f_X8_item_L111 v3 v4 i12 (-9 : Int32) v2 v1 a0 M8) else (f_X8_item_L111 v3 v4 i12 v3 v2 v1 a0 M8)) else none))) else (some ((-1 : Int32), M5))) else (some ((-1 : Int32), M2))) rfl ?_
  refine aw_istoreV (pc := 50) X (fun y => [(5, .int y), (0, .ref (b + a0)), (1, .int v1), (2, .int v2), (3, .int v3), (4, .int v4)]) dX8_item_50 (by decide) (fun _ => rfl) (fun i1 => ?_)
  refine aw_aload_n (pc := 52) X 1 dX8_item_52 rfl ?_
  refine aw_iload_n (pc := 53) X 2 dX8_item_53 rfl ?_
  refine cl_X8_120 (pc := 54) X ⟨Nat.le_of_ble_eq_true rfl, Nat.le_of_ble_eq_true rfl⟩ (Nat.le_of_ble_eq_true rfl) (ks2 := 0) (sl2 := 0) rfl rfl ⟨(Nat.le_of_ble_eq_true rfl), (Nat.le_of_ble_eq_true rfl)⟩ dX8_item_54 h_a0 (fun r4 M2 g3 => ?_)
  have h_a0 := h_a0.mono g3
  refine aw_ifeqB (pc := 57) X 72 dX8_item_57 (by decide) ?_ ?_
  · refine aw_iload_n (pc := 60) X 3 dX8_item_60 rfl ?_
    refine cl_X8_124 (pc := 61) X ⟨Nat.le_of_ble_eq_true rfl, Nat.le_of_ble_eq_true rfl⟩ (Nat.le_of_ble_eq_true rfl) (ks2 := 0) (sl2 := 0) rfl rfl ⟨(Nat.le_of_ble_eq_true rfl), (Nat.le_of_ble_eq_true rfl)⟩ dX8_item_61  (fun r7 M5 g6 => ?_)
    have h_a0 := h_a0.mono g6
    refine aw_ifeqB (pc := 64) X 72 dX8_item_64 (by decide) ?_ ?_
    · refine aw_iload (pc := 67) X 0 dX8_item_67 rfl ?_
      refine aw_ifne (pc := 69) X 74 dX8_item_69 (by decide) ?_ ?_
      · refine aw_iconst (pc := 72) X (-1 : Int32) dX8_item_72 (by decide) ?_
        exact aw_iret (pc := 73) X hr dX8_item_73 (Nat.le_of_ble_eq_true rfl) (Nat.le_of_ble_eq_true rfl)
      · refine aw_aload_n (pc := 74) X 1 dX8_item_74 rfl ?_
        refine aw_iload_n (pc := 75) X 2 dX8_item_75 rfl ?_
        refine cl_X8_127 (pc := 76) X ⟨Nat.le_of_ble_eq_true rfl, Nat.le_of_ble_eq_true rfl⟩ (Nat.le_of_ble_eq_true rfl) (ks2 := 0) (sl2 := 0) rfl rfl ⟨(Nat.le_of_ble_eq_true rfl), (Nat.le_of_ble_eq_true rfl)⟩ dX8_item_76 h_a0 (fun r10 M8 g9 => ?_)
        have h_a0 := h_a0.mono g9
        refine aw_ifeqB (pc := 79) X 85 dX8_item_79 (by decide) ?_ ?_
        · refine aw_bipush (pc := 82) X (-2 : Int32) dX8_item_82 (by decide) ?_
          exact aw_iret (pc := 84) X hr dX8_item_84 (Nat.le_of_ble_eq_true rfl) (Nat.le_of_ble_eq_true rfl)
        · refine aw_aload_n (pc := 85) X 1 dX8_item_85 rfl ?_
          refine gf_X8_13 (pc := 86) X dX8_item_86 h_a0 (fun r11 h_r11 => ?_)
          refine aw_bipush (pc := 89) X (22 : Int32) dX8_item_89 (by decide) ?_
          refine aw_iload_n (pc := 91) X 2 dX8_item_91 rfl ?_
          refine aw_imul (pc := 92) X dX8_item_92 ?_
          refine aw_iload_n (pc := 93) X 3 dX8_item_93 rfl ?_
          refine aw_iadd (pc := 94) X dX8_item_94 ?_
          refine aw_iald (pc := 95) X dX8_item_95 h_r11 ?_
          refine aw_istoreV (pc := 96) X (fun y => [(6, .int y), (5, .int i1), (0, .ref (b + a0)), (1, .int v1), (2, .int v2), (3, .int v3), (4, .int v4)]) dX8_item_96 (by decide) (fun _ => rfl) (fun i12 => ?_)
          refine aw_aload_n (pc := 98) X 2 dX8_item_98 rfl ?_
          refine aw_iload_n (pc := 99) X 3 dX8_item_99 rfl ?_
          refine aw_iload_n (pc := 100) X 4 dX8_item_100 rfl ?_
          refine aw_iload_n (pc := 101) X 5 dX8_item_101 rfl ?_
          refine aw_ifge (pc := 102) X 110 dX8_item_102 (by decide) ?_ ?_
          · refine aw_bipush (pc := 105) X (-9 : Int32) dX8_item_105 (by decide) ?_
            refine aw_goto (pc := 107) X 111 dX8_item_107 (by decide) ?_
            refine aw_sub [5, 6, 0] rfl ?_
            exact t_X8_item_L111 X hr v3 v4 i12 (-9 : Int32) v2 v1 a0 M8 h_a0
          · refine aw_iload_n (pc := 110) X 5 dX8_item_110 rfl ?_
            refine aw_sub [5, 6, 0] rfl ?_
            exact t_X8_item_L111 X hr v3 v4 i12 v3 v2 v1 a0 M8 h_a0
    · refine aw_iconst (pc := 72) X (-1 : Int32) dX8_item_72 (by decide) ?_
      exact aw_iret (pc := 73) X hr dX8_item_73 (Nat.le_of_ble_eq_true rfl) (Nat.le_of_ble_eq_true rfl)
  · refine aw_iconst (pc := 72) X (-1 : Int32) dX8_item_72 (by decide) ?_
    exact aw_iret (pc := 73) X hr dX8_item_73 (Nat.le_of_ble_eq_true rfl) (Nat.le_of_ble_eq_true rfl)
def f_X8_item_L45 : Nat → Int32 → Int32 → Int32 → Int32 → JM → Option (Int32 × JM) := fun a0 v1 v2 v3 v4 M => f_X8_item_L50 a0 v1 v2 v3 v4 (1 : Int32) M
set_option maxRecDepth 10000 in
set_option maxHeartbeats 4000000 in
theorem t_X8_item_L45 {p : Program} {l : Launch} {e : Env} {s : State} {m : MethodId} {args : Array Value} {below : List Frame} {meth : Method} {c : Code} {D : va_G} {cs : JC} {b : Nat} (X : jX p c cX8_item 7 s m args RX8 D cs b meth s.heap) (hr : meth.sig.returnType = Option.some Jvm.ClassFile.FieldType.int) : ∀ (a0 : Nat) (v1 : Int32) (v2 : Int32) (v3 : Int32) (v4 : Int32) (M : JM), oty M a0 18 → AWO p l e rm_X8_item s m args below meth c D cs b 7 s.heap (jE below D cs b evI args s rm_X8_item.cells rm_X8_item.slots) (f_X8_item_L45 a0 v1 v2 v3 v4 M) M 0 0 [(0, .ref (b + a0)), (1, .int v1), (2, .int v2), (3, .int v3), (4, .int v4)] 45 [] := by
  intro a0 v1 v2 v3 v4 M h_a0
  refine aw_callq (F' := f_X8_item_L50 a0 v1 v2 v3 v4 (1 : Int32) M) rfl ?_
  refine aw_iconst (pc := 45) X (1 : Int32) dX8_item_45 (by decide) ?_
  refine aw_goto (pc := 46) X 50 dX8_item_46 (by decide) ?_
  refine aw_sub [0, 1, 2, 3, 4] rfl ?_
  exact t_X8_item_L50 X hr a0 v1 v2 v3 v4 (1 : Int32) M h_a0
def f_X8_item_L49 : Nat → Int32 → Int32 → Int32 → Int32 → JM → Option (Int32 × JM) := fun a0 v1 v2 v3 v4 M => f_X8_item_L50 a0 v1 v2 v3 v4 (0 : Int32) M
set_option maxRecDepth 10000 in
set_option maxHeartbeats 4000000 in
theorem t_X8_item_L49 {p : Program} {l : Launch} {e : Env} {s : State} {m : MethodId} {args : Array Value} {below : List Frame} {meth : Method} {c : Code} {D : va_G} {cs : JC} {b : Nat} (X : jX p c cX8_item 7 s m args RX8 D cs b meth s.heap) (hr : meth.sig.returnType = Option.some Jvm.ClassFile.FieldType.int) : ∀ (a0 : Nat) (v1 : Int32) (v2 : Int32) (v3 : Int32) (v4 : Int32) (M : JM), oty M a0 18 → AWO p l e rm_X8_item s m args below meth c D cs b 7 s.heap (jE below D cs b evI args s rm_X8_item.cells rm_X8_item.slots) (f_X8_item_L49 a0 v1 v2 v3 v4 M) M 0 0 [(0, .ref (b + a0)), (1, .int v1), (2, .int v2), (3, .int v3), (4, .int v4)] 49 [] := by
  intro a0 v1 v2 v3 v4 M h_a0
  refine aw_callq (F' := f_X8_item_L50 a0 v1 v2 v3 v4 (0 : Int32) M) rfl ?_
  refine aw_iconst (pc := 49) X (0 : Int32) dX8_item_49 (by decide) ?_
  refine aw_sub [0, 1, 2, 3, 4] rfl ?_
  exact t_X8_item_L50 X hr a0 v1 v2 v3 v4 (0 : Int32) M h_a0
def f_X8_item_L30 : Nat → Int32 → Int32 → Int32 → Int32 → JM → Option (Int32 × JM) := fun a0 v1 v2 v3 v4 M => if v3 = (2 : Int32) then (ob (f_X8_in v4 (1 : Int32) (4 : Int32) M) fun r17 M15 => if r17 = true then (f_X8_item_L45 a0 v1 v2 v3 v4 M15) else (f_X8_item_L49 a0 v1 v2 v3 v4 M15)) else (f_X8_item_L49 a0 v1 v2 v3 v4 M)
set_option maxRecDepth 10000 in
set_option maxHeartbeats 4000000 in
theorem t_X8_item_L30 {p : Program} {l : Launch} {e : Env} {s : State} {m : MethodId} {args : Array Value} {below : List Frame} {meth : Method} {c : Code} {D : va_G} {cs : JC} {b : Nat} (X : jX p c cX8_item 7 s m args RX8 D cs b meth s.heap) (hr : meth.sig.returnType = Option.some Jvm.ClassFile.FieldType.int) : ∀ (a0 : Nat) (v1 : Int32) (v2 : Int32) (v3 : Int32) (v4 : Int32) (M : JM), oty M a0 18 → AWO p l e rm_X8_item s m args below meth c D cs b 7 s.heap (jE below D cs b evI args s rm_X8_item.cells rm_X8_item.slots) (f_X8_item_L30 a0 v1 v2 v3 v4 M) M 0 0 [(0, .ref (b + a0)), (1, .int v1), (2, .int v2), (3, .int v3), (4, .int v4)] 30 [] := by
  intro a0 v1 v2 v3 v4 M h_a0
  refine aw_callq (F' := if v3 = (2 : Int32) then (ob (f_X8_in v4 (1 : Int32) (4 : Int32) M) fun r17 M15 => if r17 = true then (f_X8_item_L45 a0 v1 v2 v3 v4 M15) else (f_X8_item_L49 a0 v1 v2 v3 v4 M15)) else (f_X8_item_L49 a0 v1 v2 v3 v4 M)) rfl ?_
  refine aw_iload_n (pc := 30) X 3 dX8_item_30 rfl ?_
  refine aw_iconst (pc := 31) X (2 : Int32) dX8_item_31 (by decide) ?_
  refine aw_icmpne (pc := 32) X 49 dX8_item_32 (by decide) ?_ ?_
  · refine aw_iload (pc := 35) X 4 dX8_item_35 rfl ?_
    refine aw_iconst (pc := 37) X (1 : Int32) dX8_item_37 (by decide) ?_
    refine aw_iconst (pc := 38) X (4 : Int32) dX8_item_38 (by decide) ?_
    refine cl_X8_105 (pc := 39) X ⟨Nat.le_of_ble_eq_true rfl, Nat.le_of_ble_eq_true rfl⟩ (Nat.le_of_ble_eq_true rfl) (ks2 := 0) (sl2 := 0) rfl rfl ⟨(Nat.le_of_ble_eq_true rfl), (Nat.le_of_ble_eq_true rfl)⟩ dX8_item_39  (fun r17 M15 g16 => ?_)
    have h_a0 := h_a0.mono g16
    refine aw_ifeqB (pc := 42) X 49 dX8_item_42 (by decide) ?_ ?_
    · refine aw_sub [0, 1, 2, 3, 4] rfl ?_
      exact t_X8_item_L45 X hr a0 v1 v2 v3 v4 M15 h_a0
    · refine aw_sub [0, 1, 2, 3, 4] rfl ?_
      exact t_X8_item_L49 X hr a0 v1 v2 v3 v4 M15 h_a0
  · refine aw_sub [0, 1, 2, 3, 4] rfl ?_
    exact t_X8_item_L49 X hr a0 v1 v2 v3 v4 M h_a0
def f_X8_item (a0 : Nat) (v1 : Int32) (v2 : Int32) (v3 : Int32) (v4 : Int32) (M : JM) : Option (Int32 × JM) := if v3 = (-1 : Int32) then (f_X8_item_L45 a0 v1 v2 v3 v4 M) else (if v3 = (1 : Int32) then (f_X8_item_L45 a0 v1 v2 v3 v4 M) else (if v3 = (3 : Int32) then (f_X8_item_L45 a0 v1 v2 v3 v4 M) else (if v3 = 0 then (ob (f_X8_in v4 (1 : Int32) (8 : Int32) M) fun r20 M18 => if r20 = true then (f_X8_item_L45 a0 v1 v2 v3 v4 M18) else (f_X8_item_L30 a0 v1 v2 v3 v4 M18)) else (f_X8_item_L30 a0 v1 v2 v3 v4 M))))
set_option maxRecDepth 10000 in
set_option maxHeartbeats 4000000 in
theorem t_X8_item {l : Launch} {D : va_G} {cs : JC} {b : Nat} (a0 : Nat) (v1 : Int32) (v2 : Int32) (v3 : Int32) (v4 : Int32) (M : JM) (h_a0 : oty M a0 18) : ∀ q, f_X8_item a0 v1 v2 v3 v4 M = some q → CTy l yX8_item (.code yX8_item cX8_item 7 (Option.some Jvm.ClassFile.FieldType.int) :: GB) rm_X8_item D cs b evI [.ref (b + a0), .int v1, .int v2, .int v3, .int v4] M rm_X8_item.cells rm_X8_item.slots q := fun q hq => ct_of [(0, .ref (b + a0)), (1, .int v1), (2, .int v2), (3, .int v3), (4, .int v4)] rfl rfl (Nat.le_of_ble_eq_true rfl) hq (fun p e s m args below meth c X hr hin => by
  refine aw_callq (F' := if v3 = (-1 : Int32) then (f_X8_item_L45 a0 v1 v2 v3 v4 M) else (if v3 = (1 : Int32) then (f_X8_item_L45 a0 v1 v2 v3 v4 M) else (if v3 = (3 : Int32) then (f_X8_item_L45 a0 v1 v2 v3 v4 M) else (if v3 = 0 then (ob (f_X8_in v4 (1 : Int32) (8 : Int32) M) fun r20 M18 => if r20 = true then (f_X8_item_L45 a0 v1 v2 v3 v4 M18) else (f_X8_item_L30 a0 v1 v2 v3 v4 M18)) else (f_X8_item_L30 a0 v1 v2 v3 v4 M))))) rfl ?_
  refine aw_iload_n (pc := 0) X 3 dX8_item_0 rfl ?_
  refine aw_iconst (pc := 1) X (-1 : Int32) dX8_item_1 (by decide) ?_
  refine aw_icmpeq (pc := 2) X 45 dX8_item_2 (by decide) ?_ ?_
  · refine aw_sub [0, 1, 2, 3, 4] rfl ?_
    exact t_X8_item_L45 X hr a0 v1 v2 v3 v4 M h_a0
  · refine aw_iload_n (pc := 5) X 3 dX8_item_5 rfl ?_
    refine aw_iconst (pc := 6) X (1 : Int32) dX8_item_6 (by decide) ?_
    refine aw_icmpeq (pc := 7) X 45 dX8_item_7 (by decide) ?_ ?_
    · refine aw_sub [0, 1, 2, 3, 4] rfl ?_
      exact t_X8_item_L45 X hr a0 v1 v2 v3 v4 M h_a0
    · refine aw_iload_n (pc := 10) X 3 dX8_item_10 rfl ?_
      refine aw_iconst (pc := 11) X (3 : Int32) dX8_item_11 (by decide) ?_
      refine aw_icmpeq (pc := 12) X 45 dX8_item_12 (by decide) ?_ ?_
      · refine aw_sub [0, 1, 2, 3, 4] rfl ?_
        exact t_X8_item_L45 X hr a0 v1 v2 v3 v4 M h_a0
      · refine aw_iload_n (pc := 15) X 3 dX8_item_15 rfl ?_
        refine aw_ifne (pc := 16) X 30 dX8_item_16 (by decide) ?_ ?_
        · refine aw_iload (pc := 19) X 4 dX8_item_19 rfl ?_
          refine aw_iconst (pc := 21) X (1 : Int32) dX8_item_21 (by decide) ?_
          refine aw_bipush (pc := 22) X (8 : Int32) dX8_item_22 (by decide) ?_
          refine cl_X8_105 (pc := 24) X ⟨Nat.le_of_ble_eq_true rfl, Nat.le_of_ble_eq_true rfl⟩ (Nat.le_of_ble_eq_true rfl) (ks2 := 0) (sl2 := 0) rfl rfl ⟨(Nat.le_of_ble_eq_true rfl), (Nat.le_of_ble_eq_true rfl)⟩ dX8_item_24  (fun r20 M18 g19 => ?_)
          have h_a0 := h_a0.mono g19
          refine aw_ifneB (pc := 27) X 45 dX8_item_27 (by decide) ?_ ?_
          · refine aw_sub [0, 1, 2, 3, 4] rfl ?_
            exact t_X8_item_L45 X hr a0 v1 v2 v3 v4 M18 h_a0
          · refine aw_sub [0, 1, 2, 3, 4] rfl ?_
            exact t_X8_item_L30 X hr a0 v1 v2 v3 v4 M18 h_a0
        · refine aw_sub [0, 1, 2, 3, 4] rfl ?_
          exact t_X8_item_L30 X hr a0 v1 v2 v3 v4 M h_a0)
