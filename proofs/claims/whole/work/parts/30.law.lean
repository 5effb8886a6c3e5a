/-! THE CLAIM OUT OF ONE WALK OF THE LAW'S BODY. Your part is whole_start (and what it stands on); all else here is the same for every law, but numbers. -/
def R_law : String := "ReportBlocksLaw"
def lw_P (b : Addr) (xs : List Int32) (args : Array Value) (s : State) : Prop := args = #[.ref b] ∧ s.IntsAt b xs ∧ xs.length ≤ 2560 ∧ (Jvm.Cond.and given_1 narrow_1).before args s = true
def lw_Q (_ : Array Value) (s : State) (o : Outcome) (t : State) : Prop := o = .returned (some (.int 1)) ∧ Framed s o t [] 600000 7302249
def lw_Z (below : List Frame) (a : Array Value) (s : State) : State → Prop := fun t => ∃ o, t.status = .running ∧ Ended t below o ∧ lw_Q a s o t
/-- the law's own end, with 1 on the stack, nothing written that was there before, its room as the claim has it -/
theorem lw_ret {p : Program} {l : Launch} {e : Env} {s : State} {m : MethodId} {below : List Frame} {meth : Method} {c : Code} {b : Nat} (hx : p.tables.exec = Jvm.exec) (hb : c.code = code) (hr : meth.sig.returnType = ret) (hlocks : meth.locks = false) {pc : Nat} {H : Heap} {ls : Array Slot} (hdg : decode code pc = .ok (.ireturn, 1)) : W p l e room_1 s m #[Value.ref b] below meth c H [] 600000 7302249 (lw_Z below #[Value.ref b] s) (F0 m pc ls [.int 1]) := by
  intro T hT X
  obtain ⟨fs, hret, hrun, hended, hW, hframe⟩ := X.leave (v := some (.int 1)) (hlocks := hlocks) (fun h => by rw [hr] at h; cases h)
  have hmeth' : T.vm.method? m = some meth := X.method'
  refine ⟨T.setFrames fs, ?_, .returned (some (.int 1)), hrun, hended, rfl, ⟨_, rfl⟩, hW, hframe⟩
  jvm_step X.here [X.here.top, hx, hb, hdg, hmeth', hr, ret, narrow_b1]
  (try refine ⟨rfl, ?_⟩); (try refine ⟨rfl, ?_⟩)
  first | (intro acts; rw [hret _ acts rfl rfl rfl]) | rw [hret _ _ rfl rfl rfl]
  exact Steps.refl _
/-- what holds at the law's entry: the machine, the code, the tables' words (any of lw_tbl by 'hts w (by decide +kernel)'), the script of L ints xs at the cell b, what the Statement gives of the start (any of its parts by flat_of_before) -/
def lw_At (p : Program) (s : State) (m : MethodId) (meth : Method) (c : Code) (b L : Nat) (xs : Nat → Int32) : Prop :=
  p.tables.exec = Jvm.exec ∧ c.code = code ∧ meth.sig.returnType = ret ∧ c.maxLocals = 4 ∧ s.vm.findClass R_law = some m.cls ∧ (∀ w ∈ lw_tbl, w.before #[Value.ref b] s = true) ∧ va_X b L xs s s.heap ∧ b < s.heap.size ∧ meth.locks = false ∧ (Jvm.Cond.and given_1 narrow_1).before #[Value.ref b] s = true

/-- the end of the law: with 1 it is what is claimed -/
def lawQ (below : List Frame) (bs : Nat) (s : State) : Int32 × JM → State → Prop := fun res t => res.1 = 1 → lw_Z below #[Value.ref bs] s t
def sxf (xs : Nat → Int32) : Int32 → Int32 := fun i => xs i.toNatClampNeg
def lawS (bs sL : Nat) (xs : Nat → Int32) (s : State) : Prop := va_X bs sL xs s s.heap ∧ bs < s.heap.size
theorem in_of2 {i : Int32} {n : Nat} (hn : n < 10000) (h : 0 ≤ i ∧ i < nI n) : vp_in i n ∧ nI i.toNatClampNeg = i ∧ i.toNatClampNeg < n := by
  have h0 : ¬ i < 0 := Int32.not_lt.mpr h.1
  obtain ⟨j, hj, rfl⟩ := nI_of h0
  have h1 : j < n := (nI_ltI hj (by omega)).mp h.2
  exact ⟨vp_in_nI h1 (by omega), nI_cl h0, by rw [nI_clamp hj]; exact h1⟩
section LAW
variable {p : Program} {l : Launch} {e : Env} {R : Room} {s : State} {m : MethodId} {below : List Frame} {meth : Method} {c : Code} {D : va_G} {cs : JC} {bs sL nL : Nat} {xs : Nat → Int32} {F : Option (Int32 × JM)} {M : JM} {ks sl : Nat} {lv : List (Nat × Value)} {pc : Nat} {st : List Value} {args : Array Value}
theorem aw_sld (hsL : sL ≤ 2560) (X : jX p c code nL s m args RL D cs s.heap.size meth s.heap) (hS : lawS bs sL xs s) {i : Int32} (hdg : decode code pc = .ok (.iaload, 1)) (kk : AWO p l e R s m args below meth c D cs s.heap.size nL s.heap (lawQ below bs s) F M ks sl lv (pc + 1) (.int (sxf xs i) :: st)) : AWO p l e R s m args below meth c D cs s.heap.size nL s.heap (lawQ below bs s) (if 0 ≤ i ∧ i < nI sL then F else none) M ks sl lv pc (.int i :: .ref bs :: st) := fun r hr H L ls h1 h2 h3 => by
  by_cases hi : 0 ≤ i ∧ i < nI sL
  · rw [if_pos hi] at hr
    obtain ⟨g1, g2, g3⟩ := in_of2 (by omega) hi
    exact va_sld X.1 X.2.1 hS.1 hS.2 (Nat.not_le.mpr hS.2) h2 g1 hdg (kk r hr H L ls h1 h2 h3)
  · rw [if_neg hi] at hr; cases hr
theorem aw_slen (hsL : sL ≤ 2560) (X : jX p c code nL s m args RL D cs s.heap.size meth s.heap) (hS : lawS bs sL xs s) (hdg : decode code pc = .ok (.arraylength, 1)) (kk : AWO p l e R s m args below meth c D cs s.heap.size nL s.heap (lawQ below bs s) F M ks sl lv (pc + 1) (.int (nI sL) :: st)) : AWO p l e R s m args below meth c D cs s.heap.size nL s.heap (lawQ below bs s) F M ks sl lv pc (.ref bs :: st) := fun r hr H L ls h1 h2 h3 =>
  va_slen X.1 X.2.1 hS.1 hS.2 (Nat.not_le.mpr hS.2) h2 hdg (kk r hr H L ls h1 h2 h3)
theorem aw_lawret (X : jX p c code nL s m #[Value.ref bs] RL D cs s.heap.size meth s.heap) (hr : meth.sig.returnType = ret) {x : Int32} (hdg : decode code pc = .ok (.ireturn, 1)) (h1 : ks ≤ 600000) (h2 : sl ≤ 7302249) : AWO p l e room_1 s m #[Value.ref bs] below meth c D cs s.heap.size nL s.heap (lawQ below bs s) (some (x, M)) M ks sl lv pc [.int x] := fun r hres H L ls g1 g2 g3 => by
  cases hres
  by_cases hx : x = 1
  · subst hx
    have w : W p l e room_1 s m #[Value.ref bs] below meth c H L ks sl (lw_Z below #[Value.ref bs] s) (F0 m pc ls [.int 1]) := va_forget g2.2.2 (W.widen h1 h2 (lw_ret X.1 X.2.1 hr X.2.2.2.2.2.2.1 hdg))
    intro T hT Y
    obtain ⟨t, a1, b1⟩ := w T hT Y
    exact ⟨t, a1, fun _ => b1⟩
  · intro T hT Y
    exact ⟨_, Steps.refl _, fun h => absurd h hx⟩
end LAW
theorem nwo_L_7 {ρ : Type} {l : Launch} {p : Program} {e : Env} {R : Room} {s : State} {m : MethodId} {args : Array Value} {below : List Frame} {meth : Method} {c : Code} {D : va_G} {cs : JC} {b nL : Nat} {H0 : Heap} {Qf : ρ × JM → State → Prop} {M : JM} {ks sl : Nat} {lv : List (Nat × Value)} {pc : Nat} {st : List Value} {cc : ByteArray} {K : JM → Option (ρ × JM)} (X : jX p c cc nL s m args RL D cs b meth H0) (hcells : ks + 1 ≤ R.cells) (hslots : sl + 10 ≤ R.slots) (hdg : decode cc pc = .ok (.new 7, 3)) (kk : ∀ M2 : JM, gn M ≤ gn M2 → oty M2 (gn M) 17 → AWO p l e R s m args below meth c D cs b nL H0 Qf (K M2) M2 (ks + 1) (sl + 10) lv (pc + 3) (.ref (b + gn M) :: st)) : AWO p l e R s m args below meth c D cs b nL H0 Qf (if shp (gn M) = (0, 7) then sq (al M) K else none) M ks sl lv pc st := aw_new (ci := 7) X rfl gy_X7 tyX7 tyX7_ok rfl (by decide) wk_L_7 wb_X7 wn_X7 hcells hslots hdg (fun h => kk _ (by rw [gn_al]; exact Nat.le_succ _) h)
theorem cl_L_9 {ρ : Type} {l : Launch} {p : Program} {e : Env} {R : Room} {s : State} {m : MethodId} {args : Array Value} {below : List Frame} {meth : Method} {c : Code} {D : va_G} {cs : JC} {b nL : Nat} {H0 : Heap} {Qf : ρ × JM → State → Prop} {M : JM} {ks sl : Nat} {lv : List (Nat × Value)} {pc : Nat} {st : List Value} {cc : ByteArray} (X : jX p c cc nL s m args RL D cs b meth H0) {z0 : Nat} {K : JM → Option (ρ × JM)} (hrm : jRm rm_X7_init 1 R) (hW : (st.map fun v => v.category).sum ≤ 8) {ks2 sl2 : Nat} (hk2 : ks + rm_X7_init.cells = ks2) (hs2 : sl + rm_X7_init.slots = sl2) (hroom : ks2 ≤ R.cells ∧ sl2 ≤ R.slots) (hdg : decode cc pc = .ok (.invokespecial 9, 3)) (h0 : oty M z0 17) (kk : ∀ (M2 : JM), gn M ≤ gn M2 → AWO p l e R s m args below meth c D cs b nL H0 Qf (K M2) M2 ks2 sl2 lv (pc + 3) (st)) : AWO p l e R s m args below meth c D cs b nL H0 Qf (ob (f_X7_init z0 M) (fun _ => K)) M ks sl lv pc (.ref (b + z0) :: st) := by
  subst hk2
  subst hs2
  exact aw_callI X [] st rfl wl_L_9 wi_X7_init wc_X7_init wn_X7 rfl (n := 0) hd_X7_init rfl hrm hW hroom hdg (t_X7_init z0 M h0) (fun _ M2 g _ => kk M2 g)
theorem nwo_L_10 {ρ : Type} {l : Launch} {p : Program} {e : Env} {R : Room} {s : State} {m : MethodId} {args : Array Value} {below : List Frame} {meth : Method} {c : Code} {D : va_G} {cs : JC} {b nL : Nat} {H0 : Heap} {Qf : ρ × JM → State → Prop} {M : JM} {ks sl : Nat} {lv : List (Nat × Value)} {pc : Nat} {st : List Value} {cc : ByteArray} {K : JM → Option (ρ × JM)} (X : jX p c cc nL s m args RL D cs b meth H0) (hcells : ks + 1 ≤ R.cells) (hslots : sl + 46 ≤ R.slots) (hdg : decode cc pc = .ok (.new 10, 3)) (kk : ∀ M2 : JM, gn M ≤ gn M2 → oty M2 (gn M) 18 → AWO p l e R s m args below meth c D cs b nL H0 Qf (K M2) M2 (ks + 1) (sl + 46) lv (pc + 3) (.ref (b + gn M) :: st)) : AWO p l e R s m args below meth c D cs b nL H0 Qf (if shp (gn M) = (0, 8) then sq (al M) K else none) M ks sl lv pc st := aw_new (ci := 8) X rfl gy_X8 tyX8 tyX8_ok rfl (by decide) wk_L_10 wb_X8 wn_X8 hcells hslots hdg (fun h => kk _ (by rw [gn_al]; exact Nat.le_succ _) h)
theorem cl_L_12 {ρ : Type} {l : Launch} {p : Program} {e : Env} {R : Room} {s : State} {m : MethodId} {args : Array Value} {below : List Frame} {meth : Method} {c : Code} {D : va_G} {cs : JC} {b nL : Nat} {H0 : Heap} {Qf : ρ × JM → State → Prop} {M : JM} {ks sl : Nat} {lv : List (Nat × Value)} {pc : Nat} {st : List Value} {cc : ByteArray} (X : jX p c cc nL s m args RL D cs b meth H0) {z0 : Nat} {K : JM → Option (ρ × JM)} (hrm : jRm rm_X8_init 1 R) (hW : (st.map fun v => v.category).sum ≤ 8) {ks2 sl2 : Nat} (hk2 : ks + rm_X8_init.cells = ks2) (hs2 : sl + rm_X8_init.slots = sl2) (hroom : ks2 ≤ R.cells ∧ sl2 ≤ R.slots) (hdg : decode cc pc = .ok (.invokespecial 12, 3)) (h0 : oty M z0 18) (kk : ∀ (M2 : JM), gn M ≤ gn M2 → AWO p l e R s m args below meth c D cs b nL H0 Qf (K M2) M2 ks2 sl2 lv (pc + 3) (st)) : AWO p l e R s m args below meth c D cs b nL H0 Qf (ob (f_X8_init z0 M) (fun _ => K)) M ks sl lv pc (.ref (b + z0) :: st) := by
  subst hk2
  subst hs2
  exact aw_callI X [] st rfl wl_L_12 wi_X8_init wc_X8_init wn_X8 rfl (n := 0) hd_X8_init rfl hrm hW hroom hdg (t_X8_init z0 M h0) (fun _ M2 g _ => kk M2 g)
theorem cl_L_13 {ρ : Type} {l : Launch} {p : Program} {e : Env} {R : Room} {s : State} {m : MethodId} {args : Array Value} {below : List Frame} {meth : Method} {c : Code} {D : va_G} {cs : JC} {b nL : Nat} {H0 : Heap} {Qf : ρ × JM → State → Prop} {M : JM} {ks sl : Nat} {lv : List (Nat × Value)} {pc : Nat} {st : List Value} {cc : ByteArray} (X : jX p c cc nL s m args RL D cs b meth H0) {z0 : Nat} {z1 : Int32} {K : Int32 → JM → Option (ρ × JM)} (hrm : jRm rm_X7_category 2 R) (hW : (st.map fun v => v.category).sum ≤ 8) {ks2 sl2 : Nat} (hk2 : ks + rm_X7_category.cells = ks2) (hs2 : sl + rm_X7_category.slots = sl2) (hroom : ks2 ≤ R.cells ∧ sl2 ≤ R.slots) (hdg : decode cc pc = .ok (.invokevirtual 13, 3)) (h0 : oty M z0 17) (kk : ∀ (r : Int32) (M2 : JM), gn M ≤ gn M2 → AWO p l e R s m args below meth c D cs b nL H0 Qf (K r M2) M2 ks2 sl2 lv (pc + 3) (.int r :: st)) : AWO p l e R s m args below meth c D cs b nL H0 Qf (ob (f_X7_category z0 z1 M) K) M ks sl lv pc (.int z1 :: .ref (b + z0) :: st) := by
  subst hk2
  subst hs2
  exact aw_callV (ci := 7) X [.int z1] st rfl rfl wl_L_13 wi_X7_category wv_X7_category wc_X7_category wn_X7 (n := 1) hd_X7_category rfl hrm hW hroom hdg h0 (t_X7_category z0 z1 M h0) (fun r M2 g _ => kk r M2 g)
theorem cl_L_17 {ρ : Type} {l : Launch} {p : Program} {e : Env} {R : Room} {s : State} {m : MethodId} {args : Array Value} {below : List Frame} {meth : Method} {c : Code} {D : va_G} {cs : JC} {b nL : Nat} {H0 : Heap} {Qf : ρ × JM → State → Prop} {M : JM} {ks sl : Nat} {lv : List (Nat × Value)} {pc : Nat} {st : List Value} {cc : ByteArray} (X : jX p c cc nL s m args RL D cs b meth H0) {z0 : Nat} {z1 : Int32} {K : Int32 → JM → Option (ρ × JM)} (hrm : jRm rm_X8_category 3 R) (hW : (st.map fun v => v.category).sum ≤ 8) {ks2 sl2 : Nat} (hk2 : ks + rm_X8_category.cells = ks2) (hs2 : sl + rm_X8_category.slots = sl2) (hroom : ks2 ≤ R.cells ∧ sl2 ≤ R.slots) (hdg : decode cc pc = .ok (.invokevirtual 17, 3)) (h0 : oty M z0 18) (kk : ∀ (r : Int32) (M2 : JM), gn M ≤ gn M2 → AWO p l e R s m args below meth c D cs b nL H0 Qf (K r M2) M2 ks2 sl2 lv (pc + 3) (.int r :: st)) : AWO p l e R s m args below meth c D cs b nL H0 Qf (ob (f_X8_category z0 z1 M) K) M ks sl lv pc (.int z1 :: .ref (b + z0) :: st) := by
  subst hk2
  subst hs2
  exact aw_callV (ci := 8) X [.int z1] st rfl rfl wl_L_17 wi_X8_category wv_X8_category wc_X8_category wn_X8 (n := 1) hd_X8_category rfl hrm hW hroom hdg h0 (t_X8_category z0 z1 M h0) (fun r M2 g _ => kk r M2 g)
def f_L_law_L840 (sx : Int32 → Int32) (sN : Int32) (k18 : Nat → Nat → Int32 → JM → Option (Int32 × JM)) : Nat → Nat → Int32 → JM → Option (Int32 × JM) := fun a1 a2 v3 M => sv (v3 + (5 : Int32)) fun i18 => k18 a1 a2 i18 M
set_option maxRecDepth 10000 in
set_option maxHeartbeats 4000000 in
theorem t_L_law_L840 {p : Program} {l : Launch} {e : Env} {s : State} {m : MethodId} {below : List Frame} {meth : Method} {c : Code} {D : va_G} {cs : JC} {bs sL : Nat} {xs : Nat → Int32} (hsL : sL ≤ 2560) (X : jX p c code 4 s m #[Value.ref bs] RL D cs s.heap.size meth s.heap) (hS : lawS bs sL xs s) (hr : meth.sig.returnType = ret) (n : Nat) (k18 : Nat → Nat → Int32 → JM → Option (Int32 × JM)) (hk18 : ∀ (a1 : Nat) (a2 : Nat) (v3 : Int32) (M : JM), oty M a1 17 → oty M a2 18 → ∀ ks sl : Nat, ks + 4 * n + 20 ≤ 600000 → sl + 400 * n + 3000 ≤ 7302249 → AWO p l e room_1 s m #[Value.ref bs] below meth c D cs s.heap.size 4 s.heap (lawQ below bs s) (k18 a1 a2 v3 M) M ks sl [(0, .ref bs), (1, .ref (s.heap.size + a1)), (2, .ref (s.heap.size + a2)), (3, .int v3)] 18 []) : ∀ (a1 : Nat) (a2 : Nat) (v3 : Int32) (M : JM), oty M a1 17 → oty M a2 18 → ∀ ks sl : Nat, ks + 4 * n + 20 ≤ 600000 → sl + 400 * n + 3000 ≤ 7302249 → AWO p l e room_1 s m #[Value.ref bs] below meth c D cs s.heap.size 4 s.heap (lawQ below bs s) (f_L_law_L840 (sxf xs) (nI sL) k18 a1 a2 v3 M) M ks sl [(0, .ref bs), (1, .ref (s.heap.size + a1)), (2, .ref (s.heap.size + a2)), (3, .int v3)] 840 [] := by
  intro a1 a2 v3 M h_a1 h_a2 ks sl hks hsl
  refine aw_callq (F' := sv (v3 + (5 : Int32)) fun i18 => k18 a1 a2 i18 M) rfl ?_
  refine aw_iincV (pc := 840) X (fun y => [(3, .int y), (0, .ref bs), (1, .ref (s.heap.size + a1)), (2, .ref (s.heap.size + a2))]) 3 (v := (v3 + (5 : Int32))) dL_law_840 rfl rfl (by decide) (fun _ => rfl) (fun i18 => ?_)
  refine aw_goto (pc := 843) X 18 dL_law_843 (by decide) ?_
  refine aw_sub [1, 2, 3, 0] rfl ?_
  exact hk18 a1 a2 i18 M h_a1 h_a2 _ _ (by have e0 : FU = 4096 := rfl; have c9 : room_1.cells = 600000 := rfl; have s9 : room_1.slots = 7302249 := rfl; omega) (by have e0 : FU = 4096 := rfl; have c9 : room_1.cells = 600000 := rfl; have s9 : room_1.slots = 7302249 := rfl; omega)
theorem cl_L_18 {ρ : Type} {l : Launch} {p : Program} {e : Env} {R : Room} {s : State} {m : MethodId} {args : Array Value} {below : List Frame} {meth : Method} {c : Code} {D : va_G} {cs : JC} {b nL : Nat} {H0 : Heap} {Qf : ρ × JM → State → Prop} {M : JM} {ks sl : Nat} {lv : List (Nat × Value)} {pc : Nat} {st : List Value} {cc : ByteArray} (X : jX p c cc nL s m args RL D cs b meth H0) {z0 : Nat} {z1 : Int32} {z2 : Int32} {z3 : Int32} {z4 : Int32} {K : Int32 → JM → Option (ρ × JM)} (hrm : jRm rm_X7_item 7 R) (hW : (st.map fun v => v.category).sum ≤ 8) {ks2 sl2 : Nat} (hk2 : ks + rm_X7_item.cells = ks2) (hs2 : sl + rm_X7_item.slots = sl2) (hroom : ks2 ≤ R.cells ∧ sl2 ≤ R.slots) (hdg : decode cc pc = .ok (.invokevirtual 18, 3)) (h0 : oty M z0 17) (kk : ∀ (r : Int32) (M2 : JM), gn M ≤ gn M2 → AWO p l e R s m args below meth c D cs b nL H0 Qf (K r M2) M2 ks2 sl2 lv (pc + 3) (.int r :: st)) : AWO p l e R s m args below meth c D cs b nL H0 Qf (ob (f_X7_item z0 z1 z2 z3 z4 M) K) M ks sl lv pc (.int z4 :: .int z3 :: .int z2 :: .int z1 :: .ref (b + z0) :: st) := by
  subst hk2
  subst hs2
  exact aw_callV (ci := 7) X [.int z1, .int z2, .int z3, .int z4] st rfl rfl wl_L_18 wi_X7_item wv_X7_item wc_X7_item wn_X7 (n := 4) hd_X7_item rfl hrm hW hroom hdg h0 (t_X7_item z0 z1 z2 z3 z4 M h0) (fun r M2 g _ => kk r M2 g)
theorem cl_L_22 {ρ : Type} {l : Launch} {p : Program} {e : Env} {R : Room} {s : State} {m : MethodId} {args : Array Value} {below : List Frame} {meth : Method} {c : Code} {D : va_G} {cs : JC} {b nL : Nat} {H0 : Heap} {Qf : ρ × JM → State → Prop} {M : JM} {ks sl : Nat} {lv : List (Nat × Value)} {pc : Nat} {st : List Value} {cc : ByteArray} (X : jX p c cc nL s m args RL D cs b meth H0) {z0 : Nat} {z1 : Int32} {z2 : Int32} {z3 : Int32} {z4 : Int32} {K : Int32 → JM → Option (ρ × JM)} (hrm : jRm rm_X8_item 7 R) (hW : (st.map fun v => v.category).sum ≤ 8) {ks2 sl2 : Nat} (hk2 : ks + rm_X8_item.cells = ks2) (hs2 : sl + rm_X8_item.slots = sl2) (hroom : ks2 ≤ R.cells ∧ sl2 ≤ R.slots) (hdg : decode cc pc = .ok (.invokevirtual 22, 3)) (h0 : oty M z0 18) (kk : ∀ (r : Int32) (M2 : JM), gn M ≤ gn M2 → AWO p l e R s m args below meth c D cs b nL H0 Qf (K r M2) M2 ks2 sl2 lv (pc + 3) (.int r :: st)) : AWO p l e R s m args below meth c D cs b nL H0 Qf (ob (f_X8_item z0 z1 z2 z3 z4 M) K) M ks sl lv pc (.int z4 :: .int z3 :: .int z2 :: .int z1 :: .ref (b + z0) :: st) := by
  subst hk2
  subst hs2
  exact aw_callV (ci := 8) X [.int z1, .int z2, .int z3, .int z4] st rfl rfl wl_L_22 wi_X8_item wv_X8_item wc_X8_item wn_X8 (n := 4) hd_X8_item rfl hrm hW hroom hdg h0 (t_X8_item z0 z1 z2 z3 z4 M h0) (fun r M2 g _ => kk r M2 g)
theorem cl_L_23 {ρ : Type} {l : Launch} {p : Program} {e : Env} {R : Room} {s : State} {m : MethodId} {args : Array Value} {below : List Frame} {meth : Method} {c : Code} {D : va_G} {cs : JC} {b nL : Nat} {H0 : Heap} {Qf : ρ × JM → State → Prop} {M : JM} {ks sl : Nat} {lv : List (Nat × Value)} {pc : Nat} {st : List Value} {cc : ByteArray} (X : jX p c cc nL s m args RL D cs b meth H0) {z0 : Nat} {z1 : Int32} {z2 : Int32} {z3 : Int32} {z4 : Int32} {K : Int32 → JM → Option (ρ × JM)} (hrm : jRm rm_X7_part 7 R) (hW : (st.map fun v => v.category).sum ≤ 8) {ks2 sl2 : Nat} (hk2 : ks + rm_X7_part.cells = ks2) (hs2 : sl + rm_X7_part.slots = sl2) (hroom : ks2 ≤ R.cells ∧ sl2 ≤ R.slots) (hdg : decode cc pc = .ok (.invokevirtual 23, 3)) (h0 : oty M z0 17) (kk : ∀ (r : Int32) (M2 : JM), gn M ≤ gn M2 → AWO p l e R s m args below meth c D cs b nL H0 Qf (K r M2) M2 ks2 sl2 lv (pc + 3) (.int r :: st)) : AWO p l e R s m args below meth c D cs b nL H0 Qf (ob (f_X7_part z0 z1 z2 z3 z4 M) K) M ks sl lv pc (.int z4 :: .int z3 :: .int z2 :: .int z1 :: .ref (b + z0) :: st) := by
  subst hk2
  subst hs2
  exact aw_callV (ci := 7) X [.int z1, .int z2, .int z3, .int z4] st rfl rfl wl_L_23 wi_X7_part wv_X7_part wc_X7_part wn_X7 (n := 4) hd_X7_part rfl hrm hW hroom hdg h0 (t_X7_part z0 z1 z2 z3 z4 M h0) (fun r M2 g _ => kk r M2 g)
theorem cl_L_26 {ρ : Type} {l : Launch} {p : Program} {e : Env} {R : Room} {s : State} {m : MethodId} {args : Array Value} {below : List Frame} {meth : Method} {c : Code} {D : va_G} {cs : JC} {b nL : Nat} {H0 : Heap} {Qf : ρ × JM → State → Prop} {M : JM} {ks sl : Nat} {lv : List (Nat × Value)} {pc : Nat} {st : List Value} {cc : ByteArray} (X : jX p c cc nL s m args RL D cs b meth H0) {z0 : Nat} {z1 : Int32} {z2 : Int32} {z3 : Int32} {z4 : Int32} {K : Int32 → JM → Option (ρ × JM)} (hrm : jRm rm_X8_part 6 R) (hW : (st.map fun v => v.category).sum ≤ 8) {ks2 sl2 : Nat} (hk2 : ks + rm_X8_part.cells = ks2) (hs2 : sl + rm_X8_part.slots = sl2) (hroom : ks2 ≤ R.cells ∧ sl2 ≤ R.slots) (hdg : decode cc pc = .ok (.invokevirtual 26, 3)) (h0 : oty M z0 18) (kk : ∀ (r : Int32) (M2 : JM), gn M ≤ gn M2 → AWO p l e R s m args below meth c D cs b nL H0 Qf (K r M2) M2 ks2 sl2 lv (pc + 3) (.int r :: st)) : AWO p l e R s m args below meth c D cs b nL H0 Qf (ob (f_X8_part z0 z1 z2 z3 z4 M) K) M ks sl lv pc (.int z4 :: .int z3 :: .int z2 :: .int z1 :: .ref (b + z0) :: st) := by
  subst hk2
  subst hs2
  exact aw_callV (ci := 8) X [.int z1, .int z2, .int z3, .int z4] st rfl rfl wl_L_26 wi_X8_part wv_X8_part wc_X8_part wn_X8 (n := 4) hd_X8_part rfl hrm hW hroom hdg h0 (t_X8_part z0 z1 z2 z3 z4 M h0) (fun r M2 g _ => kk r M2 g)
theorem cl_L_27 {ρ : Type} {l : Launch} {p : Program} {e : Env} {R : Room} {s : State} {m : MethodId} {args : Array Value} {below : List Frame} {meth : Method} {c : Code} {D : va_G} {cs : JC} {b nL : Nat} {H0 : Heap} {Qf : ρ × JM → State → Prop} {M : JM} {ks sl : Nat} {lv : List (Nat × Value)} {pc : Nat} {st : List Value} {cc : ByteArray} (X : jX p c cc nL s m args RL D cs b meth H0) {z0 : Nat} {z1 : Int32} {z2 : Int32} {z3 : Int32} {K : Int32 → JM → Option (ρ × JM)} (hrm : jRm rm_X7_tells 5 R) (hW : (st.map fun v => v.category).sum ≤ 8) {ks2 sl2 : Nat} (hk2 : ks + rm_X7_tells.cells = ks2) (hs2 : sl + rm_X7_tells.slots = sl2) (hroom : ks2 ≤ R.cells ∧ sl2 ≤ R.slots) (hdg : decode cc pc = .ok (.invokevirtual 27, 3)) (h0 : oty M z0 17) (kk : ∀ (r : Int32) (M2 : JM), gn M ≤ gn M2 → AWO p l e R s m args below meth c D cs b nL H0 Qf (K r M2) M2 ks2 sl2 lv (pc + 3) (.int r :: st)) : AWO p l e R s m args below meth c D cs b nL H0 Qf (ob (f_X7_tells z0 z1 z2 z3 M) K) M ks sl lv pc (.int z3 :: .int z2 :: .int z1 :: .ref (b + z0) :: st) := by
  subst hk2
  subst hs2
  exact aw_callV (ci := 7) X [.int z1, .int z2, .int z3] st rfl rfl wl_L_27 wi_X7_tells wv_X7_tells wc_X7_tells wn_X7 (n := 3) hd_X7_tells rfl hrm hW hroom hdg h0 (t_X7_tells z0 z1 z2 z3 M h0) (fun r M2 g _ => kk r M2 g)
theorem cl_L_31 {ρ : Type} {l : Launch} {p : Program} {e : Env} {R : Room} {s : State} {m : MethodId} {args : Array Value} {below : List Frame} {meth : Method} {c : Code} {D : va_G} {cs : JC} {b nL : Nat} {H0 : Heap} {Qf : ρ × JM → State → Prop} {M : JM} {ks sl : Nat} {lv : List (Nat × Value)} {pc : Nat} {st : List Value} {cc : ByteArray} (X : jX p c cc nL s m args RL D cs b meth H0) {z0 : Nat} {z1 : Int32} {z2 : Int32} {z3 : Int32} {K : Int32 → JM → Option (ρ × JM)} (hrm : jRm rm_X8_tells 4 R) (hW : (st.map fun v => v.category).sum ≤ 8) {ks2 sl2 : Nat} (hk2 : ks + rm_X8_tells.cells = ks2) (hs2 : sl + rm_X8_tells.slots = sl2) (hroom : ks2 ≤ R.cells ∧ sl2 ≤ R.slots) (hdg : decode cc pc = .ok (.invokevirtual 31, 3)) (h0 : oty M z0 18) (kk : ∀ (r : Int32) (M2 : JM), gn M ≤ gn M2 → AWO p l e R s m args below meth c D cs b nL H0 Qf (K r M2) M2 ks2 sl2 lv (pc + 3) (.int r :: st)) : AWO p l e R s m args below meth c D cs b nL H0 Qf (ob (f_X8_tells z0 z1 z2 z3 M) K) M ks sl lv pc (.int z3 :: .int z2 :: .int z1 :: .ref (b + z0) :: st) := by
  subst hk2
  subst hs2
  exact aw_callV (ci := 8) X [.int z1, .int z2, .int z3] st rfl rfl wl_L_31 wi_X8_tells wv_X8_tells wc_X8_tells wn_X8 (n := 3) hd_X8_tells rfl hrm hW hroom hdg h0 (t_X8_tells z0 z1 z2 z3 M h0) (fun r M2 g _ => kk r M2 g)
theorem cl_L_32 {ρ : Type} {l : Launch} {p : Program} {e : Env} {R : Room} {s : State} {m : MethodId} {args : Array Value} {below : List Frame} {meth : Method} {c : Code} {D : va_G} {cs : JC} {b nL : Nat} {H0 : Heap} {Qf : ρ × JM → State → Prop} {M : JM} {ks sl : Nat} {lv : List (Nat × Value)} {pc : Nat} {st : List Value} {cc : ByteArray} (X : jX p c cc nL s m args RL D cs b meth H0) {z0 : Nat} {z1 : Int32} {z2 : Int32} {z3 : Int32} {K : Int32 → JM → Option (ρ × JM)} (hrm : jRm rm_X7_table 5 R) (hW : (st.map fun v => v.category).sum ≤ 8) {ks2 sl2 : Nat} (hk2 : ks + rm_X7_table.cells = ks2) (hs2 : sl + rm_X7_table.slots = sl2) (hroom : ks2 ≤ R.cells ∧ sl2 ≤ R.slots) (hdg : decode cc pc = .ok (.invokevirtual 32, 3)) (h0 : oty M z0 17) (kk : ∀ (r : Int32) (M2 : JM), gn M ≤ gn M2 → AWO p l e R s m args below meth c D cs b nL H0 Qf (K r M2) M2 ks2 sl2 lv (pc + 3) (.int r :: st)) : AWO p l e R s m args below meth c D cs b nL H0 Qf (ob (f_X7_table z0 z1 z2 z3 M) K) M ks sl lv pc (.int z3 :: .int z2 :: .int z1 :: .ref (b + z0) :: st) := by
  subst hk2
  subst hs2
  exact aw_callV (ci := 7) X [.int z1, .int z2, .int z3] st rfl rfl wl_L_32 wi_X7_table wv_X7_table wc_X7_table wn_X7 (n := 3) hd_X7_table rfl hrm hW hroom hdg h0 (t_X7_table z0 z1 z2 z3 M h0) (fun r M2 g _ => kk r M2 g)
theorem cl_L_35 {ρ : Type} {l : Launch} {p : Program} {e : Env} {R : Room} {s : State} {m : MethodId} {args : Array Value} {below : List Frame} {meth : Method} {c : Code} {D : va_G} {cs : JC} {b nL : Nat} {H0 : Heap} {Qf : ρ × JM → State → Prop} {M : JM} {ks sl : Nat} {lv : List (Nat × Value)} {pc : Nat} {st : List Value} {cc : ByteArray} (X : jX p c cc nL s m args RL D cs b meth H0) {z0 : Nat} {z1 : Int32} {z2 : Int32} {z3 : Int32} {K : Int32 → JM → Option (ρ × JM)} (hrm : jRm rm_X8_table 5 R) (hW : (st.map fun v => v.category).sum ≤ 8) {ks2 sl2 : Nat} (hk2 : ks + rm_X8_table.cells = ks2) (hs2 : sl + rm_X8_table.slots = sl2) (hroom : ks2 ≤ R.cells ∧ sl2 ≤ R.slots) (hdg : decode cc pc = .ok (.invokevirtual 35, 3)) (h0 : oty M z0 18) (kk : ∀ (r : Int32) (M2 : JM), gn M ≤ gn M2 → AWO p l e R s m args below meth c D cs b nL H0 Qf (K r M2) M2 ks2 sl2 lv (pc + 3) (.int r :: st)) : AWO p l e R s m args below meth c D cs b nL H0 Qf (ob (f_X8_table z0 z1 z2 z3 M) K) M ks sl lv pc (.int z3 :: .int z2 :: .int z1 :: .ref (b + z0) :: st) := by
  subst hk2
  subst hs2
  exact aw_callV (ci := 8) X [.int z1, .int z2, .int z3] st rfl rfl wl_L_35 wi_X8_table wv_X8_table wc_X8_table wn_X8 (n := 3) hd_X8_table rfl hrm hW hroom hdg h0 (t_X8_table z0 z1 z2 z3 M h0) (fun r M2 g _ => kk r M2 g)
theorem cl_L_38 {ρ : Type} {l : Launch} {p : Program} {e : Env} {R : Room} {s : State} {m : MethodId} {args : Array Value} {below : List Frame} {meth : Method} {c : Code} {D : va_G} {cs : JC} {b nL : Nat} {H0 : Heap} {Qf : ρ × JM → State → Prop} {M : JM} {ks sl : Nat} {lv : List (Nat × Value)} {pc : Nat} {st : List Value} {cc : ByteArray} (X : jX p c cc nL s m args RL D cs b meth H0) {z0 : Nat} {z1 : Int64} {z3 : Int32} {K : Int32 → JM → Option (ρ × JM)} (hrm : jRm rm_X7_feed 5 R) (hW : (st.map fun v => v.category).sum ≤ 8) {ks2 sl2 : Nat} (hk2 : ks + rm_X7_feed.cells = ks2) (hs2 : sl + rm_X7_feed.slots = sl2) (hroom : ks2 ≤ R.cells ∧ sl2 ≤ R.slots) (hdg : decode cc pc = .ok (.invokevirtual 38, 3)) (h0 : oty M z0 17) (kk : ∀ (r : Int32) (M2 : JM), gn M ≤ gn M2 → AWO p l e R s m args below meth c D cs b nL H0 Qf (K r M2) M2 ks2 sl2 lv (pc + 3) (.int r :: st)) : AWO p l e R s m args below meth c D cs b nL H0 Qf (ob (f_X7_feed z0 z1 z3 M) K) M ks sl lv pc (.int z3 :: .long z1 :: .ref (b + z0) :: st) := by
  subst hk2
  subst hs2
  exact aw_callV (ci := 7) X [.long z1, .int z3] st rfl rfl wl_L_38 wi_X7_feed wv_X7_feed wc_X7_feed wn_X7 (n := 2) hd_X7_feed rfl hrm hW hroom hdg h0 (t_X7_feed z0 z1 z3 M h0) (fun r M2 g _ => kk r M2 g)
theorem cl_L_42 {ρ : Type} {l : Launch} {p : Program} {e : Env} {R : Room} {s : State} {m : MethodId} {args : Array Value} {below : List Frame} {meth : Method} {c : Code} {D : va_G} {cs : JC} {b nL : Nat} {H0 : Heap} {Qf : ρ × JM → State → Prop} {M : JM} {ks sl : Nat} {lv : List (Nat × Value)} {pc : Nat} {st : List Value} {cc : ByteArray} (X : jX p c cc nL s m args RL D cs b meth H0) {z0 : Nat} {z1 : Int64} {z3 : Int32} {K : Int32 → JM → Option (ρ × JM)} (hrm : jRm rm_X8_feed 5 R) (hW : (st.map fun v => v.category).sum ≤ 8) {ks2 sl2 : Nat} (hk2 : ks + rm_X8_feed.cells = ks2) (hs2 : sl + rm_X8_feed.slots = sl2) (hroom : ks2 ≤ R.cells ∧ sl2 ≤ R.slots) (hdg : decode cc pc = .ok (.invokevirtual 42, 3)) (h0 : oty M z0 18) (kk : ∀ (r : Int32) (M2 : JM), gn M ≤ gn M2 → AWO p l e R s m args below meth c D cs b nL H0 Qf (K r M2) M2 ks2 sl2 lv (pc + 3) (.int r :: st)) : AWO p l e R s m args below meth c D cs b nL H0 Qf (ob (f_X8_feed z0 z1 z3 M) K) M ks sl lv pc (.int z3 :: .long z1 :: .ref (b + z0) :: st) := by
  subst hk2
  subst hs2
  exact aw_callV (ci := 8) X [.long z1, .int z3] st rfl rfl wl_L_42 wi_X8_feed wv_X8_feed wc_X8_feed wn_X8 (n := 2) hd_X8_feed rfl hrm hW hroom hdg h0 (t_X8_feed z0 z1 z3 M h0) (fun r M2 g _ => kk r M2 g)
theorem cl_L_43 {ρ : Type} {l : Launch} {p : Program} {e : Env} {R : Room} {s : State} {m : MethodId} {args : Array Value} {below : List Frame} {meth : Method} {c : Code} {D : va_G} {cs : JC} {b nL : Nat} {H0 : Heap} {Qf : ρ × JM → State → Prop} {M : JM} {ks sl : Nat} {lv : List (Nat × Value)} {pc : Nat} {st : List Value} {cc : ByteArray} (X : jX p c cc nL s m args RL D cs b meth H0) {z0 : Nat} {K : Int32 → JM → Option (ρ × JM)} (hrm : jRm rm_X7_tear 2 R) (hW : (st.map fun v => v.category).sum ≤ 8) {ks2 sl2 : Nat} (hk2 : ks + rm_X7_tear.cells = ks2) (hs2 : sl + rm_X7_tear.slots = sl2) (hroom : ks2 ≤ R.cells ∧ sl2 ≤ R.slots) (hdg : decode cc pc = .ok (.invokevirtual 43, 3)) (h0 : oty M z0 17) (kk : ∀ (r : Int32) (M2 : JM), gn M ≤ gn M2 → AWO p l e R s m args below meth c D cs b nL H0 Qf (K r M2) M2 ks2 sl2 lv (pc + 3) (.int r :: st)) : AWO p l e R s m args below meth c D cs b nL H0 Qf (ob (f_X7_tear z0 M) K) M ks sl lv pc (.ref (b + z0) :: st) := by
  subst hk2
  subst hs2
  exact aw_callV (ci := 7) X [] st rfl rfl wl_L_43 wi_X7_tear wv_X7_tear wc_X7_tear wn_X7 (n := 0) hd_X7_tear rfl hrm hW hroom hdg h0 (t_X7_tear z0 M h0) (fun r M2 g _ => kk r M2 g)
theorem cl_L_47 {ρ : Type} {l : Launch} {p : Program} {e : Env} {R : Room} {s : State} {m : MethodId} {args : Array Value} {below : List Frame} {meth : Method} {c : Code} {D : va_G} {cs : JC} {b nL : Nat} {H0 : Heap} {Qf : ρ × JM → State → Prop} {M : JM} {ks sl : Nat} {lv : List (Nat × Value)} {pc : Nat} {st : List Value} {cc : ByteArray} (X : jX p c cc nL s m args RL D cs b meth H0) {z0 : Nat} {K : Int32 → JM → Option (ρ × JM)} (hrm : jRm rm_X8_tear 2 R) (hW : (st.map fun v => v.category).sum ≤ 8) {ks2 sl2 : Nat} (hk2 : ks + rm_X8_tear.cells = ks2) (hs2 : sl + rm_X8_tear.slots = sl2) (hroom : ks2 ≤ R.cells ∧ sl2 ≤ R.slots) (hdg : decode cc pc = .ok (.invokevirtual 47, 3)) (h0 : oty M z0 18) (kk : ∀ (r : Int32) (M2 : JM), gn M ≤ gn M2 → AWO p l e R s m args below meth c D cs b nL H0 Qf (K r M2) M2 ks2 sl2 lv (pc + 3) (.int r :: st)) : AWO p l e R s m args below meth c D cs b nL H0 Qf (ob (f_X8_tear z0 M) K) M ks sl lv pc (.ref (b + z0) :: st) := by
  subst hk2
  subst hs2
  exact aw_callV (ci := 8) X [] st rfl rfl wl_L_47 wi_X8_tear wv_X8_tear wc_X8_tear wn_X8 (n := 0) hd_X8_tear rfl hrm hW hroom hdg h0 (t_X8_tear z0 M h0) (fun r M2 g _ => kk r M2 g)
theorem cl_L_48 {ρ : Type} {l : Launch} {p : Program} {e : Env} {R : Room} {s : State} {m : MethodId} {args : Array Value} {below : List Frame} {meth : Method} {c : Code} {D : va_G} {cs : JC} {b nL : Nat} {H0 : Heap} {Qf : ρ × JM → State → Prop} {M : JM} {ks sl : Nat} {lv : List (Nat × Value)} {pc : Nat} {st : List Value} {cc : ByteArray} (X : jX p c cc nL s m args RL D cs b meth H0) {z0 : Nat} {K : Int32 → JM → Option (ρ × JM)} (hrm : jRm rm_X7_read 2 R) (hW : (st.map fun v => v.category).sum ≤ 8) {ks2 sl2 : Nat} (hk2 : ks + rm_X7_read.cells = ks2) (hs2 : sl + rm_X7_read.slots = sl2) (hroom : ks2 ≤ R.cells ∧ sl2 ≤ R.slots) (hdg : decode cc pc = .ok (.invokevirtual 48, 3)) (h0 : oty M z0 17) (kk : ∀ (r : Int32) (M2 : JM), gn M ≤ gn M2 → AWO p l e R s m args below meth c D cs b nL H0 Qf (K r M2) M2 ks2 sl2 lv (pc + 3) (.int r :: st)) : AWO p l e R s m args below meth c D cs b nL H0 Qf (ob (f_X7_read z0 M) K) M ks sl lv pc (.ref (b + z0) :: st) := by
  subst hk2
  subst hs2
  exact aw_callV (ci := 7) X [] st rfl rfl wl_L_48 wi_X7_read wv_X7_read wc_X7_read wn_X7 (n := 0) hd_X7_read rfl hrm hW hroom hdg h0 (t_X7_read z0 M h0) (fun r M2 g _ => kk r M2 g)
theorem cl_L_51 {ρ : Type} {l : Launch} {p : Program} {e : Env} {R : Room} {s : State} {m : MethodId} {args : Array Value} {below : List Frame} {meth : Method} {c : Code} {D : va_G} {cs : JC} {b nL : Nat} {H0 : Heap} {Qf : ρ × JM → State → Prop} {M : JM} {ks sl : Nat} {lv : List (Nat × Value)} {pc : Nat} {st : List Value} {cc : ByteArray} (X : jX p c cc nL s m args RL D cs b meth H0) {z0 : Nat} {K : Int32 → JM → Option (ρ × JM)} (hrm : jRm rm_X8_read 3 R) (hW : (st.map fun v => v.category).sum ≤ 8) {ks2 sl2 : Nat} (hk2 : ks + rm_X8_read.cells = ks2) (hs2 : sl + rm_X8_read.slots = sl2) (hroom : ks2 ≤ R.cells ∧ sl2 ≤ R.slots) (hdg : decode cc pc = .ok (.invokevirtual 51, 3)) (h0 : oty M z0 18) (kk : ∀ (r : Int32) (M2 : JM), gn M ≤ gn M2 → AWO p l e R s m args below meth c D cs b nL H0 Qf (K r M2) M2 ks2 sl2 lv (pc + 3) (.int r :: st)) : AWO p l e R s m args below meth c D cs b nL H0 Qf (ob (f_X8_read z0 M) K) M ks sl lv pc (.ref (b + z0) :: st) := by
  subst hk2
  subst hs2
  exact aw_callV (ci := 8) X [] st rfl rfl wl_L_51 wi_X8_read wv_X8_read wc_X8_read wn_X8 (n := 0) hd_X8_read rfl hrm hW hroom hdg h0 (t_X8_read z0 M h0) (fun r M2 g _ => kk r M2 g)
theorem cl_L_52 {ρ : Type} {l : Launch} {p : Program} {e : Env} {R : Room} {s : State} {m : MethodId} {args : Array Value} {below : List Frame} {meth : Method} {c : Code} {D : va_G} {cs : JC} {b nL : Nat} {H0 : Heap} {Qf : ρ × JM → State → Prop} {M : JM} {ks sl : Nat} {lv : List (Nat × Value)} {pc : Nat} {st : List Value} {cc : ByteArray} (X : jX p c cc nL s m args RL D cs b meth H0) {z0 : Nat} {K : Int32 → JM → Option (ρ × JM)} (hrm : jRm rm_X7_fault 1 R) (hW : (st.map fun v => v.category).sum ≤ 8) {ks2 sl2 : Nat} (hk2 : ks + rm_X7_fault.cells = ks2) (hs2 : sl + rm_X7_fault.slots = sl2) (hroom : ks2 ≤ R.cells ∧ sl2 ≤ R.slots) (hdg : decode cc pc = .ok (.invokevirtual 52, 3)) (h0 : oty M z0 17) (kk : ∀ (r : Int32) (M2 : JM), gn M ≤ gn M2 → AWO p l e R s m args below meth c D cs b nL H0 Qf (K r M2) M2 ks2 sl2 lv (pc + 3) (.int r :: st)) : AWO p l e R s m args below meth c D cs b nL H0 Qf (ob (f_X7_fault z0 M) K) M ks sl lv pc (.ref (b + z0) :: st) := by
  subst hk2
  subst hs2
  exact aw_callV (ci := 7) X [] st rfl rfl wl_L_52 wi_X7_fault wv_X7_fault wc_X7_fault wn_X7 (n := 0) hd_X7_fault rfl hrm hW hroom hdg h0 (t_X7_fault z0 M h0) (fun r M2 g _ => kk r M2 g)
theorem cl_L_55 {ρ : Type} {l : Launch} {p : Program} {e : Env} {R : Room} {s : State} {m : MethodId} {args : Array Value} {below : List Frame} {meth : Method} {c : Code} {D : va_G} {cs : JC} {b nL : Nat} {H0 : Heap} {Qf : ρ × JM → State → Prop} {M : JM} {ks sl : Nat} {lv : List (Nat × Value)} {pc : Nat} {st : List Value} {cc : ByteArray} (X : jX p c cc nL s m args RL D cs b meth H0) {z0 : Nat} {K : Int32 → JM → Option (ρ × JM)} (hrm : jRm rm_X8_fault 1 R) (hW : (st.map fun v => v.category).sum ≤ 8) {ks2 sl2 : Nat} (hk2 : ks + rm_X8_fault.cells = ks2) (hs2 : sl + rm_X8_fault.slots = sl2) (hroom : ks2 ≤ R.cells ∧ sl2 ≤ R.slots) (hdg : decode cc pc = .ok (.invokevirtual 55, 3)) (h0 : oty M z0 18) (kk : ∀ (r : Int32) (M2 : JM), gn M ≤ gn M2 → AWO p l e R s m args below meth c D cs b nL H0 Qf (K r M2) M2 ks2 sl2 lv (pc + 3) (.int r :: st)) : AWO p l e R s m args below meth c D cs b nL H0 Qf (ob (f_X8_fault z0 M) K) M ks sl lv pc (.ref (b + z0) :: st) := by
  subst hk2
  subst hs2
  exact aw_callV (ci := 8) X [] st rfl rfl wl_L_55 wi_X8_fault wv_X8_fault wc_X8_fault wn_X8 (n := 0) hd_X8_fault rfl hrm hW hroom hdg h0 (t_X8_fault z0 M h0) (fun r M2 g _ => kk r M2 g)
theorem cl_L_56 {ρ : Type} {l : Launch} {p : Program} {e : Env} {R : Room} {s : State} {m : MethodId} {args : Array Value} {below : List Frame} {meth : Method} {c : Code} {D : va_G} {cs : JC} {b nL : Nat} {H0 : Heap} {Qf : ρ × JM → State → Prop} {M : JM} {ks sl : Nat} {lv : List (Nat × Value)} {pc : Nat} {st : List Value} {cc : ByteArray} (X : jX p c cc nL s m args RL D cs b meth H0) {z0 : Nat} {z1 : Int32} {K : Int32 → JM → Option (ρ × JM)} (hrm : jRm rm_X7_records 2 R) (hW : (st.map fun v => v.category).sum ≤ 8) {ks2 sl2 : Nat} (hk2 : ks + rm_X7_records.cells = ks2) (hs2 : sl + rm_X7_records.slots = sl2) (hroom : ks2 ≤ R.cells ∧ sl2 ≤ R.slots) (hdg : decode cc pc = .ok (.invokevirtual 56, 3)) (h0 : oty M z0 17) (kk : ∀ (r : Int32) (M2 : JM), gn M ≤ gn M2 → AWO p l e R s m args below meth c D cs b nL H0 Qf (K r M2) M2 ks2 sl2 lv (pc + 3) (.int r :: st)) : AWO p l e R s m args below meth c D cs b nL H0 Qf (ob (f_X7_records z0 z1 M) K) M ks sl lv pc (.int z1 :: .ref (b + z0) :: st) := by
  subst hk2
  subst hs2
  exact aw_callV (ci := 7) X [.int z1] st rfl rfl wl_L_56 wi_X7_records wv_X7_records wc_X7_records wn_X7 (n := 1) hd_X7_records rfl hrm hW hroom hdg h0 (t_X7_records z0 z1 M h0) (fun r M2 g _ => kk r M2 g)
theorem cl_L_59 {ρ : Type} {l : Launch} {p : Program} {e : Env} {R : Room} {s : State} {m : MethodId} {args : Array Value} {below : List Frame} {meth : Method} {c : Code} {D : va_G} {cs : JC} {b nL : Nat} {H0 : Heap} {Qf : ρ × JM → State → Prop} {M : JM} {ks sl : Nat} {lv : List (Nat × Value)} {pc : Nat} {st : List Value} {cc : ByteArray} (X : jX p c cc nL s m args RL D cs b meth H0) {z0 : Nat} {z1 : Int32} {K : Int32 → JM → Option (ρ × JM)} (hrm : jRm rm_X8_records 2 R) (hW : (st.map fun v => v.category).sum ≤ 8) {ks2 sl2 : Nat} (hk2 : ks + rm_X8_records.cells = ks2) (hs2 : sl + rm_X8_records.slots = sl2) (hroom : ks2 ≤ R.cells ∧ sl2 ≤ R.slots) (hdg : decode cc pc = .ok (.invokevirtual 59, 3)) (h0 : oty M z0 18) (kk : ∀ (r : Int32) (M2 : JM), gn M ≤ gn M2 → AWO p l e R s m args below meth c D cs b nL H0 Qf (K r M2) M2 ks2 sl2 lv (pc + 3) (.int r :: st)) : AWO p l e R s m args below meth c D cs b nL H0 Qf (ob (f_X8_records z0 z1 M) K) M ks sl lv pc (.int z1 :: .ref (b + z0) :: st) := by
  subst hk2
  subst hs2
  exact aw_callV (ci := 8) X [.int z1] st rfl rfl wl_L_59 wi_X8_records wv_X8_records wc_X8_records wn_X8 (n := 1) hd_X8_records rfl hrm hW hroom hdg h0 (t_X8_records z0 z1 M h0) (fun r M2 g _ => kk r M2 g)
theorem cl_L_60 {ρ : Type} {l : Launch} {p : Program} {e : Env} {R : Room} {s : State} {m : MethodId} {args : Array Value} {below : List Frame} {meth : Method} {c : Code} {D : va_G} {cs : JC} {b nL : Nat} {H0 : Heap} {Qf : ρ × JM → State → Prop} {M : JM} {ks sl : Nat} {lv : List (Nat × Value)} {pc : Nat} {st : List Value} {cc : ByteArray} (X : jX p c cc nL s m args RL D cs b meth H0) {z0 : Nat} {z1 : Int32} {z2 : Int32} {z3 : Int32} {K : Int32 → JM → Option (ρ × JM)} (hrm : jRm rm_X7_has 4 R) (hW : (st.map fun v => v.category).sum ≤ 8) {ks2 sl2 : Nat} (hk2 : ks + rm_X7_has.cells = ks2) (hs2 : sl + rm_X7_has.slots = sl2) (hroom : ks2 ≤ R.cells ∧ sl2 ≤ R.slots) (hdg : decode cc pc = .ok (.invokevirtual 60, 3)) (h0 : oty M z0 17) (kk : ∀ (r : Int32) (M2 : JM), gn M ≤ gn M2 → AWO p l e R s m args below meth c D cs b nL H0 Qf (K r M2) M2 ks2 sl2 lv (pc + 3) (.int r :: st)) : AWO p l e R s m args below meth c D cs b nL H0 Qf (ob (f_X7_has z0 z1 z2 z3 M) K) M ks sl lv pc (.int z3 :: .int z2 :: .int z1 :: .ref (b + z0) :: st) := by
  subst hk2
  subst hs2
  exact aw_callV (ci := 7) X [.int z1, .int z2, .int z3] st rfl rfl wl_L_60 wi_X7_has wv_X7_has wc_X7_has wn_X7 (n := 3) hd_X7_has rfl hrm hW hroom hdg h0 (t_X7_has z0 z1 z2 z3 M h0) (fun r M2 g _ => kk r M2 g)
theorem cl_L_63 {ρ : Type} {l : Launch} {p : Program} {e : Env} {R : Room} {s : State} {m : MethodId} {args : Array Value} {below : List Frame} {meth : Method} {c : Code} {D : va_G} {cs : JC} {b nL : Nat} {H0 : Heap} {Qf : ρ × JM → State → Prop} {M : JM} {ks sl : Nat} {lv : List (Nat × Value)} {pc : Nat} {st : List Value} {cc : ByteArray} (X : jX p c cc nL s m args RL D cs b meth H0) {z0 : Nat} {z1 : Int32} {z2 : Int32} {z3 : Int32} {K : Int32 → JM → Option (ρ × JM)} (hrm : jRm rm_X8_has 5 R) (hW : (st.map fun v => v.category).sum ≤ 8) {ks2 sl2 : Nat} (hk2 : ks + rm_X8_has.cells = ks2) (hs2 : sl + rm_X8_has.slots = sl2) (hroom : ks2 ≤ R.cells ∧ sl2 ≤ R.slots) (hdg : decode cc pc = .ok (.invokevirtual 63, 3)) (h0 : oty M z0 18) (kk : ∀ (r : Int32) (M2 : JM), gn M ≤ gn M2 → AWO p l e R s m args below meth c D cs b nL H0 Qf (K r M2) M2 ks2 sl2 lv (pc + 3) (.int r :: st)) : AWO p l e R s m args below meth c D cs b nL H0 Qf (ob (f_X8_has z0 z1 z2 z3 M) K) M ks sl lv pc (.int z3 :: .int z2 :: .int z1 :: .ref (b + z0) :: st) := by
  subst hk2
  subst hs2
  exact aw_callV (ci := 8) X [.int z1, .int z2, .int z3] st rfl rfl wl_L_63 wi_X8_has wv_X8_has wc_X8_has wn_X8 (n := 3) hd_X8_has rfl hrm hW hroom hdg h0 (t_X8_has z0 z1 z2 z3 M h0) (fun r M2 g _ => kk r M2 g)
theorem cl_L_64 {ρ : Type} {l : Launch} {p : Program} {e : Env} {R : Room} {s : State} {m : MethodId} {args : Array Value} {below : List Frame} {meth : Method} {c : Code} {D : va_G} {cs : JC} {b nL : Nat} {H0 : Heap} {Qf : ρ × JM → State → Prop} {M : JM} {ks sl : Nat} {lv : List (Nat × Value)} {pc : Nat} {st : List Value} {cc : ByteArray} (X : jX p c cc nL s m args RL D cs b meth H0) {z0 : Nat} {z1 : Int32} {z2 : Int32} {z3 : Int32} {K : Int32 → JM → Option (ρ × JM)} (hrm : jRm rm_X7_at 4 R) (hW : (st.map fun v => v.category).sum ≤ 8) {ks2 sl2 : Nat} (hk2 : ks + rm_X7_at.cells = ks2) (hs2 : sl + rm_X7_at.slots = sl2) (hroom : ks2 ≤ R.cells ∧ sl2 ≤ R.slots) (hdg : decode cc pc = .ok (.invokevirtual 64, 3)) (h0 : oty M z0 17) (kk : ∀ (r : Int32) (M2 : JM), gn M ≤ gn M2 → AWO p l e R s m args below meth c D cs b nL H0 Qf (K r M2) M2 ks2 sl2 lv (pc + 3) (.int r :: st)) : AWO p l e R s m args below meth c D cs b nL H0 Qf (ob (f_X7_at z0 z1 z2 z3 M) K) M ks sl lv pc (.int z3 :: .int z2 :: .int z1 :: .ref (b + z0) :: st) := by
  subst hk2
  subst hs2
  exact aw_callV (ci := 7) X [.int z1, .int z2, .int z3] st rfl rfl wl_L_64 wi_X7_at wv_X7_at wc_X7_at wn_X7 (n := 3) hd_X7_at rfl hrm hW hroom hdg h0 (t_X7_at z0 z1 z2 z3 M h0) (fun r M2 g _ => kk r M2 g)
theorem cl_L_67 {ρ : Type} {l : Launch} {p : Program} {e : Env} {R : Room} {s : State} {m : MethodId} {args : Array Value} {below : List Frame} {meth : Method} {c : Code} {D : va_G} {cs : JC} {b nL : Nat} {H0 : Heap} {Qf : ρ × JM → State → Prop} {M : JM} {ks sl : Nat} {lv : List (Nat × Value)} {pc : Nat} {st : List Value} {cc : ByteArray} (X : jX p c cc nL s m args RL D cs b meth H0) {z0 : Nat} {z1 : Int32} {z2 : Int32} {z3 : Int32} {K : Int32 → JM → Option (ρ × JM)} (hrm : jRm rm_X8_at 4 R) (hW : (st.map fun v => v.category).sum ≤ 8) {ks2 sl2 : Nat} (hk2 : ks + rm_X8_at.cells = ks2) (hs2 : sl + rm_X8_at.slots = sl2) (hroom : ks2 ≤ R.cells ∧ sl2 ≤ R.slots) (hdg : decode cc pc = .ok (.invokevirtual 67, 3)) (h0 : oty M z0 18) (kk : ∀ (r : Int32) (M2 : JM), gn M ≤ gn M2 → AWO p l e R s m args below meth c D cs b nL H0 Qf (K r M2) M2 ks2 sl2 lv (pc + 3) (.int r :: st)) : AWO p l e R s m args below meth c D cs b nL H0 Qf (ob (f_X8_at z0 z1 z2 z3 M) K) M ks sl lv pc (.int z3 :: .int z2 :: .int z1 :: .ref (b + z0) :: st) := by
  subst hk2
  subst hs2
  exact aw_callV (ci := 8) X [.int z1, .int z2, .int z3] st rfl rfl wl_L_67 wi_X8_at wv_X8_at wc_X8_at wn_X8 (n := 3) hd_X8_at rfl hrm hW hroom hdg h0 (t_X8_at z0 z1 z2 z3 M h0) (fun r M2 g _ => kk r M2 g)
theorem cl_L_68 {ρ : Type} {l : Launch} {p : Program} {e : Env} {R : Room} {s : State} {m : MethodId} {args : Array Value} {below : List Frame} {meth : Method} {c : Code} {D : va_G} {cs : JC} {b nL : Nat} {H0 : Heap} {Qf : ρ × JM → State → Prop} {M : JM} {ks sl : Nat} {lv : List (Nat × Value)} {pc : Nat} {st : List Value} {cc : ByteArray} (X : jX p c cc nL s m args RL D cs b meth H0) {z0 : Nat} {z1 : Int32} {z2 : Int32} {z3 : Int32} {K : Int64 → JM → Option (ρ × JM)} (hrm : jRm rm_X7_number 8 R) (hW : (st.map fun v => v.category).sum ≤ 8) {ks2 sl2 : Nat} (hk2 : ks + rm_X7_number.cells = ks2) (hs2 : sl + rm_X7_number.slots = sl2) (hroom : ks2 ≤ R.cells ∧ sl2 ≤ R.slots) (hdg : decode cc pc = .ok (.invokevirtual 68, 3)) (h0 : oty M z0 17) (kk : ∀ (r : Int64) (M2 : JM), gn M ≤ gn M2 → AWO p l e R s m args below meth c D cs b nL H0 Qf (K r M2) M2 ks2 sl2 lv (pc + 3) (.long r :: st)) : AWO p l e R s m args below meth c D cs b nL H0 Qf (ob (f_X7_number z0 z1 z2 z3 M) K) M ks sl lv pc (.int z3 :: .int z2 :: .int z1 :: .ref (b + z0) :: st) := by
  subst hk2
  subst hs2
  exact aw_callV (ci := 7) X [.int z1, .int z2, .int z3] st rfl rfl wl_L_68 wi_X7_number wv_X7_number wc_X7_number wn_X7 (n := 3) hd_X7_number rfl hrm hW hroom hdg h0 (t_X7_number z0 z1 z2 z3 M h0) (fun r M2 g _ => kk r M2 g)
theorem cl_L_72 {ρ : Type} {l : Launch} {p : Program} {e : Env} {R : Room} {s : State} {m : MethodId} {args : Array Value} {below : List Frame} {meth : Method} {c : Code} {D : va_G} {cs : JC} {b nL : Nat} {H0 : Heap} {Qf : ρ × JM → State → Prop} {M : JM} {ks sl : Nat} {lv : List (Nat × Value)} {pc : Nat} {st : List Value} {cc : ByteArray} (X : jX p c cc nL s m args RL D cs b meth H0) {z0 : Nat} {z1 : Int32} {z2 : Int32} {z3 : Int32} {K : Int64 → JM → Option (ρ × JM)} (hrm : jRm rm_X8_number 6 R) (hW : (st.map fun v => v.category).sum ≤ 8) {ks2 sl2 : Nat} (hk2 : ks + rm_X8_number.cells = ks2) (hs2 : sl + rm_X8_number.slots = sl2) (hroom : ks2 ≤ R.cells ∧ sl2 ≤ R.slots) (hdg : decode cc pc = .ok (.invokevirtual 72, 3)) (h0 : oty M z0 18) (kk : ∀ (r : Int64) (M2 : JM), gn M ≤ gn M2 → AWO p l e R s m args below meth c D cs b nL H0 Qf (K r M2) M2 ks2 sl2 lv (pc + 3) (.long r :: st)) : AWO p l e R s m args below meth c D cs b nL H0 Qf (ob (f_X8_number z0 z1 z2 z3 M) K) M ks sl lv pc (.int z3 :: .int z2 :: .int z1 :: .ref (b + z0) :: st) := by
  subst hk2
  subst hs2
  exact aw_callV (ci := 8) X [.int z1, .int z2, .int z3] st rfl rfl wl_L_72 wi_X8_number wv_X8_number wc_X8_number wn_X8 (n := 3) hd_X8_number rfl hrm hW hroom hdg h0 (t_X8_number z0 z1 z2 z3 M h0) (fun r M2 g _ => kk r M2 g)
theorem cl_L_73 {ρ : Type} {l : Launch} {p : Program} {e : Env} {R : Room} {s : State} {m : MethodId} {args : Array Value} {below : List Frame} {meth : Method} {c : Code} {D : va_G} {cs : JC} {b nL : Nat} {H0 : Heap} {Qf : ρ × JM → State → Prop} {M : JM} {ks sl : Nat} {lv : List (Nat × Value)} {pc : Nat} {st : List Value} {cc : ByteArray} (X : jX p c cc nL s m args RL D cs b meth H0) {z0 : Nat} {z1 : Int32} {K : Int32 → JM → Option (ρ × JM)} (hrm : jRm rm_X7_begin 2 R) (hW : (st.map fun v => v.category).sum ≤ 8) {ks2 sl2 : Nat} (hk2 : ks + rm_X7_begin.cells = ks2) (hs2 : sl + rm_X7_begin.slots = sl2) (hroom : ks2 ≤ R.cells ∧ sl2 ≤ R.slots) (hdg : decode cc pc = .ok (.invokevirtual 73, 3)) (h0 : oty M z0 17) (kk : ∀ (r : Int32) (M2 : JM), gn M ≤ gn M2 → AWO p l e R s m args below meth c D cs b nL H0 Qf (K r M2) M2 ks2 sl2 lv (pc + 3) (.int r :: st)) : AWO p l e R s m args below meth c D cs b nL H0 Qf (ob (f_X7_begin z0 z1 M) K) M ks sl lv pc (.int z1 :: .ref (b + z0) :: st) := by
  subst hk2
  subst hs2
  exact aw_callV (ci := 7) X [.int z1] st rfl rfl wl_L_73 wi_X7_begin wv_X7_begin wc_X7_begin wn_X7 (n := 1) hd_X7_begin rfl hrm hW hroom hdg h0 (t_X7_begin z0 z1 M h0) (fun r M2 g _ => kk r M2 g)
theorem cl_L_76 {ρ : Type} {l : Launch} {p : Program} {e : Env} {R : Room} {s : State} {m : MethodId} {args : Array Value} {below : List Frame} {meth : Method} {c : Code} {D : va_G} {cs : JC} {b nL : Nat} {H0 : Heap} {Qf : ρ × JM → State → Prop} {M : JM} {ks sl : Nat} {lv : List (Nat × Value)} {pc : Nat} {st : List Value} {cc : ByteArray} (X : jX p c cc nL s m args RL D cs b meth H0) {z0 : Nat} {z1 : Int32} {K : Int32 → JM → Option (ρ × JM)} (hrm : jRm rm_X8_begin 3 R) (hW : (st.map fun v => v.category).sum ≤ 8) {ks2 sl2 : Nat} (hk2 : ks + rm_X8_begin.cells = ks2) (hs2 : sl + rm_X8_begin.slots = sl2) (hroom : ks2 ≤ R.cells ∧ sl2 ≤ R.slots) (hdg : decode cc pc = .ok (.invokevirtual 76, 3)) (h0 : oty M z0 18) (kk : ∀ (r : Int32) (M2 : JM), gn M ≤ gn M2 → AWO p l e R s m args below meth c D cs b nL H0 Qf (K r M2) M2 ks2 sl2 lv (pc + 3) (.int r :: st)) : AWO p l e R s m args below meth c D cs b nL H0 Qf (ob (f_X8_begin z0 z1 M) K) M ks sl lv pc (.int z1 :: .ref (b + z0) :: st) := by
  subst hk2
  subst hs2
  exact aw_callV (ci := 8) X [.int z1] st rfl rfl wl_L_76 wi_X8_begin wv_X8_begin wc_X8_begin wn_X8 (n := 1) hd_X8_begin rfl hrm hW hroom hdg h0 (t_X8_begin z0 z1 M h0) (fun r M2 g _ => kk r M2 g)
theorem cl_L_77 {ρ : Type} {l : Launch} {p : Program} {e : Env} {R : Room} {s : State} {m : MethodId} {args : Array Value} {below : List Frame} {meth : Method} {c : Code} {D : va_G} {cs : JC} {b nL : Nat} {H0 : Heap} {Qf : ρ × JM → State → Prop} {M : JM} {ks sl : Nat} {lv : List (Nat × Value)} {pc : Nat} {st : List Value} {cc : ByteArray} (X : jX p c cc nL s m args RL D cs b meth H0) {z0 : Nat} {z1 : Int32} {K : Int32 → JM → Option (ρ × JM)} (hrm : jRm rm_X7_set 4 R) (hW : (st.map fun v => v.category).sum ≤ 8) {ks2 sl2 : Nat} (hk2 : ks + rm_X7_set.cells = ks2) (hs2 : sl + rm_X7_set.slots = sl2) (hroom : ks2 ≤ R.cells ∧ sl2 ≤ R.slots) (hdg : decode cc pc = .ok (.invokevirtual 77, 3)) (h0 : oty M z0 17) (kk : ∀ (r : Int32) (M2 : JM), gn M ≤ gn M2 → AWO p l e R s m args below meth c D cs b nL H0 Qf (K r M2) M2 ks2 sl2 lv (pc + 3) (.int r :: st)) : AWO p l e R s m args below meth c D cs b nL H0 Qf (ob (f_X7_set z0 z1 M) K) M ks sl lv pc (.int z1 :: .ref (b + z0) :: st) := by
  subst hk2
  subst hs2
  exact aw_callV (ci := 7) X [.int z1] st rfl rfl wl_L_77 wi_X7_set wv_X7_set wc_X7_set wn_X7 (n := 1) hd_X7_set rfl hrm hW hroom hdg h0 (t_X7_set z0 z1 M h0) (fun r M2 g _ => kk r M2 g)
theorem cl_L_80 {ρ : Type} {l : Launch} {p : Program} {e : Env} {R : Room} {s : State} {m : MethodId} {args : Array Value} {below : List Frame} {meth : Method} {c : Code} {D : va_G} {cs : JC} {b nL : Nat} {H0 : Heap} {Qf : ρ × JM → State → Prop} {M : JM} {ks sl : Nat} {lv : List (Nat × Value)} {pc : Nat} {st : List Value} {cc : ByteArray} (X : jX p c cc nL s m args RL D cs b meth H0) {z0 : Nat} {z1 : Int32} {K : Int32 → JM → Option (ρ × JM)} (hrm : jRm rm_X8_set 5 R) (hW : (st.map fun v => v.category).sum ≤ 8) {ks2 sl2 : Nat} (hk2 : ks + rm_X8_set.cells = ks2) (hs2 : sl + rm_X8_set.slots = sl2) (hroom : ks2 ≤ R.cells ∧ sl2 ≤ R.slots) (hdg : decode cc pc = .ok (.invokevirtual 80, 3)) (h0 : oty M z0 18) (kk : ∀ (r : Int32) (M2 : JM), gn M ≤ gn M2 → AWO p l e R s m args below meth c D cs b nL H0 Qf (K r M2) M2 ks2 sl2 lv (pc + 3) (.int r :: st)) : AWO p l e R s m args below meth c D cs b nL H0 Qf (ob (f_X8_set z0 z1 M) K) M ks sl lv pc (.int z1 :: .ref (b + z0) :: st) := by
  subst hk2
  subst hs2
  exact aw_callV (ci := 8) X [.int z1] st rfl rfl wl_L_80 wi_X8_set wv_X8_set wc_X8_set wn_X8 (n := 1) hd_X8_set rfl hrm hW hroom hdg h0 (t_X8_set z0 z1 M h0) (fun r M2 g _ => kk r M2 g)
theorem cl_L_81 {ρ : Type} {l : Launch} {p : Program} {e : Env} {R : Room} {s : State} {m : MethodId} {args : Array Value} {below : List Frame} {meth : Method} {c : Code} {D : va_G} {cs : JC} {b nL : Nat} {H0 : Heap} {Qf : ρ × JM → State → Prop} {M : JM} {ks sl : Nat} {lv : List (Nat × Value)} {pc : Nat} {st : List Value} {cc : ByteArray} (X : jX p c cc nL s m args RL D cs b meth H0) {z0 : Nat} {z1 : Int32} {K : Int32 → JM → Option (ρ × JM)} (hrm : jRm rm_X7_take 3 R) (hW : (st.map fun v => v.category).sum ≤ 8) {ks2 sl2 : Nat} (hk2 : ks + rm_X7_take.cells = ks2) (hs2 : sl + rm_X7_take.slots = sl2) (hroom : ks2 ≤ R.cells ∧ sl2 ≤ R.slots) (hdg : decode cc pc = .ok (.invokevirtual 81, 3)) (h0 : oty M z0 17) (kk : ∀ (r : Int32) (M2 : JM), gn M ≤ gn M2 → AWO p l e R s m args below meth c D cs b nL H0 Qf (K r M2) M2 ks2 sl2 lv (pc + 3) (.int r :: st)) : AWO p l e R s m args below meth c D cs b nL H0 Qf (ob (f_X7_take z0 z1 M) K) M ks sl lv pc (.int z1 :: .ref (b + z0) :: st) := by
  subst hk2
  subst hs2
  exact aw_callV (ci := 7) X [.int z1] st rfl rfl wl_L_81 wi_X7_take wv_X7_take wc_X7_take wn_X7 (n := 1) hd_X7_take rfl hrm hW hroom hdg h0 (t_X7_take z0 z1 M h0) (fun r M2 g _ => kk r M2 g)
theorem cl_L_84 {ρ : Type} {l : Launch} {p : Program} {e : Env} {R : Room} {s : State} {m : MethodId} {args : Array Value} {below : List Frame} {meth : Method} {c : Code} {D : va_G} {cs : JC} {b nL : Nat} {H0 : Heap} {Qf : ρ × JM → State → Prop} {M : JM} {ks sl : Nat} {lv : List (Nat × Value)} {pc : Nat} {st : List Value} {cc : ByteArray} (X : jX p c cc nL s m args RL D cs b meth H0) {z0 : Nat} {z1 : Int32} {K : Int32 → JM → Option (ρ × JM)} (hrm : jRm rm_X8_take 3 R) (hW : (st.map fun v => v.category).sum ≤ 8) {ks2 sl2 : Nat} (hk2 : ks + rm_X8_take.cells = ks2) (hs2 : sl + rm_X8_take.slots = sl2) (hroom : ks2 ≤ R.cells ∧ sl2 ≤ R.slots) (hdg : decode cc pc = .ok (.invokevirtual 84, 3)) (h0 : oty M z0 18) (kk : ∀ (r : Int32) (M2 : JM), gn M ≤ gn M2 → AWO p l e R s m args below meth c D cs b nL H0 Qf (K r M2) M2 ks2 sl2 lv (pc + 3) (.int r :: st)) : AWO p l e R s m args below meth c D cs b nL H0 Qf (ob (f_X8_take z0 z1 M) K) M ks sl lv pc (.int z1 :: .ref (b + z0) :: st) := by
  subst hk2
  subst hs2
  exact aw_callV (ci := 8) X [.int z1] st rfl rfl wl_L_84 wi_X8_take wv_X8_take wc_X8_take wn_X8 (n := 1) hd_X8_take rfl hrm hW hroom hdg h0 (t_X8_take z0 z1 M h0) (fun r M2 g _ => kk r M2 g)
theorem cl_L_85 {ρ : Type} {l : Launch} {p : Program} {e : Env} {R : Room} {s : State} {m : MethodId} {args : Array Value} {below : List Frame} {meth : Method} {c : Code} {D : va_G} {cs : JC} {b nL : Nat} {H0 : Heap} {Qf : ρ × JM → State → Prop} {M : JM} {ks sl : Nat} {lv : List (Nat × Value)} {pc : Nat} {st : List Value} {cc : ByteArray} (X : jX p c cc nL s m args RL D cs b meth H0) {z0 : Nat} {K : Int32 → JM → Option (ρ × JM)} (hrm : jRm rm_X7_write 6 R) (hW : (st.map fun v => v.category).sum ≤ 8) {ks2 sl2 : Nat} (hk2 : ks + rm_X7_write.cells = ks2) (hs2 : sl + rm_X7_write.slots = sl2) (hroom : ks2 ≤ R.cells ∧ sl2 ≤ R.slots) (hdg : decode cc pc = .ok (.invokevirtual 85, 3)) (h0 : oty M z0 17) (kk : ∀ (r : Int32) (M2 : JM), gn M ≤ gn M2 → AWO p l e R s m args below meth c D cs b nL H0 Qf (K r M2) M2 ks2 sl2 lv (pc + 3) (.int r :: st)) : AWO p l e R s m args below meth c D cs b nL H0 Qf (ob (f_X7_write z0 M) K) M ks sl lv pc (.ref (b + z0) :: st) := by
  subst hk2
  subst hs2
  exact aw_callV (ci := 7) X [] st rfl rfl wl_L_85 wi_X7_write wv_X7_write wc_X7_write wn_X7 (n := 0) hd_X7_write rfl hrm hW hroom hdg h0 (t_X7_write z0 M h0) (fun r M2 g _ => kk r M2 g)
theorem cl_L_88 {ρ : Type} {l : Launch} {p : Program} {e : Env} {R : Room} {s : State} {m : MethodId} {args : Array Value} {below : List Frame} {meth : Method} {c : Code} {D : va_G} {cs : JC} {b nL : Nat} {H0 : Heap} {Qf : ρ × JM → State → Prop} {M : JM} {ks sl : Nat} {lv : List (Nat × Value)} {pc : Nat} {st : List Value} {cc : ByteArray} (X : jX p c cc nL s m args RL D cs b meth H0) {z0 : Nat} {K : Int32 → JM → Option (ρ × JM)} (hrm : jRm rm_X8_write 7 R) (hW : (st.map fun v => v.category).sum ≤ 8) {ks2 sl2 : Nat} (hk2 : ks + rm_X8_write.cells = ks2) (hs2 : sl + rm_X8_write.slots = sl2) (hroom : ks2 ≤ R.cells ∧ sl2 ≤ R.slots) (hdg : decode cc pc = .ok (.invokevirtual 88, 3)) (h0 : oty M z0 18) (kk : ∀ (r : Int32) (M2 : JM), gn M ≤ gn M2 → AWO p l e R s m args below meth c D cs b nL H0 Qf (K r M2) M2 ks2 sl2 lv (pc + 3) (.int r :: st)) : AWO p l e R s m args below meth c D cs b nL H0 Qf (ob (f_X8_write z0 M) K) M ks sl lv pc (.ref (b + z0) :: st) := by
  subst hk2
  subst hs2
  exact aw_callV (ci := 8) X [] st rfl rfl wl_L_88 wi_X8_write wv_X8_write wc_X8_write wn_X8 (n := 0) hd_X8_write rfl hrm hW hroom hdg h0 (t_X8_write z0 M h0) (fun r M2 g _ => kk r M2 g)
theorem cl_L_89 {ρ : Type} {l : Launch} {p : Program} {e : Env} {R : Room} {s : State} {m : MethodId} {args : Array Value} {below : List Frame} {meth : Method} {c : Code} {D : va_G} {cs : JC} {b nL : Nat} {H0 : Heap} {Qf : ρ × JM → State → Prop} {M : JM} {ks sl : Nat} {lv : List (Nat × Value)} {pc : Nat} {st : List Value} {cc : ByteArray} (X : jX p c cc nL s m args RL D cs b meth H0) {z0 : Nat} {z1 : Int32} {K : Int32 → JM → Option (ρ × JM)} (hrm : jRm rm_X7_copy 6 R) (hW : (st.map fun v => v.category).sum ≤ 8) {ks2 sl2 : Nat} (hk2 : ks + rm_X7_copy.cells = ks2) (hs2 : sl + rm_X7_copy.slots = sl2) (hroom : ks2 ≤ R.cells ∧ sl2 ≤ R.slots) (hdg : decode cc pc = .ok (.invokevirtual 89, 3)) (h0 : oty M z0 17) (kk : ∀ (r : Int32) (M2 : JM), gn M ≤ gn M2 → AWO p l e R s m args below meth c D cs b nL H0 Qf (K r M2) M2 ks2 sl2 lv (pc + 3) (.int r :: st)) : AWO p l e R s m args below meth c D cs b nL H0 Qf (ob (f_X7_copy z0 z1 M) K) M ks sl lv pc (.int z1 :: .ref (b + z0) :: st) := by
  subst hk2
  subst hs2
  exact aw_callV (ci := 7) X [.int z1] st rfl rfl wl_L_89 wi_X7_copy wv_X7_copy wc_X7_copy wn_X7 (n := 1) hd_X7_copy rfl hrm hW hroom hdg h0 (t_X7_copy z0 z1 M h0) (fun r M2 g _ => kk r M2 g)
theorem cl_L_92 {ρ : Type} {l : Launch} {p : Program} {e : Env} {R : Room} {s : State} {m : MethodId} {args : Array Value} {below : List Frame} {meth : Method} {c : Code} {D : va_G} {cs : JC} {b nL : Nat} {H0 : Heap} {Qf : ρ × JM → State → Prop} {M : JM} {ks sl : Nat} {lv : List (Nat × Value)} {pc : Nat} {st : List Value} {cc : ByteArray} (X : jX p c cc nL s m args RL D cs b meth H0) {z0 : Nat} {z1 : Int32} {K : Int32 → JM → Option (ρ × JM)} (hrm : jRm rm_X8_copy 5 R) (hW : (st.map fun v => v.category).sum ≤ 8) {ks2 sl2 : Nat} (hk2 : ks + rm_X8_copy.cells = ks2) (hs2 : sl + rm_X8_copy.slots = sl2) (hroom : ks2 ≤ R.cells ∧ sl2 ≤ R.slots) (hdg : decode cc pc = .ok (.invokevirtual 92, 3)) (h0 : oty M z0 18) (kk : ∀ (r : Int32) (M2 : JM), gn M ≤ gn M2 → AWO p l e R s m args below meth c D cs b nL H0 Qf (K r M2) M2 ks2 sl2 lv (pc + 3) (.int r :: st)) : AWO p l e R s m args below meth c D cs b nL H0 Qf (ob (f_X8_copy z0 z1 M) K) M ks sl lv pc (.int z1 :: .ref (b + z0) :: st) := by
  subst hk2
  subst hs2
  exact aw_callV (ci := 8) X [.int z1] st rfl rfl wl_L_92 wi_X8_copy wv_X8_copy wc_X8_copy wn_X8 (n := 1) hd_X8_copy rfl hrm hW hroom hdg h0 (t_X8_copy z0 z1 M h0) (fun r M2 g _ => kk r M2 g)
theorem cl_L_93 {ρ : Type} {l : Launch} {p : Program} {e : Env} {R : Room} {s : State} {m : MethodId} {args : Array Value} {below : List Frame} {meth : Method} {c : Code} {D : va_G} {cs : JC} {b nL : Nat} {H0 : Heap} {Qf : ρ × JM → State → Prop} {M : JM} {ks sl : Nat} {lv : List (Nat × Value)} {pc : Nat} {st : List Value} {cc : ByteArray} (X : jX p c cc nL s m args RL D cs b meth H0) {z0 : Nat} {z1 : Int32} {K : Int32 → JM → Option (ρ × JM)} (hrm : jRm rm_X7_tape 2 R) (hW : (st.map fun v => v.category).sum ≤ 8) {ks2 sl2 : Nat} (hk2 : ks + rm_X7_tape.cells = ks2) (hs2 : sl + rm_X7_tape.slots = sl2) (hroom : ks2 ≤ R.cells ∧ sl2 ≤ R.slots) (hdg : decode cc pc = .ok (.invokevirtual 93, 3)) (h0 : oty M z0 17) (kk : ∀ (r : Int32) (M2 : JM), gn M ≤ gn M2 → AWO p l e R s m args below meth c D cs b nL H0 Qf (K r M2) M2 ks2 sl2 lv (pc + 3) (.int r :: st)) : AWO p l e R s m args below meth c D cs b nL H0 Qf (ob (f_X7_tape z0 z1 M) K) M ks sl lv pc (.int z1 :: .ref (b + z0) :: st) := by
  subst hk2
  subst hs2
  exact aw_callV (ci := 7) X [.int z1] st rfl rfl wl_L_93 wi_X7_tape wv_X7_tape wc_X7_tape wn_X7 (n := 1) hd_X7_tape rfl hrm hW hroom hdg h0 (t_X7_tape z0 z1 M h0) (fun r M2 g _ => kk r M2 g)
theorem cl_L_96 {ρ : Type} {l : Launch} {p : Program} {e : Env} {R : Room} {s : State} {m : MethodId} {args : Array Value} {below : List Frame} {meth : Method} {c : Code} {D : va_G} {cs : JC} {b nL : Nat} {H0 : Heap} {Qf : ρ × JM → State → Prop} {M : JM} {ks sl : Nat} {lv : List (Nat × Value)} {pc : Nat} {st : List Value} {cc : ByteArray} (X : jX p c cc nL s m args RL D cs b meth H0) {z0 : Nat} {z1 : Int32} {K : Int32 → JM → Option (ρ × JM)} (hrm : jRm rm_X8_tape 2 R) (hW : (st.map fun v => v.category).sum ≤ 8) {ks2 sl2 : Nat} (hk2 : ks + rm_X8_tape.cells = ks2) (hs2 : sl + rm_X8_tape.slots = sl2) (hroom : ks2 ≤ R.cells ∧ sl2 ≤ R.slots) (hdg : decode cc pc = .ok (.invokevirtual 96, 3)) (h0 : oty M z0 18) (kk : ∀ (r : Int32) (M2 : JM), gn M ≤ gn M2 → AWO p l e R s m args below meth c D cs b nL H0 Qf (K r M2) M2 ks2 sl2 lv (pc + 3) (.int r :: st)) : AWO p l e R s m args below meth c D cs b nL H0 Qf (ob (f_X8_tape z0 z1 M) K) M ks sl lv pc (.int z1 :: .ref (b + z0) :: st) := by
  subst hk2
  subst hs2
  exact aw_callV (ci := 8) X [.int z1] st rfl rfl wl_L_96 wi_X8_tape wv_X8_tape wc_X8_tape wn_X8 (n := 1) hd_X8_tape rfl hrm hW hroom hdg h0 (t_X8_tape z0 z1 M h0) (fun r M2 g _ => kk r M2 g)
theorem cl_L_97 {ρ : Type} {l : Launch} {p : Program} {e : Env} {R : Room} {s : State} {m : MethodId} {args : Array Value} {below : List Frame} {meth : Method} {c : Code} {D : va_G} {cs : JC} {b nL : Nat} {H0 : Heap} {Qf : ρ × JM → State → Prop} {M : JM} {ks sl : Nat} {lv : List (Nat × Value)} {pc : Nat} {st : List Value} {cc : ByteArray} (X : jX p c cc nL s m args RL D cs b meth H0) {z0 : Nat} {z1 : Int32} {K : Int32 → JM → Option (ρ × JM)} (hrm : jRm rm_X7_report 9 R) (hW : (st.map fun v => v.category).sum ≤ 8) {ks2 sl2 : Nat} (hk2 : ks + rm_X7_report.cells = ks2) (hs2 : sl + rm_X7_report.slots = sl2) (hroom : ks2 ≤ R.cells ∧ sl2 ≤ R.slots) (hdg : decode cc pc = .ok (.invokevirtual 97, 3)) (h0 : oty M z0 17) (kk : ∀ (r : Int32) (M2 : JM), gn M ≤ gn M2 → AWO p l e R s m args below meth c D cs b nL H0 Qf (K r M2) M2 ks2 sl2 lv (pc + 3) (.int r :: st)) : AWO p l e R s m args below meth c D cs b nL H0 Qf (ob (f_X7_report z0 z1 M) K) M ks sl lv pc (.int z1 :: .ref (b + z0) :: st) := by
  subst hk2
  subst hs2
  exact aw_callV (ci := 7) X [.int z1] st rfl rfl wl_L_97 wi_X7_report wv_X7_report wc_X7_report wn_X7 (n := 1) hd_X7_report rfl hrm hW hroom hdg h0 (t_X7_report z0 z1 M h0) (fun r M2 g _ => kk r M2 g)
theorem cl_L_100 {ρ : Type} {l : Launch} {p : Program} {e : Env} {R : Room} {s : State} {m : MethodId} {args : Array Value} {below : List Frame} {meth : Method} {c : Code} {D : va_G} {cs : JC} {b nL : Nat} {H0 : Heap} {Qf : ρ × JM → State → Prop} {M : JM} {ks sl : Nat} {lv : List (Nat × Value)} {pc : Nat} {st : List Value} {cc : ByteArray} (X : jX p c cc nL s m args RL D cs b meth H0) {z0 : Nat} {z1 : Int32} {K : Int32 → JM → Option (ρ × JM)} (hrm : jRm rm_X8_report 9 R) (hW : (st.map fun v => v.category).sum ≤ 8) {ks2 sl2 : Nat} (hk2 : ks + rm_X8_report.cells = ks2) (hs2 : sl + rm_X8_report.slots = sl2) (hroom : ks2 ≤ R.cells ∧ sl2 ≤ R.slots) (hdg : decode cc pc = .ok (.invokevirtual 100, 3)) (h0 : oty M z0 18) (kk : ∀ (r : Int32) (M2 : JM), gn M ≤ gn M2 → AWO p l e R s m args below meth c D cs b nL H0 Qf (K r M2) M2 ks2 sl2 lv (pc + 3) (.int r :: st)) : AWO p l e R s m args below meth c D cs b nL H0 Qf (ob (f_X8_report z0 z1 M) K) M ks sl lv pc (.int z1 :: .ref (b + z0) :: st) := by
  subst hk2
  subst hs2
  exact aw_callV (ci := 8) X [.int z1] st rfl rfl wl_L_100 wi_X8_report wv_X8_report wc_X8_report wn_X8 (n := 1) hd_X8_report rfl hrm hW hroom hdg h0 (t_X8_report z0 z1 M h0) (fun r M2 g _ => kk r M2 g)
theorem cl_L_101 {ρ : Type} {l : Launch} {p : Program} {e : Env} {R : Room} {s : State} {m : MethodId} {args : Array Value} {below : List Frame} {meth : Method} {c : Code} {D : va_G} {cs : JC} {b nL : Nat} {H0 : Heap} {Qf : ρ × JM → State → Prop} {M : JM} {ks sl : Nat} {lv : List (Nat × Value)} {pc : Nat} {st : List Value} {cc : ByteArray} (X : jX p c cc nL s m args RL D cs b meth H0) {z0 : Nat} {z1 : Int32} {K : Int32 → JM → Option (ρ × JM)} (hrm : jRm rm_X7_tick 4 R) (hW : (st.map fun v => v.category).sum ≤ 8) {ks2 sl2 : Nat} (hk2 : ks + rm_X7_tick.cells = ks2) (hs2 : sl + rm_X7_tick.slots = sl2) (hroom : ks2 ≤ R.cells ∧ sl2 ≤ R.slots) (hdg : decode cc pc = .ok (.invokevirtual 101, 3)) (h0 : oty M z0 17) (kk : ∀ (r : Int32) (M2 : JM), gn M ≤ gn M2 → AWO p l e R s m args below meth c D cs b nL H0 Qf (K r M2) M2 ks2 sl2 lv (pc + 3) (.int r :: st)) : AWO p l e R s m args below meth c D cs b nL H0 Qf (ob (f_X7_tick z0 z1 M) K) M ks sl lv pc (.int z1 :: .ref (b + z0) :: st) := by
  subst hk2
  subst hs2
  exact aw_callV (ci := 7) X [.int z1] st rfl rfl wl_L_101 wi_X7_tick wv_X7_tick wc_X7_tick wn_X7 (n := 1) hd_X7_tick rfl hrm hW hroom hdg h0 (t_X7_tick z0 z1 M h0) (fun r M2 g _ => kk r M2 g)
theorem cl_L_104 {ρ : Type} {l : Launch} {p : Program} {e : Env} {R : Room} {s : State} {m : MethodId} {args : Array Value} {below : List Frame} {meth : Method} {c : Code} {D : va_G} {cs : JC} {b nL : Nat} {H0 : Heap} {Qf : ρ × JM → State → Prop} {M : JM} {ks sl : Nat} {lv : List (Nat × Value)} {pc : Nat} {st : List Value} {cc : ByteArray} (X : jX p c cc nL s m args RL D cs b meth H0) {z0 : Nat} {z1 : Int32} {K : Int32 → JM → Option (ρ × JM)} (hrm : jRm rm_X8_tick 6 R) (hW : (st.map fun v => v.category).sum ≤ 8) {ks2 sl2 : Nat} (hk2 : ks + rm_X8_tick.cells = ks2) (hs2 : sl + rm_X8_tick.slots = sl2) (hroom : ks2 ≤ R.cells ∧ sl2 ≤ R.slots) (hdg : decode cc pc = .ok (.invokevirtual 104, 3)) (h0 : oty M z0 18) (kk : ∀ (r : Int32) (M2 : JM), gn M ≤ gn M2 → AWO p l e R s m args below meth c D cs b nL H0 Qf (K r M2) M2 ks2 sl2 lv (pc + 3) (.int r :: st)) : AWO p l e R s m args below meth c D cs b nL H0 Qf (ob (f_X8_tick z0 z1 M) K) M ks sl lv pc (.int z1 :: .ref (b + z0) :: st) := by
  subst hk2
  subst hs2
  exact aw_callV (ci := 8) X [.int z1] st rfl rfl wl_L_104 wi_X8_tick wv_X8_tick wc_X8_tick wn_X8 (n := 1) hd_X8_tick rfl hrm hW hroom hdg h0 (t_X8_tick z0 z1 M h0) (fun r M2 g _ => kk r M2 g)
theorem cl_L_105 {ρ : Type} {l : Launch} {p : Program} {e : Env} {R : Room} {s : State} {m : MethodId} {args : Array Value} {below : List Frame} {meth : Method} {c : Code} {D : va_G} {cs : JC} {b nL : Nat} {H0 : Heap} {Qf : ρ × JM → State → Prop} {M : JM} {ks sl : Nat} {lv : List (Nat × Value)} {pc : Nat} {st : List Value} {cc : ByteArray} (X : jX p c cc nL s m args RL D cs b meth H0) {z0 : Nat} {z1 : Int32} {z2 : Int32} {K : Int32 → JM → Option (ρ × JM)} (hrm : jRm rm_X7_track 4 R) (hW : (st.map fun v => v.category).sum ≤ 8) {ks2 sl2 : Nat} (hk2 : ks + rm_X7_track.cells = ks2) (hs2 : sl + rm_X7_track.slots = sl2) (hroom : ks2 ≤ R.cells ∧ sl2 ≤ R.slots) (hdg : decode cc pc = .ok (.invokevirtual 105, 3)) (h0 : oty M z0 17) (kk : ∀ (r : Int32) (M2 : JM), gn M ≤ gn M2 → AWO p l e R s m args below meth c D cs b nL H0 Qf (K r M2) M2 ks2 sl2 lv (pc + 3) (.int r :: st)) : AWO p l e R s m args below meth c D cs b nL H0 Qf (ob (f_X7_track z0 z1 z2 M) K) M ks sl lv pc (.int z2 :: .int z1 :: .ref (b + z0) :: st) := by
  subst hk2
  subst hs2
  exact aw_callV (ci := 7) X [.int z1, .int z2] st rfl rfl wl_L_105 wi_X7_track wv_X7_track wc_X7_track wn_X7 (n := 2) hd_X7_track rfl hrm hW hroom hdg h0 (t_X7_track z0 z1 z2 M h0) (fun r M2 g _ => kk r M2 g)
theorem cl_L_109 {ρ : Type} {l : Launch} {p : Program} {e : Env} {R : Room} {s : State} {m : MethodId} {args : Array Value} {below : List Frame} {meth : Method} {c : Code} {D : va_G} {cs : JC} {b nL : Nat} {H0 : Heap} {Qf : ρ × JM → State → Prop} {M : JM} {ks sl : Nat} {lv : List (Nat × Value)} {pc : Nat} {st : List Value} {cc : ByteArray} (X : jX p c cc nL s m args RL D cs b meth H0) {z0 : Nat} {z1 : Int32} {z2 : Int32} {K : Int32 → JM → Option (ρ × JM)} (hrm : jRm rm_X8_track 3 R) (hW : (st.map fun v => v.category).sum ≤ 8) {ks2 sl2 : Nat} (hk2 : ks + rm_X8_track.cells = ks2) (hs2 : sl + rm_X8_track.slots = sl2) (hroom : ks2 ≤ R.cells ∧ sl2 ≤ R.slots) (hdg : decode cc pc = .ok (.invokevirtual 109, 3)) (h0 : oty M z0 18) (kk : ∀ (r : Int32) (M2 : JM), gn M ≤ gn M2 → AWO p l e R s m args below meth c D cs b nL H0 Qf (K r M2) M2 ks2 sl2 lv (pc + 3) (.int r :: st)) : AWO p l e R s m args below meth c D cs b nL H0 Qf (ob (f_X8_track z0 z1 z2 M) K) M ks sl lv pc (.int z2 :: .int z1 :: .ref (b + z0) :: st) := by
  subst hk2
  subst hs2
  exact aw_callV (ci := 8) X [.int z1, .int z2] st rfl rfl wl_L_109 wi_X8_track wv_X8_track wc_X8_track wn_X8 (n := 2) hd_X8_track rfl hrm hW hroom hdg h0 (t_X8_track z0 z1 z2 M h0) (fun r M2 g _ => kk r M2 g)
theorem cl_L_110 {ρ : Type} {l : Launch} {p : Program} {e : Env} {R : Room} {s : State} {m : MethodId} {args : Array Value} {below : List Frame} {meth : Method} {c : Code} {D : va_G} {cs : JC} {b nL : Nat} {H0 : Heap} {Qf : ρ × JM → State → Prop} {M : JM} {ks sl : Nat} {lv : List (Nat × Value)} {pc : Nat} {st : List Value} {cc : ByteArray} (X : jX p c cc nL s m args RL D cs b meth H0) {z0 : Nat} {z1 : Int32} {K : Int32 → JM → Option (ρ × JM)} (hrm : jRm rm_X7_count 2 R) (hW : (st.map fun v => v.category).sum ≤ 8) {ks2 sl2 : Nat} (hk2 : ks + rm_X7_count.cells = ks2) (hs2 : sl + rm_X7_count.slots = sl2) (hroom : ks2 ≤ R.cells ∧ sl2 ≤ R.slots) (hdg : decode cc pc = .ok (.invokevirtual 110, 3)) (h0 : oty M z0 17) (kk : ∀ (r : Int32) (M2 : JM), gn M ≤ gn M2 → AWO p l e R s m args below meth c D cs b nL H0 Qf (K r M2) M2 ks2 sl2 lv (pc + 3) (.int r :: st)) : AWO p l e R s m args below meth c D cs b nL H0 Qf (ob (f_X7_count z0 z1 M) K) M ks sl lv pc (.int z1 :: .ref (b + z0) :: st) := by
  subst hk2
  subst hs2
  exact aw_callV (ci := 7) X [.int z1] st rfl rfl wl_L_110 wi_X7_count wv_X7_count wc_X7_count wn_X7 (n := 1) hd_X7_count rfl hrm hW hroom hdg h0 (t_X7_count z0 z1 M h0) (fun r M2 g _ => kk r M2 g)
theorem cl_L_113 {ρ : Type} {l : Launch} {p : Program} {e : Env} {R : Room} {s : State} {m : MethodId} {args : Array Value} {below : List Frame} {meth : Method} {c : Code} {D : va_G} {cs : JC} {b nL : Nat} {H0 : Heap} {Qf : ρ × JM → State → Prop} {M : JM} {ks sl : Nat} {lv : List (Nat × Value)} {pc : Nat} {st : List Value} {cc : ByteArray} (X : jX p c cc nL s m args RL D cs b meth H0) {z0 : Nat} {z1 : Int32} {K : Int32 → JM → Option (ρ × JM)} (hrm : jRm rm_X8_count 2 R) (hW : (st.map fun v => v.category).sum ≤ 8) {ks2 sl2 : Nat} (hk2 : ks + rm_X8_count.cells = ks2) (hs2 : sl + rm_X8_count.slots = sl2) (hroom : ks2 ≤ R.cells ∧ sl2 ≤ R.slots) (hdg : decode cc pc = .ok (.invokevirtual 113, 3)) (h0 : oty M z0 18) (kk : ∀ (r : Int32) (M2 : JM), gn M ≤ gn M2 → AWO p l e R s m args below meth c D cs b nL H0 Qf (K r M2) M2 ks2 sl2 lv (pc + 3) (.int r :: st)) : AWO p l e R s m args below meth c D cs b nL H0 Qf (ob (f_X8_count z0 z1 M) K) M ks sl lv pc (.int z1 :: .ref (b + z0) :: st) := by
  subst hk2
  subst hs2
  exact aw_callV (ci := 8) X [.int z1] st rfl rfl wl_L_113 wi_X8_count wv_X8_count wc_X8_count wn_X8 (n := 1) hd_X8_count rfl hrm hW hroom hdg h0 (t_X8_count z0 z1 M h0) (fun r M2 g _ => kk r M2 g)
def f_L_law_L18 (sx : Int32 → Int32) (sN : Int32) : Nat → Nat → Nat → Int32 → JM → Option (Int32 × JM)
  | 0, _, _, _, _ => none
  | n + 1, a1, a2, v3, M => if (sN - (5 : Int32)) < v3 then (some ((1 : Int32), M)) else (if 0 ≤ v3 ∧ v3 < sN then (if ((sx v3) &&& (31 : Int32)) = (0 : Int32) then (if 0 ≤ (v3 + (1 : Int32)) ∧ (v3 + (1 : Int32)) < sN then (ob (f_X7_category a1 (sx (v3 + (1 : Int32))) M) fun r14 M12 => if 0 ≤ (v3 + (1 : Int32)) ∧ (v3 + (1 : Int32)) < sN then (ob (f_X8_category a2 (sx (v3 + (1 : Int32))) M12) fun r17 M15 => if r14 = r17 then (f_L_law_L840 sx sN (f_L_law_L18 sx sN n) a1 a2 v3 M15) else (some ((0 : Int32), M15))) else none) else none) else (if ((sx v3) &&& (31 : Int32)) = (1 : Int32) then (if 0 ≤ (v3 + (1 : Int32)) ∧ (v3 + (1 : Int32)) < sN then (if 0 ≤ (v3 + (2 : Int32)) ∧ (v3 + (2 : Int32)) < sN then (if 0 ≤ (v3 + (3 : Int32)) ∧ (v3 + (3 : Int32)) < sN then (if 0 ≤ (v3 + (4 : Int32)) ∧ (v3 + (4 : Int32)) < sN then (ob (f_X7_item a1 (sx (v3 + (1 : Int32))) (sx (v3 + (2 : Int32))) (sx (v3 + (3 : Int32))) (sx (v3 + (4 : Int32))) M) fun r21 M19 => if 0 ≤ (v3 + (1 : Int32)) ∧ (v3 + (1 : Int32)) < sN then (if 0 ≤ (v3 + (2 : Int32)) ∧ (v3 + (2 : Int32)) < sN then (if 0 ≤ (v3 + (3 : Int32)) ∧ (v3 + (3 : Int32)) < sN then (if 0 ≤ (v3 + (4 : Int32)) ∧ (v3 + (4 : Int32)) < sN then (ob (f_X8_item a2 (sx (v3 + (1 : Int32))) (sx (v3 + (2 : Int32))) (sx (v3 + (3 : Int32))) (sx (v3 + (4 : Int32))) M19) fun r24 M22 => if r21 = r24 then (f_L_law_L840 sx sN (f_L_law_L18 sx sN n) a1 a2 v3 M22) else (some ((0 : Int32), M22))) else none) else none) else none) else none) else none) else none) else none) else none) else (if ((sx v3) &&& (31 : Int32)) = (2 : Int32) then (if 0 ≤ (v3 + (1 : Int32)) ∧ (v3 + (1 : Int32)) < sN then (if 0 ≤ (v3 + (2 : Int32)) ∧ (v3 + (2 : Int32)) < sN then (if 0 ≤ (v3 + (3 : Int32)) ∧ (v3 + (3 : Int32)) < sN then (if 0 ≤ (v3 + (4 : Int32)) ∧ (v3 + (4 : Int32)) < sN then (ob (f_X7_part a1 (sx (v3 + (1 : Int32))) (sx (v3 + (2 : Int32))) (sx (v3 + (3 : Int32))) (sx (v3 + (4 : Int32))) M) fun r27 M25 => if 0 ≤ (v3 + (1 : Int32)) ∧ (v3 + (1 : Int32)) < sN then (if 0 ≤ (v3 + (2 : Int32)) ∧ (v3 + (2 : Int32)) < sN then (if 0 ≤ (v3 + (3 : Int32)) ∧ (v3 + (3 : Int32)) < sN then (if 0 ≤ (v3 + (4 : Int32)) ∧ (v3 + (4 : Int32)) < sN then (ob (f_X8_part a2 (sx (v3 + (1 : Int32))) (sx (v3 + (2 : Int32))) (sx (v3 + (3 : Int32))) (sx (v3 + (4 : Int32))) M25) fun r30 M28 => if r27 = r30 then (f_L_law_L840 sx sN (f_L_law_L18 sx sN n) a1 a2 v3 M28) else (some ((0 : Int32), M28))) else none) else none) else none) else none) else none) else none) else none) else none) else (if ((sx v3) &&& (31 : Int32)) = (3 : Int32) then (if 0 ≤ (v3 + (1 : Int32)) ∧ (v3 + (1 : Int32)) < sN then (if 0 ≤ (v3 + (2 : Int32)) ∧ (v3 + (2 : Int32)) < sN then (if 0 ≤ (v3 + (3 : Int32)) ∧ (v3 + (3 : Int32)) < sN then (ob (f_X7_tells a1 (sx (v3 + (1 : Int32))) (sx (v3 + (2 : Int32))) (sx (v3 + (3 : Int32))) M) fun r33 M31 => if 0 ≤ (v3 + (1 : Int32)) ∧ (v3 + (1 : Int32)) < sN then (if 0 ≤ (v3 + (2 : Int32)) ∧ (v3 + (2 : Int32)) < sN then (if 0 ≤ (v3 + (3 : Int32)) ∧ (v3 + (3 : Int32)) < sN then (ob (f_X8_tells a2 (sx (v3 + (1 : Int32))) (sx (v3 + (2 : Int32))) (sx (v3 + (3 : Int32))) M31) fun r36 M34 => if r33 = r36 then (f_L_law_L840 sx sN (f_L_law_L18 sx sN n) a1 a2 v3 M34) else (some ((0 : Int32), M34))) else none) else none) else none) else none) else none) else none) else (if ((sx v3) &&& (31 : Int32)) = (4 : Int32) then (if 0 ≤ (v3 + (1 : Int32)) ∧ (v3 + (1 : Int32)) < sN then (if 0 ≤ (v3 + (2 : Int32)) ∧ (v3 + (2 : Int32)) < sN then (if 0 ≤ (v3 + (3 : Int32)) ∧ (v3 + (3 : Int32)) < sN then (ob (f_X7_table a1 (sx (v3 + (1 : Int32))) (sx (v3 + (2 : Int32))) (sx (v3 + (3 : Int32))) M) fun r39 M37 => if 0 ≤ (v3 + (1 : Int32)) ∧ (v3 + (1 : Int32)) < sN then (if 0 ≤ (v3 + (2 : Int32)) ∧ (v3 + (2 : Int32)) < sN then (if 0 ≤ (v3 + (3 : Int32)) ∧ (v3 + (3 : Int32)) < sN then (ob (f_X8_table a2 (sx (v3 + (1 : Int32))) (sx (v3 + (2 : Int32))) (sx (v3 + (3 : Int32))) M37) fun r42 M40 => if r39 = r42 then (f_L_law_L840 sx sN (f_L_law_L18 sx sN n) a1 a2 v3 M40) else (some ((0 : Int32), M40))) else none) else none) else none) else none) else none) else none) else (if ((sx v3) &&& (31 : Int32)) = (5 : Int32) then (if 0 ≤ (v3 + (1 : Int32)) ∧ (v3 + (1 : Int32)) < sN then (if 0 ≤ (v3 + (2 : Int32)) ∧ (v3 + (2 : Int32)) < sN then (if 0 ≤ (v3 + (3 : Int32)) ∧ (v3 + (3 : Int32)) < sN then (ob (f_X7_feed a1 (((sx (v3 + (1 : Int32))).toInt64 <<< ((32 : Int32).toInt64 &&& 63)) ||| ((sx (v3 + (2 : Int32))).toInt64 &&& (4294967295 : Int64))) (sx (v3 + (3 : Int32))) M) fun r45 M43 => if 0 ≤ (v3 + (1 : Int32)) ∧ (v3 + (1 : Int32)) < sN then (if 0 ≤ (v3 + (2 : Int32)) ∧ (v3 + (2 : Int32)) < sN then (if 0 ≤ (v3 + (3 : Int32)) ∧ (v3 + (3 : Int32)) < sN then (ob (f_X8_feed a2 (((sx (v3 + (1 : Int32))).toInt64 <<< ((32 : Int32).toInt64 &&& 63)) ||| ((sx (v3 + (2 : Int32))).toInt64 &&& (4294967295 : Int64))) (sx (v3 + (3 : Int32))) M43) fun r48 M46 => if r45 = r48 then (f_L_law_L840 sx sN (f_L_law_L18 sx sN n) a1 a2 v3 M46) else (some ((0 : Int32), M46))) else none) else none) else none) else none) else none) else none) else (if ((sx v3) &&& (31 : Int32)) = (6 : Int32) then (ob (f_X7_tear a1 M) fun r51 M49 => ob (f_X8_tear a2 M49) fun r54 M52 => if r51 = r54 then (f_L_law_L840 sx sN (f_L_law_L18 sx sN n) a1 a2 v3 M52) else (some ((0 : Int32), M52))) else (if ((sx v3) &&& (31 : Int32)) = (7 : Int32) then (ob (f_X7_read a1 M) fun r57 M55 => ob (f_X8_read a2 M55) fun r60 M58 => if r57 = r60 then (f_L_law_L840 sx sN (f_L_law_L18 sx sN n) a1 a2 v3 M58) else (some ((0 : Int32), M58))) else (if ((sx v3) &&& (31 : Int32)) = (8 : Int32) then (ob (f_X7_fault a1 M) fun r63 M61 => ob (f_X8_fault a2 M61) fun r66 M64 => if r63 = r66 then (f_L_law_L840 sx sN (f_L_law_L18 sx sN n) a1 a2 v3 M64) else (some ((0 : Int32), M64))) else (if ((sx v3) &&& (31 : Int32)) = (9 : Int32) then (if 0 ≤ (v3 + (1 : Int32)) ∧ (v3 + (1 : Int32)) < sN then (ob (f_X7_records a1 (sx (v3 + (1 : Int32))) M) fun r69 M67 => if 0 ≤ (v3 + (1 : Int32)) ∧ (v3 + (1 : Int32)) < sN then (ob (f_X8_records a2 (sx (v3 + (1 : Int32))) M67) fun r72 M70 => if r69 = r72 then (f_L_law_L840 sx sN (f_L_law_L18 sx sN n) a1 a2 v3 M70) else (some ((0 : Int32), M70))) else none) else none) else (if ((sx v3) &&& (31 : Int32)) = (10 : Int32) then (if 0 ≤ (v3 + (1 : Int32)) ∧ (v3 + (1 : Int32)) < sN then (if 0 ≤ (v3 + (2 : Int32)) ∧ (v3 + (2 : Int32)) < sN then (if 0 ≤ (v3 + (3 : Int32)) ∧ (v3 + (3 : Int32)) < sN then (ob (f_X7_has a1 (sx (v3 + (1 : Int32))) (sx (v3 + (2 : Int32))) (sx (v3 + (3 : Int32))) M) fun r75 M73 => if 0 ≤ (v3 + (1 : Int32)) ∧ (v3 + (1 : Int32)) < sN then (if 0 ≤ (v3 + (2 : Int32)) ∧ (v3 + (2 : Int32)) < sN then (if 0 ≤ (v3 + (3 : Int32)) ∧ (v3 + (3 : Int32)) < sN then (ob (f_X8_has a2 (sx (v3 + (1 : Int32))) (sx (v3 + (2 : Int32))) (sx (v3 + (3 : Int32))) M73) fun r78 M76 => if r75 = r78 then (f_L_law_L840 sx sN (f_L_law_L18 sx sN n) a1 a2 v3 M76) else (some ((0 : Int32), M76))) else none) else none) else none) else none) else none) else none) else (if ((sx v3) &&& (31 : Int32)) = (11 : Int32) then (if 0 ≤ (v3 + (1 : Int32)) ∧ (v3 + (1 : Int32)) < sN then (if 0 ≤ (v3 + (2 : Int32)) ∧ (v3 + (2 : Int32)) < sN then (if 0 ≤ (v3 + (3 : Int32)) ∧ (v3 + (3 : Int32)) < sN then (ob (f_X7_at a1 (sx (v3 + (1 : Int32))) (sx (v3 + (2 : Int32))) (sx (v3 + (3 : Int32))) M) fun r81 M79 => if 0 ≤ (v3 + (1 : Int32)) ∧ (v3 + (1 : Int32)) < sN then (if 0 ≤ (v3 + (2 : Int32)) ∧ (v3 + (2 : Int32)) < sN then (if 0 ≤ (v3 + (3 : Int32)) ∧ (v3 + (3 : Int32)) < sN then (ob (f_X8_at a2 (sx (v3 + (1 : Int32))) (sx (v3 + (2 : Int32))) (sx (v3 + (3 : Int32))) M79) fun r84 M82 => if r81 = r84 then (f_L_law_L840 sx sN (f_L_law_L18 sx sN n) a1 a2 v3 M82) else (some ((0 : Int32), M82))) else none) else none) else none) else none) else none) else none) else (if ((sx v3) &&& (31 : Int32)) = (12 : Int32) then (if 0 ≤ (v3 + (1 : Int32)) ∧ (v3 + (1 : Int32)) < sN then (if 0 ≤ (v3 + (2 : Int32)) ∧ (v3 + (2 : Int32)) < sN then (if 0 ≤ (v3 + (3 : Int32)) ∧ (v3 + (3 : Int32)) < sN then (ob (f_X7_number a1 (sx (v3 + (1 : Int32))) (sx (v3 + (2 : Int32))) (sx (v3 + (3 : Int32))) M) fun r87 M85 => if 0 ≤ (v3 + (1 : Int32)) ∧ (v3 + (1 : Int32)) < sN then (if 0 ≤ (v3 + (2 : Int32)) ∧ (v3 + (2 : Int32)) < sN then (if 0 ≤ (v3 + (3 : Int32)) ∧ (v3 + (3 : Int32)) < sN then (ob (f_X8_number a2 (sx (v3 + (1 : Int32))) (sx (v3 + (2 : Int32))) (sx (v3 + (3 : Int32))) M85) fun r90 M88 => if (lg_cmp r87 r90) = 0 then (f_L_law_L840 sx sN (f_L_law_L18 sx sN n) a1 a2 v3 M88) else (some ((0 : Int32), M88))) else none) else none) else none) else none) else none) else none) else (if ((sx v3) &&& (31 : Int32)) = (13 : Int32) then (if 0 ≤ (v3 + (1 : Int32)) ∧ (v3 + (1 : Int32)) < sN then (ob (f_X7_begin a1 (sx (v3 + (1 : Int32))) M) fun r93 M91 => if 0 ≤ (v3 + (1 : Int32)) ∧ (v3 + (1 : Int32)) < sN then (ob (f_X8_begin a2 (sx (v3 + (1 : Int32))) M91) fun r96 M94 => if r93 = r96 then (f_L_law_L840 sx sN (f_L_law_L18 sx sN n) a1 a2 v3 M94) else (some ((0 : Int32), M94))) else none) else none) else (if ((sx v3) &&& (31 : Int32)) = (14 : Int32) then (if 0 ≤ (v3 + (1 : Int32)) ∧ (v3 + (1 : Int32)) < sN then (ob (f_X7_set a1 (sx (v3 + (1 : Int32))) M) fun r99 M97 => if 0 ≤ (v3 + (1 : Int32)) ∧ (v3 + (1 : Int32)) < sN then (ob (f_X8_set a2 (sx (v3 + (1 : Int32))) M97) fun r102 M100 => if r99 = r102 then (f_L_law_L840 sx sN (f_L_law_L18 sx sN n) a1 a2 v3 M100) else (some ((0 : Int32), M100))) else none) else none) else (if ((sx v3) &&& (31 : Int32)) = (15 : Int32) then (if 0 ≤ (v3 + (1 : Int32)) ∧ (v3 + (1 : Int32)) < sN then (ob (f_X7_take a1 (sx (v3 + (1 : Int32))) M) fun r105 M103 => if 0 ≤ (v3 + (1 : Int32)) ∧ (v3 + (1 : Int32)) < sN then (ob (f_X8_take a2 (sx (v3 + (1 : Int32))) M103) fun r108 M106 => if r105 = r108 then (f_L_law_L840 sx sN (f_L_law_L18 sx sN n) a1 a2 v3 M106) else (some ((0 : Int32), M106))) else none) else none) else (if ((sx v3) &&& (31 : Int32)) = (16 : Int32) then (ob (f_X7_write a1 M) fun r111 M109 => ob (f_X8_write a2 M109) fun r114 M112 => if r111 = r114 then (f_L_law_L840 sx sN (f_L_law_L18 sx sN n) a1 a2 v3 M112) else (some ((0 : Int32), M112))) else (if ((sx v3) &&& (31 : Int32)) = (17 : Int32) then (if 0 ≤ (v3 + (1 : Int32)) ∧ (v3 + (1 : Int32)) < sN then (ob (f_X7_copy a1 (sx (v3 + (1 : Int32))) M) fun r117 M115 => if 0 ≤ (v3 + (1 : Int32)) ∧ (v3 + (1 : Int32)) < sN then (ob (f_X8_copy a2 (sx (v3 + (1 : Int32))) M115) fun r120 M118 => if r117 = r120 then (f_L_law_L840 sx sN (f_L_law_L18 sx sN n) a1 a2 v3 M118) else (some ((0 : Int32), M118))) else none) else none) else (if ((sx v3) &&& (31 : Int32)) = (18 : Int32) then (if 0 ≤ (v3 + (1 : Int32)) ∧ (v3 + (1 : Int32)) < sN then (ob (f_X7_tape a1 (sx (v3 + (1 : Int32))) M) fun r123 M121 => if 0 ≤ (v3 + (1 : Int32)) ∧ (v3 + (1 : Int32)) < sN then (ob (f_X8_tape a2 (sx (v3 + (1 : Int32))) M121) fun r126 M124 => if r123 = r126 then (f_L_law_L840 sx sN (f_L_law_L18 sx sN n) a1 a2 v3 M124) else (some ((0 : Int32), M124))) else none) else none) else (if ((sx v3) &&& (31 : Int32)) = (19 : Int32) then (if 0 ≤ (v3 + (1 : Int32)) ∧ (v3 + (1 : Int32)) < sN then (ob (f_X7_report a1 (sx (v3 + (1 : Int32))) M) fun r129 M127 => if 0 ≤ (v3 + (1 : Int32)) ∧ (v3 + (1 : Int32)) < sN then (ob (f_X8_report a2 (sx (v3 + (1 : Int32))) M127) fun r132 M130 => if r129 = r132 then (f_L_law_L840 sx sN (f_L_law_L18 sx sN n) a1 a2 v3 M130) else (some ((0 : Int32), M130))) else none) else none) else (if ((sx v3) &&& (31 : Int32)) = (20 : Int32) then (if 0 ≤ (v3 + (1 : Int32)) ∧ (v3 + (1 : Int32)) < sN then (ob (f_X7_tick a1 (sx (v3 + (1 : Int32))) M) fun r135 M133 => if 0 ≤ (v3 + (1 : Int32)) ∧ (v3 + (1 : Int32)) < sN then (ob (f_X8_tick a2 (sx (v3 + (1 : Int32))) M133) fun r138 M136 => if r135 = r138 then (f_L_law_L840 sx sN (f_L_law_L18 sx sN n) a1 a2 v3 M136) else (some ((0 : Int32), M136))) else none) else none) else (if ((sx v3) &&& (31 : Int32)) = (21 : Int32) then (if 0 ≤ (v3 + (1 : Int32)) ∧ (v3 + (1 : Int32)) < sN then (if 0 ≤ (v3 + (2 : Int32)) ∧ (v3 + (2 : Int32)) < sN then (ob (f_X7_track a1 (sx (v3 + (1 : Int32))) (sx (v3 + (2 : Int32))) M) fun r141 M139 => if 0 ≤ (v3 + (1 : Int32)) ∧ (v3 + (1 : Int32)) < sN then (if 0 ≤ (v3 + (2 : Int32)) ∧ (v3 + (2 : Int32)) < sN then (ob (f_X8_track a2 (sx (v3 + (1 : Int32))) (sx (v3 + (2 : Int32))) M139) fun r144 M142 => if r141 = r144 then (f_L_law_L840 sx sN (f_L_law_L18 sx sN n) a1 a2 v3 M142) else (some ((0 : Int32), M142))) else none) else none) else none) else none) else (if ((sx v3) &&& (31 : Int32)) = (22 : Int32) then (if 0 ≤ (v3 + (1 : Int32)) ∧ (v3 + (1 : Int32)) < sN then (ob (f_X7_count a1 (sx (v3 + (1 : Int32))) M) fun r147 M145 => if 0 ≤ (v3 + (1 : Int32)) ∧ (v3 + (1 : Int32)) < sN then (ob (f_X8_count a2 (sx (v3 + (1 : Int32))) M145) fun r150 M148 => if r147 = r150 then (f_L_law_L840 sx sN (f_L_law_L18 sx sN n) a1 a2 v3 M148) else (some ((0 : Int32), M148))) else none) else none) else (f_L_law_L840 sx sN (f_L_law_L18 sx sN n) a1 a2 v3 M)))))))))))))))))))))))) else none)
set_option maxRecDepth 10000 in
set_option maxHeartbeats 4000000 in
theorem t_L_law_L18 {p : Program} {l : Launch} {e : Env} {s : State} {m : MethodId} {below : List Frame} {meth : Method} {c : Code} {D : va_G} {cs : JC} {bs sL : Nat} {xs : Nat → Int32} (hsL : sL ≤ 2560) (X : jX p c code 4 s m #[Value.ref bs] RL D cs s.heap.size meth s.heap) (hS : lawS bs sL xs s) (hr : meth.sig.returnType = ret) : ∀ (n : Nat) (a1 : Nat) (a2 : Nat) (v3 : Int32) (M : JM), oty M a1 17 → oty M a2 18 → ∀ ks sl : Nat, ks + 4 * n + 20 ≤ 600000 → sl + 400 * n + 3000 ≤ 7302249 → AWO p l e room_1 s m #[Value.ref bs] below meth c D cs s.heap.size 4 s.heap (lawQ below bs s) (f_L_law_L18 (sxf xs) (nI sL) n a1 a2 v3 M) M ks sl [(0, .ref bs), (1, .ref (s.heap.size + a1)), (2, .ref (s.heap.size + a2)), (3, .int v3)] 18 [] := by
  intro n
  induction n with
  | zero => intro a1 a2 v3 M h_a1 h_a2 ks sl hks hsl; exact aw_none
  | succ n ih =>
    intro a1 a2 v3 M h_a1 h_a2 ks sl hks hsl
    refine aw_callq (F' := if ((nI sL) - (5 : Int32)) < v3 then (some ((1 : Int32), M)) else (if 0 ≤ v3 ∧ v3 < (nI sL) then (if (((sxf xs) v3) &&& (31 : Int32)) = (0 : Int32) then (if 0 ≤ (v3 + (1 : Int32)) ∧ (v3 + (1 : Int32)) < (nI sL) then (ob (f_X7_category a1 ((sxf xs) (v3 + (1 : Int32))) M) fun r14 M12 => if 0 ≤ (v3 + (1 : Int32)) ∧ (v3 + (1 : Int32)) < (nI sL) then (ob (f_X8_category a2 ((sxf xs) (v3 + (1 : Int32))) M12) fun r17 M15 => if r14 = r17 then (f_L_law_L840 (sxf xs) (nI sL) (f_L_law_L18 (sxf xs) (nI sL) n) a1 a2 v3 M15) else (some ((0 : Int32), M15))) else none) else none) else (if (((sxf xs) v3) &&& (31 : Int32)) = (1 : Int32) then (if 0 ≤ (v3 + (1 : Int32)) ∧ (v3 + (1 : Int32)) < (nI sL) then (if 0 ≤ (v3 + (2 : Int32)) ∧ (v3 + (2 : Int32)) < (nI sL) then (if 0 ≤ (v3 + (3 : Int32)) ∧ (v3 + (3 : Int32)) < (nI sL) then (if 0 ≤ (v3 + (4 : Int32)) ∧ (v3 + (4 : Int32)) < (nI sL) then (ob (f_X7_item a1 ((sxf xs) (v3 + (1 : Int32))) ((sxf xs) (v3 + (2 : Int32))) ((sxf xs) (v3 + (3 : Int32))) ((sxf xs) (v3 + (4 : Int32))) M) fun r21 M19 => if 0 ≤ (v3 + (1 : Int32)) ∧ (v3 + (1 : Int32)) < (nI sL) then (if 0 ≤ (v3 + (2 : Int32)) ∧ (v3 + (2 : Int32)) < (nI sL) then (if 0 ≤ (v3 + (3 : Int32)) ∧ (v3 + (3 : Int32)) < (nI sL) then (if 0 ≤ (v3 + (4 : Int32)) ∧ (v3 + (4 : Int32)) < (nI sL) then (ob (f_X8_item a2 ((sxf xs) (v3 + (1 : Int32))) ((sxf xs) (v3 + (2 : Int32))) ((sxf xs) (v3 + (3 : Int32))) ((sxf xs) (v3 + (4 : Int32))) M19) fun r24 M22 => if r21 = r24 then (f_L_law_L840 (sxf xs) (nI sL) (f_L_law_L18 (sxf xs) (nI sL) n) a1 a2 v3 M22) else (some ((0 : Int32), M22))) else none) else none) else none) else none) else none) else none) else none) else none) else (if (((sxf xs) v3) &&& (31 : Int32)) = (2 : Int32) then (if 0 ≤ (v3 + (1 : Int32)) ∧ (v3 + (1 : Int32)) < (nI sL) then (if 0 ≤ (v3 + (2 : Int32)) ∧ (v3 + (2 : Int32)) < (nI sL) then (if 0 ≤ (v3 + (3 : Int32)) ∧ (v3 + (3 : Int32)) < (nI sL) then (if 0 ≤ (v3 + (4 : Int32)) ∧ (v3 + (4 : Int32)) < (nI sL) then (ob (f_X7_part a1 ((sxf xs) (v3 + (1 : Int32))) ((sxf xs) (v3 + (2 : Int32))) ((sxf xs) (v3 + (3 : Int32))) ((sxf xs) (v3 + (4 : Int32))) M) fun r27 M25 => if 0 ≤ (v3 + (1 : Int32)) ∧ (v3 + (1 : Int32)) < (nI sL) then (if 0 ≤ (v3 + (2 : Int32)) ∧ (v3 + (2 : Int32)) < (nI sL) then (if 0 ≤ (v3 + (3 : Int32)) ∧ (v3 + (3 : Int32)) < (nI sL) then (if 0 ≤ (v3 + (4 : Int32)) ∧ (v3 + (4 : Int32)) < (nI sL) then (ob (f_X8_part a2 ((sxf xs) (v3 + (1 : Int32))) ((sxf xs) (v3 + (2 : Int32))) ((sxf xs) (v3 + (3 : Int32))) ((sxf xs) (v3 + (4 : Int32))) M25) fun r30 M28 => if r27 = r30 then (f_L_law_L840 (sxf xs) (nI sL) (f_L_law_L18 (sxf xs) (nI sL) n) a1 a2 v3 M28) else (some ((0 : Int32), M28))) else none) else none) else none) else none) else none) else none) else none) else none) else (if (((sxf xs) v3) &&& (31 : Int32)) = (3 : Int32) then (if 0 ≤ (v3 + (1 : Int32)) ∧ (v3 + (1 : Int32)) < (nI sL) then (if 0 ≤ (v3 + (2 : Int32)) ∧ (v3 + (2 : Int32)) < (nI sL) then (if 0 ≤ (v3 + (3 : Int32)) ∧ (v3 + (3 : Int32)) < (nI sL) then (ob (f_X7_tells a1 ((sxf xs) (v3 + (1 : Int32))) ((sxf xs) (v3 + (2 : Int32))) ((sxf xs) (v3 + (3 : Int32))) M) fun r33 M31 => if 0 ≤ (v3 + (1 : Int32)) ∧ (v3 + (1 : Int32)) < (nI sL) then (if 0 ≤ (v3 + (2 : Int32)) ∧ (v3 + (2 : Int32)) < (nI sL) then (if 0 ≤ (v3 + (3 : Int32)) ∧ (v3 + (3 : Int32)) < (nI sL) then (ob (f_X8_tells a2 ((sxf xs) (v3 + (1 : Int32))) ((sxf xs) (v3 + (2 : Int32))) ((sxf xs) (v3 + (3 : Int32))) M31) fun r36 M34 => if r33 = r36 then (f_L_law_L840 (sxf xs) (nI sL) (f_L_law_L18 (sxf xs) (nI sL) n) a1 a2 v3 M34) else (some ((0 : Int32), M34))) else none) else none) else none) else none) else none) else none) else (if (((sxf xs) v3) &&& (31 : Int32)) = (4 : Int32) then (if 0 ≤ (v3 + (1 : Int32)) ∧ (v3 + (1 : Int32)) < (nI sL) then (if 0 ≤ (v3 + (2 : Int32)) ∧ (v3 + (2 : Int32)) < (nI sL) then (if 0 ≤ (v3 + (3 : Int32)) ∧ (v3 + (3 : Int32)) < (nI sL) then (ob (f_X7_table a1 ((sxf xs) (v3 + (1 : Int32))) ((sxf xs) (v3 + (2 : Int32))) ((sxf xs) (v3 + (3 : Int32))) M) fun r39 M37 => if 0 ≤ (v3 + (1 : Int32)) ∧ (v3 + (1 : Int32)) < (nI sL) then (if 0 ≤ (v3 + (2 : Int32)) ∧ (v3 + (2 : Int32)) < (nI sL) then (if 0 ≤ (v3 + (3 : Int32)) ∧ (v3 + (3 : Int32)) < (nI sL) then (ob (f_X8_table a2 ((sxf xs) (v3 + (1 : Int32))) ((sxf xs) (v3 + (2 : Int32))) ((sxf xs) (v3 + (3 : Int32))) M37) fun r42 M40 => if r39 = r42 then (f_L_law_L840 (sxf xs) (nI sL) (f_L_law_L18 (sxf xs) (nI sL) n) a1 a2 v3 M40) else (some ((0 : Int32), M40))) else none) else none) else none) else none) else none) else none) else (if (((sxf xs) v3) &&& (31 : Int32)) = (5 : Int32) then (if 0 ≤ (v3 + (1 : Int32)) ∧ (v3 + (1 : Int32)) < (nI sL) then (if 0 ≤ (v3 + (2 : Int32)) ∧ (v3 + (2 : Int32)) < (nI sL) then (if 0 ≤ (v3 + (3 : Int32)) ∧ (v3 + (3 : Int32)) < (nI sL) then (ob (f_X7_feed a1 ((((sxf xs) (v3 + (1 : Int32))).toInt64 <<< ((32 : Int32).toInt64 &&& 63)) ||| (((sxf xs) (v3 + (2 : Int32))).toInt64 &&& (4294967295 : Int64))) ((sxf xs) (v3 + (3 : Int32))) M) fun r45 M43 => if 0 ≤ (v3 + (1 : Int32)) ∧ (v3 + (1 : Int32)) < (nI sL) then (if 0 ≤ (v3 + (2 : Int32)) ∧ (v3 + (2 : Int32)) < (nI sL) then (if 0 ≤ (v3 + (3 : Int32)) ∧ (v3 + (3 : Int32)) < (nI sL) then (ob (f_X8_feed a2 ((((sxf xs) (v3 + (1 : Int32))).toInt64 <<< ((32 : Int32).toInt64 &&& 63)) ||| (((sxf xs) (v3 + (2 : Int32))).toInt64 &&& (4294967295 : Int64))) ((sxf xs) (v3 + (3 : Int32))) M43) fun r48 M46 => if r45 = r48 then (f_L_law_L840 (sxf xs) (nI sL) (f_L_law_L18 (sxf xs) (nI sL) n) a1 a2 v3 M46) else (some ((0 : Int32), M46))) else none) else none) else none) else none) else none) else none) else (if (((sxf xs) v3) &&& (31 : Int32)) = (6 : Int32) then (ob (f_X7_tear a1 M) fun r51 M49 => ob (f_X8_tear a2 M49) fun r54 M52 => if r51 = r54 then (f_L_law_L840 (sxf xs) (nI sL) (f_L_law_L18 (sxf xs) (nI sL) n) a1 a2 v3 M52) else (some ((0 : Int32), M52))) else (if (((sxf xs) v3) &&& (31 : Int32)) = (7 : Int32) then (ob (f_X7_read a1 M) fun r57 M55 => ob (f_X8_read a2 M55) fun r60 M58 => if r57 = r60 then (f_L_law_L840 (sxf xs) (nI sL) (f_L_law_L18 (sxf xs) (nI sL) n) a1 a2 v3 M58) else (some ((0 : Int32), M58))) else (if (((sxf xs) v3) &&& (31 : Int32)) = (8 : Int32) then (ob (f_X7_fault a1 M) fun r63 M61 => ob (f_X8_fault a2 M61) fun r66 M64 => if r63 = r66 then (f_L_law_L840 (sxf xs) (nI sL) (f_L_law_L18 (sxf xs) (nI sL) n) a1 a2 v3 M64) else (some ((0 : Int32), M64))) else (if (((sxf xs) v3) &&& (31 : Int32)) = (9 : Int32) then (if 0 ≤ (v3 + (1 : Int32)) ∧ (v3 + (1 : Int32)) < (nI sL) then (ob (f_X7_records a1 ((sxf xs) (v3 + (1 : Int32))) M) fun r69 M67 => if 0 ≤ (v3 + (1 : Int32)) ∧ (v3 + (1 : Int32)) < (nI sL) then (ob (f_X8_records a2 ((sxf xs) (v3 + (1 : Int32))) M67) fun r72 M70 => if r69 = r72 then (f_L_law_L840 (sxf xs) (nI sL) (f_L_law_L18 (sxf xs) (nI sL) n) a1 a2 v3 M70) else (some ((0 : Int32), M70))) else none) else none) else (if (((sxf xs) v3) &&& (31 : Int32)) = (10 : Int32) then (if 0 ≤ (v3 + (1 : Int32)) ∧ (v3 + (1 : Int32)) < (nI sL) then (if 0 ≤ (v3 + (2 : Int32)) ∧ (v3 + (2 : Int32)) < (nI sL) then (if 0 ≤ (v3 + (3 : Int32)) ∧ (v3 + (3 : Int32)) < (nI sL) then (ob (f_X7_has a1 ((sxf xs) (v3 + (1 : Int32))) ((sxf xs) (v3 + (2 : Int32))) ((sxf xs) (v3 + (3 : Int32))) M) fun r75 M73 => if 0 ≤ (v3 + (1 : Int32)) ∧ (v3 + (1 : Int32)) < (nI sL) then (if 0 ≤ (v3 + (2 : Int32)) ∧ (v3 + (2 : Int32)) < (nI sL) then (if 0 ≤ (v3 + (3 : Int32)) ∧ (v3 + (3 : Int32)) < (nI sL) then (ob (f_X8_has a2 ((sxf xs) (v3 + (1 : Int32))) ((sxf xs) (v3 + (2 : Int32))) ((sxf xs) (v3 + (3 : Int32))) M73) fun r78 M76 => if r75 = r78 then (f_L_law_L840 (sxf xs) (nI sL) (f_L_law_L18 (sxf xs) (nI sL) n) a1 a2 v3 M76) else (some ((0 : Int32), M76))) else none) else none) else none) else none) else none) else none) else (if (((sxf xs) v3) &&& (31 : Int32)) = (11 : Int32) then (if 0 ≤ (v3 + (1 : Int32)) ∧ (v3 + (1 : Int32)) < (nI sL) then (if 0 ≤ (v3 + (2 : Int32)) ∧ (v3 + (2 : Int32)) < (nI sL) then (if 0 ≤ (v3 + (3 : Int32)) ∧ (v3 + (3 : Int32)) < (nI sL) then (ob (f_X7_at a1 ((sxf xs) (v3 + (1 : Int32))) ((sxf xs) (v3 + (2 : Int32))) ((sxf xs) (v3 + (3 : Int32))) M) fun r81 M79 => if 0 ≤ (v3 + (1 : Int32)) ∧ (v3 + (1 : Int32)) < (nI sL) then (if 0 ≤ (v3 + (2 : Int32)) ∧ (v3 + (2 : Int32)) < (nI sL) then (if 0 ≤ (v3 + (3 : Int32)) ∧ (v3 + (3 : Int32)) < (nI sL) then (ob (f_X8_at a2 ((sxf xs) (v3 + (1 : Int32))) ((sxf xs) (v3 + (2 : Int32))) ((sxf xs) (v3 + (3 : Int32))) M79) fun r84 M82 => if r81 = r84 then (f_L_law_L840 (sxf xs) (nI sL) (f_L_law_L18 (sxf xs) (nI sL) n) a1 a2 v3 M82) else (some ((0 : Int32), M82))) else none) else none) else none) else none) else none) else none) else (if (((sxf xs) v3) &&& (31 : Int32)) = (12 : Int32) then (if 0 ≤ (v3 + (1 : Int32)) ∧ (v3 + (1 : Int32)) < (nI sL) then (if 0 ≤ (v3 + (2 : Int32)) ∧ (v3 + (2 : Int32)) < (nI sL) then (if 0 ≤ (v3 + (3 : Int32)) ∧ (v3 + (3 : Int32)) < (nI sL) then (ob (f_X7_number a1 ((sxf xs) (v3 + (1 : Int32))) ((sxf xs) (v3 + (2 : Int32))) ((sxf xs) (v3 + (3 : Int32))) M) fun r87 M85 => if 0 ≤ (v3 + (1 : Int32)) ∧ (v3 + (1 : Int32)) < (nI sL) then (if 0 ≤ (v3 + (2 : Int32)) ∧ (v3 + (2 : Int32)) < (nI sL) then (if 0 ≤ (v3 + (3 : Int32)) ∧ (v3 + (3 : Int32)) < (nI sL) then (ob (f_X8_number a2 ((sxf xs) (v3 + (1 : Int32))) ((sxf xs) (v3 + (2 : Int32))) ((sxf xs) (v3 + (3 : Int32))) M85) fun r90 M88 => if (lg_cmp r87 r90) = 0 then (f_L_law_L840 (sxf xs) (nI sL) (f_L_law_L18 (sxf xs) (nI sL) n) a1 a2 v3 M88) else (some ((0 : Int32), M88))) else none) else none) else none) else none) else none) else none) else (if (((sxf xs) v3) &&& (31 : Int32)) = (13 : Int32) then (if 0 ≤ (v3 + (1 : Int32)) ∧ (v3 + (1 : Int32)) < (nI sL) then (ob (f_X7_begin a1 ((sxf xs) (v3 + (1 : Int32))) M) fun r93 M91 => if 0 ≤ (v3 + (1 : Int32)) ∧ (v3 + (1 : Int32)) < (nI sL) then (ob (f_X8_begin a2 ((sxf xs) (v3 + (1 : Int32))) M91) fun r96 M94 => if r93 = r96 then (f_L_law_L840 (sxf xs) (nI sL) (f_L_law_L18 (sxf xs) (nI sL) n) a1 a2 v3 M94) else (some ((0 : Int32), M94))) else none) else none) else (if (((sxf xs) v3) &&& (31 : Int32)) = (14 : Int32) then (if 0 ≤ (v3 + (1 : Int32)) ∧ (v3 + (1 : Int32)) < (nI sL) then (ob (f_X7_set a1 ((sxf xs) (v3 + (1 : Int32))) M) fun r99 M97 => if 0 ≤ (v3 + (1 : Int32)) ∧ (v3 + (1 : Int32)) < (nI sL) then (ob (f_X8_set a2 ((sxf xs) (v3 + (1 : Int32))) M97) fun r102 M100 => if r99 = r102 then (f_L_law_L840 (sxf xs) (nI sL) (f_L_law_L18 (sxf xs) (nI sL) n) a1 a2 v3 M100) else (some ((0 : Int32), M100))) else none) else none) else (if (((sxf xs) v3) &&& (31 : Int32)) = (15 : Int32) then (if 0 ≤ (v3 + (1 : Int32)) ∧ (v3 + (1 : Int32)) < (nI sL) then (ob (f_X7_take a1 ((sxf xs) (v3 + (1 : Int32))) M) fun r105 M103 => if 0 ≤ (v3 + (1 : Int32)) ∧ (v3 + (1 : Int32)) < (nI sL) then (ob (f_X8_take a2 ((sxf xs) (v3 + (1 : Int32))) M103) fun r108 M106 => if r105 = r108 then (f_L_law_L840 (sxf xs) (nI sL) (f_L_law_L18 (sxf xs) (nI sL) n) a1 a2 v3 M106) else (some ((0 : Int32), M106))) else none) else none) else (if (((sxf xs) v3) &&& (31 : Int32)) = (16 : Int32) then (ob (f_X7_write a1 M) fun r111 M109 => ob (f_X8_write a2 M109) fun r114 M112 => if r111 = r114 then (f_L_law_L840 (sxf xs) (nI sL) (f_L_law_L18 (sxf xs) (nI sL) n) a1 a2 v3 M112) else (some ((0 : Int32), M112))) else (if (((sxf xs) v3) &&& (31 : Int32)) = (17 : Int32) then (if 0 ≤ (v3 + (1 : Int32)) ∧ (v3 + (1 : Int32)) < (nI sL) then (ob (f_X7_copy a1 ((sxf xs) (v3 + (1 : Int32))) M) fun r117 M115 => if 0 ≤ (v3 + (1 : Int32)) ∧ (v3 + (1 : Int32)) < (nI sL) then (ob (f_X8_copy a2 ((sxf xs) (v3 + (1 : Int32))) M115) fun r120 M118 => if r117 = r120 then (f_L_law_L840 (sxf xs) (nI sL) (f_L_law_L18 (sxf xs) (nI sL) n) a1 a2 v3 M118) else (some ((0 : Int32), M118))) else none) else none) else (if (((sxf xs) v3) &&& (31 : Int32)) = (18 : Int32) then (if 0 ≤ (v3 + (1 : Int32)) ∧ (v3 + (1 : Int32)) < (nI sL) then (ob (f_X7_tape a1 ((sxf xs) (v3 + (1 : Int32))) M) fun r123 M121 => if 0 ≤ (v3 + (1 : Int32)) ∧ (v3 + (1 : Int32)) < (nI sL) then (ob (f_X8_tape a2 ((sxf xs) (v3 + (1 : Int32))) M121) fun r126 M124 => if r123 = r126 then (f_L_law_L840 (sxf xs) (nI sL) (f_L_law_L18 (sxf xs) (nI sL) n) a1 a2 v3 M124) else (some ((0 : Int32), M124))) else none) else none) else (if (((sxf xs) v3) &&& (31 : Int32)) = (19 : Int32) then (if 0 ≤ (v3 + (1 : Int32)) ∧ (v3 + (1 : Int32)) < (nI sL) then (ob (f_X7_report a1 ((sxf xs) (v3 + (1 : Int32))) M) fun r129 M127 => if 0 ≤ (v3 + (1 : Int32)) ∧ (v3 + (1 : Int32)) < (nI sL) then (ob (f_X8_report a2 ((sxf xs) (v3 + (1 : Int32))) M127) fun r132 M130 => if r129 = r132 then (f_L_law_L840 (sxf xs) (nI sL) (f_L_law_L18 (sxf xs) (nI sL) n) a1 a2 v3 M130) else (some ((0 : Int32), M130))) else none) else none) else (if (((sxf xs) v3) &&& (31 : Int32)) = (20 : Int32) then (if 0 ≤ (v3 + (1 : Int32)) ∧ (v3 + (1 : Int32)) < (nI sL) then (ob (f_X7_tick a1 ((sxf xs) (v3 + (1 : Int32))) M) fun r135 M133 => if 0 ≤ (v3 + (1 : Int32)) ∧ (v3 + (1 : Int32)) < (nI sL) then (ob (f_X8_tick a2 ((sxf xs) (v3 + (1 : Int32))) M133) fun r138 M136 => if r135 = r138 then (f_L_law_L840 (sxf xs) (nI sL) (f_L_law_L18 (sxf xs) (nI sL) n) a1 a2 v3 M136) else (some ((0 : Int32), M136))) else none) else none) else (if (((sxf xs) v3) &&& (31 : Int32)) = (21 : Int32) then (if 0 ≤ (v3 + (1 : Int32)) ∧ (v3 + (1 : Int32)) < (nI sL) then (if 0 ≤ (v3 + (2 : Int32)) ∧ (v3 + (2 : Int32)) < (nI sL) then (ob (f_X7_track a1 ((sxf xs) (v3 + (1 : Int32))) ((sxf xs) (v3 + (2 : Int32))) M) fun r141 M139 => if 0 ≤ (v3 + (1 : Int32)) ∧ (v3 + (1 : Int32)) < (nI sL) then (if 0 ≤ (v3 + (2 : Int32)) ∧ (v3 + (2 : Int32)) < (nI sL) then (ob (f_X8_track a2 ((sxf xs) (v3 + (1 : Int32))) ((sxf xs) (v3 + (2 : Int32))) M139) fun r144 M142 => if r141 = r144 then (f_L_law_L840 (sxf xs) (nI sL) (f_L_law_L18 (sxf xs) (nI sL) n) a1 a2 v3 M142) else (some ((0 : Int32), M142))) else none) else none) else none) else none) else (if (((sxf xs) v3) &&& (31 : Int32)) = (22 : Int32) then (if 0 ≤ (v3 + (1 : Int32)) ∧ (v3 + (1 : Int32)) < (nI sL) then (ob (f_X7_count a1 ((sxf xs) (v3 + (1 : Int32))) M) fun r147 M145 => if 0 ≤ (v3 + (1 : Int32)) ∧ (v3 + (1 : Int32)) < (nI sL) then (ob (f_X8_count a2 ((sxf xs) (v3 + (1 : Int32))) M145) fun r150 M148 => if r147 = r150 then (f_L_law_L840 (sxf xs) (nI sL) (f_L_law_L18 (sxf xs) (nI sL) n) a1 a2 v3 M148) else (some ((0 : Int32), M148))) else none) else none) else (f_L_law_L840 (sxf xs) (nI sL) (f_L_law_L18 (sxf xs) (nI sL) n) a1 a2 v3 M)))))))))))))))))))))))) else none)) rfl ?_
    refine aw_iload_n (pc := 18) X 3 dL_law_18 rfl ?_
    refine aw_aload_n (pc := 19) X 0 dL_law_19 rfl ?_
    refine aw_slen (pc := 20) hsL X hS dL_law_20 ?_
    refine aw_iconst (pc := 21) X (5 : Int32) dL_law_21 (by decide) ?_
    refine aw_isub (pc := 22) X dL_law_22 ?_
    refine aw_icmpgt (pc := 23) X 846 dL_law_23 (by decide) ?_ ?_
    · refine aw_iconst (pc := 846) X (1 : Int32) dL_law_846 (by decide) ?_
      exact aw_lawret (pc := 847) X hr dL_law_847 (by have e0 : FU = 4096 := rfl; have c9 : room_1.cells = 600000 := rfl; have s9 : room_1.slots = 7302249 := rfl; omega) (by have e0 : FU = 4096 := rfl; have c9 : room_1.cells = 600000 := rfl; have s9 : room_1.slots = 7302249 := rfl; omega)
    · refine aw_aload_n (pc := 26) X 0 dL_law_26 rfl ?_
      refine aw_iload_n (pc := 27) X 3 dL_law_27 rfl ?_
      refine aw_sld (pc := 28) hsL X hS dL_law_28 ?_
      refine aw_bipush (pc := 29) X (31 : Int32) dL_law_29 (by decide) ?_
      refine aw_iand (pc := 31) X dL_law_31 ?_
      refine aw_swIn (pc := 32) X (0 : Int32) 140 dL_law_32 (by decide) (by decide) rfl (by decide) ?_ (fun hn0 => ?_)
      · refine aw_aload_n (pc := 140) X 1 dL_law_140 rfl ?_
        refine aw_aload_n (pc := 141) X 0 dL_law_141 rfl ?_
        refine aw_iload_n (pc := 142) X 3 dL_law_142 rfl ?_
        refine aw_iconst (pc := 143) X (1 : Int32) dL_law_143 (by decide) ?_
        refine aw_iadd (pc := 144) X dL_law_144 ?_
        refine aw_sld (pc := 145) hsL X hS dL_law_145 ?_
        refine cl_L_13 (pc := 146) X ⟨Nat.le_of_ble_eq_true rfl, Nat.le_of_ble_eq_true rfl⟩ (Nat.le_of_ble_eq_true rfl) (ks2 := (ks + 4)) (sl2 := (sl + 358)) rfl rfl ⟨(by have e0 : FU = 4096 := rfl; have c9 : room_1.cells = 600000 := rfl; have s9 : room_1.slots = 7302249 := rfl; omega), (by have e0 : FU = 4096 := rfl; have c9 : room_1.cells = 600000 := rfl; have s9 : room_1.slots = 7302249 := rfl; omega)⟩ dL_law_146 h_a1 (fun r14 M12 g13 => ?_)
        have h_a1 := h_a1.mono g13
        have h_a2 := h_a2.mono g13
        refine aw_aload_n (pc := 149) X 2 dL_law_149 rfl ?_
        refine aw_aload_n (pc := 150) X 0 dL_law_150 rfl ?_
        refine aw_iload_n (pc := 151) X 3 dL_law_151 rfl ?_
        refine aw_iconst (pc := 152) X (1 : Int32) dL_law_152 (by decide) ?_
        refine aw_iadd (pc := 153) X dL_law_153 ?_
        refine aw_sld (pc := 154) hsL X hS dL_law_154 ?_
        refine cl_L_17 (pc := 155) X ⟨Nat.le_of_ble_eq_true rfl, Nat.le_of_ble_eq_true rfl⟩ (Nat.le_of_ble_eq_true rfl) (ks2 := (ks + 4)) (sl2 := (sl + 358)) rfl rfl ⟨(by have e0 : FU = 4096 := rfl; have c9 : room_1.cells = 600000 := rfl; have s9 : room_1.slots = 7302249 := rfl; omega), (by have e0 : FU = 4096 := rfl; have c9 : room_1.cells = 600000 := rfl; have s9 : room_1.slots = 7302249 := rfl; omega)⟩ dL_law_155 h_a2 (fun r17 M15 g16 => ?_)
        have h_a1 := h_a1.mono g16
        have h_a2 := h_a2.mono g16
        refine aw_icmpeq (pc := 158) X 840 dL_law_158 (by decide) ?_ ?_
        · refine aw_sub [0, 1, 2, 3] rfl ?_
          exact t_L_law_L840 hsL X hS hr n (f_L_law_L18 (sxf xs) (nI sL) n) ih a1 a2 v3 M15 h_a1 h_a2 _ _ (by have e0 : FU = 4096 := rfl; have c9 : room_1.cells = 600000 := rfl; have s9 : room_1.slots = 7302249 := rfl; omega) (by have e0 : FU = 4096 := rfl; have c9 : room_1.cells = 600000 := rfl; have s9 : room_1.slots = 7302249 := rfl; omega)
        · refine aw_iconst (pc := 161) X (0 : Int32) dL_law_161 (by decide) ?_
          exact aw_lawret (pc := 162) X hr dL_law_162 (by have e0 : FU = 4096 := rfl; have c9 : room_1.cells = 600000 := rfl; have s9 : room_1.slots = 7302249 := rfl; omega) (by have e0 : FU = 4096 := rfl; have c9 : room_1.cells = 600000 := rfl; have s9 : room_1.slots = 7302249 := rfl; omega)
      refine aw_swIn (pc := 32) X (1 : Int32) 163 dL_law_32 (by decide) (by decide) rfl (by decide) ?_ (fun hn1 => ?_)
      · refine aw_aload_n (pc := 163) X 1 dL_law_163 rfl ?_
        refine aw_aload_n (pc := 164) X 0 dL_law_164 rfl ?_
        refine aw_iload_n (pc := 165) X 3 dL_law_165 rfl ?_
        refine aw_iconst (pc := 166) X (1 : Int32) dL_law_166 (by decide) ?_
        refine aw_iadd (pc := 167) X dL_law_167 ?_
        refine aw_sld (pc := 168) hsL X hS dL_law_168 ?_
        refine aw_aload_n (pc := 169) X 0 dL_law_169 rfl ?_
        refine aw_iload_n (pc := 170) X 3 dL_law_170 rfl ?_
        refine aw_iconst (pc := 171) X (2 : Int32) dL_law_171 (by decide) ?_
        refine aw_iadd (pc := 172) X dL_law_172 ?_
        refine aw_sld (pc := 173) hsL X hS dL_law_173 ?_
        refine aw_aload_n (pc := 174) X 0 dL_law_174 rfl ?_
        refine aw_iload_n (pc := 175) X 3 dL_law_175 rfl ?_
        refine aw_iconst (pc := 176) X (3 : Int32) dL_law_176 (by decide) ?_
        refine aw_iadd (pc := 177) X dL_law_177 ?_
        refine aw_sld (pc := 178) hsL X hS dL_law_178 ?_
        refine aw_aload_n (pc := 179) X 0 dL_law_179 rfl ?_
        refine aw_iload_n (pc := 180) X 3 dL_law_180 rfl ?_
        refine aw_iconst (pc := 181) X (4 : Int32) dL_law_181 (by decide) ?_
        refine aw_iadd (pc := 182) X dL_law_182 ?_
        refine aw_sld (pc := 183) hsL X hS dL_law_183 ?_
        refine cl_L_18 (pc := 184) X ⟨Nat.le_of_ble_eq_true rfl, Nat.le_of_ble_eq_true rfl⟩ (Nat.le_of_ble_eq_true rfl) (ks2 := ks) (sl2 := sl) rfl rfl ⟨(by have e0 : FU = 4096 := rfl; have c9 : room_1.cells = 600000 := rfl; have s9 : room_1.slots = 7302249 := rfl; omega), (by have e0 : FU = 4096 := rfl; have c9 : room_1.cells = 600000 := rfl; have s9 : room_1.slots = 7302249 := rfl; omega)⟩ dL_law_184 h_a1 (fun r21 M19 g20 => ?_)
        have h_a1 := h_a1.mono g20
        have h_a2 := h_a2.mono g20
        refine aw_aload_n (pc := 187) X 2 dL_law_187 rfl ?_
        refine aw_aload_n (pc := 188) X 0 dL_law_188 rfl ?_
        refine aw_iload_n (pc := 189) X 3 dL_law_189 rfl ?_
        refine aw_iconst (pc := 190) X (1 : Int32) dL_law_190 (by decide) ?_
        refine aw_iadd (pc := 191) X dL_law_191 ?_
        refine aw_sld (pc := 192) hsL X hS dL_law_192 ?_
        refine aw_aload_n (pc := 193) X 0 dL_law_193 rfl ?_
        refine aw_iload_n (pc := 194) X 3 dL_law_194 rfl ?_
        refine aw_iconst (pc := 195) X (2 : Int32) dL_law_195 (by decide) ?_
        refine aw_iadd (pc := 196) X dL_law_196 ?_
        refine aw_sld (pc := 197) hsL X hS dL_law_197 ?_
        refine aw_aload_n (pc := 198) X 0 dL_law_198 rfl ?_
        refine aw_iload_n (pc := 199) X 3 dL_law_199 rfl ?_
        refine aw_iconst (pc := 200) X (3 : Int32) dL_law_200 (by decide) ?_
        refine aw_iadd (pc := 201) X dL_law_201 ?_
        refine aw_sld (pc := 202) hsL X hS dL_law_202 ?_
        refine aw_aload_n (pc := 203) X 0 dL_law_203 rfl ?_
        refine aw_iload_n (pc := 204) X 3 dL_law_204 rfl ?_
        refine aw_iconst (pc := 205) X (4 : Int32) dL_law_205 (by decide) ?_
        refine aw_iadd (pc := 206) X dL_law_206 ?_
        refine aw_sld (pc := 207) hsL X hS dL_law_207 ?_
        refine cl_L_22 (pc := 208) X ⟨Nat.le_of_ble_eq_true rfl, Nat.le_of_ble_eq_true rfl⟩ (Nat.le_of_ble_eq_true rfl) (ks2 := ks) (sl2 := sl) rfl rfl ⟨(by have e0 : FU = 4096 := rfl; have c9 : room_1.cells = 600000 := rfl; have s9 : room_1.slots = 7302249 := rfl; omega), (by have e0 : FU = 4096 := rfl; have c9 : room_1.cells = 600000 := rfl; have s9 : room_1.slots = 7302249 := rfl; omega)⟩ dL_law_208 h_a2 (fun r24 M22 g23 => ?_)
        have h_a1 := h_a1.mono g23
        have h_a2 := h_a2.mono g23
        refine aw_icmpeq (pc := 211) X 840 dL_law_211 (by decide) ?_ ?_
        · refine aw_sub [0, 1, 2, 3] rfl ?_
          exact t_L_law_L840 hsL X hS hr n (f_L_law_L18 (sxf xs) (nI sL) n) ih a1 a2 v3 M22 h_a1 h_a2 _ _ (by have e0 : FU = 4096 := rfl; have c9 : room_1.cells = 600000 := rfl; have s9 : room_1.slots = 7302249 := rfl; omega) (by have e0 : FU = 4096 := rfl; have c9 : room_1.cells = 600000 := rfl; have s9 : room_1.slots = 7302249 := rfl; omega)
        · refine aw_iconst (pc := 214) X (0 : Int32) dL_law_214 (by decide) ?_
          exact aw_lawret (pc := 215) X hr dL_law_215 (by have e0 : FU = 4096 := rfl; have c9 : room_1.cells = 600000 := rfl; have s9 : room_1.slots = 7302249 := rfl; omega) (by have e0 : FU = 4096 := rfl; have c9 : room_1.cells = 600000 := rfl; have s9 : room_1.slots = 7302249 := rfl; omega)
      refine aw_swIn (pc := 32) X (2 : Int32) 216 dL_law_32 (by decide) (by decide) rfl (by decide) ?_ (fun hn2 => ?_)
      · refine aw_aload_n (pc := 216) X 1 dL_law_216 rfl ?_
        refine aw_aload_n (pc := 217) X 0 dL_law_217 rfl ?_
        refine aw_iload_n (pc := 218) X 3 dL_law_218 rfl ?_
        refine aw_iconst (pc := 219) X (1 : Int32) dL_law_219 (by decide) ?_
        refine aw_iadd (pc := 220) X dL_law_220 ?_
        refine aw_sld (pc := 221) hsL X hS dL_law_221 ?_
        refine aw_aload_n (pc := 222) X 0 dL_law_222 rfl ?_
        refine aw_iload_n (pc := 223) X 3 dL_law_223 rfl ?_
        refine aw_iconst (pc := 224) X (2 : Int32) dL_law_224 (by decide) ?_
        refine aw_iadd (pc := 225) X dL_law_225 ?_
        refine aw_sld (pc := 226) hsL X hS dL_law_226 ?_
        refine aw_aload_n (pc := 227) X 0 dL_law_227 rfl ?_
        refine aw_iload_n (pc := 228) X 3 dL_law_228 rfl ?_
        refine aw_iconst (pc := 229) X (3 : Int32) dL_law_229 (by decide) ?_
        refine aw_iadd (pc := 230) X dL_law_230 ?_
        refine aw_sld (pc := 231) hsL X hS dL_law_231 ?_
        refine aw_aload_n (pc := 232) X 0 dL_law_232 rfl ?_
        refine aw_iload_n (pc := 233) X 3 dL_law_233 rfl ?_
        refine aw_iconst (pc := 234) X (4 : Int32) dL_law_234 (by decide) ?_
        refine aw_iadd (pc := 235) X dL_law_235 ?_
        refine aw_sld (pc := 236) hsL X hS dL_law_236 ?_
        refine cl_L_23 (pc := 237) X ⟨Nat.le_of_ble_eq_true rfl, Nat.le_of_ble_eq_true rfl⟩ (Nat.le_of_ble_eq_true rfl) (ks2 := ks) (sl2 := sl) rfl rfl ⟨(by have e0 : FU = 4096 := rfl; have c9 : room_1.cells = 600000 := rfl; have s9 : room_1.slots = 7302249 := rfl; omega), (by have e0 : FU = 4096 := rfl; have c9 : room_1.cells = 600000 := rfl; have s9 : room_1.slots = 7302249 := rfl; omega)⟩ dL_law_237 h_a1 (fun r27 M25 g26 => ?_)
        have h_a1 := h_a1.mono g26
        have h_a2 := h_a2.mono g26
        refine aw_aload_n (pc := 240) X 2 dL_law_240 rfl ?_
        refine aw_aload_n (pc := 241) X 0 dL_law_241 rfl ?_
        refine aw_iload_n (pc := 242) X 3 dL_law_242 rfl ?_
        refine aw_iconst (pc := 243) X (1 : Int32) dL_law_243 (by decide) ?_
        refine aw_iadd (pc := 244) X dL_law_244 ?_
        refine aw_sld (pc := 245) hsL X hS dL_law_245 ?_
        refine aw_aload_n (pc := 246) X 0 dL_law_246 rfl ?_
        refine aw_iload_n (pc := 247) X 3 dL_law_247 rfl ?_
        refine aw_iconst (pc := 248) X (2 : Int32) dL_law_248 (by decide) ?_
        refine aw_iadd (pc := 249) X dL_law_249 ?_
        refine aw_sld (pc := 250) hsL X hS dL_law_250 ?_
        refine aw_aload_n (pc := 251) X 0 dL_law_251 rfl ?_
        refine aw_iload_n (pc := 252) X 3 dL_law_252 rfl ?_
        refine aw_iconst (pc := 253) X (3 : Int32) dL_law_253 (by decide) ?_
        refine aw_iadd (pc := 254) X dL_law_254 ?_
        refine aw_sld (pc := 255) hsL X hS dL_law_255 ?_
        refine aw_aload_n (pc := 256) X 0 dL_law_256 rfl ?_
        refine aw_iload_n (pc := 257) X 3 dL_law_257 rfl ?_
        refine aw_iconst (pc := 258) X (4 : Int32) dL_law_258 (by decide) ?_
        refine aw_iadd (pc := 259) X dL_law_259 ?_
        refine aw_sld (pc := 260) hsL X hS dL_law_260 ?_
        refine cl_L_26 (pc := 261) X ⟨Nat.le_of_ble_eq_true rfl, Nat.le_of_ble_eq_true rfl⟩ (Nat.le_of_ble_eq_true rfl) (ks2 := ks) (sl2 := sl) rfl rfl ⟨(by have e0 : FU = 4096 := rfl; have c9 : room_1.cells = 600000 := rfl; have s9 : room_1.slots = 7302249 := rfl; omega), (by have e0 : FU = 4096 := rfl; have c9 : room_1.cells = 600000 := rfl; have s9 : room_1.slots = 7302249 := rfl; omega)⟩ dL_law_261 h_a2 (fun r30 M28 g29 => ?_)
        have h_a1 := h_a1.mono g29
        have h_a2 := h_a2.mono g29
        refine aw_icmpeq (pc := 264) X 840 dL_law_264 (by decide) ?_ ?_
        · refine aw_sub [0, 1, 2, 3] rfl ?_
          exact t_L_law_L840 hsL X hS hr n (f_L_law_L18 (sxf xs) (nI sL) n) ih a1 a2 v3 M28 h_a1 h_a2 _ _ (by have e0 : FU = 4096 := rfl; have c9 : room_1.cells = 600000 := rfl; have s9 : room_1.slots = 7302249 := rfl; omega) (by have e0 : FU = 4096 := rfl; have c9 : room_1.cells = 600000 := rfl; have s9 : room_1.slots = 7302249 := rfl; omega)
        · refine aw_iconst (pc := 267) X (0 : Int32) dL_law_267 (by decide) ?_
          exact aw_lawret (pc := 268) X hr dL_law_268 (by have e0 : FU = 4096 := rfl; have c9 : room_1.cells = 600000 := rfl; have s9 : room_1.slots = 7302249 := rfl; omega) (by have e0 : FU = 4096 := rfl; have c9 : room_1.cells = 600000 := rfl; have s9 : room_1.slots = 7302249 := rfl; omega)
      refine aw_swIn (pc := 32) X (3 : Int32) 269 dL_law_32 (by decide) (by decide) rfl (by decide) ?_ (fun hn3 => ?_)
      · refine aw_aload_n (pc := 269) X 1 dL_law_269 rfl ?_
        refine aw_aload_n (pc := 270) X 0 dL_law_270 rfl ?_
        refine aw_iload_n (pc := 271) X 3 dL_law_271 rfl ?_
        refine aw_iconst (pc := 272) X (1 : Int32) dL_law_272 (by decide) ?_
        refine aw_iadd (pc := 273) X dL_law_273 ?_
        refine aw_sld (pc := 274) hsL X hS dL_law_274 ?_
        refine aw_aload_n (pc := 275) X 0 dL_law_275 rfl ?_
        refine aw_iload_n (pc := 276) X 3 dL_law_276 rfl ?_
        refine aw_iconst (pc := 277) X (2 : Int32) dL_law_277 (by decide) ?_
        refine aw_iadd (pc := 278) X dL_law_278 ?_
        refine aw_sld (pc := 279) hsL X hS dL_law_279 ?_
        refine aw_aload_n (pc := 280) X 0 dL_law_280 rfl ?_
        refine aw_iload_n (pc := 281) X 3 dL_law_281 rfl ?_
        refine aw_iconst (pc := 282) X (3 : Int32) dL_law_282 (by decide) ?_
        refine aw_iadd (pc := 283) X dL_law_283 ?_
        refine aw_sld (pc := 284) hsL X hS dL_law_284 ?_
        refine cl_L_27 (pc := 285) X ⟨Nat.le_of_ble_eq_true rfl, Nat.le_of_ble_eq_true rfl⟩ (Nat.le_of_ble_eq_true rfl) (ks2 := ks) (sl2 := sl) rfl rfl ⟨(by have e0 : FU = 4096 := rfl; have c9 : room_1.cells = 600000 := rfl; have s9 : room_1.slots = 7302249 := rfl; omega), (by have e0 : FU = 4096 := rfl; have c9 : room_1.cells = 600000 := rfl; have s9 : room_1.slots = 7302249 := rfl; omega)⟩ dL_law_285 h_a1 (fun r33 M31 g32 => ?_)
        have h_a1 := h_a1.mono g32
        have h_a2 := h_a2.mono g32
        refine aw_aload_n (pc := 288) X 2 dL_law_288 rfl ?_
        refine aw_aload_n (pc := 289) X 0 dL_law_289 rfl ?_
        refine aw_iload_n (pc := 290) X 3 dL_law_290 rfl ?_
        refine aw_iconst (pc := 291) X (1 : Int32) dL_law_291 (by decide) ?_
        refine aw_iadd (pc := 292) X dL_law_292 ?_
        refine aw_sld (pc := 293) hsL X hS dL_law_293 ?_
        refine aw_aload_n (pc := 294) X 0 dL_law_294 rfl ?_
        refine aw_iload_n (pc := 295) X 3 dL_law_295 rfl ?_
        refine aw_iconst (pc := 296) X (2 : Int32) dL_law_296 (by decide) ?_
        refine aw_iadd (pc := 297) X dL_law_297 ?_
        refine aw_sld (pc := 298) hsL X hS dL_law_298 ?_
        refine aw_aload_n (pc := 299) X 0 dL_law_299 rfl ?_
        refine aw_iload_n (pc := 300) X 3 dL_law_300 rfl ?_
        refine aw_iconst (pc := 301) X (3 : Int32) dL_law_301 (by decide) ?_
        refine aw_iadd (pc := 302) X dL_law_302 ?_
        refine aw_sld (pc := 303) hsL X hS dL_law_303 ?_
        refine cl_L_31 (pc := 304) X ⟨Nat.le_of_ble_eq_true rfl, Nat.le_of_ble_eq_true rfl⟩ (Nat.le_of_ble_eq_true rfl) (ks2 := ks) (sl2 := sl) rfl rfl ⟨(by have e0 : FU = 4096 := rfl; have c9 : room_1.cells = 600000 := rfl; have s9 : room_1.slots = 7302249 := rfl; omega), (by have e0 : FU = 4096 := rfl; have c9 : room_1.cells = 600000 := rfl; have s9 : room_1.slots = 7302249 := rfl; omega)⟩ dL_law_304 h_a2 (fun r36 M34 g35 => ?_)
        have h_a1 := h_a1.mono g35
        have h_a2 := h_a2.mono g35
        refine aw_icmpeq (pc := 307) X 840 dL_law_307 (by decide) ?_ ?_
        · refine aw_sub [0, 1, 2, 3] rfl ?_
          exact t_L_law_L840 hsL X hS hr n (f_L_law_L18 (sxf xs) (nI sL) n) ih a1 a2 v3 M34 h_a1 h_a2 _ _ (by have e0 : FU = 4096 := rfl; have c9 : room_1.cells = 600000 := rfl; have s9 : room_1.slots = 7302249 := rfl; omega) (by have e0 : FU = 4096 := rfl; have c9 : room_1.cells = 600000 := rfl; have s9 : room_1.slots = 7302249 := rfl; omega)
        · refine aw_iconst (pc := 310) X (0 : Int32) dL_law_310 (by decide) ?_
          exact aw_lawret (pc := 311) X hr dL_law_311 (by have e0 : FU = 4096 := rfl; have c9 : room_1.cells = 600000 := rfl; have s9 : room_1.slots = 7302249 := rfl; omega) (by have e0 : FU = 4096 := rfl; have c9 : room_1.cells = 600000 := rfl; have s9 : room_1.slots = 7302249 := rfl; omega)
      refine aw_swIn (pc := 32) X (4 : Int32) 312 dL_law_32 (by decide) (by decide) rfl (by decide) ?_ (fun hn4 => ?_)
      · refine aw_aload_n (pc := 312) X 1 dL_law_312 rfl ?_
        refine aw_aload_n (pc := 313) X 0 dL_law_313 rfl ?_
        refine aw_iload_n (pc := 314) X 3 dL_law_314 rfl ?_
        refine aw_iconst (pc := 315) X (1 : Int32) dL_law_315 (by decide) ?_
        refine aw_iadd (pc := 316) X dL_law_316 ?_
        refine aw_sld (pc := 317) hsL X hS dL_law_317 ?_
        refine aw_aload_n (pc := 318) X 0 dL_law_318 rfl ?_
        refine aw_iload_n (pc := 319) X 3 dL_law_319 rfl ?_
        refine aw_iconst (pc := 320) X (2 : Int32) dL_law_320 (by decide) ?_
        refine aw_iadd (pc := 321) X dL_law_321 ?_
        refine aw_sld (pc := 322) hsL X hS dL_law_322 ?_
        refine aw_aload_n (pc := 323) X 0 dL_law_323 rfl ?_
        refine aw_iload_n (pc := 324) X 3 dL_law_324 rfl ?_
        refine aw_iconst (pc := 325) X (3 : Int32) dL_law_325 (by decide) ?_
        refine aw_iadd (pc := 326) X dL_law_326 ?_
        refine aw_sld (pc := 327) hsL X hS dL_law_327 ?_
        refine cl_L_32 (pc := 328) X ⟨Nat.le_of_ble_eq_true rfl, Nat.le_of_ble_eq_true rfl⟩ (Nat.le_of_ble_eq_true rfl) (ks2 := ks) (sl2 := sl) rfl rfl ⟨(by have e0 : FU = 4096 := rfl; have c9 : room_1.cells = 600000 := rfl; have s9 : room_1.slots = 7302249 := rfl; omega), (by have e0 : FU = 4096 := rfl; have c9 : room_1.cells = 600000 := rfl; have s9 : room_1.slots = 7302249 := rfl; omega)⟩ dL_law_328 h_a1 (fun r39 M37 g38 => ?_)
        have h_a1 := h_a1.mono g38
        have h_a2 := h_a2.mono g38
        refine aw_aload_n (pc := 331) X 2 dL_law_331 rfl ?_
        refine aw_aload_n (pc := 332) X 0 dL_law_332 rfl ?_
        refine aw_iload_n (pc := 333) X 3 dL_law_333 rfl ?_
        refine aw_iconst (pc := 334) X (1 : Int32) dL_law_334 (by decide) ?_
        refine aw_iadd (pc := 335) X dL_law_335 ?_
        refine aw_sld (pc := 336) hsL X hS dL_law_336 ?_
        refine aw_aload_n (pc := 337) X 0 dL_law_337 rfl ?_
        refine aw_iload_n (pc := 338) X 3 dL_law_338 rfl ?_
        refine aw_iconst (pc := 339) X (2 : Int32) dL_law_339 (by decide) ?_
        refine aw_iadd (pc := 340) X dL_law_340 ?_
        refine aw_sld (pc := 341) hsL X hS dL_law_341 ?_
        refine aw_aload_n (pc := 342) X 0 dL_law_342 rfl ?_
        refine aw_iload_n (pc := 343) X 3 dL_law_343 rfl ?_
        refine aw_iconst (pc := 344) X (3 : Int32) dL_law_344 (by decide) ?_
        refine aw_iadd (pc := 345) X dL_law_345 ?_
        refine aw_sld (pc := 346) hsL X hS dL_law_346 ?_
        refine cl_L_35 (pc := 347) X ⟨Nat.le_of_ble_eq_true rfl, Nat.le_of_ble_eq_true rfl⟩ (Nat.le_of_ble_eq_true rfl) (ks2 := ks) (sl2 := sl) rfl rfl ⟨(by have e0 : FU = 4096 := rfl; have c9 : room_1.cells = 600000 := rfl; have s9 : room_1.slots = 7302249 := rfl; omega), (by have e0 : FU = 4096 := rfl; have c9 : room_1.cells = 600000 := rfl; have s9 : room_1.slots = 7302249 := rfl; omega)⟩ dL_law_347 h_a2 (fun r42 M40 g41 => ?_)
        have h_a1 := h_a1.mono g41
        have h_a2 := h_a2.mono g41
        refine aw_icmpeq (pc := 350) X 840 dL_law_350 (by decide) ?_ ?_
        · refine aw_sub [0, 1, 2, 3] rfl ?_
          exact t_L_law_L840 hsL X hS hr n (f_L_law_L18 (sxf xs) (nI sL) n) ih a1 a2 v3 M40 h_a1 h_a2 _ _ (by have e0 : FU = 4096 := rfl; have c9 : room_1.cells = 600000 := rfl; have s9 : room_1.slots = 7302249 := rfl; omega) (by have e0 : FU = 4096 := rfl; have c9 : room_1.cells = 600000 := rfl; have s9 : room_1.slots = 7302249 := rfl; omega)
        · refine aw_iconst (pc := 353) X (0 : Int32) dL_law_353 (by decide) ?_
          exact aw_lawret (pc := 354) X hr dL_law_354 (by have e0 : FU = 4096 := rfl; have c9 : room_1.cells = 600000 := rfl; have s9 : room_1.slots = 7302249 := rfl; omega) (by have e0 : FU = 4096 := rfl; have c9 : room_1.cells = 600000 := rfl; have s9 : room_1.slots = 7302249 := rfl; omega)
      refine aw_swIn (pc := 32) X (5 : Int32) 355 dL_law_32 (by decide) (by decide) rfl (by decide) ?_ (fun hn5 => ?_)
      · refine aw_aload_n (pc := 355) X 1 dL_law_355 rfl ?_
        refine aw_aload_n (pc := 356) X 0 dL_law_356 rfl ?_
        refine aw_iload_n (pc := 357) X 3 dL_law_357 rfl ?_
        refine aw_iconst (pc := 358) X (1 : Int32) dL_law_358 (by decide) ?_
        refine aw_iadd (pc := 359) X dL_law_359 ?_
        refine aw_sld (pc := 360) hsL X hS dL_law_360 ?_
        refine aw_i2l (pc := 361) X dL_law_361 ?_
        refine aw_bipush (pc := 362) X (32 : Int32) dL_law_362 (by decide) ?_
        refine aw_lshl (pc := 364) X dL_law_364 ?_
        refine aw_aload_n (pc := 365) X 0 dL_law_365 rfl ?_
        refine aw_iload_n (pc := 366) X 3 dL_law_366 rfl ?_
        refine aw_iconst (pc := 367) X (2 : Int32) dL_law_367 (by decide) ?_
        refine aw_iadd (pc := 368) X dL_law_368 ?_
        refine aw_sld (pc := 369) hsL X hS dL_law_369 ?_
        refine aw_i2l (pc := 370) X dL_law_370 ?_
        refine aw_ldc2 (pc := 371) X (4294967295 : Int64) dL_law_371 wo_L_36 ?_
        refine aw_land (pc := 374) X dL_law_374 ?_
        refine aw_lor (pc := 375) X dL_law_375 ?_
        refine aw_aload_n (pc := 376) X 0 dL_law_376 rfl ?_
        refine aw_iload_n (pc := 377) X 3 dL_law_377 rfl ?_
        refine aw_iconst (pc := 378) X (3 : Int32) dL_law_378 (by decide) ?_
        refine aw_iadd (pc := 379) X dL_law_379 ?_
        refine aw_sld (pc := 380) hsL X hS dL_law_380 ?_
        refine cl_L_38 (pc := 381) X ⟨Nat.le_of_ble_eq_true rfl, Nat.le_of_ble_eq_true rfl⟩ (Nat.le_of_ble_eq_true rfl) (ks2 := ks) (sl2 := sl) rfl rfl ⟨(by have e0 : FU = 4096 := rfl; have c9 : room_1.cells = 600000 := rfl; have s9 : room_1.slots = 7302249 := rfl; omega), (by have e0 : FU = 4096 := rfl; have c9 : room_1.cells = 600000 := rfl; have s9 : room_1.slots = 7302249 := rfl; omega)⟩ dL_law_381 h_a1 (fun r45 M43 g44 => ?_)
        have h_a1 := h_a1.mono g44
        have h_a2 := h_a2.mono g44
        refine aw_aload_n (pc := 384) X 2 dL_law_384 rfl ?_
        refine aw_aload_n (pc := 385) X 0 dL_law_385 rfl ?_
        refine aw_iload_n (pc := 386) X 3 dL_law_386 rfl ?_
        refine aw_iconst (pc := 387) X (1 : Int32) dL_law_387 (by decide) ?_
        refine aw_iadd (pc := 388) X dL_law_388 ?_
        refine aw_sld (pc := 389) hsL X hS dL_law_389 ?_
        refine aw_i2l (pc := 390) X dL_law_390 ?_
        refine aw_bipush (pc := 391) X (32 : Int32) dL_law_391 (by decide) ?_
        refine aw_lshl (pc := 393) X dL_law_393 ?_
        refine aw_aload_n (pc := 394) X 0 dL_law_394 rfl ?_
        refine aw_iload_n (pc := 395) X 3 dL_law_395 rfl ?_
        refine aw_iconst (pc := 396) X (2 : Int32) dL_law_396 (by decide) ?_
        refine aw_iadd (pc := 397) X dL_law_397 ?_
        refine aw_sld (pc := 398) hsL X hS dL_law_398 ?_
        refine aw_i2l (pc := 399) X dL_law_399 ?_
        refine aw_ldc2 (pc := 400) X (4294967295 : Int64) dL_law_400 wo_L_36 ?_
        refine aw_land (pc := 403) X dL_law_403 ?_
        refine aw_lor (pc := 404) X dL_law_404 ?_
        refine aw_aload_n (pc := 405) X 0 dL_law_405 rfl ?_
        refine aw_iload_n (pc := 406) X 3 dL_law_406 rfl ?_
        refine aw_iconst (pc := 407) X (3 : Int32) dL_law_407 (by decide) ?_
        refine aw_iadd (pc := 408) X dL_law_408 ?_
        refine aw_sld (pc := 409) hsL X hS dL_law_409 ?_
        refine cl_L_42 (pc := 410) X ⟨Nat.le_of_ble_eq_true rfl, Nat.le_of_ble_eq_true rfl⟩ (Nat.le_of_ble_eq_true rfl) (ks2 := ks) (sl2 := sl) rfl rfl ⟨(by have e0 : FU = 4096 := rfl; have c9 : room_1.cells = 600000 := rfl; have s9 : room_1.slots = 7302249 := rfl; omega), (by have e0 : FU = 4096 := rfl; have c9 : room_1.cells = 600000 := rfl; have s9 : room_1.slots = 7302249 := rfl; omega)⟩ dL_law_410 h_a2 (fun r48 M46 g47 => ?_)
        have h_a1 := h_a1.mono g47
        have h_a2 := h_a2.mono g47
        refine aw_icmpeq (pc := 413) X 840 dL_law_413 (by decide) ?_ ?_
        · refine aw_sub [0, 1, 2, 3] rfl ?_
          exact t_L_law_L840 hsL X hS hr n (f_L_law_L18 (sxf xs) (nI sL) n) ih a1 a2 v3 M46 h_a1 h_a2 _ _ (by have e0 : FU = 4096 := rfl; have c9 : room_1.cells = 600000 := rfl; have s9 : room_1.slots = 7302249 := rfl; omega) (by have e0 : FU = 4096 := rfl; have c9 : room_1.cells = 600000 := rfl; have s9 : room_1.slots = 7302249 := rfl; omega)
        · refine aw_iconst (pc := 416) X (0 : Int32) dL_law_416 (by decide) ?_
          exact aw_lawret (pc := 417) X hr dL_law_417 (by have e0 : FU = 4096 := rfl; have c9 : room_1.cells = 600000 := rfl; have s9 : room_1.slots = 7302249 := rfl; omega) (by have e0 : FU = 4096 := rfl; have c9 : room_1.cells = 600000 := rfl; have s9 : room_1.slots = 7302249 := rfl; omega)
      refine aw_swIn (pc := 32) X (6 : Int32) 418 dL_law_32 (by decide) (by decide) rfl (by decide) ?_ (fun hn6 => ?_)
      · refine aw_aload_n (pc := 418) X 1 dL_law_418 rfl ?_
        refine cl_L_43 (pc := 419) X ⟨Nat.le_of_ble_eq_true rfl, Nat.le_of_ble_eq_true rfl⟩ (Nat.le_of_ble_eq_true rfl) (ks2 := ks) (sl2 := sl) rfl rfl ⟨(by have e0 : FU = 4096 := rfl; have c9 : room_1.cells = 600000 := rfl; have s9 : room_1.slots = 7302249 := rfl; omega), (by have e0 : FU = 4096 := rfl; have c9 : room_1.cells = 600000 := rfl; have s9 : room_1.slots = 7302249 := rfl; omega)⟩ dL_law_419 h_a1 (fun r51 M49 g50 => ?_)
        have h_a1 := h_a1.mono g50
        have h_a2 := h_a2.mono g50
        refine aw_aload_n (pc := 422) X 2 dL_law_422 rfl ?_
        refine cl_L_47 (pc := 423) X ⟨Nat.le_of_ble_eq_true rfl, Nat.le_of_ble_eq_true rfl⟩ (Nat.le_of_ble_eq_true rfl) (ks2 := ks) (sl2 := sl) rfl rfl ⟨(by have e0 : FU = 4096 := rfl; have c9 : room_1.cells = 600000 := rfl; have s9 : room_1.slots = 7302249 := rfl; omega), (by have e0 : FU = 4096 := rfl; have c9 : room_1.cells = 600000 := rfl; have s9 : room_1.slots = 7302249 := rfl; omega)⟩ dL_law_423 h_a2 (fun r54 M52 g53 => ?_)
        have h_a1 := h_a1.mono g53
        have h_a2 := h_a2.mono g53
        refine aw_icmpeq (pc := 426) X 840 dL_law_426 (by decide) ?_ ?_
        · refine aw_sub [0, 1, 2, 3] rfl ?_
          exact t_L_law_L840 hsL X hS hr n (f_L_law_L18 (sxf xs) (nI sL) n) ih a1 a2 v3 M52 h_a1 h_a2 _ _ (by have e0 : FU = 4096 := rfl; have c9 : room_1.cells = 600000 := rfl; have s9 : room_1.slots = 7302249 := rfl; omega) (by have e0 : FU = 4096 := rfl; have c9 : room_1.cells = 600000 := rfl; have s9 : room_1.slots = 7302249 := rfl; omega)
        · refine aw_iconst (pc := 429) X (0 : Int32) dL_law_429 (by decide) ?_
          exact aw_lawret (pc := 430) X hr dL_law_430 (by have e0 : FU = 4096 := rfl; have c9 : room_1.cells = 600000 := rfl; have s9 : room_1.slots = 7302249 := rfl; omega) (by have e0 : FU = 4096 := rfl; have c9 : room_1.cells = 600000 := rfl; have s9 : room_1.slots = 7302249 := rfl; omega)
      refine aw_swIn (pc := 32) X (7 : Int32) 431 dL_law_32 (by decide) (by decide) rfl (by decide) ?_ (fun hn7 => ?_)
      · refine aw_aload_n (pc := 431) X 1 dL_law_431 rfl ?_
        refine cl_L_48 (pc := 432) X ⟨Nat.le_of_ble_eq_true rfl, Nat.le_of_ble_eq_true rfl⟩ (Nat.le_of_ble_eq_true rfl) (ks2 := ks) (sl2 := sl) rfl rfl ⟨(by have e0 : FU = 4096 := rfl; have c9 : room_1.cells = 600000 := rfl; have s9 : room_1.slots = 7302249 := rfl; omega), (by have e0 : FU = 4096 := rfl; have c9 : room_1.cells = 600000 := rfl; have s9 : room_1.slots = 7302249 := rfl; omega)⟩ dL_law_432 h_a1 (fun r57 M55 g56 => ?_)
        have h_a1 := h_a1.mono g56
        have h_a2 := h_a2.mono g56
        refine aw_aload_n (pc := 435) X 2 dL_law_435 rfl ?_
        refine cl_L_51 (pc := 436) X ⟨Nat.le_of_ble_eq_true rfl, Nat.le_of_ble_eq_true rfl⟩ (Nat.le_of_ble_eq_true rfl) (ks2 := ks) (sl2 := sl) rfl rfl ⟨(by have e0 : FU = 4096 := rfl; have c9 : room_1.cells = 600000 := rfl; have s9 : room_1.slots = 7302249 := rfl; omega), (by have e0 : FU = 4096 := rfl; have c9 : room_1.cells = 600000 := rfl; have s9 : room_1.slots = 7302249 := rfl; omega)⟩ dL_law_436 h_a2 (fun r60 M58 g59 => ?_)
        have h_a1 := h_a1.mono g59
        have h_a2 := h_a2.mono g59
        refine aw_icmpeq (pc := 439) X 840 dL_law_439 (by decide) ?_ ?_
        · refine aw_sub [0, 1, 2, 3] rfl ?_
          exact t_L_law_L840 hsL X hS hr n (f_L_law_L18 (sxf xs) (nI sL) n) ih a1 a2 v3 M58 h_a1 h_a2 _ _ (by have e0 : FU = 4096 := rfl; have c9 : room_1.cells = 600000 := rfl; have s9 : room_1.slots = 7302249 := rfl; omega) (by have e0 : FU = 4096 := rfl; have c9 : room_1.cells = 600000 := rfl; have s9 : room_1.slots = 7302249 := rfl; omega)
        · refine aw_iconst (pc := 442) X (0 : Int32) dL_law_442 (by decide) ?_
          exact aw_lawret (pc := 443) X hr dL_law_443 (by have e0 : FU = 4096 := rfl; have c9 : room_1.cells = 600000 := rfl; have s9 : room_1.slots = 7302249 := rfl; omega) (by have e0 : FU = 4096 := rfl; have c9 : room_1.cells = 600000 := rfl; have s9 : room_1.slots = 7302249 := rfl; omega)
      refine aw_swIn (pc := 32) X (8 : Int32) 444 dL_law_32 (by decide) (by decide) rfl (by decide) ?_ (fun hn8 => ?_)
      · refine aw_aload_n (pc := 444) X 1 dL_law_444 rfl ?_
        refine cl_L_52 (pc := 445) X ⟨Nat.le_of_ble_eq_true rfl, Nat.le_of_ble_eq_true rfl⟩ (Nat.le_of_ble_eq_true rfl) (ks2 := ks) (sl2 := sl) rfl rfl ⟨(by have e0 : FU = 4096 := rfl; have c9 : room_1.cells = 600000 := rfl; have s9 : room_1.slots = 7302249 := rfl; omega), (by have e0 : FU = 4096 := rfl; have c9 : room_1.cells = 600000 := rfl; have s9 : room_1.slots = 7302249 := rfl; omega)⟩ dL_law_445 h_a1 (fun r63 M61 g62 => ?_)
        have h_a1 := h_a1.mono g62
        have h_a2 := h_a2.mono g62
        refine aw_aload_n (pc := 448) X 2 dL_law_448 rfl ?_
        refine cl_L_55 (pc := 449) X ⟨Nat.le_of_ble_eq_true rfl, Nat.le_of_ble_eq_true rfl⟩ (Nat.le_of_ble_eq_true rfl) (ks2 := ks) (sl2 := sl) rfl rfl ⟨(by have e0 : FU = 4096 := rfl; have c9 : room_1.cells = 600000 := rfl; have s9 : room_1.slots = 7302249 := rfl; omega), (by have e0 : FU = 4096 := rfl; have c9 : room_1.cells = 600000 := rfl; have s9 : room_1.slots = 7302249 := rfl; omega)⟩ dL_law_449 h_a2 (fun r66 M64 g65 => ?_)
        have h_a1 := h_a1.mono g65
        have h_a2 := h_a2.mono g65
        refine aw_icmpeq (pc := 452) X 840 dL_law_452 (by decide) ?_ ?_
        · refine aw_sub [0, 1, 2, 3] rfl ?_
          exact t_L_law_L840 hsL X hS hr n (f_L_law_L18 (sxf xs) (nI sL) n) ih a1 a2 v3 M64 h_a1 h_a2 _ _ (by have e0 : FU = 4096 := rfl; have c9 : room_1.cells = 600000 := rfl; have s9 : room_1.slots = 7302249 := rfl; omega) (by have e0 : FU = 4096 := rfl; have c9 : room_1.cells = 600000 := rfl; have s9 : room_1.slots = 7302249 := rfl; omega)
        · refine aw_iconst (pc := 455) X (0 : Int32) dL_law_455 (by decide) ?_
          exact aw_lawret (pc := 456) X hr dL_law_456 (by have e0 : FU = 4096 := rfl; have c9 : room_1.cells = 600000 := rfl; have s9 : room_1.slots = 7302249 := rfl; omega) (by have e0 : FU = 4096 := rfl; have c9 : room_1.cells = 600000 := rfl; have s9 : room_1.slots = 7302249 := rfl; omega)
      refine aw_swIn (pc := 32) X (9 : Int32) 457 dL_law_32 (by decide) (by decide) rfl (by decide) ?_ (fun hn9 => ?_)
      · refine aw_aload_n (pc := 457) X 1 dL_law_457 rfl ?_
        refine aw_aload_n (pc := 458) X 0 dL_law_458 rfl ?_
        refine aw_iload_n (pc := 459) X 3 dL_law_459 rfl ?_
        refine aw_iconst (pc := 460) X (1 : Int32) dL_law_460 (by decide) ?_
        refine aw_iadd (pc := 461) X dL_law_461 ?_
        refine aw_sld (pc := 462) hsL X hS dL_law_462 ?_
        refine cl_L_56 (pc := 463) X ⟨Nat.le_of_ble_eq_true rfl, Nat.le_of_ble_eq_true rfl⟩ (Nat.le_of_ble_eq_true rfl) (ks2 := ks) (sl2 := sl) rfl rfl ⟨(by have e0 : FU = 4096 := rfl; have c9 : room_1.cells = 600000 := rfl; have s9 : room_1.slots = 7302249 := rfl; omega), (by have e0 : FU = 4096 := rfl; have c9 : room_1.cells = 600000 := rfl; have s9 : room_1.slots = 7302249 := rfl; omega)⟩ dL_law_463 h_a1 (fun r69 M67 g68 => ?_)
        have h_a1 := h_a1.mono g68
        have h_a2 := h_a2.mono g68
        refine aw_aload_n (pc := 466) X 2 dL_law_466 rfl ?_
        refine aw_aload_n (pc := 467) X 0 dL_law_467 rfl ?_
        refine aw_iload_n (pc := 468) X 3 dL_law_468 rfl ?_
        refine aw_iconst (pc := 469) X (1 : Int32) dL_law_469 (by decide) ?_
        refine aw_iadd (pc := 470) X dL_law_470 ?_
        refine aw_sld (pc := 471) hsL X hS dL_law_471 ?_
        refine cl_L_59 (pc := 472) X ⟨Nat.le_of_ble_eq_true rfl, Nat.le_of_ble_eq_true rfl⟩ (Nat.le_of_ble_eq_true rfl) (ks2 := ks) (sl2 := sl) rfl rfl ⟨(by have e0 : FU = 4096 := rfl; have c9 : room_1.cells = 600000 := rfl; have s9 : room_1.slots = 7302249 := rfl; omega), (by have e0 : FU = 4096 := rfl; have c9 : room_1.cells = 600000 := rfl; have s9 : room_1.slots = 7302249 := rfl; omega)⟩ dL_law_472 h_a2 (fun r72 M70 g71 => ?_)
        have h_a1 := h_a1.mono g71
        have h_a2 := h_a2.mono g71
        refine aw_icmpeq (pc := 475) X 840 dL_law_475 (by decide) ?_ ?_
        · refine aw_sub [0, 1, 2, 3] rfl ?_
          exact t_L_law_L840 hsL X hS hr n (f_L_law_L18 (sxf xs) (nI sL) n) ih a1 a2 v3 M70 h_a1 h_a2 _ _ (by have e0 : FU = 4096 := rfl; have c9 : room_1.cells = 600000 := rfl; have s9 : room_1.slots = 7302249 := rfl; omega) (by have e0 : FU = 4096 := rfl; have c9 : room_1.cells = 600000 := rfl; have s9 : room_1.slots = 7302249 := rfl; omega)
        · refine aw_iconst (pc := 478) X (0 : Int32) dL_law_478 (by decide) ?_
          exact aw_lawret (pc := 479) X hr dL_law_479 (by have e0 : FU = 4096 := rfl; have c9 : room_1.cells = 600000 := rfl; have s9 : room_1.slots = 7302249 := rfl; omega) (by have e0 : FU = 4096 := rfl; have c9 : room_1.cells = 600000 := rfl; have s9 : room_1.slots = 7302249 := rfl; omega)
      refine aw_swIn (pc := 32) X (10 : Int32) 480 dL_law_32 (by decide) (by decide) rfl (by decide) ?_ (fun hn10 => ?_)
      · refine aw_aload_n (pc := 480) X 1 dL_law_480 rfl ?_
        refine aw_aload_n (pc := 481) X 0 dL_law_481 rfl ?_
        refine aw_iload_n (pc := 482) X 3 dL_law_482 rfl ?_
        refine aw_iconst (pc := 483) X (1 : Int32) dL_law_483 (by decide) ?_
        refine aw_iadd (pc := 484) X dL_law_484 ?_
        refine aw_sld (pc := 485) hsL X hS dL_law_485 ?_
        refine aw_aload_n (pc := 486) X 0 dL_law_486 rfl ?_
        refine aw_iload_n (pc := 487) X 3 dL_law_487 rfl ?_
        refine aw_iconst (pc := 488) X (2 : Int32) dL_law_488 (by decide) ?_
        refine aw_iadd (pc := 489) X dL_law_489 ?_
        refine aw_sld (pc := 490) hsL X hS dL_law_490 ?_
        refine aw_aload_n (pc := 491) X 0 dL_law_491 rfl ?_
        refine aw_iload_n (pc := 492) X 3 dL_law_492 rfl ?_
        refine aw_iconst (pc := 493) X (3 : Int32) dL_law_493 (by decide) ?_
        refine aw_iadd (pc := 494) X dL_law_494 ?_
        refine aw_sld (pc := 495) hsL X hS dL_law_495 ?_
        refine cl_L_60 (pc := 496) X ⟨Nat.le_of_ble_eq_true rfl, Nat.le_of_ble_eq_true rfl⟩ (Nat.le_of_ble_eq_true rfl) (ks2 := ks) (sl2 := sl) rfl rfl ⟨(by have e0 : FU = 4096 := rfl; have c9 : room_1.cells = 600000 := rfl; have s9 : room_1.slots = 7302249 := rfl; omega), (by have e0 : FU = 4096 := rfl; have c9 : room_1.cells = 600000 := rfl; have s9 : room_1.slots = 7302249 := rfl; omega)⟩ dL_law_496 h_a1 (fun r75 M73 g74 => ?_)
        have h_a1 := h_a1.mono g74
        have h_a2 := h_a2.mono g74
        refine aw_aload_n (pc := 499) X 2 dL_law_499 rfl ?_
        refine aw_aload_n (pc := 500) X 0 dL_law_500 rfl ?_
        refine aw_iload_n (pc := 501) X 3 dL_law_501 rfl ?_
        refine aw_iconst (pc := 502) X (1 : Int32) dL_law_502 (by decide) ?_
        refine aw_iadd (pc := 503) X dL_law_503 ?_
        refine aw_sld (pc := 504) hsL X hS dL_law_504 ?_
        refine aw_aload_n (pc := 505) X 0 dL_law_505 rfl ?_
        refine aw_iload_n (pc := 506) X 3 dL_law_506 rfl ?_
        refine aw_iconst (pc := 507) X (2 : Int32) dL_law_507 (by decide) ?_
        refine aw_iadd (pc := 508) X dL_law_508 ?_
        refine aw_sld (pc := 509) hsL X hS dL_law_509 ?_
        refine aw_aload_n (pc := 510) X 0 dL_law_510 rfl ?_
        refine aw_iload_n (pc := 511) X 3 dL_law_511 rfl ?_
        refine aw_iconst (pc := 512) X (3 : Int32) dL_law_512 (by decide) ?_
        refine aw_iadd (pc := 513) X dL_law_513 ?_
        refine aw_sld (pc := 514) hsL X hS dL_law_514 ?_
        refine cl_L_63 (pc := 515) X ⟨Nat.le_of_ble_eq_true rfl, Nat.le_of_ble_eq_true rfl⟩ (Nat.le_of_ble_eq_true rfl) (ks2 := ks) (sl2 := sl) rfl rfl ⟨(by have e0 : FU = 4096 := rfl; have c9 : room_1.cells = 600000 := rfl; have s9 : room_1.slots = 7302249 := rfl; omega), (by have e0 : FU = 4096 := rfl; have c9 : room_1.cells = 600000 := rfl; have s9 : room_1.slots = 7302249 := rfl; omega)⟩ dL_law_515 h_a2 (fun r78 M76 g77 => ?_)
        have h_a1 := h_a1.mono g77
        have h_a2 := h_a2.mono g77
        refine aw_icmpeq (pc := 518) X 840 dL_law_518 (by decide) ?_ ?_
        · refine aw_sub [0, 1, 2, 3] rfl ?_
          exact t_L_law_L840 hsL X hS hr n (f_L_law_L18 (sxf xs) (nI sL) n) ih a1 a2 v3 M76 h_a1 h_a2 _ _ (by have e0 : FU = 4096 := rfl; have c9 : room_1.cells = 600000 := rfl; have s9 : room_1.slots = 7302249 := rfl; omega) (by have e0 : FU = 4096 := rfl; have c9 : room_1.cells = 600000 := rfl; have s9 : room_1.slots = 7302249 := rfl; omega)
        · refine aw_iconst (pc := 521) X (0 : Int32) dL_law_521 (by decide) ?_
          exact aw_lawret (pc := 522) X hr dL_law_522 (by have e0 : FU = 4096 := rfl; have c9 : room_1.cells = 600000 := rfl; have s9 : room_1.slots = 7302249 := rfl; omega) (by have e0 : FU = 4096 := rfl; have c9 : room_1.cells = 600000 := rfl; have s9 : room_1.slots = 7302249 := rfl; omega)
      refine aw_swIn (pc := 32) X (11 : Int32) 523 dL_law_32 (by decide) (by decide) rfl (by decide) ?_ (fun hn11 => ?_)
      · refine aw_aload_n (pc := 523) X 1 dL_law_523 rfl ?_
        refine aw_aload_n (pc := 524) X 0 dL_law_524 rfl ?_
        refine aw_iload_n (pc := 525) X 3 dL_law_525 rfl ?_
        refine aw_iconst (pc := 526) X (1 : Int32) dL_law_526 (by decide) ?_
        refine aw_iadd (pc := 527) X dL_law_527 ?_
        refine aw_sld (pc := 528) hsL X hS dL_law_528 ?_
        refine aw_aload_n (pc := 529) X 0 dL_law_529 rfl ?_
        refine aw_iload_n (pc := 530) X 3 dL_law_530 rfl ?_
        refine aw_iconst (pc := 531) X (2 : Int32) dL_law_531 (by decide) ?_
        refine aw_iadd (pc := 532) X dL_law_532 ?_
        refine aw_sld (pc := 533) hsL X hS dL_law_533 ?_
        refine aw_aload_n (pc := 534) X 0 dL_law_534 rfl ?_
        refine aw_iload_n (pc := 535) X 3 dL_law_535 rfl ?_
        refine aw_iconst (pc := 536) X (3 : Int32) dL_law_536 (by decide) ?_
        refine aw_iadd (pc := 537) X dL_law_537 ?_
        refine aw_sld (pc := 538) hsL X hS dL_law_538 ?_
        refine cl_L_64 (pc := 539) X ⟨Nat.le_of_ble_eq_true rfl, Nat.le_of_ble_eq_true rfl⟩ (Nat.le_of_ble_eq_true rfl) (ks2 := ks) (sl2 := sl) rfl rfl ⟨(by have e0 : FU = 4096 := rfl; have c9 : room_1.cells = 600000 := rfl; have s9 : room_1.slots = 7302249 := rfl; omega), (by have e0 : FU = 4096 := rfl; have c9 : room_1.cells = 600000 := rfl; have s9 : room_1.slots = 7302249 := rfl; omega)⟩ dL_law_539 h_a1 (fun r81 M79 g80 => ?_)
        have h_a1 := h_a1.mono g80
        have h_a2 := h_a2.mono g80
        refine aw_aload_n (pc := 542) X 2 dL_law_542 rfl ?_
        refine aw_aload_n (pc := 543) X 0 dL_law_543 rfl ?_
        refine aw_iload_n (pc := 544) X 3 dL_law_544 rfl ?_
        refine aw_iconst (pc := 545) X (1 : Int32) dL_law_545 (by decide) ?_
        refine aw_iadd (pc := 546) X dL_law_546 ?_
        refine aw_sld (pc := 547) hsL X hS dL_law_547 ?_
        refine aw_aload_n (pc := 548) X 0 dL_law_548 rfl ?_
        refine aw_iload_n (pc := 549) X 3 dL_law_549 rfl ?_
        refine aw_iconst (pc := 550) X (2 : Int32) dL_law_550 (by decide) ?_
        refine aw_iadd (pc := 551) X dL_law_551 ?_
        refine aw_sld (pc := 552) hsL X hS dL_law_552 ?_
        refine aw_aload_n (pc := 553) X 0 dL_law_553 rfl ?_
        refine aw_iload_n (pc := 554) X 3 dL_law_554 rfl ?_
        refine aw_iconst (pc := 555) X (3 : Int32) dL_law_555 (by decide) ?_
        refine aw_iadd (pc := 556) X dL_law_556 ?_
        refine aw_sld (pc := 557) hsL X hS dL_law_557 ?_
        refine cl_L_67 (pc := 558) X ⟨Nat.le_of_ble_eq_true rfl, Nat.le_of_ble_eq_true rfl⟩ (Nat.le_of_ble_eq_true rfl) (ks2 := ks) (sl2 := sl) rfl rfl ⟨(by have e0 : FU = 4096 := rfl; have c9 : room_1.cells = 600000 := rfl; have s9 : room_1.slots = 7302249 := rfl; omega), (by have e0 : FU = 4096 := rfl; have c9 : room_1.cells = 600000 := rfl; have s9 : room_1.slots = 7302249 := rfl; omega)⟩ dL_law_558 h_a2 (fun r84 M82 g83 => ?_)
        have h_a1 := h_a1.mono g83
        have h_a2 := h_a2.mono g83
        refine aw_icmpeq (pc := 561) X 840 dL_law_561 (by decide) ?_ ?_
        · refine aw_sub [0, 1, 2, 3] rfl ?_
          exact t_L_law_L840 hsL X hS hr n (f_L_law_L18 (sxf xs) (nI sL) n) ih a1 a2 v3 M82 h_a1 h_a2 _ _ (by have e0 : FU = 4096 := rfl; have c9 : room_1.cells = 600000 := rfl; have s9 : room_1.slots = 7302249 := rfl; omega) (by have e0 : FU = 4096 := rfl; have c9 : room_1.cells = 600000 := rfl; have s9 : room_1.slots = 7302249 := rfl; omega)
        · refine aw_iconst (pc := 564) X (0 : Int32) dL_law_564 (by decide) ?_
          exact aw_lawret (pc := 565) X hr dL_law_565 (by have e0 : FU = 4096 := rfl; have c9 : room_1.cells = 600000 := rfl; have s9 : room_1.slots = 7302249 := rfl; omega) (by have e0 : FU = 4096 := rfl; have c9 : room_1.cells = 600000 := rfl; have s9 : room_1.slots = 7302249 := rfl; omega)
      refine aw_swIn (pc := 32) X (12 : Int32) 566 dL_law_32 (by decide) (by decide) rfl (by decide) ?_ (fun hn12 => ?_)
      · refine aw_aload_n (pc := 566) X 1 dL_law_566 rfl ?_
        refine aw_aload_n (pc := 567) X 0 dL_law_567 rfl ?_
        refine aw_iload_n (pc := 568) X 3 dL_law_568 rfl ?_
        refine aw_iconst (pc := 569) X (1 : Int32) dL_law_569 (by decide) ?_
        refine aw_iadd (pc := 570) X dL_law_570 ?_
        refine aw_sld (pc := 571) hsL X hS dL_law_571 ?_
        refine aw_aload_n (pc := 572) X 0 dL_law_572 rfl ?_
        refine aw_iload_n (pc := 573) X 3 dL_law_573 rfl ?_
        refine aw_iconst (pc := 574) X (2 : Int32) dL_law_574 (by decide) ?_
        refine aw_iadd (pc := 575) X dL_law_575 ?_
        refine aw_sld (pc := 576) hsL X hS dL_law_576 ?_
        refine aw_aload_n (pc := 577) X 0 dL_law_577 rfl ?_
        refine aw_iload_n (pc := 578) X 3 dL_law_578 rfl ?_
        refine aw_iconst (pc := 579) X (3 : Int32) dL_law_579 (by decide) ?_
        refine aw_iadd (pc := 580) X dL_law_580 ?_
        refine aw_sld (pc := 581) hsL X hS dL_law_581 ?_
        refine cl_L_68 (pc := 582) X ⟨Nat.le_of_ble_eq_true rfl, Nat.le_of_ble_eq_true rfl⟩ (Nat.le_of_ble_eq_true rfl) (ks2 := ks) (sl2 := sl) rfl rfl ⟨(by have e0 : FU = 4096 := rfl; have c9 : room_1.cells = 600000 := rfl; have s9 : room_1.slots = 7302249 := rfl; omega), (by have e0 : FU = 4096 := rfl; have c9 : room_1.cells = 600000 := rfl; have s9 : room_1.slots = 7302249 := rfl; omega)⟩ dL_law_582 h_a1 (fun r87 M85 g86 => ?_)
        have h_a1 := h_a1.mono g86
        have h_a2 := h_a2.mono g86
        refine aw_aload_n (pc := 585) X 2 dL_law_585 rfl ?_
        refine aw_aload_n (pc := 586) X 0 dL_law_586 rfl ?_
        refine aw_iload_n (pc := 587) X 3 dL_law_587 rfl ?_
        refine aw_iconst (pc := 588) X (1 : Int32) dL_law_588 (by decide) ?_
        refine aw_iadd (pc := 589) X dL_law_589 ?_
        refine aw_sld (pc := 590) hsL X hS dL_law_590 ?_
        refine aw_aload_n (pc := 591) X 0 dL_law_591 rfl ?_
        refine aw_iload_n (pc := 592) X 3 dL_law_592 rfl ?_
        refine aw_iconst (pc := 593) X (2 : Int32) dL_law_593 (by decide) ?_
        refine aw_iadd (pc := 594) X dL_law_594 ?_
        refine aw_sld (pc := 595) hsL X hS dL_law_595 ?_
        refine aw_aload_n (pc := 596) X 0 dL_law_596 rfl ?_
        refine aw_iload_n (pc := 597) X 3 dL_law_597 rfl ?_
        refine aw_iconst (pc := 598) X (3 : Int32) dL_law_598 (by decide) ?_
        refine aw_iadd (pc := 599) X dL_law_599 ?_
        refine aw_sld (pc := 600) hsL X hS dL_law_600 ?_
        refine cl_L_72 (pc := 601) X ⟨Nat.le_of_ble_eq_true rfl, Nat.le_of_ble_eq_true rfl⟩ (Nat.le_of_ble_eq_true rfl) (ks2 := ks) (sl2 := sl) rfl rfl ⟨(by have e0 : FU = 4096 := rfl; have c9 : room_1.cells = 600000 := rfl; have s9 : room_1.slots = 7302249 := rfl; omega), (by have e0 : FU = 4096 := rfl; have c9 : room_1.cells = 600000 := rfl; have s9 : room_1.slots = 7302249 := rfl; omega)⟩ dL_law_601 h_a2 (fun r90 M88 g89 => ?_)
        have h_a1 := h_a1.mono g89
        have h_a2 := h_a2.mono g89
        refine aw_lcmp (pc := 604) X dL_law_604 ?_
        refine aw_ifeq (pc := 605) X 840 dL_law_605 (by decide) ?_ ?_
        · refine aw_sub [0, 1, 2, 3] rfl ?_
          exact t_L_law_L840 hsL X hS hr n (f_L_law_L18 (sxf xs) (nI sL) n) ih a1 a2 v3 M88 h_a1 h_a2 _ _ (by have e0 : FU = 4096 := rfl; have c9 : room_1.cells = 600000 := rfl; have s9 : room_1.slots = 7302249 := rfl; omega) (by have e0 : FU = 4096 := rfl; have c9 : room_1.cells = 600000 := rfl; have s9 : room_1.slots = 7302249 := rfl; omega)
        · refine aw_iconst (pc := 608) X (0 : Int32) dL_law_608 (by decide) ?_
          exact aw_lawret (pc := 609) X hr dL_law_609 (by have e0 : FU = 4096 := rfl; have c9 : room_1.cells = 600000 := rfl; have s9 : room_1.slots = 7302249 := rfl; omega) (by have e0 : FU = 4096 := rfl; have c9 : room_1.cells = 600000 := rfl; have s9 : room_1.slots = 7302249 := rfl; omega)
      refine aw_swIn (pc := 32) X (13 : Int32) 610 dL_law_32 (by decide) (by decide) rfl (by decide) ?_ (fun hn13 => ?_)
      · refine aw_aload_n (pc := 610) X 1 dL_law_610 rfl ?_
        refine aw_aload_n (pc := 611) X 0 dL_law_611 rfl ?_
        refine aw_iload_n (pc := 612) X 3 dL_law_612 rfl ?_
        refine aw_iconst (pc := 613) X (1 : Int32) dL_law_613 (by decide) ?_
        refine aw_iadd (pc := 614) X dL_law_614 ?_
        refine aw_sld (pc := 615) hsL X hS dL_law_615 ?_
        refine cl_L_73 (pc := 616) X ⟨Nat.le_of_ble_eq_true rfl, Nat.le_of_ble_eq_true rfl⟩ (Nat.le_of_ble_eq_true rfl) (ks2 := ks) (sl2 := sl) rfl rfl ⟨(by have e0 : FU = 4096 := rfl; have c9 : room_1.cells = 600000 := rfl; have s9 : room_1.slots = 7302249 := rfl; omega), (by have e0 : FU = 4096 := rfl; have c9 : room_1.cells = 600000 := rfl; have s9 : room_1.slots = 7302249 := rfl; omega)⟩ dL_law_616 h_a1 (fun r93 M91 g92 => ?_)
        have h_a1 := h_a1.mono g92
        have h_a2 := h_a2.mono g92
        refine aw_aload_n (pc := 619) X 2 dL_law_619 rfl ?_
        refine aw_aload_n (pc := 620) X 0 dL_law_620 rfl ?_
        refine aw_iload_n (pc := 621) X 3 dL_law_621 rfl ?_
        refine aw_iconst (pc := 622) X (1 : Int32) dL_law_622 (by decide) ?_
        refine aw_iadd (pc := 623) X dL_law_623 ?_
        refine aw_sld (pc := 624) hsL X hS dL_law_624 ?_
        refine cl_L_76 (pc := 625) X ⟨Nat.le_of_ble_eq_true rfl, Nat.le_of_ble_eq_true rfl⟩ (Nat.le_of_ble_eq_true rfl) (ks2 := ks) (sl2 := sl) rfl rfl ⟨(by have e0 : FU = 4096 := rfl; have c9 : room_1.cells = 600000 := rfl; have s9 : room_1.slots = 7302249 := rfl; omega), (by have e0 : FU = 4096 := rfl; have c9 : room_1.cells = 600000 := rfl; have s9 : room_1.slots = 7302249 := rfl; omega)⟩ dL_law_625 h_a2 (fun r96 M94 g95 => ?_)
        have h_a1 := h_a1.mono g95
        have h_a2 := h_a2.mono g95
        refine aw_icmpeq (pc := 628) X 840 dL_law_628 (by decide) ?_ ?_
        · refine aw_sub [0, 1, 2, 3] rfl ?_
          exact t_L_law_L840 hsL X hS hr n (f_L_law_L18 (sxf xs) (nI sL) n) ih a1 a2 v3 M94 h_a1 h_a2 _ _ (by have e0 : FU = 4096 := rfl; have c9 : room_1.cells = 600000 := rfl; have s9 : room_1.slots = 7302249 := rfl; omega) (by have e0 : FU = 4096 := rfl; have c9 : room_1.cells = 600000 := rfl; have s9 : room_1.slots = 7302249 := rfl; omega)
        · refine aw_iconst (pc := 631) X (0 : Int32) dL_law_631 (by decide) ?_
          exact aw_lawret (pc := 632) X hr dL_law_632 (by have e0 : FU = 4096 := rfl; have c9 : room_1.cells = 600000 := rfl; have s9 : room_1.slots = 7302249 := rfl; omega) (by have e0 : FU = 4096 := rfl; have c9 : room_1.cells = 600000 := rfl; have s9 : room_1.slots = 7302249 := rfl; omega)
      refine aw_swIn (pc := 32) X (14 : Int32) 633 dL_law_32 (by decide) (by decide) rfl (by decide) ?_ (fun hn14 => ?_)
      · refine aw_aload_n (pc := 633) X 1 dL_law_633 rfl ?_
        refine aw_aload_n (pc := 634) X 0 dL_law_634 rfl ?_
        refine aw_iload_n (pc := 635) X 3 dL_law_635 rfl ?_
        refine aw_iconst (pc := 636) X (1 : Int32) dL_law_636 (by decide) ?_
        refine aw_iadd (pc := 637) X dL_law_637 ?_
        refine aw_sld (pc := 638) hsL X hS dL_law_638 ?_
        refine cl_L_77 (pc := 639) X ⟨Nat.le_of_ble_eq_true rfl, Nat.le_of_ble_eq_true rfl⟩ (Nat.le_of_ble_eq_true rfl) (ks2 := ks) (sl2 := sl) rfl rfl ⟨(by have e0 : FU = 4096 := rfl; have c9 : room_1.cells = 600000 := rfl; have s9 : room_1.slots = 7302249 := rfl; omega), (by have e0 : FU = 4096 := rfl; have c9 : room_1.cells = 600000 := rfl; have s9 : room_1.slots = 7302249 := rfl; omega)⟩ dL_law_639 h_a1 (fun r99 M97 g98 => ?_)
        have h_a1 := h_a1.mono g98
        have h_a2 := h_a2.mono g98
        refine aw_aload_n (pc := 642) X 2 dL_law_642 rfl ?_
        refine aw_aload_n (pc := 643) X 0 dL_law_643 rfl ?_
        refine aw_iload_n (pc := 644) X 3 dL_law_644 rfl ?_
        refine aw_iconst (pc := 645) X (1 : Int32) dL_law_645 (by decide) ?_
        refine aw_iadd (pc := 646) X dL_law_646 ?_
        refine aw_sld (pc := 647) hsL X hS dL_law_647 ?_
        refine cl_L_80 (pc := 648) X ⟨Nat.le_of_ble_eq_true rfl, Nat.le_of_ble_eq_true rfl⟩ (Nat.le_of_ble_eq_true rfl) (ks2 := ks) (sl2 := sl) rfl rfl ⟨(by have e0 : FU = 4096 := rfl; have c9 : room_1.cells = 600000 := rfl; have s9 : room_1.slots = 7302249 := rfl; omega), (by have e0 : FU = 4096 := rfl; have c9 : room_1.cells = 600000 := rfl; have s9 : room_1.slots = 7302249 := rfl; omega)⟩ dL_law_648 h_a2 (fun r102 M100 g101 => ?_)
        have h_a1 := h_a1.mono g101
        have h_a2 := h_a2.mono g101
        refine aw_icmpeq (pc := 651) X 840 dL_law_651 (by decide) ?_ ?_
        · refine aw_sub [0, 1, 2, 3] rfl ?_
          exact t_L_law_L840 hsL X hS hr n (f_L_law_L18 (sxf xs) (nI sL) n) ih a1 a2 v3 M100 h_a1 h_a2 _ _ (by have e0 : FU = 4096 := rfl; have c9 : room_1.cells = 600000 := rfl; have s9 : room_1.slots = 7302249 := rfl; omega) (by have e0 : FU = 4096 := rfl; have c9 : room_1.cells = 600000 := rfl; have s9 : room_1.slots = 7302249 := rfl; omega)
        · refine aw_iconst (pc := 654) X (0 : Int32) dL_law_654 (by decide) ?_
          exact aw_lawret (pc := 655) X hr dL_law_655 (by have e0 : FU = 4096 := rfl; have c9 : room_1.cells = 600000 := rfl; have s9 : room_1.slots = 7302249 := rfl; omega) (by have e0 : FU = 4096 := rfl; have c9 : room_1.cells = 600000 := rfl; have s9 : room_1.slots = 7302249 := rfl; omega)
      refine aw_swIn (pc := 32) X (15 : Int32) 656 dL_law_32 (by decide) (by decide) rfl (by decide) ?_ (fun hn15 => ?_)
      · refine aw_aload_n (pc := 656) X 1 dL_law_656 rfl ?_
        refine aw_aload_n (pc := 657) X 0 dL_law_657 rfl ?_
        refine aw_iload_n (pc := 658) X 3 dL_law_658 rfl ?_
        refine aw_iconst (pc := 659) X (1 : Int32) dL_law_659 (by decide) ?_
        refine aw_iadd (pc := 660) X dL_law_660 ?_
        refine aw_sld (pc := 661) hsL X hS dL_law_661 ?_
        refine cl_L_81 (pc := 662) X ⟨Nat.le_of_ble_eq_true rfl, Nat.le_of_ble_eq_true rfl⟩ (Nat.le_of_ble_eq_true rfl) (ks2 := ks) (sl2 := sl) rfl rfl ⟨(by have e0 : FU = 4096 := rfl; have c9 : room_1.cells = 600000 := rfl; have s9 : room_1.slots = 7302249 := rfl; omega), (by have e0 : FU = 4096 := rfl; have c9 : room_1.cells = 600000 := rfl; have s9 : room_1.slots = 7302249 := rfl; omega)⟩ dL_law_662 h_a1 (fun r105 M103 g104 => ?_)
        have h_a1 := h_a1.mono g104
        have h_a2 := h_a2.mono g104
        refine aw_aload_n (pc := 665) X 2 dL_law_665 rfl ?_
        refine aw_aload_n (pc := 666) X 0 dL_law_666 rfl ?_
        refine aw_iload_n (pc := 667) X 3 dL_law_667 rfl ?_
        refine aw_iconst (pc := 668) X (1 : Int32) dL_law_668 (by decide) ?_
        refine aw_iadd (pc := 669) X dL_law_669 ?_
        refine aw_sld (pc := 670) hsL X hS dL_law_670 ?_
        refine cl_L_84 (pc := 671) X ⟨Nat.le_of_ble_eq_true rfl, Nat.le_of_ble_eq_true rfl⟩ (Nat.le_of_ble_eq_true rfl) (ks2 := ks) (sl2 := sl) rfl rfl ⟨(by have e0 : FU = 4096 := rfl; have c9 : room_1.cells = 600000 := rfl; have s9 : room_1.slots = 7302249 := rfl; omega), (by have e0 : FU = 4096 := rfl; have c9 : room_1.cells = 600000 := rfl; have s9 : room_1.slots = 7302249 := rfl; omega)⟩ dL_law_671 h_a2 (fun r108 M106 g107 => ?_)
        have h_a1 := h_a1.mono g107
        have h_a2 := h_a2.mono g107
        refine aw_icmpeq (pc := 674) X 840 dL_law_674 (by decide) ?_ ?_
        · refine aw_sub [0, 1, 2, 3] rfl ?_
          exact t_L_law_L840 hsL X hS hr n (f_L_law_L18 (sxf xs) (nI sL) n) ih a1 a2 v3 M106 h_a1 h_a2 _ _ (by have e0 : FU = 4096 := rfl; have c9 : room_1.cells = 600000 := rfl; have s9 : room_1.slots = 7302249 := rfl; omega) (by have e0 : FU = 4096 := rfl; have c9 : room_1.cells = 600000 := rfl; have s9 : room_1.slots = 7302249 := rfl; omega)
        · refine aw_iconst (pc := 677) X (0 : Int32) dL_law_677 (by decide) ?_
          exact aw_lawret (pc := 678) X hr dL_law_678 (by have e0 : FU = 4096 := rfl; have c9 : room_1.cells = 600000 := rfl; have s9 : room_1.slots = 7302249 := rfl; omega) (by have e0 : FU = 4096 := rfl; have c9 : room_1.cells = 600000 := rfl; have s9 : room_1.slots = 7302249 := rfl; omega)
      refine aw_swIn (pc := 32) X (16 : Int32) 679 dL_law_32 (by decide) (by decide) rfl (by decide) ?_ (fun hn16 => ?_)
      · refine aw_aload_n (pc := 679) X 1 dL_law_679 rfl ?_
        refine cl_L_85 (pc := 680) X ⟨Nat.le_of_ble_eq_true rfl, Nat.le_of_ble_eq_true rfl⟩ (Nat.le_of_ble_eq_true rfl) (ks2 := ks) (sl2 := sl) rfl rfl ⟨(by have e0 : FU = 4096 := rfl; have c9 : room_1.cells = 600000 := rfl; have s9 : room_1.slots = 7302249 := rfl; omega), (by have e0 : FU = 4096 := rfl; have c9 : room_1.cells = 600000 := rfl; have s9 : room_1.slots = 7302249 := rfl; omega)⟩ dL_law_680 h_a1 (fun r111 M109 g110 => ?_)
        have h_a1 := h_a1.mono g110
        have h_a2 := h_a2.mono g110
        refine aw_aload_n (pc := 683) X 2 dL_law_683 rfl ?_
        refine cl_L_88 (pc := 684) X ⟨Nat.le_of_ble_eq_true rfl, Nat.le_of_ble_eq_true rfl⟩ (Nat.le_of_ble_eq_true rfl) (ks2 := ks) (sl2 := sl) rfl rfl ⟨(by have e0 : FU = 4096 := rfl; have c9 : room_1.cells = 600000 := rfl; have s9 : room_1.slots = 7302249 := rfl; omega), (by have e0 : FU = 4096 := rfl; have c9 : room_1.cells = 600000 := rfl; have s9 : room_1.slots = 7302249 := rfl; omega)⟩ dL_law_684 h_a2 (fun r114 M112 g113 => ?_)
        have h_a1 := h_a1.mono g113
        have h_a2 := h_a2.mono g113
        refine aw_icmpeq (pc := 687) X 840 dL_law_687 (by decide) ?_ ?_
        · refine aw_sub [0, 1, 2, 3] rfl ?_
          exact t_L_law_L840 hsL X hS hr n (f_L_law_L18 (sxf xs) (nI sL) n) ih a1 a2 v3 M112 h_a1 h_a2 _ _ (by have e0 : FU = 4096 := rfl; have c9 : room_1.cells = 600000 := rfl; have s9 : room_1.slots = 7302249 := rfl; omega) (by have e0 : FU = 4096 := rfl; have c9 : room_1.cells = 600000 := rfl; have s9 : room_1.slots = 7302249 := rfl; omega)
        · refine aw_iconst (pc := 690) X (0 : Int32) dL_law_690 (by decide) ?_
          exact aw_lawret (pc := 691) X hr dL_law_691 (by have e0 : FU = 4096 := rfl; have c9 : room_1.cells = 600000 := rfl; have s9 : room_1.slots = 7302249 := rfl; omega) (by have e0 : FU = 4096 := rfl; have c9 : room_1.cells = 600000 := rfl; have s9 : room_1.slots = 7302249 := rfl; omega)
      refine aw_swIn (pc := 32) X (17 : Int32) 692 dL_law_32 (by decide) (by decide) rfl (by decide) ?_ (fun hn17 => ?_)
      · refine aw_aload_n (pc := 692) X 1 dL_law_692 rfl ?_
        refine aw_aload_n (pc := 693) X 0 dL_law_693 rfl ?_
        refine aw_iload_n (pc := 694) X 3 dL_law_694 rfl ?_
        refine aw_iconst (pc := 695) X (1 : Int32) dL_law_695 (by decide) ?_
        refine aw_iadd (pc := 696) X dL_law_696 ?_
        refine aw_sld (pc := 697) hsL X hS dL_law_697 ?_
        refine cl_L_89 (pc := 698) X ⟨Nat.le_of_ble_eq_true rfl, Nat.le_of_ble_eq_true rfl⟩ (Nat.le_of_ble_eq_true rfl) (ks2 := ks) (sl2 := sl) rfl rfl ⟨(by have e0 : FU = 4096 := rfl; have c9 : room_1.cells = 600000 := rfl; have s9 : room_1.slots = 7302249 := rfl; omega), (by have e0 : FU = 4096 := rfl; have c9 : room_1.cells = 600000 := rfl; have s9 : room_1.slots = 7302249 := rfl; omega)⟩ dL_law_698 h_a1 (fun r117 M115 g116 => ?_)
        have h_a1 := h_a1.mono g116
        have h_a2 := h_a2.mono g116
        refine aw_aload_n (pc := 701) X 2 dL_law_701 rfl ?_
        refine aw_aload_n (pc := 702) X 0 dL_law_702 rfl ?_
        refine aw_iload_n (pc := 703) X 3 dL_law_703 rfl ?_
        refine aw_iconst (pc := 704) X (1 : Int32) dL_law_704 (by decide) ?_
        refine aw_iadd (pc := 705) X dL_law_705 ?_
        refine aw_sld (pc := 706) hsL X hS dL_law_706 ?_
        refine cl_L_92 (pc := 707) X ⟨Nat.le_of_ble_eq_true rfl, Nat.le_of_ble_eq_true rfl⟩ (Nat.le_of_ble_eq_true rfl) (ks2 := ks) (sl2 := sl) rfl rfl ⟨(by have e0 : FU = 4096 := rfl; have c9 : room_1.cells = 600000 := rfl; have s9 : room_1.slots = 7302249 := rfl; omega), (by have e0 : FU = 4096 := rfl; have c9 : room_1.cells = 600000 := rfl; have s9 : room_1.slots = 7302249 := rfl; omega)⟩ dL_law_707 h_a2 (fun r120 M118 g119 => ?_)
        have h_a1 := h_a1.mono g119
        have h_a2 := h_a2.mono g119
        refine aw_icmpeq (pc := 710) X 840 dL_law_710 (by decide) ?_ ?_
        · refine aw_sub [0, 1, 2, 3] rfl ?_
          exact t_L_law_L840 hsL X hS hr n (f_L_law_L18 (sxf xs) (nI sL) n) ih a1 a2 v3 M118 h_a1 h_a2 _ _ (by have e0 : FU = 4096 := rfl; have c9 : room_1.cells = 600000 := rfl; have s9 : room_1.slots = 7302249 := rfl; omega) (by have e0 : FU = 4096 := rfl; have c9 : room_1.cells = 600000 := rfl; have s9 : room_1.slots = 7302249 := rfl; omega)
        · refine aw_iconst (pc := 713) X (0 : Int32) dL_law_713 (by decide) ?_
          exact aw_lawret (pc := 714) X hr dL_law_714 (by have e0 : FU = 4096 := rfl; have c9 : room_1.cells = 600000 := rfl; have s9 : room_1.slots = 7302249 := rfl; omega) (by have e0 : FU = 4096 := rfl; have c9 : room_1.cells = 600000 := rfl; have s9 : room_1.slots = 7302249 := rfl; omega)
      refine aw_swIn (pc := 32) X (18 : Int32) 715 dL_law_32 (by decide) (by decide) rfl (by decide) ?_ (fun hn18 => ?_)
      · refine aw_aload_n (pc := 715) X 1 dL_law_715 rfl ?_
        refine aw_aload_n (pc := 716) X 0 dL_law_716 rfl ?_
        refine aw_iload_n (pc := 717) X 3 dL_law_717 rfl ?_
        refine aw_iconst (pc := 718) X (1 : Int32) dL_law_718 (by decide) ?_
        refine aw_iadd (pc := 719) X dL_law_719 ?_
        refine aw_sld (pc := 720) hsL X hS dL_law_720 ?_
        refine cl_L_93 (pc := 721) X ⟨Nat.le_of_ble_eq_true rfl, Nat.le_of_ble_eq_true rfl⟩ (Nat.le_of_ble_eq_true rfl) (ks2 := ks) (sl2 := sl) rfl rfl ⟨(by have e0 : FU = 4096 := rfl; have c9 : room_1.cells = 600000 := rfl; have s9 : room_1.slots = 7302249 := rfl; omega), (by have e0 : FU = 4096 := rfl; have c9 : room_1.cells = 600000 := rfl; have s9 : room_1.slots = 7302249 := rfl; omega)⟩ dL_law_721 h_a1 (fun r123 M121 g122 => ?_)
        have h_a1 := h_a1.mono g122
        have h_a2 := h_a2.mono g122
        refine aw_aload_n (pc := 724) X 2 dL_law_724 rfl ?_
        refine aw_aload_n (pc := 725) X 0 dL_law_725 rfl ?_
        refine aw_iload_n (pc := 726) X 3 dL_law_726 rfl ?_
        refine aw_iconst (pc := 727) X (1 : Int32) dL_law_727 (by decide) ?_
        refine aw_iadd (pc := 728) X dL_law_728 ?_
        refine aw_sld (pc := 729) hsL X hS dL_law_729 ?_
        refine cl_L_96 (pc := 730) X ⟨Nat.le_of_ble_eq_true rfl, Nat.le_of_ble_eq_true rfl⟩ (Nat.le_of_ble_eq_true rfl) (ks2 := ks) (sl2 := sl) rfl rfl ⟨(by have e0 : FU = 4096 := rfl; have c9 : room_1.cells = 600000 := rfl; have s9 : room_1.slots = 7302249 := rfl; omega), (by have e0 : FU = 4096 := rfl; have c9 : room_1.cells = 600000 := rfl; have s9 : room_1.slots = 7302249 := rfl; omega)⟩ dL_law_730 h_a2 (fun r126 M124 g125 => ?_)
        have h_a1 := h_a1.mono g125
        have h_a2 := h_a2.mono g125
        refine aw_icmpeq (pc := 733) X 840 dL_law_733 (by decide) ?_ ?_
        · refine aw_sub [0, 1, 2, 3] rfl ?_
          exact t_L_law_L840 hsL X hS hr n (f_L_law_L18 (sxf xs) (nI sL) n) ih a1 a2 v3 M124 h_a1 h_a2 _ _ (by have e0 : FU = 4096 := rfl; have c9 : room_1.cells = 600000 := rfl; have s9 : room_1.slots = 7302249 := rfl; omega) (by have e0 : FU = 4096 := rfl; have c9 : room_1.cells = 600000 := rfl; have s9 : room_1.slots = 7302249 := rfl; omega)
        · refine aw_iconst (pc := 736) X (0 : Int32) dL_law_736 (by decide) ?_
          exact aw_lawret (pc := 737) X hr dL_law_737 (by have e0 : FU = 4096 := rfl; have c9 : room_1.cells = 600000 := rfl; have s9 : room_1.slots = 7302249 := rfl; omega) (by have e0 : FU = 4096 := rfl; have c9 : room_1.cells = 600000 := rfl; have s9 : room_1.slots = 7302249 := rfl; omega)
      refine aw_swIn (pc := 32) X (19 : Int32) 738 dL_law_32 (by decide) (by decide) rfl (by decide) ?_ (fun hn19 => ?_)
      · refine aw_aload_n (pc := 738) X 1 dL_law_738 rfl ?_
        refine aw_aload_n (pc := 739) X 0 dL_law_739 rfl ?_
        refine aw_iload_n (pc := 740) X 3 dL_law_740 rfl ?_
        refine aw_iconst (pc := 741) X (1 : Int32) dL_law_741 (by decide) ?_
        refine aw_iadd (pc := 742) X dL_law_742 ?_
        refine aw_sld (pc := 743) hsL X hS dL_law_743 ?_
        refine cl_L_97 (pc := 744) X ⟨Nat.le_of_ble_eq_true rfl, Nat.le_of_ble_eq_true rfl⟩ (Nat.le_of_ble_eq_true rfl) (ks2 := ks) (sl2 := sl) rfl rfl ⟨(by have e0 : FU = 4096 := rfl; have c9 : room_1.cells = 600000 := rfl; have s9 : room_1.slots = 7302249 := rfl; omega), (by have e0 : FU = 4096 := rfl; have c9 : room_1.cells = 600000 := rfl; have s9 : room_1.slots = 7302249 := rfl; omega)⟩ dL_law_744 h_a1 (fun r129 M127 g128 => ?_)
        have h_a1 := h_a1.mono g128
        have h_a2 := h_a2.mono g128
        refine aw_aload_n (pc := 747) X 2 dL_law_747 rfl ?_
        refine aw_aload_n (pc := 748) X 0 dL_law_748 rfl ?_
        refine aw_iload_n (pc := 749) X 3 dL_law_749 rfl ?_
        refine aw_iconst (pc := 750) X (1 : Int32) dL_law_750 (by decide) ?_
        refine aw_iadd (pc := 751) X dL_law_751 ?_
        refine aw_sld (pc := 752) hsL X hS dL_law_752 ?_
        refine cl_L_100 (pc := 753) X ⟨Nat.le_of_ble_eq_true rfl, Nat.le_of_ble_eq_true rfl⟩ (Nat.le_of_ble_eq_true rfl) (ks2 := ks) (sl2 := sl) rfl rfl ⟨(by have e0 : FU = 4096 := rfl; have c9 : room_1.cells = 600000 := rfl; have s9 : room_1.slots = 7302249 := rfl; omega), (by have e0 : FU = 4096 := rfl; have c9 : room_1.cells = 600000 := rfl; have s9 : room_1.slots = 7302249 := rfl; omega)⟩ dL_law_753 h_a2 (fun r132 M130 g131 => ?_)
        have h_a1 := h_a1.mono g131
        have h_a2 := h_a2.mono g131
        refine aw_icmpeq (pc := 756) X 840 dL_law_756 (by decide) ?_ ?_
        · refine aw_sub [0, 1, 2, 3] rfl ?_
          exact t_L_law_L840 hsL X hS hr n (f_L_law_L18 (sxf xs) (nI sL) n) ih a1 a2 v3 M130 h_a1 h_a2 _ _ (by have e0 : FU = 4096 := rfl; have c9 : room_1.cells = 600000 := rfl; have s9 : room_1.slots = 7302249 := rfl; omega) (by have e0 : FU = 4096 := rfl; have c9 : room_1.cells = 600000 := rfl; have s9 : room_1.slots = 7302249 := rfl; omega)
        · refine aw_iconst (pc := 759) X (0 : Int32) dL_law_759 (by decide) ?_
          exact aw_lawret (pc := 760) X hr dL_law_760 (by have e0 : FU = 4096 := rfl; have c9 : room_1.cells = 600000 := rfl; have s9 : room_1.slots = 7302249 := rfl; omega) (by have e0 : FU = 4096 := rfl; have c9 : room_1.cells = 600000 := rfl; have s9 : room_1.slots = 7302249 := rfl; omega)
      refine aw_swIn (pc := 32) X (20 : Int32) 761 dL_law_32 (by decide) (by decide) rfl (by decide) ?_ (fun hn20 => ?_)
      · refine aw_aload_n (pc := 761) X 1 dL_law_761 rfl ?_
        refine aw_aload_n (pc := 762) X 0 dL_law_762 rfl ?_
        refine aw_iload_n (pc := 763) X 3 dL_law_763 rfl ?_
        refine aw_iconst (pc := 764) X (1 : Int32) dL_law_764 (by decide) ?_
        refine aw_iadd (pc := 765) X dL_law_765 ?_
        refine aw_sld (pc := 766) hsL X hS dL_law_766 ?_
        refine cl_L_101 (pc := 767) X ⟨Nat.le_of_ble_eq_true rfl, Nat.le_of_ble_eq_true rfl⟩ (Nat.le_of_ble_eq_true rfl) (ks2 := ks) (sl2 := sl) rfl rfl ⟨(by have e0 : FU = 4096 := rfl; have c9 : room_1.cells = 600000 := rfl; have s9 : room_1.slots = 7302249 := rfl; omega), (by have e0 : FU = 4096 := rfl; have c9 : room_1.cells = 600000 := rfl; have s9 : room_1.slots = 7302249 := rfl; omega)⟩ dL_law_767 h_a1 (fun r135 M133 g134 => ?_)
        have h_a1 := h_a1.mono g134
        have h_a2 := h_a2.mono g134
        refine aw_aload_n (pc := 770) X 2 dL_law_770 rfl ?_
        refine aw_aload_n (pc := 771) X 0 dL_law_771 rfl ?_
        refine aw_iload_n (pc := 772) X 3 dL_law_772 rfl ?_
        refine aw_iconst (pc := 773) X (1 : Int32) dL_law_773 (by decide) ?_
        refine aw_iadd (pc := 774) X dL_law_774 ?_
        refine aw_sld (pc := 775) hsL X hS dL_law_775 ?_
        refine cl_L_104 (pc := 776) X ⟨Nat.le_of_ble_eq_true rfl, Nat.le_of_ble_eq_true rfl⟩ (Nat.le_of_ble_eq_true rfl) (ks2 := ks) (sl2 := sl) rfl rfl ⟨(by have e0 : FU = 4096 := rfl; have c9 : room_1.cells = 600000 := rfl; have s9 : room_1.slots = 7302249 := rfl; omega), (by have e0 : FU = 4096 := rfl; have c9 : room_1.cells = 600000 := rfl; have s9 : room_1.slots = 7302249 := rfl; omega)⟩ dL_law_776 h_a2 (fun r138 M136 g137 => ?_)
        have h_a1 := h_a1.mono g137
        have h_a2 := h_a2.mono g137
        refine aw_icmpeq (pc := 779) X 840 dL_law_779 (by decide) ?_ ?_
        · refine aw_sub [0, 1, 2, 3] rfl ?_
          exact t_L_law_L840 hsL X hS hr n (f_L_law_L18 (sxf xs) (nI sL) n) ih a1 a2 v3 M136 h_a1 h_a2 _ _ (by have e0 : FU = 4096 := rfl; have c9 : room_1.cells = 600000 := rfl; have s9 : room_1.slots = 7302249 := rfl; omega) (by have e0 : FU = 4096 := rfl; have c9 : room_1.cells = 600000 := rfl; have s9 : room_1.slots = 7302249 := rfl; omega)
        · refine aw_iconst (pc := 782) X (0 : Int32) dL_law_782 (by decide) ?_
          exact aw_lawret (pc := 783) X hr dL_law_783 (by have e0 : FU = 4096 := rfl; have c9 : room_1.cells = 600000 := rfl; have s9 : room_1.slots = 7302249 := rfl; omega) (by have e0 : FU = 4096 := rfl; have c9 : room_1.cells = 600000 := rfl; have s9 : room_1.slots = 7302249 := rfl; omega)
      refine aw_swIn (pc := 32) X (21 : Int32) 784 dL_law_32 (by decide) (by decide) rfl (by decide) ?_ (fun hn21 => ?_)
      · refine aw_aload_n (pc := 784) X 1 dL_law_784 rfl ?_
        refine aw_aload_n (pc := 785) X 0 dL_law_785 rfl ?_
        refine aw_iload_n (pc := 786) X 3 dL_law_786 rfl ?_
        refine aw_iconst (pc := 787) X (1 : Int32) dL_law_787 (by decide) ?_
        refine aw_iadd (pc := 788) X dL_law_788 ?_
        refine aw_sld (pc := 789) hsL X hS dL_law_789 ?_
        refine aw_aload_n (pc := 790) X 0 dL_law_790 rfl ?_
        refine aw_iload_n (pc := 791) X 3 dL_law_791 rfl ?_
        refine aw_iconst (pc := 792) X (2 : Int32) dL_law_792 (by decide) ?_
        refine aw_iadd (pc := 793) X dL_law_793 ?_
        refine aw_sld (pc := 794) hsL X hS dL_law_794 ?_
        refine cl_L_105 (pc := 795) X ⟨Nat.le_of_ble_eq_true rfl, Nat.le_of_ble_eq_true rfl⟩ (Nat.le_of_ble_eq_true rfl) (ks2 := ks) (sl2 := sl) rfl rfl ⟨(by have e0 : FU = 4096 := rfl; have c9 : room_1.cells = 600000 := rfl; have s9 : room_1.slots = 7302249 := rfl; omega), (by have e0 : FU = 4096 := rfl; have c9 : room_1.cells = 600000 := rfl; have s9 : room_1.slots = 7302249 := rfl; omega)⟩ dL_law_795 h_a1 (fun r141 M139 g140 => ?_)
        have h_a1 := h_a1.mono g140
        have h_a2 := h_a2.mono g140
        refine aw_aload_n (pc := 798) X 2 dL_law_798 rfl ?_
        refine aw_aload_n (pc := 799) X 0 dL_law_799 rfl ?_
        refine aw_iload_n (pc := 800) X 3 dL_law_800 rfl ?_
        refine aw_iconst (pc := 801) X (1 : Int32) dL_law_801 (by decide) ?_
        refine aw_iadd (pc := 802) X dL_law_802 ?_
        refine aw_sld (pc := 803) hsL X hS dL_law_803 ?_
        refine aw_aload_n (pc := 804) X 0 dL_law_804 rfl ?_
        refine aw_iload_n (pc := 805) X 3 dL_law_805 rfl ?_
        refine aw_iconst (pc := 806) X (2 : Int32) dL_law_806 (by decide) ?_
        refine aw_iadd (pc := 807) X dL_law_807 ?_
        refine aw_sld (pc := 808) hsL X hS dL_law_808 ?_
        refine cl_L_109 (pc := 809) X ⟨Nat.le_of_ble_eq_true rfl, Nat.le_of_ble_eq_true rfl⟩ (Nat.le_of_ble_eq_true rfl) (ks2 := ks) (sl2 := sl) rfl rfl ⟨(by have e0 : FU = 4096 := rfl; have c9 : room_1.cells = 600000 := rfl; have s9 : room_1.slots = 7302249 := rfl; omega), (by have e0 : FU = 4096 := rfl; have c9 : room_1.cells = 600000 := rfl; have s9 : room_1.slots = 7302249 := rfl; omega)⟩ dL_law_809 h_a2 (fun r144 M142 g143 => ?_)
        have h_a1 := h_a1.mono g143
        have h_a2 := h_a2.mono g143
        refine aw_icmpeq (pc := 812) X 840 dL_law_812 (by decide) ?_ ?_
        · refine aw_sub [0, 1, 2, 3] rfl ?_
          exact t_L_law_L840 hsL X hS hr n (f_L_law_L18 (sxf xs) (nI sL) n) ih a1 a2 v3 M142 h_a1 h_a2 _ _ (by have e0 : FU = 4096 := rfl; have c9 : room_1.cells = 600000 := rfl; have s9 : room_1.slots = 7302249 := rfl; omega) (by have e0 : FU = 4096 := rfl; have c9 : room_1.cells = 600000 := rfl; have s9 : room_1.slots = 7302249 := rfl; omega)
        · refine aw_iconst (pc := 815) X (0 : Int32) dL_law_815 (by decide) ?_
          exact aw_lawret (pc := 816) X hr dL_law_816 (by have e0 : FU = 4096 := rfl; have c9 : room_1.cells = 600000 := rfl; have s9 : room_1.slots = 7302249 := rfl; omega) (by have e0 : FU = 4096 := rfl; have c9 : room_1.cells = 600000 := rfl; have s9 : room_1.slots = 7302249 := rfl; omega)
      refine aw_swIn (pc := 32) X (22 : Int32) 817 dL_law_32 (by decide) (by decide) rfl (by decide) ?_ (fun hn22 => ?_)
      · refine aw_aload_n (pc := 817) X 1 dL_law_817 rfl ?_
        refine aw_aload_n (pc := 818) X 0 dL_law_818 rfl ?_
        refine aw_iload_n (pc := 819) X 3 dL_law_819 rfl ?_
        refine aw_iconst (pc := 820) X (1 : Int32) dL_law_820 (by decide) ?_
        refine aw_iadd (pc := 821) X dL_law_821 ?_
        refine aw_sld (pc := 822) hsL X hS dL_law_822 ?_
        refine cl_L_110 (pc := 823) X ⟨Nat.le_of_ble_eq_true rfl, Nat.le_of_ble_eq_true rfl⟩ (Nat.le_of_ble_eq_true rfl) (ks2 := ks) (sl2 := sl) rfl rfl ⟨(by have e0 : FU = 4096 := rfl; have c9 : room_1.cells = 600000 := rfl; have s9 : room_1.slots = 7302249 := rfl; omega), (by have e0 : FU = 4096 := rfl; have c9 : room_1.cells = 600000 := rfl; have s9 : room_1.slots = 7302249 := rfl; omega)⟩ dL_law_823 h_a1 (fun r147 M145 g146 => ?_)
        have h_a1 := h_a1.mono g146
        have h_a2 := h_a2.mono g146
        refine aw_aload_n (pc := 826) X 2 dL_law_826 rfl ?_
        refine aw_aload_n (pc := 827) X 0 dL_law_827 rfl ?_
        refine aw_iload_n (pc := 828) X 3 dL_law_828 rfl ?_
        refine aw_iconst (pc := 829) X (1 : Int32) dL_law_829 (by decide) ?_
        refine aw_iadd (pc := 830) X dL_law_830 ?_
        refine aw_sld (pc := 831) hsL X hS dL_law_831 ?_
        refine cl_L_113 (pc := 832) X ⟨Nat.le_of_ble_eq_true rfl, Nat.le_of_ble_eq_true rfl⟩ (Nat.le_of_ble_eq_true rfl) (ks2 := ks) (sl2 := sl) rfl rfl ⟨(by have e0 : FU = 4096 := rfl; have c9 : room_1.cells = 600000 := rfl; have s9 : room_1.slots = 7302249 := rfl; omega), (by have e0 : FU = 4096 := rfl; have c9 : room_1.cells = 600000 := rfl; have s9 : room_1.slots = 7302249 := rfl; omega)⟩ dL_law_832 h_a2 (fun r150 M148 g149 => ?_)
        have h_a1 := h_a1.mono g149
        have h_a2 := h_a2.mono g149
        refine aw_icmpeq (pc := 835) X 840 dL_law_835 (by decide) ?_ ?_
        · refine aw_sub [0, 1, 2, 3] rfl ?_
          exact t_L_law_L840 hsL X hS hr n (f_L_law_L18 (sxf xs) (nI sL) n) ih a1 a2 v3 M148 h_a1 h_a2 _ _ (by have e0 : FU = 4096 := rfl; have c9 : room_1.cells = 600000 := rfl; have s9 : room_1.slots = 7302249 := rfl; omega) (by have e0 : FU = 4096 := rfl; have c9 : room_1.cells = 600000 := rfl; have s9 : room_1.slots = 7302249 := rfl; omega)
        · refine aw_iconst (pc := 838) X (0 : Int32) dL_law_838 (by decide) ?_
          exact aw_lawret (pc := 839) X hr dL_law_839 (by have e0 : FU = 4096 := rfl; have c9 : room_1.cells = 600000 := rfl; have s9 : room_1.slots = 7302249 := rfl; omega) (by have e0 : FU = 4096 := rfl; have c9 : room_1.cells = 600000 := rfl; have s9 : room_1.slots = 7302249 := rfl; omega)
      refine aw_swOut (pc := 32) X 840 dL_law_32 (by have e0 := sw_ne (z := 0) hn0 rfl; have e1 := sw_ne (z := 1) hn1 rfl; have e2 := sw_ne (z := 2) hn2 rfl; have e3 := sw_ne (z := 3) hn3 rfl; have e4 := sw_ne (z := 4) hn4 rfl; have e5 := sw_ne (z := 5) hn5 rfl; have e6 := sw_ne (z := 6) hn6 rfl; have e7 := sw_ne (z := 7) hn7 rfl; have e8 := sw_ne (z := 8) hn8 rfl; have e9 := sw_ne (z := 9) hn9 rfl; have e10 := sw_ne (z := 10) hn10 rfl; have e11 := sw_ne (z := 11) hn11 rfl; have e12 := sw_ne (z := 12) hn12 rfl; have e13 := sw_ne (z := 13) hn13 rfl; have e14 := sw_ne (z := 14) hn14 rfl; have e15 := sw_ne (z := 15) hn15 rfl; have e16 := sw_ne (z := 16) hn16 rfl; have e17 := sw_ne (z := 17) hn17 rfl; have e18 := sw_ne (z := 18) hn18 rfl; have e19 := sw_ne (z := 19) hn19 rfl; have e20 := sw_ne (z := 20) hn20 rfl; have e21 := sw_ne (z := 21) hn21 rfl; have e22 := sw_ne (z := 22) hn22 rfl; omega) (by decide) ?_
      refine aw_sub [0, 1, 2, 3] rfl ?_
      exact t_L_law_L840 hsL X hS hr n (f_L_law_L18 (sxf xs) (nI sL) n) ih a1 a2 v3 M h_a1 h_a2 _ _ (by have e0 : FU = 4096 := rfl; have c9 : room_1.cells = 600000 := rfl; have s9 : room_1.slots = 7302249 := rfl; omega) (by have e0 : FU = 4096 := rfl; have c9 : room_1.cells = 600000 := rfl; have s9 : room_1.slots = 7302249 := rfl; omega)
def f_L_law (sx : Int32 → Int32) (sN : Int32) (M : JM) : Option (Int32 × JM) := if shp (gn M) = (0, 7) then (sq (al M) fun M1 => ob (f_X7_init (gn M) M1) fun _ M4 => if shp (gn M4) = (0, 8) then (sq (al M4) fun M6 => ob (f_X8_init (gn M4) M6) fun _ M9 => sv (0 : Int32) fun i11 => f_L_law_L18 sx sN FU (gn M) (gn M4) i11 M9) else none) else none
set_option maxRecDepth 10000 in
set_option maxHeartbeats 4000000 in
theorem t_L_law {p : Program} {l : Launch} {e : Env} {s : State} {m : MethodId} {below : List Frame} {meth : Method} {c : Code} {D : va_G} {cs : JC} {bs sL : Nat} {xs : Nat → Int32} (hsL : sL ≤ 2560) (X : jX p c code 4 s m #[Value.ref bs] RL D cs s.heap.size meth s.heap) (hS : lawS bs sL xs s) (hr : meth.sig.returnType = ret) (M : JM) : AWO p l e room_1 s m #[Value.ref bs] below meth c D cs s.heap.size 4 s.heap (lawQ below bs s) (f_L_law (sxf xs) (nI sL) M) M 0 0 [(0, .ref bs)] 0 [] := by
  refine aw_callq (F' := if shp (gn M) = (0, 7) then (sq (al M) fun M1 => ob (f_X7_init (gn M) M1) fun _ M4 => if shp (gn M4) = (0, 8) then (sq (al M4) fun M6 => ob (f_X8_init (gn M4) M6) fun _ M9 => sv (0 : Int32) fun i11 => f_L_law_L18 (sxf xs) (nI sL) FU (gn M) (gn M4) i11 M9) else none) else none) rfl ?_
  refine nwo_L_7 (pc := 0) X (by have e0 : FU = 4096 := rfl; have c9 : room_1.cells = 600000 := rfl; have s9 : room_1.slots = 7302249 := rfl; omega) (by have e0 : FU = 4096 := rfl; have c9 : room_1.cells = 600000 := rfl; have s9 : room_1.slots = 7302249 := rfl; omega) dL_law_0 (fun M1 g2 h_r3 => ?_)
  refine aw_dup_a (pc := 3) X dL_law_3 ?_
  refine cl_L_9 (pc := 4) X ⟨Nat.le_of_ble_eq_true rfl, Nat.le_of_ble_eq_true rfl⟩ (Nat.le_of_ble_eq_true rfl) (ks2 := ((0 + 1) + 4166)) (sl2 := ((0 + 10) + 44746)) rfl rfl ⟨(by have e0 : FU = 4096 := rfl; have c9 : room_1.cells = 600000 := rfl; have s9 : room_1.slots = 7302249 := rfl; omega), (by have e0 : FU = 4096 := rfl; have c9 : room_1.cells = 600000 := rfl; have s9 : room_1.slots = 7302249 := rfl; omega)⟩ dL_law_4 h_r3 (fun M4 g5 => ?_)
  have h_r3 := h_r3.mono g5
  refine aw_astore_n (pc := 7) X [(1, .ref (s.heap.size + (gn M))), (0, .ref bs)] dL_law_7 (by decide) rfl ?_
  refine nwo_L_10 (pc := 8) X (by have e0 : FU = 4096 := rfl; have c9 : room_1.cells = 600000 := rfl; have s9 : room_1.slots = 7302249 := rfl; omega) (by have e0 : FU = 4096 := rfl; have c9 : room_1.cells = 600000 := rfl; have s9 : room_1.slots = 7302249 := rfl; omega) dL_law_8 (fun M6 g7 h_r8 => ?_)
  have h_r3 := h_r3.mono g7
  refine aw_dup_a (pc := 11) X dL_law_11 ?_
  refine cl_L_12 (pc := 12) X ⟨Nat.le_of_ble_eq_true rfl, Nat.le_of_ble_eq_true rfl⟩ (Nat.le_of_ble_eq_true rfl) (ks2 := ((((0 + 1) + 4166) + 1) + 28)) (sl2 := ((((0 + 10) + 44746) + 46) + 3893)) rfl rfl ⟨(by have e0 : FU = 4096 := rfl; have c9 : room_1.cells = 600000 := rfl; have s9 : room_1.slots = 7302249 := rfl; omega), (by have e0 : FU = 4096 := rfl; have c9 : room_1.cells = 600000 := rfl; have s9 : room_1.slots = 7302249 := rfl; omega)⟩ dL_law_12 h_r8 (fun M9 g10 => ?_)
  have h_r3 := h_r3.mono g10
  have h_r8 := h_r8.mono g10
  refine aw_astore_n (pc := 15) X [(2, .ref (s.heap.size + (gn M4))), (1, .ref (s.heap.size + (gn M))), (0, .ref bs)] dL_law_15 (by decide) rfl ?_
  refine aw_iconst (pc := 16) X (0 : Int32) dL_law_16 (by decide) ?_
  refine aw_istoreV_n (pc := 17) X (fun y => [(3, .int y), (2, .ref (s.heap.size + (gn M4))), (1, .ref (s.heap.size + (gn M))), (0, .ref bs)]) dL_law_17 (by decide) (fun _ => rfl) (fun i11 => ?_)
  refine aw_sub [3, 2, 1, 0] rfl ?_
  exact t_L_law_L18 hsL X hS hr FU (gn M) (gn M4) i11 M9 h_r3 h_r8 _ _ (by have e0 : FU = 4096 := rfl; have c9 : room_1.cells = 600000 := rfl; have s9 : room_1.slots = 7302249 := rfl; omega) (by have e0 : FU = 4096 := rfl; have c9 : room_1.cells = 600000 := rfl; have s9 : room_1.slots = 7302249 := rfl; omega)
