/-! rows of the memory machine: new cells, copies, ends, calls -/
section ROWS3
variable {ρ : Type} {p : Program} {l : Launch} {e : Env} {R : Room} {s : State} {m : MethodId} {args : Array Value} {below : List Frame} {meth : Method} {c : Code} {D : va_G} {cs : JC} {b nL : Nat} {H0 : Heap} {Qf : ρ × JM → State → Prop} {F : Option (ρ × JM)} {M : JM} {ks sl : Nat} {lv lv' : List (Nat × Value)} {pc : Nat} {st : List Value} {cc : ByteArray} {own : String}
variable {C : String} {T : u_T} {N ci index k : Nat}
theorem va_S.old {A : Nat → Prop} {H0 H H1 : Heap} {locs : List Loc} (h : va_S A H0 H locs) (z : H.size ≤ H1.size) (oq : ∀ q : Nat, q < H.size → H1[q]? = H[q]?) : va_S A H0 H1 locs := ⟨Nat.le_trans h.1 z, fun x h1 h2 => (oq x (Nat.lt_of_lt_of_le h1 h.1)).trans (h.2.1 x h1 h2), h.2.2⟩
theorem aw_new (X : jX p c cc nL s m args own D cs b meth H0) (hc : vwCl[ci]? = some (C, T, N)) (hin : ∀ w ∈ u_ws C T N, w ∈ GB) (ty0 : Nat → FieldType) (hty : ∀ k, k < N → parseFieldDescriptor (T k).2.2.1 = some (ty0 k)) (hN : (fty ci).length = N) (hfs : ∀ j, j < N → defaultValue (ty0 j) = if (fty ci)[j]?.getD 0 = 0 then .int 0 else .null) (hcl : Cond.classLink own index C ∈ GB) (hinst : Cond.instantiable C N ∈ GB) (hini : Cond.initialized C ∈ GB) (hcells : ks + 1 ≤ R.cells) (hslots : sl + N ≤ R.slots) (hdg : decode cc pc = .ok (.new index, 3))
    (kk : oty (al M) (gn M) (10 + ci) → AWO p l e R s m args below meth c D cs b nL H0 Qf F (al M) (ks + 1) (sl + N) lv (pc + 3) (.ref (b + gn M) :: st)) : AWO p l e R s m args below meth c D cs b nL H0 Qf (if shp (gn M) = (0, ci) then F else none) M ks sl lv pc st := fun r hr H L ls h1 h2 h3 => by
  by_cases hs : shp (gn M) = (0, ci)
  · rw [if_pos hs] at hr
    have hK := X.2.2.2.2.2.1.1
    have hKn := hK.1 ci _ hc
    have htc : tc (shp (gn M)) = 10 + ci := by rw [hs]; rfl
    refine W.newcK X.1 X.2.1 X.2.2.2.2.1 (X.2.2.2.1 _ hcl) (X.2.2.2.1 _ hinst) (X.2.2.2.1 _ hini) rfl hdg hcells hslots hKn.2.1 h1.1 fun H1 kC hkC e1 z1 o1 => ?_
    have o2 : ∀ q : Nat, q < H.size → H1[q]? = H[q]? := fun q hq => o1 q (by rw [← h1.1]; exact hq)
    refine kk ⟨by rw [gn_al]; omega, htc⟩ r hr H1 L ls (h1.new (by rw [z1, h1.1]) o2 ?_) (h2.old (by rw [z1, h1.1]; omega) o2) h3
    rw [ent_obj htc]
    refine ⟨_, hc, (u_born ty0 X.2.2.2.1 hin hKn hkC e1 hty).to fun j hj => ?_⟩
    rw [hfs j hj]
    show _ = (fldV b (al M) (gn M) (fty ci)).getD j .null
    rw [List.getD_eq_getElem?_getD, fldV_get (by rw [hN]; exact hj), gi_al, gr_al, if_pos rfl, if_pos rfl]
    rfl
  · rw [if_neg hs] at hr; cases hr
theorem jarr {U : State} {cA cB : ClassId} {t : FieldType} (h : U.vm.findClass ("[" ++ t.toString) = some cA) (h2 : U.vm.findClass ("[" ++ t.toString) = some cB) : cA = cB := Option.some.inj (h.symm.trans h2)
theorem aw_newI (X : jX p c cc nL s m args own D cs b meth H0) {N' : Nat} {v : Int32} (hv : ¬ v < 0) (hN : v.toNatClampNeg = N') (hb4 : N' * 4 ≤ 536870912) (hcells : ks + 1 ≤ R.cells) (hslots : sl + N' ≤ R.slots) (hw : Cond.arrayClass .int ∈ GB) (hdg : decode cc pc = .ok (.newarray .int, 2))
    (kk : oty (al M) (gn M) 1 → AWO p l e R s m args below meth c D cs b nL H0 Qf F (al M) (ks + 1) (sl + N') lv (pc + 2) (.ref (b + gn M) :: st)) : AWO p l e R s m args below meth c D cs b nL H0 Qf (if shp (gn M) = (1, N') then F else none) M ks sl lv pc (.int v :: st) := fun r hr H L ls h1 h2 h3 => by
  by_cases hs : shp (gn M) = (1, N')
  · rw [if_pos hs] at hr
    have hK := X.2.2.2.2.2.1.1
    have htc : tc (shp (gn M)) = 1 := by rw [hs]; rfl
    refine va_newaK X.1 X.2.1 (atype := .int) (X.2.2.2.1 _ hw) rfl hdg rfl hv hN hb4 hcells hslots h1.1 fun H1 cA e1 z1 o1 hAr hNm => ?_
    have hcA : cA = cs.1 := jarr (t := .int) hNm (hK.2 0 _ rfl).2
    subst hcA
    have o2 : ∀ q : Nat, q < H.size → H1[q]? = H[q]? := fun q hq => o1 q (by rw [← h1.1]; exact hq)
    refine kk ⟨by rw [gn_al]; omega, htc⟩ r hr H1 L ls (h1.new (by rw [z1, h1.1]) o2 ?_) (h2.old (by rw [z1, h1.1]; omega) o2) h3
    rw [ent_int htc]
    show H1[b + gn M]? = some (vp_cell _ _)
    rw [vp_cell_i, hs, e1]
    refine congrArg some (arrV_congr fun j _ => ?_)
    rw [gi_al, if_pos rfl]
    rfl
  · rw [if_neg hs] at hr; cases hr
theorem aw_newZ (X : jX p c cc nL s m args own D cs b meth H0) {N' : Nat} {v : Int32} (hv : ¬ v < 0) (hN : v.toNatClampNeg = N') (hb4 : N' * 1 ≤ 536870912) (hcells : ks + 1 ≤ R.cells) (hslots : sl + N' ≤ R.slots) (hw : Cond.arrayClass .boolean ∈ GB) (hdg : decode cc pc = .ok (.newarray .boolean, 2))
    (kk : oty (al M) (gn M) 2 → AWO p l e R s m args below meth c D cs b nL H0 Qf F (al M) (ks + 1) (sl + N') lv (pc + 2) (.ref (b + gn M) :: st)) : AWO p l e R s m args below meth c D cs b nL H0 Qf (if shp (gn M) = (2, N') then F else none) M ks sl lv pc (.int v :: st) := fun r hr H L ls h1 h2 h3 => by
  by_cases hs : shp (gn M) = (2, N')
  · rw [if_pos hs] at hr
    have hK := X.2.2.2.2.2.1.1
    have htc : tc (shp (gn M)) = 2 := by rw [hs]; rfl
    refine va_newaK X.1 X.2.1 (atype := .boolean) (X.2.2.2.1 _ hw) rfl hdg rfl hv hN hb4 hcells hslots h1.1 fun H1 cA e1 z1 o1 hAr hNm => ?_
    have hcA : cA = cs.2.1 := jarr (t := .boolean) hNm (hK.2 1 _ rfl).2
    subst hcA
    have o2 : ∀ q : Nat, q < H.size → H1[q]? = H[q]? := fun q hq => o1 q (by rw [← h1.1]; exact hq)
    refine kk ⟨by rw [gn_al]; omega, htc⟩ r hr H1 L ls (h1.new (by rw [z1, h1.1]) o2 ?_) (h2.old (by rw [z1, h1.1]; omega) o2) h3
    rw [ent_bool htc]
    show H1[b + gn M]? = some (vp_cell _ _)
    rw [vp_cell_i, hs, e1]
    refine congrArg some (arrV_congr fun j _ => ?_)
    rw [gi_al, if_pos rfl]
    rfl
  · rw [if_neg hs] at hr; cases hr
theorem aw_newC (X : jX p c cc nL s m args own D cs b meth H0) {N' : Nat} {v : Int32} (hv : ¬ v < 0) (hN : v.toNatClampNeg = N') (hb4 : N' * 4 ≤ 536870912) (hcells : ks + 1 ≤ R.cells) (hslots : sl + N' ≤ R.slots) (hcl : Cond.classLink own index RX1 ∈ GB) (hdg : decode cc pc = .ok (.anewarray index, 3))
    (kk : oty (al M) (gn M) 3 → AWO p l e R s m args below meth c D cs b nL H0 Qf F (al M) (ks + 1) (sl + N') lv (pc + 3) (.ref (b + gn M) :: st)) : AWO p l e R s m args below meth c D cs b nL H0 Qf (if shp (gn M) = (3, N') then F else none) M ks sl lv pc (.int v :: st) := fun r hr H L ls h1 h2 h3 => by
  by_cases hs : shp (gn M) = (3, N')
  · rw [if_pos hs] at hr
    have hK := X.2.2.2.2.2.1.1
    have htc : tc (shp (gn M)) = 3 := by rw [hs]; rfl
    subst hN
    refine W.anew X.1 X.2.1 X.2.2.2.2.1 (X.2.2.2.1 _ hcl) (va_AO.use X.2.2.2.2.2.1.2.2.2.1) rfl hdg rfl hv hb4 hcells hslots fun cA kA comp f1 f2 f3 f4 => ?_
    generalize hH1 : H.push ({ cls := cA, slots := Array.replicate v.toNatClampNeg .null, vm := .none } : Cell) = H1
    have z1 : H1.size = H.size + 1 := by rw [← hH1, Array.size_push]
    have e1 : H1[H.size]? = some (arrV cA v.toNatClampNeg (fun _ => .null)) := by rw [← hH1, Array.getElem?_push_size, ← arrV_new]
    have o1 : ∀ q : Nat, q < H.size → H1[q]? = H[q]? := fun q hq => by rw [← hH1, Array.getElem?_push, if_neg (Nat.ne_of_lt hq)]
    obtain ⟨kA2, comp2, -, -, -, f5⟩ := (hK.2 2 _ rfl).2
    have hcA : cA = cs.2.2.1 := jarr (t := .object RX1) f1 f5
    subst hcA
    have hgo := kk ⟨by rw [gn_al]; omega, htc⟩ r hr H1 L ls (h1.new z1 o1 (by
      rw [ent_cat htc]
      show H1[b + gn M]? = some (vp_cell _ _)
      rw [vp_cell_q, hs, ← h1.1, e1]
      refine congrArg some (arrV_congr fun j _ => ?_)
      rw [gr_al, if_pos rfl]
      rfl)) (h2.old (by rw [z1]; omega) o1) h3
    rw [← h1.1] at hgo
    exact hgo
  · rw [if_neg hs] at hr; cases hr
theorem aw_newT (X : jX p c cc nL s m args own D cs b meth H0) {N' : Nat} {v : Int32} (hv : ¬ v < 0) (hN : v.toNatClampNeg = N') (hb4 : N' * 4 ≤ 536870912) (hcells : ks + 1 ≤ R.cells) (hslots : sl + N' ≤ R.slots) (hcl : Cond.classLink own index RX5 ∈ GB) (hdg : decode cc pc = .ok (.anewarray index, 3))
    (kk : oty (al M) (gn M) 4 → AWO p l e R s m args below meth c D cs b nL H0 Qf F (al M) (ks + 1) (sl + N') lv (pc + 3) (.ref (b + gn M) :: st)) : AWO p l e R s m args below meth c D cs b nL H0 Qf (if shp (gn M) = (4, N') then F else none) M ks sl lv pc (.int v :: st) := fun r hr H L ls h1 h2 h3 => by
  by_cases hs : shp (gn M) = (4, N')
  · rw [if_pos hs] at hr
    have hK := X.2.2.2.2.2.1.1
    have htc : tc (shp (gn M)) = 4 := by rw [hs]; rfl
    subst hN
    refine W.anew X.1 X.2.1 X.2.2.2.2.1 (X.2.2.2.1 _ hcl) (va_AO.use X.2.2.2.2.2.1.2.2.2.2) rfl hdg rfl hv hb4 hcells hslots fun cA kA comp f1 f2 f3 f4 => ?_
    generalize hH1 : H.push ({ cls := cA, slots := Array.replicate v.toNatClampNeg .null, vm := .none } : Cell) = H1
    have z1 : H1.size = H.size + 1 := by rw [← hH1, Array.size_push]
    have e1 : H1[H.size]? = some (arrV cA v.toNatClampNeg (fun _ => .null)) := by rw [← hH1, Array.getElem?_push_size, ← arrV_new]
    have o1 : ∀ q : Nat, q < H.size → H1[q]? = H[q]? := fun q hq => by rw [← hH1, Array.getElem?_push, if_neg (Nat.ne_of_lt hq)]
    obtain ⟨kA2, comp2, -, -, -, f5⟩ := (hK.2 3 _ rfl).2
    have hcA : cA = cs.2.2.2 := jarr (t := .object RX5) f1 f5
    subst hcA
    have hgo := kk ⟨by rw [gn_al]; omega, htc⟩ r hr H1 L ls (h1.new z1 o1 (by
      rw [ent_trk htc]
      show H1[b + gn M]? = some (vp_cell _ _)
      rw [vp_cell_q, hs, ← h1.1, e1]
      refine congrArg some (arrV_congr fun j _ => ?_)
      rw [gr_al, if_pos rfl]
      rfl)) (h2.old (by rw [z1]; omega) o1) h3
    rw [← h1.1] at hgo
    exact hgo
  · rw [if_neg hs] at hr; cases hr
theorem aw_objInit (X : jX p c cc nL s m args own D cs b meth H0) {x : Nat} (hlink : Cond.methodLink own index objectInit ∈ GB) (hinst : Cond.instanceMethod objectInit ∈ GB) (hcode : Cond.code objectInit ⟨#[0xb1]⟩ 1 none ∈ GB) (hdg : decode cc pc = .ok (.invokespecial index, 3)) (hf : 1 ≤ R.frames) (hlo : (st.map fun v => v.category).sum + 12 ≤ R.locals) (kk : AWO p l e R s m args below meth c D cs b nL H0 Qf F M ks sl lv (pc + 3) st) : AWO p l e R s m args below meth c D cs b nL H0 Qf F M ks sl lv pc (.ref x :: st) := fun r hr H L ls h1 h2 h3 =>
  W.objInit X.1 X.2.1 X.2.2.2.2.1 (X.2.2.2.1 _ hlink) (X.2.2.2.1 _ hinst) (X.2.2.2.1 _ hcode) rfl (by rw [X.2.2.1]; exact h3.1) rfl hdg hf (by show 2 * 0 + _ + 12 ≤ _; omega) (kk r hr H L ls h1 h2 h3)
theorem nn_cl {z : Int32} (hz : ¬ z < 0) : z.toInt = (z.toNatClampNeg : Int) := by
  have hz0 : (0 : Int) ≤ z.toInt := by
    have := Int32.not_lt.mp hz
    simpa using Int32.le_iff_toInt_le.mp this
  show z.toInt = ((z.toInt.toNat : Nat) : Int)
  omega
/-- System.arraycopy between two rows of ints -/
theorem aw_copy (X : jX p c cc nL s m args own D cs b meth H0) {k1 : Nat} {sp dp n : Int32} (hlink : Cond.methodLink own index arraycopyName ∈ GB) (hnat : Cond.native arraycopyName ∈ GB) (hstat : Cond.static arraycopyName ∈ GB) (hini : Cond.initialized "java/lang/System" ∈ GB) (hframes : 1 ≤ R.frames) (hlocals : (st.map fun v => v.category).sum + (nativeFrameWords "java/lang/System" "arraycopy" 5 + 11) ≤ R.locals) (hdg : decode cc pc = .ok (.invokestatic index, 3)) (ho : oty M k 1) (ho1 : oty M k1 1)
    (kk : AWO p l e R s m args below meth c D cs b nL H0 Qf F (cpm M k sp k1 dp n) ks sl lv (pc + 3) st) : AWO p l e R s m args below meth c D cs b nL H0 Qf (if 0 ≤ sp ∧ sp < 2000 ∧ 0 ≤ dp ∧ dp < 2000 ∧ 0 ≤ n ∧ n < 2000 ∧ sp + n ≤ ln k ∧ dp + n ≤ ln k1 then F else none) M ks sl lv pc (.int n :: .int dp :: .ref (b + k1) :: .int sp :: .ref (b + k) :: st) := fun r hr H L ls h1 h2 h3 => by
  by_cases hi : 0 ≤ sp ∧ sp < 2000 ∧ 0 ≤ dp ∧ dp < 2000 ∧ 0 ≤ n ∧ n < 2000 ∧ sp + n ≤ ln k ∧ dp + n ≤ ln k1
  · rw [if_pos hi] at hr
    obtain ⟨i1, i2, i3, i4, i5, i6, i7, i8⟩ := hi
    have m1 : ¬ sp < 0 := Int32.not_lt.mpr i1
    have m2 : ¬ dp < 0 := Int32.not_lt.mpr i3
    have m3 : ¬ n < 0 := Int32.not_lt.mpr i5
    obtain ⟨a1, q1, rfl⟩ := nI_of m1
    obtain ⟨a2, q2, rfl⟩ := nI_of m2
    obtain ⟨a3, q3, rfl⟩ := nI_of m3
    have s0 := shp_len k
    have s1 := shp_len k1
    have j1 : a1 < 2000 := (nI_ltI q1 (by omega)).mp i2
    have j2 : a2 < 2000 := (nI_ltI q2 (by omega)).mp i4
    have j3 : a3 < 2000 := (nI_ltI q3 (by omega)).mp i6
    rw [nI_add] at i7 i8
    have j4 : a1 + a3 ≤ (shp k).2 := (nI_leI (by omega) (by omega)).mp i7
    have j5 : a2 + a3 ≤ (shp k1).2 := (nI_leI (by omega) (by omega)).mp i8
    have hK := X.2.2.2.2.2.1.1
    have hc0 := h1.2.1 k ho.1
    have hc1 := h1.2.1 k1 ho1.1
    rw [ent_int ho.2] at hc0
    rw [ent_int ho1.2] at hc1
    have hc0 : H[b + k]? = some (vp_cell cs.1 ((shp k).2, .inl fun j => gi M k (nI j))) := hc0
    have hc1 : H[b + k1]? = some (vp_cell cs.1 ((shp k1).2, .inl fun j => gi M k1 (nI j))) := hc1
    obtain ⟨-, k0', hk0, cm0, hkk0⟩ := (hK.2 0 _ rfl).1 (shp k).2 (fun j => .int (gi M k (nI j)))
    intro T hT Y
    obtain ⟨vm', X', step⟩ := Y.arraycopy X.1 X.2.2.2.2.1 (X.2.2.2.1 _ hlink) (X.2.2.2.1 _ hnat) (X.2.2.2.1 _ hstat) (X.2.2.2.1 _ hini) (src := b + k) (dst := b + k1) (cs := vp_cell cs.1 ((shp k).2, .inl fun j => gi M k (nI j))) (cd := vp_cell cs.1 ((shp k1).2, .inl fun j => gi M k1 (nI j))) (srcPos := nI a1) (destPos := nI a2) (n := nI a3) (by rw [hT]; exact hc0) (by rw [hT]; exact hc1)
      (fun _ h => by cases h) (fun _ h => by cases h) (fun h => by cases h) (fun h => by cases h) hk0 hk0 hkk0 hkk0 (by simp) m1 m2 m3
      (by rw [nn_cl m1, nn_cl m3, nI_clamp q1, nI_clamp q3]; show ¬ _ > ((arrV _ _ (fun j => .int (gi M k (nI j)))).slots.size : Int); rw [arrV_size]; omega)
      (by rw [nn_cl m2, nn_cl m3, nI_clamp q2, nI_clamp q3]; show ¬ _ > ((arrV _ _ (fun j => .int (gi M k1 (nI j)))).slots.size : Int); rw [arrV_size]; omega)
      (fun vm₁ _ i hi => by
        rw [nI_clamp q3] at hi
        rw [nI_clamp q1]
        have e : (vp_cell cs.1 ((shp k).2, .inl fun j => gi M k (nI j))).slots.getD (a1 + i) .null = .int (gi M k (nI (a1 + i))) := by
          show (arrV _ _ (fun j => .int (gi M k (nI j)))).slots.getD _ _ = _
          rw [Array.getD_eq_getD_getElem?, arrV_read _ _ (by omega)]
          rfl
        refine ⟨?_, ?_⟩
        · rw [e]
          rfl
        · rw [e]
          exact trivial)
      (g := F0 m pc ls (.int (nI a3) :: .int (nI a2) :: .ref (b + k1) :: .int (nI a1) :: .ref (b + k) :: st)) rfl (by rw [X.2.2.1]; exact h3.1) (rest := st) rfl (by rw [X.2.1]; exact hdg) hframes (by show 2 * 0 + _ + _ ≤ _; omega)
    have j6 : (nI a1).toNatClampNeg + (nI a3).toNatClampNeg ≤ (shp k).2 := by rw [nI_clamp q1, nI_clamp q3]; exact j4
    have e1 : copied (vp_cell cs.1 ((shp k).2, .inl fun j => gi M k (nI j))) (vp_cell cs.1 ((shp k1).2, .inl fun j => gi M k1 (nI j))) (nI a1) (nI a2) (nI a3) = vp_cell cs.1 ((shp k1).2, .inl (va_cpy (fun j => gi M k (nI j)) (fun j => gi M k1 (nI j)) (nI a1).toNatClampNeg (nI a2).toNatClampNeg (nI a3).toNatClampNeg)) := va_copied (fun z => .int z) cs.1 cs.1 (fun j => gi M k (nI j)) (fun j => gi M k1 (nI j)) j6
    rw [e1, nI_clamp q1, nI_clamp q2, nI_clamp q3] at X' step
    have hl : b + k1 < H.size := (Array.getElem?_eq_some_iff.mp hc1).1
    have hcell : vp_cell cs.1 ((shp k1).2, .inl (va_cpy (fun j => gi M k (nI j)) (fun j => gi M k1 (nI j)) a1 a2 a3)) = vp_cell cs.1 ((shp k1).2, .inl fun j => gi (cpm M k (nI a1) k1 (nI a2) (nI a3)) k1 (nI j)) := by
      rw [vp_cell_i, vp_cell_i]
      refine arrV_congr fun j hj => ?_
      rw [gi_cpm, nI_add]
      dsimp only [va_cpy]
      by_cases hcc : a2 ≤ j ∧ j < a2 + a3
      · rw [if_pos hcc, if_pos ⟨rfl, nI_le hcc.1 (by omega), nI_lt hcc.2 (by omega)⟩, pk_sub hcc.1, nI_add]
      · rw [if_neg hcc, if_neg (fun q => hcc ⟨(nI_leI (by omega) (by omega)).mp q.2.1, (nI_ltI (by omega) (by omega)).mp q.2.2⟩)]
    rw [hcell] at X' step
    generalize hE : vp_cell cs.1 ((shp k1).2, .inl fun j => gi (cpm M k (nI a1) k1 (nI a2) (nI a3)) k1 (nI j)) = E at X' step
    have hheap : ((T.setVm vm').setCell (b + k1) E).heap = H.setIfInBounds (b + k1) E := by rw [← hT]; rfl
    have oq : ∀ q : Nat, q ≠ b + k1 → (H.setIfInBounds (b + k1) E)[q]? = H[q]? := fun q hq => by simp [Array.getElem?_setIfInBounds, Ne.symm hq]
    obtain ⟨t, w1, w2⟩ := kk r hr _ _ ls (h1.set (M' := cpm M k (nI a1) k1 (nI a2) (nI a3)) (by simp) oq rfl (fun i _ hi => ent_cpm hi) (by
        rw [ent_int ho1.2]
        show (H.setIfInBounds (b + k1) E)[b + k1]? = some (vp_cell _ _)
        rw [hE]
        simp [Array.getElem?_setIfInBounds, hl]) (jT_cpm h1.2.2 _ _ _ _ _)) ⟨by simp; exact h2.1, fun q g1 g2 => by
        rw [oq q (fun e => g2 (by rw [e]; exact Nat.le_add_right b k1))]
        exact h2.2.1 q g1 g2, fun q hq => by
        rcases List.mem_append.mp hq with h | h
        · exact h2.2.2 q h
        · obtain ⟨z, -, hz⟩ := List.mem_map.mp h
          rw [← hz]
          exact Nat.le_add_right b k1⟩ h3 _ hheap X'
    exact ⟨t, step t w1, w2⟩
  · rw [if_neg hi] at hr; cases hr
end ROWS3
