/-! rows of the memory machine: fields, rows, new cells -/
theorem nI_ne {a c : Nat} (ha : a < 2 ^ 31) (hc : c < 2 ^ 31) (h : ¬ a = c) : ¬ nI a = nI c := fun q => h (nI_inj ha hc q)
theorem fldV_si {b : Nat} {M : JM} {k : Nat} {ty : List Nat} {kf : Nat} (hs : ty.length < 1000) (hk : kf < ty.length) (h0 : ty[kf]? = some 0) (x : Int32) : fldV b (si M k (nI kf) x) k ty = (fldV b M k ty).set kf (.int x) := by
  apply List.ext_getElem?
  intro j
  by_cases hj : j < ty.length
  · have hlen : kf < (fldV b M k ty).length := by rw [fldV_len]; exact hk
    by_cases hjk : kf = j
    · subst hjk
      rw [fldV_get hj, List.getElem?_set_self hlen, h0]
      simp [gi_si]
    · have hne : ¬ (k = k ∧ nI j = nI kf) := fun q => nI_ne (by omega) (by omega) hjk q.2.symm
      rw [fldV_get hj, List.getElem?_set_ne hjk, fldV_get hj, gr_si, gi_si]
      rw [if_neg hne]
  · rw [List.getElem?_eq_none (by rw [fldV_len]; omega), List.getElem?_eq_none (by rw [List.length_set, fldV_len]; omega)]
theorem fldV_sr {b : Nat} {M : JM} {k : Nat} {ty : List Nat} {kf τ : Nat} (hs : ty.length < 1000) (hk : kf < ty.length) (h0 : ty[kf]? = some τ) (hτ : ¬ τ = 0) (x : Option Nat) : fldV b (sr M k (nI kf) x) k ty = (fldV b M k ty).set kf (vr b x) := by
  apply List.ext_getElem?
  intro j
  by_cases hj : j < ty.length
  · have hlen : kf < (fldV b M k ty).length := by rw [fldV_len]; exact hk
    by_cases hjk : kf = j
    · subst hjk
      rw [fldV_get hj, List.getElem?_set_self hlen, h0]
      simp [gr_sr, hτ]
    · have hne : ¬ (k = k ∧ nI j = nI kf) := fun q => nI_ne (by omega) (by omega) hjk q.2.symm
      rw [fldV_get hj, List.getElem?_set_ne hjk, fldV_get hj, gi_sr, gr_sr]
      rw [if_neg hne]
  · rw [List.getElem?_eq_none (by rw [fldV_len]; omega), List.getElem?_eq_none (by rw [List.length_set, fldV_len]; omega)]
theorem ent_si {b : Nat} {cs : JC} {M : JM} {k i : Nat} {j x : Int32} (h : i ≠ k) : ent b cs (si M k j x) i = ent b cs M i := ent_same (fun j' => by rw [gi_si, if_neg (fun q => h q.1)]) (fun _ => rfl)
theorem ent_sr {b : Nat} {cs : JC} {M : JM} {k i : Nat} {j : Int32} {x : Option Nat} (h : i ≠ k) : ent b cs (sr M k j x) i = ent b cs M i := ent_same (fun _ => rfl) (fun j' => by rw [gr_sr, if_neg (fun q => h q.1)])
theorem ent_cpm {b : Nat} {cs : JC} {M : JM} {k1 k i : Nat} {sp dp n : Int32} (h : i ≠ k) : ent b cs (cpm M k1 sp k dp n) i = ent b cs M i := ent_same (fun j' => by rw [gi_cpm, if_neg (fun q => h q.1)]) (fun _ => rfl)
theorem rty_obj {k ci τ kf : Nat} (h : tc (shp k) = 10 + ci) (hk : kf < 1000) (h0 : (fty ci)[kf]? = some τ) : rty (shp k) (nI kf) = τ := by
  have h1 := tc_obj h (shp_fst k)
  rw [h1]
  unfold rty
  rw [if_pos rfl, nI_clamp (by omega), h0]
  rfl
theorem upd_nI {f : Int32 → Int32} {i x : Int32} {n : Nat} (hn : n < 2000) (h0 : nI i.toNatClampNeg = i) (h1 : i.toNatClampNeg < n) : ∀ j, j < n → (fun t => .int (upd (fun j => f (nI j)) i.toNatClampNeg x t) : Nat → Value) j = (fun t => .int (if nI t = i then x else f (nI t)) : Nat → Value) j := by
  intro j hj
  dsimp only [upd]
  by_cases h : j = i.toNatClampNeg
  · rw [if_pos h, if_pos (by rw [h]; exact h0)]
  · rw [if_neg h, if_neg (fun q => h (nI_inj (by omega) (by omega) (q.trans h0.symm)))]
section ROWS2
variable {ρ : Type} {p : Program} {l : Launch} {e : Env} {R : Room} {s : State} {m : MethodId} {args : Array Value} {below : List Frame} {meth : Method} {c : Code} {D : va_G} {cs : JC} {b nL : Nat} {H0 : Heap} {Qf : ρ × JM → State → Prop} {F : Option (ρ × JM)} {M : JM} {ks sl : Nat} {lv lv' : List (Nat × Value)} {pc : Nat} {st : List Value} {cc : ByteArray} {own : String}
variable {C : String} {T : u_T} {N ci index k : Nat}
theorem aw_getI (X : jX p c cc nL s m args own D cs b meth H0) (kf : Nat) (hc : vwCl[ci]? = some (C, T, N)) (hin : ∀ w ∈ u_ws C T N, w ∈ GB) (hk : kf < N) (hT : (T kf).1 = C) (h0 : (fty ci)[kf]? = some 0) (hlink : Cond.fieldLink own index C (T kf).2.1 (T kf).2.2.1 ∈ GB) (hdg : decode cc pc = .ok (.getfield index, 3)) (ho : oty M k (10 + ci)) (kk : AWO p l e R s m args below meth c D cs b nL H0 Qf F M ks sl lv (pc + 3) (.int (gi M k (nI kf)) :: st)) : AWO p l e R s m args below meth c D cs b nL H0 Qf F M ks sl lv pc (.ref (b + k) :: st) := fun r hr H L ls h1 h2 h3 => by
  have hP : va_P D vwCl [(b + k, .inr (ci, fldV b M k (fty ci)))] H := fun i q hq => by
    rw [List.getElem?_singleton] at hq
    split at hq
    · cases hq
      rw [← ent_obj (cs := cs) ho.2]
      exact h1.2.1 k ho.1
    · cases hq
  have hl : kf < (fty ci).length := (List.getElem?_eq_some_iff.mp h0).1
  exact va_get X.1 X.2.1 X.2.2.2.1 hin X.2.2.2.2.1 X.2.2.2.2.2.1.1 hP 0 rfl hc kf hk (X.2.2.2.1 _ hlink) (fun x hx => by rw [hT] at hx; exact hx) (by rw [fldV_get hl, h0]; rfl) hdg (kk r hr H L ls h1 h2 h3)
theorem aw_getR (X : jX p c cc nL s m args own D cs b meth H0) {τ : Nat} (kf : Nat) (hc : vwCl[ci]? = some (C, T, N)) (hin : ∀ w ∈ u_ws C T N, w ∈ GB) (hk : kf < N) (hN : N < 1000) (hT : (T kf).1 = C) (h0 : (fty ci)[kf]? = some τ) (hτ : ¬ τ = 0) (hlink : Cond.fieldLink own index C (T kf).2.1 (T kf).2.2.1 ∈ GB) {K : Nat → Option (ρ × JM)} (hdg : decode cc pc = .ok (.getfield index, 3)) (ho : oty M k (10 + ci)) (kk : ∀ r : Nat, oty M r τ → AWO p l e R s m args below meth c D cs b nL H0 Qf (K r) M ks sl lv (pc + 3) (.ref (b + r) :: st)) : AWO p l e R s m args below meth c D cs b nL H0 Qf (orf (gr M k (nI kf)) K) M ks sl lv pc (.ref (b + k) :: st) := fun r hr H L ls h1 h2 h3 => by
  have hP : va_P D vwCl [(b + k, .inr (ci, fldV b M k (fty ci)))] H := fun i q hq => by
    rw [List.getElem?_singleton] at hq
    split at hq
    · cases hq
      rw [← ent_obj (cs := cs) ho.2]
      exact h1.2.1 k ho.1
    · cases hq
  have hl : kf < (fty ci).length := (List.getElem?_eq_some_iff.mp h0).1
  cases hg : gr M k (nI kf) with
  | none => rw [hg] at hr; cases hr
  | some x =>
    rw [hg] at hr
    have hx : oty M x τ := ⟨(h1.2.2 k _ x ho.1 hg).1, by rw [(h1.2.2 k _ x ho.1 hg).2]; exact rty_obj ho.2 (by omega) h0⟩
    exact va_get X.1 X.2.1 X.2.2.2.1 hin X.2.2.2.2.1 X.2.2.2.2.2.1.1 hP 0 rfl hc kf hk (X.2.2.2.1 _ hlink) (fun x hx => by rw [hT] at hx; exact hx) (v := .ref (b + x)) (by rw [fldV_get hl, h0, hg]; show some (if τ = 0 then _ else _) = _; rw [if_neg hτ]; rfl) hdg (kk x hx r hr H L ls h1 h2 h3)
theorem aw_putC (X : jX p c cc nL s m args own D cs b meth H0) (kf : Nat) (hc : vwCl[ci]? = some (C, T, N)) (hin : ∀ w ∈ u_ws C T N, w ∈ GB) (ty0 : Nat → FieldType) (hty : ∀ k, k < N → parseFieldDescriptor (T k).2.2.1 = some (ty0 k)) (hnm : ∀ a, a < N → ∀ b, b < N → a ≠ b → (T a).2.1 ≠ (T b).2.1) (hk : kf < N) (hl : kf < (fty ci).length) (hT : (T kf).1 = C) (hlink : Cond.fieldLink own index C (T kf).2.1 (T kf).2.2.1 ∈ GB)
    (hfin : (T kf).2.2.2 = false ∨ ((T kf).2.2.2 = true ∧ meth.name = "<init>" ∧ C = own)) {ty : FieldType} {v : Value} (hd : parseFieldDescriptor (T kf).2.2.1 = some ty) (hn : narrow ty v = v) (hfit : fits ty v = true) {M' : JM} (hgn : gn M' = gn M) (hfld : fldV b M' k (fty ci) = (fldV b M k (fty ci)).set kf v) (hoth : ∀ i, i ≠ k → ent b cs M' i = ent b cs M i) (hTT : jT M → jT M')
    (hdg : decode cc pc = .ok (.putfield index, 3)) (ho : oty M k (10 + ci)) (kk : AWO p l e R s m args below meth c D cs b nL H0 Qf F M' ks sl lv (pc + 3) st) : AWO p l e R s m args below meth c D cs b nL H0 Qf F M ks sl lv pc (v :: .ref (b + k) :: st) := fun r hr H L ls h1 h2 h3 => by
  have hK := X.2.2.2.2.2.1.1
  have hap := va_apart (own := own) X.2.2.2.1 hin ty0 hty hnm hK hc
  have hat := h1.2.1 k ho.1
  rw [ent_obj ho.2] at hat
  obtain ⟨r', h1', cell, q1, q2, q3, q4⟩ := hat
  have hr' : r' = (C, T, N) := Option.some.inj (h1'.symm.trans hc)
  subst hr'
  obtain ⟨hS, hfc, kC, hkC, hkind⟩ := hK.1 ci _ hc
  obtain ⟨cf, kf', fi, f, hi, hsl⟩ := hS kf hk
  have hlay := X.2.2.2.1 _ (hin _ (u_in_lay hk))
  have hst := (u_facts hfc hkC (u_lays X.2.2.2.1 hin hk) hi).1
  have hsame : s.fieldFound? C (T kf).2.1 (T kf).2.2.1 = some (cf, kf', fi, f) := by rw [hT] at hi; exact hi
  have fin : ∀ H' : Heap, H'[b + k]? = some (cell.setSlot f.slot v) → H'.size = H.size → (∀ q, q ≠ b + k → H'[q]? = H[q]?) → W p l e R s m args below meth c H' (L ++ [⟨b + k, f.slot⟩]) ks sl (Qf r) (F0 m (pc + 3) ls st) := fun H' e1 e2 e3 => by
    rw [hsl] at e1 ⊢
    refine kk r hr H' _ ls (h1.set e2 e3 hgn (fun i _ hik => hoth i hik) ?_ (hTT h1.2.2)) (h2.put e2 e3 (Nat.le_add_right b k)) h3
    rw [ent_obj ho.2, hfld]
    exact ⟨_, hc, t_OB.to (V := updV (vp_V (fldV b M k (fty ci))) kf v) ⟨_, e1, q2, q3, t_set q4 hap hk v⟩ (fun j _ => vp_updV_set (by rw [fldV_len]; exact hl) v j)⟩
  rcases hfin with hf | ⟨hf, hin2, hco⟩
  · unfold u_lay at hlay
    rw [if_neg (by rw [hf]; decide)] at hlay
    have h6 := u_store hfc hkC hkind hlay hi hd hn hfit
    exact W.putK X.1 X.2.1 (f := f) ⟨X.2.2.2.2.1, X.2.2.2.1 _ hlink, ⟨_, _, _, hsame⟩, hst⟩ (by rw [q2]; exact h6) q1 q3 (by rw [hsl]; exact k2_hasslot (q4 kf hk)) rfl rfl hdg fin
  · unfold u_lay at hlay
    rw [if_pos hf] at hlay
    have hcf : m.cls = cf := by
      obtain ⟨_, _, c', _, _, _, -, -, hf', -, -, -, hown2, -⟩ := Cond.laysFinal_spec hlay
      have e1 : c' = cf := by have := hi.symm.trans hf'; simp at this; exact this.1.symm
      rw [hT, hco] at hown2
      rw [← e1]; exact Option.some.inj (X.2.2.2.2.1.symm.trans hown2)
    have h6 := u_fits hfc hkC hkind (Or.inr hlay) hi hd hn hfit
    exact W.putFinK X.1 X.2.1 X.2.2.2.2.1 (X.2.2.2.1 _ hlink) hsame hst hcf hin2 (by rw [q2]; exact h6) q1 q3 (by rw [hsl]; exact k2_hasslot (q4 kf hk)) rfl rfl hdg fin
theorem aw_putI (X : jX p c cc nL s m args own D cs b meth H0) (kf : Nat) (hc : vwCl[ci]? = some (C, T, N)) (hin : ∀ w ∈ u_ws C T N, w ∈ GB) (ty0 : Nat → FieldType) (hty : ∀ k, k < N → parseFieldDescriptor (T k).2.2.1 = some (ty0 k)) (hnm : ∀ a, a < N → ∀ b, b < N → a ≠ b → (T a).2.1 ≠ (T b).2.1) (hk : kf < N) (hl : (fty ci).length < 1000) (h0 : (fty ci)[kf]? = some 0) (hT : (T kf).1 = C) (hlink : Cond.fieldLink own index C (T kf).2.1 (T kf).2.2.1 ∈ GB) (hd : parseFieldDescriptor (T kf).2.2.1 = some .int)
    (hfin : (T kf).2.2.2 = false ∨ ((T kf).2.2.2 = true ∧ meth.name = "<init>" ∧ C = own)) {x : Int32} (hdg : decode cc pc = .ok (.putfield index, 3)) (ho : oty M k (10 + ci)) (kk : AWO p l e R s m args below meth c D cs b nL H0 Qf F (si M k (nI kf) x) ks sl lv (pc + 3) st) : AWO p l e R s m args below meth c D cs b nL H0 Qf F M ks sl lv pc (.int x :: .ref (b + k) :: st) :=
  have hl2 : kf < (fty ci).length := (List.getElem?_eq_some_iff.mp h0).1
  aw_putC X kf hc hin ty0 hty hnm hk hl2 hT hlink hfin hd rfl rfl (M' := si M k (nI kf) x) rfl (fldV_si hl hl2 h0 x) (fun i hi => ent_si hi) (fun h => jT_si h k _ x) hdg ho kk
theorem aw_putR (X : jX p c cc nL s m args own D cs b meth H0) {τ : Nat} (kf : Nat) (hc : vwCl[ci]? = some (C, T, N)) (hin : ∀ w ∈ u_ws C T N, w ∈ GB) (ty0 : Nat → FieldType) (hty : ∀ k, k < N → parseFieldDescriptor (T k).2.2.1 = some (ty0 k)) (hnm : ∀ a, a < N → ∀ b, b < N → a ≠ b → (T a).2.1 ≠ (T b).2.1) (hk : kf < N) (hl : (fty ci).length < 1000) (h0 : (fty ci)[kf]? = some τ) (hτ : ¬ τ = 0) (hT : (T kf).1 = C) (hlink : Cond.fieldLink own index C (T kf).2.1 (T kf).2.2.1 ∈ GB) {ty : FieldType} (hd : parseFieldDescriptor (T kf).2.2.1 = some ty) (hft : ∀ a : Nat, narrow ty (.ref a) = .ref a ∧ fits ty (.ref a) = true)
    (hfin : (T kf).2.2.2 = false ∨ ((T kf).2.2.2 = true ∧ meth.name = "<init>" ∧ C = own)) {x : Nat} (hdg : decode cc pc = .ok (.putfield index, 3)) (ho : oty M k (10 + ci)) (hx : oty M x τ) (kk : AWO p l e R s m args below meth c D cs b nL H0 Qf F (sr M k (nI kf) (some x)) ks sl lv (pc + 3) st) : AWO p l e R s m args below meth c D cs b nL H0 Qf F M ks sl lv pc (.ref (b + x) :: .ref (b + k) :: st) :=
  have hl2 : kf < (fty ci).length := (List.getElem?_eq_some_iff.mp h0).1
  aw_putC X kf hc hin ty0 hty hnm hk hl2 hT hlink hfin hd (hft _).1 (hft _).2 (M' := sr M k (nI kf) (some x)) rfl (fldV_sr hl hl2 h0 hτ (some x)) (fun i hi => ent_sr hi) (fun h => jT_sr h (fun r hr => by cases hr; exact ⟨hx.1, by rw [hx.2]; exact (rty_obj ho.2 (by omega) h0).symm⟩)) hdg ho kk

theorem aw_iald (X : jX p c cc nL s m args own D cs b meth H0) {i : Int32} (hdg : decode cc pc = .ok (.iaload, 1)) (ho : oty M k 1) (kk : AWO p l e R s m args below meth c D cs b nL H0 Qf F M ks sl lv (pc + 1) (.int (gi M k i) :: st)) : AWO p l e R s m args below meth c D cs b nL H0 Qf (if 0 ≤ i ∧ i < ln k then F else none) M ks sl lv pc (.int i :: .ref (b + k) :: st) := fun r hr H L ls h1 h2 h3 => by
  by_cases hi : 0 ≤ i ∧ i < ln k
  · rw [if_pos hi] at hr
    obtain ⟨g1, g2, g3⟩ := in_of (shp_len k) hi
    have hP : va_P D vwCl [(b + k, ent b cs M k)] H := fun j q hq => by
      rw [List.getElem?_singleton] at hq
      split at hq
      · cases hq
        exact h1.2.1 k ho.1
      · cases hq
    rw [ent_int ho.2] at hP
    refine va_iald X.1 X.2.1 X.2.2.2.2.2.1.1 hP 0 0 rfl rfl g1 hdg ?_
    rw [g2]
    exact kk r hr H L ls h1 h2 h3
  · rw [if_neg hi] at hr; cases hr
theorem aw_zald (X : jX p c cc nL s m args own D cs b meth H0) {i : Int32} (hdg : decode cc pc = .ok (.baload, 1)) (ho : oty M k 2) (kk : AWO p l e R s m args below meth c D cs b nL H0 Qf F M ks sl lv (pc + 1) (.int (gi M k i) :: st)) : AWO p l e R s m args below meth c D cs b nL H0 Qf (if 0 ≤ i ∧ i < ln k then F else none) M ks sl lv pc (.int i :: .ref (b + k) :: st) := fun r hr H L ls h1 h2 h3 => by
  by_cases hi : 0 ≤ i ∧ i < ln k
  · rw [if_pos hi] at hr
    obtain ⟨g1, g2, g3⟩ := in_of (shp_len k) hi
    have hP : va_P D vwCl [(b + k, ent b cs M k)] H := fun j q hq => by
      rw [List.getElem?_singleton] at hq
      split at hq
      · cases hq
        exact h1.2.1 k ho.1
      · cases hq
    rw [ent_bool ho.2] at hP
    refine va_zald X.1 X.2.1 X.2.2.2.2.2.1.1 hP 0 1 rfl rfl g1 hdg ?_
    rw [g2]
    exact kk r hr H L ls h1 h2 h3
  · rw [if_neg hi] at hr; cases hr
theorem aw_iast (X : jX p c cc nL s m args own D cs b meth H0) {i x : Int32} (hdg : decode cc pc = .ok (.iastore, 1)) (ho : oty M k 1) (kk : AWO p l e R s m args below meth c D cs b nL H0 Qf F (si M k i x) ks sl lv (pc + 1) st) : AWO p l e R s m args below meth c D cs b nL H0 Qf (if 0 ≤ i ∧ i < ln k then F else none) M ks sl lv pc (.int x :: .int i :: .ref (b + k) :: st) := fun r hr H L ls h1 h2 h3 => by
  by_cases hi : 0 ≤ i ∧ i < ln k
  · rw [if_pos hi] at hr
    obtain ⟨g1, g2, g3⟩ := in_of (shp_len k) hi
    have hat := h1.2.1 k ho.1
    rw [ent_int ho.2] at hat
    refine W.iast X.1 X.2.1 hat ((X.2.2.2.2.2.1.1.2 0 _ rfl).1 (shp k).2 (fun j => .int (gi M k (nI j)))) (fun q => by cases q) (by show ¬ (i < 0 ∨ (arrV _ _ _).slots.size ≤ _); rw [arrV_size]; exact g1) rfl rfl hdg fun H1 e1 z oq => ?_
    refine kk r hr H1 _ ls (h1.set z oq rfl (fun j _ hj => ent_si hj) ?_ (jT_si h1.2.2 k i _)) (h2.put z oq (Nat.le_add_right b k)) h3
    rw [ent_int ho.2]
    show H1[b + k]? = some (vp_cell _ _)
    rw [e1]
    rw [vp_cell_i, vp_cell_i]
    refine congrArg some ?_
    rw [arrV_store]
    refine arrV_congr (fun j hj => ?_)
    dsimp only [updV, gi_si]
    by_cases hjk : j = i.toNatClampNeg
    · rw [if_pos hjk, if_pos ⟨rfl, by rw [hjk]; exact g2⟩]
    · rw [if_neg hjk, if_neg (fun q => hjk (nI_inj (by have := shp_len k; omega) (by have := shp_len k; omega) (q.2.trans g2.symm)))]
  · rw [if_neg hi] at hr; cases hr
theorem aw_zast (X : jX p c cc nL s m args own D cs b meth H0) {i x : Int32} (hdg : decode cc pc = .ok (.bastore, 1)) (ho : oty M k 2) (kk : AWO p l e R s m args below meth c D cs b nL H0 Qf F (si M k i (vp_nar .boolean x)) ks sl lv (pc + 1) st) : AWO p l e R s m args below meth c D cs b nL H0 Qf (if 0 ≤ i ∧ i < ln k then F else none) M ks sl lv pc (.int x :: .int i :: .ref (b + k) :: st) := fun r hr H L ls h1 h2 h3 => by
  by_cases hi : 0 ≤ i ∧ i < ln k
  · rw [if_pos hi] at hr
    obtain ⟨g1, g2, g3⟩ := in_of (shp_len k) hi
    have hat := h1.2.1 k ho.1
    rw [ent_bool ho.2] at hat
    refine W.zast X.1 X.2.1 hat ((X.2.2.2.2.2.1.1.2 1 _ rfl).1 (shp k).2 (fun j => .int (gi M k (nI j)))) (fun q => by cases q) (by show ¬ (i < 0 ∨ (arrV _ _ _).slots.size ≤ _); rw [arrV_size]; exact g1) rfl rfl hdg fun H1 e1 z oq => ?_
    refine kk r hr H1 _ ls (h1.set z oq rfl (fun j _ hj => ent_si hj) ?_ (jT_si h1.2.2 k i _)) (h2.put z oq (Nat.le_add_right b k)) h3
    rw [ent_bool ho.2]
    show H1[b + k]? = some (vp_cell _ _)
    rw [e1]
    rw [vp_cell_i, vp_cell_i]
    refine congrArg some ?_
    rw [arrV_store]
    refine arrV_congr (fun j hj => ?_)
    dsimp only [updV, gi_si]
    by_cases hjk : j = i.toNatClampNeg
    · rw [if_pos hjk, if_pos ⟨rfl, by rw [hjk]; exact g2⟩]
      rfl
    · rw [if_neg hjk, if_neg (fun q => hjk (nI_inj (by have := shp_len k; omega) (by have := shp_len k; omega) (q.2.trans g2.symm)))]
  · rw [if_neg hi] at hr; cases hr
theorem aw_alen (X : jX p c cc nL s m args own D cs b meth H0) (hdg : decode cc pc = .ok (.arraylength, 1)) (ho : oty M k 1) (kk : AWO p l e R s m args below meth c D cs b nL H0 Qf F M ks sl lv (pc + 1) (.int (ln k) :: st)) : AWO p l e R s m args below meth c D cs b nL H0 Qf F M ks sl lv pc (.ref (b + k) :: st) := fun r hr H L ls h1 h2 h3 => by
  have hP : va_P D vwCl [(b + k, ent b cs M k)] H := fun j q hq => by
    rw [List.getElem?_singleton] at hq
    split at hq
    · cases hq
      exact h1.2.1 k ho.1
    · cases hq
  rw [ent_int ho.2] at hP
  exact va_alen X.1 X.2.1 X.2.2.2.2.2.1.1 hP 0 0 rfl rfl rfl hdg (kk r hr H L ls h1 h2 h3)
theorem aw_aldC (X : jX p c cc nL s m args own D cs b meth H0) {i : Int32} {K : Nat → Option (ρ × JM)} (hdg : decode cc pc = .ok (.aaload, 1)) (ho : oty M k 3) (kk : ∀ x : Nat, oty M x 11 → AWO p l e R s m args below meth c D cs b nL H0 Qf (K x) M ks sl lv (pc + 1) (.ref (b + x) :: st)) : AWO p l e R s m args below meth c D cs b nL H0 Qf (if 0 ≤ i ∧ i < ln k then orf (gr M k i) K else none) M ks sl lv pc (.int i :: .ref (b + k) :: st) := fun r hr H L ls h1 h2 h3 => by
  by_cases hi : 0 ≤ i ∧ i < ln k
  · rw [if_pos hi] at hr
    obtain ⟨g1, g2, g3⟩ := in_of (shp_len k) hi
    have hP : va_P D vwCl [(b + k, ent b cs M k)] H := fun j q hq => by
      rw [List.getElem?_singleton] at hq
      split at hq
      · cases hq
        exact h1.2.1 k ho.1
      · cases hq
    rw [ent_cat ho.2] at hP
    refine va_aldq X.1 X.2.1 X.2.2.2.2.2.1.1 hP 0 2 rfl rfl g1 hdg ?_
    rw [g2]
    cases hg : gr M k i with
    | none => rw [hg] at hr; cases hr
    | some x =>
      rw [hg] at hr
      have hx := h1.2.2 k i x ho.1 hg
      have hrt : rty (shp k) i = 11 := by
        have := tc_row ho.2 (by decide)
        unfold rty
        rw [this]
        rfl
      exact kk x ⟨hx.1, by rw [hx.2]; exact hrt⟩ r hr H L ls h1 h2 h3
  · rw [if_neg hi] at hr; cases hr
theorem aw_aldCo (X : jX p c cc nL s m args own D cs b meth H0) {i : Int32} (hdg : decode cc pc = .ok (.aaload, 1)) (ho : oty M k 3) (kk : (∀ x, gr M k i = some x → oty M x 11) → AWO p l e R s m args below meth c D cs b nL H0 Qf F M ks sl lv (pc + 1) (vr b (gr M k i) :: st)) : AWO p l e R s m args below meth c D cs b nL H0 Qf (if 0 ≤ i ∧ i < ln k then F else none) M ks sl lv pc (.int i :: .ref (b + k) :: st) := fun r hr H L ls h1 h2 h3 => by
  by_cases hi : 0 ≤ i ∧ i < ln k
  · rw [if_pos hi] at hr
    obtain ⟨g1, g2, g3⟩ := in_of (shp_len k) hi
    have hP : va_P D vwCl [(b + k, ent b cs M k)] H := fun j q hq => by
      rw [List.getElem?_singleton] at hq
      split at hq
      · cases hq
        exact h1.2.1 k ho.1
      · cases hq
    rw [ent_cat ho.2] at hP
    refine va_aldq X.1 X.2.1 X.2.2.2.2.2.1.1 hP 0 2 rfl rfl g1 hdg ?_
    rw [g2]
    refine kk (fun x hg => ?_) r hr H L ls h1 h2 h3
    have hx := h1.2.2 k i x ho.1 hg
    have hrt : rty (shp k) i = 11 := by
      have := tc_row ho.2 (by decide)
      unfold rty
      rw [this]
      rfl
    exact ⟨hx.1, by rw [hx.2]; exact hrt⟩
  · rw [if_neg hi] at hr; cases hr
theorem aw_astC (X : jX p c cc nL s m args own D cs b meth H0) {i : Int32} {x : Nat} (hdg : decode cc pc = .ok (.aastore, 1)) (ho : oty M k 3) (hx : oty M x 11) (kk : AWO p l e R s m args below meth c D cs b nL H0 Qf F (sr M k i (some x)) ks sl lv (pc + 1) st) : AWO p l e R s m args below meth c D cs b nL H0 Qf (if 0 ≤ i ∧ i < ln k then F else none) M ks sl lv pc (.ref (b + x) :: .int i :: .ref (b + k) :: st) := fun r hr H L ls h1 h2 h3 => by
  by_cases hi : 0 ≤ i ∧ i < ln k
  · rw [if_pos hi] at hr
    obtain ⟨g1, g2, g3⟩ := in_of (shp_len k) hi
    have hat := h1.2.1 k ho.1
    rw [ent_cat ho.2] at hat
    have hav := h1.2.1 x hx.1
    rw [ent_obj (ci := 1) hx.2] at hav
    obtain ⟨r', hr', cellV, f1, f2, f3, -⟩ := hav
    have hK := X.2.2.2.2.2.1.1
    have hcls := (hK.1 1 _ rfl).2
    obtain ⟨kA, comp, k1, k2, k3, -⟩ := (hK.2 2 _ rfl).2
    have hcomp : comp = D.1 1 := Option.some.inj (k3.symm.trans hcls.1)
    subst hcomp
    obtain ⟨kC, hkC, -⟩ := hcls.2
    refine W.aast X.1 X.2.1 hat (fun q h => by cases h) (fun h => by cases h) k1 k2 rfl hkC ⟨fun q => g1 (Or.inl q), by show _ < (arrV _ _ _).slots.size; rw [arrV_size]; exact g3⟩ f1 (fun q h => by rw [f3] at h; cases h) (by rw [f2]; exact hkC) (by rw [f2]; exact va_assign hcls) rfl rfl hdg fun H1 e1 z oq => ?_
    have hrt : rty (shp k) i = 11 := by
      have := tc_row ho.2 (by decide)
      unfold rty
      rw [this]
      rfl
    refine kk r hr H1 _ ls (h1.set z oq rfl (fun j _ hj => ent_sr hj) ?_ (jT_sr h1.2.2 (fun y hy => by cases hy; exact ⟨hx.1, by rw [hx.2, hrt]⟩))) (h2.put z oq (Nat.le_add_right b k)) h3
    rw [ent_cat ho.2]
    show H1[b + k]? = some (vp_cell _ _)
    rw [e1]
    rw [vp_cell_q, vp_cell_q]
    refine congrArg some ?_
    rw [arrV_store]
    refine arrV_congr (fun j hj => ?_)
    dsimp only [updV, gr_sr]
    by_cases hjk : j = i.toNatClampNeg
    · rw [if_pos hjk, if_pos ⟨rfl, by rw [hjk]; exact g2⟩]
      rfl
    · rw [if_neg hjk, if_neg (fun q => hjk (nI_inj (by have := shp_len k; omega) (by have := shp_len k; omega) (q.2.trans g2.symm)))]
  · rw [if_neg hi] at hr; cases hr
theorem aw_aldT (X : jX p c cc nL s m args own D cs b meth H0) {i : Int32} {K : Nat → Option (ρ × JM)} (hdg : decode cc pc = .ok (.aaload, 1)) (ho : oty M k 4) (kk : ∀ x : Nat, oty M x 15 → AWO p l e R s m args below meth c D cs b nL H0 Qf (K x) M ks sl lv (pc + 1) (.ref (b + x) :: st)) : AWO p l e R s m args below meth c D cs b nL H0 Qf (if 0 ≤ i ∧ i < ln k then orf (gr M k i) K else none) M ks sl lv pc (.int i :: .ref (b + k) :: st) := fun r hr H L ls h1 h2 h3 => by
  by_cases hi : 0 ≤ i ∧ i < ln k
  · rw [if_pos hi] at hr
    obtain ⟨g1, g2, g3⟩ := in_of (shp_len k) hi
    have hP : va_P D vwCl [(b + k, ent b cs M k)] H := fun j q hq => by
      rw [List.getElem?_singleton] at hq
      split at hq
      · cases hq
        exact h1.2.1 k ho.1
      · cases hq
    rw [ent_trk ho.2] at hP
    refine va_aldq X.1 X.2.1 X.2.2.2.2.2.1.1 hP 0 3 rfl rfl g1 hdg ?_
    rw [g2]
    cases hg : gr M k i with
    | none => rw [hg] at hr; cases hr
    | some x =>
      rw [hg] at hr
      have hx := h1.2.2 k i x ho.1 hg
      have hrt : rty (shp k) i = 15 := by
        have := tc_row ho.2 (by decide)
        unfold rty
        rw [this]
        rfl
      exact kk x ⟨hx.1, by rw [hx.2]; exact hrt⟩ r hr H L ls h1 h2 h3
  · rw [if_neg hi] at hr; cases hr
theorem aw_aldTo (X : jX p c cc nL s m args own D cs b meth H0) {i : Int32} (hdg : decode cc pc = .ok (.aaload, 1)) (ho : oty M k 4) (kk : (∀ x, gr M k i = some x → oty M x 15) → AWO p l e R s m args below meth c D cs b nL H0 Qf F M ks sl lv (pc + 1) (vr b (gr M k i) :: st)) : AWO p l e R s m args below meth c D cs b nL H0 Qf (if 0 ≤ i ∧ i < ln k then F else none) M ks sl lv pc (.int i :: .ref (b + k) :: st) := fun r hr H L ls h1 h2 h3 => by
  by_cases hi : 0 ≤ i ∧ i < ln k
  · rw [if_pos hi] at hr
    obtain ⟨g1, g2, g3⟩ := in_of (shp_len k) hi
    have hP : va_P D vwCl [(b + k, ent b cs M k)] H := fun j q hq => by
      rw [List.getElem?_singleton] at hq
      split at hq
      · cases hq
        exact h1.2.1 k ho.1
      · cases hq
    rw [ent_trk ho.2] at hP
    refine va_aldq X.1 X.2.1 X.2.2.2.2.2.1.1 hP 0 3 rfl rfl g1 hdg ?_
    rw [g2]
    refine kk (fun x hg => ?_) r hr H L ls h1 h2 h3
    have hx := h1.2.2 k i x ho.1 hg
    have hrt : rty (shp k) i = 15 := by
      have := tc_row ho.2 (by decide)
      unfold rty
      rw [this]
      rfl
    exact ⟨hx.1, by rw [hx.2]; exact hrt⟩
  · rw [if_neg hi] at hr; cases hr
theorem aw_astT (X : jX p c cc nL s m args own D cs b meth H0) {i : Int32} {x : Nat} (hdg : decode cc pc = .ok (.aastore, 1)) (ho : oty M k 4) (hx : oty M x 15) (kk : AWO p l e R s m args below meth c D cs b nL H0 Qf F (sr M k i (some x)) ks sl lv (pc + 1) st) : AWO p l e R s m args below meth c D cs b nL H0 Qf (if 0 ≤ i ∧ i < ln k then F else none) M ks sl lv pc (.ref (b + x) :: .int i :: .ref (b + k) :: st) := fun r hr H L ls h1 h2 h3 => by
  by_cases hi : 0 ≤ i ∧ i < ln k
  · rw [if_pos hi] at hr
    obtain ⟨g1, g2, g3⟩ := in_of (shp_len k) hi
    have hat := h1.2.1 k ho.1
    rw [ent_trk ho.2] at hat
    have hav := h1.2.1 x hx.1
    rw [ent_obj (ci := 5) hx.2] at hav
    obtain ⟨r', hr', cellV, f1, f2, f3, -⟩ := hav
    have hK := X.2.2.2.2.2.1.1
    have hcls := (hK.1 5 _ rfl).2
    obtain ⟨kA, comp, k1, k2, k3, -⟩ := (hK.2 3 _ rfl).2
    have hcomp : comp = D.1 5 := Option.some.inj (k3.symm.trans hcls.1)
    subst hcomp
    obtain ⟨kC, hkC, -⟩ := hcls.2
    refine W.aast X.1 X.2.1 hat (fun q h => by cases h) (fun h => by cases h) k1 k2 rfl hkC ⟨fun q => g1 (Or.inl q), by show _ < (arrV _ _ _).slots.size; rw [arrV_size]; exact g3⟩ f1 (fun q h => by rw [f3] at h; cases h) (by rw [f2]; exact hkC) (by rw [f2]; exact va_assign hcls) rfl rfl hdg fun H1 e1 z oq => ?_
    have hrt : rty (shp k) i = 15 := by
      have := tc_row ho.2 (by decide)
      unfold rty
      rw [this]
      rfl
    refine kk r hr H1 _ ls (h1.set z oq rfl (fun j _ hj => ent_sr hj) ?_ (jT_sr h1.2.2 (fun y hy => by cases hy; exact ⟨hx.1, by rw [hx.2, hrt]⟩))) (h2.put z oq (Nat.le_add_right b k)) h3
    rw [ent_trk ho.2]
    show H1[b + k]? = some (vp_cell _ _)
    rw [e1]
    rw [vp_cell_q, vp_cell_q]
    refine congrArg some ?_
    rw [arrV_store]
    refine arrV_congr (fun j hj => ?_)
    dsimp only [updV, gr_sr]
    by_cases hjk : j = i.toNatClampNeg
    · rw [if_pos hjk, if_pos ⟨rfl, by rw [hjk]; exact g2⟩]
      rfl
    · rw [if_neg hjk, if_neg (fun q => hjk (nI_inj (by have := shp_len k; omega) (by have := shp_len k; omega) (q.2.trans g2.symm)))]
  · rw [if_neg hi] at hr; cases hr
end ROWS2
