/-! ends, calls, contracts -/
def evI : Int32 → Option Value := fun x => some (.int x)
def evL : Int64 → Option Value := fun x => some (.long x)
def evB : Bool → Option Value := fun x => some (.int (bI x))
def evV : Unit → Option Value := fun _ => none
def evR (b : Nat) : Option Nat → Option Value := fun o => some (vr b o)
def jQ {ρ : Type} (D : va_G) (cs : JC) (b : Nat) (ev : ρ → Option Value) (res : ρ × JM) : Array Value → State → Outcome → State → Prop := fun _ st oc t => (oc = .returned (ev res.1) ∧ jR D cs b res.2 t.heap ∧ ∀ k : Nat, ev res.1 = some (.ref (b + k)) → oty res.2 k 11) ∧ va_F (fun q => b ≤ q) st t
/-- a contract: from the memory M the method answers res.1 and leaves the memory res.2 -/
def CTy {ρ : Type} (l : Launch) (y : MethodName) (ws : List Cond) (rm : Room) (D : va_G) (cs : JC) (b : Nat) (ev : ρ → Option Value) (av : List Value) (M : JM) (mc ms : Nat) (res : ρ × JM) : Prop :=
  Met l y ws rm (va_Pc av (fun U => jR D cs b M U.heap ∧ jKn D cs U)) (jQ D cs b ev res) mc ms (fun q => b ≤ q)
def jE {ρ : Type} (below : List Frame) (D : va_G) (cs : JC) (b : Nat) (ev : ρ → Option Value) (args : Array Value) (s : State) (mc ms : Nat) : ρ × JM → State → Prop := fun res => MQ below (jQ D cs b ev res) args s mc ms (fun q => b ≤ q)
section ROWS4
variable {ρ : Type} {p : Program} {l : Launch} {e : Env} {R : Room} {s : State} {m : MethodId} {args : Array Value} {below : List Frame} {meth : Method} {c : Code} {D : va_G} {cs : JC} {b nL : Nat} {H0 : Heap} {Qf : ρ × JM → State → Prop} {F : Option (ρ × JM)} {M : JM} {ks sl mc ms : Nat} {lv lv' : List (Nat × Value)} {pc : Nat} {st : List Value} {cc : ByteArray} {own : String}
theorem aw_iret (X : jX p c cc nL s m args own D cs b meth s.heap) (hr : meth.sig.returnType = some .int) {x : Int32} (hdg : decode cc pc = .ok (.ireturn, 1)) (h1 : ks ≤ mc) (h2 : sl ≤ ms) : AWO p l e R s m args below meth c D cs b nL s.heap (jE below D cs b evI args s mc ms) (some (x, M)) M ks sl lv pc [.int x] := fun r hres H L ls g1 g2 g3 => by
  cases hres
  exact W.widen h1 h2 (W.iret X.1 X.2.1 hr (fun t ht _ => ⟨⟨rfl, by rw [ht]; exact g1, fun k h => by cases h⟩, va_S.F g2 ht⟩) g2.2.2 hdg X.2.2.2.2.2.2.1)
theorem aw_zret (X : jX p c cc nL s m args own D cs b meth s.heap) (hr : meth.sig.returnType = some .boolean) {x : Int32} (bb : Bool) (hx : x = bI bb) (hdg : decode cc pc = .ok (.ireturn, 1)) (h1 : ks ≤ mc) (h2 : sl ≤ ms) : AWO p l e R s m args below meth c D cs b nL s.heap (jE below D cs b evB args s mc ms) (some (bb, M)) M ks sl lv pc [.int x] := fun r hres H L ls g1 g2 g3 => by
  cases hres
  exact W.widen h1 h2 (W.zret X.1 X.2.1 hr (by rw [hx]; cases bb <;> rfl) (fun t ht _ => ⟨⟨by rw [hx]; rfl, by rw [ht]; exact g1, fun k h => by cases h⟩, va_S.F g2 ht⟩) g2.2.2 hdg X.2.2.2.2.2.2.1)
theorem aw_lret (X : jX p c cc nL s m args own D cs b meth s.heap) (hr : meth.sig.returnType = some .long) {x : Int64} (hdg : decode cc pc = .ok (.lreturn, 1)) (h1 : ks ≤ mc) (h2 : sl ≤ ms) : AWO p l e R s m args below meth c D cs b nL s.heap (jE below D cs b evL args s mc ms) (some (x, M)) M ks sl lv pc [.long x] := fun r hres H L ls g1 g2 g3 => by
  cases hres
  exact W.widen h1 h2 (W.lret X.1 X.2.1 hr (fun t ht _ => ⟨⟨rfl, by rw [ht]; exact g1, fun k h => by cases h⟩, va_S.F g2 ht⟩) g2.2.2 hdg X.2.2.2.2.2.2.1)
theorem aw_vret (X : jX p c cc nL s m args own D cs b meth s.heap) (hr : meth.sig.returnType = none) (hdg : decode cc pc = .ok (.return_, 1)) (h1 : ks ≤ mc) (h2 : sl ≤ ms) : AWO p l e R s m args below meth c D cs b nL s.heap (jE below D cs b evV args s mc ms) (some ((), M)) M ks sl lv pc [] := fun r hres H L ls g1 g2 g3 => by
  cases hres
  exact W.widen h1 h2 (W.vret X.1 X.2.1 hr (fun t ht _ => ⟨⟨rfl, by rw [ht]; exact g1, fun k h => by cases h⟩, va_S.F g2 ht⟩) g2.2.2 hdg X.2.2.2.2.2.2.1)
theorem vr_inj {o : Option Nat} {k : Nat} (h : evR b o = some (.ref (b + k))) : o = some k := by
  cases o with
  | none => cases h
  | some x =>
    have h2 : b + x = b + k := by injection h with h; injection h with h
    rw [show x = k by omega]
theorem aw_aret (X : jX p c cc nL s m args own D cs b meth s.heap) {cn : String} (hr : meth.sig.returnType = some (.object cn)) (o : Option Nat) {v : Value} (hv : v = vr b o) (ho : ∀ k, o = some k → oty M k 11) (hdg : decode cc pc = .ok (.areturn, 1)) (h1 : ks ≤ mc) (h2 : sl ≤ ms) : AWO p l e R s m args below meth c D cs b nL s.heap (jE below D cs b (evR b) args s mc ms) (some (o, M)) M ks sl lv pc [v] := fun r hres H L ls g1 g2 g3 => by
  cases hres
  subst hv
  exact W.widen h1 h2 (W.aret X.1 X.2.1 hr (Or.inl ⟨cn, rfl⟩) (by cases o with | none => exact Or.inl rfl | some a => exact Or.inr ⟨_, rfl⟩) (fun t ht _ => ⟨⟨rfl, by rw [ht]; exact g1, fun k h => ho k (vr_inj h)⟩, va_S.F g2 ht⟩) g2.2.2 hdg X.2.2.2.2.2.2.1)
theorem ct_of {y : MethodName} {ret : Option FieldType} {ev : ρ → Option Value} {av : List Value} {res : ρ × JM} (lv0 : List (Nat × Value)) (hy : plainName y.cls = true) (hlv : lv_args 0 av = lv0) (hsl : (lg_sl av).length ≤ nL) (hF : F = some res)
    (body : ∀ (p : Program) (e : Env) (s : State) (m : MethodId) (args : Array Value) (below : List Frame) (meth : Method) (c : Code), jX p c cc nL s m args y.cls D cs b meth s.heap → meth.sig.returnType = ret → meth.name = y.name → AWO p l e R s m args below meth c D cs b nL s.heap (jE below D cs b ev args s mc ms) F M 0 0 lv0 0 []) : CTy l y (.code y cc nL ret :: GB) R D cs b ev av M mc ms res := by
  refine Met.ofW (cc := cc) (maxL := nL) (ret := ret) hy rfl ?_
  intro p e s m args below meth c s₁ B hml hv
  obtain ⟨rfl, hR, hKn⟩ := hv
  have hts := atoms_spec (ws := .code y cc nL ret :: GB) B.pre
  have X : jX p c cc nL s m av.toArray y.cls D cs b meth s.heap := ⟨B.exec, B.bytes, hml, fun w hw => hts w (List.mem_cons_of_mem _ hw), findClass_of_methodNamed B.named, hKn, B.notSynchronized, by rw [hR.1]; exact Nat.le_add_right b _⟩
  rw [lg_entry_eq]
  exact body p e s m _ below meth c X B.returns (name_of_methodNamed B.named B.method).1 res hF s.heap [] _ hR va_S.rf (by rw [← hlv]; exact lv_entry av hsl)
/-- behind a call -/
theorem aw_call {σ : Type} {G : Option (σ × JM)} {K : σ → JM → Option (ρ × JM)} {ev : σ → Option Value} {av rest : List Value} (hrun : ∀ q, G = some q → ∀ (H : Heap) (locs : List Loc) (ls : Array Slot), jR D cs b M H → lv_has ls nL lv → va_Run p l e R s m args below meth c H locs ks sl mc ms (F0 m pc ls st) rest (jQ D cs b ev q av.toArray) (fun q => b ≤ q))
    (kk : ∀ (r : σ) (M' : JM), gn M ≤ gn M' → (∀ k : Nat, ev r = some (.ref (b + k)) → oty M' k 11) → AWO p l e R s m args below meth c D cs b nL H0 Qf (K r M') M' (ks + mc) (sl + ms) lv (pc + 3) ((ev r).toList ++ rest)) : AWO p l e R s m args below meth c D cs b nL H0 Qf (ob G K) M ks sl lv pc st := fun r hres H L ls h1 h2 h3 => by
  cases hG : G with
  | none => rw [hG] at hres; cases hres
  | some q =>
    rw [hG, ob_some] at hres
    intro T hT Y
    obtain ⟨v, st₀, t, T', L', e0, Y', hL, e1, e2, ⟨⟨hv, hjr, hto⟩, hF⟩, hgo⟩ := hrun q hG H L ls h1 h3 T hT Y
    have hv2 : v = ev q.1 := by cases hv; rfl
    subst hv2
    unfold va_F at hF
    rw [e0] at hF
    have hsz : gn M ≤ gn q.2 := by
      have := hF.1
      rw [h1.1, hjr.1] at this
      omega
    have hq : q = (q.1, q.2) := rfl
    obtain ⟨t2, w1, w2⟩ := kk q.1 q.2 hsz hto r hres T'.heap (L ++ L') ls (by rw [e1]; exact hjr) ⟨Nat.le_trans h2.1 (by rw [e1]; exact hF.1), fun x g1 g2 => by rw [e1, hF.2 x (Nat.lt_of_lt_of_le g1 h2.1) g2]; exact h2.2.1 x g1 g2, fun x hx => by
      rcases List.mem_append.mp hx with h | h
      · exact h2.2.2 x h
      · exact hL x h⟩ h3 T' rfl Y'
    exact ⟨t2, hgo t2 w1, w2⟩
theorem jFB {av : List Value} : FrameBlind (va_Pc av (fun U => jR D cs b M U.heap ∧ jKn D cs U)) := fun _ U _ _ q => ⟨q.1, q.2.1, jKn.same (u := U) rfl q.2.2⟩
variable {C : String} {T : u_T} {N ci index k n maxL : Nat} {y : MethodName} {bytes : ByteArray} {ret : Option FieldType} {rm : Room}
theorem jGood (hc : Cond.code y bytes maxL ret ∈ GB) : GoodIn GB (.code y bytes maxL ret :: GB) := fun w hw => by
  have hm : w ∈ GB := by
    rcases List.mem_cons.mp hw with h | h
    · rw [h]; exact hc
    · exact h
  exact ⟨hm, good_of_word (List.mem_filter.mp hm).2⟩
variable {σ : Type} {G : Option (σ × JM)} {K : σ → JM → Option (ρ × JM)} {ev : σ → Option Value}
def jHd (y : MethodName) (n : Nat) : Prop := y.cls ≠ "java/lang/invoke/MethodHandle" ∧ y.cls ≠ "java/lang/invoke/VarHandle" ∧ (parseMethodDescriptor y.desc).map (fun d => d.parameters.length) = some n
def jRm (rm : Room) (maxL : Nat) (R : Room) : Prop := rm.frames + 1 ≤ R.frames ∧ 8 + (maxL + 11) + rm.locals ≤ R.locals
theorem aw_callV (X : jX p c cc nL s m args own D cs b meth H0) (As rest : List Value) (hst : st = As.reverse ++ .ref (b + k) :: rest) (hc : vwCl[ci]? = some (C, T, N)) (w1 : Cond.methodLink own index y ∈ GB) (w2 : Cond.instanceMethod y ∈ GB) (w3 : Cond.selects C y y ∈ GB) (w4 : Cond.code y bytes maxL ret ∈ GB) (w5 : Cond.initialized y.cls ∈ GB) (hd : jHd y n) (hn : As.length = n) (hR : jRm rm maxL R) (hW : (rest.map fun v => v.category).sum ≤ 8) (hroom : ks + rm.cells ≤ R.cells ∧ sl + rm.slots ≤ R.slots) (hdg : decode cc pc = .ok (.invokevirtual index, 3)) (ho : oty M k (10 + ci))
    (hM : ∀ q, G = some q → CTy l y (.code y bytes maxL ret :: GB) rm D cs b ev (.ref (b + k) :: As) M rm.cells rm.slots q) (kk : ∀ (r : σ) (M' : JM), gn M ≤ gn M' → (∀ k : Nat, ev r = some (.ref (b + k)) → oty M' k 11) → AWO p l e R s m args below meth c D cs b nL H0 Qf (K r M') M' (ks + rm.cells) (sl + rm.slots) lv (pc + 3) ((ev r).toList ++ rest)) : AWO p l e R s m args below meth c D cs b nL H0 Qf (ob G K) M ks sl lv pc st := by
  subst hst
  refine aw_call (av := .ref (b + k) :: As) (fun q hq H L ls h1 h3 => ?_) kk
  have hat := h1.2.1 k ho.1
  rw [ent_obj ho.2] at hat
  obtain ⟨r', hr', cell, g1, g2, g3, -⟩ := hat
  refine va_runV (As := As) (rest := rest) (b := b + k) (C := C) ⟨X.1, X.2.1, X.2.2.1, X.2.2.2.2.1, X.2.2.2.1⟩ (hM q hq) ⟨callB_of n X.2.2.2.1 (jGood w4) rfl rfl rfl (X.2.2.2.1 _ w5) (X.2.2.2.1 _ w1) hd hR, X.2.2.2.1 _ w2, X.2.2.2.1 _ w3⟩ ⟨jFB, ⟨cell, g1, by rw [g3]; rfl, by rw [g2]; exact (X.2.2.2.2.2.1.1.1 ci _ hc).2.1⟩, fun U hU hW' => ⟨rfl, by rw [hU]; exact h1, jKn.warm hW' X.2.2.2.2.2.1⟩⟩ rfl hn h3.1 rfl (lv_room hW) hdg hroom
theorem aw_callI (X : jX p c cc nL s m args own D cs b meth H0) (As rest : List Value) (hst : st = As.reverse ++ .ref (b + k) :: rest) (w1 : Cond.methodLink own index y ∈ GB) (w2 : Cond.instanceMethod y ∈ GB) (w4 : Cond.code y bytes maxL none ∈ GB) (w5 : Cond.initialized y.cls ∈ GB) (hy1 : y.name = "<init>") (hd : jHd y n) (hn : As.length = n) (hR : jRm rm maxL R) (hW : (rest.map fun v => v.category).sum ≤ 8) (hroom : ks + rm.cells ≤ R.cells ∧ sl + rm.slots ≤ R.slots) (hdg : decode cc pc = .ok (.invokespecial index, 3))
    (hM : ∀ q, G = some q → CTy l y (.code y bytes maxL none :: GB) rm D cs b ev (.ref (b + k) :: As) M rm.cells rm.slots q) (kk : ∀ (r : σ) (M' : JM), gn M ≤ gn M' → (∀ k : Nat, ev r = some (.ref (b + k)) → oty M' k 11) → AWO p l e R s m args below meth c D cs b nL H0 Qf (K r M') M' (ks + rm.cells) (sl + rm.slots) lv (pc + 3) ((ev r).toList ++ rest)) : AWO p l e R s m args below meth c D cs b nL H0 Qf (ob G K) M ks sl lv pc st := by
  subst hst
  refine aw_call (av := .ref (b + k) :: As) (fun q hq H L ls h1 h3 => ?_) kk
  refine va_runI (As := As) (rest := rest) (b := b + k) ⟨X.1, X.2.1, X.2.2.1, X.2.2.2.2.1, X.2.2.2.1⟩ (hM q hq) ⟨callB_of n X.2.2.2.1 (jGood w4) rfl rfl rfl (X.2.2.2.1 _ w5) (X.2.2.2.1 _ w1) hd hR, hy1, X.2.2.2.1 _ w2⟩ ⟨jFB, fun U hU hW' => ⟨rfl, by rw [hU]; exact h1, jKn.warm hW' X.2.2.2.2.2.1⟩⟩ rfl hn h3.1 rfl (lv_room hW) hdg hroom
theorem aw_callS (X : jX p c cc nL s m args own D cs b meth H0) (As rest : List Value) (hst : st = As.reverse ++ rest) (w1 : Cond.methodLink own index y ∈ GB) (w2 : Cond.static y ∈ GB) (w4 : Cond.code y bytes maxL ret ∈ GB) (w5 : Cond.initialized y.cls ∈ GB) (hd : jHd y n) (hn : As.length = n) (hR : jRm rm maxL R) (hW : (rest.map fun v => v.category).sum ≤ 8) (hroom : ks + rm.cells ≤ R.cells ∧ sl + rm.slots ≤ R.slots) (hdg : decode cc pc = .ok (.invokestatic index, 3))
    (hM : ∀ q, G = some q → CTy l y (.code y bytes maxL ret :: GB) rm D cs b ev As M rm.cells rm.slots q) (kk : ∀ (r : σ) (M' : JM), gn M ≤ gn M' → (∀ k : Nat, ev r = some (.ref (b + k)) → oty M' k 11) → AWO p l e R s m args below meth c D cs b nL H0 Qf (K r M') M' (ks + rm.cells) (sl + rm.slots) lv (pc + 3) ((ev r).toList ++ rest)) : AWO p l e R s m args below meth c D cs b nL H0 Qf (ob G K) M ks sl lv pc st := by
  subst hst
  refine aw_call (av := As) (fun q hq H L ls h1 h3 => ?_) kk
  refine va_runS (As := As) (rest := rest) ⟨X.1, X.2.1, X.2.2.1, X.2.2.2.2.1, X.2.2.2.1⟩ (hM q hq) ⟨callB_of n X.2.2.2.1 (jGood w4) rfl rfl rfl (X.2.2.2.1 _ w5) (X.2.2.2.1 _ w1) hd hR, X.2.2.2.1 _ w2⟩ ⟨jFB, fun U hU hW' => ⟨rfl, by rw [hU]; exact h1, jKn.warm hW' X.2.2.2.2.2.1⟩⟩ rfl hn h3.1 rfl (lv_room hW) hdg hroom
theorem aw_callSN (X : jX p c cc nL s m args own D cs b meth H0) (host : String) (As rest : List Value) (hst : st = As.reverse ++ rest) (w1 : va_Nw (.methodLinkNest own index y host) s) (w2 : Cond.static y ∈ GB) (w4 : Cond.code y bytes maxL ret ∈ GB) (w5 : Cond.initialized y.cls ∈ GB) (hd : jHd y n) (hn : As.length = n) (hR : jRm rm maxL R) (hW : (rest.map fun v => v.category).sum ≤ 8) (hroom : ks + rm.cells ≤ R.cells ∧ sl + rm.slots ≤ R.slots) (hdg : decode cc pc = .ok (.invokestatic index, 3))
    (hM : ∀ q, G = some q → CTy l y (.code y bytes maxL ret :: GB) rm D cs b ev As M rm.cells rm.slots q) (kk : ∀ (r : σ) (M' : JM), gn M ≤ gn M' → (∀ k : Nat, ev r = some (.ref (b + k)) → oty M' k 11) → AWO p l e R s m args below meth c D cs b nL H0 Qf (K r M') M' (ks + rm.cells) (sl + rm.slots) lv (pc + 3) ((ev r).toList ++ rest)) : AWO p l e R s m args below meth c D cs b nL H0 Qf (ob G K) M ks sl lv pc st := by
  subst hst
  refine aw_call (av := As) (fun q hq H L ls h1 h3 => ?_) kk
  refine va_runSN (As := As) (rest := rest) ⟨X.1, X.2.1, X.2.2.1, X.2.2.2.2.1, X.2.2.2.1⟩ (hM q hq) ⟨va_cnB n X.2.2.2.1 (jGood w4) rfl rfl rfl w1 (X.2.2.2.1 _ w5) hd hR, X.2.2.2.1 _ w2, trivial⟩ ⟨jFB, fun U hU hW' => ⟨rfl, by rw [hU]; exact h1, jKn.warm hW' X.2.2.2.2.2.1⟩⟩ rfl hn h3.1 rfl (lv_room hW) hdg hroom
theorem aw_callIN (X : jX p c cc nL s m args own D cs b meth H0) (host : String) (As rest : List Value) (hst : st = As.reverse ++ .ref (b + k) :: rest) (w1 : va_Nw (.methodLinkNest own index y host) s) (w2 : Cond.instanceMethod y ∈ GB) (w4 : Cond.code y bytes maxL none ∈ GB) (w5 : Cond.initialized y.cls ∈ GB) (hy1 : y.name = "<init>") (hd : jHd y n) (hn : As.length = n) (hR : jRm rm maxL R) (hW : (rest.map fun v => v.category).sum ≤ 8) (hroom : ks + rm.cells ≤ R.cells ∧ sl + rm.slots ≤ R.slots) (hdg : decode cc pc = .ok (.invokespecial index, 3))
    (hM : ∀ q, G = some q → CTy l y (.code y bytes maxL none :: GB) rm D cs b ev (.ref (b + k) :: As) M rm.cells rm.slots q) (kk : ∀ (r : σ) (M' : JM), gn M ≤ gn M' → (∀ k : Nat, ev r = some (.ref (b + k)) → oty M' k 11) → AWO p l e R s m args below meth c D cs b nL H0 Qf (K r M') M' (ks + rm.cells) (sl + rm.slots) lv (pc + 3) ((ev r).toList ++ rest)) : AWO p l e R s m args below meth c D cs b nL H0 Qf (ob G K) M ks sl lv pc st := by
  subst hst
  refine aw_call (av := .ref (b + k) :: As) (fun q hq H L ls h1 h3 => ?_) kk
  refine va_runIN (As := As) (rest := rest) (b := b + k) ⟨X.1, X.2.1, X.2.2.1, X.2.2.2.2.1, X.2.2.2.1⟩ (hM q hq) ⟨va_cnB n X.2.2.2.1 (jGood w4) rfl rfl rfl w1 (X.2.2.2.1 _ w5) hd hR, hy1, X.2.2.2.1 _ w2⟩ ⟨jFB, fun U hU hW' => ⟨rfl, by rw [hU]; exact h1, jKn.warm hW' X.2.2.2.2.2.1⟩⟩ rfl hn h3.1 rfl (lv_room hW) hdg hroom
end ROWS4
