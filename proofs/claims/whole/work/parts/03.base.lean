/-! The memory of class and reference as one value: ints, references by place, how many cells. Places count from the law's own start; the address of place k is b + k. -/
abbrev JM : Type := (Nat → Int32 → Int32) × (Nat → Int32 → Option Nat) × Nat
def gi (M : JM) (k : Nat) (j : Int32) : Int32 := M.1 k j
def gr (M : JM) (k : Nat) (j : Int32) : Option Nat := M.2.1 k j
def gn (M : JM) : Nat := M.2.2
def si (M : JM) (k : Nat) (j v : Int32) : JM := (fun k' j' => if k' = k ∧ j' = j then v else M.1 k' j', M.2.1, M.2.2)
def sr (M : JM) (k : Nat) (j : Int32) (o : Option Nat) : JM := (M.1, fun k' j' => if k' = k ∧ j' = j then o else M.2.1 k' j', M.2.2)
def al (M : JM) : JM := (fun k j => if k = M.2.2 then 0 else M.1 k j, fun k j => if k = M.2.2 then none else M.2.1 k j, M.2.2 + 1)
/-- n elements of the array at src from sp on come to the array at dst from dp on -/
def cpm (M : JM) (src : Nat) (sp : Int32) (dst : Nat) (dp n : Int32) : JM := (fun k j => if k = dst ∧ dp ≤ j ∧ j < dp + n then M.1 src (sp + (j - dp)) else M.1 k j, M.2.1, M.2.2)
theorem gi_si (M : JM) (k : Nat) (j v : Int32) (k' : Nat) (j' : Int32) : gi (si M k j v) k' j' = if k' = k ∧ j' = j then v else gi M k' j' := rfl
theorem gi_sr (M : JM) (k : Nat) (j : Int32) (o : Option Nat) (k' : Nat) (j' : Int32) : gi (sr M k j o) k' j' = gi M k' j' := rfl
theorem gr_si (M : JM) (k : Nat) (j v : Int32) (k' : Nat) (j' : Int32) : gr (si M k j v) k' j' = gr M k' j' := rfl
theorem gr_sr (M : JM) (k : Nat) (j : Int32) (o : Option Nat) (k' : Nat) (j' : Int32) : gr (sr M k j o) k' j' = if k' = k ∧ j' = j then o else gr M k' j' := rfl
theorem gn_si (M : JM) (k : Nat) (j v : Int32) : gn (si M k j v) = gn M := rfl
theorem gn_sr (M : JM) (k : Nat) (j : Int32) (o : Option Nat) : gn (sr M k j o) = gn M := rfl
theorem gi_al (M : JM) (k : Nat) (j : Int32) : gi (al M) k j = if k = gn M then 0 else gi M k j := rfl
theorem gr_al (M : JM) (k : Nat) (j : Int32) : gr (al M) k j = if k = gn M then none else gr M k j := rfl
theorem gn_al (M : JM) : gn (al M) = gn M + 1 := rfl
theorem gi_cpm (M : JM) (src : Nat) (sp : Int32) (dst : Nat) (dp n : Int32) (k : Nat) (j : Int32) : gi (cpm M src sp dst dp n) k j = if k = dst ∧ dp ≤ j ∧ j < dp + n then gi M src (sp + (j - dp)) else gi M k j := rfl
theorem gr_cpm (M : JM) (src : Nat) (sp : Int32) (dst : Nat) (dp n : Int32) (k : Nat) (j : Int32) : gr (cpm M src sp dst dp n) k j = gr M k j := rfl
theorem gn_cpm (M : JM) (src : Nat) (sp : Int32) (dst : Nat) (dp n : Int32) : gn (cpm M src sp dst dp n) = gn M := rfl
/-- a step that may fail, and what comes behind it -/
def ob {ρ σ : Type} (o : Option (ρ × JM)) (K : ρ → JM → Option σ) : Option σ := match o with
  | none => none
  | some q => K q.1 q.2
def orf {σ : Type} (o : Option Nat) (K : Nat → Option σ) : Option σ := match o with
  | none => none
  | some k => K k
theorem ob_some {ρ σ : Type} (q : ρ × JM) (K : ρ → JM → Option σ) : ob (some q) K = K q.1 q.2 := rfl
theorem orf_some {σ : Type} (k : Nat) (K : Nat → Option σ) : orf (some k) K = K k := rfl
/-- an answer of type boolean, as an int -/
def bI (b : Bool) : Int32 := if b then 1 else 0
/-! the places' shapes: an object of a class (0, its place in vwCl); rows: 1 of int, 2 of boolean, 3 of Category, 4 of Track, each with its length -/
def shpL : List (Nat × Nat) := [(0, 7), (3, 3), (0, 4), (1, 300), (0, 3), (0, 0), (1, 300), (1, 8), (1, 168), (1, 168), (0, 0), (1, 300), (1, 8), (1, 168), (1, 168), (0, 2), (1, 1218), (1, 22), (0, 6), (4, 12),
  (0, 5), (0, 5), (0, 5), (0, 5), (0, 5), (0, 5), (0, 5), (0, 5), (0, 5), (0, 5), (0, 5), (0, 5),
  (0, 8), (1, 3), (1, 66), (1, 66), (1, 924), (1, 3), (1, 3), (1, 300), (1, 300), (1, 9), (1, 176), (1, 176), (1, 9), (1, 176), (1, 176), (2, 22), (1, 22), (1, 1320), (1, 12), (1, 12), (1, 12), (1, 12), (1, 12), (1, 12), (1, 12), (1, 12), (1, 12), (1, 12), (2, 22),
  (0, 1), (1, 22), (1, 22), (1, 308), (0, 1), (1, 22), (1, 22), (1, 308), (0, 1), (1, 22), (1, 22), (1, 308)]
def shp (k : Nat) : Nat × Nat := shpL[k]?.getD (9, 0)
def ln (k : Nat) : Int32 := nI (shp k).2
/-- a class's fields: 0 an int, else what a reference there is of -/
def ftyL : List (List Nat) := [[0, 0, 1, 0, 1, 1, 1], [0, 1, 1, 1, 0, 0], [0, 1, 1], [1, 11, 0, 0, 0, 0], [1, 0], [0, 0, 0, 0, 0, 0, 0, 0, 0], [4, 0, 0, 0, 0], [3, 0, 14, 13, 10, 10, 12, 16, 0, 0],
  [0, 1, 1, 1, 1, 1, 1, 1, 0, 0, 0, 0, 0, 0, 0, 0, 1, 1, 1, 1, 0, 1, 1, 1, 2, 0, 1, 1, 0, 1, 1, 1, 1, 1, 1, 1, 1, 1, 1, 0, 0, 0, 0, 0, 0, 2]]
def fty (ci : Nat) : List Nat := ftyL[ci]?.getD []
def tc (q : Nat × Nat) : Nat := if q.1 = 0 then 10 + q.2 else q.1
def rty (q : Nat × Nat) (j : Int32) : Nat := if q.1 = 0 then (fty q.2)[j.toNatClampNeg]?.getD 0 else if q.1 = 3 then 11 else if q.1 = 4 then 15 else 0
/-- a place that is there, and what is there -/
def oty (M : JM) (k τ : Nat) : Prop := k < gn M ∧ tc (shp k) = τ
theorem oty.si {M : JM} {k τ : Nat} (h : oty M k τ) (a : Nat) (j v : Int32) : oty (si M a j v) k τ := h
theorem oty.sr {M : JM} {k τ : Nat} (h : oty M k τ) (a : Nat) (j : Int32) (o : Option Nat) : oty (sr M a j o) k τ := h
theorem oty.mono {M M' : JM} {k τ : Nat} (h : oty M k τ) (g : gn M ≤ gn M') : oty M' k τ := ⟨Nat.lt_of_lt_of_le h.1 g, h.2⟩
theorem shp_len (k : Nat) : (shp k).2 < 2000 := by
  unfold shp
  cases h : shpL[k]? with
  | none => decide
  | some q =>
    have h1 : ∀ q ∈ shpL, q.2 < 2000 := by decide +kernel
    exact h1 q (List.mem_of_getElem? h)
def jT (M : JM) : Prop := ∀ (k : Nat) (j : Int32) (r : Nat), k < gn M → gr M k j = some r → r < gn M ∧ tc (shp r) = rty (shp k) j
def vr (b : Nat) (o : Option Nat) : Value := va_rf (o.map (fun k => b + k))
def fldV (b : Nat) (M : JM) (k : Nat) (ty : List Nat) : List Value := (List.range ty.length).map fun j => if ty[j]?.getD 0 = 0 then .int (gi M k (nI j)) else vr b (gr M k (nI j))
abbrev JC : Type := ClassId × ClassId × ClassId × ClassId
def ent (b : Nat) (cs : JC) (M : JM) (k : Nat) : va_E :=
  if (shp k).1 = 0 then .inr ((shp k).2, fldV b M k (fty (shp k).2))
  else if (shp k).1 = 1 then .inl (cs.1, (shp k).2, .inl fun j => gi M k (nI j))
  else if (shp k).1 = 2 then .inl (cs.2.1, (shp k).2, .inl fun j => gi M k (nI j))
  else if (shp k).1 = 3 then .inl (cs.2.2.1, (shp k).2, .inr (.inr (.inr (.inr fun j => (gr M k (nI j)).map (fun k => b + k)))))
  else .inl (cs.2.2.2, (shp k).2, .inr (.inr (.inr (.inr fun j => (gr M k (nI j)).map (fun k => b + k)))))
def jtys (cs : JC) : List (ClassId × FieldType) := [(cs.1, .int), (cs.2.1, .boolean), (cs.2.2.1, .object RX1), (cs.2.2.2, .object RX5)]
/-- the heap holds the memory -/
def jR (D : va_G) (cs : JC) (b : Nat) (M : JM) (H : Heap) : Prop := H.size = b + gn M ∧ (∀ k, k < gn M → va_at D vwCl (b + k, ent b cs M k) H) ∧ jT M
theorem tc_obj {q : Nat × Nat} {ci : Nat} (h : tc q = 10 + ci) (hs : q.1 < 10) : q = (0, ci) := by
  unfold tc at h
  obtain ⟨a, d⟩ := q
  dsimp only at h hs
  split at h
  · rename_i h0
    subst h0
    have : d = ci := by omega
    rw [this]
  · omega
theorem shp_fst (k : Nat) : (shp k).1 < 10 := by
  unfold shp
  cases h : shpL[k]? with
  | none => decide
  | some q =>
    have h1 : ∀ q ∈ shpL, q.1 < 10 := by decide +kernel
    exact h1 q (List.mem_of_getElem? h)
theorem tc_row {q : Nat × Nat} {a : Nat} (h : tc q = a) (hs : a < 10) : q.1 = a := by
  unfold tc at h
  split at h
  · omega
  · exact h
theorem ent_obj {b : Nat} {cs : JC} {M : JM} {k ci : Nat} (h : tc (shp k) = 10 + ci) : ent b cs M k = .inr (ci, fldV b M k (fty ci)) := by
  have h1 := tc_obj h (shp_fst k)
  unfold ent
  rw [h1]
  rfl
theorem ent_int {b : Nat} {cs : JC} {M : JM} {k : Nat} (h : tc (shp k) = 1) : ent b cs M k = .inl (cs.1, (shp k).2, .inl fun j => gi M k (nI j)) := by
  have h1 := tc_row h (by decide)
  unfold ent
  rw [if_neg (by rw [h1]; decide), if_pos h1]
theorem ent_bool {b : Nat} {cs : JC} {M : JM} {k : Nat} (h : tc (shp k) = 2) : ent b cs M k = .inl (cs.2.1, (shp k).2, .inl fun j => gi M k (nI j)) := by
  have h1 := tc_row h (by decide)
  unfold ent
  rw [if_neg (by rw [h1]; decide), if_neg (by rw [h1]; decide), if_pos h1]
theorem ent_cat {b : Nat} {cs : JC} {M : JM} {k : Nat} (h : tc (shp k) = 3) : ent b cs M k = .inl (cs.2.2.1, (shp k).2, .inr (.inr (.inr (.inr fun j => (gr M k (nI j)).map (fun k => b + k))))) := by
  have h1 := tc_row h (by decide)
  unfold ent
  rw [if_neg (by rw [h1]; decide), if_neg (by rw [h1]; decide), if_neg (by rw [h1]; decide), if_pos h1]
theorem ent_trk {b : Nat} {cs : JC} {M : JM} {k : Nat} (h : tc (shp k) = 4) : ent b cs M k = .inl (cs.2.2.2, (shp k).2, .inr (.inr (.inr (.inr fun j => (gr M k (nI j)).map (fun k => b + k))))) := by
  have h1 := tc_row h (by decide)
  unfold ent
  rw [if_neg (by rw [h1]; decide), if_neg (by rw [h1]; decide), if_neg (by rw [h1]; decide), if_neg (by rw [h1]; decide)]
theorem nI_cl {i : Int32} (h : ¬ i < 0) : nI i.toNatClampNeg = i := by
  obtain ⟨j, hj, rfl⟩ := nI_of h
  rw [nI_clamp hj]
theorem nI_inj {a c : Nat} (ha : a < 2 ^ 31) (hc : c < 2 ^ 31) (h : nI a = nI c) : a = c := (nI_eq ha hc).mp h
/-- an index within, as the programs ask it -/
theorem in_of {i : Int32} {n : Nat} (hn : n < 2000) (h : 0 ≤ i ∧ i < nI n) : vp_in i n ∧ nI i.toNatClampNeg = i ∧ i.toNatClampNeg < n := by
  have h0 : ¬ i < 0 := Int32.not_lt.mpr h.1
  obtain ⟨j, hj, rfl⟩ := nI_of h0
  have h1 : j < n := (nI_ltI hj (by omega)).mp h.2
  exact ⟨vp_in_nI h1 (by omega), nI_cl h0, by rw [nI_clamp hj]; exact h1⟩
theorem fldV_get {b : Nat} {M : JM} {k : Nat} {ty : List Nat} {j : Nat} (h : j < ty.length) : (fldV b M k ty)[j]? = some (if ty[j]?.getD 0 = 0 then .int (gi M k (nI j)) else vr b (gr M k (nI j))) := by
  unfold fldV
  simp [h]
theorem fldV_len {b : Nat} {M : JM} {k : Nat} {ty : List Nat} : (fldV b M k ty).length = ty.length := by simp [fldV]
/-- the cells behind a store: one is another, the rest are as they were -/
theorem jR.set {D : va_G} {cs : JC} {b : Nat} {M M' : JM} {H H1 : Heap} {k : Nat} (h : jR D cs b M H) (hz : H1.size = H.size) (ho : ∀ q : Nat, q ≠ b + k → H1[q]? = H[q]?) (hn : gn M' = gn M) (he : ∀ i, i < gn M → i ≠ k → ent b cs M' i = ent b cs M i) (hk : va_at D vwCl (b + k, ent b cs M' k) H1) (hT : jT M') : jR D cs b M' H1 := by
  refine ⟨by rw [hz, h.1, hn], fun i hi => ?_, hT⟩
  rw [hn] at hi
  by_cases hik : i = k
  · rw [hik]; exact hk
  · rw [he i hi hik]
    exact (h.2.1 i hi).kept (ho _ (by show b + i ≠ b + k; omega))
theorem ent_same {b : Nat} {cs : JC} {M M' : JM} {i : Nat} (h1 : ∀ j, gi M' i j = gi M i j) (h2 : ∀ j, gr M' i j = gr M i j) : ent b cs M' i = ent b cs M i := by
  unfold ent fldV
  simp only [h1, h2]
theorem jT_si {M : JM} (h : jT M) (k : Nat) (j v : Int32) : jT (si M k j v) := h
theorem jT_cpm {M : JM} (h : jT M) (k k' : Nat) (j j' v : Int32) : jT (cpm M k j k' j' v) := h
theorem jT_sr {M : JM} (h : jT M) {k : Nat} {j : Int32} {o : Option Nat} (ho : ∀ r, o = some r → r < gn M ∧ tc (shp r) = rty (shp k) j) : jT (sr M k j o) := by
  intro k' j' r hk hr
  rw [gr_sr] at hr
  split at hr
  · rename_i hc
    rw [hc.1, hc.2]
    exact ho r hr
  · exact h k' j' r hk hr
theorem jT_al {M : JM} (h : jT M) : jT (al M) := by
  intro k j r hk hr
  rw [gr_al] at hr
  split at hr
  · cases hr
  · rename_i hc
    have := h k j r (by rw [gn_al] at hk; omega) hr
    exact ⟨by rw [gn_al]; omega, this.2⟩
/-- a new cell -/
theorem jR.new {D : va_G} {cs : JC} {b : Nat} {M : JM} {H H1 : Heap} (h : jR D cs b M H) (hz : H1.size = H.size + 1) (ho : ∀ q : Nat, q < H.size → H1[q]? = H[q]?) (hk : va_at D vwCl (b + gn M, ent b cs (al M) (gn M)) H1) : jR D cs b (al M) H1 := by
  refine ⟨by rw [hz, h.1, gn_al]; omega, fun i hi => ?_, jT_al h.2.2⟩
  rw [gn_al] at hi
  by_cases hik : i = gn M
  · rw [hik]; exact hk
  · rw [ent_same (M := M) (fun j => by rw [gi_al, if_neg hik]) (fun j => by rw [gr_al, if_neg hik])]
    exact (h.2.1 i (by omega)).kept (ho _ (by show b + i < H.size; rw [h.1]; omega))
theorem arrV_congr {cI : ClassId} {N : Nat} {f g : Nat → Value} (h : ∀ j, j < N → f j = g j) : arrV cI N f = arrV cI N g := by
  unfold arrV
  congr 2
  funext j
  exact h j.val j.isLt
def jKn (D : va_G) (cs : JC) (U : State) : Prop := va_K D vwCl (jtys cs) U ∧ va_Nw nw_X6_17 U ∧ va_Nw nw_X3_44 U ∧ va_AO RX1 U ∧ va_AO RX5 U
theorem jKn.warm {D : va_G} {cs : JC} {u U : State} (hW : u.WarmedH U.vm) (h : jKn D cs u) : jKn D cs U := ⟨va_K.moved hW.alike h.1, va_Nw.warmM hW h.2.1, va_Nw.warmM hW h.2.2.1, va_AO.moved hW.alike h.2.2.2.1, va_AO.moved hW.alike h.2.2.2.2⟩
theorem jKn.same {D : va_G} {cs : JC} {u U : State} (hv : u.vm = U.vm) (h : jKn D cs u) : jKn D cs U := ⟨va_K.moved (by rw [hv]; exact Vm.Alike.refl _) h.1, va_Nw.same rfl hv h.2.1, va_Nw.same rfl hv h.2.2.1, va_AO.moved (by rw [hv]; exact Vm.Alike.refl _) h.2.2.2.1, va_AO.moved (by rw [hv]; exact Vm.Alike.refl _) h.2.2.2.2⟩
