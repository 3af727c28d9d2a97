/-! THE LAYER: a world of N cells of fixed shape, whose ints are one memory M : cell number → place → Int32 -/
abbrev Mm : Type := Nat → Nat → Int32
abbrev gSh : Type := Nat → (Nat → Int32) → va_E
def gU (M : Mm) (k j : Nat) (v : Int32) : Mm := va_up M k (upd (M k) j v)
def gCp (M : Mm) (a b sp dp n : Nat) : Mm := va_up M b (va_cpy (M a) (M b) sp dp n)
def gW (N : Nat) (ad : Nat → Nat) (sh : gSh) (M : Mm) : va_W := (List.range N).map (fun k => (ad k, sh k (M k)))
def gA (N : Nat) (ad : Nat → Nat) : Nat → Prop := fun q => ∃ k, k < N ∧ q = ad k
def gI (N : Nat) (ad : Nat → Nat) : Prop := ∀ i j, i < N → j < N → ad i = ad j → i = j
theorem gW_get {N : Nat} {ad : Nat → Nat} {sh : gSh} {M : Mm} {k : Nat} (h : k < N) : (gW N ad sh M)[k]? = some (ad k, sh k (M k)) := by
  unfold gW
  rw [List.getElem?_map, List.getElem?_range h]
  rfl
theorem gW_none {N : Nat} {ad : Nat → Nat} {sh : gSh} {M : Mm} {k : Nat} (h : ¬ k < N) : (gW N ad sh M)[k]? = none := by
  apply List.getElem?_eq_none
  unfold gW
  rw [List.length_map, List.length_range]
  omega
theorem gW_of {N : Nat} {ad : Nat → Nat} {sh : gSh} {M : Mm} {k : Nat} {q : Nat × va_E} (h : (gW N ad sh M)[k]? = some q) : k < N ∧ q = (ad k, sh k (M k)) := by
  by_cases hk : k < N
  · rw [gW_get hk] at h
    exact ⟨hk, (Option.some.inj h).symm⟩
  · rw [gW_none hk] at h
    cases h
theorem gW_set {N : Nat} {ad : Nat → Nat} {sh : gSh} {M : Mm} {k : Nat} (h : k < N) {f : Nat → Int32} {e : va_E} (he : sh k f = e) : (gW N ad sh M).set k (ad k, e) = gW N ad sh (va_up M k f) := by
  apply List.ext_getElem?
  intro i
  by_cases hi : i < N
  · rw [gW_get hi]
    by_cases hik : i = k
    · subst hik
      rw [List.getElem?_set_self (by unfold gW; rw [List.length_map, List.length_range]; exact h)]
      simp [va_up, he]
    · rw [List.getElem?_set_ne (Ne.symm hik), gW_get hi]
      simp [va_up, hik]
  · rw [gW_none hi]
    apply List.getElem?_eq_none
    rw [List.length_set]
    unfold gW
    rw [List.length_map, List.length_range]
    omega
theorem gW_D {N : Nat} {ad : Nat → Nat} {sh : gSh} {M : Mm} (hI : gI N ad) : va_D (gA N ad) (gW N ad sh M) := by
  refine ⟨fun i j p q hi hj h => ?_, fun k q hk => ?_⟩
  · obtain ⟨h1, rfl⟩ := gW_of hi
    obtain ⟨h2, rfl⟩ := gW_of hj
    exact hI i j h1 h2 h
  · obtain ⟨h1, rfl⟩ := gW_of hk
    exact ⟨k, h1, rfl⟩
def gTys (cy : Nat → ClassId) : List (ClassId × FieldType) := [(cy 0, .int), (cy 1, .byte), (cy 2, .boolean), (cy 3, .object "PaperHouses$Folk"), (cy 4, .object "PaperHouses$Paper"), (cy 5, .object "PaperHouses$Row"), (cy 6, .array .int)]
def gK (D : va_G) (cy : Nat → ClassId) (U : State) : Prop := va_K D vwCl (gTys cy) U ∧ (∀ q ∈ gNF, va_Nw (.fieldLinkNest q.1 q.2.1 q.2.2.1 q.2.2.2.1 q.2.2.2.2.1 q.2.2.2.2.2) U) ∧ (∀ q ∈ gNM, va_Nw (.methodLinkNest q.1 q.2.1 q.2.2.1 q.2.2.2) U) ∧ (∀ q ∈ gNC, va_Nw (.castable q.1 q.2) U) ∧ (∀ q ∈ gNO, va_Nc q.1 q.2 U) ∧ va_Nw (.declares ⟨"PaperHouses$Folk", "sees", "(LPaperHouses$Paper;I)I"⟩) U
theorem gK.warm {D : va_G} {cy : Nat → ClassId} {s U : State} (hW : s.WarmedH U.vm) (h : gK D cy s) : gK D cy U :=
  ⟨va_K.moved hW.alike h.1, fun q hq => va_Nw.warmF hW (h.2.1 q hq), fun q hq => va_Nw.warmM hW (h.2.2.1 q hq), fun q hq => va_Nw.warmC hW (h.2.2.2.1 q hq), fun q hq => va_Nc.moved hW.alike (h.2.2.2.2.1 q hq), va_Nw.warmD hW h.2.2.2.2.2⟩
theorem gK.same {D : va_G} {cy : Nat → ClassId} {u U : State} (hv : u.vm = U.vm) (h : gK D cy u) : gK D cy U :=
  ⟨va_K.moved (by rw [hv]; exact Vm.Alike.refl U.vm) h.1, fun q hq => va_Nw.same rfl hv (h.2.1 q hq), fun q hq => va_Nw.same rfl hv (h.2.2.1 q hq), fun q hq => va_Nw.same rfl hv (h.2.2.2.1 q hq), fun q hq => va_Nc.moved (by rw [hv]; exact Vm.Alike.refl U.vm) (h.2.2.2.2.1 q hq), va_Nw.same rfl hv h.2.2.2.2.2⟩
def gPre (D : va_G) (cy : Nat → ClassId) (N : Nat) (ad : Nat → Nat) (sh : gSh) (M : Mm) (U : State) : Prop := va_P D vwCl (gW N ad sh M) U.heap ∧ gK D cy U
def wT (y : MethodName) (b : ByteArray) (n : Nat) (r : Option FieldType) : List Cond := .code y b n r :: wsL_law
abbrev gRm (fr lo : Nat) : Room := { frames := fr, cells := 0, slots := 0, locals := lo }
abbrev gB (D : va_G) (N : Nat) (ad : Nat → Nat) (sh : gSh) : Mm → State → Prop := fun u t => va_P D vwCl (gW N ad sh u) t.heap
abbrev gQi (D : va_G) (N : Nat) (ad : Nat → Nat) (sh : gSh) (K : Int32 → Mm → Prop) : Array Value → State → Outcome → State → Prop := va_Qi K (gB D N ad sh) (gA N ad)
abbrev gQv (D : va_G) (N : Nat) (ad : Nat → Nat) (sh : gSh) (K : Mm → Prop) : Array Value → State → Outcome → State → Prop := va_Qv K (gB D N ad sh) (gA N ad)
abbrev gQe (D : va_G) (N : Nat) (ad : Nat → Nat) (sh : gSh) (K : Option Nat → Mm → Prop) : Array Value → State → Outcome → State → Prop := va_Qe ad K (gB D N ad sh) (gA N ad)
/-- a contract over such a world: from memory M with arguments av -/
def gM (l : Launch) (D : va_G) (cy : Nat → ClassId) (N : Nat) (ad : Nat → Nat) (sh : gSh) (y : MethodName) (b : ByteArray) (n : Nat) (r : Option FieldType) (fr lo : Nat) (av : List Value) (M : Mm) (Qc : Array Value → State → Outcome → State → Prop) : Prop :=
  Met l y (wT y b n r) (gRm fr lo) (va_Pc av (gPre D cy N ad sh M)) Qc 0 0 (gA N ad)
/-- what stands all along a method's walk -/
def gX (p : Program) (s : State) (m : MethodId) (args : Array Value) (meth : Method) (c : Code) (cc : ByteArray) (nL : Nat) (own : String) (ret : Option FieldType) (D : va_G) (cy : Nat → ClassId) (N : Nat) (ad : Nat → Nat) : Prop :=
  p.tables.exec = Jvm.exec ∧ c.code = cc ∧ c.maxLocals = nL ∧ s.vm.findClass own = some m.cls ∧ (∀ w ∈ wsL_law, w.before args s = true) ∧ gK D cy s ∧ gI N ad ∧ meth.locks = false ∧ meth.sig.returnType = ret
/-- the world at a point of the walk -/
def gS (D : va_G) (s : State) (N : Nat) (ad : Nat → Nat) (sh : gSh) (H : Heap) (locs : List Loc) (M : Mm) : Prop := va_P D vwCl (gW N ad sh M) H ∧ va_S (gA N ad) s.heap H locs
theorem gM.of {l : Launch} {D : va_G} {cy : Nat → ClassId} {N : Nat} {ad : Nat → Nat} {sh : gSh} {y : MethodName} {b : ByteArray} {n : Nat} {r : Option FieldType} {fr lo : Nat} {av : List Value} {M : Mm} {Qc : Array Value → State → Outcome → State → Prop} {own : String} (hy : plainName y.cls = true) (hw : y.cls = own) (hI : gI N ad) (hlen : (lg_sl av).length ≤ n) {lv : List (Nat × Value)} (hlv : lv_args 0 av = lv)
    (body : ∀ (p : Program) (e : Env) (s : State) (m : MethodId) (below : List Frame) (meth : Method) (c : Code) (ls : Array Slot) (H : Heap) (locs : List Loc), gX p s m av.toArray meth c b n own r D cy N ad → gS D s N ad sh H locs M → lv_has ls n lv → W p l e (gRm fr lo) s m av.toArray below meth c H locs 0 0 (MQ below Qc av.toArray s 0 0 (gA N ad)) (F0 m 0 ls [])) : gM l D cy N ad sh y b n r fr lo av M Qc := by
  refine Met.ofW (cc := b) (maxL := n) (ret := r) hy rfl ?_
  intro p e s m args below meth c s₁ B hml hv
  obtain ⟨rfl, hP, hK⟩ := hv
  have hts := atoms_spec (ws := wT y b n r) B.pre
  have hown : s.vm.findClass y.cls = some m.cls := findClass_of_methodNamed B.named
  have hl := lv_entry av (n := n) hlen
  rw [lg_entry_eq]
  generalize (lg_sl av ++ List.replicate (n - (lg_sl av).length) Slot.unset).toArray = ls at hl ⊢
  rw [hlv] at hl
  exact body p e s m below meth c ls s.heap [] ⟨B.exec, B.bytes, hml, by rw [← hw]; exact hown, fun w hw => hts w (List.mem_cons_of_mem _ hw), hK, hI, B.notSynchronized, B.returns⟩ ⟨hP, va_S.rf⟩ hl
section GROWS
variable {p : Program} {l : Launch} {e : Env} {R : Room} {s : State} {m : MethodId} {args : Array Value} {below : List Frame} {meth : Method} {c : Code} {H : Heap} {locs : List Loc} {cells slots : Nat} {Q : State → Prop} {cc : ByteArray} {pc : Nat} {ls : Array Slot} {rest : List Value} {D : va_G} {cy : Nat → ClassId} {N nL : Nat} {ad : Nat → Nat} {sh : gSh} {own : String} {ret : Option FieldType} {M : Mm}
theorem gS.put {k : Nat} {f : Nat → Int32} {x : va_E} (X : gX p s m args meth c cc nL own ret D cy N ad) (hk : k < N) (he : sh k f = x) {H1 : Heap} {locs1 : List Loc} (hP : va_P D vwCl ((gW N ad sh M).set k (ad k, x)) H1) (hS : va_S (gA N ad) s.heap H1 locs1) : gS D s N ad sh H1 locs1 (va_up M k f) := by
  rw [gW_set hk he] at hP
  exact ⟨hP, hS⟩
theorem gq_get (X : gX p s m args meth c cc nL own ret D cy N ad) (G : gS D s N ad sh H locs M) {k ci j Nf : Nat} {fs : List Value} {C : String} {T : u_T} (hk : k < N) (he : sh k (M k) = .inr (ci, fs)) (hc : vwCl[ci]? = some (C, T, Nf)) (hj : j < Nf) (hin : ∀ w ∈ u_ws C T Nf, w ∈ wsL_law) {index : Nat} (hl : Cond.fieldLink own index (T j).1 (T j).2.1 (T j).2.2.1 ∈ wsL_law) {v : Value} (hv : fs[j]? = some v) (hdg : decode cc pc = .ok (.getfield index, 3))
    (kk : W p l e R s m args below meth c H locs cells slots Q (F0 m (pc + 3) ls (v :: rest))) : W p l e R s m args below meth c H locs cells slots Q (F0 m pc ls (.ref (ad k) :: rest)) :=
  va_get X.1 X.2.1 X.2.2.2.2.1 hin X.2.2.2.1 X.2.2.2.2.2.1.1 G.1 k (by rw [gW_get hk, he]) hc j hj (X.2.2.2.2.1 _ hl) (fun _ h => h) hv hdg kk
theorem gq_getN (X : gX p s m args meth c cc nL own ret D cy N ad) (G : gS D s N ad sh H locs M) {k ci j Nf : Nat} {fs : List Value} {C host : String} {T : u_T} (hk : k < N) (he : sh k (M k) = .inr (ci, fs)) (hc : vwCl[ci]? = some (C, T, Nf)) (hj : j < Nf) (hin : ∀ w ∈ u_ws C T Nf, w ∈ wsL_law) {index : Nat} (hl : (own, index, (T j).1, (T j).2.1, (T j).2.2.1, host) ∈ gNF) {v : Value} (hv : fs[j]? = some v) (hdg : decode cc pc = .ok (.getfield index, 3))
    (kk : W p l e R s m args below meth c H locs cells slots Q (F0 m (pc + 3) ls (v :: rest))) : W p l e R s m args below meth c H locs cells slots Q (F0 m pc ls (.ref (ad k) :: rest)) :=
  va_getN X.1 X.2.1 X.2.2.2.2.1 hin X.2.2.2.1 X.2.2.2.2.2.1.1 G.1 k (by rw [gW_get hk, he]) hc j hj (va_Nw.use rfl (X.2.2.2.2.2.1.2.1 _ hl)) (fun _ h => h) hv hdg kk
theorem gq_put (X : gX p s m args meth c cc nL own ret D cy N ad) (G : gS D s N ad sh H locs M) {k ci j Nf : Nat} {fs : List Value} {C : String} {T : u_T} (ty0 : Nat → FieldType) (hty : ∀ k, k < Nf → parseFieldDescriptor (T k).2.2.1 = some (ty0 k)) (hnm : ∀ a, a < Nf → ∀ b, b < Nf → a ≠ b → (T a).2.1 ≠ (T b).2.1) (hk : k < N) (he : sh k (M k) = .inr (ci, fs)) (hc : vwCl[ci]? = some (C, T, Nf)) (hj : j < Nf) (hin : ∀ w ∈ u_ws C T Nf, w ∈ wsL_law) {index : Nat} (hl : Cond.fieldLink own index (T j).1 (T j).2.1 (T j).2.2.1 ∈ wsL_law) (hfin : (T j).2.2.2 = false) {ty : FieldType} {v : Int32} (hd : parseFieldDescriptor (T j).2.2.1 = some ty) (hn : narrow ty (.int v) = .int v) (hfit : fits ty (.int v) = true) (hjl : j < fs.length) (he' : sh k (upd (M k) j v) = .inr (ci, fs.set j (.int v))) (hdg : decode cc pc = .ok (.putfield index, 3))
    (kk : ∀ (M1 : Mm) (H1 : Heap) (locs1 : List Loc), M1 = gU M k j v → gS D s N ad sh H1 locs1 M1 → W p l e R s m args below meth c H1 locs1 cells slots Q (F0 m (pc + 3) ls rest)) : W p l e R s m args below meth c H locs cells slots Q (F0 m pc ls (.int v :: .ref (ad k) :: rest)) :=
  va_put X.1 X.2.1 X.2.2.2.2.1 hin ty0 hty hnm X.2.2.2.1 X.2.2.2.2.2.1.1 G.1 (gW_D X.2.2.2.2.2.2.1) G.2 k (by rw [gW_get hk, he]) hc j hj (X.2.2.2.2.1 _ hl) (fun _ h => h) hfin hd hn hfit hjl hdg (fun H1 locs1 hP _ hS => kk _ H1 locs1 rfl (gS.put X hk he' hP hS))
theorem gq_putN (X : gX p s m args meth c cc nL own ret D cy N ad) (G : gS D s N ad sh H locs M) {k ci j Nf : Nat} {fs : List Value} {C host : String} {T : u_T} (ty0 : Nat → FieldType) (hty : ∀ k, k < Nf → parseFieldDescriptor (T k).2.2.1 = some (ty0 k)) (hnm : ∀ a, a < Nf → ∀ b, b < Nf → a ≠ b → (T a).2.1 ≠ (T b).2.1) (hk : k < N) (he : sh k (M k) = .inr (ci, fs)) (hc : vwCl[ci]? = some (C, T, Nf)) (hj : j < Nf) (hin : ∀ w ∈ u_ws C T Nf, w ∈ wsL_law) {index : Nat} (hl : (own, index, (T j).1, (T j).2.1, (T j).2.2.1, host) ∈ gNF) (hfin : (T j).2.2.2 = false) {ty : FieldType} {v : Int32} (hd : parseFieldDescriptor (T j).2.2.1 = some ty) (hn : narrow ty (.int v) = .int v) (hfit : fits ty (.int v) = true) (hjl : j < fs.length) (he' : sh k (upd (M k) j v) = .inr (ci, fs.set j (.int v))) (hdg : decode cc pc = .ok (.putfield index, 3))
    (kk : ∀ (M1 : Mm) (H1 : Heap) (locs1 : List Loc), M1 = gU M k j v → gS D s N ad sh H1 locs1 M1 → W p l e R s m args below meth c H1 locs1 cells slots Q (F0 m (pc + 3) ls rest)) : W p l e R s m args below meth c H locs cells slots Q (F0 m pc ls (.int v :: .ref (ad k) :: rest)) :=
  va_putN X.1 X.2.1 X.2.2.2.2.1 hin ty0 hty hnm X.2.2.2.1 X.2.2.2.2.2.1.1 G.1 (gW_D X.2.2.2.2.2.2.1) G.2 k (by rw [gW_get hk, he]) hc j hj (va_Nw.use rfl (X.2.2.2.2.2.1.2.1 _ hl)) (fun _ h => h) hfin hd hn hfit hjl hdg (fun H1 locs1 hP _ hS => kk _ H1 locs1 rfl (gS.put X hk he' hP hS))
/-- cell k is an object of kind ci -/
def gOb (sh : gSh) (N k ci : Nat) (fs : (Nat → Int32) → List Value) : Prop := k < N ∧ ∀ f : Nat → Int32, sh k f = .inr (ci, fs f)
def gAr (sh : gSh) (cy : Nat → ClassId) (N t k n : Nat) : Prop := k < N ∧ ∀ f : Nat → Int32, sh k f = .inl (cy t, n, .inl f)
theorem gq_iald (X : gX p s m args meth c cc nL own ret D cy N ad) (G : gS D s N ad sh H locs M) {k n : Nat} (ha : gAr sh cy N 0 k n) {i : Int32} (hin : vp_in i n) (hdg : decode cc pc = .ok (.iaload, 1))
    (kk : W p l e R s m args below meth c H locs cells slots Q (F0 m (pc + 1) ls (.int (M k i.toNatClampNeg) :: rest))) : W p l e R s m args below meth c H locs cells slots Q (F0 m pc ls (.int i :: .ref (ad k) :: rest)) :=
  va_iald X.1 X.2.1 X.2.2.2.2.2.1.1 G.1 k 0 (by rw [gW_get ha.1, ha.2]) rfl hin hdg kk
theorem gq_bald (X : gX p s m args meth c cc nL own ret D cy N ad) (G : gS D s N ad sh H locs M) {k n : Nat} (ha : gAr sh cy N 1 k n) {i : Int32} (hin : vp_in i n) (hdg : decode cc pc = .ok (.baload, 1))
    (kk : W p l e R s m args below meth c H locs cells slots Q (F0 m (pc + 1) ls (.int (M k i.toNatClampNeg) :: rest))) : W p l e R s m args below meth c H locs cells slots Q (F0 m pc ls (.int i :: .ref (ad k) :: rest)) :=
  va_bald X.1 X.2.1 X.2.2.2.2.2.1.1 G.1 k 1 (by rw [gW_get ha.1, ha.2]) rfl hin hdg kk
theorem gq_zald (X : gX p s m args meth c cc nL own ret D cy N ad) (G : gS D s N ad sh H locs M) {k n : Nat} (ha : gAr sh cy N 2 k n) {i : Int32} (hin : vp_in i n) (hdg : decode cc pc = .ok (.baload, 1))
    (kk : W p l e R s m args below meth c H locs cells slots Q (F0 m (pc + 1) ls (.int (M k i.toNatClampNeg) :: rest))) : W p l e R s m args below meth c H locs cells slots Q (F0 m pc ls (.int i :: .ref (ad k) :: rest)) :=
  va_zald X.1 X.2.1 X.2.2.2.2.2.1.1 G.1 k 2 (by rw [gW_get ha.1, ha.2]) rfl hin hdg kk
theorem gq_iast (X : gX p s m args meth c cc nL own ret D cy N ad) (G : gS D s N ad sh H locs M) {k n : Nat} (ha : gAr sh cy N 0 k n) {i x : Int32} (hin : vp_in i n) (hdg : decode cc pc = .ok (.iastore, 1))
    (kk : ∀ (M1 : Mm) (H1 : Heap) (locs1 : List Loc), M1 = gU M k i.toNatClampNeg x → gS D s N ad sh H1 locs1 M1 → W p l e R s m args below meth c H1 locs1 cells slots Q (F0 m (pc + 1) ls rest)) : W p l e R s m args below meth c H locs cells slots Q (F0 m pc ls (.int x :: .int i :: .ref (ad k) :: rest)) :=
  va_iast X.1 X.2.1 X.2.2.2.2.2.1.1 G.1 (gW_D X.2.2.2.2.2.2.1) G.2 k 0 (by rw [gW_get ha.1, ha.2]) rfl hin hdg (fun H1 locs1 hP _ hS => kk _ H1 locs1 rfl (gS.put X ha.1 (ha.2 _) hP hS))
theorem gq_bast (X : gX p s m args meth c cc nL own ret D cy N ad) (G : gS D s N ad sh H locs M) {k n : Nat} (ha : gAr sh cy N 1 k n) {i x : Int32} (hin : vp_in i n) (hdg : decode cc pc = .ok (.bastore, 1))
    (kk : ∀ (M1 : Mm) (H1 : Heap) (locs1 : List Loc), M1 = gU M k i.toNatClampNeg (vp_nar .byte x) → gS D s N ad sh H1 locs1 M1 → W p l e R s m args below meth c H1 locs1 cells slots Q (F0 m (pc + 1) ls rest)) : W p l e R s m args below meth c H locs cells slots Q (F0 m pc ls (.int x :: .int i :: .ref (ad k) :: rest)) :=
  va_bast X.1 X.2.1 X.2.2.2.2.2.1.1 G.1 (gW_D X.2.2.2.2.2.2.1) G.2 k 1 (by rw [gW_get ha.1, ha.2]) rfl hin hdg (fun H1 locs1 hP _ hS => kk _ H1 locs1 rfl (gS.put X ha.1 (ha.2 _) hP hS))
theorem gq_zast (X : gX p s m args meth c cc nL own ret D cy N ad) (G : gS D s N ad sh H locs M) {k n : Nat} (ha : gAr sh cy N 2 k n) {i x : Int32} (hin : vp_in i n) (hdg : decode cc pc = .ok (.bastore, 1))
    (kk : ∀ (M1 : Mm) (H1 : Heap) (locs1 : List Loc), M1 = gU M k i.toNatClampNeg (vp_nar .boolean x) → gS D s N ad sh H1 locs1 M1 → W p l e R s m args below meth c H1 locs1 cells slots Q (F0 m (pc + 1) ls rest)) : W p l e R s m args below meth c H locs cells slots Q (F0 m pc ls (.int x :: .int i :: .ref (ad k) :: rest)) :=
  va_zast X.1 X.2.1 X.2.2.2.2.2.1.1 G.1 (gW_D X.2.2.2.2.2.2.1) G.2 k 2 (by rw [gW_get ha.1, ha.2]) rfl hin hdg (fun H1 locs1 hP _ hS => kk _ H1 locs1 rfl (gS.put X ha.1 (ha.2 _) hP hS))
theorem gq_alen (X : gX p s m args meth c cc nL own ret D cy N ad) (G : gS D s N ad sh H locs M) {k t : Nat} {ty : FieldType} {x : vp_A} (hk : k < N) (he : sh k (M k) = .inl (cy t, x)) (ht : (gTys cy)[t]? = some (cy t, ty)) {v : Int32} (hv : Int32.ofNat x.1 = v) (hdg : decode cc pc = .ok (.arraylength, 1))
    (kk : W p l e R s m args below meth c H locs cells slots Q (F0 m (pc + 1) ls (.int v :: rest))) : W p l e R s m args below meth c H locs cells slots Q (F0 m pc ls (.ref (ad k) :: rest)) :=
  va_alen X.1 X.2.1 X.2.2.2.2.2.1.1 G.1 k t (by rw [gW_get hk, he]) ht hv hdg kk
theorem gq_aald (X : gX p s m args meth c cc nL own ret D cy N ad) (G : gS D s N ad sh H locs M) {k t n : Nat} {C : String} {f : Nat → Option Nat} (hk : k < N) (he : sh k (M k) = .inl (cy t, n, .inr (.inr (.inr (.inr f))))) (ht : (gTys cy)[t]? = some (cy t, .object C)) {i : Int32} (hin : vp_in i n) {v : Value} (hv : va_rf (f i.toNatClampNeg) = v) (hdg : decode cc pc = .ok (.aaload, 1))
    (kk : W p l e R s m args below meth c H locs cells slots Q (F0 m (pc + 1) ls (v :: rest))) : W p l e R s m args below meth c H locs cells slots Q (F0 m pc ls (.int i :: .ref (ad k) :: rest)) :=
  va_aldq X.1 X.2.1 X.2.2.2.2.2.1.1 G.1 k t (by rw [gW_get hk, he]) ht hin hdg (by rw [hv]; exact kk)
theorem gq_aaldA (X : gX p s m args meth c cc nL own ret D cy N ad) (G : gS D s N ad sh H locs M) {k t n : Nat} {f : Nat → Option Nat} (hk : k < N) (he : sh k (M k) = .inl (cy t, n, .inr (.inr (.inr (.inr f))))) (ht : (gTys cy)[t]? = some (cy t, .array .int)) {i : Int32} (hin : vp_in i n) {v : Value} (hv : va_rf (f i.toNatClampNeg) = v) (hdg : decode cc pc = .ok (.aaload, 1))
    (kk : W p l e R s m args below meth c H locs cells slots Q (F0 m (pc + 1) ls (v :: rest))) : W p l e R s m args below meth c H locs cells slots Q (F0 m pc ls (.int i :: .ref (ad k) :: rest)) := by
  have hlt : i.toNatClampNeg < n := Nat.not_le.mp fun q => hin (Or.inr q)
  have hP := G.1 k _ (by rw [gW_get hk, he])
  exact W.aald (v := v) (ty := .array .int) X.1 X.2.1 hP ((X.2.2.2.2.2.1.1.2 t _ ht).1 n (fun j => va_rf (f j))) rfl (fun q => by cases q) (by show ¬ (i < 0 ∨ (arrV _ _ _).slots.size ≤ _); rw [arrV_size]; exact hin) (by show (arrV _ _ _).slots[_]? = _; rw [arrV_read _ _ hlt, hv]) rfl rfl hdg kk
/-- System.arraycopy: what it asks of its numbers -/
def gCk (sp dp n : Int32) (n0 n1 : Nat) : Prop := ¬ sp < 0 ∧ ¬ dp < 0 ∧ ¬ n < 0 ∧ sp.toNatClampNeg + n.toNatClampNeg ≤ n0 ∧ dp.toNatClampNeg + n.toNatClampNeg ≤ n1
theorem gq_copy (X : gX p s m args meth c cc nL own ret D cy N ad) (hls : ls.size = nL) (G : gS D s N ad sh H locs M) {a b n0 n1 : Nat} (ha : gAr sh cy N 0 a n0) (hb : gAr sh cy N 0 b n1) {index : Nat} (hl : Cond.methodLink own index arraycopyName ∈ wsL_law) (hnat : Cond.native arraycopyName ∈ wsL_law) (hst : Cond.static arraycopyName ∈ wsL_law) (hini : Cond.initialized "java/lang/System" ∈ wsL_law) {sp dp n : Int32} (hck : gCk sp dp n n0 n1)
    (hframes : 1 ≤ R.frames) (hlocals : (rest.map fun v => v.category).sum + (nativeFrameWords "java/lang/System" "arraycopy" 5 + 11) ≤ R.locals) (hdg : decode cc pc = .ok (.invokestatic index, 3))
    (kk : ∀ (M1 : Mm) (H1 : Heap) (locs1 : List Loc), M1 = gCp M a b sp.toNatClampNeg dp.toNatClampNeg n.toNatClampNeg → gS D s N ad sh H1 locs1 M1 → W p l e R s m args below meth c H1 locs1 cells slots Q (F0 m (pc + 3) ls rest)) : W p l e R s m args below meth c H locs cells slots Q (F0 m pc ls (.int n :: .int dp :: .ref (ad b) :: .int sp :: .ref (ad a) :: rest)) :=
  va_copyi X.1 X.2.1 (by rw [hls]; exact X.2.2.1) X.2.2.2.1 (X.2.2.2.2.1 _ hl) (X.2.2.2.2.1 _ hnat) (X.2.2.2.2.1 _ hst) (X.2.2.2.2.1 _ hini) X.2.2.2.2.2.1.1 G.1 (gW_D X.2.2.2.2.2.2.1) G.2 a b 0 0 (by rw [gW_get ha.1, ha.2]) (by rw [gW_get hb.1, hb.2]) rfl rfl rfl hck.1 hck.2.1 hck.2.2.1 hck.2.2.2.1 hck.2.2.2.2 (fun _ _ => rfl) hframes hlocals hdg (fun H1 locs1 hP _ hS => kk _ H1 locs1 rfl (gS.put X hb.1 (hb.2 _) hP hS))
theorem gq_ldc (X : gX p s m args meth c cc nL own ret D cy N ad) {index : Nat} {v : Int32} (hc : Cond.constant own index v ∈ wsL_law) (hdg : decode cc pc = .ok (.ldc index, 2)) (k : W p l e R s m args below meth c H locs cells slots Q (F0 m (pc + 2) ls (.int v :: rest))) : W p l e R s m args below meth c H locs cells slots Q (F0 m pc ls rest) := lv_ldc X.1 X.2.1 X.2.2.2.1 (X.2.2.2.2.1 _ hc) hdg k
theorem gq_ldcw (X : gX p s m args meth c cc nL own ret D cy N ad) {index : Nat} {v : Int32} (hc : Cond.constant own index v ∈ wsL_law) (hdg : decode cc pc = .ok (.ldc_w index, 3)) (k : W p l e R s m args below meth c H locs cells slots Q (F0 m (pc + 3) ls (.int v :: rest))) : W p l e R s m args below meth c H locs cells slots Q (F0 m pc ls rest) := lv_ldcw X.1 X.2.1 X.2.2.2.1 (X.2.2.2.2.1 _ hc) hdg k
theorem gq_ldc2 (X : gX p s m args meth c cc nL own ret D cy N ad) {index : Nat} {v : Int64} (hc : Cond.constantLong own index v ∈ wsL_law) (hdg : decode cc pc = .ok (.ldc2_w index, 3)) (k : W p l e R s m args below meth c H locs cells slots Q (F0 m (pc + 3) ls (.long v :: rest))) : W p l e R s m args below meth c H locs cells slots Q (F0 m pc ls rest) := lv_ldc2 X.1 X.2.1 X.2.2.2.1 (X.2.2.2.2.1 _ hc) hdg k
/-- the ends -/
theorem gq_iret {K : Int32 → Mm → Prop} {v : Int32} (X : gX p s m args meth c cc nL own (some .int) D cy N ad) (G : gS D s N ad sh H locs M) (h : K v M) (hdg : decode cc pc = .ok (.ireturn, 1)) : W p l e R s m args below meth c H locs 0 0 (MQ below (gQi D N ad sh K) args s 0 0 (gA N ad)) (F0 m pc ls [.int v]) :=
  have hlocks := X.2.2.2.2.2.2.2.1
  W.iret X.1 X.2.1 X.2.2.2.2.2.2.2.2 (fun t ht _ => ⟨⟨v, M, rfl, h, by show va_P _ _ _ t.heap; rw [ht]; exact G.1⟩, G.2.F ht⟩) G.2.2.2 hdg
theorem gq_zret {K : Int32 → Mm → Prop} {v : Int32} (X : gX p s m args meth c cc nL own (some .boolean) D cy N ad) (G : gS D s N ad sh H locs M) (hz : v = 0 ∨ v = 1) (h : K v M) (hdg : decode cc pc = .ok (.ireturn, 1)) : W p l e R s m args below meth c H locs 0 0 (MQ below (gQi D N ad sh K) args s 0 0 (gA N ad)) (F0 m pc ls [.int v]) :=
  have hlocks := X.2.2.2.2.2.2.2.1
  W.zret X.1 X.2.1 X.2.2.2.2.2.2.2.2 (by rcases hz with rfl | rfl <;> rfl) (fun t ht _ => ⟨⟨v, M, rfl, h, by show va_P _ _ _ t.heap; rw [ht]; exact G.1⟩, G.2.F ht⟩) G.2.2.2 hdg
theorem gq_vret {K : Mm → Prop} (X : gX p s m args meth c cc nL own none D cy N ad) (G : gS D s N ad sh H locs M) (h : K M) (hdg : decode cc pc = .ok (.return_, 1)) : W p l e R s m args below meth c H locs 0 0 (MQ below (gQv D N ad sh K) args s 0 0 (gA N ad)) (F0 m pc ls []) :=
  have hlocks := X.2.2.2.2.2.2.2.1
  W.vret X.1 X.2.1 X.2.2.2.2.2.2.2.2 (fun t ht _ => ⟨⟨M, rfl, h, by show va_P _ _ _ t.heap; rw [ht]; exact G.1⟩, G.2.F ht⟩) G.2.2.2 hdg
theorem gq_aretN {K : Option Nat → Mm → Prop} {C : String} (X : gX p s m args meth c cc nL own (some (.object C)) D cy N ad) (G : gS D s N ad sh H locs M) (h : K none M) (hdg : decode cc pc = .ok (.areturn, 1)) : W p l e R s m args below meth c H locs 0 0 (MQ below (gQe D N ad sh K) args s 0 0 (gA N ad)) (F0 m pc ls [.null]) :=
  have hlocks := X.2.2.2.2.2.2.2.1
  W.aret X.1 X.2.1 X.2.2.2.2.2.2.2.2 (Or.inl ⟨_, rfl⟩) (Or.inl rfl) (fun t ht _ => ⟨⟨none, M, rfl, h, by show va_P _ _ _ t.heap; rw [ht]; exact G.1⟩, G.2.F ht⟩) G.2.2.2 hdg
theorem gq_aret {K : Option Nat → Mm → Prop} {C : String} {k : Nat} (X : gX p s m args meth c cc nL own (some (.object C)) D cy N ad) (G : gS D s N ad sh H locs M) (h : K (some k) M) (hdg : decode cc pc = .ok (.areturn, 1)) : W p l e R s m args below meth c H locs 0 0 (MQ below (gQe D N ad sh K) args s 0 0 (gA N ad)) (F0 m pc ls [.ref (ad k)]) :=
  have hlocks := X.2.2.2.2.2.2.2.1
  W.aret X.1 X.2.1 X.2.2.2.2.2.2.2.2 (Or.inl ⟨_, rfl⟩) (Or.inr ⟨_, rfl⟩) (fun t ht _ => ⟨⟨some k, M, rfl, h, by show va_P _ _ _ t.heap; rw [ht]; exact G.1⟩, G.2.F ht⟩) G.2.2.2 hdg
/-- the calls -/
def gCW (y : MethodName) (b : ByteArray) (n : Nat) (r : Option FieldType) (k : Nat) : Prop := Cond.code y b n r ∈ wsL_law ∧ Cond.initialized y.cls ∈ wsL_law ∧ (y.cls ≠ "java/lang/invoke/MethodHandle" ∧ y.cls ≠ "java/lang/invoke/VarHandle" ∧ (parseMethodDescriptor y.desc).map (fun d => d.parameters.length) = some k)
theorem gT_good {y : MethodName} {b : ByteArray} {n : Nat} {r : Option FieldType} (h : Cond.code y b n r ∈ wsL_law) : GoodIn wsL_law (wT y b n r) := fun w hw => by
  rcases List.mem_cons.mp hw with rfl | hw
  · exact wsL_good _ h _ List.mem_cons_self
  · exact wsL_good _ hw _ List.mem_cons_self
theorem gPre_blind {M : Mm} {av : List Value} : FrameBlind (va_Pc av (gPre D cy N ad sh M)) := fun _ _ _ _ q => ⟨q.1, q.2.1, gK.same rfl q.2.2⟩
theorem gPre_at (X : gX p s m args meth c cc nL own ret D cy N ad) (G : gS D s N ad sh H locs M) (av : List Value) : ∀ U : State, U.heap = H → s.WarmedH U.vm → va_Pc av (gPre D cy N ad sh M) av.toArray U := fun U hU hW => ⟨rfl, by rw [hU]; exact G.1, gK.warm hW X.2.2.2.2.2.1⟩
section CALLS
variable {y : MethodName} {b : ByteArray} {n na fr lo index : Nat} {r : Option FieldType} {Qc : Array Value → State → Outcome → State → Prop} {As st : List Value} {k ci : Nat} {fs : (Nat → Int32) → List Value} {q : vw_C} {C : String}
/-- a method of the own class (also one that is public), by invokevirtual -/
theorem gc_V (X : gX p s m args meth c cc nL own ret D cy N ad) (hls : ls.size = nL) (G : gS D s N ad sh H locs M) (hM : gM l D cy N ad sh y b n r fr lo (.ref (ad k) :: As) M Qc) (cw : gCW y b n r na) (hl : Cond.methodLink own index y ∈ wsL_law) (hi : Cond.instanceMethod y ∈ wsL_law) (hs : Cond.selects C y y ∈ wsL_law) (ho : gOb sh N k ci fs) (hc : vwCl[ci]? = some q) (hC : q.1 = C) (hn : As.length = na) (hst : st = As.reverse ++ .ref (ad k) :: rest) (hroom : (rest.map fun v => v.category).sum ≤ 8) (hR : fr + 1 ≤ R.frames ∧ 8 + (n + 11) + lo ≤ R.locals) (hz : cells ≤ R.cells ∧ slots ≤ R.slots) (hdg : decode cc pc = .ok (.invokevirtual index, 3)) :
    va_Run p l e R s m args below meth c H locs cells slots 0 0 (F0 m pc ls st) rest (Qc (Value.ref (ad k) :: As).toArray) (gA N ad) := by
  subst hC
  exact va_runV (C := q.1) (n := na) ⟨X.1, X.2.1, X.2.2.1, X.2.2.2.1, X.2.2.2.2.1⟩ hM ⟨callB_of na X.2.2.2.2.1 (gT_good cw.1) rfl rfl rfl (X.2.2.2.2.1 _ cw.2.1) (X.2.2.2.2.1 _ hl) cw.2.2 hR, X.2.2.2.2.1 _ hi, X.2.2.2.2.1 _ hs⟩ ⟨gPre_blind, va_recv X.2.2.2.2.2.1.1 G.1 hc (by rw [gW_get ho.1, ho.2]), gPre_at X G _⟩ rfl hn hls hst (lv_room hroom) hdg hz
/-- a nest mate's private method, by invokevirtual -/
theorem gc_VN {host : String} (X : gX p s m args meth c cc nL own ret D cy N ad) (hls : ls.size = nL) (G : gS D s N ad sh H locs M) (hM : gM l D cy N ad sh y b n r fr lo (.ref (ad k) :: As) M Qc) (cw : gCW y b n r na) (hl : (own, index, y, host) ∈ gNM) (hi : Cond.instanceMethod y ∈ wsL_law) (hs : Cond.selects C y y ∈ wsL_law) (ho : gOb sh N k ci fs) (hc : vwCl[ci]? = some q) (hC : q.1 = C) (hn : As.length = na) (hst : st = As.reverse ++ .ref (ad k) :: rest) (hroom : (rest.map fun v => v.category).sum ≤ 8) (hR : fr + 1 ≤ R.frames ∧ 8 + (n + 11) + lo ≤ R.locals) (hz : cells ≤ R.cells ∧ slots ≤ R.slots) (hdg : decode cc pc = .ok (.invokevirtual index, 3)) :
    va_Run p l e R s m args below meth c H locs cells slots 0 0 (F0 m pc ls st) rest (Qc (Value.ref (ad k) :: As).toArray) (gA N ad) := by
  subst hC
  exact va_runVN (C := q.1) (n := na) ⟨X.1, X.2.1, X.2.2.1, X.2.2.2.1, X.2.2.2.2.1⟩ hM ⟨va_cnB na X.2.2.2.2.1 (gT_good cw.1) rfl rfl rfl (X.2.2.2.2.2.1.2.2.1 _ hl) (X.2.2.2.2.1 _ cw.2.1) cw.2.2 hR, X.2.2.2.2.1 _ hi, X.2.2.2.2.1 _ hs⟩ ⟨gPre_blind, va_recv X.2.2.2.2.2.1.1 G.1 hc (by rw [gW_get ho.1, ho.2]), gPre_at X G _⟩ rfl hn hls hst (lv_room hroom) hdg hz
/-- a static method -/
theorem gc_S (X : gX p s m args meth c cc nL own ret D cy N ad) (hls : ls.size = nL) (G : gS D s N ad sh H locs M) (hM : gM l D cy N ad sh y b n r fr lo As M Qc) (cw : gCW y b n r na) (hl : Cond.methodLink own index y ∈ wsL_law) (hi : Cond.static y ∈ wsL_law) (hn : As.length = na) (hst : st = As.reverse ++ rest) (hroom : (rest.map fun v => v.category).sum ≤ 8) (hR : fr + 1 ≤ R.frames ∧ 8 + (n + 11) + lo ≤ R.locals) (hz : cells ≤ R.cells ∧ slots ≤ R.slots) (hdg : decode cc pc = .ok (.invokestatic index, 3)) :
    va_Run p l e R s m args below meth c H locs cells slots 0 0 (F0 m pc ls st) rest (Qc As.toArray) (gA N ad) :=
  va_runS (n := na) ⟨X.1, X.2.1, X.2.2.1, X.2.2.2.1, X.2.2.2.2.1⟩ hM ⟨callB_of na X.2.2.2.2.1 (gT_good cw.1) rfl rfl rfl (X.2.2.2.2.1 _ cw.2.1) (X.2.2.2.2.1 _ hl) cw.2.2 hR, X.2.2.2.2.1 _ hi⟩ ⟨gPre_blind, gPre_at X G _⟩ rfl hn hls hst (lv_room hroom) hdg hz
/-- a nest mate's private static method -/
theorem gc_SN {host : String} (X : gX p s m args meth c cc nL own ret D cy N ad) (hls : ls.size = nL) (G : gS D s N ad sh H locs M) (hM : gM l D cy N ad sh y b n r fr lo As M Qc) (cw : gCW y b n r na) (hl : (own, index, y, host) ∈ gNM) (hi : Cond.static y ∈ wsL_law) (hn : As.length = na) (hst : st = As.reverse ++ rest) (hroom : (rest.map fun v => v.category).sum ≤ 8) (hR : fr + 1 ≤ R.frames ∧ 8 + (n + 11) + lo ≤ R.locals) (hz : cells ≤ R.cells ∧ slots ≤ R.slots) (hdg : decode cc pc = .ok (.invokestatic index, 3)) :
    va_Run p l e R s m args below meth c H locs cells slots 0 0 (F0 m pc ls st) rest (Qc As.toArray) (gA N ad) :=
  va_runSN (n := na) ⟨X.1, X.2.1, X.2.2.1, X.2.2.2.1, X.2.2.2.2.1⟩ hM ⟨va_cnB na X.2.2.2.2.1 (gT_good cw.1) rfl rfl rfl (X.2.2.2.2.2.1.2.2.1 _ hl) (X.2.2.2.2.1 _ cw.2.1) cw.2.2 hR, X.2.2.2.2.1 _ hi, trivial⟩ ⟨gPre_blind, gPre_at X G _⟩ rfl hn hls hst (lv_room hroom) hdg hz
/-- a method that overrides the one that is named, by invokevirtual -/
theorem gc_O {x : MethodName} {owner : String} (X : gX p s m args meth c cc nL own ret D cy N ad) (hls : ls.size = nL) (G : gS D s N ad sh H locs M) (hM : gM l D cy N ad sh y b n r fr lo (.ref (ad k) :: As) M Qc) (cw : gCW y b n r na) (hl : Cond.methodLink own index x ∈ wsL_law) (hsm : Cond.sameMethod x.cls owner x.name x.desc ∈ wsL_law) (hdc : va_Decl s ⟨owner, x.name, x.desc⟩) (how : owner ≠ "java/lang/invoke/MethodHandle" ∧ owner ≠ "java/lang/invoke/VarHandle") (hxd : x.desc = y.desc) (hi : Cond.instanceMethod y ∈ wsL_law) (hs : Cond.selects C x y ∈ wsL_law) (ho : gOb sh N k ci fs) (hc : vwCl[ci]? = some q) (hC : q.1 = C) (hn : As.length = na) (hst : st = As.reverse ++ .ref (ad k) :: rest) (hroom : (rest.map fun v => v.category).sum ≤ 8) (hR : fr + 1 ≤ R.frames ∧ 8 + (n + 11) + lo ≤ R.locals) (hz : cells ≤ R.cells ∧ slots ≤ R.slots) (hdg : decode cc pc = .ok (.invokevirtual index, 3)) :
    va_Run p l e R s m args below meth c H locs cells slots 0 0 (F0 m pc ls st) rest (Qc (Value.ref (ad k) :: As).toArray) (gA N ad) := by
  subst hC
  have hts := X.2.2.2.2.1
  have hcw : va_CU R s args own q.1 owner index x y b n r (wT y b n r) (gRm fr lo) 0 0 na := by
    refine ⟨⟨rfl, rfl, hR.1, hR.2, pay_in hts (gT_good cw.1), List.mem_cons_self⟩, hts _ cw.1, hts _ cw.2.1, how, fun sig h => ?_, hts _ hl, hts _ hsm, hdc, hts _ hs, hts _ hi⟩
    have h2 := cw.2.2.2.2
    rw [← hxd, h] at h2
    exact (Option.some.inj h2).symm
  exact va_runU (C := q.1) (n := na) ⟨X.1, X.2.1, X.2.2.1, X.2.2.2.1, X.2.2.2.2.1⟩ hM hcw ⟨gPre_blind, va_recv X.2.2.2.2.2.1.1 G.1 hc (by rw [gW_get ho.1, ho.2]), gPre_at X G _⟩ rfl hn hls hst (lv_room hroom) hdg hz
/-- the superclass's method, by invokespecial -/
theorem gc_SU (X : gX p s m args meth c cc nL own ret D cy N ad) (hls : ls.size = nL) (G : gS D s N ad sh H locs M) (hM : gM l D cy N ad sh y b n r fr lo (.ref (ad k) :: As) M Qc) (cw : gCW y b n r na) (hl : Cond.methodLink own index y ∈ wsL_law) (hsm : Cond.sameMethod y.cls y.cls y.name y.desc ∈ wsL_law) (hsu : Cond.superclass own y.cls ∈ wsL_law) (hi : Cond.instanceMethod y ∈ wsL_law) (hno : y.name ≠ "<init>") (ho : gOb sh N k ci fs) (hc : vwCl[ci]? = some q) (hn : As.length = na) (hst : st = As.reverse ++ .ref (ad k) :: rest) (hroom : (rest.map fun v => v.category).sum ≤ 8) (hR : fr + 1 ≤ R.frames ∧ 8 + (n + 11) + lo ≤ R.locals) (hz : cells ≤ R.cells ∧ slots ≤ R.slots) (hdg : decode cc pc = .ok (.invokespecial index, 3)) :
    va_Run p l e R s m args below meth c H locs cells slots 0 0 (F0 m pc ls st) rest (Qc (Value.ref (ad k) :: As).toArray) (gA N ad) := by
  have hts := X.2.2.2.2.1
  have hcw : va_CS R s args own index y b n r (wT y b n r) (gRm fr lo) 0 0 na := by
    refine ⟨⟨rfl, rfl, hR.1, hR.2, pay_in hts (gT_good cw.1), List.mem_cons_self⟩, hts _ hl, hts _ hsm, hts _ hsu, hts _ hi, hts _ cw.2.1, hts _ cw.1, hno, fun sig h => ?_⟩
    have h2 := cw.2.2.2.2
    rw [h] at h2
    exact (Option.some.inj h2).symm
  exact va_runSU (C := q.1) (n := na) (X.2.2.2.2.2.1.1.1 ci q hc).2 ⟨X.1, X.2.1, X.2.2.1, X.2.2.2.1, X.2.2.2.2.1⟩ hM hcw ⟨gPre_blind, va_recv X.2.2.2.2.2.1.1 G.1 hc (by rw [gW_get ho.1, ho.2]), gPre_at X G _⟩ rfl hn hls hst (lv_room hroom) hdg hz
end CALLS
theorem gq_calli {K : Int32 → Mm → Prop} {av : Array Value} {st : List Value} (G : gS D s N ad sh H locs M) (hr : va_Run p l e R s m args below meth c H locs cells slots 0 0 (F0 m pc ls st) rest (gQi D N ad sh K av) (gA N ad))
    (kk : ∀ (x : Int32) (M1 : Mm) (H1 : Heap) (locs1 : List Loc), gS D s N ad sh H1 locs1 M1 → K x M1 → W p l e R s m args below meth c H1 locs1 cells slots Q (F0 m (pc + 3) ls (.int x :: rest))) : W p l e R s m args below meth c H locs cells slots Q (F0 m pc ls st) :=
  va_calli hr G.2 (fun _ _ h => h) (fun _ h => h) (fun x M1 t H1 locs1 ht _ hK hB _ _ hS => kk x M1 H1 locs1 ⟨by have h : va_P D vwCl (gW N ad sh M1) t.heap := hB; rw [ht] at h; exact h, hS⟩ hK)
theorem gq_callv {K : Mm → Prop} {av : Array Value} {st : List Value} (G : gS D s N ad sh H locs M) (hr : va_Run p l e R s m args below meth c H locs cells slots 0 0 (F0 m pc ls st) rest (gQv D N ad sh K av) (gA N ad))
    (kk : ∀ (M1 : Mm) (H1 : Heap) (locs1 : List Loc), gS D s N ad sh H1 locs1 M1 → K M1 → W p l e R s m args below meth c H1 locs1 cells slots Q (F0 m (pc + 3) ls rest)) : W p l e R s m args below meth c H locs cells slots Q (F0 m pc ls st) :=
  va_callv hr G.2 (fun _ _ h => h) (fun _ h => h) (fun M1 t H1 locs1 ht _ hK hB _ _ hS => kk M1 H1 locs1 ⟨by have h : va_P D vwCl (gW N ad sh M1) t.heap := hB; rw [ht] at h; exact h, hS⟩ hK)
theorem gq_calle {K : Option Nat → Mm → Prop} {av : Array Value} {st : List Value} (G : gS D s N ad sh H locs M) (hr : va_Run p l e R s m args below meth c H locs cells slots 0 0 (F0 m pc ls st) rest (gQe D N ad sh K av) (gA N ad))
    (kn : ∀ (M1 : Mm) (H1 : Heap) (locs1 : List Loc), gS D s N ad sh H1 locs1 M1 → K none M1 → W p l e R s m args below meth c H1 locs1 cells slots Q (F0 m (pc + 3) ls (.null :: rest)))
    (ks : ∀ (x : Nat) (M1 : Mm) (H1 : Heap) (locs1 : List Loc), gS D s N ad sh H1 locs1 M1 → K (some x) M1 → W p l e R s m args below meth c H1 locs1 cells slots Q (F0 m (pc + 3) ls (.ref (ad x) :: rest))) : W p l e R s m args below meth c H locs cells slots Q (F0 m pc ls st) :=
  va_calle hr G.2 (fun _ _ h => h) (fun _ h => h) (fun x M1 t H1 locs1 ht _ hK hB _ _ hS => by
    have h : va_P D vwCl (gW N ad sh M1) t.heap := hB
    rw [ht] at h
    cases x with
    | none => exact kn M1 H1 locs1 ⟨h, hS⟩ hK
    | some x => exact ks x M1 H1 locs1 ⟨h, hS⟩ hK)
end GROWS
