/-! MAKING: worlds that grow -/
def cat {α : Type} (n : Nat) (f g : Nat → α) : Nat → α := fun i => if i < n then f i else g (i - n)
def upe (e : Nat → va_E) (k : Nat) (x : va_E) : Nat → va_E := fun i => if i = k then x else e i
def gL (n : Nat) (ad : Nat → Nat) (e : Nat → va_E) : va_W := (List.range n).map (fun k => (ad k, e k))
theorem gL_len {n : Nat} {ad : Nat → Nat} {e : Nat → va_E} : (gL n ad e).length = n := by unfold gL; rw [List.length_map, List.length_range]
theorem gL_get {n k : Nat} {ad : Nat → Nat} {e : Nat → va_E} (h : k < n) : (gL n ad e)[k]? = some (ad k, e k) := by
  unfold gL
  rw [List.getElem?_map, List.getElem?_range h]
  rfl
theorem gL_of {n k : Nat} {ad : Nat → Nat} {e : Nat → va_E} {q : Nat × va_E} (h : (gL n ad e)[k]? = some q) : k < n ∧ q = (ad k, e k) := by
  by_cases hk : k < n
  · rw [gL_get hk] at h
    exact ⟨hk, (Option.some.inj h).symm⟩
  · rw [List.getElem?_eq_none (by rw [gL_len]; omega)] at h
    cases h
theorem gL_app {a b : Nat} {f f' : Nat → Nat} {g g' : Nat → va_E} : gL a f g ++ gL b f' g' = gL (a + b) (cat a f f') (cat a g g') := by
  apply List.ext_getElem?
  intro i
  by_cases h : i < a
  · rw [List.getElem?_append_left (by rw [gL_len]; exact h), gL_get h, gL_get (by omega)]
    unfold cat
    rw [if_pos h, if_pos h]
  · rw [List.getElem?_append_right (by rw [gL_len]; omega), gL_len]
    by_cases h2 : i < a + b
    · rw [gL_get (by omega), gL_get h2]
      unfold cat
      rw [if_neg h, if_neg h]
    · rw [List.getElem?_eq_none (by rw [gL_len]; omega), List.getElem?_eq_none (by rw [gL_len]; omega)]
theorem gL_push {n q : Nat} {ad : Nat → Nat} {e : Nat → va_E} {x : va_E} : gL n ad e ++ [(q, x)] = gL (n + 1) (cat n ad (fun _ => q)) (cat n e (fun _ => x)) := gL_app (b := 1) (f' := fun _ => q) (g' := fun _ => x)
theorem gL_set {n k : Nat} {ad : Nat → Nat} {e : Nat → va_E} {x : va_E} (h : k < n) : (gL n ad e).set k (ad k, x) = gL n ad (upe e k x) := by
  apply List.ext_getElem?
  intro i
  rw [List.getElem?_set, gL_len]
  by_cases hi : i < n
  · rw [gL_get hi, gL_get hi]
    unfold upe
    by_cases e1 : k = i
    · subst e1
      rw [if_pos rfl, if_pos h, if_pos rfl]
    · rw [if_neg e1, if_neg (fun q => e1 q.symm)]
  · rw [if_neg (by omega), List.getElem?_eq_none (by rw [gL_len]; omega), List.getElem?_eq_none (by rw [gL_len]; omega)]
theorem va_AOA.moved {ty : FieldType} {u U : State} (hvm : u.vm.Alike U.vm) (h : va_AOA ty u) : va_AOA ty U := by
  obtain ⟨comp, c, k, h1, h2, h3, h4, h5⟩ := arrayOverA_spec h
  obtain ⟨k', hk', he⟩ := hvm.2.2 _ _ h3
  have hi : (U.vm.classes.findIdx? fun (x : Class) => match x.kind with | .array component _ => component == comp | _ => false) = some c := by
    have e1 := va_idx_bare u.vm comp
    have e2 := va_idx_bare U.vm comp
    have eb : u.vm.bare = U.vm.bare := by first | exact hvm.bare_eq | exact hvm.bare_eq.symm
    rw [eb] at e1
    exact (e2.symm.trans e1).trans h2
  have hkind : k'.kind = .array comp (.array ty) := by rw [he]; exact h4
  have f1 : U.vm.findClass (FieldType.array ty).toString = some comp := by rw [hvm.findClass]; exact h1
  have f2 : U.vm.findClass ("[" ++ (FieldType.array ty).toString) = some c := by rw [hvm.findClass]; exact h5
  unfold va_AOA Cond.before Cond.holds
  simp only [Cond.value]
  rw [f1, Option.bind_some]
  refine (congrArg (fun o : Option Nat => (o.bind (fun c => (U.vm.classes[c]?).map fun (k : Class) => match k.kind with | .array _ ty' => decide (ty' = FieldType.array ty) && decide (U.vm.findClass ("[" ++ (FieldType.array ty).toString) = some c) | _ => false) == some true)) hi).trans ?_
  simp [hk', hkind, f2]
def gKo (D : va_G) (cy : Nat → ClassId) (U : State) : Prop := gK D cy U ∧ va_AO "PaperHouses$Row" U ∧ va_AO "PaperHouses$Folk" U ∧ va_AO "PaperHouses$Paper" U ∧ va_AOA .int U
theorem gKo.warm {D : va_G} {cy : Nat → ClassId} {s U : State} (hW : s.WarmedH U.vm) (h : gKo D cy s) : gKo D cy U :=
  ⟨gK.warm hW h.1, va_AO.moved hW.alike h.2.1, va_AO.moved hW.alike h.2.2.1, va_AO.moved hW.alike h.2.2.2.1, va_AOA.moved hW.alike h.2.2.2.2⟩
theorem gKo.same {D : va_G} {cy : Nat → ClassId} {u U : State} (hv : u.vm = U.vm) (h : gKo D cy u) : gKo D cy U :=
  ⟨gK.same hv h.1, va_AO.moved (by rw [hv]; exact Vm.Alike.refl U.vm) h.2.1, va_AO.moved (by rw [hv]; exact Vm.Alike.refl U.vm) h.2.2.1, va_AO.moved (by rw [hv]; exact Vm.Alike.refl U.vm) h.2.2.2.1, va_AOA.moved (by rw [hv]; exact Vm.Alike.refl U.vm) h.2.2.2.2⟩
theorem RA_uniq {s : State} {c1 c2 : ClassId} {ty : FieldType} (h1 : va_RA s c1 ty) (h2 : va_RA s c2 ty) : c1 = c2 := by
  cases ty with
  | object C =>
    obtain ⟨_, _, _, _, _, h1⟩ := h1
    obtain ⟨_, _, _, _, _, h2⟩ := h2
    exact Option.some.inj (h1.symm.trans h2)
  | _ => exact Option.some.inj ((show s.vm.findClass _ = some c1 from h1).symm.trans (show s.vm.findClass _ = some c2 from h2))
/-- what stands all along a making method's walk -/
def nX (p : Program) (s : State) (m : MethodId) (args : Array Value) (meth : Method) (c : Code) (cc : ByteArray) (nL : Nat) (own : String) (D : va_G) (cy : Nat → ClassId) : Prop :=
  p.tables.exec = Jvm.exec ∧ c.code = cc ∧ c.maxLocals = nL ∧ s.vm.findClass own = some m.cls ∧ (∀ w ∈ wsL_law, w.before args s = true) ∧ gKo D cy s ∧ meth.locks = false
def nS (D : va_G) (s : State) (A : Nat → Prop) (n : Nat) (ad : Nat → Nat) (e : Nat → va_E) (H : Heap) (locs : List Loc) : Prop := va_P D vwCl (gL n ad e) H ∧ va_D A (gL n ad e) ∧ va_S A s.heap H locs ∧ ∀ q, s.heap.size ≤ q → A q
abbrev nRm (fr lo mc ms : Nat) : Room := { frames := fr, cells := mc, slots := ms, locals := lo }
/-- a constructor: from the bare object to it and the k - 1 cells that come with it -/
def nM (l : Launch) (D : va_G) (cy : Nat → ClassId) (y : MethodName) (b : ByteArray) (n fr lo mc ms a : Nat) (As : List Value) (x0 : va_E) (k : Nat) (x : (Nat → Nat) → Nat → va_E) : Prop :=
  ∀ sz : Nat, Met l y (wT y b n none) (nRm fr lo mc ms) (va_Pc (.ref a :: As) (fun U => U.heap.size = sz ∧ va_P D vwCl [(a, x0)] U.heap ∧ gKo D cy U)) (va_Qv (fun qd : Nat → Nat => qd 0 = a) (fun qd t => va_P D vwCl (gL k qd (x qd)) t.heap ∧ va_D (va_A [(a, x0)] sz) (gL k qd (x qd))) (va_A [(a, x0)] sz)) mc ms (va_A [(a, x0)] sz)
abbrev nQ (D : va_G) (s : State) (a : Nat) (x0 : va_E) (k : Nat) (x : (Nat → Nat) → Nat → va_E) : Array Value → State → Outcome → State → Prop := va_Qv (fun qd : Nat → Nat => qd 0 = a) (fun qd t => va_P D vwCl (gL k qd (x qd)) t.heap ∧ va_D (va_A [(a, x0)] s.heap.size) (gL k qd (x qd))) (va_A [(a, x0)] s.heap.size)
theorem nM.of {l : Launch} {D : va_G} {cy : Nat → ClassId} {y : MethodName} {b : ByteArray} {n fr lo mc ms a : Nat} {As : List Value} {x0 : va_E} {k : Nat} {x : (Nat → Nat) → Nat → va_E} {own : String} (hy : plainName y.cls = true) (hw : y.cls = own) (hnm : y.name = "<init>") (hlen : (lg_sl (.ref a :: As)).length ≤ n) {lv : List (Nat × Value)} (hlv : lv_args 0 (.ref a :: As) = lv)
    (body : ∀ (p : Program) (e : Env) (s : State) (m : MethodId) (below : List Frame) (meth : Method) (c : Code) (ls : Array Slot) (H : Heap) (locs : List Loc), meth.name = "<init>" → meth.sig.returnType = none → nX p s m (Value.ref a :: As).toArray meth c b n own D cy → nS D s (va_A [(a, x0)] s.heap.size) 1 (fun _ => a) (fun _ => x0) H locs → lv_has ls n lv → W p l e (nRm fr lo mc ms) s m (Value.ref a :: As).toArray below meth c H locs 0 0 (MQ below (nQ D s a x0 k x) (Value.ref a :: As).toArray s mc ms (va_A [(a, x0)] s.heap.size)) (F0 m 0 ls [])) : nM l D cy y b n fr lo mc ms a As x0 k x := by
  intro sz
  refine Met.ofW (cc := b) (maxL := n) (ret := none) hy rfl ?_
  intro p e s m args below meth c s₁ B hml hv
  obtain ⟨rfl, rfl, hP, hK⟩ := hv
  have hts := atoms_spec (ws := wT y b n none) B.pre
  have hown : s.vm.findClass y.cls = some m.cls := findClass_of_methodNamed B.named
  have hname : meth.name = "<init>" := by rw [← hnm]; exact (name_of_methodNamed B.named B.method).1
  have hl := lv_entry (.ref a :: As) (n := n) hlen
  rw [lg_entry_eq]
  generalize (lg_sl (.ref a :: As) ++ List.replicate (n - (lg_sl (.ref a :: As)).length) Slot.unset).toArray = ls at hl ⊢
  rw [hlv] at hl
  refine body p e s m below meth c ls s.heap [] hname B.returns ⟨B.exec, B.bytes, hml, by rw [← hw]; exact hown, fun w hw => hts w (List.mem_cons_of_mem _ hw), hK, B.notSynchronized⟩ ⟨hP, ⟨fun i j p q hi hj _ => ?_, fun k q hk => va_A.in hk⟩, va_S.rf, fun q h => Or.inr h⟩ hl
  have h1 := (gL_of (n := 1) (ad := fun _ => a) (e := fun _ => x0) hi).1
  have h2 := (gL_of (n := 1) (ad := fun _ => a) (e := fun _ => x0) hj).1
  omega
section NROWS
variable {p : Program} {l : Launch} {e : Env} {R : Room} {s : State} {m : MethodId} {args : Array Value} {below : List Frame} {meth : Method} {c : Code} {H : Heap} {locs : List Loc} {cells slots : Nat} {Q : State → Prop} {cc : ByteArray} {pc nL : Nat} {ls : Array Slot} {rest : List Value} {D : va_G} {cy : Nat → ClassId} {A : Nat → Prop} {n : Nat} {ad : Nat → Nat} {g : Nat → va_E} {own : String}
theorem nn_obj (X : nX p s m args meth c cc nL own D cy) (hls : ls.size = nL) {idx a : Nat} (hl : Cond.methodLink own idx objectInit ∈ wsL_law) (hd : decode cc pc = .ok (.invokespecial idx, 3)) (hframes : 1 ≤ R.frames) (hlocals : 12 ≤ R.locals)
    (kk : W p l e R s m args below meth c H locs cells slots Q (F0 m (pc + 3) ls [])) : W p l e R s m args below meth c H locs cells slots Q (F0 m pc ls [.ref a]) :=
  W.objInit X.1 X.2.1 X.2.2.2.1 (X.2.2.2.2.1 _ hl) (X.2.2.2.2.1 _ qw_1_10) (X.2.2.2.2.1 _ qw_1_11) rfl (hls.trans X.2.2.1.symm) rfl hd hframes hlocals kk
theorem nn_new (X : nX p s m args meth c cc nL own D cy) (G : nS D s A n ad g H locs) {C : String} {T : u_T} {Nf ci index : Nat} (hc : vwCl[ci]? = some (C, T, Nf)) (hin : ∀ w ∈ u_ws C T Nf, w ∈ wsL_law) (ty : Nat → FieldType) (hty : ∀ k, k < Nf → parseFieldDescriptor (T k).2.2.1 = some (ty k)) (hcl : Cond.classLink own index C ∈ wsL_law) (hinst : Cond.instantiable C Nf ∈ wsL_law) (hini : Cond.initialized C ∈ wsL_law) {fs : List Value} (hfs : ∀ j, j < Nf → defaultValue (ty j) = vp_V fs j) (hcells : cells + 1 ≤ R.cells) (hslots : slots + Nf ≤ R.slots) (hdg : decode cc pc = .ok (.new index, 3))
    (kk : ∀ (q : Nat) (H1 : Heap), nS D s A (n + 1) (cat n ad (fun _ => q)) (cat n g (fun _ => .inr (ci, fs))) H1 locs → W p l e R s m args below meth c H1 locs (cells + 1) (slots + Nf) Q (F0 m (pc + 3) ls (.ref q :: rest))) : W p l e R s m args below meth c H locs cells slots Q (F0 m pc ls rest) :=
  va_new X.1 X.2.1 X.2.2.2.2.1 hin ty hty X.2.2.2.1 (X.2.2.2.2.1 _ hcl) (X.2.2.2.2.1 _ hinst) (X.2.2.2.2.1 _ hini) X.2.2.2.2.2.1.1.1 G.1 G.2.1 G.2.2.1 G.2.2.2 hc hfs hcells hslots hdg (fun q H1 hP hD hS => kk q H1 ⟨by rw [← gL_push]; exact hP, by rw [← gL_push]; exact hD, hS, G.2.2.2⟩)
theorem nn_arr (X : nX p s m args meth c cc nL own D cy) (G : nS D s A n ad g H locs) {atype : ArrayType} {ty : FieldType} {t : Nat} (ht : (gTys cy)[t]? = some (cy t, ty)) (hty : newarray.typeOf atype = ty) (harr : Cond.arrayClass ty ∈ wsL_law) {i : Int32} {N' : Nat} (ha : ∀ cA : ClassId, vp_cell cA (N', .inl (fun _ => 0)) = arrV cA N' (fun _ => defaultValue ty)) (hn : ¬ i < 0) (hN : i.toNatClampNeg = N') (hbytes : N' * componentBytes ty ≤ 536870912) (hcells : cells + 1 ≤ R.cells) (hslots : slots + N' ≤ R.slots) (hdg : decode cc pc = .ok (.newarray atype, 2))
    (kk : ∀ (q : Nat) (H1 : Heap), nS D s A (n + 1) (cat n ad (fun _ => q)) (cat n g (fun _ => .inl (cy t, N', .inl (fun _ => 0)))) H1 locs → W p l e R s m args below meth c H1 locs (cells + 1) (slots + N') Q (F0 m (pc + 2) ls (.ref q :: rest))) : W p l e R s m args below meth c H locs cells slots Q (F0 m pc ls (.int i :: rest)) := by
  have hK := X.2.2.2.2.2.1.1.1
  refine va_newa X.1 X.2.1 (by rw [hty]; exact X.2.2.2.2.1 _ harr) hty hK G.1 G.2.1 G.2.2.1 G.2.2.2 ha hn hN hbytes hcells hslots hdg (fun q cA H1 hK1 hP hD hS => ?_)
  have e1 : cA = cy t := RA_uniq (ty := ty) (hK1.2 (gTys cy).length (cA, ty) (by rw [List.getElem?_append_right (Nat.le_refl _), Nat.sub_self]; rfl)).2 (hK.2 t _ ht).2
  subst e1
  exact kk q H1 ⟨by rw [← gL_push]; exact hP, by rw [← gL_push]; exact hD, hS, G.2.2.2⟩
theorem nn_newq (X : nX p s m args meth c cc nL own D cy) (G : nS D s A n ad g H locs) {C : String} {t index : Nat} (ht : (gTys cy)[t]? = some (cy t, .object C)) (hover : va_AO C s) (hcl : Cond.classLink own index C ∈ wsL_law) {i : Int32} {N' : Nat} (hn : ¬ i < 0) (hN : i.toNatClampNeg = N') (hbytes : N' * 4 ≤ 536870912) (hcells : cells + 1 ≤ R.cells) (hslots : slots + N' ≤ R.slots) (hdg : decode cc pc = .ok (.anewarray index, 3))
    (kk : ∀ (q : Nat) (H1 : Heap), nS D s A (n + 1) (cat n ad (fun _ => q)) (cat n g (fun _ => .inl (cy t, N', gRr (fun _ => none)))) H1 locs → W p l e R s m args below meth c H1 locs (cells + 1) (slots + N') Q (F0 m (pc + 3) ls (.ref q :: rest))) : W p l e R s m args below meth c H locs cells slots Q (F0 m pc ls (.int i :: rest)) := by
  have hK := X.2.2.2.2.2.1.1.1
  refine va_newq X.1 X.2.1 X.2.2.2.1 (X.2.2.2.2.1 _ hcl) hover hK G.1 G.2.1 G.2.2.1 G.2.2.2 hn hN hbytes hcells hslots hdg (fun q cA H1 hK1 hP hD hS => ?_)
  have e1 : cA = cy t := RA_uniq (ty := .object C) (hK1.2 (gTys cy).length (cA, .object C) (by rw [List.getElem?_append_right (Nat.le_refl _), Nat.sub_self]; rfl)).2 (hK.2 t _ ht).2
  subst e1
  exact kk q H1 ⟨by rw [← gL_push]; exact hP, by rw [← gL_push]; exact hD, hS, G.2.2.2⟩
theorem nn_putF (X : nX p s m args meth c cc nL own D cy) (G : nS D s A n ad g H locs) (hin2 : meth.name = "<init>") {k j ci Nf index : Nat} {C : String} {T : u_T} {fs : List Value} (hk : k < n) (he : g k = .inr (ci, fs)) (hc : vwCl[ci]? = some (C, T, Nf)) (hj : j < Nf) (hin : ∀ w ∈ u_ws C T Nf, w ∈ wsL_law) (ty0 : Nat → FieldType) (hty : ∀ k, k < Nf → parseFieldDescriptor (T k).2.2.1 = some (ty0 k)) (hnm : ∀ a, a < Nf → ∀ b, b < Nf → a ≠ b → (T a).2.1 ≠ (T b).2.1) (hl : Cond.fieldLink own index (T j).1 (T j).2.1 (T j).2.2.1 ∈ wsL_law) (hfin : (T j).2.2.2 = true) (hdecl : (T j).1 = own) {ty : FieldType} {v : Value} (hd : parseFieldDescriptor (T j).2.2.1 = some ty) (hn : narrow ty v = v) (hfit : fits ty v = true) (hjl : j < fs.length) {a : Nat} (hadr : ad k = a) (hdg : decode cc pc = .ok (.putfield index, 3))
    (kk : ∀ (H1 : Heap) (locs1 : List Loc), nS D s A n ad (upe g k (.inr (ci, fs.set j v))) H1 locs1 → W p l e R s m args below meth c H1 locs1 cells slots Q (F0 m (pc + 3) ls rest)) : W p l e R s m args below meth c H locs cells slots Q (F0 m pc ls (v :: .ref a :: rest)) := by
  subst hadr
  exact va_putF X.1 X.2.1 X.2.2.2.2.1 hin ty0 hty hnm X.2.2.2.1 X.2.2.2.2.2.1.1.1 G.1 G.2.1 G.2.2.1 k (by rw [gL_get hk, he]) hc j hj (X.2.2.2.2.1 _ hl) (fun _ h => h) hfin hin2 hdecl hd hn hfit hjl hdg (fun H1 locs1 hP hD hS => kk H1 locs1 ⟨by rw [← gL_set hk]; exact hP, by rw [← gL_set hk]; exact hD, hS, G.2.2.2⟩)
theorem nn_put (X : nX p s m args meth c cc nL own D cy) (G : nS D s A n ad g H locs) {k j ci Nf index : Nat} {C : String} {T : u_T} {fs : List Value} (hk : k < n) (he : g k = .inr (ci, fs)) (hc : vwCl[ci]? = some (C, T, Nf)) (hj : j < Nf) (hin : ∀ w ∈ u_ws C T Nf, w ∈ wsL_law) (ty0 : Nat → FieldType) (hty : ∀ k, k < Nf → parseFieldDescriptor (T k).2.2.1 = some (ty0 k)) (hnm : ∀ a, a < Nf → ∀ b, b < Nf → a ≠ b → (T a).2.1 ≠ (T b).2.1) (hl : Cond.fieldLink own index (T j).1 (T j).2.1 (T j).2.2.1 ∈ wsL_law) (hfin : (T j).2.2.2 = false) {ty : FieldType} {v : Value} (hd : parseFieldDescriptor (T j).2.2.1 = some ty) (hn : narrow ty v = v) (hfit : fits ty v = true) (hjl : j < fs.length) {a : Nat} (hadr : ad k = a) (hdg : decode cc pc = .ok (.putfield index, 3))
    (kk : ∀ (H1 : Heap) (locs1 : List Loc), nS D s A n ad (upe g k (.inr (ci, fs.set j v))) H1 locs1 → W p l e R s m args below meth c H1 locs1 cells slots Q (F0 m (pc + 3) ls rest)) : W p l e R s m args below meth c H locs cells slots Q (F0 m pc ls (v :: .ref a :: rest)) := by
  subst hadr
  exact va_put X.1 X.2.1 X.2.2.2.2.1 hin ty0 hty hnm X.2.2.2.1 X.2.2.2.2.2.1.1.1 G.1 G.2.1 G.2.2.1 k (by rw [gL_get hk, he]) hc j hj (X.2.2.2.2.1 _ hl) (fun _ h => h) hfin hd hn hfit hjl hdg (fun H1 locs1 hP hD hS => kk H1 locs1 ⟨by rw [← gL_set hk]; exact hP, by rw [← gL_set hk]; exact hD, hS, G.2.2.2⟩)
theorem nn_get (X : nX p s m args meth c cc nL own D cy) (G : nS D s A n ad g H locs) {k j ci Nf index : Nat} {C : String} {T : u_T} {fs : List Value} (hk : k < n) (he : g k = .inr (ci, fs)) (hc : vwCl[ci]? = some (C, T, Nf)) (hj : j < Nf) (hin : ∀ w ∈ u_ws C T Nf, w ∈ wsL_law) (hl : Cond.fieldLink own index (T j).1 (T j).2.1 (T j).2.2.1 ∈ wsL_law) {v : Value} (hv : fs[j]? = some v) {a : Nat} (hadr : ad k = a) (hdg : decode cc pc = .ok (.getfield index, 3))
    (kk : W p l e R s m args below meth c H locs cells slots Q (F0 m (pc + 3) ls (v :: rest))) : W p l e R s m args below meth c H locs cells slots Q (F0 m pc ls (.ref a :: rest)) := by
  subst hadr
  exact va_get X.1 X.2.1 X.2.2.2.2.1 hin X.2.2.2.1 X.2.2.2.2.2.1.1.1 G.1 k (by rw [gL_get hk, he]) hc j hj (X.2.2.2.2.1 _ hl) (fun _ h => h) hv hdg kk
theorem nn_ast (X : nX p s m args meth c cc nL own D cy) (G : nS D s A n ad g H locs) {q0 qk ci t N' : Nat} {r : vw_C} {f : Nat → Option Nat} {vs : List Value} (h0 : q0 < n) (ha : g q0 = .inl (cy t, N', gRr f)) (ht : (gTys cy)[t]? = some (cy t, .object r.1)) (h1 : qk < n) (hv : g qk = .inr (ci, vs)) (hc : vwCl[ci]? = some r) {i : Int32} (hin : vp_in i N') {a v j : Nat} (ea : ad q0 = a) (ev : ad qk = v) (ej : i.toNatClampNeg = j) (hdg : decode cc pc = .ok (.aastore, 1))
    (kk : ∀ (H1 : Heap) (locs1 : List Loc), nS D s A n ad (upe g q0 (.inl (cy t, N', gRr (va_up f j (some v))))) H1 locs1 → W p l e R s m args below meth c H1 locs1 cells slots Q (F0 m (pc + 1) ls rest)) : W p l e R s m args below meth c H locs cells slots Q (F0 m pc ls (.ref v :: .int i :: .ref a :: rest)) := by
  subst ea; subst ev; subst ej
  exact va_astq X.1 X.2.1 X.2.2.2.2.2.1.1.1 G.1 G.2.1 G.2.2.1 q0 t qk ci (by rw [gL_get h0, ha]) ht (by rw [gL_get h1, hv]) hc hin hdg (fun H1 locs1 hP hD hS => kk H1 locs1 ⟨by rw [← gL_set h0]; exact hP, by rw [← gL_set h0]; exact hD, hS, G.2.2.2⟩)
theorem nn_astO (X : nX p s m args meth c cc nL own D cy) (G : nS D s A n ad g H locs) {q0 qk ci t N' : Nat} {E : String} {r : vw_C} {f : Nat → Option Nat} {vs : List Value} (h0 : q0 < n) (ha : g q0 = .inl (cy t, N', gRr f)) (ht : (gTys cy)[t]? = some (cy t, .object E)) (hca : (r.1, E) ∈ gNC) (h1 : qk < n) (hv : g qk = .inr (ci, vs)) (hc : vwCl[ci]? = some r) {i : Int32} (hin : vp_in i N') {a v j : Nat} (ea : ad q0 = a) (ev : ad qk = v) (ej : i.toNatClampNeg = j) (hdg : decode cc pc = .ok (.aastore, 1))
    (kk : ∀ (H1 : Heap) (locs1 : List Loc), nS D s A n ad (upe g q0 (.inl (cy t, N', gRr (va_up f j (some v))))) H1 locs1 → W p l e R s m args below meth c H1 locs1 cells slots Q (F0 m (pc + 1) ls rest)) : W p l e R s m args below meth c H locs cells slots Q (F0 m pc ls (.ref v :: .int i :: .ref a :: rest)) := by
  subst ea; subst ev; subst ej
  exact va_astqO X.1 X.2.1 X.2.2.2.2.2.1.1.1 G.1 G.2.1 G.2.2.1 q0 t qk ci (by rw [gL_get h0, ha]) ht (X.2.2.2.2.2.1.1.2.2.2.1 _ hca) (by rw [gL_get h1, hv]) hc hin hdg (fun H1 locs1 hP hD hS => kk H1 locs1 ⟨by rw [← gL_set h0]; exact hP, by rw [← gL_set h0]; exact hD, hS, G.2.2.2⟩)
theorem nn_iast (X : nX p s m args meth c cc nL own D cy) (G : nS D s A n ad g H locs) {q0 N' : Nat} {f : Nat → Int32} (h0 : q0 < n) (ha : g q0 = .inl (cy 0, N', .inl f)) {i x : Int32} (hin : vp_in i N') {a j : Nat} (ea : ad q0 = a) (ej : i.toNatClampNeg = j) (hdg : decode cc pc = .ok (.iastore, 1))
    (kk : ∀ (H1 : Heap) (locs1 : List Loc), nS D s A n ad (upe g q0 (.inl (cy 0, N', .inl (upd f j x)))) H1 locs1 → W p l e R s m args below meth c H1 locs1 cells slots Q (F0 m (pc + 1) ls rest)) : W p l e R s m args below meth c H locs cells slots Q (F0 m pc ls (.int x :: .int i :: .ref a :: rest)) := by
  subst ea; subst ej
  exact va_iast X.1 X.2.1 X.2.2.2.2.2.1.1.1 G.1 G.2.1 G.2.2.1 q0 0 (by rw [gL_get h0, ha]) rfl hin hdg (fun H1 locs1 hP hD hS => kk H1 locs1 ⟨by rw [← gL_set h0]; exact hP, by rw [← gL_set h0]; exact hD, hS, G.2.2.2⟩)
/-- what lies behind an array's end doesn't count -/
theorem nS.eqv (G : nS D s A n ad g H locs) {k : Nat} {cA : ClassId} {a b : vp_A} (hk : k < n) (he : g k = .inl (cA, a)) (h : vp_cell cA a = vp_cell cA b) : nS D s A n ad (upe g k (.inl (cA, b))) H locs := by
  refine ⟨fun i q hq => ?_, ?_, G.2.2⟩
  · obtain ⟨hi, rfl⟩ := gL_of hq
    have h0 := G.1 i _ (gL_get hi)
    unfold upe
    by_cases e1 : i = k
    · subst e1
      rw [if_pos rfl]
      rw [he] at h0
      show H[ad i]? = some (vp_cell cA b)
      rw [← h]
      exact h0
    · rw [if_neg e1]; exact h0
  · refine ⟨fun i j x y hi hj hxy => ?_, fun i q hq => ?_⟩
    · obtain ⟨h1, rfl⟩ := gL_of hi
      obtain ⟨h2, rfl⟩ := gL_of hj
      exact G.2.1.1 i j _ _ (gL_get h1) (gL_get h2) hxy
    · obtain ⟨h1, rfl⟩ := gL_of hq
      exact G.2.1.2 i (ad i, g i) (gL_get h1)
theorem arrV_ext {cA : ClassId} {N : Nat} {f f' : Nat → Value} (h : ∀ j, j < N → f j = f' j) : arrV cA N f = arrV cA N f' := by
  unfold arrV
  congr 1
  apply Array.ext
  · simp
  · intro i h1 h2
    simp only [Array.getElem_ofFn]
    exact h i (by simpa using h1)
theorem vp_cell_qx {cA : ClassId} {N : Nat} {f f' : Nat → Option Nat} (h : ∀ j, j < N → f j = f' j) : vp_cell cA (N, gRr f) = vp_cell cA (N, gRr f') := by
  rw [vp_cell_q, vp_cell_q]
  exact arrV_ext (fun j hj => by rw [h j hj])
theorem vp_cell_ix {cA : ClassId} {N : Nat} {f f' : Nat → Int32} (h : ∀ j, j < N → f j = f' j) : vp_cell cA (N, .inl f) = vp_cell cA (N, .inl f') := by
  rw [vp_cell_i, vp_cell_i]
  exact arrV_ext (fun j hj => by rw [h j hj])
/-- the end of a constructor -/
theorem nn_ret {a k : Nat} {x0 : va_E} {x : (Nat → Nat) → Nat → va_E} (X : nX p s m args meth c cc nL own D cy) (G : nS D s (va_A [(a, x0)] s.heap.size) k ad g H locs) (hr : meth.sig.returnType = none) (h0 : ad 0 = a) (he : gL k ad g = gL k ad (x ad)) (hdg : decode cc pc = .ok (.return_, 1)) : W p l e R s m args below meth c H locs cells slots (MQ below (nQ D s a x0 k x) args s cells slots (va_A [(a, x0)] s.heap.size)) (F0 m pc ls []) :=
  have hlocks := X.2.2.2.2.2.2
  W.vret X.1 X.2.1 hr (fun t ht _ => ⟨⟨ad, rfl, h0, by rw [ht, ← he]; exact G.1, by rw [← he]; exact G.2.1⟩, G.2.2.1.F ht⟩) G.2.2.1.2.2 hdg
theorem gL_pre {k : Nat} : (List.range k).map (fun i => (gL (k + 1) ad g)[i]?) = (gL k ad g).map some := by
  unfold gL
  rw [List.map_map]
  apply List.map_congr_left
  intro i hi
  have := List.mem_range.mp hi
  exact gL_get (n := k + 1) (by omega)
theorem nM_blind {l : Launch} {av : List Value} {sz a : Nat} {x0 : va_E} : FrameBlind (va_Pc av (fun U => U.heap.size = sz ∧ va_P D vwCl [(a, x0)] U.heap ∧ gKo D cy U)) := fun _ _ _ _ q => ⟨q.1, q.2.1, q.2.2.1, gKo.same rfl q.2.2.2⟩
section NCALL
variable {y : MethodName} {b : ByteArray} {nn na fr lo mc ms index k : Nat} {As st : List Value} {x0 : va_E} {x : (Nat → Nat) → Nat → va_E}
/-- behind a constructor's call -/
theorem nn_behind (X : nX p s m args meth c cc nL own D cy) (G : nS D s A (n + 1) ad g H locs) (he : g n = x0) (hnd : va_nd (List.range n) = true) (hr : va_Run p l e R s m args below meth c H locs cells slots mc ms (F0 m pc ls st) rest (va_Qv (fun qd : Nat → Nat => qd 0 = ad n) (fun qd t => va_P D vwCl (gL k qd (x qd)) t.heap ∧ va_D (va_A [(ad n, x0)] H.size) (gL k qd (x qd))) (va_A [(ad n, x0)] H.size) (Value.ref (ad n) :: As).toArray) (va_A [(ad n, x0)] H.size))
    (kk : ∀ (qd : Nat → Nat) (H1 : Heap) (locs1 : List Loc), qd 0 = ad n → nS D s A (n + k) (cat n ad qd) (cat n g (x qd)) H1 locs1 → W p l e R s m args below meth c H1 locs1 (cells + mc) (slots + ms) Q (F0 m (pc + 3) ls rest)) : W p l e R s m args below meth c H locs cells slots Q (F0 m pc ls st) := by
  have hC : [n].map (fun i => (gL (n + 1) ad g)[i]?) = [(ad n, x0)].map some := by
    show [(gL (n + 1) ad g)[n]?] = [some (ad n, x0)]
    rw [gL_get (by omega), he]
  have hFc := va_free (wc := [(ad n, x0)]) G.2.1 G.2.2.1 G.2.2.2 [n] hC
  refine va_callv hr G.2.2.1 (fun q _ h => hFc q h) hFc (fun qd t H1 locs1 ht _ hpost hB _ hk1 hS1 => ?_)
  obtain ⟨hP1, hD1⟩ := hB
  rw [ht] at hP1
  obtain ⟨hP, hD⟩ := va_join (wr := gL n ad g) (w1 := gL k qd (x qd)) G.1 G.2.1 [n] (List.range n) hC gL_pre hnd (fun i hi h => by have := List.mem_range.mp hi; have := List.mem_singleton.mp h; omega) hk1 hFc hP1 hD1
  rw [gL_app] at hP hD
  exact kk qd H1 locs1 hpost ⟨hP, hD, hS1, G.2.2.2⟩
theorem nn_callIN {host : String} (X : nX p s m args meth c cc nL own D cy) (hls : ls.size = nL) (G : nS D s A (n + 1) ad g H locs) {a : Nat} (ea : ad n = a) (hM : nM l D cy y b nn fr lo mc ms a As x0 k x) (he : g n = x0) (hnd : va_nd (List.range n) = true) (cw : gCW y b nn none na) (hl : (own, index, y, host) ∈ gNM) (hi : Cond.instanceMethod y ∈ wsL_law) (hy : y.name = "<init>") (hn : As.length = na) (hst : st = As.reverse ++ .ref a :: rest) (hroom : (rest.map fun v => v.category).sum ≤ 8) (hR : fr + 1 ≤ R.frames ∧ 8 + (nn + 11) + lo ≤ R.locals) (hz : cells + mc ≤ R.cells ∧ slots + ms ≤ R.slots) (hdg : decode cc pc = .ok (.invokespecial index, 3))
    (kk : ∀ (qd : Nat → Nat) (H1 : Heap) (locs1 : List Loc), qd 0 = a → nS D s A (n + k) (cat n ad qd) (cat n g (x qd)) H1 locs1 → W p l e R s m args below meth c H1 locs1 (cells + mc) (slots + ms) Q (F0 m (pc + 3) ls rest)) : W p l e R s m args below meth c H locs cells slots Q (F0 m pc ls st) := by
  subst ea
  have hPc : va_P D vwCl [(ad n, x0)] H := fun i q hq => by
    have hi : i < 1 := (List.getElem?_eq_some_iff.mp hq).1
    have e0 : i = 0 := by omega
    subst e0
    cases hq
    have := G.1 n _ (gL_get (by omega))
    rw [he] at this
    exact this
  refine nn_behind (As := As) X G he hnd ?_ kk
  exact va_runIN (Ts := wsL_law) (n := na) ⟨X.1, X.2.1, X.2.2.1, X.2.2.2.1, X.2.2.2.2.1⟩ (hM H.size) ⟨va_cnB na X.2.2.2.2.1 (gT_good cw.1) rfl rfl rfl (X.2.2.2.2.2.1.1.2.2.1 _ hl) (X.2.2.2.2.1 _ cw.2.1) cw.2.2 hR, hy, X.2.2.2.2.1 _ hi⟩ ⟨nM_blind (l := l), fun U hU hW => ⟨rfl, by rw [hU], by rw [hU]; exact hPc, gKo.warm hW X.2.2.2.2.2.1⟩⟩ rfl hn hls hst (lv_room hroom) hdg hz
theorem nn_callI (X : nX p s m args meth c cc nL own D cy) (hls : ls.size = nL) (G : nS D s A (n + 1) ad g H locs) {a : Nat} (ea : ad n = a) (hM : nM l D cy y b nn fr lo mc ms a As x0 k x) (he : g n = x0) (hnd : va_nd (List.range n) = true) (cw : gCW y b nn none na) (hl : Cond.methodLink own index y ∈ wsL_law) (hi : Cond.instanceMethod y ∈ wsL_law) (hy : y.name = "<init>") (hn : As.length = na) (hst : st = As.reverse ++ .ref a :: rest) (hroom : (rest.map fun v => v.category).sum ≤ 8) (hR : fr + 1 ≤ R.frames ∧ 8 + (nn + 11) + lo ≤ R.locals) (hz : cells + mc ≤ R.cells ∧ slots + ms ≤ R.slots) (hdg : decode cc pc = .ok (.invokespecial index, 3))
    (kk : ∀ (qd : Nat → Nat) (H1 : Heap) (locs1 : List Loc), qd 0 = a → nS D s A (n + k) (cat n ad qd) (cat n g (x qd)) H1 locs1 → W p l e R s m args below meth c H1 locs1 (cells + mc) (slots + ms) Q (F0 m (pc + 3) ls rest)) : W p l e R s m args below meth c H locs cells slots Q (F0 m pc ls st) := by
  subst ea
  have hPc : va_P D vwCl [(ad n, x0)] H := fun i q hq => by
    have hi : i < 1 := (List.getElem?_eq_some_iff.mp hq).1
    have e0 : i = 0 := by omega
    subst e0
    cases hq
    have := G.1 n _ (gL_get (by omega))
    rw [he] at this
    exact this
  refine nn_behind (As := As) X G he hnd ?_ kk
  exact va_runI (Ts := wsL_law) (n := na) ⟨X.1, X.2.1, X.2.2.1, X.2.2.2.1, X.2.2.2.2.1⟩ (hM H.size) ⟨callB_of na X.2.2.2.2.1 (gT_good cw.1) rfl rfl rfl (X.2.2.2.2.1 _ cw.2.1) (X.2.2.2.2.1 _ hl) cw.2.2 hR, hy, X.2.2.2.2.1 _ hi⟩ ⟨nM_blind (l := l), fun U hU hW => ⟨rfl, by rw [hU], by rw [hU]; exact hPc, gKo.warm hW X.2.2.2.2.2.1⟩⟩ rfl hn hls hst (lv_room hroom) hdg hz
end NCALL
/-- new T[n][m] -/
theorem pl_rows {L : List Nat} {r : Nat → Nat} {N : Nat} {f : Nat → va_E} {x : va_E} : va_pl ([] ++ (List.range N).map r) (vr_up f ((List.range N).map r) x) = gL N r (fun _ => x) := by
  unfold va_pl gL
  rw [List.nil_append, List.map_map]
  apply List.map_congr_left
  intro i hi
  show (r i, vr_up f ((List.range N).map r) x (r i)) = (r i, x)
  rw [vr_up_in (List.mem_map.mpr ⟨i, hi, rfl⟩)]
theorem nn_mna (X : nX p s m args meth c cc nL own D cy) (G : nS D s A n ad g H locs) {index : Nat} (hcl : Cond.classLink own index "[[I" ∈ wsL_law) {i j : Int32} {N' K' : Nat} (hn : ¬ i < 0) (hk : ¬ j < 0) (hN : i.toNatClampNeg = N') (hM : j.toNatClampNeg = K') (hb1 : N' * 4 ≤ 536870912) (hb2 : K' * componentBytes .int ≤ 536870912) (hb3 : K' ≤ 536870912) (hcells : cells + (1 + N') ≤ R.cells) (hslots : slots + (N' + N' * K') ≤ R.slots) (hz : ∀ c : ClassId, Jvm.Free.Multi.innerC c K' (defaultValue .int) = vp_cell c (K', .inl (fun _ => 0))) (hdg : decode cc pc = .ok (.multianewarray index 2, 4))
    (kk : ∀ (q : Nat) (r : Nat → Nat) (H1 : Heap), nS D s A (n + 1 + N') (cat (n + 1) (cat n ad (fun _ => q)) r) (cat (n + 1) (cat n g (fun _ => .inl (cy 6, N', gRr (fun i => if i < N' then some (r i) else none)))) (fun _ => .inl (cy 0, K', .inl (fun _ => 0)))) H1 locs → W p l e R s m args below meth c H1 locs (cells + 1 + N') (slots + N' + N' * K') Q (F0 m (pc + 4) ls (.ref q :: rest))) : W p l e R s m args below meth c H locs cells slots Q (F0 m pc ls (.int j :: .int i :: rest)) := by
  have hK := X.2.2.2.2.2.1.1.1
  have hcy : s.vm.findClass (FieldType.array .int).toString = some (cy 0) := (hK.2 0 _ rfl).2
  refine va_mna (X := gL n ad g) (L := []) (f := fun _ => .inl (cy 0, K', .inl (fun _ => 0))) (ty := .int) (z := (K', .inl (fun _ => 0))) X.1 X.2.1 X.2.2.2.1 (X.2.2.2.2.1 _ hcl) X.2.2.2.2.2.1.2.2.2.2 (X.2.2.2.2.1 _ qw_3_4) hcy hK (by show va_P D vwCl (gL n ad g ++ []) H; rw [List.append_nil]; exact G.1) (by show va_D A (gL n ad g ++ []); rw [List.append_nil]; exact G.2.1) G.2.2.1 G.2.2.2 hn hk hN hM hb1 hb2 hb3 rfl rfl hcells hslots hz hdg (fun q r cA H1 _ _ hK1 hP hD hS => ?_)
  have e1 : cA = cy 6 := RA_uniq (ty := .array .int) (hK1.2 (gTys cy).length (cA, .array .int) (by rw [List.getElem?_append_right (Nat.le_refl _), Nat.sub_self]; rfl)).2 (hK.2 6 _ rfl).2
  subst e1
  rw [pl_rows (L := []), gL_push, gL_app] at hP hD
  exact kk q r H1 ⟨hP, hD, hS, G.2.2.2⟩
end NROWS
