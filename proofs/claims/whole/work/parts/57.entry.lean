/-! THE CLAIM OUT OF ONE WALK OF THE LAW'S BODY. Your part is whole_start (and what it stands on); all else here is the same for every law, but numbers. -/
def R_law : String := "PaperHousesLaw"
def lw_P (b : Addr) (xs : List Int32) (args : Array Value) (s : State) : Prop := args = #[.ref b] ∧ s.IntsAt b xs ∧ xs.length ≤ 384 ∧ (Jvm.Cond.and given_1 narrow_1).before args s = true
def lw_Q (_ : Array Value) (s : State) (o : Outcome) (t : State) : Prop := o = .returned (some (.int 1)) ∧ Framed s o t [] 600000 7302249
def lw_Z (below : List Frame) (a : Array Value) (s : State) : State → Prop := fun t => ∃ o, t.status = .running ∧ Ended t below o ∧ lw_Q a s o t
/-- the law's own end, with 1 on the stack, nothing written that was there before, its room as the claim has it -/
theorem lw_ret {p : Program} {l : Launch} {e : Env} {s : State} {m : MethodId} {below : List Frame} {meth : Method} {c : Code} {b : Nat} (hx : p.tables.exec = Jvm.exec) (hb : c.code = code) (hr : meth.sig.returnType = ret) (hlocks : meth.locks = false) {pc : Nat} {H : Heap} {ls : Array Slot} (hdg : decode code pc = .ok (.ireturn, 1)) : W p l e room_1 s m #[Value.ref b] below meth c H [] 600000 7302249 (lw_Z below #[Value.ref b] s) (F0 m pc ls [.int 1]) := by
  intro T hT X
  obtain ⟨fs, hret, hrun, hended, hW, hframe⟩ := X.leave (v := some (.int 1)) (hlocks := hlocks) (fun h => by rw [hr] at h; cases h)
  have hmeth' : T.vm.method? m = some meth := X.method'
  refine ⟨T.setFrames fs, ?_, .returned (some (.int 1)), hrun, hended, rfl, ⟨_, rfl⟩, hW, hframe⟩
  jvm_step X.here [X.here.top, hx, hb, hdg, hmeth', hr, ret, narrow_b1]
  (try refine ⟨rfl, ?_⟩); (try refine ⟨rfl, ?_⟩)
  first | (intro acts; rw [hret _ acts rfl rfl rfl]) | rw [hret _ _ rfl rfl rfl]
  exact Steps.refl _
/-- what holds at the law's entry: the machine, the code, the tables' words (any of lw_tbl by 'hts w (by decide +kernel)'), the script of L ints xs at the cell b, what the Statement gives of the start (any of its parts by flat_of_before) -/
def lw_At (p : Program) (s : State) (m : MethodId) (meth : Method) (c : Code) (b L : Nat) (xs : Nat → Int32) : Prop :=
  p.tables.exec = Jvm.exec ∧ c.code = code ∧ meth.sig.returnType = ret ∧ c.maxLocals = 4 ∧ s.vm.findClass R_law = some m.cls ∧ (∀ w ∈ lw_tbl, w.before #[Value.ref b] s = true) ∧ va_X b L xs s s.heap ∧ b < s.heap.size ∧ meth.locks = false ∧ (Jvm.Cond.and given_1 narrow_1).before #[Value.ref b] s = true

/-! what stands at the entry -/
theorem en_K {s : State} {args : Array Value} (hts : ∀ w ∈ wsL_law, w.before args s = true) : ∃ D : va_G, ∀ (k : Nat) (q : vw_C), vwCl[k]? = some q → u_Kn s q.1 q.2.1 q.2.2 (D.1 k) (D.2 k) := by
  obtain ⟨c0, i0, h0⟩ := u_known (C := RX0) (T := TX0) (N := 5) (n := 5) hts inlX0 (hts _ qw_3_0)
  obtain ⟨c1, i1, h1⟩ := u_known (C := RX1) (T := TX1) (N := 0) (n := 0) hts inlX1 (hts _ qw_2_7)
  obtain ⟨c2, i2, h2⟩ := u_known (C := RX2) (T := TX2) (N := 0) (n := 0) hts inlX2 (hts _ qw_2_4)
  obtain ⟨c3, i3, h3⟩ := u_known (C := RX4) (T := TX4) (N := 3) (n := 3) hts inlX4 (hts _ qw_2_20)
  obtain ⟨c4, i4, h4⟩ := u_known (C := RX5) (T := TX5) (N := 0) (n := 0) hts inlX5 (hts _ qw_1_19)
  obtain ⟨c5, i5, h5⟩ := u_known (C := RX6) (T := TX6) (N := 14) (n := 14) hts inlX6 (hts _ qw_2_14)
  obtain ⟨c6, i6, h6⟩ := u_known (C := RX7) (T := TX7) (N := 3) (n := 3) hts inlX7 (hts _ qw_1_14)
  obtain ⟨c7, i7, h7⟩ := u_known (C := RX8) (T := TX8) (N := 0) (n := 0) hts inlX8 (hts _ qw_2_1)
  obtain ⟨c8, i8, h8⟩ := u_known (C := RX9) (T := TX9) (N := 8) (n := 8) hts inlX9 (hts _ qw_2_10)
  obtain ⟨c9, i9, h9⟩ := u_known (C := RX10) (T := TX10) (N := 0) (n := 0) hts inlX10 (hts _ qw_1_22)
  obtain ⟨c10, i10, h10⟩ := u_known (C := RX11) (T := TX11) (N := 13) (n := 13) hts inlX11 (hts _ qw_1_1)
  obtain ⟨c11, i11, h11⟩ := u_known (C := RX12) (T := TX12) (N := 27) (n := 27) hts inlX12 (hts _ qw_1_4)
  refine ⟨(fun k => if k = 0 then c0 else if k = 1 then c1 else if k = 2 then c2 else if k = 3 then c3 else if k = 4 then c4 else if k = 5 then c5 else if k = 6 then c6 else if k = 7 then c7 else if k = 8 then c8 else if k = 9 then c9 else if k = 10 then c10 else c11, fun k => if k = 0 then i0 else if k = 1 then i1 else if k = 2 then i2 else if k = 3 then i3 else if k = 4 then i4 else if k = 5 then i5 else if k = 6 then i6 else if k = 7 then i7 else if k = 8 then i8 else if k = 9 then i9 else if k = 10 then i10 else i11), ?_⟩
  intro k q hq
  match k, hq with
  | 0, hq => cases hq; exact h0
  | 1, hq => cases hq; exact h1
  | 2, hq => cases hq; exact h2
  | 3, hq => cases hq; exact h3
  | 4, hq => cases hq; exact h4
  | 5, hq => cases hq; exact h5
  | 6, hq => cases hq; exact h6
  | 7, hq => cases hq; exact h7
  | 8, hq => cases hq; exact h8
  | 9, hq => cases hq; exact h9
  | 10, hq => cases hq; exact h10
  | 11, hq => cases hq; exact h11
  | k + 12, hq => simp [vwCl] at hq
theorem en_arr {s : State} {args : Array Value} {ty : FieldType} (hty : ∀ C, ty ≠ .object C) (h : (Cond.arrayClass ty).before args s = true) : ∃ cA : ClassId, ArrOfT s cA ty ∧ va_RA s cA ty := by
  obtain ⟨cA, kA, comp, h1, h2, h3⟩ := Cond.arrayClass_spec h
  refine ⟨cA, fun n z => ⟨fun k h => (by cases h), kA, h2, comp, h3⟩, ?_⟩
  cases ty with
  | object C => exact absurd rfl (hty C)
  | _ => exact h1
theorem en_obj {s : State} {args : Array Value} {C : String} (h : (Cond.arrayOver (.object C)).before args s = true) : ∃ cA : ClassId, ArrOfT s cA (.object C) ∧ va_RA s cA (.object C) := by
  obtain ⟨comp, c, k, h1, h2, h3, h4, h5⟩ := Cond.arrayOver_spec h
  exact ⟨c, fun n z => ⟨fun k h => (by cases h), k, h3, comp, h4⟩, k, comp, h3, h4, h1, h5⟩
theorem en_aa {s : State} {args : Array Value} {ty : FieldType} (h : (Cond.arrayOver (.array ty)).before args s = true) : ∃ cA : ClassId, ArrOfT s cA (.array ty) ∧ va_RA s cA (.array ty) := by
  obtain ⟨comp, c, k, h1, h2, h3, h4, h5⟩ := arrayOverA_spec h
  exact ⟨c, fun n z => ⟨fun k h => (by cases h), k, h3, comp, h4⟩, h5⟩
set_option maxHeartbeats 4000000 in
theorem en_No {s : State} {args : Array Value} (h : (Jvm.Cond.and given_1 narrow_1).before args s = true) : ∀ q ∈ gNO, va_Nc q.1 q.2 s := by
  have hs := flat_of_before _ h
  exact List.forall_mem_cons.mpr ⟨va_Nc.of (hs (Cond.not (.castable "PaperHouses$Lodger" "PaperHouses$Widower")) (by decide +kernel)), List.forall_mem_cons.mpr ⟨va_Nc.of (hs (Cond.not (.castable "PaperHouses$Lodger" "PaperHouses$ShortOne")) (by decide +kernel)), List.forall_mem_cons.mpr ⟨va_Nc.of (hs (Cond.not (.castable "PaperHouses$Lodger" "PaperHouses$Doctor")) (by decide +kernel)), List.forall_mem_cons.mpr ⟨va_Nc.of (hs (Cond.not (.castable "PaperHouses$Lodger" "PaperHouses$Boy")) (by decide +kernel)), List.forall_mem_cons.mpr ⟨va_Nc.of (hs (Cond.not (.castable "PaperHouses$Widower" "PaperHouses$ShortOne")) (by decide +kernel)), List.forall_mem_cons.mpr ⟨va_Nc.of (hs (Cond.not (.castable "PaperHouses$Widower" "PaperHouses$Doctor")) (by decide +kernel)), List.forall_mem_cons.mpr ⟨va_Nc.of (hs (Cond.not (.castable "PaperHouses$Widower" "PaperHouses$Boy")) (by decide +kernel)), List.forall_mem_cons.mpr ⟨va_Nc.of (hs (Cond.not (.castable "PaperHouses$ShortOne" "PaperHouses$Widower")) (by decide +kernel)), List.forall_mem_cons.mpr ⟨va_Nc.of (hs (Cond.not (.castable "PaperHouses$ShortOne" "PaperHouses$Doctor")) (by decide +kernel)), List.forall_mem_cons.mpr ⟨va_Nc.of (hs (Cond.not (.castable "PaperHouses$ShortOne" "PaperHouses$Boy")) (by decide +kernel)), List.forall_mem_cons.mpr ⟨va_Nc.of (hs (Cond.not (.castable "PaperHouses$Doctor" "PaperHouses$Lodger")) (by decide +kernel)), List.forall_mem_cons.mpr ⟨va_Nc.of (hs (Cond.not (.castable "PaperHouses$Doctor" "PaperHouses$Widower")) (by decide +kernel)), List.forall_mem_cons.mpr ⟨va_Nc.of (hs (Cond.not (.castable "PaperHouses$Doctor" "PaperHouses$ShortOne")) (by decide +kernel)), List.forall_mem_cons.mpr ⟨va_Nc.of (hs (Cond.not (.castable "PaperHouses$Doctor" "PaperHouses$Boy")) (by decide +kernel)), List.forall_mem_cons.mpr ⟨va_Nc.of (hs (Cond.not (.castable "PaperHouses$Boy" "PaperHouses$Lodger")) (by decide +kernel)), List.forall_mem_cons.mpr ⟨va_Nc.of (hs (Cond.not (.castable "PaperHouses$Boy" "PaperHouses$Widower")) (by decide +kernel)), List.forall_mem_cons.mpr ⟨va_Nc.of (hs (Cond.not (.castable "PaperHouses$Boy" "PaperHouses$ShortOne")) (by decide +kernel)), fun _ h => absurd h List.not_mem_nil⟩⟩⟩⟩⟩⟩⟩⟩⟩⟩⟩⟩⟩⟩⟩⟩⟩
theorem en_all {s : State} {b : Nat} (htb : ∀ w ∈ lw_tbl, w.before #[Value.ref b] s = true) (h : (Jvm.Cond.and given_1 narrow_1).before #[Value.ref b] s = true) : ∃ (D : va_G) (cy : Nat → ClassId), gKo D cy s := by
  have hts : ∀ w ∈ wsL_law, w.before #[Value.ref b] s = true := fun w hw => htb w (tl_all w hw)
  obtain ⟨D, hD⟩ := en_K hts
  obtain ⟨a0, h0⟩ := en_arr (ty := .int) (fun C h => by cases h) (hts _ qw_3_4)
  obtain ⟨a1, h1⟩ := en_arr (ty := .byte) (fun C h => by cases h) (hts _ qw_5_10)
  obtain ⟨a2, h2⟩ := en_arr (ty := .boolean) (fun C h => by cases h) (hts _ qw_5_20)
  obtain ⟨a3, h3⟩ := en_obj (C := "PaperHouses$Folk") (htb _ tl_AO_Folk)
  obtain ⟨a4, h4⟩ := en_obj (C := "PaperHouses$Paper") (htb _ tl_AO_Pap)
  obtain ⟨a5, h5⟩ := en_obj (C := "PaperHouses$Row") (htb _ tl_AO_Row)
  obtain ⟨a6, h6⟩ := en_aa (ty := .int) (htb _ tl_AOA)
  refine ⟨D, fun k => if k = 0 then a0 else if k = 1 then a1 else if k = 2 then a2 else if k = 3 then a3 else if k = 4 then a4 else if k = 5 then a5 else a6, ⟨⟨hD, ?_⟩, fun q hq => va_Nw.of rfl (htb _ (tl_NF q hq)), fun q hq => va_Nw.of rfl (htb _ (tl_NM q hq)), fun q hq => va_Nw.of rfl (htb _ (tl_NC q hq)), en_No h, va_Nw.of rfl (htb _ tl_Dc)⟩, va_AO.of (htb _ tl_AO_Row), va_AO.of (htb _ tl_AO_Folk), va_AO.of (htb _ tl_AO_Pap), va_AOA.of (htb _ tl_AOA)⟩
  intro k q hq
  match k, hq with
  | 0, hq => cases hq; exact h0
  | 1, hq => cases hq; exact h1
  | 2, hq => cases hq; exact h2
  | 3, hq => cases hq; exact h3
  | 4, hq => cases hq; exact h4
  | 5, hq => cases hq; exact h5
  | 6, hq => cases hq; exact h6
  | k + 7, hq => simp [gTys] at hq
/-- the law's own words: the two worlds side by side -/
def lwX (p : Program) (s : State) (m : MethodId) (meth : Method) (c : Code) (b L : Nat) (xs : Nat → Int32) (D : va_G) (cy : Nat → ClassId) (adC adR : Nat → Nat) : Prop := lw_At p s m meth c b L xs ∧ gKo D cy s ∧ gI 91 adC ∧ gI 17 adR ∧ (∀ i j, i < 91 → j < 17 → adC i ≠ adR j) ∧ (∀ i, i < 91 → s.heap.size ≤ adC i) ∧ ∀ j, j < 17 → s.heap.size ≤ adR j
abbrev lwA (s : State) : Nat → Prop := fun q => s.heap.size ≤ q
def lwG (D : va_G) (s : State) (cy : Nat → ClassId) (adC adR : Nat → Nat) (Mc Mr : Mm) (H : Heap) (locs : List Loc) : Prop := va_P D vwCl (gW 91 adC (shC adC cy) Mc) H ∧ va_P D vwCl (gW 17 adR (shR adR cy) Mr) H ∧ va_S (lwA s) s.heap H locs
section LAW
variable {p : Program} {l : Launch} {e : Env} {R : Room} {s : State} {m : MethodId} {below : List Frame} {meth : Method} {c : Code} {H : Heap} {locs : List Loc} {cells slots : Nat} {Q : State → Prop} {pc : Nat} {ls : Array Slot} {rest st : List Value} {D : va_G} {cy : Nat → ClassId} {b L i : Nat} {xs : Nat → Int32} {adC adR : Nat → Nat} {Mc Mr : Mm}
theorem lwX.words (X : lwX p s m meth c b L xs D cy adC adR) : ∀ w ∈ wsL_law, w.before #[Value.ref b] s = true := fun w hw => X.1.2.2.2.2.2.1 w (tl_all w hw)
theorem lwX.gc (X : lwX p s m meth c b L xs D cy adC adR) : gX p s m #[Value.ref b] meth c code 4 RL ret D cy 91 adC := ⟨X.1.1, X.1.2.1, X.1.2.2.2.1, X.1.2.2.2.2.1, X.words, X.2.1.1, X.2.2.1, X.1.2.2.2.2.2.2.2.2.1, X.1.2.2.1⟩
theorem lwX.gr (X : lwX p s m meth c b L xs D cy adC adR) : gX p s m #[Value.ref b] meth c code 4 RL ret D cy 17 adR := ⟨X.1.1, X.1.2.1, X.1.2.2.2.1, X.1.2.2.2.2.1, X.words, X.2.1.1, X.2.2.2.1, X.1.2.2.2.2.2.2.2.2.1, X.1.2.2.1⟩
theorem lw_run {y : MethodName} {bb : ByteArray} {n na fr lo index k ci N nL : Nat} {r rt : Option FieldType} {Qc : Array Value → State → Outcome → State → Prop} {As : List Value} {fs : (Nat → Int32) → List Value} {q : vw_C} {C own : String} {args : Array Value} {cc : ByteArray} {ad : Nat → Nat} {sh : gSh} {M : Mm} (X : gX p s m args meth c cc nL own rt D cy N ad) (hls : ls.size = nL) (hP : va_P D vwCl (gW N ad sh M) H) (hM : gM l D cy N ad sh y bb n r fr lo (.ref (ad k) :: As) M Qc) (cw : gCW y bb n r na) (hl : Cond.methodLink own index y ∈ wsL_law) (hi : Cond.instanceMethod y ∈ wsL_law) (hs : Cond.selects C y y ∈ wsL_law) (ho : gOb sh N k ci fs) (hc : vwCl[ci]? = some q) (hC : q.1 = C) (hn : As.length = na) (hst : st = As.reverse ++ .ref (ad k) :: rest) (hroom : (rest.map fun v => v.category).sum ≤ 8) (hR : fr + 1 ≤ R.frames ∧ 8 + (n + 11) + lo ≤ R.locals) (hz : cells ≤ R.cells ∧ slots ≤ R.slots) (hdg : decode cc pc = .ok (.invokevirtual index, 3)) :
    va_Run p l e R s m args below meth c H locs cells slots 0 0 (F0 m pc ls st) rest (Qc (Value.ref (ad k) :: As).toArray) (gA N ad) := by
  subst hC
  exact va_runV (C := q.1) (n := na) ⟨X.1, X.2.1, X.2.2.1, X.2.2.2.1, X.2.2.2.2.1⟩ hM ⟨callB_of na X.2.2.2.2.1 (gT_good cw.1) rfl rfl rfl (X.2.2.2.2.1 _ cw.2.1) (X.2.2.2.2.1 _ hl) cw.2.2 hR, X.2.2.2.2.1 _ hi, X.2.2.2.2.1 _ hs⟩ ⟨gPre_blind, va_recv X.2.2.2.2.2.1.1 hP hc (by rw [gW_get ho.1, ho.2]), fun U hU hW => ⟨rfl, by rw [hU]; exact hP, gK.warm hW X.2.2.2.2.2.1⟩⟩ rfl hn hls hst (lv_room hroom) hdg hz
theorem lw_two {N N2 : Nat} {ad ad2 : Nat → Nat} {sh sh2 : gSh} {M2 : Mm} {K : Int32 → Mm → Prop} {av args : Array Value} (dis : ∀ i j, i < N → j < N2 → ad i ≠ ad2 j) (lo : ∀ i, i < N → s.heap.size ≤ ad i) (hP2 : va_P D vwCl (gW N2 ad2 sh2 M2) H) (hS : va_S (lwA s) s.heap H locs) (hr : va_Run p l e R s m args below meth c H locs cells slots 0 0 (F0 m pc ls st) rest (gQi D N ad sh K av) (gA N ad))
    (kk : ∀ (x : Int32) (M1 : Mm) (H1 : Heap) (locs1 : List Loc), va_P D vwCl (gW N ad sh M1) H1 → va_P D vwCl (gW N2 ad2 sh2 M2) H1 → va_S (lwA s) s.heap H1 locs1 → K x M1 → W p l e R s m args below meth c H1 locs1 cells slots Q (F0 m (pc + 3) ls (.int x :: rest))) : W p l e R s m args below meth c H locs cells slots Q (F0 m pc ls st) := by
  have hA : ∀ q, gA N ad q → lwA s q := fun q h => by
    obtain ⟨k, hk, rfl⟩ := h
    exact lo k hk
  refine va_calli hr hS (fun q _ h => hA q h) hA (fun x M1 t H1 locs1 ht _ hK hB _ hk1 hS1 => kk x M1 H1 locs1 (by have h : va_P D vwCl (gW N ad sh M1) t.heap := hB; rw [ht] at h; exact h) (hP2.kept (fun k q hq => ?_)) hS1 hK)
  obtain ⟨h1, rfl⟩ := gW_of hq
  refine hk1 _ ((hP2 k _ hq).lt) (fun h => ?_)
  obtain ⟨j, hj, he⟩ := h
  exact dis j k hj h1 he.symm
theorem lw_C {y : MethodName} {bb : ByteArray} {n na fr lo index : Nat} {K : Int32 → Mm → Prop} {As : List Value} (X : lwX p s m meth c b L xs D cy adC adR) (G : lwG D s cy adC adR Mc Mr H locs) (hls : ls.size = 4) (hM : gM l D cy 91 adC (shC adC cy) y bb n (some .int) fr lo (.ref (adC 0) :: As) Mc (gQi D 91 adC (shC adC cy) K)) (cw : gCW y bb n (some .int) na) (hl : Cond.methodLink RL index y ∈ wsL_law) (hi : Cond.instanceMethod y ∈ wsL_law) (hs : Cond.selects RX11 y y ∈ wsL_law) (hn : As.length = na) (hst : st = As.reverse ++ .ref (adC 0) :: rest) (hroom : (rest.map fun v => v.category).sum ≤ 8) (hR : fr + 1 ≤ R.frames ∧ 8 + (n + 11) + lo ≤ R.locals) (hz : cells ≤ R.cells ∧ slots ≤ R.slots) (hdg : decode code pc = .ok (.invokevirtual index, 3))
    (kk : ∀ (x : Int32) (M1 : Mm) (H1 : Heap) (locs1 : List Loc), lwG D s cy adC adR M1 Mr H1 locs1 → K x M1 → W p l e R s m #[Value.ref b] below meth c H1 locs1 cells slots Q (F0 m (pc + 3) ls (.int x :: rest))) : W p l e R s m #[Value.ref b] below meth c H locs cells slots Q (F0 m pc ls st) :=
  lw_two X.2.2.2.2.1 X.2.2.2.2.2.1 G.2.1 G.2.2 (lw_run X.gc hls G.1 hM cw hl hi hs ob_PH rfl rfl hn hst hroom hR hz hdg) (fun x M1 H1 locs1 h1 h2 h3 hK => kk x M1 H1 locs1 ⟨h1, h2, h3⟩ hK)
theorem lw_R {y : MethodName} {bb : ByteArray} {n na fr lo index : Nat} {K : Int32 → Mm → Prop} {As : List Value} (X : lwX p s m meth c b L xs D cy adC adR) (G : lwG D s cy adC adR Mc Mr H locs) (hls : ls.size = 4) (hM : gM l D cy 17 adR (shR adR cy) y bb n (some .int) fr lo (.ref (adR 0) :: As) Mr (gQi D 17 adR (shR adR cy) K)) (cw : gCW y bb n (some .int) na) (hl : Cond.methodLink RL index y ∈ wsL_law) (hi : Cond.instanceMethod y ∈ wsL_law) (hs : Cond.selects RX12 y y ∈ wsL_law) (hn : As.length = na) (hst : st = As.reverse ++ .ref (adR 0) :: rest) (hroom : (rest.map fun v => v.category).sum ≤ 8) (hR : fr + 1 ≤ R.frames ∧ 8 + (n + 11) + lo ≤ R.locals) (hz : cells ≤ R.cells ∧ slots ≤ R.slots) (hdg : decode code pc = .ok (.invokevirtual index, 3))
    (kk : ∀ (x : Int32) (M1 : Mm) (H1 : Heap) (locs1 : List Loc), lwG D s cy adC adR Mc M1 H1 locs1 → K x M1 → W p l e R s m #[Value.ref b] below meth c H1 locs1 cells slots Q (F0 m (pc + 3) ls (.int x :: rest))) : W p l e R s m #[Value.ref b] below meth c H locs cells slots Q (F0 m pc ls st) :=
  lw_two (fun i j hi hj h => X.2.2.2.2.1 j i hj hi h.symm) X.2.2.2.2.2.2 G.1 G.2.2 (lw_run X.gr hls G.2.1 hM cw hl hi hs ob_Model rfl rfl hn hst hroom hR hz hdg) (fun x M1 H1 locs1 h1 h2 h3 hK => kk x M1 H1 locs1 ⟨h2, h1, h3⟩ hK)
/-- a number of the script -/
theorem lw_ld (X : lwX p s m meth c b L xs D cy adC adR) (hL : L ≤ 384) (G : lwG D s cy adC adR Mc Mr H locs) (hl : lv_has ls 4 [(0, .ref b), (1, .ref (adC 0)), (2, .ref (adR 0)), (3, .int (nI i))]) {k : Nat} {n : Int} (hn : Int32.ofInt n = nI k) (hk : i + k < L) (d1 : decode code pc = .ok (.aload_n 0, 1)) (d2 : decode code (pc + 1) = .ok (.iload_n 3, 1)) (d3 : decode code (pc + 1 + 1) = .ok (.iconst n, 1)) (d4 : decode code (pc + 1 + 1 + 1) = .ok (.iadd, 1)) (d5 : decode code (pc + 1 + 1 + 1 + 1) = .ok (.iaload, 1))
    (kk : W p l e R s m #[Value.ref b] below meth c H locs cells slots Q (F0 m (pc + 1 + 1 + 1 + 1 + 1) ls (.int (xs (i + k)) :: rest))) : W p l e R s m #[Value.ref b] below meth c H locs cells slots Q (F0 m pc ls rest) := by
  have hx := X.1.1
  have hb := X.1.2.1
  refine lv_aload_n hx hb d1 rfl (lv_at hl 0 rfl) ?_
  refine lv_iload_n hx hb d2 rfl (lv_at hl 3 rfl) ?_
  refine lv_iconst hx hb d3 hn ?_
  refine lv_iadd hx hb d4 ?_
  rw [nI_add]
  refine va_sld hx hb X.1.2.2.2.2.2.2.1 X.1.2.2.2.2.2.2.2.1 (Nat.not_le.mpr X.1.2.2.2.2.2.2.2.1) G.2.2 (vp_nI hk (by omega)) d5 ?_
  rw [nI_cl (by omega)]
  exact kk
end LAW
