section
variable {l : Launch} {D : va_G} {cy : Nat → ClassId} {a : Nat}

def xRow (cy : Nat → ClassId) (qd : Nat → Nat) : Nat → va_E := fun i => if i = 0 then .inr (6, [.ref (qd 1), .int (-1), .int 0]) else .inl (cy 0, 40, .inl (fun _ => 0))
def xTape (cy : Nat → ClassId) (qd : Nat → Nat) : Nat → va_E := fun i => if i = 0 then .inr (8, [.ref (qd 1), .int 0, .int 0, .int 0, .int 0, .int 0, .int 0, .int 0]) else .inl (cy 0, 90, .inl (fun _ => 0))
def xAsk (cy : Nat → ClassId) (qd : Nat → Nat) : Nat → va_E := fun i => if i = 0 then .inr (0, [.ref (qd 1), .int 0, .int 0, .int 0, .int 0]) else .inl (cy 0, 16, .inl (fun _ => 0))
def xPap (st : Nat) (cy : Nat → ClassId) (qd : Nat → Nat) : Nat → va_E := fun i => if i = 0 then .inr (5, [.ref st, .ref (qd 1), .ref (qd 2), .ref (qd 3), .ref (qd 4), .ref (qd 5), .ref (qd 6), .int 0, .int 0, .int 0, .int 0, .int 0, .int 0, .int 0]) else if i = 1 then .inl (cy 0, 24, .inl (fun _ => 0)) else .inl (cy 0, 5, .inl (fun _ => 0))
def xFore (nw st : Nat) (cy : Nat → ClassId) (qd : Nat → Nat) : Nat → va_E := fun i => if i = 0 then .inr (3, [.ref nw, .ref (qd 2), .ref (qd 1)]) else if i = 1 then .inl (cy 0, 25, .inl (fun _ => 0)) else if i = 2 then .inr (5, [.ref st, .ref (qd 3), .ref (qd 4), .ref (qd 5), .ref (qd 6), .ref (qd 7), .ref (qd 8), .int 0, .int 0, .int 0, .int 0, .int 0, .int 0, .int 0]) else if i = 3 then .inl (cy 0, 24, .inl (fun _ => 0)) else .inl (cy 0, 5, .inl (fun _ => 0))
theorem cw_X0_init : gCW yX0_init cX0_init 1 none 0 := ⟨qw_4_23, qw_3_1, by decide, by decide, by decide +kernel⟩
theorem cw_X1_init : gCW yX1_init cX1_init 1 none 0 := ⟨qw_4_0, qw_2_8, by decide, by decide, by decide +kernel⟩
theorem cw_X2_init : gCW yX2_init cX2_init 1 none 0 := ⟨qw_3_22, qw_2_5, by decide, by decide, by decide +kernel⟩
theorem cw_X3_init : gCW yX3_init cX3_init 1 none 0 := ⟨qw_3_15, qw_3_14, by decide, by decide, by decide +kernel⟩
theorem cw_X4_init : gCW yX4_init cX4_init 3 none 2 := ⟨qw_4_16, qw_2_21, by decide, by decide, by decide +kernel⟩
theorem cw_X5_init : gCW yX5_init cX5_init 1 none 0 := ⟨qw_3_12, qw_1_20, by decide, by decide, by decide +kernel⟩
theorem cw_X6_init : gCW yX6_init cX6_init 2 none 1 := ⟨qw_4_6, qw_2_15, by decide, by decide, by decide +kernel⟩
theorem cw_X7_init : gCW yX7_init cX7_init 1 none 0 := ⟨qw_3_7, qw_1_15, by decide, by decide, by decide +kernel⟩
theorem cw_X8_init : gCW yX8_init cX8_init 1 none 0 := ⟨qw_3_20, qw_2_2, by decide, by decide, by decide +kernel⟩
theorem cw_X9_init : gCW yX9_init cX9_init 1 none 0 := ⟨qw_4_2, qw_2_11, by decide, by decide, by decide +kernel⟩
theorem cw_X10_init : gCW yX10_init cX10_init 1 none 0 := ⟨qw_3_18, qw_1_23, by decide, by decide, by decide +kernel⟩
theorem cw_X11_init : gCW yX11_init cX11_init 2 none 0 := ⟨qw_1_8, qw_1_2, by decide, by decide, by decide +kernel⟩
theorem cw_X12_init : gCW yX12_init cX12_init 2 none 0 := ⟨qw_5_4, qw_1_5, by decide, by decide, by decide +kernel⟩
theorem NC5 : ((RX5 : String), "PaperHouses$Folk") ∈ gNC := by decide
theorem NC10 : ((RX10 : String), "PaperHouses$Folk") ∈ gNC := by decide
theorem NC8 : ((RX8 : String), "PaperHouses$Folk") ∈ gNC := by decide
theorem NC2 : ((RX2 : String), "PaperHouses$Folk") ∈ gNC := by decide
theorem NC1 : ((RX1 : String), "PaperHouses$Folk") ∈ gNC := by decide
set_option maxHeartbeats 4000000 in
set_option maxRecDepth 100000 in
theorem mk_X3 {x0 : va_E} : nM l D cy yX3_init cX3_init 1 1 12 0 0 a [] x0 1 (fun _ _ => x0) := by
  refine nM.of (own := RX3) (lv := [(0, .ref a)]) (by decide) rfl rfl (Nat.le_of_ble_eq_true rfl) rfl ?_
  intro p e s m below meth c ls H locs hin hr X G hl
  have hx := X.1
  have hb := X.2.1
  refine lv_aload_n hx hb dX3_init_0 rfl (lv_at hl 0 rfl) ?_
  refine nn_obj X hl.1 qw_3_16 dX3_init_1 (Nat.le_of_ble_eq_true rfl) (Nat.le_of_ble_eq_true rfl) ?_
  exact nn_ret X G hr rfl rfl dX3_init_4
set_option maxHeartbeats 4000000 in
set_option maxRecDepth 100000 in
theorem mk_X5 {x0 : va_E} : nM l D cy yX5_init cX5_init 1 2 32 0 0 a [] x0 1 (fun _ _ => x0) := by
  refine nM.of (own := RX5) (lv := [(0, .ref a)]) (by decide) rfl rfl (Nat.le_of_ble_eq_true rfl) rfl ?_
  intro p e s m below meth c ls H locs hin hr X G hl
  have hx := X.1
  have hb := X.2.1
  refine lv_aload_n hx hb dX5_init_0 rfl (lv_at hl 0 rfl) ?_
  refine nn_callIN (rest := []) (As := []) X hl.1 G rfl (mk_X3) rfl (by decide +kernel) cw_X3_init nm_2 qw_3_13 rfl rfl rfl (Nat.le_of_ble_eq_true rfl) ⟨(Nat.le_of_ble_eq_true rfl), (Nat.le_of_ble_eq_true rfl)⟩ ⟨(Nat.le_of_ble_eq_true rfl), (Nat.le_of_ble_eq_true rfl)⟩ dX5_init_1 (fun qd1 H locs hq G => ?_)
  subst hq
  exact nn_ret X G hr rfl rfl dX5_init_4
set_option maxHeartbeats 4000000 in
set_option maxRecDepth 100000 in
theorem mk_X2 {x0 : va_E} : nM l D cy yX2_init cX2_init 1 2 32 0 0 a [] x0 1 (fun _ _ => x0) := by
  refine nM.of (own := RX2) (lv := [(0, .ref a)]) (by decide) rfl rfl (Nat.le_of_ble_eq_true rfl) rfl ?_
  intro p e s m below meth c ls H locs hin hr X G hl
  have hx := X.1
  have hb := X.2.1
  refine lv_aload_n hx hb dX2_init_0 rfl (lv_at hl 0 rfl) ?_
  refine nn_callIN (rest := []) (As := []) X hl.1 G rfl (mk_X3) rfl (by decide +kernel) cw_X3_init nm_8 qw_3_13 rfl rfl rfl (Nat.le_of_ble_eq_true rfl) ⟨(Nat.le_of_ble_eq_true rfl), (Nat.le_of_ble_eq_true rfl)⟩ ⟨(Nat.le_of_ble_eq_true rfl), (Nat.le_of_ble_eq_true rfl)⟩ dX2_init_1 (fun qd1 H locs hq G => ?_)
  subst hq
  exact nn_ret X G hr rfl rfl dX2_init_4
set_option maxHeartbeats 4000000 in
set_option maxRecDepth 100000 in
theorem mk_X10 {x0 : va_E} : nM l D cy yX10_init cX10_init 1 3 52 0 0 a [] x0 1 (fun _ _ => x0) := by
  refine nM.of (own := RX10) (lv := [(0, .ref a)]) (by decide) rfl rfl (Nat.le_of_ble_eq_true rfl) rfl ?_
  intro p e s m below meth c ls H locs hin hr X G hl
  have hx := X.1
  have hb := X.2.1
  refine lv_aload_n hx hb dX10_init_0 rfl (lv_at hl 0 rfl) ?_
  refine nn_callIN (rest := []) (As := []) X hl.1 G rfl (mk_X5) rfl (by decide +kernel) cw_X5_init nm_4 qw_3_11 rfl rfl rfl (Nat.le_of_ble_eq_true rfl) ⟨(Nat.le_of_ble_eq_true rfl), (Nat.le_of_ble_eq_true rfl)⟩ ⟨(Nat.le_of_ble_eq_true rfl), (Nat.le_of_ble_eq_true rfl)⟩ dX10_init_1 (fun qd1 H locs hq G => ?_)
  subst hq
  exact nn_ret X G hr rfl rfl dX10_init_4
set_option maxHeartbeats 4000000 in
set_option maxRecDepth 100000 in
theorem mk_X8 {x0 : va_E} : nM l D cy yX8_init cX8_init 1 3 52 0 0 a [] x0 1 (fun _ _ => x0) := by
  refine nM.of (own := RX8) (lv := [(0, .ref a)]) (by decide) rfl rfl (Nat.le_of_ble_eq_true rfl) rfl ?_
  intro p e s m below meth c ls H locs hin hr X G hl
  have hx := X.1
  have hb := X.2.1
  refine lv_aload_n hx hb dX8_init_0 rfl (lv_at hl 0 rfl) ?_
  refine nn_callIN (rest := []) (As := []) X hl.1 G rfl (mk_X5) rfl (by decide +kernel) cw_X5_init nm_6 qw_3_11 rfl rfl rfl (Nat.le_of_ble_eq_true rfl) ⟨(Nat.le_of_ble_eq_true rfl), (Nat.le_of_ble_eq_true rfl)⟩ ⟨(Nat.le_of_ble_eq_true rfl), (Nat.le_of_ble_eq_true rfl)⟩ dX8_init_1 (fun qd1 H locs hq G => ?_)
  subst hq
  exact nn_ret X G hr rfl rfl dX8_init_4
set_option maxHeartbeats 4000000 in
set_option maxRecDepth 100000 in
theorem mk_X1 {x0 : va_E} : nM l D cy yX1_init cX1_init 1 3 52 0 0 a [] x0 1 (fun _ _ => x0) := by
  refine nM.of (own := RX1) (lv := [(0, .ref a)]) (by decide) rfl rfl (Nat.le_of_ble_eq_true rfl) rfl ?_
  intro p e s m below meth c ls H locs hin hr X G hl
  have hx := X.1
  have hb := X.2.1
  refine lv_aload_n hx hb dX1_init_0 rfl (lv_at hl 0 rfl) ?_
  refine nn_callIN (rest := []) (As := []) X hl.1 G rfl (mk_X2) rfl (by decide +kernel) cw_X2_init nm_10 qw_3_21 rfl rfl rfl (Nat.le_of_ble_eq_true rfl) ⟨(Nat.le_of_ble_eq_true rfl), (Nat.le_of_ble_eq_true rfl)⟩ ⟨(Nat.le_of_ble_eq_true rfl), (Nat.le_of_ble_eq_true rfl)⟩ dX1_init_1 (fun qd1 H locs hq G => ?_)
  subst hq
  exact nn_ret X G hr rfl rfl dX1_init_4
set_option maxHeartbeats 4000000 in
set_option maxRecDepth 100000 in
theorem mk_X7 : nM l D cy yX7_init cX7_init 1 1 12 1 40 a [] (.inr (6, [.null, .int 0, .int 0])) 2 (xRow cy) := by
  refine nM.of (own := RX7) (lv := [(0, .ref a)]) (by decide) rfl rfl (Nat.le_of_ble_eq_true rfl) rfl ?_
  intro p e s m below meth c ls H locs hin hr X G hl
  have hx := X.1
  have hb := X.2.1
  refine lv_aload_n hx hb dX7_init_0 rfl (lv_at hl 0 rfl) ?_
  refine nn_obj X hl.1 qw_3_8 dX7_init_1 (Nat.le_of_ble_eq_true rfl) (Nat.le_of_ble_eq_true rfl) ?_
  refine lv_aload_n hx hb dX7_init_4 rfl (lv_at hl 0 rfl) ?_
  refine lv_bipush (v := 40) hx hb dX7_init_5 (by decide) ?_
  refine nn_arr (atype := .int) (t := 0) (N' := 40) X G rfl rfl qw_3_4 (fun _ => rfl) (by decide) (by decide) (by decide) (Nat.le_of_ble_eq_true rfl) (Nat.le_of_ble_eq_true rfl) dX7_init_7 (fun q1 H G => ?_)
  refine nn_putF (k := 0) (j := 0) (ci := 6) X G hin (Nat.le_of_ble_eq_true rfl) rfl rfl (by decide) inlX7 tyX7 tyX7_ok nmX7 qw_3_9 rfl rfl (tyX7_ok 0 (by decide)) rfl rfl (Nat.le_of_ble_eq_true rfl) rfl dX7_init_9 (fun H locs G => ?_)
  refine lv_aload_n hx hb dX7_init_12 rfl (lv_at hl 0 rfl) ?_
  refine lv_iconst (v := (-1)) hx hb dX7_init_13 (by decide) ?_
  refine nn_put (k := 0) (j := 1) (ci := 6) X G (Nat.le_of_ble_eq_true rfl) rfl rfl (by decide) inlX7 tyX7 tyX7_ok nmX7 qw_3_10 rfl (tyX7_ok 1 (by decide)) rfl rfl (Nat.le_of_ble_eq_true rfl) rfl dX7_init_14 (fun H locs G => ?_)
  exact nn_ret X G hr rfl (by rfl) dX7_init_17
set_option maxHeartbeats 4000000 in
set_option maxRecDepth 100000 in
theorem mk_X9 : nM l D cy yX9_init cX9_init 1 1 12 1 90 a [] (.inr (8, [.null, .int 0, .int 0, .int 0, .int 0, .int 0, .int 0, .int 0])) 2 (xTape cy) := by
  refine nM.of (own := RX9) (lv := [(0, .ref a)]) (by decide) rfl rfl (Nat.le_of_ble_eq_true rfl) rfl ?_
  intro p e s m below meth c ls H locs hin hr X G hl
  have hx := X.1
  have hb := X.2.1
  refine lv_aload_n hx hb dX9_init_0 rfl (lv_at hl 0 rfl) ?_
  refine nn_obj X hl.1 qw_4_3 dX9_init_1 (Nat.le_of_ble_eq_true rfl) (Nat.le_of_ble_eq_true rfl) ?_
  refine lv_aload_n hx hb dX9_init_4 rfl (lv_at hl 0 rfl) ?_
  refine lv_bipush (v := 90) hx hb dX9_init_5 (by decide) ?_
  refine nn_arr (atype := .int) (t := 0) (N' := 90) X G rfl rfl qw_3_4 (fun _ => rfl) (by decide) (by decide) (by decide) (Nat.le_of_ble_eq_true rfl) (Nat.le_of_ble_eq_true rfl) dX9_init_7 (fun q1 H G => ?_)
  refine nn_putF (k := 0) (j := 0) (ci := 8) X G hin (Nat.le_of_ble_eq_true rfl) rfl rfl (by decide) inlX9 tyX9 tyX9_ok nmX9 qw_4_4 rfl rfl (tyX9_ok 0 (by decide)) rfl rfl (Nat.le_of_ble_eq_true rfl) rfl dX9_init_9 (fun H locs G => ?_)
  exact nn_ret X G hr rfl (by rfl) dX9_init_12
set_option maxHeartbeats 4000000 in
set_option maxRecDepth 100000 in
theorem mk_X0 : nM l D cy yX0_init cX0_init 1 1 12 1 16 a [] (.inr (0, [.null, .int 0, .int 0, .int 0, .int 0])) 2 (xAsk cy) := by
  refine nM.of (own := RX0) (lv := [(0, .ref a)]) (by decide) rfl rfl (Nat.le_of_ble_eq_true rfl) rfl ?_
  intro p e s m below meth c ls H locs hin hr X G hl
  have hx := X.1
  have hb := X.2.1
  refine lv_aload_n hx hb dX0_init_0 rfl (lv_at hl 0 rfl) ?_
  refine nn_obj X hl.1 qw_5_0 dX0_init_1 (Nat.le_of_ble_eq_true rfl) (Nat.le_of_ble_eq_true rfl) ?_
  refine lv_aload_n hx hb dX0_init_4 rfl (lv_at hl 0 rfl) ?_
  refine lv_bipush (v := 16) hx hb dX0_init_5 (by decide) ?_
  refine nn_arr (atype := .int) (t := 0) (N' := 16) X G rfl rfl qw_3_4 (fun _ => rfl) (by decide) (by decide) (by decide) (Nat.le_of_ble_eq_true rfl) (Nat.le_of_ble_eq_true rfl) dX0_init_7 (fun q1 H G => ?_)
  refine nn_putF (k := 0) (j := 0) (ci := 0) X G hin (Nat.le_of_ble_eq_true rfl) rfl rfl (by decide) inlX0 tyX0 tyX0_ok nmX0 qw_5_1 rfl rfl (tyX0_ok 0 (by decide)) rfl rfl (Nat.le_of_ble_eq_true rfl) rfl dX0_init_9 (fun H locs G => ?_)
  exact nn_ret X G hr rfl (by rfl) dX0_init_12
set_option maxHeartbeats 4000000 in
set_option maxRecDepth 100000 in
theorem mk_X6 {st : Nat} : nM l D cy yX6_init cX6_init 2 1 12 6 49 a [.ref st] (.inr (5, [.null, .null, .null, .null, .null, .null, .null, .int 0, .int 0, .int 0, .int 0, .int 0, .int 0, .int 0])) 7 (xPap st cy) := by
  refine nM.of (own := RX6) (lv := [(0, .ref a), (1, .ref st)]) (by decide) rfl rfl (Nat.le_of_ble_eq_true rfl) rfl ?_
  intro p e s m below meth c ls H locs hin hr X G hl
  have hx := X.1
  have hb := X.2.1
  refine lv_aload_n hx hb dX6_init_0 rfl (lv_at hl 0 rfl) ?_
  refine nn_obj X hl.1 qw_4_7 dX6_init_1 (Nat.le_of_ble_eq_true rfl) (Nat.le_of_ble_eq_true rfl) ?_
  refine lv_aload_n hx hb dX6_init_4 rfl (lv_at hl 0 rfl) ?_
  refine lv_bipush (v := 24) hx hb dX6_init_5 (by decide) ?_
  refine nn_arr (atype := .int) (t := 0) (N' := 24) X G rfl rfl qw_3_4 (fun _ => rfl) (by decide) (by decide) (by decide) (Nat.le_of_ble_eq_true rfl) (Nat.le_of_ble_eq_true rfl) dX6_init_7 (fun q1 H G => ?_)
  refine nn_putF (k := 0) (j := 1) (ci := 5) X G hin (Nat.le_of_ble_eq_true rfl) rfl rfl (by decide) inlX6 tyX6 tyX6_ok nmX6 qw_4_8 rfl rfl (tyX6_ok 1 (by decide)) rfl rfl (Nat.le_of_ble_eq_true rfl) rfl dX6_init_9 (fun H locs G => ?_)
  refine lv_aload_n hx hb dX6_init_12 rfl (lv_at hl 0 rfl) ?_
  refine lv_iconst (v := 5) hx hb dX6_init_13 (by decide) ?_
  refine nn_arr (atype := .int) (t := 0) (N' := 5) X G rfl rfl qw_3_4 (fun _ => rfl) (by decide) (by decide) (by decide) (Nat.le_of_ble_eq_true rfl) (Nat.le_of_ble_eq_true rfl) dX6_init_14 (fun q2 H G => ?_)
  refine nn_putF (k := 0) (j := 2) (ci := 5) X G hin (Nat.le_of_ble_eq_true rfl) rfl rfl (by decide) inlX6 tyX6 tyX6_ok nmX6 qw_4_9 rfl rfl (tyX6_ok 2 (by decide)) rfl rfl (Nat.le_of_ble_eq_true rfl) rfl dX6_init_16 (fun H locs G => ?_)
  refine lv_aload_n hx hb dX6_init_19 rfl (lv_at hl 0 rfl) ?_
  refine lv_iconst (v := 5) hx hb dX6_init_20 (by decide) ?_
  refine nn_arr (atype := .int) (t := 0) (N' := 5) X G rfl rfl qw_3_4 (fun _ => rfl) (by decide) (by decide) (by decide) (Nat.le_of_ble_eq_true rfl) (Nat.le_of_ble_eq_true rfl) dX6_init_21 (fun q3 H G => ?_)
  refine nn_putF (k := 0) (j := 3) (ci := 5) X G hin (Nat.le_of_ble_eq_true rfl) rfl rfl (by decide) inlX6 tyX6 tyX6_ok nmX6 qw_4_10 rfl rfl (tyX6_ok 3 (by decide)) rfl rfl (Nat.le_of_ble_eq_true rfl) rfl dX6_init_23 (fun H locs G => ?_)
  refine lv_aload_n hx hb dX6_init_26 rfl (lv_at hl 0 rfl) ?_
  refine lv_iconst (v := 5) hx hb dX6_init_27 (by decide) ?_
  refine nn_arr (atype := .int) (t := 0) (N' := 5) X G rfl rfl qw_3_4 (fun _ => rfl) (by decide) (by decide) (by decide) (Nat.le_of_ble_eq_true rfl) (Nat.le_of_ble_eq_true rfl) dX6_init_28 (fun q4 H G => ?_)
  refine nn_putF (k := 0) (j := 4) (ci := 5) X G hin (Nat.le_of_ble_eq_true rfl) rfl rfl (by decide) inlX6 tyX6 tyX6_ok nmX6 qw_4_11 rfl rfl (tyX6_ok 4 (by decide)) rfl rfl (Nat.le_of_ble_eq_true rfl) rfl dX6_init_30 (fun H locs G => ?_)
  refine lv_aload_n hx hb dX6_init_33 rfl (lv_at hl 0 rfl) ?_
  refine lv_iconst (v := 5) hx hb dX6_init_34 (by decide) ?_
  refine nn_arr (atype := .int) (t := 0) (N' := 5) X G rfl rfl qw_3_4 (fun _ => rfl) (by decide) (by decide) (by decide) (Nat.le_of_ble_eq_true rfl) (Nat.le_of_ble_eq_true rfl) dX6_init_35 (fun q5 H G => ?_)
  refine nn_putF (k := 0) (j := 5) (ci := 5) X G hin (Nat.le_of_ble_eq_true rfl) rfl rfl (by decide) inlX6 tyX6 tyX6_ok nmX6 qw_4_12 rfl rfl (tyX6_ok 5 (by decide)) rfl rfl (Nat.le_of_ble_eq_true rfl) rfl dX6_init_37 (fun H locs G => ?_)
  refine lv_aload_n hx hb dX6_init_40 rfl (lv_at hl 0 rfl) ?_
  refine lv_iconst (v := 5) hx hb dX6_init_41 (by decide) ?_
  refine nn_arr (atype := .int) (t := 0) (N' := 5) X G rfl rfl qw_3_4 (fun _ => rfl) (by decide) (by decide) (by decide) (Nat.le_of_ble_eq_true rfl) (Nat.le_of_ble_eq_true rfl) dX6_init_42 (fun q6 H G => ?_)
  refine nn_putF (k := 0) (j := 6) (ci := 5) X G hin (Nat.le_of_ble_eq_true rfl) rfl rfl (by decide) inlX6 tyX6 tyX6_ok nmX6 qw_4_13 rfl rfl (tyX6_ok 6 (by decide)) rfl rfl (Nat.le_of_ble_eq_true rfl) rfl dX6_init_44 (fun H locs G => ?_)
  refine lv_aload_n hx hb dX6_init_47 rfl (lv_at hl 0 rfl) ?_
  refine lv_aload_n hx hb dX6_init_48 rfl (lv_at hl 1 rfl) ?_
  refine nn_putF (k := 0) (j := 0) (ci := 5) X G hin (Nat.le_of_ble_eq_true rfl) rfl rfl (by decide) inlX6 tyX6 tyX6_ok nmX6 qw_4_14 rfl rfl (tyX6_ok 0 (by decide)) rfl rfl (Nat.le_of_ble_eq_true rfl) rfl dX6_init_49 (fun H locs G => ?_)
  exact nn_ret X G hr rfl (by rfl) dX6_init_52
set_option maxHeartbeats 4000000 in
set_option maxRecDepth 100000 in
theorem mk_X4 {nw st : Nat} : nM l D cy yX4_init cX4_init 3 2 33 8 88 a [.ref nw, .ref st] (.inr (3, [.null, .null, .null])) 9 (xFore nw st cy) := by
  refine nM.of (own := RX4) (lv := [(0, .ref a), (1, .ref nw), (2, .ref st)]) (by decide) rfl rfl (Nat.le_of_ble_eq_true rfl) rfl ?_
  intro p e s m below meth c ls H locs hin hr X G hl
  have hx := X.1
  have hb := X.2.1
  refine lv_aload_n hx hb dX4_init_0 rfl (lv_at hl 0 rfl) ?_
  refine nn_obj X hl.1 qw_4_17 dX4_init_1 (Nat.le_of_ble_eq_true rfl) (Nat.le_of_ble_eq_true rfl) ?_
  refine lv_aload_n hx hb dX4_init_4 rfl (lv_at hl 0 rfl) ?_
  refine lv_bipush (v := 25) hx hb dX4_init_5 (by decide) ?_
  refine nn_arr (atype := .int) (t := 0) (N' := 25) X G rfl rfl qw_3_4 (fun _ => rfl) (by decide) (by decide) (by decide) (Nat.le_of_ble_eq_true rfl) (Nat.le_of_ble_eq_true rfl) dX4_init_7 (fun q1 H G => ?_)
  refine nn_putF (k := 0) (j := 2) (ci := 3) X G hin (Nat.le_of_ble_eq_true rfl) rfl rfl (by decide) inlX4 tyX4 tyX4_ok nmX4 qw_4_18 rfl rfl (tyX4_ok 2 (by decide)) rfl rfl (Nat.le_of_ble_eq_true rfl) rfl dX4_init_9 (fun H locs G => ?_)
  refine lv_aload_n hx hb dX4_init_12 rfl (lv_at hl 0 rfl) ?_
  refine lv_aload_n hx hb dX4_init_13 rfl (lv_at hl 1 rfl) ?_
  refine nn_putF (k := 0) (j := 0) (ci := 3) X G hin (Nat.le_of_ble_eq_true rfl) rfl rfl (by decide) inlX4 tyX4 tyX4_ok nmX4 qw_4_19 rfl rfl (tyX4_ok 0 (by decide)) rfl rfl (Nat.le_of_ble_eq_true rfl) rfl dX4_init_14 (fun H locs G => ?_)
  refine lv_aload_n hx hb dX4_init_17 rfl (lv_at hl 0 rfl) ?_
  refine nn_new (ci := 5) (C := RX6) (T := TX6) (Nf := 14) (fs := [.null, .null, .null, .null, .null, .null, .null, .int 0, .int 0, .int 0, .int 0, .int 0, .int 0, .int 0]) X G rfl inlX6 tyX6 tyX6_ok qw_4_20 qw_2_14 qw_2_15 (fun j hj => by rcases (show j = 0 ∨ j = 1 ∨ j = 2 ∨ j = 3 ∨ j = 4 ∨ j = 5 ∨ j = 6 ∨ j = 7 ∨ j = 8 ∨ j = 9 ∨ j = 10 ∨ j = 11 ∨ j = 12 ∨ j = 13 by omega) with rfl | rfl | rfl | rfl | rfl | rfl | rfl | rfl | rfl | rfl | rfl | rfl | rfl | rfl <;> rfl) (Nat.le_of_ble_eq_true rfl) (Nat.le_of_ble_eq_true rfl) dX4_init_18 (fun q2 H G => ?_)
  refine lv_dup hx hb dX4_init_21 rfl ?_
  refine lv_aload_n hx hb dX4_init_22 rfl (lv_at hl 2 rfl) ?_
  refine nn_callIN (rest := [.ref q2, .ref a]) (As := [.ref st]) X hl.1 G rfl (mk_X6) rfl (by decide +kernel) cw_X6_init nm_14 qw_4_5 rfl rfl rfl (Nat.le_of_ble_eq_true rfl) ⟨(Nat.le_of_ble_eq_true rfl), (Nat.le_of_ble_eq_true rfl)⟩ ⟨(Nat.le_of_ble_eq_true rfl), (Nat.le_of_ble_eq_true rfl)⟩ dX4_init_23 (fun qd3 H locs hq G => ?_)
  subst hq
  refine nn_putF (k := 0) (j := 1) (ci := 3) X G hin (Nat.le_of_ble_eq_true rfl) rfl rfl (by decide) inlX4 tyX4 tyX4_ok nmX4 qw_4_21 rfl rfl (tyX4_ok 1 (by decide)) rfl rfl (Nat.le_of_ble_eq_true rfl) rfl dX4_init_26 (fun H locs G => ?_)
  exact nn_ret X G hr rfl (by rfl) dX4_init_29
end
