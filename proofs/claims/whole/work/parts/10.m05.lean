section GEN05
variable {l : Launch} {D : va_G} {cy : Nat → ClassId} {ad : Nat → Nat}
def f_X3_size_19  (M : Mm) (K : Int32 → Mm → Prop) : Prop := (f_X0_leave (10) M (fun M1 => K (M1 64 4) M1))
set_option maxHeartbeats 4000000 in
set_option maxRecDepth 100000 in
theorem m_X3_size_19 (hI : gI 91 ad)  {M : Mm} {K : Int32 → Mm → Prop} (h : f_X3_size_19  M K) : gM l D cy 91 ad (shC ad cy) yX3_size cX3_size 2 (some .int) 1 21 [.ref (ad 19), .ref (ad 64)] M (gQi D 91 ad (shC ad cy) K) := by
  refine gM.of (own := RX3) (lv := [(0, .ref (ad 19)), (1, .ref (ad 64))]) (by decide) rfl hI (Nat.le_of_ble_eq_true rfl) rfl ?_
  intro p e s m below meth c ls H locs X G hl
  have hx := X.1
  have hb := X.2.1
  unfold f_X3_size_19 at h
  refine lv_aload_n hx hb dX3_size_0 rfl (lv_at hl 1 rfl) ?_
  refine lv_bipush (v := (10)) hx hb dX3_size_1 (by decide) ?_
  refine gq_callv G (gc_VN (C := RX0) (rest := []) X hl.1 G (m_X0_leave hI  h) cw_X0_leave nm_73 qw_38_12 qw_38_13 ob_Asked rfl rfl rfl rfl (Nat.le_of_ble_eq_true rfl) ⟨Nat.le_of_ble_eq_true rfl, Nat.le_of_ble_eq_true rfl⟩ ⟨Nat.le_refl _, Nat.le_refl _⟩ dX3_size_3) (fun M1 H locs G h => ?_)
  refine lv_aload_n hx hb dX3_size_6 rfl (lv_at hl 1 rfl) ?_
  refine gfN_Asked_known X G nf_45 dX3_size_7 ?_
  exact gq_iret X G h dX3_size_10
def f_X5_size_19  (M : Mm) (K : Int32 → Mm → Prop) : Prop := (f_X0_leave (11) M (fun M1 => (f_X3_size_19  M1 (fun r3 M2 => (f_X5_mark_19  M2 (fun r5 M4 => K (r3 + r5) M4))))))
set_option maxHeartbeats 4000000 in
set_option maxRecDepth 100000 in
theorem m_X5_size_19 (hI : gI 91 ad)  {M : Mm} {K : Int32 → Mm → Prop} (h : f_X5_size_19  M K) : gM l D cy 91 ad (shC ad cy) yX5_size cX5_size 3 (some .int) 3 63 [.ref (ad 19), .ref (ad 64)] M (gQi D 91 ad (shC ad cy) K) := by
  refine gM.of (own := RX5) (lv := [(0, .ref (ad 19)), (1, .ref (ad 64))]) (by decide) rfl hI (Nat.le_of_ble_eq_true rfl) rfl ?_
  intro p e s m below meth c ls H locs X G hl
  have hx := X.1
  have hb := X.2.1
  unfold f_X5_size_19 at h
  refine lv_aload_n hx hb dX5_size_0 rfl (lv_at hl 1 rfl) ?_
  refine lv_bipush (v := (11)) hx hb dX5_size_1 (by decide) ?_
  refine gq_callv G (gc_VN (C := RX0) (rest := []) X hl.1 G (m_X0_leave hI  h) cw_X0_leave nm_70 qw_38_12 qw_38_13 ob_Asked rfl rfl rfl rfl (Nat.le_of_ble_eq_true rfl) ⟨Nat.le_of_ble_eq_true rfl, Nat.le_of_ble_eq_true rfl⟩ ⟨Nat.le_refl _, Nat.le_refl _⟩ dX5_size_3) (fun M1 H locs G h => ?_)
  refine lv_aload_n hx hb dX5_size_6 rfl (lv_at hl 0 rfl) ?_
  refine lv_aload_n hx hb dX5_size_7 rfl (lv_at hl 1 rfl) ?_
  refine gq_calli G (gc_SU (rest := []) X hl.1 G (m_X3_size_19 hI  h) cw_X3_size qw_39_4 qw_38_7 qw_39_5 qw_38_22 (by decide) ob_Lodger rfl rfl rfl (Nat.le_of_ble_eq_true rfl) ⟨Nat.le_of_ble_eq_true rfl, Nat.le_of_ble_eq_true rfl⟩ ⟨Nat.le_refl _, Nat.le_refl _⟩ dX5_size_8) (fun r3 M2 H locs G h => ?_)
  refine lv_istore_n (lv' := [(2, .int (r3)), (0, .ref (ad 19)), (1, .ref (ad 64))]) hx hb dX5_size_11 rfl hl (by decide) rfl (fun ls hl => ?_)
  refine lv_iload_n hx hb dX5_size_12 rfl (lv_at hl 0 rfl) ?_
  refine lv_aload_n hx hb dX5_size_13 rfl (lv_at hl 1 rfl) ?_
  refine lv_aload_n hx hb dX5_size_14 rfl (lv_at hl 2 rfl) ?_
  refine gq_calli G (gc_O (x := ⟨"PaperHouses$Lodger", "mark", "(LPaperHouses$Asked;)I"⟩) (owner := "PaperHouses$Lodger") (C := RX5) (rest := [.int (r3)]) X hl.1 G (m_X5_mark_19 hI  h) cw_X5_mark qw_39_14 qw_39_15 (va_Decl.of (X.2.2.2.2.1 _ qw_39_7) (X.2.2.2.2.1 _ qw_39_9)) (by decide) rfl qw_39_7 qw_39_8 ob_Lodger rfl rfl rfl rfl (Nat.le_of_ble_eq_true rfl) ⟨Nat.le_of_ble_eq_true rfl, Nat.le_of_ble_eq_true rfl⟩ ⟨Nat.le_refl _, Nat.le_refl _⟩ dX5_size_15) (fun r5 M4 H locs G h => ?_)
  refine lv_iadd hx hb dX5_size_18 ?_
  exact gq_iret X G h dX5_size_19
def f_X3_size_20  (M : Mm) (K : Int32 → Mm → Prop) : Prop := (f_X0_leave (10) M (fun M1 => K (M1 64 4) M1))
set_option maxHeartbeats 4000000 in
set_option maxRecDepth 100000 in
theorem m_X3_size_20 (hI : gI 91 ad)  {M : Mm} {K : Int32 → Mm → Prop} (h : f_X3_size_20  M K) : gM l D cy 91 ad (shC ad cy) yX3_size cX3_size 2 (some .int) 1 21 [.ref (ad 20), .ref (ad 64)] M (gQi D 91 ad (shC ad cy) K) := by
  refine gM.of (own := RX3) (lv := [(0, .ref (ad 20)), (1, .ref (ad 64))]) (by decide) rfl hI (Nat.le_of_ble_eq_true rfl) rfl ?_
  intro p e s m below meth c ls H locs X G hl
  have hx := X.1
  have hb := X.2.1
  unfold f_X3_size_20 at h
  refine lv_aload_n hx hb dX3_size_0 rfl (lv_at hl 1 rfl) ?_
  refine lv_bipush (v := (10)) hx hb dX3_size_1 (by decide) ?_
  refine gq_callv G (gc_VN (C := RX0) (rest := []) X hl.1 G (m_X0_leave hI  h) cw_X0_leave nm_73 qw_38_12 qw_38_13 ob_Asked rfl rfl rfl rfl (Nat.le_of_ble_eq_true rfl) ⟨Nat.le_of_ble_eq_true rfl, Nat.le_of_ble_eq_true rfl⟩ ⟨Nat.le_refl _, Nat.le_refl _⟩ dX3_size_3) (fun M1 H locs G h => ?_)
  refine lv_aload_n hx hb dX3_size_6 rfl (lv_at hl 1 rfl) ?_
  refine gfN_Asked_known X G nf_45 dX3_size_7 ?_
  exact gq_iret X G h dX3_size_10
def f_X5_size_20  (M : Mm) (K : Int32 → Mm → Prop) : Prop := (f_X0_leave (11) M (fun M1 => (f_X3_size_20  M1 (fun r3 M2 => (f_X10_mark_20  M2 (fun r5 M4 => K (r3 + r5) M4))))))
set_option maxHeartbeats 4000000 in
set_option maxRecDepth 100000 in
theorem m_X5_size_20 (hI : gI 91 ad)  {M : Mm} {K : Int32 → Mm → Prop} (h : f_X5_size_20  M K) : gM l D cy 91 ad (shC ad cy) yX5_size cX5_size 3 (some .int) 4 84 [.ref (ad 20), .ref (ad 64)] M (gQi D 91 ad (shC ad cy) K) := by
  refine gM.of (own := RX5) (lv := [(0, .ref (ad 20)), (1, .ref (ad 64))]) (by decide) rfl hI (Nat.le_of_ble_eq_true rfl) rfl ?_
  intro p e s m below meth c ls H locs X G hl
  have hx := X.1
  have hb := X.2.1
  unfold f_X5_size_20 at h
  refine lv_aload_n hx hb dX5_size_0 rfl (lv_at hl 1 rfl) ?_
  refine lv_bipush (v := (11)) hx hb dX5_size_1 (by decide) ?_
  refine gq_callv G (gc_VN (C := RX0) (rest := []) X hl.1 G (m_X0_leave hI  h) cw_X0_leave nm_70 qw_38_12 qw_38_13 ob_Asked rfl rfl rfl rfl (Nat.le_of_ble_eq_true rfl) ⟨Nat.le_of_ble_eq_true rfl, Nat.le_of_ble_eq_true rfl⟩ ⟨Nat.le_refl _, Nat.le_refl _⟩ dX5_size_3) (fun M1 H locs G h => ?_)
  refine lv_aload_n hx hb dX5_size_6 rfl (lv_at hl 0 rfl) ?_
  refine lv_aload_n hx hb dX5_size_7 rfl (lv_at hl 1 rfl) ?_
  refine gq_calli G (gc_SU (rest := []) X hl.1 G (m_X3_size_20 hI  h) cw_X3_size qw_39_4 qw_38_7 qw_39_5 qw_38_22 (by decide) ob_Widow rfl rfl rfl (Nat.le_of_ble_eq_true rfl) ⟨Nat.le_of_ble_eq_true rfl, Nat.le_of_ble_eq_true rfl⟩ ⟨Nat.le_refl _, Nat.le_refl _⟩ dX5_size_8) (fun r3 M2 H locs G h => ?_)
  refine lv_istore_n (lv' := [(2, .int (r3)), (0, .ref (ad 20)), (1, .ref (ad 64))]) hx hb dX5_size_11 rfl hl (by decide) rfl (fun ls hl => ?_)
  refine lv_iload_n hx hb dX5_size_12 rfl (lv_at hl 0 rfl) ?_
  refine lv_aload_n hx hb dX5_size_13 rfl (lv_at hl 1 rfl) ?_
  refine lv_aload_n hx hb dX5_size_14 rfl (lv_at hl 2 rfl) ?_
  refine gq_calli G (gc_O (x := ⟨"PaperHouses$Lodger", "mark", "(LPaperHouses$Asked;)I"⟩) (owner := "PaperHouses$Lodger") (C := RX10) (rest := [.int (r3)]) X hl.1 G (m_X10_mark_20 hI  h) cw_X10_mark qw_39_14 qw_39_15 (va_Decl.of (X.2.2.2.2.1 _ qw_39_7) (X.2.2.2.2.1 _ qw_39_9)) (by decide) rfl qw_39_22 qw_39_21 ob_Widow rfl rfl rfl rfl (Nat.le_of_ble_eq_true rfl) ⟨Nat.le_of_ble_eq_true rfl, Nat.le_of_ble_eq_true rfl⟩ ⟨Nat.le_refl _, Nat.le_refl _⟩ dX5_size_15) (fun r5 M4 H locs G h => ?_)
  refine lv_iadd hx hb dX5_size_18 ?_
  exact gq_iret X G h dX5_size_19
def f_X10_size_20  (M : Mm) (K : Int32 → Mm → Prop) : Prop := (f_X0_leave (12) M (fun M1 => (f_X5_size_20  M1 (fun r3 M2 => K (0 - r3) M2))))
set_option maxHeartbeats 4000000 in
set_option maxRecDepth 100000 in
theorem m_X10_size_20 (hI : gI 91 ad)  {M : Mm} {K : Int32 → Mm → Prop} (h : f_X10_size_20  M K) : gM l D cy 91 ad (shC ad cy) yX10_size cX10_size 2 (some .int) 5 106 [.ref (ad 20), .ref (ad 64)] M (gQi D 91 ad (shC ad cy) K) := by
  refine gM.of (own := RX10) (lv := [(0, .ref (ad 20)), (1, .ref (ad 64))]) (by decide) rfl hI (Nat.le_of_ble_eq_true rfl) rfl ?_
  intro p e s m below meth c ls H locs X G hl
  have hx := X.1
  have hb := X.2.1
  unfold f_X10_size_20 at h
  refine lv_aload_n hx hb dX10_size_0 rfl (lv_at hl 1 rfl) ?_
  refine lv_bipush (v := (12)) hx hb dX10_size_1 (by decide) ?_
  refine gq_callv G (gc_VN (C := RX0) (rest := []) X hl.1 G (m_X0_leave hI  h) cw_X0_leave nm_72 qw_38_12 qw_38_13 ob_Asked rfl rfl rfl rfl (Nat.le_of_ble_eq_true rfl) ⟨Nat.le_of_ble_eq_true rfl, Nat.le_of_ble_eq_true rfl⟩ ⟨Nat.le_refl _, Nat.le_refl _⟩ dX10_size_3) (fun M1 H locs G h => ?_)
  refine lv_iconst (v := (0)) hx hb dX10_size_6 (by decide) ?_
  refine lv_aload_n hx hb dX10_size_7 rfl (lv_at hl 0 rfl) ?_
  refine lv_aload_n hx hb dX10_size_8 rfl (lv_at hl 1 rfl) ?_
  refine gq_calli G (gc_SU (rest := [.int (0)]) X hl.1 G (m_X5_size_20 hI  h) cw_X5_size qw_40_6 qw_40_7 qw_40_1 qw_39_2 (by decide) ob_Widow rfl rfl rfl (Nat.le_of_ble_eq_true rfl) ⟨Nat.le_of_ble_eq_true rfl, Nat.le_of_ble_eq_true rfl⟩ ⟨Nat.le_refl _, Nat.le_refl _⟩ dX10_size_9) (fun r3 M2 H locs G h => ?_)
  refine lv_isub hx hb dX10_size_12 ?_
  exact gq_iret X G h dX10_size_13
def f_X3_size_21  (M : Mm) (K : Int32 → Mm → Prop) : Prop := (f_X0_leave (10) M (fun M1 => K (M1 64 4) M1))
set_option maxHeartbeats 4000000 in
set_option maxRecDepth 100000 in
theorem m_X3_size_21 (hI : gI 91 ad)  {M : Mm} {K : Int32 → Mm → Prop} (h : f_X3_size_21  M K) : gM l D cy 91 ad (shC ad cy) yX3_size cX3_size 2 (some .int) 1 21 [.ref (ad 21), .ref (ad 64)] M (gQi D 91 ad (shC ad cy) K) := by
  refine gM.of (own := RX3) (lv := [(0, .ref (ad 21)), (1, .ref (ad 64))]) (by decide) rfl hI (Nat.le_of_ble_eq_true rfl) rfl ?_
  intro p e s m below meth c ls H locs X G hl
  have hx := X.1
  have hb := X.2.1
  unfold f_X3_size_21 at h
  refine lv_aload_n hx hb dX3_size_0 rfl (lv_at hl 1 rfl) ?_
  refine lv_bipush (v := (10)) hx hb dX3_size_1 (by decide) ?_
  refine gq_callv G (gc_VN (C := RX0) (rest := []) X hl.1 G (m_X0_leave hI  h) cw_X0_leave nm_73 qw_38_12 qw_38_13 ob_Asked rfl rfl rfl rfl (Nat.le_of_ble_eq_true rfl) ⟨Nat.le_of_ble_eq_true rfl, Nat.le_of_ble_eq_true rfl⟩ ⟨Nat.le_refl _, Nat.le_refl _⟩ dX3_size_3) (fun M1 H locs G h => ?_)
  refine lv_aload_n hx hb dX3_size_6 rfl (lv_at hl 1 rfl) ?_
  refine gfN_Asked_known X G nf_45 dX3_size_7 ?_
  exact gq_iret X G h dX3_size_10
def f_X5_size_21  (M : Mm) (K : Int32 → Mm → Prop) : Prop := (f_X0_leave (11) M (fun M1 => (f_X3_size_21  M1 (fun r3 M2 => (f_X8_mark_21  M2 (fun r5 M4 => K (r3 + r5) M4))))))
set_option maxHeartbeats 4000000 in
set_option maxRecDepth 100000 in
theorem m_X5_size_21 (hI : gI 91 ad)  {M : Mm} {K : Int32 → Mm → Prop} (h : f_X5_size_21  M K) : gM l D cy 91 ad (shC ad cy) yX5_size cX5_size 3 (some .int) 4 84 [.ref (ad 21), .ref (ad 64)] M (gQi D 91 ad (shC ad cy) K) := by
  refine gM.of (own := RX5) (lv := [(0, .ref (ad 21)), (1, .ref (ad 64))]) (by decide) rfl hI (Nat.le_of_ble_eq_true rfl) rfl ?_
  intro p e s m below meth c ls H locs X G hl
  have hx := X.1
  have hb := X.2.1
  unfold f_X5_size_21 at h
  refine lv_aload_n hx hb dX5_size_0 rfl (lv_at hl 1 rfl) ?_
  refine lv_bipush (v := (11)) hx hb dX5_size_1 (by decide) ?_
  refine gq_callv G (gc_VN (C := RX0) (rest := []) X hl.1 G (m_X0_leave hI  h) cw_X0_leave nm_70 qw_38_12 qw_38_13 ob_Asked rfl rfl rfl rfl (Nat.le_of_ble_eq_true rfl) ⟨Nat.le_of_ble_eq_true rfl, Nat.le_of_ble_eq_true rfl⟩ ⟨Nat.le_refl _, Nat.le_refl _⟩ dX5_size_3) (fun M1 H locs G h => ?_)
  refine lv_aload_n hx hb dX5_size_6 rfl (lv_at hl 0 rfl) ?_
  refine lv_aload_n hx hb dX5_size_7 rfl (lv_at hl 1 rfl) ?_
  refine gq_calli G (gc_SU (rest := []) X hl.1 G (m_X3_size_21 hI  h) cw_X3_size qw_39_4 qw_38_7 qw_39_5 qw_38_22 (by decide) ob_Short rfl rfl rfl (Nat.le_of_ble_eq_true rfl) ⟨Nat.le_of_ble_eq_true rfl, Nat.le_of_ble_eq_true rfl⟩ ⟨Nat.le_refl _, Nat.le_refl _⟩ dX5_size_8) (fun r3 M2 H locs G h => ?_)
  refine lv_istore_n (lv' := [(2, .int (r3)), (0, .ref (ad 21)), (1, .ref (ad 64))]) hx hb dX5_size_11 rfl hl (by decide) rfl (fun ls hl => ?_)
  refine lv_iload_n hx hb dX5_size_12 rfl (lv_at hl 0 rfl) ?_
  refine lv_aload_n hx hb dX5_size_13 rfl (lv_at hl 1 rfl) ?_
  refine lv_aload_n hx hb dX5_size_14 rfl (lv_at hl 2 rfl) ?_
  refine gq_calli G (gc_O (x := ⟨"PaperHouses$Lodger", "mark", "(LPaperHouses$Asked;)I"⟩) (owner := "PaperHouses$Lodger") (C := RX8) (rest := [.int (r3)]) X hl.1 G (m_X8_mark_21 hI  h) cw_X8_mark qw_39_14 qw_39_15 (va_Decl.of (X.2.2.2.2.1 _ qw_39_7) (X.2.2.2.2.1 _ qw_39_9)) (by decide) rfl qw_39_18 qw_39_17 ob_Short rfl rfl rfl rfl (Nat.le_of_ble_eq_true rfl) ⟨Nat.le_of_ble_eq_true rfl, Nat.le_of_ble_eq_true rfl⟩ ⟨Nat.le_refl _, Nat.le_refl _⟩ dX5_size_15) (fun r5 M4 H locs G h => ?_)
  refine lv_iadd hx hb dX5_size_18 ?_
  exact gq_iret X G h dX5_size_19
def f_X11_ask (v1 : Int32) (v2 : Int32) (M : Mm) (K : Int32 → Mm → Prop) : Prop := (f_X6_hasFolk 26 (v1) M (fun r2 M1 => ((((r2 : Int32) = 0 : Prop) → K (-1000001) M1) ∧ (¬ ((r2 : Int32) = 0 : Prop) → (f_X11_isBit (v2) M1 (fun r5 M4 => ((((r5 : Int32) = 0 : Prop) → K (-1000001) M4) ∧ (¬ ((r5 : Int32) = 0 : Prop) → (f_X6_sortOf 26 (v1) M4 (fun o36 M7 => (o36 = none → K (-1000001) M7) ∧ (∀ p8 : Nat, o36 = some p8 → (vp_in (v1) 5 ∧ (f_J6_bitCount_0f7a4 (M7 (26 + 6) (v1 : Int32).toNatClampNeg) M7 (fun r11 M10 => (f_X0_begin (v1) (M7 (26 + 4) (v1 : Int32).toNatClampNeg) (r11) M10 (fun M12 => ((((v2 : Int32) = 0 : Prop) → (isFolk p8 ∧ ((p8 = 19 → (f_X5_size_19  M12 (fun r27 M26 => K (r27) M26))) ∧ (p8 = 20 → (f_X10_size_20  M12 (fun r29 M28 => K (r29) M28))) ∧ (p8 = 21 → (f_X5_size_21  M12 (fun r31 M30 => K (r31) M30))) ∧ (p8 = 22 → (f_X2_size_22  M12 (fun r33 M32 => K (r33) M32))) ∧ (p8 = 23 → (f_X1_size_23  M12 (fun r35 M34 => K (r35) M34)))))) ∧ (¬ ((v2 : Int32) = 0 : Prop) → (isFolk p8 ∧ ((p8 = 19 → (f_X5_mark_19  M12 (fun r16 M15 => K (r16) M15))) ∧ (p8 = 20 → (f_X10_mark_20  M12 (fun r18 M17 => K (r18) M17))) ∧ (p8 = 21 → (f_X8_mark_21  M12 (fun r20 M19 => K (r20) M19))) ∧ (p8 = 22 → (f_X2_mark_22  M12 (fun r22 M21 => K (r22) M21))) ∧ (p8 = 23 → (f_X2_mark_23  M12 (fun r24 M23 => K (r24) M23)))))))))))))))))))))))
set_option maxHeartbeats 4000000 in
set_option maxRecDepth 100000 in
theorem m_X11_ask (hI : gI 91 ad) {v1 : Int32} {v2 : Int32} {M : Mm} {K : Int32 → Mm → Prop} (h : f_X11_ask v1 v2 M K) : gM l D cy 91 ad (shC ad cy) yX11_ask cX11_ask 4 (some .int) 6 127 [.ref (ad 0), .int (v1), .int (v2)] M (gQi D 91 ad (shC ad cy) K) := by
  refine gM.of (own := RX11) (lv := [(0, .ref (ad 0)), (1, .int (v1)), (2, .int (v2))]) (by decide) rfl hI (Nat.le_of_ble_eq_true rfl) rfl ?_
  intro p e s m below meth c ls H locs X G hl
  have hx := X.1
  have hb := X.2.1
  unfold f_X11_ask at h
  refine lv_aload_n hx hb dX11_ask_0 rfl (lv_at hl 0 rfl) ?_
  refine gf_PH_now X G qw_2_16 dX11_ask_1 ?_
  refine lv_iload_n hx hb dX11_ask_4 rfl (lv_at hl 1 rfl) ?_
  refine gq_calli G (gc_VN (C := RX6) (rest := []) X hl.1 G (m_X6_hasFolk hI isPap_26 h) cw_X6_hasFolk nm_34 qw_22_17 qw_22_18 (ob_Paper isPap_26) rfl rfl rfl rfl (Nat.le_of_ble_eq_true rfl) ⟨Nat.le_of_ble_eq_true rfl, Nat.le_of_ble_eq_true rfl⟩ ⟨Nat.le_refl _, Nat.le_refl _⟩ dX11_ask_5) (fun r2 M1 H locs G h => ?_)
  refine lv_if_eq (tgt := 18) hx hb dX11_ask_8 (by decide) (fun c3 => ?_) (fun c3 => ?_)
  · have h := h.1 c3
    refine gq_ldc (v := (-1000001)) X qw_6_5 dX11_ask_18 ?_
    exact gq_iret X G h dX11_ask_20
  have h := h.2 c3
  refine lv_iload_n hx hb dX11_ask_11 rfl (lv_at hl 2 rfl) ?_
  refine gq_calli G (gc_S (rest := []) X hl.1 G (m_X11_isBit hI  h) cw_X11_isBit qw_21_2 qw_21_3 rfl rfl (Nat.le_of_ble_eq_true rfl) ⟨Nat.le_of_ble_eq_true rfl, Nat.le_of_ble_eq_true rfl⟩ ⟨Nat.le_refl _, Nat.le_refl _⟩ dX11_ask_12) (fun r5 M4 H locs G h => ?_)
  refine lv_if_ne (tgt := 21) hx hb dX11_ask_15 (by decide) (fun c6 => ?_) (fun c6 => ?_)
  · have h := h.2 c6
    refine lv_aload_n hx hb dX11_ask_21 rfl (lv_at hl 0 rfl) ?_
    refine gf_PH_now X G qw_2_16 dX11_ask_22 ?_
    refine lv_iload_n hx hb dX11_ask_25 rfl (lv_at hl 1 rfl) ?_
    refine gq_calle G (gc_VN (C := RX6) (rest := []) X hl.1 G (m_X6_sortOf hI isPap_26 h) cw_X6_sortOf nm_66 qw_17_16 qw_17_17 (ob_Paper isPap_26) rfl rfl rfl rfl (Nat.le_of_ble_eq_true rfl) ⟨Nat.le_of_ble_eq_true rfl, Nat.le_of_ble_eq_true rfl⟩ ⟨Nat.le_refl _, Nat.le_refl _⟩ dX11_ask_26) (fun M7 H locs G h => ?_) (fun p8 M7 H locs G h => ?_)
    · have h := h.1 rfl
      refine lv_astore_nN (lv' := [(3, .null), (0, .ref (ad 0)), (1, .int (v1)), (2, .int (v2))]) hx hb dX11_ask_29 rfl hl (by decide) rfl (fun ls hl => ?_)
      refine lv_aload_nN hx hb dX11_ask_30 rfl (lv_at hl 0 rfl) ?_
      refine lv_ifnonnullN hx hb dX11_ask_31 ?_
      refine gq_ldc (v := (-1000001)) X qw_6_5 dX11_ask_34 ?_
      exact gq_iret X G h dX11_ask_36
    have h := h.2 p8 rfl
    refine lv_astore_n (lv' := [(3, .ref (ad p8)), (0, .ref (ad 0)), (1, .int (v1)), (2, .int (v2))]) hx hb dX11_ask_29 rfl hl (by decide) rfl (fun ls hl => ?_)
    refine lv_aload_n hx hb dX11_ask_30 rfl (lv_at hl 0 rfl) ?_
    refine lv_ifnonnull (tgt := 37) hx hb dX11_ask_31 (by decide) ?_
    refine lv_aload_n hx hb dX11_ask_37 rfl (lv_at hl 1 rfl) ?_
    refine gf_PH_asked X G qw_3_2 dX11_ask_38 ?_
    refine lv_iload_n hx hb dX11_ask_41 rfl (lv_at hl 2 rfl) ?_
    refine lv_aload_n hx hb dX11_ask_42 rfl (lv_at hl 1 rfl) ?_
    refine gf_PH_now X G qw_2_16 dX11_ask_43 ?_
    refine gfN_Paper_houses X G isPap_26 nf_16 dX11_ask_46 ?_
    refine lv_iload_n hx hb dX11_ask_49 rfl (lv_at hl 2 rfl) ?_
    obtain ⟨q9, h⟩ := h
    refine gq_iald X G (ar_Paper_houses isPap_26) q9 dX11_ask_50 ?_
    refine lv_aload_n hx hb dX11_ask_51 rfl (lv_at hl 1 rfl) ?_
    refine gf_PH_now X G qw_2_16 dX11_ask_52 ?_
    refine gfN_Paper_knows X G isPap_26 nf_20 dX11_ask_55 ?_
    refine lv_iload_n hx hb dX11_ask_58 rfl (lv_at hl 2 rfl) ?_
    refine gq_iald X G (ar_Paper_knows isPap_26) q9 dX11_ask_59 ?_
    refine gq_calli G (gc_S (rest := [.int (M7 (26 + 4) (v1 : Int32).toNatClampNeg), .int (v1), .ref (ad 64)]) X hl.1 G (m_J6_bitCount_0f7a4 hI  h) cw_J6_bitCount_0f7a4 qw_28_12 qw_28_13 rfl rfl (Nat.le_of_ble_eq_true rfl) ⟨Nat.le_of_ble_eq_true rfl, Nat.le_of_ble_eq_true rfl⟩ ⟨Nat.le_refl _, Nat.le_refl _⟩ dX11_ask_60) (fun r11 M10 H locs G h => ?_)
    refine gq_callv G (gc_VN (C := RX0) (rest := []) X hl.1 G (m_X0_begin hI  h) cw_X0_begin nm_67 qw_37_23 qw_38_0 ob_Asked rfl rfl rfl rfl (Nat.le_of_ble_eq_true rfl) ⟨Nat.le_of_ble_eq_true rfl, Nat.le_of_ble_eq_true rfl⟩ ⟨Nat.le_refl _, Nat.le_refl _⟩ dX11_ask_63) (fun M12 H locs G h => ?_)
    refine lv_iload_n hx hb dX11_ask_66 rfl (lv_at hl 3 rfl) ?_
    refine lv_if_ne (tgt := 81) hx hb dX11_ask_67 (by decide) (fun c13 => ?_) (fun c13 => ?_)
    · have h := h.2 c13
      refine lv_aload_n hx hb dX11_ask_81 rfl (lv_at hl 0 rfl) ?_
      refine lv_aload_n hx hb dX11_ask_82 rfl (lv_at hl 1 rfl) ?_
      refine gf_PH_asked X G qw_3_2 dX11_ask_83 ?_
      obtain ⟨q14, h⟩ := h
      rcases q14 with hz | hz | hz | hz | hz
      · have h := h.1 hz
        rw [hz]
        refine gq_calli G (gc_O (x := ⟨"PaperHouses$Folk", "mark", "(LPaperHouses$Asked;)I"⟩) (owner := "PaperHouses$Folk") (C := RX5) (rest := []) X hl.1 G (m_X5_mark_19 hI  h) cw_X5_mark qw_40_8 qw_39_11 (va_Decl.of (X.2.2.2.2.1 _ qw_39_12) (X.2.2.2.2.1 _ qw_39_13)) (by decide) rfl qw_39_7 qw_40_20 ob_Lodger rfl rfl rfl rfl (Nat.le_of_ble_eq_true rfl) ⟨Nat.le_of_ble_eq_true rfl, Nat.le_of_ble_eq_true rfl⟩ ⟨Nat.le_refl _, Nat.le_refl _⟩ dX11_ask_86) (fun r16 M15 H locs G h => ?_)
        exact gq_iret X G h dX11_ask_89
      · have h := h.2.1 hz
        rw [hz]
        refine gq_calli G (gc_O (x := ⟨"PaperHouses$Folk", "mark", "(LPaperHouses$Asked;)I"⟩) (owner := "PaperHouses$Folk") (C := RX10) (rest := []) X hl.1 G (m_X10_mark_20 hI  h) cw_X10_mark qw_40_8 qw_39_11 (va_Decl.of (X.2.2.2.2.1 _ qw_39_12) (X.2.2.2.2.1 _ qw_39_13)) (by decide) rfl qw_39_22 qw_40_22 ob_Widow rfl rfl rfl rfl (Nat.le_of_ble_eq_true rfl) ⟨Nat.le_of_ble_eq_true rfl, Nat.le_of_ble_eq_true rfl⟩ ⟨Nat.le_refl _, Nat.le_refl _⟩ dX11_ask_86) (fun r18 M17 H locs G h => ?_)
        exact gq_iret X G h dX11_ask_89
      · have h := h.2.2.1 hz
        rw [hz]
        refine gq_calli G (gc_O (x := ⟨"PaperHouses$Folk", "mark", "(LPaperHouses$Asked;)I"⟩) (owner := "PaperHouses$Folk") (C := RX8) (rest := []) X hl.1 G (m_X8_mark_21 hI  h) cw_X8_mark qw_40_8 qw_39_11 (va_Decl.of (X.2.2.2.2.1 _ qw_39_12) (X.2.2.2.2.1 _ qw_39_13)) (by decide) rfl qw_39_18 qw_40_21 ob_Short rfl rfl rfl rfl (Nat.le_of_ble_eq_true rfl) ⟨Nat.le_of_ble_eq_true rfl, Nat.le_of_ble_eq_true rfl⟩ ⟨Nat.le_refl _, Nat.le_refl _⟩ dX11_ask_86) (fun r20 M19 H locs G h => ?_)
        exact gq_iret X G h dX11_ask_89
      · have h := h.2.2.2.1 hz
        rw [hz]
        refine gq_calli G (gc_O (x := ⟨"PaperHouses$Folk", "mark", "(LPaperHouses$Asked;)I"⟩) (owner := "PaperHouses$Folk") (C := RX2) (rest := []) X hl.1 G (m_X2_mark_22 hI  h) cw_X2_mark qw_40_8 qw_39_11 (va_Decl.of (X.2.2.2.2.1 _ qw_39_12) (X.2.2.2.2.1 _ qw_39_13)) (by decide) rfl qw_40_11 qw_40_19 ob_Doctor rfl rfl rfl rfl (Nat.le_of_ble_eq_true rfl) ⟨Nat.le_of_ble_eq_true rfl, Nat.le_of_ble_eq_true rfl⟩ ⟨Nat.le_refl _, Nat.le_refl _⟩ dX11_ask_86) (fun r22 M21 H locs G h => ?_)
        exact gq_iret X G h dX11_ask_89
      · have h := h.2.2.2.2 hz
        rw [hz]
        refine gq_calli G (gc_O (x := ⟨"PaperHouses$Folk", "mark", "(LPaperHouses$Asked;)I"⟩) (owner := "PaperHouses$Folk") (C := RX1) (rest := []) X hl.1 G (m_X2_mark_23 hI  h) cw_X2_mark qw_40_8 qw_39_11 (va_Decl.of (X.2.2.2.2.1 _ qw_39_12) (X.2.2.2.2.1 _ qw_39_13)) (by decide) rfl qw_40_11 qw_40_10 ob_Boy rfl rfl rfl rfl (Nat.le_of_ble_eq_true rfl) ⟨Nat.le_of_ble_eq_true rfl, Nat.le_of_ble_eq_true rfl⟩ ⟨Nat.le_refl _, Nat.le_refl _⟩ dX11_ask_86) (fun r24 M23 H locs G h => ?_)
        exact gq_iret X G h dX11_ask_89
    have h := h.1 c13
    refine lv_aload_n hx hb dX11_ask_70 rfl (lv_at hl 0 rfl) ?_
    refine lv_aload_n hx hb dX11_ask_71 rfl (lv_at hl 1 rfl) ?_
    refine gf_PH_asked X G qw_3_2 dX11_ask_72 ?_
    obtain ⟨q25, h⟩ := h
    rcases q25 with hz | hz | hz | hz | hz
    · have h := h.1 hz
      rw [hz]
      refine gq_calli G (gc_O (x := ⟨"PaperHouses$Folk", "size", "(LPaperHouses$Asked;)I"⟩) (owner := "PaperHouses$Folk") (C := RX5) (rest := []) X hl.1 G (m_X5_size_19 hI  h) cw_X5_size qw_38_6 qw_38_7 (va_Decl.of (X.2.2.2.2.1 _ qw_38_22) (X.2.2.2.2.1 _ qw_38_23)) (by decide) rfl qw_39_2 qw_39_1 ob_Lodger rfl rfl rfl rfl (Nat.le_of_ble_eq_true rfl) ⟨Nat.le_of_ble_eq_true rfl, Nat.le_of_ble_eq_true rfl⟩ ⟨Nat.le_refl _, Nat.le_refl _⟩ dX11_ask_75) (fun r27 M26 H locs G h => ?_)
      refine lv_goto (tgt := 89) hx hb dX11_ask_78 (by decide) ?_
      exact gq_iret X G h dX11_ask_89
    · have h := h.2.1 hz
      rw [hz]
      refine gq_calli G (gc_O (x := ⟨"PaperHouses$Folk", "size", "(LPaperHouses$Asked;)I"⟩) (owner := "PaperHouses$Folk") (C := RX10) (rest := []) X hl.1 G (m_X10_size_20 hI  h) cw_X10_size qw_38_6 qw_38_7 (va_Decl.of (X.2.2.2.2.1 _ qw_38_22) (X.2.2.2.2.1 _ qw_38_23)) (by decide) rfl qw_40_4 qw_40_3 ob_Widow rfl rfl rfl rfl (Nat.le_of_ble_eq_true rfl) ⟨Nat.le_of_ble_eq_true rfl, Nat.le_of_ble_eq_true rfl⟩ ⟨Nat.le_refl _, Nat.le_refl _⟩ dX11_ask_75) (fun r29 M28 H locs G h => ?_)
      refine lv_goto (tgt := 89) hx hb dX11_ask_78 (by decide) ?_
      exact gq_iret X G h dX11_ask_89
    · have h := h.2.2.1 hz
      rw [hz]
      refine gq_calli G (gc_O (x := ⟨"PaperHouses$Folk", "size", "(LPaperHouses$Asked;)I"⟩) (owner := "PaperHouses$Folk") (C := RX8) (rest := []) X hl.1 G (m_X5_size_21 hI  h) cw_X5_size qw_38_6 qw_38_7 (va_Decl.of (X.2.2.2.2.1 _ qw_38_22) (X.2.2.2.2.1 _ qw_38_23)) (by decide) rfl qw_39_2 qw_40_2 ob_Short rfl rfl rfl rfl (Nat.le_of_ble_eq_true rfl) ⟨Nat.le_of_ble_eq_true rfl, Nat.le_of_ble_eq_true rfl⟩ ⟨Nat.le_refl _, Nat.le_refl _⟩ dX11_ask_75) (fun r31 M30 H locs G h => ?_)
      refine lv_goto (tgt := 89) hx hb dX11_ask_78 (by decide) ?_
      exact gq_iret X G h dX11_ask_89
    · have h := h.2.2.2.1 hz
      rw [hz]
      refine gq_calli G (gc_O (x := ⟨"PaperHouses$Folk", "size", "(LPaperHouses$Asked;)I"⟩) (owner := "PaperHouses$Folk") (C := RX2) (rest := []) X hl.1 G (m_X2_size_22 hI  h) cw_X2_size qw_38_6 qw_38_7 (va_Decl.of (X.2.2.2.2.1 _ qw_38_22) (X.2.2.2.2.1 _ qw_38_23)) (by decide) rfl qw_38_18 qw_39_0 ob_Doctor rfl rfl rfl rfl (Nat.le_of_ble_eq_true rfl) ⟨Nat.le_of_ble_eq_true rfl, Nat.le_of_ble_eq_true rfl⟩ ⟨Nat.le_refl _, Nat.le_refl _⟩ dX11_ask_75) (fun r33 M32 H locs G h => ?_)
      refine lv_goto (tgt := 89) hx hb dX11_ask_78 (by decide) ?_
      exact gq_iret X G h dX11_ask_89
    · have h := h.2.2.2.2 hz
      rw [hz]
      refine gq_calli G (gc_O (x := ⟨"PaperHouses$Folk", "size", "(LPaperHouses$Asked;)I"⟩) (owner := "PaperHouses$Folk") (C := RX1) (rest := []) X hl.1 G (m_X1_size_23 hI  h) cw_X1_size qw_38_6 qw_38_7 (va_Decl.of (X.2.2.2.2.1 _ qw_38_22) (X.2.2.2.2.1 _ qw_38_23)) (by decide) rfl qw_38_10 qw_38_9 ob_Boy rfl rfl rfl rfl (Nat.le_of_ble_eq_true rfl) ⟨Nat.le_of_ble_eq_true rfl, Nat.le_of_ble_eq_true rfl⟩ ⟨Nat.le_refl _, Nat.le_refl _⟩ dX11_ask_75) (fun r35 M34 H locs G h => ?_)
      refine lv_goto (tgt := 89) hx hb dX11_ask_78 (by decide) ?_
      exact gq_iret X G h dX11_ask_89
  have h := h.1 c6
  refine gq_ldc (v := (-1000001)) X qw_6_5 dX11_ask_18 ?_
  exact gq_iret X G h dX11_ask_20
def f_X11_trace (v1 : Int32) (M : Mm) (K : Int32 → Mm → Prop) : Prop := ((((v1 : Int32) < 0 : Prop) → K (-1000000) M) ∧ (¬ ((v1 : Int32) < 0 : Prop) → ((((M 64 1 : Int32) ≤ v1 : Prop) → K (-1000000) M) ∧ (¬ ((M 64 1 : Int32) ≤ v1 : Prop) → (vp_in (v1) 16 ∧ K (M 65 (v1 : Int32).toNatClampNeg) M)))))
set_option maxHeartbeats 4000000 in
set_option maxRecDepth 100000 in
theorem m_X11_trace (hI : gI 91 ad) {v1 : Int32} {M : Mm} {K : Int32 → Mm → Prop} (h : f_X11_trace v1 M K) : gM l D cy 91 ad (shC ad cy) yX11_trace cX11_trace 2 (some .int) 0 0 [.ref (ad 0), .int (v1)] M (gQi D 91 ad (shC ad cy) K) := by
  refine gM.of (own := RX11) (lv := [(0, .ref (ad 0)), (1, .int (v1))]) (by decide) rfl hI (Nat.le_of_ble_eq_true rfl) rfl ?_
  intro p e s m below meth c ls H locs X G hl
  have hx := X.1
  have hb := X.2.1
  unfold f_X11_trace at h
  refine lv_iload_n hx hb dX11_trace_0 rfl (lv_at hl 1 rfl) ?_
  refine lv_if_lt (tgt := 27) hx hb dX11_trace_1 (by decide) (fun c1 => ?_) (fun c1 => ?_)
  · have h := h.1 c1
    refine gq_ldcw (v := (-1000000)) X qw_29_6 dX11_trace_27 ?_
    exact gq_iret X G h dX11_trace_30
  have h := h.2 c1
  refine lv_iload_n hx hb dX11_trace_4 rfl (lv_at hl 1 rfl) ?_
  refine lv_aload_n hx hb dX11_trace_5 rfl (lv_at hl 0 rfl) ?_
  refine gf_PH_asked X G qw_3_2 dX11_trace_6 ?_
  refine gfN_Asked_traced X G nf_42 dX11_trace_9 ?_
  refine lv_icmp_ge (tgt := 27) hx hb dX11_trace_12 (by decide) (fun c2 => ?_) (fun c2 => ?_)
  · have h := h.1 c2
    refine gq_ldcw (v := (-1000000)) X qw_29_6 dX11_trace_27 ?_
    exact gq_iret X G h dX11_trace_30
  have h := h.2 c2
  refine lv_aload_n hx hb dX11_trace_15 rfl (lv_at hl 0 rfl) ?_
  refine gf_PH_asked X G qw_3_2 dX11_trace_16 ?_
  refine gfN_Asked_bodies X G nf_41 dX11_trace_19 ?_
  refine lv_iload_n hx hb dX11_trace_22 rfl (lv_at hl 1 rfl) ?_
  obtain ⟨q3, h⟩ := h
  refine gq_iald X G ar_65 q3 dX11_trace_23 ?_
  refine lv_goto (tgt := 30) hx hb dX11_trace_24 (by decide) ?_
  exact gq_iret X G h dX11_trace_30
def l_X11_rowsThere_4 (K : Int32 → Mm → Prop) : Nat → Int32 → Int32 → Mm → Prop
  | 0, _, _, _ => False
  | n + 1, v1, v2, M => ((((8 : Int32) ≤ v2 : Prop) → K (v1) M) ∧ (¬ ((8 : Int32) ≤ v2 : Prop) → (vp_in (v2) 8 ∧ (f_X7_missing (2 + 2 * (v2 : Int32).toNatClampNeg) M (fun r4 M3 => ((((r4 : Int32) = 0 : Prop) → (l_X11_rowsThere_4 K n) (v1 + 1) (v2 + 1) M3) ∧ (¬ ((r4 : Int32) = 0 : Prop) → (l_X11_rowsThere_4 K n) (v1) (v2 + 1) M3)))))))
def f_X11_rowsThere  (M : Mm) (K : Int32 → Mm → Prop) : Prop := ∃ z, l_X11_rowsThere_4 K z (0) (0) M
set_option maxHeartbeats 4000000 in
set_option maxRecDepth 100000 in
theorem m_X11_rowsThere (hI : gI 91 ad)  {M : Mm} {K : Int32 → Mm → Prop} (h : f_X11_rowsThere  M K) : gM l D cy 91 ad (shC ad cy) yX11_rowsThere cX11_rowsThere 4 (some .int) 1 20 [.ref (ad 0)] M (gQi D 91 ad (shC ad cy) K) := by
  refine gM.of (own := RX11) (lv := [(0, .ref (ad 0))]) (by decide) rfl hI (Nat.le_of_ble_eq_true rfl) rfl ?_
  intro p e s m below meth c ls H locs X G hl
  have hx := X.1
  have hb := X.2.1
  have hL4 : ∀ (n : Nat) (v1 : Int32) (v2 : Int32) (M : Mm) (H : Heap) (locs : List Loc) (ls : Array Slot), gS D s 91 ad (shC ad cy) H locs M → lv_has ls 4 [(0, .ref (ad 0)), (1, .int (v1)), (2, .int (v2))] → l_X11_rowsThere_4 K n v1 v2 M → gWk p l e 1 20 s m ([.ref (ad 0)] : List Value).toArray below meth c H locs (gQi D 91 ad (shC ad cy) K) 91 ad 4 ls [] := by
    intro n4
    induction n4 with
    | zero =>
      intro v1 v2 M H locs ls G hl h
      exact False.elim h
    | succ n4 ih4 =>
      intro v1 v2 M H locs ls G hl h
      rw [l_X11_rowsThere_4] at h
      refine lv_iload_n hx hb dX11_rowsThere_4 rfl (lv_at hl 2 rfl) ?_
      refine lv_aload_n hx hb dX11_rowsThere_5 rfl (lv_at hl 0 rfl) ?_
      refine gf_PH_rows X G qw_1_13 dX11_rowsThere_6 ?_
      refine gl_rows X G dX11_rowsThere_9 ?_
      refine lv_icmp_ge (tgt := 40) hx hb dX11_rowsThere_10 (by decide) (fun c1 => ?_) (fun c1 => ?_)
      · have h := h.1 c1
        refine lv_iload_n hx hb dX11_rowsThere_40 rfl (lv_at hl 1 rfl) ?_
        exact gq_iret X G h dX11_rowsThere_41
      have h := h.2 c1
      refine lv_aload_n hx hb dX11_rowsThere_13 rfl (lv_at hl 0 rfl) ?_
      refine gf_PH_rows X G qw_1_13 dX11_rowsThere_14 ?_
      refine lv_iload_n hx hb dX11_rowsThere_17 rfl (lv_at hl 2 rfl) ?_
      obtain ⟨q2, h⟩ := h
      refine ga_rows X G q2 dX11_rowsThere_18 ?_
      refine lv_astore_n (lv' := [(3, .ref (ad (2 + 2 * (v2 : Int32).toNatClampNeg))), (0, .ref (ad 0)), (1, .int (v1)), (2, .int (v2))]) hx hb dX11_rowsThere_19 rfl hl (by decide) rfl (fun ls hl => ?_)
      refine lv_aload_n hx hb dX11_rowsThere_20 rfl (lv_at hl 0 rfl) ?_
      refine lv_ifnull hx hb dX11_rowsThere_21 ?_
      refine lv_aload_n hx hb dX11_rowsThere_24 rfl (lv_at hl 0 rfl) ?_
      refine gq_calli G (gc_VN (C := RX7) (rest := []) X hl.1 G (m_X7_missing hI (isRow_of q2) h) cw_X7_missing nm_17 qw_8_5 qw_8_6 (ob_Row (isRow_of q2)) rfl rfl rfl rfl (Nat.le_of_ble_eq_true rfl) ⟨Nat.le_of_ble_eq_true rfl, Nat.le_of_ble_eq_true rfl⟩ ⟨Nat.le_refl _, Nat.le_refl _⟩ dX11_rowsThere_25) (fun r4 M3 H locs G h => ?_)
      refine lv_if_ne (tgt := 34) hx hb dX11_rowsThere_28 (by decide) (fun c5 => ?_) (fun c5 => ?_)
      · have h := h.2 c5
        refine lv_iinc (v := v2 + 1) (lv' := [(2, .int (v2 + 1)), (3, .ref (ad (2 + 2 * (v2 : Int32).toNatClampNeg))), (0, .ref (ad 0)), (1, .int (v1))]) hx hb dX11_rowsThere_34 hl (k := 3) rfl rfl (by decide) rfl (fun ls hl => ?_)
        refine lv_goto (tgt := 4) hx hb dX11_rowsThere_37 (by decide) ?_
        exact ih4 (v1) (v2 + 1) M3 H locs ls G  (lv_sub hl [2, 3, 0] rfl) h
      have h := h.1 c5
      refine lv_iinc (v := v1 + 1) (lv' := [(1, .int (v1 + 1)), (3, .ref (ad (2 + 2 * (v2 : Int32).toNatClampNeg))), (0, .ref (ad 0)), (2, .int (v2))]) hx hb dX11_rowsThere_31 hl (k := 2) rfl rfl (by decide) rfl (fun ls hl => ?_)
      refine lv_iinc (v := v2 + 1) (lv' := [(2, .int (v2 + 1)), (1, .int (v1 + 1)), (3, .ref (ad (2 + 2 * (v2 : Int32).toNatClampNeg))), (0, .ref (ad 0))]) hx hb dX11_rowsThere_34 hl (k := 3) rfl rfl (by decide) rfl (fun ls hl => ?_)
      refine lv_goto (tgt := 4) hx hb dX11_rowsThere_37 (by decide) ?_
      exact ih4 (v1 + 1) (v2 + 1) M3 H locs ls G  (lv_sub hl [3, 1, 0] rfl) h
  unfold f_X11_rowsThere at h
  refine lv_iconst (v := (0)) hx hb dX11_rowsThere_0 (by decide) ?_
  refine lv_istore_n (lv' := [(1, .int (0)), (0, .ref (ad 0))]) hx hb dX11_rowsThere_1 rfl hl (by decide) rfl (fun ls hl => ?_)
  refine lv_iconst (v := (0)) hx hb dX11_rowsThere_2 (by decide) ?_
  refine lv_istore_n (lv' := [(2, .int (0)), (1, .int (0)), (0, .ref (ad 0))]) hx hb dX11_rowsThere_3 rfl hl (by decide) rfl (fun ls hl => ?_)
  obtain ⟨n6, h⟩ := h
  exact hL4   n6 (0) (0) M H locs ls G  (lv_sub hl [2, 1, 0] rfl) h
def f_X11_count (v1 : Int32) (M : Mm) (K : Int32 → Mm → Prop) : Prop := (((v1 : Int32) = 0 → (f_X11_rowsThere  M (fun r3 M2 => K (r3) M2))) ∧ (¬ (v1 : Int32) = 0 → (((v1 : Int32) = 1 → K (M 26 8) M) ∧ (¬ (v1 : Int32) = 1 → (((v1 : Int32) = 2 → K (M 26 9) M) ∧ (¬ (v1 : Int32) = 2 → (((v1 : Int32) = 3 → K (M 26 10) M) ∧ (¬ (v1 : Int32) = 3 → (((v1 : Int32) = 4 → K (M 26 13) M) ∧ (¬ (v1 : Int32) = 4 → (((v1 : Int32) = 5 → K (M 26 7) M) ∧ (¬ (v1 : Int32) = 5 → (((v1 : Int32) = 6 → K (M 26 12) M) ∧ (¬ (v1 : Int32) = 6 → (((v1 : Int32) = 7 → (f_X6_knownByAnybody 26 M (fun r12 M11 => K (r12) M11))) ∧ (¬ (v1 : Int32) = 7 → (((v1 : Int32) = 8 → K (M 0 9) M) ∧ (¬ (v1 : Int32) = 8 → (((v1 : Int32) = 9 → K (M 24 1) M) ∧ (¬ (v1 : Int32) = 9 → K (-1000001) M))))))))))))))))))))
set_option maxHeartbeats 4000000 in
set_option maxRecDepth 100000 in
theorem m_X11_count (hI : gI 91 ad) {v1 : Int32} {M : Mm} {K : Int32 → Mm → Prop} (h : f_X11_count v1 M K) : gM l D cy 91 ad (shC ad cy) yX11_count cX11_count 2 (some .int) 2 43 [.ref (ad 0), .int (v1)] M (gQi D 91 ad (shC ad cy) K) := by
  refine gM.of (own := RX11) (lv := [(0, .ref (ad 0)), (1, .int (v1))]) (by decide) rfl hI (Nat.le_of_ble_eq_true rfl) rfl ?_
  intro p e s m below meth c ls H locs X G hl
  have hx := X.1
  have hb := X.2.1
  unfold f_X11_count at h
  refine lv_iload_n hx hb dX11_count_0 rfl (lv_at hl 1 rfl) ?_
  by_cases c1 : (v1 : Int32) = 0
  · refine gq_tabIn (v := 0) (tgt := 56) hx hb dX11_count_1 c1 (by decide) (by decide) rfl (by decide) ?_
    have h := h.1 c1
    refine lv_aload_n hx hb dX11_count_56 rfl (lv_at hl 0 rfl) ?_
    refine gq_calli G (gc_V (C := RX11) (rest := []) X hl.1 G (m_X11_rowsThere hI  h) cw_X11_rowsThere qw_43_8 qw_43_9 qw_43_10 ob_PH rfl rfl rfl rfl (Nat.le_of_ble_eq_true rfl) ⟨Nat.le_of_ble_eq_true rfl, Nat.le_of_ble_eq_true rfl⟩ ⟨Nat.le_refl _, Nat.le_refl _⟩ dX11_count_57) (fun r3 M2 H locs G h => ?_)
    exact gq_iret X G h dX11_count_60
  have h := h.2 c1
  by_cases c4 : (v1 : Int32) = 1
  · refine gq_tabIn (v := 1) (tgt := 61) hx hb dX11_count_1 c4 (by decide) (by decide) rfl (by decide) ?_
    have h := h.1 c4
    refine lv_aload_n hx hb dX11_count_61 rfl (lv_at hl 0 rfl) ?_
    refine gf_PH_now X G qw_2_16 dX11_count_62 ?_
    refine gfN_Paper_cells X G isPap_26 nf_26 dX11_count_65 ?_
    exact gq_iret X G h dX11_count_68
  have h := h.2 c4
  by_cases c5 : (v1 : Int32) = 2
  · refine gq_tabIn (v := 2) (tgt := 69) hx hb dX11_count_1 c5 (by decide) (by decide) rfl (by decide) ?_
    have h := h.1 c5
    refine lv_aload_n hx hb dX11_count_69 rfl (lv_at hl 0 rfl) ?_
    refine gf_PH_now X G qw_2_16 dX11_count_70 ?_
    refine gfN_Paper_wallCount X G isPap_26 nf_29 dX11_count_73 ?_
    exact gq_iret X G h dX11_count_76
  have h := h.2 c5
  by_cases c6 : (v1 : Int32) = 3
  · refine gq_tabIn (v := 3) (tgt := 77) hx hb dX11_count_1 c6 (by decide) (by decide) rfl (by decide) ?_
    have h := h.1 c6
    refine lv_aload_n hx hb dX11_count_77 rfl (lv_at hl 0 rfl) ?_
    refine gf_PH_now X G qw_2_16 dX11_count_78 ?_
    refine gfN_Paper_folkCount X G isPap_26 nf_32 dX11_count_81 ?_
    exact gq_iret X G h dX11_count_84
  have h := h.2 c6
  by_cases c7 : (v1 : Int32) = 4
  · refine gq_tabIn (v := 4) (tgt := 85) hx hb dX11_count_1 c7 (by decide) (by decide) rfl (by decide) ?_
    have h := h.1 c7
    refine lv_aload_n hx hb dX11_count_85 rfl (lv_at hl 0 rfl) ?_
    refine gf_PH_now X G qw_2_16 dX11_count_86 ?_
    refine gfN_Paper_day X G isPap_26 nf_40 dX11_count_89 ?_
    exact gq_iret X G h dX11_count_92
  have h := h.2 c7
  by_cases c8 : (v1 : Int32) = 5
  · refine gq_tabIn (v := 5) (tgt := 93) hx hb dX11_count_1 c8 (by decide) (by decide) rfl (by decide) ?_
    have h := h.1 c8
    refine lv_aload_n hx hb dX11_count_93 rfl (lv_at hl 0 rfl) ?_
    refine gf_PH_now X G qw_2_16 dX11_count_94 ?_
    refine gfN_Paper_law X G isPap_26 nf_23 dX11_count_97 ?_
    exact gq_iret X G h dX11_count_100
  have h := h.2 c8
  by_cases c9 : (v1 : Int32) = 6
  · refine gq_tabIn (v := 6) (tgt := 101) hx hb dX11_count_1 c9 (by decide) (by decide) rfl (by decide) ?_
    have h := h.1 c9
    refine lv_aload_n hx hb dX11_count_101 rfl (lv_at hl 0 rfl) ?_
    refine gf_PH_now X G qw_2_16 dX11_count_102 ?_
    refine gfN_Paper_faded X G isPap_26 nf_38 dX11_count_105 ?_
    exact gq_iret X G h dX11_count_108
  have h := h.2 c9
  by_cases c10 : (v1 : Int32) = 7
  · refine gq_tabIn (v := 7) (tgt := 109) hx hb dX11_count_1 c10 (by decide) (by decide) rfl (by decide) ?_
    have h := h.1 c10
    refine lv_aload_n hx hb dX11_count_109 rfl (lv_at hl 0 rfl) ?_
    refine gf_PH_now X G qw_2_16 dX11_count_110 ?_
    refine gq_calli G (gc_VN (C := RX6) (rest := []) X hl.1 G (m_X6_knownByAnybody hI isPap_26 h) cw_X6_knownByAnybody nm_30 qw_19_7 qw_19_8 (ob_Paper isPap_26) rfl rfl rfl rfl (Nat.le_of_ble_eq_true rfl) ⟨Nat.le_of_ble_eq_true rfl, Nat.le_of_ble_eq_true rfl⟩ ⟨Nat.le_refl _, Nat.le_refl _⟩ dX11_count_113) (fun r12 M11 H locs G h => ?_)
    exact gq_iret X G h dX11_count_116
  have h := h.2 c10
  by_cases c13 : (v1 : Int32) = 8
  · refine gq_tabIn (v := 8) (tgt := 117) hx hb dX11_count_1 c13 (by decide) (by decide) rfl (by decide) ?_
    have h := h.1 c13
    refine lv_aload_n hx hb dX11_count_117 rfl (lv_at hl 0 rfl) ?_
    refine gf_PH_actsKept X G qw_13_22 dX11_count_118 ?_
    exact gq_iret X G h dX11_count_121
  have h := h.2 c13
  by_cases c14 : (v1 : Int32) = 9
  · refine gq_tabIn (v := 9) (tgt := 122) hx hb dX11_count_1 c14 (by decide) (by decide) rfl (by decide) ?_
    have h := h.1 c14
    refine lv_aload_n hx hb dX11_count_122 rfl (lv_at hl 0 rfl) ?_
    refine gf_PH_tape X G qw_2_12 dX11_count_123 ?_
    refine gfN_Tape_length X G nf_5 dX11_count_126 ?_
    exact gq_iret X G h dX11_count_129
  have h := h.2 c14
  refine lv_tableOut (tgt := 130) hx hb dX11_count_1 (by have := gq_ne (v := 0) (z := 0) c1 rfl; have := gq_ne (v := 1) (z := 1) c4 rfl; have := gq_ne (v := 2) (z := 2) c5 rfl; have := gq_ne (v := 3) (z := 3) c6 rfl; have := gq_ne (v := 4) (z := 4) c7 rfl; have := gq_ne (v := 5) (z := 5) c8 rfl; have := gq_ne (v := 6) (z := 6) c9 rfl; have := gq_ne (v := 7) (z := 7) c10 rfl; have := gq_ne (v := 8) (z := 8) c13 rfl; have := gq_ne (v := 9) (z := 9) c14 rfl; omega) (by decide) ?_
  refine gq_ldc (v := (-1000001)) X qw_6_5 dX11_count_130 ?_
  exact gq_iret X G h dX11_count_132
def f_X11_status  (M : Mm) (K : Int32 → Mm → Prop) : Prop := K (M 0 11) M
set_option maxHeartbeats 4000000 in
set_option maxRecDepth 100000 in
theorem m_X11_status (hI : gI 91 ad)  {M : Mm} {K : Int32 → Mm → Prop} (h : f_X11_status  M K) : gM l D cy 91 ad (shC ad cy) yX11_status cX11_status 1 (some .int) 0 0 [.ref (ad 0)] M (gQi D 91 ad (shC ad cy) K) := by
  refine gM.of (own := RX11) (lv := [(0, .ref (ad 0))]) (by decide) rfl hI (Nat.le_of_ble_eq_true rfl) rfl ?_
  intro p e s m below meth c ls H locs X G hl
  have hx := X.1
  have hb := X.2.1
  unfold f_X11_status at h
  refine lv_aload_n hx hb dX11_status_0 rfl (lv_at hl 0 rfl) ?_
  refine gf_PH_latestFinding X G qw_6_14 dX11_status_1 ?_
  exact gq_iret X G h dX11_status_4
def f_X12_in (v0 : Int32) (v1 : Int32) (v2 : Int32) (M : Mm) (K : Int32 → Mm → Prop) : Prop := ((((v0 : Int32) < v1 : Prop) → K 0 M) ∧ (¬ ((v0 : Int32) < v1 : Prop) → ((((v2 : Int32) < v0 : Prop) → K 0 M) ∧ (¬ ((v2 : Int32) < v0 : Prop) → K 1 M))))
set_option maxHeartbeats 4000000 in
set_option maxRecDepth 100000 in
theorem m_X12_in (hI : gI 17 ad) {v0 : Int32} {v1 : Int32} {v2 : Int32} {M : Mm} {K : Int32 → Mm → Prop} (h : f_X12_in v0 v1 v2 M K) : gM l D cy 17 ad (shR ad cy) yX12_in cX12_in 3 (some .boolean) 0 0 [.int (v0), .int (v1), .int (v2)] M (gQi D 17 ad (shR ad cy) K) := by
  refine gM.of (own := RX12) (lv := [(0, .int (v0)), (1, .int (v1)), (2, .int (v2))]) (by decide) rfl hI (Nat.le_of_ble_eq_true rfl) rfl ?_
  intro p e s m below meth c ls H locs X G hl
  have hx := X.1
  have hb := X.2.1
  unfold f_X12_in at h
  refine lv_iload_n hx hb dX12_in_0 rfl (lv_at hl 0 rfl) ?_
  refine lv_iload_n hx hb dX12_in_1 rfl (lv_at hl 1 rfl) ?_
  refine lv_icmp_lt (tgt := 14) hx hb dX12_in_2 (by decide) (fun c1 => ?_) (fun c1 => ?_)
  · have h := h.1 c1
    refine lv_iconst (v := (0)) hx hb dX12_in_14 (by decide) ?_
    exact gq_zret X G (Or.inl rfl) h dX12_in_15
  have h := h.2 c1
  refine lv_iload_n hx hb dX12_in_5 rfl (lv_at hl 0 rfl) ?_
  refine lv_iload_n hx hb dX12_in_6 rfl (lv_at hl 2 rfl) ?_
  refine lv_icmp_gt (tgt := 14) hx hb dX12_in_7 (by decide) (fun c2 => ?_) (fun c2 => ?_)
  · have h := h.1 c2
    refine lv_iconst (v := (0)) hx hb dX12_in_14 (by decide) ?_
    exact gq_zret X G (Or.inl rfl) h dX12_in_15
  have h := h.2 c2
  refine lv_iconst (v := (1)) hx hb dX12_in_10 (by decide) ?_
  refine lv_goto (tgt := 15) hx hb dX12_in_11 (by decide) ?_
  exact gq_zret X G (Or.inr rfl) h dX12_in_15
def f_X12_isRow (v0 : Int32) (M : Mm) (K : Int32 → Mm → Prop) : Prop := (f_X12_in (v0) (0) (7) M (fun r2 M1 => ((r2 = 0 ∨ r2 = 1) ∧ K (r2) M1)))
set_option maxHeartbeats 4000000 in
set_option maxRecDepth 100000 in
theorem m_X12_isRow (hI : gI 17 ad) {v0 : Int32} {M : Mm} {K : Int32 → Mm → Prop} (h : f_X12_isRow v0 M K) : gM l D cy 17 ad (shR ad cy) yX12_isRow cX12_isRow 1 (some .boolean) 1 22 [.int (v0)] M (gQi D 17 ad (shR ad cy) K) := by
  refine gM.of (own := RX12) (lv := [(0, .int (v0))]) (by decide) rfl hI (Nat.le_of_ble_eq_true rfl) rfl ?_
  intro p e s m below meth c ls H locs X G hl
  have hx := X.1
  have hb := X.2.1
  unfold f_X12_isRow at h
  refine lv_iload_n hx hb dX12_isRow_0 rfl (lv_at hl 0 rfl) ?_
  refine lv_iconst (v := (0)) hx hb dX12_isRow_1 (by decide) ?_
  refine lv_bipush (v := (7)) hx hb dX12_isRow_2 (by decide) ?_
  refine gq_calli G (gc_S (rest := []) X hl.1 G (m_X12_in hI  h) cw_X12_in qw_7_12 qw_7_13 rfl rfl (Nat.le_of_ble_eq_true rfl) ⟨Nat.le_of_ble_eq_true rfl, Nat.le_of_ble_eq_true rfl⟩ ⟨Nat.le_refl _, Nat.le_refl _⟩ dX12_isRow_4) (fun r2 M1 H locs G h => ?_)
  exact gq_zret X G h.1 h.2 dX12_isRow_7
def f_X12_well (v1 : Int32) (M : Mm) (K : Int32 → Mm → Prop) : Prop := (∀ M1 : Mm, M1 = gU M 0 4 (0) → K (v1) M1)
set_option maxHeartbeats 4000000 in
set_option maxRecDepth 100000 in
theorem m_X12_well (hI : gI 17 ad) {v1 : Int32} {M : Mm} {K : Int32 → Mm → Prop} (h : f_X12_well v1 M K) : gM l D cy 17 ad (shR ad cy) yX12_well cX12_well 2 (some .int) 0 0 [.ref (ad 0), .int (v1)] M (gQi D 17 ad (shR ad cy) K) := by
  refine gM.of (own := RX12) (lv := [(0, .ref (ad 0)), (1, .int (v1))]) (by decide) rfl hI (Nat.le_of_ble_eq_true rfl) rfl ?_
  intro p e s m below meth c ls H locs X G hl
  have hx := X.1
  have hb := X.2.1
  unfold f_X12_well at h
  refine lv_aload_n hx hb dX12_well_0 rfl (lv_at hl 0 rfl) ?_
  refine lv_iconst (v := (0)) hx hb dX12_well_1 (by decide) ?_
  refine gp_Model_finding X G qw_7_19 dX12_well_2 (fun M1 H locs e2 G => ?_)
  have h := h M1 e2
  refine lv_iload_n hx hb dX12_well_5 rfl (lv_at hl 1 rfl) ?_
  exact gq_iret X G h dX12_well_6
def f_X12_found (v1 : Int32) (M : Mm) (K : Int32 → Mm → Prop) : Prop := (∀ M1 : Mm, M1 = gU M 0 4 (v1) → K ((-1000010) - v1) M1)
set_option maxHeartbeats 4000000 in
set_option maxRecDepth 100000 in
theorem m_X12_found (hI : gI 17 ad) {v1 : Int32} {M : Mm} {K : Int32 → Mm → Prop} (h : f_X12_found v1 M K) : gM l D cy 17 ad (shR ad cy) yX12_found cX12_found 2 (some .int) 0 0 [.ref (ad 0), .int (v1)] M (gQi D 17 ad (shR ad cy) K) := by
  refine gM.of (own := RX12) (lv := [(0, .ref (ad 0)), (1, .int (v1))]) (by decide) rfl hI (Nat.le_of_ble_eq_true rfl) rfl ?_
  intro p e s m below meth c ls H locs X G hl
  have hx := X.1
  have hb := X.2.1
  unfold f_X12_found at h
  refine lv_aload_n hx hb dX12_found_0 rfl (lv_at hl 0 rfl) ?_
  refine lv_iload_n hx hb dX12_found_1 rfl (lv_at hl 1 rfl) ?_
  refine gp_Model_finding X G qw_7_19 dX12_found_2 (fun M1 H locs e2 G => ?_)
  have h := h M1 e2
  refine gq_ldc (v := (-1000010)) X qw_7_20 dX12_found_5 ?_
  refine lv_iload_n hx hb dX12_found_7 rfl (lv_at hl 1 rfl) ?_
  refine lv_isub hx hb dX12_found_8 ?_
  exact gq_iret X G h dX12_found_9
def l_X12_row_52 (K : Int32 → Mm → Prop) (v1 : Int32) (v3 : Int32) : Nat → Int32 → Mm → Prop
  | 0, _, _ => False
  | n + 1, v4, M => ((((40 : Int32) ≤ v4 : Prop) → (f_X12_well (v3) M (fun r3 M2 => K (r3) M2))) ∧ (¬ ((40 : Int32) ≤ v4 : Prop) → (vp_in ((40 * v1) + v4) 320 ∧ (∀ M5 : Mm, M5 = gU M 3 ((40 * v1) + v4 : Int32).toNatClampNeg (0) → (l_X12_row_52 K v1 v3 n) (v4 + 1) M5))))
def f_X12_row (v1 : Int32) (v2 : Int32) (v3 : Int32) (M : Mm) (K : Int32 → Mm → Prop) : Prop := (f_X12_isRow (v1) M (fun r8 M7 => ((((r8 : Int32) = 0 : Prop) → K (-1000001) M7) ∧ (¬ ((r8 : Int32) = 0 : Prop) → (f_X12_in (v2) (0) (2) M7 (fun r11 M10 => ((((r11 : Int32) = 0 : Prop) → K (-1000001) M10) ∧ (¬ ((r11 : Int32) = 0 : Prop) → ((((v3 : Int32) ≤ 40 : Prop) → ((((0 : Int32) ≤ v3 : Prop) → (vp_in (v1) 8 ∧ (∀ M16 : Mm, M16 = gU M10 1 (v1 : Int32).toNatClampNeg (v2) → (∀ M18 : Mm, M18 = gU M16 2 (v1 : Int32).toNatClampNeg (v3) → ∃ z, l_X12_row_52 K (v1) (v3) z (0) M18)))) ∧ (¬ ((0 : Int32) ≤ v3 : Prop) → (f_X12_found (4) M10 (fun r22 M21 => K (r22) M21))))) ∧ (¬ ((v3 : Int32) ≤ 40 : Prop) → K (-1000001) M10))))))))))
set_option maxHeartbeats 4000000 in
set_option maxRecDepth 100000 in
theorem m_X12_row (hI : gI 17 ad) {v1 : Int32} {v2 : Int32} {v3 : Int32} {M : Mm} {K : Int32 → Mm → Prop} (h : f_X12_row v1 v2 v3 M K) : gM l D cy 17 ad (shR ad cy) yX12_row cX12_row 5 (some .int) 2 42 [.ref (ad 0), .int (v1), .int (v2), .int (v3)] M (gQi D 17 ad (shR ad cy) K) := by
  refine gM.of (own := RX12) (lv := [(0, .ref (ad 0)), (1, .int (v1)), (2, .int (v2)), (3, .int (v3))]) (by decide) rfl hI (Nat.le_of_ble_eq_true rfl) rfl ?_
  intro p e s m below meth c ls H locs X G hl
  have hx := X.1
  have hb := X.2.1
  have hL52 : ∀ (n : Nat) (v4 : Int32) (M : Mm) (H : Heap) (locs : List Loc) (ls : Array Slot), gS D s 17 ad (shR ad cy) H locs M → lv_has ls 5 [(0, .ref (ad 0)), (1, .int (v1)), (3, .int (v3)), (4, .int (v4))] → l_X12_row_52 K v1 v3 n v4 M → gWk p l e 2 42 s m ([.ref (ad 0), .int (v1), .int (v2), .int (v3)] : List Value).toArray below meth c H locs (gQi D 17 ad (shR ad cy) K) 17 ad 52 ls [] := by
    intro n52
    induction n52 with
    | zero =>
      intro v4 M H locs ls G hl h
      exact False.elim h
    | succ n52 ih52 =>
      intro v4 M H locs ls G hl h
      rw [l_X12_row_52] at h
      refine lv_iload hx hb dX12_row_52 (lv_at hl 3 rfl) ?_
      refine lv_bipush (v := (40)) hx hb dX12_row_54 (by decide) ?_
      refine lv_icmp_ge (tgt := 78) hx hb dX12_row_56 (by decide) (fun c1 => ?_) (fun c1 => ?_)
      · have h := h.1 c1
        refine lv_aload_n hx hb dX12_row_78 rfl (lv_at hl 0 rfl) ?_
        refine lv_iload_n hx hb dX12_row_79 rfl (lv_at hl 2 rfl) ?_
        refine gq_calli G (gc_V (C := RX12) (rest := []) X hl.1 G (m_X12_well hI  h) cw_X12_well qw_7_21 qw_7_22 qw_7_23 ob_Model rfl rfl rfl rfl (Nat.le_of_ble_eq_true rfl) ⟨Nat.le_of_ble_eq_true rfl, Nat.le_of_ble_eq_true rfl⟩ ⟨Nat.le_refl _, Nat.le_refl _⟩ dX12_row_80) (fun r3 M2 H locs G h => ?_)
        exact gq_iret X G h dX12_row_83
      have h := h.2 c1
      refine lv_aload_n hx hb dX12_row_59 rfl (lv_at hl 0 rfl) ?_
      refine gf_Model_items X G qw_5_8 dX12_row_60 ?_
      refine lv_bipush (v := (40)) hx hb dX12_row_63 (by decide) ?_
      refine lv_iload_n hx hb dX12_row_65 rfl (lv_at hl 1 rfl) ?_
      refine lv_imul hx hb dX12_row_66 ?_
      refine lv_iload hx hb dX12_row_67 (lv_at hl 3 rfl) ?_
      refine lv_iadd hx hb dX12_row_69 ?_
      refine lv_iconst (v := (0)) hx hb dX12_row_70 (by decide) ?_
      obtain ⟨q4, h⟩ := h
      refine gq_iast X G rr_3 q4 dX12_row_71 (fun M5 H locs e6 G => ?_)
      have h := h M5 e6
      refine lv_iinc (v := v4 + 1) (lv' := [(4, .int (v4 + 1)), (0, .ref (ad 0)), (1, .int (v1)), (3, .int (v3))]) hx hb dX12_row_72 hl (k := 3) rfl rfl (by decide) rfl (fun ls hl => ?_)
      refine lv_goto (tgt := 52) hx hb dX12_row_75 (by decide) ?_
      exact ih52 (v4 + 1) M5 H locs ls G  (lv_sub hl [1, 2, 3, 0] rfl) h
  unfold f_X12_row at h
  refine lv_iload_n hx hb dX12_row_0 rfl (lv_at hl 1 rfl) ?_
  refine gq_calli G (gc_S (rest := []) X hl.1 G (m_X12_isRow hI  h) cw_X12_isRow qw_7_9 qw_7_10 rfl rfl (Nat.le_of_ble_eq_true rfl) ⟨Nat.le_of_ble_eq_true rfl, Nat.le_of_ble_eq_true rfl⟩ ⟨Nat.le_refl _, Nat.le_refl _⟩ dX12_row_1) (fun r8 M7 H locs G h => ?_)
  refine lv_if_eq (tgt := 22) hx hb dX12_row_4 (by decide) (fun c9 => ?_) (fun c9 => ?_)
  · have h := h.1 c9
    refine gq_ldc (v := (-1000001)) X qw_7_8 dX12_row_22 ?_
    exact gq_iret X G h dX12_row_24
  have h := h.2 c9
  refine lv_iload_n hx hb dX12_row_7 rfl (lv_at hl 2 rfl) ?_
  refine lv_iconst (v := (0)) hx hb dX12_row_8 (by decide) ?_
  refine lv_iconst (v := (2)) hx hb dX12_row_9 (by decide) ?_
  refine gq_calli G (gc_S (rest := []) X hl.1 G (m_X12_in hI  h) cw_X12_in qw_7_12 qw_7_13 rfl rfl (Nat.le_of_ble_eq_true rfl) ⟨Nat.le_of_ble_eq_true rfl, Nat.le_of_ble_eq_true rfl⟩ ⟨Nat.le_refl _, Nat.le_refl _⟩ dX12_row_10) (fun r11 M10 H locs G h => ?_)
  refine lv_if_eq (tgt := 22) hx hb dX12_row_13 (by decide) (fun c12 => ?_) (fun c12 => ?_)
  · have h := h.1 c12
    refine gq_ldc (v := (-1000001)) X qw_7_8 dX12_row_22 ?_
    exact gq_iret X G h dX12_row_24
  have h := h.2 c12
  refine lv_iload_n hx hb dX12_row_16 rfl (lv_at hl 3 rfl) ?_
  refine lv_bipush (v := (40)) hx hb dX12_row_17 (by decide) ?_
  refine lv_icmp_le (tgt := 25) hx hb dX12_row_19 (by decide) (fun c13 => ?_) (fun c13 => ?_)
  · have h := h.1 c13
    refine lv_iload_n hx hb dX12_row_25 rfl (lv_at hl 3 rfl) ?_
    refine lv_if_ge (tgt := 35) hx hb dX12_row_26 (by decide) (fun c14 => ?_) (fun c14 => ?_)
    · have h := h.1 c14
      refine lv_aload_n hx hb dX12_row_35 rfl (lv_at hl 0 rfl) ?_
      refine gf_Model_lanes X G qw_5_6 dX12_row_36 ?_
      refine lv_iload_n hx hb dX12_row_39 rfl (lv_at hl 1 rfl) ?_
      refine lv_iload_n hx hb dX12_row_40 rfl (lv_at hl 2 rfl) ?_
      obtain ⟨q15, h⟩ := h
      refine gq_iast X G rr_1 q15 dX12_row_41 (fun M16 H locs e17 G => ?_)
      have h := h M16 e17
      refine lv_aload_n hx hb dX12_row_42 rfl (lv_at hl 0 rfl) ?_
      refine gf_Model_lengths X G qw_5_7 dX12_row_43 ?_
      refine lv_iload_n hx hb dX12_row_46 rfl (lv_at hl 1 rfl) ?_
      refine lv_iload_n hx hb dX12_row_47 rfl (lv_at hl 3 rfl) ?_
      refine gq_iast X G rr_2 q15 dX12_row_48 (fun M18 H locs e19 G => ?_)
      have h := h M18 e19
      refine lv_iconst (v := (0)) hx hb dX12_row_49 (by decide) ?_
      refine lv_istore (lv' := [(4, .int (0)), (0, .ref (ad 0)), (1, .int (v1)), (2, .int (v2)), (3, .int (v3))]) hx hb dX12_row_50 hl (by decide) rfl (fun ls hl => ?_)
      obtain ⟨n20, h⟩ := h
      exact hL52   n20 (0) M18 H locs ls G  (lv_sub hl [1, 2, 4, 0] rfl) h
    have h := h.2 c14
    refine lv_aload_n hx hb dX12_row_29 rfl (lv_at hl 0 rfl) ?_
    refine lv_iconst (v := (4)) hx hb dX12_row_30 (by decide) ?_
    refine gq_calli G (gc_V (C := RX12) (rest := []) X hl.1 G (m_X12_found hI  h) cw_X12_found qw_7_15 qw_7_16 qw_7_17 ob_Model rfl rfl rfl rfl (Nat.le_of_ble_eq_true rfl) ⟨Nat.le_of_ble_eq_true rfl, Nat.le_of_ble_eq_true rfl⟩ ⟨Nat.le_refl _, Nat.le_refl _⟩ dX12_row_31) (fun r22 M21 H locs G h => ?_)
    exact gq_iret X G h dX12_row_34
  have h := h.2 c13
  refine gq_ldc (v := (-1000001)) X qw_7_8 dX12_row_22 ?_
  exact gq_iret X G h dX12_row_24
def f_X12_set_89 (K : Int32 → Mm → Prop) (v1 : Int32) (v2 : Int32) (s0 : Int32) (s1 : Int32) (s2 : Nat) (M : Mm) : Prop := (vp_in (s1) 320 ∧ (∀ M2 : Mm, M2 = gU M 3 (s1 : Int32).toNatClampNeg (s0) → (vp_in ((40 * v1) + v2) 320 ∧ (f_X12_well (M2 3 ((40 * v1) + v2 : Int32).toNatClampNeg) M2 (fun r6 M5 => K (r6) M5)))))
def f_X12_set (v1 : Int32) (v2 : Int32) (v3 : Int32) (M : Mm) (K : Int32 → Mm → Prop) : Prop := (f_X12_isRow (v1) M (fun r8 M7 => ((((r8 : Int32) = 0 : Prop) → K (-1000001) M7) ∧ (¬ ((r8 : Int32) = 0 : Prop) → (vp_in (v1) 8 ∧ ((((M7 1 (v1 : Int32).toNatClampNeg : Int32) = -1000000 : Prop) → (f_X12_found (1) M7 (fun r20 M19 => K (r20) M19))) ∧ (¬ ((M7 1 (v1 : Int32).toNatClampNeg : Int32) = -1000000 : Prop) → (f_X12_in (v2) (0) ((M7 2 (v1 : Int32).toNatClampNeg) - 1) M7 (fun r13 M12 => ((((r13 : Int32) = 0 : Prop) → (f_X12_found (2) M12 (fun r18 M17 => K (r18) M17))) ∧ (¬ ((r13 : Int32) = 0 : Prop) → ((((M12 1 (v1 : Int32).toNatClampNeg : Int32) = 0 : Prop) → f_X12_set_89 K (v1) (v2) ((v3).toInt8.toInt32) ((40 * v1) + v2) (3) M12) ∧ (¬ ((M12 1 (v1 : Int32).toNatClampNeg : Int32) = 0 : Prop) → ((((M12 1 (v1 : Int32).toNatClampNeg : Int32) = 1 : Prop) → f_X12_set_89 K (v1) (v2) ((v3).toInt16.toInt32) ((40 * v1) + v2) (3) M12) ∧ (¬ ((M12 1 (v1 : Int32).toNatClampNeg : Int32) = 1 : Prop) → f_X12_set_89 K (v1) (v2) (v3) ((40 * v1) + v2) (3) M12)))))))))))))))
set_option maxHeartbeats 4000000 in
set_option maxRecDepth 100000 in
theorem m_X12_set (hI : gI 17 ad) {v1 : Int32} {v2 : Int32} {v3 : Int32} {M : Mm} {K : Int32 → Mm → Prop} (h : f_X12_set v1 v2 v3 M K) : gM l D cy 17 ad (shR ad cy) yX12_set cX12_set 4 (some .int) 2 42 [.ref (ad 0), .int (v1), .int (v2), .int (v3)] M (gQi D 17 ad (shR ad cy) K) := by
  refine gM.of (own := RX12) (lv := [(0, .ref (ad 0)), (1, .int (v1)), (2, .int (v2)), (3, .int (v3))]) (by decide) rfl hI (Nat.le_of_ble_eq_true rfl) rfl ?_
  intro p e s m below meth c ls H locs X G hl
  have hx := X.1
  have hb := X.2.1
  have hJ89 : ∀ (s0 : Int32) (s1 : Int32) (s2 : Nat) (M : Mm) (H : Heap) (locs : List Loc) (ls : Array Slot), gS D s 17 ad (shR ad cy) H locs M → lv_has ls 4 [(0, .ref (ad 0)), (1, .int (v1)), (2, .int (v2))] → f_X12_set_89 K v1 v2 s0 s1 s2 M → gWk p l e 2 42 s m ([.ref (ad 0), .int (v1), .int (v2), .int (v3)] : List Value).toArray below meth c H locs (gQi D 17 ad (shR ad cy) K) 17 ad 89 ls [.int (s0), .int (s1), .ref (ad 3)] := by
    intro s0 s1 s2 M H locs ls G hl h
    unfold f_X12_set_89 at h
    obtain ⟨q1, h⟩ := h
    refine gq_iast X G rr_3 q1 dX12_set_89 (fun M2 H locs e3 G => ?_)
    have h := h M2 e3
    refine lv_aload_n hx hb dX12_set_90 rfl (lv_at hl 0 rfl) ?_
    refine lv_aload_n hx hb dX12_set_91 rfl (lv_at hl 0 rfl) ?_
    refine gf_Model_items X G qw_5_8 dX12_set_92 ?_
    refine lv_bipush (v := (40)) hx hb dX12_set_95 (by decide) ?_
    refine lv_iload_n hx hb dX12_set_97 rfl (lv_at hl 1 rfl) ?_
    refine lv_imul hx hb dX12_set_98 ?_
    refine lv_iload_n hx hb dX12_set_99 rfl (lv_at hl 2 rfl) ?_
    refine lv_iadd hx hb dX12_set_100 ?_
    obtain ⟨q4, h⟩ := h
    refine gq_iald X G rr_3 q4 dX12_set_101 ?_
    refine gq_calli G (gc_V (C := RX12) (rest := []) X hl.1 G (m_X12_well hI  h) cw_X12_well qw_7_21 qw_7_22 qw_7_23 ob_Model rfl rfl rfl rfl (Nat.le_of_ble_eq_true rfl) ⟨Nat.le_of_ble_eq_true rfl, Nat.le_of_ble_eq_true rfl⟩ ⟨Nat.le_refl _, Nat.le_refl _⟩ dX12_set_102) (fun r6 M5 H locs G h => ?_)
    exact gq_iret X G h dX12_set_105
  unfold f_X12_set at h
  refine lv_iload_n hx hb dX12_set_0 rfl (lv_at hl 1 rfl) ?_
  refine gq_calli G (gc_S (rest := []) X hl.1 G (m_X12_isRow hI  h) cw_X12_isRow qw_7_9 qw_7_10 rfl rfl (Nat.le_of_ble_eq_true rfl) ⟨Nat.le_of_ble_eq_true rfl, Nat.le_of_ble_eq_true rfl⟩ ⟨Nat.le_refl _, Nat.le_refl _⟩ dX12_set_1) (fun r8 M7 H locs G h => ?_)
  refine lv_if_ne (tgt := 10) hx hb dX12_set_4 (by decide) (fun c9 => ?_) (fun c9 => ?_)
  · have h := h.2 c9
    refine lv_aload_n hx hb dX12_set_10 rfl (lv_at hl 0 rfl) ?_
    refine gf_Model_lanes X G qw_5_6 dX12_set_11 ?_
    refine lv_iload_n hx hb dX12_set_14 rfl (lv_at hl 1 rfl) ?_
    obtain ⟨q10, h⟩ := h
    refine gq_iald X G rr_1 q10 dX12_set_15 ?_
    refine gq_ldc (v := (-1000000)) X qw_6_0 dX12_set_16 ?_
    refine lv_icmp_ne (tgt := 27) hx hb dX12_set_18 (by decide) (fun c11 => ?_) (fun c11 => ?_)
    · have h := h.2 c11
      refine lv_iload_n hx hb dX12_set_27 rfl (lv_at hl 2 rfl) ?_
      refine lv_iconst (v := (0)) hx hb dX12_set_28 (by decide) ?_
      refine lv_aload_n hx hb dX12_set_29 rfl (lv_at hl 0 rfl) ?_
      refine gf_Model_lengths X G qw_5_7 dX12_set_30 ?_
      refine lv_iload_n hx hb dX12_set_33 rfl (lv_at hl 1 rfl) ?_
      refine gq_iald X G rr_2 q10 dX12_set_34 ?_
      refine lv_iconst (v := (1)) hx hb dX12_set_35 (by decide) ?_
      refine lv_isub hx hb dX12_set_36 ?_
      refine gq_calli G (gc_S (rest := []) X hl.1 G (m_X12_in hI  h) cw_X12_in qw_7_12 qw_7_13 rfl rfl (Nat.le_of_ble_eq_true rfl) ⟨Nat.le_of_ble_eq_true rfl, Nat.le_of_ble_eq_true rfl⟩ ⟨Nat.le_refl _, Nat.le_refl _⟩ dX12_set_37) (fun r13 M12 H locs G h => ?_)
      refine lv_if_ne (tgt := 49) hx hb dX12_set_40 (by decide) (fun c14 => ?_) (fun c14 => ?_)
      · have h := h.2 c14
        refine lv_aload_n hx hb dX12_set_49 rfl (lv_at hl 0 rfl) ?_
        refine gf_Model_items X G qw_5_8 dX12_set_50 ?_
        refine lv_bipush (v := (40)) hx hb dX12_set_53 (by decide) ?_
        refine lv_iload_n hx hb dX12_set_55 rfl (lv_at hl 1 rfl) ?_
        refine lv_imul hx hb dX12_set_56 ?_
        refine lv_iload_n hx hb dX12_set_57 rfl (lv_at hl 2 rfl) ?_
        refine lv_iadd hx hb dX12_set_58 ?_
        refine lv_aload_n hx hb dX12_set_59 rfl (lv_at hl 0 rfl) ?_
        refine gf_Model_lanes X G qw_5_6 dX12_set_60 ?_
        refine lv_iload_n hx hb dX12_set_63 rfl (lv_at hl 1 rfl) ?_
        refine gq_iald X G rr_1 q10 dX12_set_64 ?_
        refine lv_if_ne (tgt := 73) hx hb dX12_set_65 (by decide) (fun c15 => ?_) (fun c15 => ?_)
        · have h := h.2 c15
          refine lv_aload_n hx hb dX12_set_73 rfl (lv_at hl 0 rfl) ?_
          refine gf_Model_lanes X G qw_5_6 dX12_set_74 ?_
          refine lv_iload_n hx hb dX12_set_77 rfl (lv_at hl 1 rfl) ?_
          refine gq_iald X G rr_1 q10 dX12_set_78 ?_
          refine lv_iconst (v := (1)) hx hb dX12_set_79 (by decide) ?_
          refine lv_icmp_ne (tgt := 88) hx hb dX12_set_80 (by decide) (fun c16 => ?_) (fun c16 => ?_)
          · have h := h.2 c16
            refine lv_iload_n hx hb dX12_set_88 rfl (lv_at hl 3 rfl) ?_
            exact hJ89  (v3) ((40 * v1) + v2) (3) M12 H locs ls G  (lv_sub hl [0, 1, 2] rfl) h
          have h := h.1 c16
          refine lv_iload_n hx hb dX12_set_83 rfl (lv_at hl 3 rfl) ?_
          refine lv_i2s hx hb dX12_set_84 rfl ?_
          refine lv_goto (tgt := 89) hx hb dX12_set_85 (by decide) ?_
          exact hJ89  ((v3).toInt16.toInt32) ((40 * v1) + v2) (3) M12 H locs ls G  (lv_sub hl [0, 1, 2] rfl) h
        have h := h.1 c15
        refine lv_iload_n hx hb dX12_set_68 rfl (lv_at hl 3 rfl) ?_
        refine lv_i2b hx hb dX12_set_69 rfl ?_
        refine lv_goto (tgt := 89) hx hb dX12_set_70 (by decide) ?_
        exact hJ89  ((v3).toInt8.toInt32) ((40 * v1) + v2) (3) M12 H locs ls G  (lv_sub hl [0, 1, 2] rfl) h
      have h := h.1 c14
      refine lv_aload_n hx hb dX12_set_43 rfl (lv_at hl 0 rfl) ?_
      refine lv_iconst (v := (2)) hx hb dX12_set_44 (by decide) ?_
      refine gq_calli G (gc_V (C := RX12) (rest := []) X hl.1 G (m_X12_found hI  h) cw_X12_found qw_7_15 qw_7_16 qw_7_17 ob_Model rfl rfl rfl rfl (Nat.le_of_ble_eq_true rfl) ⟨Nat.le_of_ble_eq_true rfl, Nat.le_of_ble_eq_true rfl⟩ ⟨Nat.le_refl _, Nat.le_refl _⟩ dX12_set_45) (fun r18 M17 H locs G h => ?_)
      exact gq_iret X G h dX12_set_48
    have h := h.1 c11
    refine lv_aload_n hx hb dX12_set_21 rfl (lv_at hl 0 rfl) ?_
    refine lv_iconst (v := (1)) hx hb dX12_set_22 (by decide) ?_
    refine gq_calli G (gc_V (C := RX12) (rest := []) X hl.1 G (m_X12_found hI  h) cw_X12_found qw_7_15 qw_7_16 qw_7_17 ob_Model rfl rfl rfl rfl (Nat.le_of_ble_eq_true rfl) ⟨Nat.le_of_ble_eq_true rfl, Nat.le_of_ble_eq_true rfl⟩ ⟨Nat.le_refl _, Nat.le_refl _⟩ dX12_set_23) (fun r20 M19 H locs G h => ?_)
    exact gq_iret X G h dX12_set_26
  have h := h.1 c9
  refine gq_ldc (v := (-1000001)) X qw_7_8 dX12_set_7 ?_
  exact gq_iret X G h dX12_set_9
def f_X12_isIn (v1 : Int32) (v2 : Int32) (v3 : Int32) (M : Mm) (K : Int32 → Mm → Prop) : Prop := ((((v2 : Int32) < 0 : Prop) → K 0 M) ∧ (¬ ((v2 : Int32) < 0 : Prop) → ((((v3 : Int32) < 0 : Prop) → K 0 M) ∧ (¬ ((v3 : Int32) < 0 : Prop) → (vp_in (v1) 8 ∧ ((((M 2 (v1 : Int32).toNatClampNeg : Int32) < v2 : Prop) → K 0 M) ∧ (¬ ((M 2 (v1 : Int32).toNatClampNeg : Int32) < v2 : Prop) → (((((M 2 (v1 : Int32).toNatClampNeg) - v2 : Int32) < v3 : Prop) → K 0 M) ∧ (¬ (((M 2 (v1 : Int32).toNatClampNeg) - v2 : Int32) < v3 : Prop) → K 1 M)))))))))
set_option maxHeartbeats 4000000 in
set_option maxRecDepth 100000 in
theorem m_X12_isIn (hI : gI 17 ad) {v1 : Int32} {v2 : Int32} {v3 : Int32} {M : Mm} {K : Int32 → Mm → Prop} (h : f_X12_isIn v1 v2 v3 M K) : gM l D cy 17 ad (shR ad cy) yX12_isIn cX12_isIn 4 (some .boolean) 0 0 [.ref (ad 0), .int (v1), .int (v2), .int (v3)] M (gQi D 17 ad (shR ad cy) K) := by
  refine gM.of (own := RX12) (lv := [(0, .ref (ad 0)), (1, .int (v1)), (2, .int (v2)), (3, .int (v3))]) (by decide) rfl hI (Nat.le_of_ble_eq_true rfl) rfl ?_
  intro p e s m below meth c ls H locs X G hl
  have hx := X.1
  have hb := X.2.1
  unfold f_X12_isIn at h
  refine lv_iload_n hx hb dX12_isIn_0 rfl (lv_at hl 2 rfl) ?_
  refine lv_if_lt (tgt := 34) hx hb dX12_isIn_1 (by decide) (fun c1 => ?_) (fun c1 => ?_)
  · have h := h.1 c1
    refine lv_iconst (v := (0)) hx hb dX12_isIn_34 (by decide) ?_
    exact gq_zret X G (Or.inl rfl) h dX12_isIn_35
  have h := h.2 c1
  refine lv_iload_n hx hb dX12_isIn_4 rfl (lv_at hl 3 rfl) ?_
  refine lv_if_lt (tgt := 34) hx hb dX12_isIn_5 (by decide) (fun c2 => ?_) (fun c2 => ?_)
  · have h := h.1 c2
    refine lv_iconst (v := (0)) hx hb dX12_isIn_34 (by decide) ?_
    exact gq_zret X G (Or.inl rfl) h dX12_isIn_35
  have h := h.2 c2
  refine lv_iload_n hx hb dX12_isIn_8 rfl (lv_at hl 2 rfl) ?_
  refine lv_aload_n hx hb dX12_isIn_9 rfl (lv_at hl 0 rfl) ?_
  refine gf_Model_lengths X G qw_5_7 dX12_isIn_10 ?_
  refine lv_iload_n hx hb dX12_isIn_13 rfl (lv_at hl 1 rfl) ?_
  obtain ⟨q3, h⟩ := h
  refine gq_iald X G rr_2 q3 dX12_isIn_14 ?_
  refine lv_icmp_gt (tgt := 34) hx hb dX12_isIn_15 (by decide) (fun c4 => ?_) (fun c4 => ?_)
  · have h := h.1 c4
    refine lv_iconst (v := (0)) hx hb dX12_isIn_34 (by decide) ?_
    exact gq_zret X G (Or.inl rfl) h dX12_isIn_35
  have h := h.2 c4
  refine lv_iload_n hx hb dX12_isIn_18 rfl (lv_at hl 3 rfl) ?_
  refine lv_aload_n hx hb dX12_isIn_19 rfl (lv_at hl 0 rfl) ?_
  refine gf_Model_lengths X G qw_5_7 dX12_isIn_20 ?_
  refine lv_iload_n hx hb dX12_isIn_23 rfl (lv_at hl 1 rfl) ?_
  refine gq_iald X G rr_2 q3 dX12_isIn_24 ?_
  refine lv_iload_n hx hb dX12_isIn_25 rfl (lv_at hl 2 rfl) ?_
  refine lv_isub hx hb dX12_isIn_26 ?_
  refine lv_icmp_gt (tgt := 34) hx hb dX12_isIn_27 (by decide) (fun c5 => ?_) (fun c5 => ?_)
  · have h := h.1 c5
    refine lv_iconst (v := (0)) hx hb dX12_isIn_34 (by decide) ?_
    exact gq_zret X G (Or.inl rfl) h dX12_isIn_35
  have h := h.2 c5
  refine lv_iconst (v := (1)) hx hb dX12_isIn_30 (by decide) ?_
  refine lv_goto (tgt := 35) hx hb dX12_isIn_31 (by decide) ?_
  exact gq_zret X G (Or.inr rfl) h dX12_isIn_35
def l_X12_copy_135 (K : Int32 → Mm → Prop) (v3 : Int32) (v4 : Int32) (v5 : Int32) : Nat → Int32 → Mm → Prop
  | 0, _, _ => False
  | n + 1, v6, M => ((((v5 : Int32) ≤ v6 : Prop) → (f_X12_well (v5) M (fun r3 M2 => K (r3) M2))) ∧ (¬ ((v5 : Int32) ≤ v6 : Prop) → (vp_in (v6) 40 ∧ (vp_in (((40 * v3) + v4) + v6) 320 ∧ (∀ M6 : Mm, M6 = gU M 3 (((40 * v3) + v4) + v6 : Int32).toNatClampNeg (M 4 (v6 : Int32).toNatClampNeg) → (l_X12_copy_135 K v3 v4 v5 n) (v6 + 1) M6)))))
def l_X12_copy_98 (K : Int32 → Mm → Prop) (v1 : Int32) (v2 : Int32) (v3 : Int32) (v4 : Int32) (v5 : Int32) : Nat → Int32 → Mm → Prop
  | 0, _, _ => False
  | n + 1, v6, M => ((((v5 : Int32) ≤ v6 : Prop) → ∃ z, l_X12_copy_135 K (v3) (v4) (v5) z (0) M) ∧ (¬ ((v5 : Int32) ≤ v6 : Prop) → (vp_in (((40 * v1) + v2) + v6) 320 ∧ (vp_in (v6) 40 ∧ (∀ M12 : Mm, M12 = gU M 4 (v6 : Int32).toNatClampNeg (M 3 (((40 * v1) + v2) + v6 : Int32).toNatClampNeg) → (l_X12_copy_98 K v1 v2 v3 v4 v5 n) (v6 + 1) M12)))))
def f_X12_copy_89 (K : Int32 → Mm → Prop) (M : Mm) : Prop := (f_X12_found (2) M (fun r15 M14 => K (r15) M14))
def f_X12_copy_39 (K : Int32 → Mm → Prop) (M : Mm) : Prop := (f_X12_found (1) M (fun r17 M16 => K (r17) M16))
def f_X12_copy (v1 : Int32) (v2 : Int32) (v3 : Int32) (v4 : Int32) (v5 : Int32) (M : Mm) (K : Int32 → Mm → Prop) : Prop := (f_X12_isRow (v1) M (fun r19 M18 => ((((r19 : Int32) = 0 : Prop) → K (-1000001) M18) ∧ (¬ ((r19 : Int32) = 0 : Prop) → (f_X12_isRow (v3) M18 (fun r22 M21 => ((((r22 : Int32) = 0 : Prop) → K (-1000001) M21) ∧ (¬ ((r22 : Int32) = 0 : Prop) → (vp_in (v1) 8 ∧ ((((M21 1 (v1 : Int32).toNatClampNeg : Int32) = -1000000 : Prop) → f_X12_copy_39 K M21) ∧ (¬ ((M21 1 (v1 : Int32).toNatClampNeg : Int32) = -1000000 : Prop) → (vp_in (v3) 8 ∧ ((((M21 1 (v3 : Int32).toNatClampNeg : Int32) = -1000000 : Prop) → f_X12_copy_39 K M21) ∧ (¬ ((M21 1 (v3 : Int32).toNatClampNeg : Int32) = -1000000 : Prop) → ((((M21 1 (v1 : Int32).toNatClampNeg : Int32) = M21 1 (v3 : Int32).toNatClampNeg : Prop) → (f_X12_isIn (v1) (v2) (v5) M21 (fun r30 M29 => ((((r30 : Int32) = 0 : Prop) → f_X12_copy_89 K M29) ∧ (¬ ((r30 : Int32) = 0 : Prop) → (f_X12_isIn (v3) (v4) (v5) M29 (fun r33 M32 => ((((r33 : Int32) = 0 : Prop) → f_X12_copy_89 K M32) ∧ (¬ ((r33 : Int32) = 0 : Prop) → ∃ z, l_X12_copy_98 K (v1) (v2) (v3) (v4) (v5) z (0) M32))))))))) ∧ (¬ ((M21 1 (v1 : Int32).toNatClampNeg : Int32) = M21 1 (v3 : Int32).toNatClampNeg : Prop) → (f_X12_found (5) M21 (fun r37 M36 => K (r37) M36))))))))))))))))))
set_option maxHeartbeats 4000000 in
set_option maxRecDepth 100000 in
theorem m_X12_copy (hI : gI 17 ad) {v1 : Int32} {v2 : Int32} {v3 : Int32} {v4 : Int32} {v5 : Int32} {M : Mm} {K : Int32 → Mm → Prop} (h : f_X12_copy v1 v2 v3 v4 v5 M K) : gM l D cy 17 ad (shR ad cy) yX12_copy cX12_copy 7 (some .int) 2 42 [.ref (ad 0), .int (v1), .int (v2), .int (v3), .int (v4), .int (v5)] M (gQi D 17 ad (shR ad cy) K) := by
  refine gM.of (own := RX12) (lv := [(0, .ref (ad 0)), (1, .int (v1)), (2, .int (v2)), (3, .int (v3)), (4, .int (v4)), (5, .int (v5))]) (by decide) rfl hI (Nat.le_of_ble_eq_true rfl) rfl ?_
  intro p e s m below meth c ls H locs X G hl
  have hx := X.1
  have hb := X.2.1
  have hL135 : ∀ (n : Nat) (v6 : Int32) (M : Mm) (H : Heap) (locs : List Loc) (ls : Array Slot), gS D s 17 ad (shR ad cy) H locs M → lv_has ls 7 [(0, .ref (ad 0)), (3, .int (v3)), (4, .int (v4)), (5, .int (v5)), (6, .int (v6))] → l_X12_copy_135 K v3 v4 v5 n v6 M → gWk p l e 2 42 s m ([.ref (ad 0), .int (v1), .int (v2), .int (v3), .int (v4), .int (v5)] : List Value).toArray below meth c H locs (gQi D 17 ad (shR ad cy) K) 17 ad 135 ls [] := by
    intro n135
    induction n135 with
    | zero =>
      intro v6 M H locs ls G hl h
      exact False.elim h
    | succ n135 ih135 =>
      intro v6 M H locs ls G hl h
      rw [l_X12_copy_135] at h
      refine lv_iload hx hb dX12_copy_135 (lv_at hl 4 rfl) ?_
      refine lv_iload hx hb dX12_copy_137 (lv_at hl 3 rfl) ?_
      refine lv_icmp_ge (tgt := 170) hx hb dX12_copy_139 (by decide) (fun c1 => ?_) (fun c1 => ?_)
      · have h := h.1 c1
        refine lv_aload_n hx hb dX12_copy_170 rfl (lv_at hl 0 rfl) ?_
        refine lv_iload hx hb dX12_copy_171 (lv_at hl 3 rfl) ?_
        refine gq_calli G (gc_V (C := RX12) (rest := []) X hl.1 G (m_X12_well hI  h) cw_X12_well qw_7_21 qw_7_22 qw_7_23 ob_Model rfl rfl rfl rfl (Nat.le_of_ble_eq_true rfl) ⟨Nat.le_of_ble_eq_true rfl, Nat.le_of_ble_eq_true rfl⟩ ⟨Nat.le_refl _, Nat.le_refl _⟩ dX12_copy_173) (fun r3 M2 H locs G h => ?_)
        exact gq_iret X G h dX12_copy_176
      have h := h.2 c1
      refine lv_aload_n hx hb dX12_copy_142 rfl (lv_at hl 0 rfl) ?_
      refine gf_Model_items X G qw_5_8 dX12_copy_143 ?_
      refine lv_bipush (v := (40)) hx hb dX12_copy_146 (by decide) ?_
      refine lv_iload_n hx hb dX12_copy_148 rfl (lv_at hl 1 rfl) ?_
      refine lv_imul hx hb dX12_copy_149 ?_
      refine lv_iload hx hb dX12_copy_150 (lv_at hl 2 rfl) ?_
      refine lv_iadd hx hb dX12_copy_152 ?_
      refine lv_iload hx hb dX12_copy_153 (lv_at hl 4 rfl) ?_
      refine lv_iadd hx hb dX12_copy_155 ?_
      refine lv_aload_n hx hb dX12_copy_156 rfl (lv_at hl 0 rfl) ?_
      refine gf_Model_moved X G qw_5_9 dX12_copy_157 ?_
      refine lv_iload hx hb dX12_copy_160 (lv_at hl 4 rfl) ?_
      obtain ⟨q4, h⟩ := h
      refine gq_iald X G rr_4 q4 dX12_copy_162 ?_
      obtain ⟨q5, h⟩ := h
      refine gq_iast X G rr_3 q5 dX12_copy_163 (fun M6 H locs e7 G => ?_)
      have h := h M6 e7
      refine lv_iinc (v := v6 + 1) (lv' := [(6, .int (v6 + 1)), (0, .ref (ad 0)), (3, .int (v3)), (4, .int (v4)), (5, .int (v5))]) hx hb dX12_copy_164 hl (k := 4) rfl rfl (by decide) rfl (fun ls hl => ?_)
      refine lv_goto (tgt := 135) hx hb dX12_copy_167 (by decide) ?_
      exact ih135 (v6 + 1) M6 H locs ls G  (lv_sub hl [1, 2, 3, 4, 0] rfl) h
  have hL98 : ∀ (n : Nat) (v6 : Int32) (M : Mm) (H : Heap) (locs : List Loc) (ls : Array Slot), gS D s 17 ad (shR ad cy) H locs M → lv_has ls 7 [(0, .ref (ad 0)), (1, .int (v1)), (2, .int (v2)), (3, .int (v3)), (4, .int (v4)), (5, .int (v5)), (6, .int (v6))] → l_X12_copy_98 K v1 v2 v3 v4 v5 n v6 M → gWk p l e 2 42 s m ([.ref (ad 0), .int (v1), .int (v2), .int (v3), .int (v4), .int (v5)] : List Value).toArray below meth c H locs (gQi D 17 ad (shR ad cy) K) 17 ad 98 ls [] := by
    intro n98
    induction n98 with
    | zero =>
      intro v6 M H locs ls G hl h
      exact False.elim h
    | succ n98 ih98 =>
      intro v6 M H locs ls G hl h
      rw [l_X12_copy_98] at h
      refine lv_iload hx hb dX12_copy_98 (lv_at hl 6 rfl) ?_
      refine lv_iload hx hb dX12_copy_100 (lv_at hl 5 rfl) ?_
      refine lv_icmp_ge (tgt := 132) hx hb dX12_copy_102 (by decide) (fun c8 => ?_) (fun c8 => ?_)
      · have h := h.1 c8
        refine lv_iconst (v := (0)) hx hb dX12_copy_132 (by decide) ?_
        refine lv_istore (lv' := [(6, .int (0)), (0, .ref (ad 0)), (1, .int (v1)), (2, .int (v2)), (3, .int (v3)), (4, .int (v4)), (5, .int (v5))]) hx hb dX12_copy_133 hl (by decide) rfl (fun ls hl => ?_)
        obtain ⟨n9, h⟩ := h
        exact hL135   n9 (0) M H locs ls G  (lv_sub hl [1, 4, 5, 6, 0] rfl) h
      have h := h.2 c8
      refine lv_aload_n hx hb dX12_copy_105 rfl (lv_at hl 0 rfl) ?_
      refine gf_Model_moved X G qw_5_9 dX12_copy_106 ?_
      refine lv_iload hx hb dX12_copy_109 (lv_at hl 6 rfl) ?_
      refine lv_aload_n hx hb dX12_copy_111 rfl (lv_at hl 0 rfl) ?_
      refine gf_Model_items X G qw_5_8 dX12_copy_112 ?_
      refine lv_bipush (v := (40)) hx hb dX12_copy_115 (by decide) ?_
      refine lv_iload_n hx hb dX12_copy_117 rfl (lv_at hl 1 rfl) ?_
      refine lv_imul hx hb dX12_copy_118 ?_
      refine lv_iload_n hx hb dX12_copy_119 rfl (lv_at hl 2 rfl) ?_
      refine lv_iadd hx hb dX12_copy_120 ?_
      refine lv_iload hx hb dX12_copy_121 (lv_at hl 6 rfl) ?_
      refine lv_iadd hx hb dX12_copy_123 ?_
      obtain ⟨q10, h⟩ := h
      refine gq_iald X G rr_3 q10 dX12_copy_124 ?_
      obtain ⟨q11, h⟩ := h
      refine gq_iast X G rr_4 q11 dX12_copy_125 (fun M12 H locs e13 G => ?_)
      have h := h M12 e13
      refine lv_iinc (v := v6 + 1) (lv' := [(6, .int (v6 + 1)), (0, .ref (ad 0)), (1, .int (v1)), (2, .int (v2)), (3, .int (v3)), (4, .int (v4)), (5, .int (v5))]) hx hb dX12_copy_126 hl (k := 6) rfl rfl (by decide) rfl (fun ls hl => ?_)
      refine lv_goto (tgt := 98) hx hb dX12_copy_129 (by decide) ?_
      exact ih98 (v6 + 1) M12 H locs ls G  (lv_sub hl [1, 2, 3, 4, 5, 6, 0] rfl) h
  have hJ89 : ∀ (M : Mm) (H : Heap) (locs : List Loc) (ls : Array Slot), gS D s 17 ad (shR ad cy) H locs M → lv_has ls 7 [(0, .ref (ad 0))] → f_X12_copy_89 K M → gWk p l e 2 42 s m ([.ref (ad 0), .int (v1), .int (v2), .int (v3), .int (v4), .int (v5)] : List Value).toArray below meth c H locs (gQi D 17 ad (shR ad cy) K) 17 ad 89 ls [] := by
    intro M H locs ls G hl h
    unfold f_X12_copy_89 at h
    refine lv_aload_n hx hb dX12_copy_89 rfl (lv_at hl 0 rfl) ?_
    refine lv_iconst (v := (2)) hx hb dX12_copy_90 (by decide) ?_
    refine gq_calli G (gc_V (C := RX12) (rest := []) X hl.1 G (m_X12_found hI  h) cw_X12_found qw_7_15 qw_7_16 qw_7_17 ob_Model rfl rfl rfl rfl (Nat.le_of_ble_eq_true rfl) ⟨Nat.le_of_ble_eq_true rfl, Nat.le_of_ble_eq_true rfl⟩ ⟨Nat.le_refl _, Nat.le_refl _⟩ dX12_copy_91) (fun r15 M14 H locs G h => ?_)
    exact gq_iret X G h dX12_copy_94
  have hJ39 : ∀ (M : Mm) (H : Heap) (locs : List Loc) (ls : Array Slot), gS D s 17 ad (shR ad cy) H locs M → lv_has ls 7 [(0, .ref (ad 0))] → f_X12_copy_39 K M → gWk p l e 2 42 s m ([.ref (ad 0), .int (v1), .int (v2), .int (v3), .int (v4), .int (v5)] : List Value).toArray below meth c H locs (gQi D 17 ad (shR ad cy) K) 17 ad 39 ls [] := by
    intro M H locs ls G hl h
    unfold f_X12_copy_39 at h
    refine lv_aload_n hx hb dX12_copy_39 rfl (lv_at hl 0 rfl) ?_
    refine lv_iconst (v := (1)) hx hb dX12_copy_40 (by decide) ?_
    refine gq_calli G (gc_V (C := RX12) (rest := []) X hl.1 G (m_X12_found hI  h) cw_X12_found qw_7_15 qw_7_16 qw_7_17 ob_Model rfl rfl rfl rfl (Nat.le_of_ble_eq_true rfl) ⟨Nat.le_of_ble_eq_true rfl, Nat.le_of_ble_eq_true rfl⟩ ⟨Nat.le_refl _, Nat.le_refl _⟩ dX12_copy_41) (fun r17 M16 H locs G h => ?_)
    exact gq_iret X G h dX12_copy_44
  unfold f_X12_copy at h
  refine lv_iload_n hx hb dX12_copy_0 rfl (lv_at hl 1 rfl) ?_
  refine gq_calli G (gc_S (rest := []) X hl.1 G (m_X12_isRow hI  h) cw_X12_isRow qw_7_9 qw_7_10 rfl rfl (Nat.le_of_ble_eq_true rfl) ⟨Nat.le_of_ble_eq_true rfl, Nat.le_of_ble_eq_true rfl⟩ ⟨Nat.le_refl _, Nat.le_refl _⟩ dX12_copy_1) (fun r19 M18 H locs G h => ?_)
  refine lv_if_eq (tgt := 14) hx hb dX12_copy_4 (by decide) (fun c20 => ?_) (fun c20 => ?_)
  · have h := h.1 c20
    refine gq_ldc (v := (-1000001)) X qw_7_8 dX12_copy_14 ?_
    exact gq_iret X G h dX12_copy_16
  have h := h.2 c20
  refine lv_iload_n hx hb dX12_copy_7 rfl (lv_at hl 3 rfl) ?_
  refine gq_calli G (gc_S (rest := []) X hl.1 G (m_X12_isRow hI  h) cw_X12_isRow qw_7_9 qw_7_10 rfl rfl (Nat.le_of_ble_eq_true rfl) ⟨Nat.le_of_ble_eq_true rfl, Nat.le_of_ble_eq_true rfl⟩ ⟨Nat.le_refl _, Nat.le_refl _⟩ dX12_copy_8) (fun r22 M21 H locs G h => ?_)
  refine lv_if_ne (tgt := 17) hx hb dX12_copy_11 (by decide) (fun c23 => ?_) (fun c23 => ?_)
  · have h := h.2 c23
    refine lv_aload_n hx hb dX12_copy_17 rfl (lv_at hl 0 rfl) ?_
    refine gf_Model_lanes X G qw_5_6 dX12_copy_18 ?_
    refine lv_iload_n hx hb dX12_copy_21 rfl (lv_at hl 1 rfl) ?_
    obtain ⟨q24, h⟩ := h
    refine gq_iald X G rr_1 q24 dX12_copy_22 ?_
    refine gq_ldc (v := (-1000000)) X qw_6_0 dX12_copy_23 ?_
    refine lv_icmp_eq (tgt := 39) hx hb dX12_copy_25 (by decide) (fun c25 => ?_) (fun c25 => ?_)
    · have h := h.1 c25
      exact hJ39   M21 H locs ls G  (lv_sub hl [0] rfl) h
    have h := h.2 c25
    refine lv_aload_n hx hb dX12_copy_28 rfl (lv_at hl 0 rfl) ?_
    refine gf_Model_lanes X G qw_5_6 dX12_copy_29 ?_
    refine lv_iload_n hx hb dX12_copy_32 rfl (lv_at hl 3 rfl) ?_
    obtain ⟨q26, h⟩ := h
    refine gq_iald X G rr_1 q26 dX12_copy_33 ?_
    refine gq_ldc (v := (-1000000)) X qw_6_0 dX12_copy_34 ?_
    refine lv_icmp_ne (tgt := 45) hx hb dX12_copy_36 (by decide) (fun c27 => ?_) (fun c27 => ?_)
    · have h := h.2 c27
      refine lv_aload_n hx hb dX12_copy_45 rfl (lv_at hl 0 rfl) ?_
      refine gf_Model_lanes X G qw_5_6 dX12_copy_46 ?_
      refine lv_iload_n hx hb dX12_copy_49 rfl (lv_at hl 1 rfl) ?_
      refine gq_iald X G rr_1 q24 dX12_copy_50 ?_
      refine lv_aload_n hx hb dX12_copy_51 rfl (lv_at hl 0 rfl) ?_
      refine gf_Model_lanes X G qw_5_6 dX12_copy_52 ?_
      refine lv_iload_n hx hb dX12_copy_55 rfl (lv_at hl 3 rfl) ?_
      refine gq_iald X G rr_1 q26 dX12_copy_56 ?_
      refine lv_icmp_eq (tgt := 66) hx hb dX12_copy_57 (by decide) (fun c28 => ?_) (fun c28 => ?_)
      · have h := h.1 c28
        refine lv_aload_n hx hb dX12_copy_66 rfl (lv_at hl 0 rfl) ?_
        refine lv_iload_n hx hb dX12_copy_67 rfl (lv_at hl 1 rfl) ?_
        refine lv_iload_n hx hb dX12_copy_68 rfl (lv_at hl 2 rfl) ?_
        refine lv_iload hx hb dX12_copy_69 (lv_at hl 5 rfl) ?_
        refine gq_calli G (gc_V (C := RX12) (rest := []) X hl.1 G (m_X12_isIn hI  h) cw_X12_isIn qw_9_6 qw_9_7 qw_9_8 ob_Model rfl rfl rfl rfl (Nat.le_of_ble_eq_true rfl) ⟨Nat.le_of_ble_eq_true rfl, Nat.le_of_ble_eq_true rfl⟩ ⟨Nat.le_refl _, Nat.le_refl _⟩ dX12_copy_71) (fun r30 M29 H locs G h => ?_)
        refine lv_if_eq (tgt := 89) hx hb dX12_copy_74 (by decide) (fun c31 => ?_) (fun c31 => ?_)
        · have h := h.1 c31
          exact hJ89   M29 H locs ls G  (lv_sub hl [0] rfl) h
        have h := h.2 c31
        refine lv_aload_n hx hb dX12_copy_77 rfl (lv_at hl 0 rfl) ?_
        refine lv_iload_n hx hb dX12_copy_78 rfl (lv_at hl 3 rfl) ?_
        refine lv_iload hx hb dX12_copy_79 (lv_at hl 4 rfl) ?_
        refine lv_iload hx hb dX12_copy_81 (lv_at hl 5 rfl) ?_
        refine gq_calli G (gc_V (C := RX12) (rest := []) X hl.1 G (m_X12_isIn hI  h) cw_X12_isIn qw_9_6 qw_9_7 qw_9_8 ob_Model rfl rfl rfl rfl (Nat.le_of_ble_eq_true rfl) ⟨Nat.le_of_ble_eq_true rfl, Nat.le_of_ble_eq_true rfl⟩ ⟨Nat.le_refl _, Nat.le_refl _⟩ dX12_copy_83) (fun r33 M32 H locs G h => ?_)
        refine lv_if_ne (tgt := 95) hx hb dX12_copy_86 (by decide) (fun c34 => ?_) (fun c34 => ?_)
        · have h := h.2 c34
          refine lv_iconst (v := (0)) hx hb dX12_copy_95 (by decide) ?_
          refine lv_istore (lv' := [(6, .int (0)), (0, .ref (ad 0)), (1, .int (v1)), (2, .int (v2)), (3, .int (v3)), (4, .int (v4)), (5, .int (v5))]) hx hb dX12_copy_96 hl (by decide) rfl (fun ls hl => ?_)
          obtain ⟨n35, h⟩ := h
          exact hL98   n35 (0) M32 H locs ls G  (lv_sub hl [1, 2, 3, 4, 5, 6, 0] rfl) h
        have h := h.1 c34
        exact hJ89   M32 H locs ls G  (lv_sub hl [0] rfl) h
      have h := h.2 c28
      refine lv_aload_n hx hb dX12_copy_60 rfl (lv_at hl 0 rfl) ?_
      refine lv_iconst (v := (5)) hx hb dX12_copy_61 (by decide) ?_
      refine gq_calli G (gc_V (C := RX12) (rest := []) X hl.1 G (m_X12_found hI  h) cw_X12_found qw_7_15 qw_7_16 qw_7_17 ob_Model rfl rfl rfl rfl (Nat.le_of_ble_eq_true rfl) ⟨Nat.le_of_ble_eq_true rfl, Nat.le_of_ble_eq_true rfl⟩ ⟨Nat.le_refl _, Nat.le_refl _⟩ dX12_copy_62) (fun r37 M36 H locs G h => ?_)
      exact gq_iret X G h dX12_copy_65
    have h := h.1 c27
    exact hJ39   M21 H locs ls G  (lv_sub hl [0] rfl) h
  have h := h.1 c23
  refine gq_ldc (v := (-1000001)) X qw_7_8 dX12_copy_14 ?_
  exact gq_iret X G h dX12_copy_16
def f_X12_drop (v1 : Int32) (M : Mm) (K : Int32 → Mm → Prop) : Prop := (f_X12_isRow (v1) M (fun r2 M1 => ((((r2 : Int32) = 0 : Prop) → K (-1000001) M1) ∧ (¬ ((r2 : Int32) = 0 : Prop) → (vp_in (v1) 8 ∧ ((((M1 1 (v1 : Int32).toNatClampNeg : Int32) = -1000000 : Prop) → (f_X12_found (1) M1 (fun r11 M10 => K (r11) M10))) ∧ (¬ ((M1 1 (v1 : Int32).toNatClampNeg : Int32) = -1000000 : Prop) → (∀ M6 : Mm, M6 = gU M1 1 (v1 : Int32).toNatClampNeg (-1000000) → (f_X12_well (M6 2 (v1 : Int32).toNatClampNeg) M6 (fun r9 M8 => K (r9) M8))))))))))
set_option maxHeartbeats 4000000 in
set_option maxRecDepth 100000 in
theorem m_X12_drop (hI : gI 17 ad) {v1 : Int32} {M : Mm} {K : Int32 → Mm → Prop} (h : f_X12_drop v1 M K) : gM l D cy 17 ad (shR ad cy) yX12_drop cX12_drop 2 (some .int) 2 42 [.ref (ad 0), .int (v1)] M (gQi D 17 ad (shR ad cy) K) := by
  refine gM.of (own := RX12) (lv := [(0, .ref (ad 0)), (1, .int (v1))]) (by decide) rfl hI (Nat.le_of_ble_eq_true rfl) rfl ?_
  intro p e s m below meth c ls H locs X G hl
  have hx := X.1
  have hb := X.2.1
  unfold f_X12_drop at h
  refine lv_iload_n hx hb dX12_drop_0 rfl (lv_at hl 1 rfl) ?_
  refine gq_calli G (gc_S (rest := []) X hl.1 G (m_X12_isRow hI  h) cw_X12_isRow qw_7_9 qw_7_10 rfl rfl (Nat.le_of_ble_eq_true rfl) ⟨Nat.le_of_ble_eq_true rfl, Nat.le_of_ble_eq_true rfl⟩ ⟨Nat.le_refl _, Nat.le_refl _⟩ dX12_drop_1) (fun r2 M1 H locs G h => ?_)
  refine lv_if_ne (tgt := 10) hx hb dX12_drop_4 (by decide) (fun c3 => ?_) (fun c3 => ?_)
  · have h := h.2 c3
    refine lv_aload_n hx hb dX12_drop_10 rfl (lv_at hl 0 rfl) ?_
    refine gf_Model_lanes X G qw_5_6 dX12_drop_11 ?_
    refine lv_iload_n hx hb dX12_drop_14 rfl (lv_at hl 1 rfl) ?_
    obtain ⟨q4, h⟩ := h
    refine gq_iald X G rr_1 q4 dX12_drop_15 ?_
    refine gq_ldc (v := (-1000000)) X qw_6_0 dX12_drop_16 ?_
    refine lv_icmp_ne (tgt := 27) hx hb dX12_drop_18 (by decide) (fun c5 => ?_) (fun c5 => ?_)
    · have h := h.2 c5
      refine lv_aload_n hx hb dX12_drop_27 rfl (lv_at hl 0 rfl) ?_
      refine gf_Model_lanes X G qw_5_6 dX12_drop_28 ?_
      refine lv_iload_n hx hb dX12_drop_31 rfl (lv_at hl 1 rfl) ?_
      refine gq_ldc (v := (-1000000)) X qw_6_0 dX12_drop_32 ?_
      refine gq_iast X G rr_1 q4 dX12_drop_34 (fun M6 H locs e7 G => ?_)
      have h := h M6 e7
      refine lv_aload_n hx hb dX12_drop_35 rfl (lv_at hl 0 rfl) ?_
      refine lv_aload_n hx hb dX12_drop_36 rfl (lv_at hl 0 rfl) ?_
      refine gf_Model_lengths X G qw_5_7 dX12_drop_37 ?_
      refine lv_iload_n hx hb dX12_drop_40 rfl (lv_at hl 1 rfl) ?_
      refine gq_iald X G rr_2 q4 dX12_drop_41 ?_
      refine gq_calli G (gc_V (C := RX12) (rest := []) X hl.1 G (m_X12_well hI  h) cw_X12_well qw_7_21 qw_7_22 qw_7_23 ob_Model rfl rfl rfl rfl (Nat.le_of_ble_eq_true rfl) ⟨Nat.le_of_ble_eq_true rfl, Nat.le_of_ble_eq_true rfl⟩ ⟨Nat.le_refl _, Nat.le_refl _⟩ dX12_drop_42) (fun r9 M8 H locs G h => ?_)
      exact gq_iret X G h dX12_drop_45
    have h := h.1 c5
    refine lv_aload_n hx hb dX12_drop_21 rfl (lv_at hl 0 rfl) ?_
    refine lv_iconst (v := (1)) hx hb dX12_drop_22 (by decide) ?_
    refine gq_calli G (gc_V (C := RX12) (rest := []) X hl.1 G (m_X12_found hI  h) cw_X12_found qw_7_15 qw_7_16 qw_7_17 ob_Model rfl rfl rfl rfl (Nat.le_of_ble_eq_true rfl) ⟨Nat.le_of_ble_eq_true rfl, Nat.le_of_ble_eq_true rfl⟩ ⟨Nat.le_refl _, Nat.le_refl _⟩ dX12_drop_23) (fun r11 M10 H locs G h => ?_)
    exact gq_iret X G h dX12_drop_26
  have h := h.1 c3
  refine gq_ldc (v := (-1000001)) X qw_7_8 dX12_drop_7 ?_
  exact gq_iret X G h dX12_drop_9
def f_X12_feed (v1 : Int32) (M : Mm) (K : Int32 → Mm → Prop) : Prop := (f_X12_in (v1) (0) (255) M (fun r2 M1 => ((((r2 : Int32) = 0 : Prop) → K (-1000001) M1) ∧ (¬ ((r2 : Int32) = 0 : Prop) → ((((M1 0 6 : Int32) = 90 : Prop) → K (-1000003) M1) ∧ (¬ ((M1 0 6 : Int32) = 90 : Prop) → (vp_in (M1 0 6) 90 ∧ (∀ M6 : Mm, M6 = gU M1 5 (M1 0 6 : Int32).toNatClampNeg (vp_nar .byte ((v1).toInt8.toInt32)) → (∀ M8 : Mm, M8 = gU M6 0 6 ((M6 0 6) + 1) → K (M8 0 6) M8)))))))))
set_option maxHeartbeats 4000000 in
set_option maxRecDepth 100000 in
theorem m_X12_feed (hI : gI 17 ad) {v1 : Int32} {M : Mm} {K : Int32 → Mm → Prop} (h : f_X12_feed v1 M K) : gM l D cy 17 ad (shR ad cy) yX12_feed cX12_feed 2 (some .int) 1 22 [.ref (ad 0), .int (v1)] M (gQi D 17 ad (shR ad cy) K) := by
  refine gM.of (own := RX12) (lv := [(0, .ref (ad 0)), (1, .int (v1))]) (by decide) rfl hI (Nat.le_of_ble_eq_true rfl) rfl ?_
  intro p e s m below meth c ls H locs X G hl
  have hx := X.1
  have hb := X.2.1
  unfold f_X12_feed at h
  refine lv_iload_n hx hb dX12_feed_0 rfl (lv_at hl 1 rfl) ?_
  refine lv_iconst (v := (0)) hx hb dX12_feed_1 (by decide) ?_
  refine lv_sipush (v := (255)) hx hb dX12_feed_2 (by decide) ?_
  refine gq_calli G (gc_S (rest := []) X hl.1 G (m_X12_in hI  h) cw_X12_in qw_7_12 qw_7_13 rfl rfl (Nat.le_of_ble_eq_true rfl) ⟨Nat.le_of_ble_eq_true rfl, Nat.le_of_ble_eq_true rfl⟩ ⟨Nat.le_refl _, Nat.le_refl _⟩ dX12_feed_5) (fun r2 M1 H locs G h => ?_)
  refine lv_if_ne (tgt := 14) hx hb dX12_feed_8 (by decide) (fun c3 => ?_) (fun c3 => ?_)
  · have h := h.2 c3
    refine lv_aload_n hx hb dX12_feed_14 rfl (lv_at hl 0 rfl) ?_
    refine gf_Model_fed X G qw_10_10 dX12_feed_15 ?_
    refine lv_bipush (v := (90)) hx hb dX12_feed_18 (by decide) ?_
    refine lv_icmp_ne (tgt := 26) hx hb dX12_feed_20 (by decide) (fun c4 => ?_) (fun c4 => ?_)
    · have h := h.2 c4
      refine lv_aload_n hx hb dX12_feed_26 rfl (lv_at hl 0 rfl) ?_
      refine gf_Model_tape X G qw_5_11 dX12_feed_27 ?_
      refine lv_aload_n hx hb dX12_feed_30 rfl (lv_at hl 0 rfl) ?_
      refine gf_Model_fed X G qw_10_10 dX12_feed_31 ?_
      refine lv_iload_n hx hb dX12_feed_34 rfl (lv_at hl 1 rfl) ?_
      refine lv_i2b hx hb dX12_feed_35 rfl ?_
      obtain ⟨q5, h⟩ := h
      refine gq_bast X G rr_5 q5 dX12_feed_36 (fun M6 H locs e7 G => ?_)
      have h := h M6 e7
      refine lv_aload_n hx hb dX12_feed_37 rfl (lv_at hl 0 rfl) ?_
      refine lv_dup hx hb dX12_feed_38 rfl ?_
      refine gf_Model_fed X G qw_10_10 dX12_feed_39 ?_
      refine lv_iconst (v := (1)) hx hb dX12_feed_42 (by decide) ?_
      refine lv_iadd hx hb dX12_feed_43 ?_
      refine gp_Model_fed X G qw_10_10 dX12_feed_44 (fun M8 H locs e9 G => ?_)
      have h := h M8 e9
      refine lv_aload_n hx hb dX12_feed_47 rfl (lv_at hl 0 rfl) ?_
      refine gf_Model_fed X G qw_10_10 dX12_feed_48 ?_
      exact gq_iret X G h dX12_feed_51
    have h := h.1 c4
    refine gq_ldc (v := (-1000003)) X qw_10_11 dX12_feed_23 ?_
    exact gq_iret X G h dX12_feed_25
  have h := h.1 c3
  refine gq_ldc (v := (-1000001)) X qw_7_8 dX12_feed_11 ?_
  exact gq_iret X G h dX12_feed_13
def f_X12_here  (M : Mm) (K : Int32 → Mm → Prop) : Prop := ((((M 0 6 : Int32) ≤ M 0 7 : Prop) → K (-1000000) M) ∧ (¬ ((M 0 6 : Int32) ≤ M 0 7 : Prop) → (vp_in (M 0 7) 90 ∧ K ((M 5 (M 0 7 : Int32).toNatClampNeg) &&& 255) M)))
set_option maxHeartbeats 4000000 in
set_option maxRecDepth 100000 in
theorem m_X12_here (hI : gI 17 ad)  {M : Mm} {K : Int32 → Mm → Prop} (h : f_X12_here  M K) : gM l D cy 17 ad (shR ad cy) yX12_here cX12_here 1 (some .int) 0 0 [.ref (ad 0)] M (gQi D 17 ad (shR ad cy) K) := by
  refine gM.of (own := RX12) (lv := [(0, .ref (ad 0))]) (by decide) rfl hI (Nat.le_of_ble_eq_true rfl) rfl ?_
  intro p e s m below meth c ls H locs X G hl
  have hx := X.1
  have hb := X.2.1
  unfold f_X12_here at h
  refine lv_aload_n hx hb dX12_here_0 rfl (lv_at hl 0 rfl) ?_
  refine gf_Model_at X G qw_14_14 dX12_here_1 ?_
  refine lv_aload_n hx hb dX12_here_4 rfl (lv_at hl 0 rfl) ?_
  refine gf_Model_fed X G qw_10_10 dX12_here_5 ?_
  refine lv_icmp_ge (tgt := 27) hx hb dX12_here_8 (by decide) (fun c1 => ?_) (fun c1 => ?_)
  · have h := h.1 c1
    refine gq_ldc (v := (-1000000)) X qw_6_0 dX12_here_27 ?_
    exact gq_iret X G h dX12_here_29
  have h := h.2 c1
  refine lv_aload_n hx hb dX12_here_11 rfl (lv_at hl 0 rfl) ?_
  refine gf_Model_tape X G qw_5_11 dX12_here_12 ?_
  refine lv_aload_n hx hb dX12_here_15 rfl (lv_at hl 0 rfl) ?_
  refine gf_Model_at X G qw_14_14 dX12_here_16 ?_
  obtain ⟨q2, h⟩ := h
  refine gq_bald X G rr_5 q2 dX12_here_19 ?_
  refine lv_sipush (v := (255)) hx hb dX12_here_20 (by decide) ?_
  refine lv_iand hx hb dX12_here_23 ?_
  refine lv_goto (tgt := 29) hx hb dX12_here_24 (by decide) ?_
  exact gq_iret X G h dX12_here_29
def f_X12_step_185 (K : Mm → Prop) (s0 : Int32) (s1 : Nat) (M : Mm) : Prop := (∀ M1 : Mm, M1 = gU M 0 10 (s0) → K M1)
def f_X12_step_168 (K : Mm → Prop) (v1 : Int32) (s0 : Int32) (s1 : Nat) (M : Mm) : Prop := (∀ M3 : Mm, M3 = gU M 0 9 (s0) → ((((M3 0 9 : Int32) = 1 : Prop) → f_X12_step_185 K (v1) (0) M3) ∧ (¬ ((M3 0 9 : Int32) = 1 : Prop) → f_X12_step_185 K (0) (0) M3)))
def f_X12_step_116 (K : Mm → Prop) (s0 : Int32) (s1 : Nat) (M : Mm) : Prop := (∀ M6 : Mm, M6 = gU M 0 9 (s0) → K M6)
def f_X12_step_85 (K : Mm → Prop) (k43 : Int32 → Mm → Prop) (v2 : Int32) (s0 : Int32) (s1 : Nat) (M : Mm) : Prop := (∀ M8 : Mm, M8 = gU M 0 10 (s0) → (∀ M10 : Mm, M10 = gU M8 0 7 ((M8 0 7) + 1) → k43 (v2 + 1) M10))
def l_X12_step_43 (K : Mm → Prop) : Nat → Int32 → Mm → Prop
  | 0, _, _ => False
  | n + 1, v2, M => (f_X12_here  M (fun r13 M12 => (f_X12_in (r13) (48) (57) M12 (fun r15 M14 => ((((r15 : Int32) = 0 : Prop) → ((((v2 : Int32) ≤ 2 : Prop) → f_X12_step_116 K (2) (0) M14) ∧ (¬ ((v2 : Int32) ≤ 2 : Prop) → f_X12_step_116 K (6) (0) M14))) ∧ (¬ ((r15 : Int32) = 0 : Prop) → ((((2 : Int32) ≤ v2 : Prop) → f_X12_step_85 K (fun a0 a => (l_X12_step_43 K n) a0 a) (v2) (M14 0 10) (0) M14) ∧ (¬ ((2 : Int32) ≤ v2 : Prop) → (f_X12_here  M14 (fun r20 M19 => f_X12_step_85 K (fun a0 a => (l_X12_step_43 K n) a0 a) (v2) (((10 * (M14 0 10)) + r20) - 48) (0) M19))))))))))
def f_X12_step  (M : Mm) (K : Mm → Prop) : Prop := (∀ M21 : Mm, M21 = gU M 0 8 (M 0 7) → (∀ M23 : Mm, M23 = gU M21 0 10 (0) → (f_X12_here  M23 (fun r26 M25 => ((((r26 : Int32) = -1000000 : Prop) → (∀ M39 : Mm, M39 = gU M25 0 9 (5) → K M39)) ∧ (¬ ((r26 : Int32) = -1000000 : Prop) → (f_X12_in (r26) (48) (57) M25 (fun r29 M28 => ((((r29 : Int32) = 0 : Prop) → (∀ M31 : Mm, M31 = gU M28 0 7 ((M28 0 7) + 1) → (f_X12_in (r26) (97) (122) M31 (fun r34 M33 => ((((r34 : Int32) = 0 : Prop) → ((((r26 : Int32) = 44 : Prop) → f_X12_step_168 K (r26) (3) (0) M33) ∧ (¬ ((r26 : Int32) = 44 : Prop) → ((((r26 : Int32) = 59 : Prop) → f_X12_step_168 K (r26) (4) (0) M33) ∧ (¬ ((r26 : Int32) = 59 : Prop) → f_X12_step_168 K (r26) (6) (0) M33))))) ∧ (¬ ((r34 : Int32) = 0 : Prop) → f_X12_step_168 K (r26) (1) (0) M33)))))) ∧ (¬ ((r29 : Int32) = 0 : Prop) → ∃ z, l_X12_step_43 K z (0) M28))))))))))
set_option maxHeartbeats 4000000 in
set_option maxRecDepth 100000 in
theorem m_X12_step (hI : gI 17 ad)  {M : Mm} {K : Mm → Prop} (h : f_X12_step  M K) : gM l D cy 17 ad (shR ad cy) yX12_step cX12_step 3 none 1 22 [.ref (ad 0)] M (gQv D 17 ad (shR ad cy) K) := by
  refine gM.of (own := RX12) (lv := [(0, .ref (ad 0))]) (by decide) rfl hI (Nat.le_of_ble_eq_true rfl) rfl ?_
  intro p e s m below meth c ls H locs X G hl
  have hx := X.1
  have hb := X.2.1
  have hJ185 : ∀ (s0 : Int32) (s1 : Nat) (M : Mm) (H : Heap) (locs : List Loc) (ls : Array Slot), gS D s 17 ad (shR ad cy) H locs M → lv_has ls 3 [] → f_X12_step_185 K s0 s1 M → gWk p l e 1 22 s m ([.ref (ad 0)] : List Value).toArray below meth c H locs (gQv D 17 ad (shR ad cy) K) 17 ad 185 ls [.int (s0), .ref (ad 0)] := by
    intro s0 s1 M H locs ls G hl h
    unfold f_X12_step_185 at h
    refine gp_Model_value X G qw_14_16 dX12_step_185 (fun M1 H locs e2 G => ?_)
    have h := h M1 e2
    exact gq_vret X G h dX12_step_188
  have hJ168 : ∀ (v1 : Int32) (s0 : Int32) (s1 : Nat) (M : Mm) (H : Heap) (locs : List Loc) (ls : Array Slot), gS D s 17 ad (shR ad cy) H locs M → lv_has ls 3 [(0, .ref (ad 0)), (1, .int (v1))] → f_X12_step_168 K v1 s0 s1 M → gWk p l e 1 22 s m ([.ref (ad 0)] : List Value).toArray below meth c H locs (gQv D 17 ad (shR ad cy) K) 17 ad 168 ls [.int (s0), .ref (ad 0)] := by
    intro v1 s0 s1 M H locs ls G hl h
    unfold f_X12_step_168 at h
    refine gp_Model_sort X G qw_14_15 dX12_step_168 (fun M3 H locs e4 G => ?_)
    have h := h M3 e4
    refine lv_aload_n hx hb dX12_step_171 rfl (lv_at hl 0 rfl) ?_
    refine lv_aload_n hx hb dX12_step_172 rfl (lv_at hl 0 rfl) ?_
    refine gf_Model_sort X G qw_14_15 dX12_step_173 ?_
    refine lv_iconst (v := (1)) hx hb dX12_step_176 (by decide) ?_
    refine lv_icmp_ne (tgt := 184) hx hb dX12_step_177 (by decide) (fun c5 => ?_) (fun c5 => ?_)
    · have h := h.2 c5
      refine lv_iconst (v := (0)) hx hb dX12_step_184 (by decide) ?_
      exact hJ185  (0) (0) M3 H locs ls G  (lv_sub hl [] rfl) h
    have h := h.1 c5
    refine lv_iload_n hx hb dX12_step_180 rfl (lv_at hl 1 rfl) ?_
    refine lv_goto (tgt := 185) hx hb dX12_step_181 (by decide) ?_
    exact hJ185  (v1) (0) M3 H locs ls G  (lv_sub hl [] rfl) h
  have hJ116 : ∀ (s0 : Int32) (s1 : Nat) (M : Mm) (H : Heap) (locs : List Loc) (ls : Array Slot), gS D s 17 ad (shR ad cy) H locs M → lv_has ls 3 [] → f_X12_step_116 K s0 s1 M → gWk p l e 1 22 s m ([.ref (ad 0)] : List Value).toArray below meth c H locs (gQv D 17 ad (shR ad cy) K) 17 ad 116 ls [.int (s0), .ref (ad 0)] := by
    intro s0 s1 M H locs ls G hl h
    unfold f_X12_step_116 at h
    refine gp_Model_sort X G qw_14_15 dX12_step_116 (fun M6 H locs e7 G => ?_)
    have h := h M6 e7
    exact gq_vret X G h dX12_step_119
  have hL43 : ∀ (n : Nat) (v2 : Int32) (M : Mm) (H : Heap) (locs : List Loc) (ls : Array Slot), gS D s 17 ad (shR ad cy) H locs M → lv_has ls 3 [(0, .ref (ad 0)), (2, .int (v2))] → l_X12_step_43 K n v2 M → gWk p l e 1 22 s m ([.ref (ad 0)] : List Value).toArray below meth c H locs (gQv D 17 ad (shR ad cy) K) 17 ad 43 ls [] := by
    intro n43
    induction n43 with
    | zero =>
      intro v2 M H locs ls G hl h
      exact False.elim h
    | succ n43 ih43 =>
      have hJ85 : ∀ (v2 : Int32) (s0 : Int32) (s1 : Nat) (M : Mm) (H : Heap) (locs : List Loc) (ls : Array Slot), gS D s 17 ad (shR ad cy) H locs M → lv_has ls 3 [(0, .ref (ad 0)), (2, .int (v2))] → f_X12_step_85 K (fun a0 a => (l_X12_step_43 K n43) a0 a) v2 s0 s1 M → gWk p l e 1 22 s m ([.ref (ad 0)] : List Value).toArray below meth c H locs (gQv D 17 ad (shR ad cy) K) 17 ad 85 ls [.int (s0), .ref (ad 0)] := by
        intro v2 s0 s1 M H locs ls G hl h
        unfold f_X12_step_85 at h
        refine gp_Model_value X G qw_14_16 dX12_step_85 (fun M8 H locs e9 G => ?_)
        have h := h M8 e9
        refine lv_iinc (v := v2 + 1) (lv' := [(2, .int (v2 + 1)), (0, .ref (ad 0))]) hx hb dX12_step_88 hl (k := 1) rfl rfl (by decide) rfl (fun ls hl => ?_)
        refine lv_aload_n hx hb dX12_step_91 rfl (lv_at hl 1 rfl) ?_
        refine lv_dup hx hb dX12_step_92 rfl ?_
        refine gf_Model_at X G qw_14_14 dX12_step_93 ?_
        refine lv_iconst (v := (1)) hx hb dX12_step_96 (by decide) ?_
        refine lv_iadd hx hb dX12_step_97 ?_
        refine gp_Model_at X G qw_14_14 dX12_step_98 (fun M10 H locs e11 G => ?_)
        have h := h M10 e11
        refine lv_goto (tgt := 43) hx hb dX12_step_101 (by decide) ?_
        exact ih43 (v2 + 1) M10 H locs ls G  (lv_sub hl [1, 0] rfl) h
      intro v2 M H locs ls G hl h
      rw [l_X12_step_43] at h
      refine lv_aload_n hx hb dX12_step_43 rfl (lv_at hl 0 rfl) ?_
      refine gq_calli G (gc_V (C := RX12) (rest := []) X hl.1 G (m_X12_here hI  h) cw_X12_here qw_14_21 qw_14_22 qw_14_23 ob_Model rfl rfl rfl rfl (Nat.le_of_ble_eq_true rfl) ⟨Nat.le_of_ble_eq_true rfl, Nat.le_of_ble_eq_true rfl⟩ ⟨Nat.le_refl _, Nat.le_refl _⟩ dX12_step_44) (fun r13 M12 H locs G h => ?_)
      refine lv_bipush (v := (48)) hx hb dX12_step_47 (by decide) ?_
      refine lv_bipush (v := (57)) hx hb dX12_step_49 (by decide) ?_
      refine gq_calli G (gc_S (rest := []) X hl.1 G (m_X12_in hI  h) cw_X12_in qw_7_12 qw_7_13 rfl rfl (Nat.le_of_ble_eq_true rfl) ⟨Nat.le_of_ble_eq_true rfl, Nat.le_of_ble_eq_true rfl⟩ ⟨Nat.le_refl _, Nat.le_refl _⟩ dX12_step_51) (fun r15 M14 H locs G h => ?_)
      refine lv_if_eq (tgt := 104) hx hb dX12_step_54 (by decide) (fun c16 => ?_) (fun c16 => ?_)
      · have h := h.1 c16
        refine lv_aload_n hx hb dX12_step_104 rfl (lv_at hl 0 rfl) ?_
        refine lv_iload_n hx hb dX12_step_105 rfl (lv_at hl 1 rfl) ?_
        refine lv_iconst (v := (2)) hx hb dX12_step_106 (by decide) ?_
        refine lv_icmp_le (tgt := 115) hx hb dX12_step_107 (by decide) (fun c17 => ?_) (fun c17 => ?_)
        · have h := h.1 c17
          refine lv_iconst (v := (2)) hx hb dX12_step_115 (by decide) ?_
          exact hJ116  (2) (0) M14 H locs ls G  (lv_sub hl [] rfl) h
        have h := h.2 c17
        refine lv_bipush (v := (6)) hx hb dX12_step_110 (by decide) ?_
        refine lv_goto (tgt := 116) hx hb dX12_step_112 (by decide) ?_
        exact hJ116  (6) (0) M14 H locs ls G  (lv_sub hl [] rfl) h
      have h := h.2 c16
      refine lv_aload_n hx hb dX12_step_57 rfl (lv_at hl 0 rfl) ?_
      refine lv_iload_n hx hb dX12_step_58 rfl (lv_at hl 1 rfl) ?_
      refine lv_iconst (v := (2)) hx hb dX12_step_59 (by decide) ?_
      refine lv_icmp_ge (tgt := 81) hx hb dX12_step_60 (by decide) (fun c18 => ?_) (fun c18 => ?_)
      · have h := h.1 c18
        refine lv_aload_n hx hb dX12_step_81 rfl (lv_at hl 0 rfl) ?_
        refine gf_Model_value X G qw_14_16 dX12_step_82 ?_
        exact hJ85 (v2) (M14 0 10) (0) M14 H locs ls G  (lv_sub hl [0, 1] rfl) h
      have h := h.2 c18
      refine lv_bipush (v := (10)) hx hb dX12_step_63 (by decide) ?_
      refine lv_aload_n hx hb dX12_step_65 rfl (lv_at hl 0 rfl) ?_
      refine gf_Model_value X G qw_14_16 dX12_step_66 ?_
      refine lv_imul hx hb dX12_step_69 ?_
      refine lv_aload_n hx hb dX12_step_70 rfl (lv_at hl 0 rfl) ?_
      refine gq_calli G (gc_V (C := RX12) (rest := [.int (10 * (M14 0 10)), .ref (ad 0)]) X hl.1 G (m_X12_here hI  h) cw_X12_here qw_14_21 qw_14_22 qw_14_23 ob_Model rfl rfl rfl rfl (Nat.le_of_ble_eq_true rfl) ⟨Nat.le_of_ble_eq_true rfl, Nat.le_of_ble_eq_true rfl⟩ ⟨Nat.le_refl _, Nat.le_refl _⟩ dX12_step_71) (fun r20 M19 H locs G h => ?_)
      refine lv_iadd hx hb dX12_step_74 ?_
      refine lv_bipush (v := (48)) hx hb dX12_step_75 (by decide) ?_
      refine lv_isub hx hb dX12_step_77 ?_
      refine lv_goto (tgt := 85) hx hb dX12_step_78 (by decide) ?_
      exact hJ85 (v2) (((10 * (M14 0 10)) + r20) - 48) (0) M19 H locs ls G  (lv_sub hl [0, 1] rfl) h
  unfold f_X12_step at h
  refine lv_aload_n hx hb dX12_step_0 rfl (lv_at hl 0 rfl) ?_
  refine lv_aload_n hx hb dX12_step_1 rfl (lv_at hl 0 rfl) ?_
  refine gf_Model_at X G qw_14_14 dX12_step_2 ?_
  refine gp_Model_stands X G qw_14_7 dX12_step_5 (fun M21 H locs e22 G => ?_)
  have h := h M21 e22
  refine lv_aload_n hx hb dX12_step_8 rfl (lv_at hl 0 rfl) ?_
  refine lv_iconst (v := (0)) hx hb dX12_step_9 (by decide) ?_
  refine gp_Model_value X G qw_14_16 dX12_step_10 (fun M23 H locs e24 G => ?_)
  have h := h M23 e24
  refine lv_aload_n hx hb dX12_step_13 rfl (lv_at hl 0 rfl) ?_
  refine gq_calli G (gc_V (C := RX12) (rest := []) X hl.1 G (m_X12_here hI  h) cw_X12_here qw_14_21 qw_14_22 qw_14_23 ob_Model rfl rfl rfl rfl (Nat.le_of_ble_eq_true rfl) ⟨Nat.le_of_ble_eq_true rfl, Nat.le_of_ble_eq_true rfl⟩ ⟨Nat.le_refl _, Nat.le_refl _⟩ dX12_step_14) (fun r26 M25 H locs G h => ?_)
  refine lv_istore_n (lv' := [(1, .int (r26)), (0, .ref (ad 0))]) hx hb dX12_step_17 rfl hl (by decide) rfl (fun ls hl => ?_)
  refine lv_iload_n hx hb dX12_step_18 rfl (lv_at hl 0 rfl) ?_
  refine gq_ldc (v := (-1000000)) X qw_6_0 dX12_step_19 ?_
  refine lv_icmp_ne (tgt := 30) hx hb dX12_step_21 (by decide) (fun c27 => ?_) (fun c27 => ?_)
  · have h := h.2 c27
    refine lv_iload_n hx hb dX12_step_30 rfl (lv_at hl 0 rfl) ?_
    refine lv_bipush (v := (48)) hx hb dX12_step_31 (by decide) ?_
    refine lv_bipush (v := (57)) hx hb dX12_step_33 (by decide) ?_
    refine gq_calli G (gc_S (rest := []) X hl.1 G (m_X12_in hI  h) cw_X12_in qw_7_12 qw_7_13 rfl rfl (Nat.le_of_ble_eq_true rfl) ⟨Nat.le_of_ble_eq_true rfl, Nat.le_of_ble_eq_true rfl⟩ ⟨Nat.le_refl _, Nat.le_refl _⟩ dX12_step_35) (fun r29 M28 H locs G h => ?_)
    refine lv_if_eq (tgt := 120) hx hb dX12_step_38 (by decide) (fun c30 => ?_) (fun c30 => ?_)
    · have h := h.1 c30
      refine lv_aload_n hx hb dX12_step_120 rfl (lv_at hl 1 rfl) ?_
      refine lv_dup hx hb dX12_step_121 rfl ?_
      refine gf_Model_at X G qw_14_14 dX12_step_122 ?_
      refine lv_iconst (v := (1)) hx hb dX12_step_125 (by decide) ?_
      refine lv_iadd hx hb dX12_step_126 ?_
      refine gp_Model_at X G qw_14_14 dX12_step_127 (fun M31 H locs e32 G => ?_)
      have h := h M31 e32
      refine lv_aload_n hx hb dX12_step_130 rfl (lv_at hl 1 rfl) ?_
      refine lv_iload_n hx hb dX12_step_131 rfl (lv_at hl 0 rfl) ?_
      refine lv_bipush (v := (97)) hx hb dX12_step_132 (by decide) ?_
      refine lv_bipush (v := (122)) hx hb dX12_step_134 (by decide) ?_
      refine gq_calli G (gc_S (rest := [.ref (ad 0)]) X hl.1 G (m_X12_in hI  h) cw_X12_in qw_7_12 qw_7_13 rfl rfl (Nat.le_of_ble_eq_true rfl) ⟨Nat.le_of_ble_eq_true rfl, Nat.le_of_ble_eq_true rfl⟩ ⟨Nat.le_refl _, Nat.le_refl _⟩ dX12_step_136) (fun r34 M33 H locs G h => ?_)
      refine lv_if_eq (tgt := 146) hx hb dX12_step_139 (by decide) (fun c35 => ?_) (fun c35 => ?_)
      · have h := h.1 c35
        refine lv_iload_n hx hb dX12_step_146 rfl (lv_at hl 0 rfl) ?_
        refine lv_bipush (v := (44)) hx hb dX12_step_147 (by decide) ?_
        refine lv_icmp_ne (tgt := 156) hx hb dX12_step_149 (by decide) (fun c36 => ?_) (fun c36 => ?_)
        · have h := h.2 c36
          refine lv_iload_n hx hb dX12_step_156 rfl (lv_at hl 0 rfl) ?_
          refine lv_bipush (v := (59)) hx hb dX12_step_157 (by decide) ?_
          refine lv_icmp_ne (tgt := 166) hx hb dX12_step_159 (by decide) (fun c37 => ?_) (fun c37 => ?_)
          · have h := h.2 c37
            refine lv_bipush (v := (6)) hx hb dX12_step_166 (by decide) ?_
            exact hJ168 (r26) (6) (0) M33 H locs ls G  (lv_sub hl [1, 0] rfl) h
          have h := h.1 c37
          refine lv_iconst (v := (4)) hx hb dX12_step_162 (by decide) ?_
          refine lv_goto (tgt := 168) hx hb dX12_step_163 (by decide) ?_
          exact hJ168 (r26) (4) (0) M33 H locs ls G  (lv_sub hl [1, 0] rfl) h
        have h := h.1 c36
        refine lv_iconst (v := (3)) hx hb dX12_step_152 (by decide) ?_
        refine lv_goto (tgt := 168) hx hb dX12_step_153 (by decide) ?_
        exact hJ168 (r26) (3) (0) M33 H locs ls G  (lv_sub hl [1, 0] rfl) h
      have h := h.2 c35
      refine lv_iconst (v := (1)) hx hb dX12_step_142 (by decide) ?_
      refine lv_goto (tgt := 168) hx hb dX12_step_143 (by decide) ?_
      exact hJ168 (r26) (1) (0) M33 H locs ls G  (lv_sub hl [1, 0] rfl) h
    have h := h.2 c30
    refine lv_iconst (v := (0)) hx hb dX12_step_41 (by decide) ?_
    refine lv_istore_n (lv' := [(2, .int (0)), (1, .int (r26)), (0, .ref (ad 0))]) hx hb dX12_step_42 rfl hl (by decide) rfl (fun ls hl => ?_)
    obtain ⟨n38, h⟩ := h
    exact hL43   n38 (0) M28 H locs ls G  (lv_sub hl [2, 0] rfl) h
  have h := h.1 c27
  refine lv_aload_n hx hb dX12_step_24 rfl (lv_at hl 1 rfl) ?_
  refine lv_iconst (v := (5)) hx hb dX12_step_25 (by decide) ?_
  refine gp_Model_sort X G qw_14_15 dX12_step_26 (fun M39 H locs e40 G => ?_)
  have h := h M39 e40
  exact gq_vret X G h dX12_step_29
def f_X12_isLetter (v1 : Int32) (M : Mm) (K : Int32 → Mm → Prop) : Prop := ((((M 0 9 : Int32) = 1 : Prop) → ((((M 0 10 : Int32) = v1 : Prop) → K 1 M) ∧ (¬ ((M 0 10 : Int32) = v1 : Prop) → K 0 M))) ∧ (¬ ((M 0 9 : Int32) = 1 : Prop) → K 0 M))
set_option maxHeartbeats 4000000 in
set_option maxRecDepth 100000 in
theorem m_X12_isLetter (hI : gI 17 ad) {v1 : Int32} {M : Mm} {K : Int32 → Mm → Prop} (h : f_X12_isLetter v1 M K) : gM l D cy 17 ad (shR ad cy) yX12_isLetter cX12_isLetter 2 (some .boolean) 0 0 [.ref (ad 0), .int (v1)] M (gQi D 17 ad (shR ad cy) K) := by
  refine gM.of (own := RX12) (lv := [(0, .ref (ad 0)), (1, .int (v1))]) (by decide) rfl hI (Nat.le_of_ble_eq_true rfl) rfl ?_
  intro p e s m below meth c ls H locs X G hl
  have hx := X.1
  have hb := X.2.1
  unfold f_X12_isLetter at h
  refine lv_aload_n hx hb dX12_isLetter_0 rfl (lv_at hl 0 rfl) ?_
  refine gf_Model_sort X G qw_14_15 dX12_isLetter_1 ?_
  refine lv_iconst (v := (1)) hx hb dX12_isLetter_4 (by decide) ?_
  refine lv_icmp_ne (tgt := 20) hx hb dX12_isLetter_5 (by decide) (fun c1 => ?_) (fun c1 => ?_)
  · have h := h.2 c1
    refine lv_iconst (v := (0)) hx hb dX12_isLetter_20 (by decide) ?_
    exact gq_zret X G (Or.inl rfl) h dX12_isLetter_21
  have h := h.1 c1
  refine lv_aload_n hx hb dX12_isLetter_8 rfl (lv_at hl 0 rfl) ?_
  refine gf_Model_value X G qw_14_16 dX12_isLetter_9 ?_
  refine lv_iload_n hx hb dX12_isLetter_12 rfl (lv_at hl 1 rfl) ?_
  refine lv_icmp_ne (tgt := 20) hx hb dX12_isLetter_13 (by decide) (fun c2 => ?_) (fun c2 => ?_)
  · have h := h.2 c2
    refine lv_iconst (v := (0)) hx hb dX12_isLetter_20 (by decide) ?_
    exact gq_zret X G (Or.inl rfl) h dX12_isLetter_21
  have h := h.1 c2
  refine lv_iconst (v := (1)) hx hb dX12_isLetter_16 (by decide) ?_
  refine lv_goto (tgt := 21) hx hb dX12_isLetter_17 (by decide) ?_
  exact gq_zret X G (Or.inr rfl) h dX12_isLetter_21
def f_X12_due (v1 : Int32) (v2 : Int32) (M : Mm) (K : Mm → Prop) : Prop := ((((M 0 11 : Int32) = 0 : Prop) → ((((v1 : Int32) = 0 : Prop) → (∀ M3 : Mm, M3 = gU M 0 11 (v2) → K M3)) ∧ (¬ ((v1 : Int32) = 0 : Prop) → (f_X12_step  M (fun M5 => K M5))))) ∧ (¬ ((M 0 11 : Int32) = 0 : Prop) → K M))
set_option maxHeartbeats 4000000 in
set_option maxRecDepth 100000 in
theorem m_X12_due (hI : gI 17 ad) {v1 : Int32} {v2 : Int32} {M : Mm} {K : Mm → Prop} (h : f_X12_due v1 v2 M K) : gM l D cy 17 ad (shR ad cy) yX12_due cX12_due 3 none 2 44 [.ref (ad 0), .int (v1), .int (v2)] M (gQv D 17 ad (shR ad cy) K) := by
  refine gM.of (own := RX12) (lv := [(0, .ref (ad 0)), (1, .int (v1)), (2, .int (v2))]) (by decide) rfl hI (Nat.le_of_ble_eq_true rfl) rfl ?_
  intro p e s m below meth c ls H locs X G hl
  have hx := X.1
  have hb := X.2.1
  unfold f_X12_due at h
  refine lv_aload_n hx hb dX12_due_0 rfl (lv_at hl 0 rfl) ?_
  refine gf_Model_wrong X G qw_14_4 dX12_due_1 ?_
  refine lv_if_eq (tgt := 8) hx hb dX12_due_4 (by decide) (fun c1 => ?_) (fun c1 => ?_)
  · have h := h.1 c1
    refine lv_iload_n hx hb dX12_due_8 rfl (lv_at hl 1 rfl) ?_
    refine lv_if_eq (tgt := 19) hx hb dX12_due_9 (by decide) (fun c2 => ?_) (fun c2 => ?_)
    · have h := h.1 c2
      refine lv_aload_n hx hb dX12_due_19 rfl (lv_at hl 0 rfl) ?_
      refine lv_iload_n hx hb dX12_due_20 rfl (lv_at hl 2 rfl) ?_
      refine gp_Model_wrong X G qw_14_4 dX12_due_21 (fun M3 H locs e4 G => ?_)
      have h := h M3 e4
      exact gq_vret X G h dX12_due_24
    have h := h.2 c2
    refine lv_aload_n hx hb dX12_due_12 rfl (lv_at hl 0 rfl) ?_
    refine gq_callv G (gc_V (C := RX12) (rest := []) X hl.1 G (m_X12_step hI  h) cw_X12_step qw_14_17 qw_14_18 qw_14_19 ob_Model rfl rfl rfl rfl (Nat.le_of_ble_eq_true rfl) ⟨Nat.le_of_ble_eq_true rfl, Nat.le_of_ble_eq_true rfl⟩ ⟨Nat.le_refl _, Nat.le_refl _⟩ dX12_due_13) (fun M5 H locs G h => ?_)
    refine lv_goto (tgt := 24) hx hb dX12_due_16 (by decide) ?_
    exact gq_vret X G h dX12_due_24
  have h := h.2 c1
  exact gq_vret X G h dX12_due_7
end GEN05
