section GEN10
variable {l : Launch} {D : va_G} {cy : Nat → ClassId} {ad : Nat → Nat}
def f_X12_leave (v1 : Int32) (M : Mm) (K : Mm → Prop) : Prop := ((((16 : Int32) ≤ M 0 26 : Prop) → K M) ∧ (¬ ((16 : Int32) ≤ M 0 26 : Prop) → (vp_in (M 0 26) 16 ∧ (∀ M3 : Mm, M3 = gU M 16 (M 0 26 : Int32).toNatClampNeg (v1) → (∀ M5 : Mm, M5 = gU M3 0 26 ((M3 0 26) + 1) → K M5)))))
set_option maxHeartbeats 4000000 in
set_option maxRecDepth 100000 in
theorem m_X12_leave (hI : gI 17 ad) {v1 : Int32} {M : Mm} {K : Mm → Prop} (h : f_X12_leave v1 M K) : gM l D cy 17 ad (shR ad cy) yX12_leave cX12_leave 2 none 0 0 [.ref (ad 0), .int (v1)] M (gQv D 17 ad (shR ad cy) K) := by
  refine gM.of (own := RX12) (lv := [(0, .ref (ad 0)), (1, .int (v1))]) (by decide) rfl hI (Nat.le_of_ble_eq_true rfl) rfl ?_
  intro p e s m below meth c ls H locs X G hl
  have hx := X.1
  have hb := X.2.1
  unfold f_X12_leave at h
  refine lv_aload_n hx hb dX12_leave_0 rfl (lv_at hl 0 rfl) ?_
  refine gf_Model_traces X G qw_41_3 dX12_leave_1 ?_
  refine lv_bipush (v := (16)) hx hb dX12_leave_4 (by decide) ?_
  refine lv_icmp_ge (tgt := 29) hx hb dX12_leave_6 (by decide) (fun c1 => ?_) (fun c1 => ?_)
  · have h := h.1 c1
    exact gq_vret X G h dX12_leave_29
  have h := h.2 c1
  refine lv_aload_n hx hb dX12_leave_9 rfl (lv_at hl 0 rfl) ?_
  refine gf_Model_traced X G qw_5_23 dX12_leave_10 ?_
  refine lv_aload_n hx hb dX12_leave_13 rfl (lv_at hl 0 rfl) ?_
  refine gf_Model_traces X G qw_41_3 dX12_leave_14 ?_
  refine lv_iload_n hx hb dX12_leave_17 rfl (lv_at hl 1 rfl) ?_
  obtain ⟨q2, h⟩ := h
  refine gq_iast X G rr_16 q2 dX12_leave_18 (fun M3 H locs e4 G => ?_)
  have h := h M3 e4
  refine lv_aload_n hx hb dX12_leave_19 rfl (lv_at hl 0 rfl) ?_
  refine lv_dup hx hb dX12_leave_20 rfl ?_
  refine gf_Model_traces X G qw_41_3 dX12_leave_21 ?_
  refine lv_iconst (v := (1)) hx hb dX12_leave_24 (by decide) ?_
  refine lv_iadd hx hb dX12_leave_25 ?_
  refine gp_Model_traces X G qw_41_3 dX12_leave_26 (fun M5 H locs e6 G => ?_)
  have h := h M5 e6
  exact gq_vret X G h dX12_leave_29
def f_X12_mark20 (v1 : Int32) (M : Mm) (K : Int32 → Mm → Prop) : Prop := (f_X12_leave (20) M (fun M1 => K (v1) M1))
set_option maxHeartbeats 4000000 in
set_option maxRecDepth 100000 in
theorem m_X12_mark20 (hI : gI 17 ad) {v1 : Int32} {M : Mm} {K : Int32 → Mm → Prop} (h : f_X12_mark20 v1 M K) : gM l D cy 17 ad (shR ad cy) yX12_mark20 cX12_mark20 2 (some .int) 1 21 [.ref (ad 0), .int (v1)] M (gQi D 17 ad (shR ad cy) K) := by
  refine gM.of (own := RX12) (lv := [(0, .ref (ad 0)), (1, .int (v1))]) (by decide) rfl hI (Nat.le_of_ble_eq_true rfl) rfl ?_
  intro p e s m below meth c ls H locs X G hl
  have hx := X.1
  have hb := X.2.1
  unfold f_X12_mark20 at h
  refine lv_aload_n hx hb dX12_mark20_0 rfl (lv_at hl 0 rfl) ?_
  refine lv_bipush (v := (20)) hx hb dX12_mark20_1 (by decide) ?_
  refine gq_callv G (gc_V (C := RX12) (rest := []) X hl.1 G (m_X12_leave hI  h) cw_X12_leave qw_41_12 qw_41_13 qw_41_14 ob_Model rfl rfl rfl rfl (Nat.le_of_ble_eq_true rfl) ⟨Nat.le_of_ble_eq_true rfl, Nat.le_of_ble_eq_true rfl⟩ ⟨Nat.le_refl _, Nat.le_refl _⟩ dX12_mark20_3) (fun M1 H locs G h => ?_)
  refine lv_iload_n hx hb dX12_mark20_6 rfl (lv_at hl 1 rfl) ?_
  exact gq_iret X G h dX12_mark20_7
def f_X12_size10 (v1 : Int32) (M : Mm) (K : Int32 → Mm → Prop) : Prop := (f_X12_leave (10) M (fun M1 => (vp_in (17 + v1) 22 ∧ (f_X12_bitsOf (M1 9 (17 + v1 : Int32).toNatClampNeg) M1 (fun r4 M3 => K (r4) M3)))))
set_option maxHeartbeats 4000000 in
set_option maxRecDepth 100000 in
theorem m_X12_size10 (hI : gI 17 ad) {v1 : Int32} {M : Mm} {K : Int32 → Mm → Prop} (h : f_X12_size10 v1 M K) : gM l D cy 17 ad (shR ad cy) yX12_size10 cX12_size10 2 (some .int) 1 22 [.ref (ad 0), .int (v1)] M (gQi D 17 ad (shR ad cy) K) := by
  refine gM.of (own := RX12) (lv := [(0, .ref (ad 0)), (1, .int (v1))]) (by decide) rfl hI (Nat.le_of_ble_eq_true rfl) rfl ?_
  intro p e s m below meth c ls H locs X G hl
  have hx := X.1
  have hb := X.2.1
  unfold f_X12_size10 at h
  refine lv_aload_n hx hb dX12_size10_0 rfl (lv_at hl 0 rfl) ?_
  refine lv_bipush (v := (10)) hx hb dX12_size10_1 (by decide) ?_
  refine gq_callv G (gc_V (C := RX12) (rest := []) X hl.1 G (m_X12_leave hI  h) cw_X12_leave qw_41_12 qw_41_13 qw_41_14 ob_Model rfl rfl rfl rfl (Nat.le_of_ble_eq_true rfl) ⟨Nat.le_of_ble_eq_true rfl, Nat.le_of_ble_eq_true rfl⟩ ⟨Nat.le_refl _, Nat.le_refl _⟩ dX12_size10_3) (fun M1 H locs G h => ?_)
  refine lv_aload_n hx hb dX12_size10_6 rfl (lv_at hl 0 rfl) ?_
  refine gf_Model_now X G qw_5_15 dX12_size10_7 ?_
  refine lv_bipush (v := (17)) hx hb dX12_size10_10 (by decide) ?_
  refine lv_iload_n hx hb dX12_size10_12 rfl (lv_at hl 1 rfl) ?_
  refine lv_iadd hx hb dX12_size10_13 ?_
  obtain ⟨q2, h⟩ := h
  refine gq_iald X G rr_9 q2 dX12_size10_14 ?_
  refine gq_calli G (gc_S (rest := []) X hl.1 G (m_X12_bitsOf hI  h) cw_X12_bitsOf qw_28_23 qw_29_0 rfl rfl (Nat.le_of_ble_eq_true rfl) ⟨Nat.le_of_ble_eq_true rfl, Nat.le_of_ble_eq_true rfl⟩ ⟨Nat.le_refl _, Nat.le_refl _⟩ dX12_size10_15) (fun r4 M3 H locs G h => ?_)
  exact gq_iret X G h dX12_size10_18
def f_X12_size13 (v1 : Int32) (M : Mm) (K : Int32 → Mm → Prop) : Prop := (f_X12_leave (13) M (fun M1 => (f_X12_size10 (v1) M1 (fun r3 M2 => K (r3 - 100) M2))))
set_option maxHeartbeats 4000000 in
set_option maxRecDepth 100000 in
theorem m_X12_size13 (hI : gI 17 ad) {v1 : Int32} {M : Mm} {K : Int32 → Mm → Prop} (h : f_X12_size13 v1 M K) : gM l D cy 17 ad (shR ad cy) yX12_size13 cX12_size13 2 (some .int) 2 43 [.ref (ad 0), .int (v1)] M (gQi D 17 ad (shR ad cy) K) := by
  refine gM.of (own := RX12) (lv := [(0, .ref (ad 0)), (1, .int (v1))]) (by decide) rfl hI (Nat.le_of_ble_eq_true rfl) rfl ?_
  intro p e s m below meth c ls H locs X G hl
  have hx := X.1
  have hb := X.2.1
  unfold f_X12_size13 at h
  refine lv_aload_n hx hb dX12_size13_0 rfl (lv_at hl 0 rfl) ?_
  refine lv_bipush (v := (13)) hx hb dX12_size13_1 (by decide) ?_
  refine gq_callv G (gc_V (C := RX12) (rest := []) X hl.1 G (m_X12_leave hI  h) cw_X12_leave qw_41_12 qw_41_13 qw_41_14 ob_Model rfl rfl rfl rfl (Nat.le_of_ble_eq_true rfl) ⟨Nat.le_of_ble_eq_true rfl, Nat.le_of_ble_eq_true rfl⟩ ⟨Nat.le_refl _, Nat.le_refl _⟩ dX12_size13_3) (fun M1 H locs G h => ?_)
  refine lv_aload_n hx hb dX12_size13_6 rfl (lv_at hl 0 rfl) ?_
  refine lv_iload_n hx hb dX12_size13_7 rfl (lv_at hl 1 rfl) ?_
  refine gq_calli G (gc_V (C := RX12) (rest := []) X hl.1 G (m_X12_size10 hI  h) cw_X12_size10 qw_41_20 qw_41_21 qw_41_22 ob_Model rfl rfl rfl rfl (Nat.le_of_ble_eq_true rfl) ⟨Nat.le_of_ble_eq_true rfl, Nat.le_of_ble_eq_true rfl⟩ ⟨Nat.le_refl _, Nat.le_refl _⟩ dX12_size13_8) (fun r3 M2 H locs G h => ?_)
  refine lv_bipush (v := (100)) hx hb dX12_size13_11 (by decide) ?_
  refine lv_isub hx hb dX12_size13_13 ?_
  exact gq_iret X G h dX12_size13_14
def f_X12_sizeOfDoctor (v1 : Int32) (M : Mm) (K : Int32 → Mm → Prop) : Prop := (vp_in (28 + v1) 33 ∧ ((((M 7 (28 + v1 : Int32).toNatClampNeg : Int32) = 5 : Prop) → (f_X12_leave (14) M (fun M5 => (f_X12_size13 (v1) M5 (fun r7 M6 => K (2 * r7) M6))))) ∧ (¬ ((M 7 (28 + v1 : Int32).toNatClampNeg : Int32) = 5 : Prop) → (f_X12_size13 (v1) M (fun r4 M3 => K (r4) M3)))))
set_option maxHeartbeats 4000000 in
set_option maxRecDepth 100000 in
theorem m_X12_sizeOfDoctor (hI : gI 17 ad) {v1 : Int32} {M : Mm} {K : Int32 → Mm → Prop} (h : f_X12_sizeOfDoctor v1 M K) : gM l D cy 17 ad (shR ad cy) yX12_sizeOfDoctor cX12_sizeOfDoctor 2 (some .int) 3 64 [.ref (ad 0), .int (v1)] M (gQi D 17 ad (shR ad cy) K) := by
  refine gM.of (own := RX12) (lv := [(0, .ref (ad 0)), (1, .int (v1))]) (by decide) rfl hI (Nat.le_of_ble_eq_true rfl) rfl ?_
  intro p e s m below meth c ls H locs X G hl
  have hx := X.1
  have hb := X.2.1
  unfold f_X12_sizeOfDoctor at h
  refine lv_aload_n hx hb dX12_sizeOfDoctor_0 rfl (lv_at hl 0 rfl) ?_
  refine gf_Model_told X G qw_5_13 dX12_sizeOfDoctor_1 ?_
  refine lv_bipush (v := (28)) hx hb dX12_sizeOfDoctor_4 (by decide) ?_
  refine lv_iload_n hx hb dX12_sizeOfDoctor_6 rfl (lv_at hl 1 rfl) ?_
  refine lv_iadd hx hb dX12_sizeOfDoctor_7 ?_
  obtain ⟨q1, h⟩ := h
  refine gq_iald X G rr_7 q1 dX12_sizeOfDoctor_8 ?_
  refine lv_iconst (v := (5)) hx hb dX12_sizeOfDoctor_9 (by decide) ?_
  refine lv_icmp_ne (tgt := 27) hx hb dX12_sizeOfDoctor_10 (by decide) (fun c2 => ?_) (fun c2 => ?_)
  · have h := h.2 c2
    refine lv_aload_n hx hb dX12_sizeOfDoctor_27 rfl (lv_at hl 0 rfl) ?_
    refine lv_iload_n hx hb dX12_sizeOfDoctor_28 rfl (lv_at hl 1 rfl) ?_
    refine gq_calli G (gc_V (C := RX12) (rest := []) X hl.1 G (m_X12_size13 hI  h) cw_X12_size13 qw_41_16 qw_41_17 qw_41_18 ob_Model rfl rfl rfl rfl (Nat.le_of_ble_eq_true rfl) ⟨Nat.le_of_ble_eq_true rfl, Nat.le_of_ble_eq_true rfl⟩ ⟨Nat.le_refl _, Nat.le_refl _⟩ dX12_sizeOfDoctor_29) (fun r4 M3 H locs G h => ?_)
    exact gq_iret X G h dX12_sizeOfDoctor_32
  have h := h.1 c2
  refine lv_aload_n hx hb dX12_sizeOfDoctor_13 rfl (lv_at hl 0 rfl) ?_
  refine lv_bipush (v := (14)) hx hb dX12_sizeOfDoctor_14 (by decide) ?_
  refine gq_callv G (gc_V (C := RX12) (rest := []) X hl.1 G (m_X12_leave hI  h) cw_X12_leave qw_41_12 qw_41_13 qw_41_14 ob_Model rfl rfl rfl rfl (Nat.le_of_ble_eq_true rfl) ⟨Nat.le_of_ble_eq_true rfl, Nat.le_of_ble_eq_true rfl⟩ ⟨Nat.le_refl _, Nat.le_refl _⟩ dX12_sizeOfDoctor_16) (fun M5 H locs G h => ?_)
  refine lv_iconst (v := (2)) hx hb dX12_sizeOfDoctor_19 (by decide) ?_
  refine lv_aload_n hx hb dX12_sizeOfDoctor_20 rfl (lv_at hl 0 rfl) ?_
  refine lv_iload_n hx hb dX12_sizeOfDoctor_21 rfl (lv_at hl 1 rfl) ?_
  refine gq_calli G (gc_V (C := RX12) (rest := [.int (2)]) X hl.1 G (m_X12_size13 hI  h) cw_X12_size13 qw_41_16 qw_41_17 qw_41_18 ob_Model rfl rfl rfl rfl (Nat.le_of_ble_eq_true rfl) ⟨Nat.le_of_ble_eq_true rfl, Nat.le_of_ble_eq_true rfl⟩ ⟨Nat.le_refl _, Nat.le_refl _⟩ dX12_sizeOfDoctor_22) (fun r7 M6 H locs G h => ?_)
  refine lv_imul hx hb dX12_sizeOfDoctor_25 ?_
  exact gq_iret X G h dX12_sizeOfDoctor_26
def f_X12_mark21 (v1 : Int32) (M : Mm) (K : Int32 → Mm → Prop) : Prop := (f_X12_leave (21) M (fun M1 => (f_X12_mark20 (v1) M1 (fun r3 M2 => (vp_in (7 + v1) 22 ∧ K (r3 + (M2 9 (7 + v1 : Int32).toNatClampNeg)) M2)))))
set_option maxHeartbeats 4000000 in
set_option maxRecDepth 100000 in
theorem m_X12_mark21 (hI : gI 17 ad) {v1 : Int32} {M : Mm} {K : Int32 → Mm → Prop} (h : f_X12_mark21 v1 M K) : gM l D cy 17 ad (shR ad cy) yX12_mark21 cX12_mark21 2 (some .int) 2 42 [.ref (ad 0), .int (v1)] M (gQi D 17 ad (shR ad cy) K) := by
  refine gM.of (own := RX12) (lv := [(0, .ref (ad 0)), (1, .int (v1))]) (by decide) rfl hI (Nat.le_of_ble_eq_true rfl) rfl ?_
  intro p e s m below meth c ls H locs X G hl
  have hx := X.1
  have hb := X.2.1
  unfold f_X12_mark21 at h
  refine lv_aload_n hx hb dX12_mark21_0 rfl (lv_at hl 0 rfl) ?_
  refine lv_bipush (v := (21)) hx hb dX12_mark21_1 (by decide) ?_
  refine gq_callv G (gc_V (C := RX12) (rest := []) X hl.1 G (m_X12_leave hI  h) cw_X12_leave qw_41_12 qw_41_13 qw_41_14 ob_Model rfl rfl rfl rfl (Nat.le_of_ble_eq_true rfl) ⟨Nat.le_of_ble_eq_true rfl, Nat.le_of_ble_eq_true rfl⟩ ⟨Nat.le_refl _, Nat.le_refl _⟩ dX12_mark21_3) (fun M1 H locs G h => ?_)
  refine lv_aload_n hx hb dX12_mark21_6 rfl (lv_at hl 0 rfl) ?_
  refine lv_iload_n hx hb dX12_mark21_7 rfl (lv_at hl 1 rfl) ?_
  refine gq_calli G (gc_V (C := RX12) (rest := []) X hl.1 G (m_X12_mark20 hI  h) cw_X12_mark20 qw_42_12 qw_42_13 qw_42_14 ob_Model rfl rfl rfl rfl (Nat.le_of_ble_eq_true rfl) ⟨Nat.le_of_ble_eq_true rfl, Nat.le_of_ble_eq_true rfl⟩ ⟨Nat.le_refl _, Nat.le_refl _⟩ dX12_mark21_8) (fun r3 M2 H locs G h => ?_)
  refine lv_aload_n hx hb dX12_mark21_11 rfl (lv_at hl 0 rfl) ?_
  refine gf_Model_now X G qw_5_15 dX12_mark21_12 ?_
  refine lv_bipush (v := (7)) hx hb dX12_mark21_15 (by decide) ?_
  refine lv_iload_n hx hb dX12_mark21_17 rfl (lv_at hl 1 rfl) ?_
  refine lv_iadd hx hb dX12_mark21_18 ?_
  obtain ⟨q4, h⟩ := h
  refine gq_iald X G rr_9 q4 dX12_mark21_19 ?_
  refine lv_iadd hx hb dX12_mark21_20 ?_
  exact gq_iret X G h dX12_mark21_21
def f_X12_markOfLodger (v1 : Int32) (M : Mm) (K : Int32 → Mm → Prop) : Prop := (vp_in (28 + v1) 33 ∧ ((((M 7 (28 + v1 : Int32).toNatClampNeg : Int32) = 2 : Prop) → (f_X12_leave (24) M (fun M9 => (f_X12_mark21 (v1) M9 (fun r11 M10 => K (2 * r11) M10))))) ∧ (¬ ((M 7 (28 + v1 : Int32).toNatClampNeg : Int32) = 2 : Prop) → ((((M 7 (28 + v1 : Int32).toNatClampNeg : Int32) = 3 : Prop) → (f_X12_leave (22) M (fun M6 => (f_X12_mark21 (v1) M6 (fun r8 M7 => K (r8 - 1000) M7))))) ∧ (¬ ((M 7 (28 + v1 : Int32).toNatClampNeg : Int32) = 3 : Prop) → (f_X12_mark21 (v1) M (fun r5 M4 => K (r5) M4)))))))
set_option maxHeartbeats 4000000 in
set_option maxRecDepth 100000 in
theorem m_X12_markOfLodger (hI : gI 17 ad) {v1 : Int32} {M : Mm} {K : Int32 → Mm → Prop} (h : f_X12_markOfLodger v1 M K) : gM l D cy 17 ad (shR ad cy) yX12_markOfLodger cX12_markOfLodger 2 (some .int) 3 63 [.ref (ad 0), .int (v1)] M (gQi D 17 ad (shR ad cy) K) := by
  refine gM.of (own := RX12) (lv := [(0, .ref (ad 0)), (1, .int (v1))]) (by decide) rfl hI (Nat.le_of_ble_eq_true rfl) rfl ?_
  intro p e s m below meth c ls H locs X G hl
  have hx := X.1
  have hb := X.2.1
  unfold f_X12_markOfLodger at h
  refine lv_aload_n hx hb dX12_markOfLodger_0 rfl (lv_at hl 0 rfl) ?_
  refine gf_Model_told X G qw_5_13 dX12_markOfLodger_1 ?_
  refine lv_bipush (v := (28)) hx hb dX12_markOfLodger_4 (by decide) ?_
  refine lv_iload_n hx hb dX12_markOfLodger_6 rfl (lv_at hl 1 rfl) ?_
  refine lv_iadd hx hb dX12_markOfLodger_7 ?_
  obtain ⟨q1, h⟩ := h
  refine gq_iald X G rr_7 q1 dX12_markOfLodger_8 ?_
  refine lv_iconst (v := (2)) hx hb dX12_markOfLodger_9 (by decide) ?_
  refine lv_icmp_ne (tgt := 27) hx hb dX12_markOfLodger_10 (by decide) (fun c2 => ?_) (fun c2 => ?_)
  · have h := h.2 c2
    refine lv_aload_n hx hb dX12_markOfLodger_27 rfl (lv_at hl 0 rfl) ?_
    refine gf_Model_told X G qw_5_13 dX12_markOfLodger_28 ?_
    refine lv_bipush (v := (28)) hx hb dX12_markOfLodger_31 (by decide) ?_
    refine lv_iload_n hx hb dX12_markOfLodger_33 rfl (lv_at hl 1 rfl) ?_
    refine lv_iadd hx hb dX12_markOfLodger_34 ?_
    refine gq_iald X G rr_7 q1 dX12_markOfLodger_35 ?_
    refine lv_iconst (v := (3)) hx hb dX12_markOfLodger_36 (by decide) ?_
    refine lv_icmp_ne (tgt := 56) hx hb dX12_markOfLodger_37 (by decide) (fun c3 => ?_) (fun c3 => ?_)
    · have h := h.2 c3
      refine lv_aload_n hx hb dX12_markOfLodger_56 rfl (lv_at hl 0 rfl) ?_
      refine lv_iload_n hx hb dX12_markOfLodger_57 rfl (lv_at hl 1 rfl) ?_
      refine gq_calli G (gc_V (C := RX12) (rest := []) X hl.1 G (m_X12_mark21 hI  h) cw_X12_mark21 qw_42_8 qw_42_9 qw_42_10 ob_Model rfl rfl rfl rfl (Nat.le_of_ble_eq_true rfl) ⟨Nat.le_of_ble_eq_true rfl, Nat.le_of_ble_eq_true rfl⟩ ⟨Nat.le_refl _, Nat.le_refl _⟩ dX12_markOfLodger_58) (fun r5 M4 H locs G h => ?_)
      exact gq_iret X G h dX12_markOfLodger_61
    have h := h.1 c3
    refine lv_aload_n hx hb dX12_markOfLodger_40 rfl (lv_at hl 0 rfl) ?_
    refine lv_bipush (v := (22)) hx hb dX12_markOfLodger_41 (by decide) ?_
    refine gq_callv G (gc_V (C := RX12) (rest := []) X hl.1 G (m_X12_leave hI  h) cw_X12_leave qw_41_12 qw_41_13 qw_41_14 ob_Model rfl rfl rfl rfl (Nat.le_of_ble_eq_true rfl) ⟨Nat.le_of_ble_eq_true rfl, Nat.le_of_ble_eq_true rfl⟩ ⟨Nat.le_refl _, Nat.le_refl _⟩ dX12_markOfLodger_43) (fun M6 H locs G h => ?_)
    refine lv_aload_n hx hb dX12_markOfLodger_46 rfl (lv_at hl 0 rfl) ?_
    refine lv_iload_n hx hb dX12_markOfLodger_47 rfl (lv_at hl 1 rfl) ?_
    refine gq_calli G (gc_V (C := RX12) (rest := []) X hl.1 G (m_X12_mark21 hI  h) cw_X12_mark21 qw_42_8 qw_42_9 qw_42_10 ob_Model rfl rfl rfl rfl (Nat.le_of_ble_eq_true rfl) ⟨Nat.le_of_ble_eq_true rfl, Nat.le_of_ble_eq_true rfl⟩ ⟨Nat.le_refl _, Nat.le_refl _⟩ dX12_markOfLodger_48) (fun r8 M7 H locs G h => ?_)
    refine lv_sipush (v := (1000)) hx hb dX12_markOfLodger_51 (by decide) ?_
    refine lv_isub hx hb dX12_markOfLodger_54 ?_
    exact gq_iret X G h dX12_markOfLodger_55
  have h := h.1 c2
  refine lv_aload_n hx hb dX12_markOfLodger_13 rfl (lv_at hl 0 rfl) ?_
  refine lv_bipush (v := (24)) hx hb dX12_markOfLodger_14 (by decide) ?_
  refine gq_callv G (gc_V (C := RX12) (rest := []) X hl.1 G (m_X12_leave hI  h) cw_X12_leave qw_41_12 qw_41_13 qw_41_14 ob_Model rfl rfl rfl rfl (Nat.le_of_ble_eq_true rfl) ⟨Nat.le_of_ble_eq_true rfl, Nat.le_of_ble_eq_true rfl⟩ ⟨Nat.le_refl _, Nat.le_refl _⟩ dX12_markOfLodger_16) (fun M9 H locs G h => ?_)
  refine lv_iconst (v := (2)) hx hb dX12_markOfLodger_19 (by decide) ?_
  refine lv_aload_n hx hb dX12_markOfLodger_20 rfl (lv_at hl 0 rfl) ?_
  refine lv_iload_n hx hb dX12_markOfLodger_21 rfl (lv_at hl 1 rfl) ?_
  refine gq_calli G (gc_V (C := RX12) (rest := [.int (2)]) X hl.1 G (m_X12_mark21 hI  h) cw_X12_mark21 qw_42_8 qw_42_9 qw_42_10 ob_Model rfl rfl rfl rfl (Nat.le_of_ble_eq_true rfl) ⟨Nat.le_of_ble_eq_true rfl, Nat.le_of_ble_eq_true rfl⟩ ⟨Nat.le_refl _, Nat.le_refl _⟩ dX12_markOfLodger_22) (fun r11 M10 H locs G h => ?_)
  refine lv_imul hx hb dX12_markOfLodger_25 ?_
  exact gq_iret X G h dX12_markOfLodger_26
def f_X12_markOf (v1 : Int32) (M : Mm) (K : Int32 → Mm → Prop) : Prop := (vp_in (28 + v1) 33 ∧ ((((4 : Int32) ≤ M 7 (28 + v1 : Int32).toNatClampNeg : Prop) → (f_X12_leave (23) M (fun M3 => (f_X12_mark20 (v1) M3 (fun r5 M4 => (f_X12_sizeOfDoctor (v1) M4 (fun r7 M6 => K (r5 - r7) M6))))))) ∧ (¬ ((4 : Int32) ≤ M 7 (28 + v1 : Int32).toNatClampNeg : Prop) → (f_X12_markOfLodger (v1) M (fun r9 M8 => K (r9) M8)))))
set_option maxHeartbeats 4000000 in
set_option maxRecDepth 100000 in
theorem m_X12_markOf (hI : gI 17 ad) {v1 : Int32} {M : Mm} {K : Int32 → Mm → Prop} (h : f_X12_markOf v1 M K) : gM l D cy 17 ad (shR ad cy) yX12_markOf cX12_markOf 3 (some .int) 4 85 [.ref (ad 0), .int (v1)] M (gQi D 17 ad (shR ad cy) K) := by
  refine gM.of (own := RX12) (lv := [(0, .ref (ad 0)), (1, .int (v1))]) (by decide) rfl hI (Nat.le_of_ble_eq_true rfl) rfl ?_
  intro p e s m below meth c ls H locs X G hl
  have hx := X.1
  have hb := X.2.1
  unfold f_X12_markOf at h
  refine lv_aload_n hx hb dX12_markOf_0 rfl (lv_at hl 0 rfl) ?_
  refine gf_Model_told X G qw_5_13 dX12_markOf_1 ?_
  refine lv_bipush (v := (28)) hx hb dX12_markOf_4 (by decide) ?_
  refine lv_iload_n hx hb dX12_markOf_6 rfl (lv_at hl 1 rfl) ?_
  refine lv_iadd hx hb dX12_markOf_7 ?_
  obtain ⟨q1, h⟩ := h
  refine gq_iald X G rr_7 q1 dX12_markOf_8 ?_
  refine lv_iconst (v := (4)) hx hb dX12_markOf_9 (by decide) ?_
  refine lv_icmp_ge (tgt := 19) hx hb dX12_markOf_10 (by decide) (fun c2 => ?_) (fun c2 => ?_)
  · have h := h.1 c2
    refine lv_aload_n hx hb dX12_markOf_19 rfl (lv_at hl 0 rfl) ?_
    refine lv_bipush (v := (23)) hx hb dX12_markOf_20 (by decide) ?_
    refine gq_callv G (gc_V (C := RX12) (rest := []) X hl.1 G (m_X12_leave hI  h) cw_X12_leave qw_41_12 qw_41_13 qw_41_14 ob_Model rfl rfl rfl rfl (Nat.le_of_ble_eq_true rfl) ⟨Nat.le_of_ble_eq_true rfl, Nat.le_of_ble_eq_true rfl⟩ ⟨Nat.le_refl _, Nat.le_refl _⟩ dX12_markOf_22) (fun M3 H locs G h => ?_)
    refine lv_aload_n hx hb dX12_markOf_25 rfl (lv_at hl 0 rfl) ?_
    refine lv_iload_n hx hb dX12_markOf_26 rfl (lv_at hl 1 rfl) ?_
    refine gq_calli G (gc_V (C := RX12) (rest := []) X hl.1 G (m_X12_mark20 hI  h) cw_X12_mark20 qw_42_12 qw_42_13 qw_42_14 ob_Model rfl rfl rfl rfl (Nat.le_of_ble_eq_true rfl) ⟨Nat.le_of_ble_eq_true rfl, Nat.le_of_ble_eq_true rfl⟩ ⟨Nat.le_refl _, Nat.le_refl _⟩ dX12_markOf_27) (fun r5 M4 H locs G h => ?_)
    refine lv_istore_n (lv' := [(2, .int (r5)), (0, .ref (ad 0)), (1, .int (v1))]) hx hb dX12_markOf_30 rfl hl (by decide) rfl (fun ls hl => ?_)
    refine lv_iload_n hx hb dX12_markOf_31 rfl (lv_at hl 0 rfl) ?_
    refine lv_aload_n hx hb dX12_markOf_32 rfl (lv_at hl 1 rfl) ?_
    refine lv_iload_n hx hb dX12_markOf_33 rfl (lv_at hl 2 rfl) ?_
    refine gq_calli G (gc_V (C := RX12) (rest := [.int (r5)]) X hl.1 G (m_X12_sizeOfDoctor hI  h) cw_X12_sizeOfDoctor qw_41_8 qw_41_9 qw_41_10 ob_Model rfl rfl rfl rfl (Nat.le_of_ble_eq_true rfl) ⟨Nat.le_of_ble_eq_true rfl, Nat.le_of_ble_eq_true rfl⟩ ⟨Nat.le_refl _, Nat.le_refl _⟩ dX12_markOf_34) (fun r7 M6 H locs G h => ?_)
    refine lv_isub hx hb dX12_markOf_37 ?_
    exact gq_iret X G h dX12_markOf_38
  have h := h.2 c2
  refine lv_aload_n hx hb dX12_markOf_13 rfl (lv_at hl 0 rfl) ?_
  refine lv_iload_n hx hb dX12_markOf_14 rfl (lv_at hl 1 rfl) ?_
  refine gq_calli G (gc_V (C := RX12) (rest := []) X hl.1 G (m_X12_markOfLodger hI  h) cw_X12_markOfLodger qw_42_4 qw_42_5 qw_42_6 ob_Model rfl rfl rfl rfl (Nat.le_of_ble_eq_true rfl) ⟨Nat.le_of_ble_eq_true rfl, Nat.le_of_ble_eq_true rfl⟩ ⟨Nat.le_refl _, Nat.le_refl _⟩ dX12_markOf_15) (fun r9 M8 H locs G h => ?_)
  exact gq_iret X G h dX12_markOf_18
def f_X12_size11 (v1 : Int32) (M : Mm) (K : Int32 → Mm → Prop) : Prop := (f_X12_leave (11) M (fun M1 => (f_X12_size10 (v1) M1 (fun r3 M2 => (f_X12_markOfLodger (v1) M2 (fun r5 M4 => K (r3 + r5) M4))))))
set_option maxHeartbeats 4000000 in
set_option maxRecDepth 100000 in
theorem m_X12_size11 (hI : gI 17 ad) {v1 : Int32} {M : Mm} {K : Int32 → Mm → Prop} (h : f_X12_size11 v1 M K) : gM l D cy 17 ad (shR ad cy) yX12_size11 cX12_size11 3 (some .int) 4 84 [.ref (ad 0), .int (v1)] M (gQi D 17 ad (shR ad cy) K) := by
  refine gM.of (own := RX12) (lv := [(0, .ref (ad 0)), (1, .int (v1))]) (by decide) rfl hI (Nat.le_of_ble_eq_true rfl) rfl ?_
  intro p e s m below meth c ls H locs X G hl
  have hx := X.1
  have hb := X.2.1
  unfold f_X12_size11 at h
  refine lv_aload_n hx hb dX12_size11_0 rfl (lv_at hl 0 rfl) ?_
  refine lv_bipush (v := (11)) hx hb dX12_size11_1 (by decide) ?_
  refine gq_callv G (gc_V (C := RX12) (rest := []) X hl.1 G (m_X12_leave hI  h) cw_X12_leave qw_41_12 qw_41_13 qw_41_14 ob_Model rfl rfl rfl rfl (Nat.le_of_ble_eq_true rfl) ⟨Nat.le_of_ble_eq_true rfl, Nat.le_of_ble_eq_true rfl⟩ ⟨Nat.le_refl _, Nat.le_refl _⟩ dX12_size11_3) (fun M1 H locs G h => ?_)
  refine lv_aload_n hx hb dX12_size11_6 rfl (lv_at hl 0 rfl) ?_
  refine lv_iload_n hx hb dX12_size11_7 rfl (lv_at hl 1 rfl) ?_
  refine gq_calli G (gc_V (C := RX12) (rest := []) X hl.1 G (m_X12_size10 hI  h) cw_X12_size10 qw_41_20 qw_41_21 qw_41_22 ob_Model rfl rfl rfl rfl (Nat.le_of_ble_eq_true rfl) ⟨Nat.le_of_ble_eq_true rfl, Nat.le_of_ble_eq_true rfl⟩ ⟨Nat.le_refl _, Nat.le_refl _⟩ dX12_size11_8) (fun r3 M2 H locs G h => ?_)
  refine lv_istore_n (lv' := [(2, .int (r3)), (0, .ref (ad 0)), (1, .int (v1))]) hx hb dX12_size11_11 rfl hl (by decide) rfl (fun ls hl => ?_)
  refine lv_iload_n hx hb dX12_size11_12 rfl (lv_at hl 0 rfl) ?_
  refine lv_aload_n hx hb dX12_size11_13 rfl (lv_at hl 1 rfl) ?_
  refine lv_iload_n hx hb dX12_size11_14 rfl (lv_at hl 2 rfl) ?_
  refine gq_calli G (gc_V (C := RX12) (rest := [.int (r3)]) X hl.1 G (m_X12_markOfLodger hI  h) cw_X12_markOfLodger qw_42_4 qw_42_5 qw_42_6 ob_Model rfl rfl rfl rfl (Nat.le_of_ble_eq_true rfl) ⟨Nat.le_of_ble_eq_true rfl, Nat.le_of_ble_eq_true rfl⟩ ⟨Nat.le_refl _, Nat.le_refl _⟩ dX12_size11_15) (fun r5 M4 H locs G h => ?_)
  refine lv_iadd hx hb dX12_size11_18 ?_
  exact gq_iret X G h dX12_size11_19
def f_X12_sizeOf (v1 : Int32) (M : Mm) (K : Int32 → Mm → Prop) : Prop := (vp_in (28 + v1) 33 ∧ ((((M 7 (28 + v1 : Int32).toNatClampNeg : Int32) < 4 : Prop) → ((((M 7 (28 + v1 : Int32).toNatClampNeg : Int32) = 2 : Prop) → (f_X12_leave (12) M (fun M6 => (f_X12_size11 (v1) M6 (fun r8 M7 => K (-(r8)) M7))))) ∧ (¬ ((M 7 (28 + v1 : Int32).toNatClampNeg : Int32) = 2 : Prop) → (f_X12_size11 (v1) M (fun r5 M4 => K (r5) M4))))) ∧ (¬ ((M 7 (28 + v1 : Int32).toNatClampNeg : Int32) < 4 : Prop) → (f_X12_sizeOfDoctor (v1) M (fun r10 M9 => K (r10) M9)))))
set_option maxHeartbeats 4000000 in
set_option maxRecDepth 100000 in
theorem m_X12_sizeOf (hI : gI 17 ad) {v1 : Int32} {M : Mm} {K : Int32 → Mm → Prop} (h : f_X12_sizeOf v1 M K) : gM l D cy 17 ad (shR ad cy) yX12_sizeOf cX12_sizeOf 2 (some .int) 5 106 [.ref (ad 0), .int (v1)] M (gQi D 17 ad (shR ad cy) K) := by
  refine gM.of (own := RX12) (lv := [(0, .ref (ad 0)), (1, .int (v1))]) (by decide) rfl hI (Nat.le_of_ble_eq_true rfl) rfl ?_
  intro p e s m below meth c ls H locs X G hl
  have hx := X.1
  have hb := X.2.1
  unfold f_X12_sizeOf at h
  refine lv_aload_n hx hb dX12_sizeOf_0 rfl (lv_at hl 0 rfl) ?_
  refine gf_Model_told X G qw_5_13 dX12_sizeOf_1 ?_
  refine lv_bipush (v := (28)) hx hb dX12_sizeOf_4 (by decide) ?_
  refine lv_iload_n hx hb dX12_sizeOf_6 rfl (lv_at hl 1 rfl) ?_
  refine lv_iadd hx hb dX12_sizeOf_7 ?_
  obtain ⟨q1, h⟩ := h
  refine gq_iald X G rr_7 q1 dX12_sizeOf_8 ?_
  refine lv_iconst (v := (4)) hx hb dX12_sizeOf_9 (by decide) ?_
  refine lv_icmp_lt (tgt := 19) hx hb dX12_sizeOf_10 (by decide) (fun c2 => ?_) (fun c2 => ?_)
  · have h := h.1 c2
    refine lv_aload_n hx hb dX12_sizeOf_19 rfl (lv_at hl 0 rfl) ?_
    refine gf_Model_told X G qw_5_13 dX12_sizeOf_20 ?_
    refine lv_bipush (v := (28)) hx hb dX12_sizeOf_23 (by decide) ?_
    refine lv_iload_n hx hb dX12_sizeOf_25 rfl (lv_at hl 1 rfl) ?_
    refine lv_iadd hx hb dX12_sizeOf_26 ?_
    refine gq_iald X G rr_7 q1 dX12_sizeOf_27 ?_
    refine lv_iconst (v := (2)) hx hb dX12_sizeOf_28 (by decide) ?_
    refine lv_icmp_ne (tgt := 45) hx hb dX12_sizeOf_29 (by decide) (fun c3 => ?_) (fun c3 => ?_)
    · have h := h.2 c3
      refine lv_aload_n hx hb dX12_sizeOf_45 rfl (lv_at hl 0 rfl) ?_
      refine lv_iload_n hx hb dX12_sizeOf_46 rfl (lv_at hl 1 rfl) ?_
      refine gq_calli G (gc_V (C := RX12) (rest := []) X hl.1 G (m_X12_size11 hI  h) cw_X12_size11 qw_42_0 qw_42_1 qw_42_2 ob_Model rfl rfl rfl rfl (Nat.le_of_ble_eq_true rfl) ⟨Nat.le_of_ble_eq_true rfl, Nat.le_of_ble_eq_true rfl⟩ ⟨Nat.le_refl _, Nat.le_refl _⟩ dX12_sizeOf_47) (fun r5 M4 H locs G h => ?_)
      exact gq_iret X G h dX12_sizeOf_50
    have h := h.1 c3
    refine lv_aload_n hx hb dX12_sizeOf_32 rfl (lv_at hl 0 rfl) ?_
    refine lv_bipush (v := (12)) hx hb dX12_sizeOf_33 (by decide) ?_
    refine gq_callv G (gc_V (C := RX12) (rest := []) X hl.1 G (m_X12_leave hI  h) cw_X12_leave qw_41_12 qw_41_13 qw_41_14 ob_Model rfl rfl rfl rfl (Nat.le_of_ble_eq_true rfl) ⟨Nat.le_of_ble_eq_true rfl, Nat.le_of_ble_eq_true rfl⟩ ⟨Nat.le_refl _, Nat.le_refl _⟩ dX12_sizeOf_35) (fun M6 H locs G h => ?_)
    refine lv_aload_n hx hb dX12_sizeOf_38 rfl (lv_at hl 0 rfl) ?_
    refine lv_iload_n hx hb dX12_sizeOf_39 rfl (lv_at hl 1 rfl) ?_
    refine gq_calli G (gc_V (C := RX12) (rest := []) X hl.1 G (m_X12_size11 hI  h) cw_X12_size11 qw_42_0 qw_42_1 qw_42_2 ob_Model rfl rfl rfl rfl (Nat.le_of_ble_eq_true rfl) ⟨Nat.le_of_ble_eq_true rfl, Nat.le_of_ble_eq_true rfl⟩ ⟨Nat.le_refl _, Nat.le_refl _⟩ dX12_sizeOf_40) (fun r8 M7 H locs G h => ?_)
    refine lv_ineg hx hb dX12_sizeOf_43 ?_
    exact gq_iret X G h dX12_sizeOf_44
  have h := h.2 c2
  refine lv_aload_n hx hb dX12_sizeOf_13 rfl (lv_at hl 0 rfl) ?_
  refine lv_iload_n hx hb dX12_sizeOf_14 rfl (lv_at hl 1 rfl) ?_
  refine gq_calli G (gc_V (C := RX12) (rest := []) X hl.1 G (m_X12_sizeOfDoctor hI  h) cw_X12_sizeOfDoctor qw_41_8 qw_41_9 qw_41_10 ob_Model rfl rfl rfl rfl (Nat.le_of_ble_eq_true rfl) ⟨Nat.le_of_ble_eq_true rfl, Nat.le_of_ble_eq_true rfl⟩ ⟨Nat.le_refl _, Nat.le_refl _⟩ dX12_sizeOf_15) (fun r10 M9 H locs G h => ?_)
  exact gq_iret X G h dX12_sizeOf_18
def f_X12_ask (v1 : Int32) (v2 : Int32) (M : Mm) (K : Int32 → Mm → Prop) : Prop := (f_X12_isOne (v1) M (fun r2 M1 => ((((r2 : Int32) = 0 : Prop) → K (-1000001) M1) ∧ (¬ ((r2 : Int32) = 0 : Prop) → (f_X12_in (v2) (0) (1) M1 (fun r5 M4 => ((((r5 : Int32) = 0 : Prop) → K (-1000001) M4) ∧ (¬ ((r5 : Int32) = 0 : Prop) → (∀ M7 : Mm, M7 = gU M4 0 26 (0) → ((((v2 : Int32) = 0 : Prop) → (f_X12_sizeOf (v1) M7 (fun r13 M12 => K (r13) M12))) ∧ (¬ ((v2 : Int32) = 0 : Prop) → (f_X12_markOf (v1) M7 (fun r11 M10 => K (r11) M10)))))))))))))
set_option maxHeartbeats 4000000 in
set_option maxRecDepth 100000 in
theorem m_X12_ask (hI : gI 17 ad) {v1 : Int32} {v2 : Int32} {M : Mm} {K : Int32 → Mm → Prop} (h : f_X12_ask v1 v2 M K) : gM l D cy 17 ad (shR ad cy) yX12_ask cX12_ask 3 (some .int) 6 127 [.ref (ad 0), .int (v1), .int (v2)] M (gQi D 17 ad (shR ad cy) K) := by
  refine gM.of (own := RX12) (lv := [(0, .ref (ad 0)), (1, .int (v1)), (2, .int (v2))]) (by decide) rfl hI (Nat.le_of_ble_eq_true rfl) rfl ?_
  intro p e s m below meth c ls H locs X G hl
  have hx := X.1
  have hb := X.2.1
  unfold f_X12_ask at h
  refine lv_aload_n hx hb dX12_ask_0 rfl (lv_at hl 0 rfl) ?_
  refine lv_iload_n hx hb dX12_ask_1 rfl (lv_at hl 1 rfl) ?_
  refine gq_calli G (gc_V (C := RX12) (rest := []) X hl.1 G (m_X12_isOne hI  h) cw_X12_isOne qw_23_3 qw_23_4 qw_23_5 ob_Model rfl rfl rfl rfl (Nat.le_of_ble_eq_true rfl) ⟨Nat.le_of_ble_eq_true rfl, Nat.le_of_ble_eq_true rfl⟩ ⟨Nat.le_refl _, Nat.le_refl _⟩ dX12_ask_2) (fun r2 M1 H locs G h => ?_)
  refine lv_if_eq (tgt := 17) hx hb dX12_ask_5 (by decide) (fun c3 => ?_) (fun c3 => ?_)
  · have h := h.1 c3
    refine gq_ldc (v := (-1000001)) X qw_7_8 dX12_ask_17 ?_
    exact gq_iret X G h dX12_ask_19
  have h := h.2 c3
  refine lv_iload_n hx hb dX12_ask_8 rfl (lv_at hl 2 rfl) ?_
  refine lv_iconst (v := (0)) hx hb dX12_ask_9 (by decide) ?_
  refine lv_iconst (v := (1)) hx hb dX12_ask_10 (by decide) ?_
  refine gq_calli G (gc_S (rest := []) X hl.1 G (m_X12_in hI  h) cw_X12_in qw_7_12 qw_7_13 rfl rfl (Nat.le_of_ble_eq_true rfl) ⟨Nat.le_of_ble_eq_true rfl, Nat.le_of_ble_eq_true rfl⟩ ⟨Nat.le_refl _, Nat.le_refl _⟩ dX12_ask_11) (fun r5 M4 H locs G h => ?_)
  refine lv_if_ne (tgt := 20) hx hb dX12_ask_14 (by decide) (fun c6 => ?_) (fun c6 => ?_)
  · have h := h.2 c6
    refine lv_aload_n hx hb dX12_ask_20 rfl (lv_at hl 0 rfl) ?_
    refine lv_iconst (v := (0)) hx hb dX12_ask_21 (by decide) ?_
    refine gp_Model_traces X G qw_41_3 dX12_ask_22 (fun M7 H locs e8 G => ?_)
    have h := h M7 e8
    refine lv_iload_n hx hb dX12_ask_25 rfl (lv_at hl 2 rfl) ?_
    refine lv_if_ne (tgt := 37) hx hb dX12_ask_26 (by decide) (fun c9 => ?_) (fun c9 => ?_)
    · have h := h.2 c9
      refine lv_aload_n hx hb dX12_ask_37 rfl (lv_at hl 0 rfl) ?_
      refine lv_iload_n hx hb dX12_ask_38 rfl (lv_at hl 1 rfl) ?_
      refine gq_calli G (gc_V (C := RX12) (rest := []) X hl.1 G (m_X12_markOf hI  h) cw_X12_markOf qw_42_16 qw_42_17 qw_42_18 ob_Model rfl rfl rfl rfl (Nat.le_of_ble_eq_true rfl) ⟨Nat.le_of_ble_eq_true rfl, Nat.le_of_ble_eq_true rfl⟩ ⟨Nat.le_refl _, Nat.le_refl _⟩ dX12_ask_39) (fun r11 M10 H locs G h => ?_)
      exact gq_iret X G h dX12_ask_42
    have h := h.1 c9
    refine lv_aload_n hx hb dX12_ask_29 rfl (lv_at hl 0 rfl) ?_
    refine lv_iload_n hx hb dX12_ask_30 rfl (lv_at hl 1 rfl) ?_
    refine gq_calli G (gc_V (C := RX12) (rest := []) X hl.1 G (m_X12_sizeOf hI  h) cw_X12_sizeOf qw_41_4 qw_41_5 qw_41_6 ob_Model rfl rfl rfl rfl (Nat.le_of_ble_eq_true rfl) ⟨Nat.le_of_ble_eq_true rfl, Nat.le_of_ble_eq_true rfl⟩ ⟨Nat.le_refl _, Nat.le_refl _⟩ dX12_ask_31) (fun r13 M12 H locs G h => ?_)
    refine lv_goto (tgt := 42) hx hb dX12_ask_34 (by decide) ?_
    exact gq_iret X G h dX12_ask_42
  have h := h.1 c6
  refine gq_ldc (v := (-1000001)) X qw_7_8 dX12_ask_17 ?_
  exact gq_iret X G h dX12_ask_19
def f_X12_trace (v1 : Int32) (M : Mm) (K : Int32 → Mm → Prop) : Prop := (f_X12_in (v1) (0) ((M 0 26) - 1) M (fun r2 M1 => ((((r2 : Int32) = 0 : Prop) → K (-1000000) M1) ∧ (¬ ((r2 : Int32) = 0 : Prop) → (vp_in (v1) 16 ∧ K (M1 16 (v1 : Int32).toNatClampNeg) M1)))))
set_option maxHeartbeats 4000000 in
set_option maxRecDepth 100000 in
theorem m_X12_trace (hI : gI 17 ad) {v1 : Int32} {M : Mm} {K : Int32 → Mm → Prop} (h : f_X12_trace v1 M K) : gM l D cy 17 ad (shR ad cy) yX12_trace cX12_trace 2 (some .int) 1 22 [.ref (ad 0), .int (v1)] M (gQi D 17 ad (shR ad cy) K) := by
  refine gM.of (own := RX12) (lv := [(0, .ref (ad 0)), (1, .int (v1))]) (by decide) rfl hI (Nat.le_of_ble_eq_true rfl) rfl ?_
  intro p e s m below meth c ls H locs X G hl
  have hx := X.1
  have hb := X.2.1
  unfold f_X12_trace at h
  refine lv_iload_n hx hb dX12_trace_0 rfl (lv_at hl 1 rfl) ?_
  refine lv_iconst (v := (0)) hx hb dX12_trace_1 (by decide) ?_
  refine lv_aload_n hx hb dX12_trace_2 rfl (lv_at hl 0 rfl) ?_
  refine gf_Model_traces X G qw_41_3 dX12_trace_3 ?_
  refine lv_iconst (v := (1)) hx hb dX12_trace_6 (by decide) ?_
  refine lv_isub hx hb dX12_trace_7 ?_
  refine gq_calli G (gc_S (rest := []) X hl.1 G (m_X12_in hI  h) cw_X12_in qw_7_12 qw_7_13 rfl rfl (Nat.le_of_ble_eq_true rfl) ⟨Nat.le_of_ble_eq_true rfl, Nat.le_of_ble_eq_true rfl⟩ ⟨Nat.le_refl _, Nat.le_refl _⟩ dX12_trace_8) (fun r2 M1 H locs G h => ?_)
  refine lv_if_eq (tgt := 23) hx hb dX12_trace_11 (by decide) (fun c3 => ?_) (fun c3 => ?_)
  · have h := h.1 c3
    refine gq_ldc (v := (-1000000)) X qw_6_0 dX12_trace_23 ?_
    exact gq_iret X G h dX12_trace_25
  have h := h.2 c3
  refine lv_aload_n hx hb dX12_trace_14 rfl (lv_at hl 0 rfl) ?_
  refine gf_Model_traced X G qw_5_23 dX12_trace_15 ?_
  refine lv_iload_n hx hb dX12_trace_18 rfl (lv_at hl 1 rfl) ?_
  obtain ⟨q4, h⟩ := h
  refine gq_iald X G rr_16 q4 dX12_trace_19 ?_
  refine lv_goto (tgt := 25) hx hb dX12_trace_20 (by decide) ?_
  exact gq_iret X G h dX12_trace_25
def l_X12_count_58 (K : Int32 → Mm → Prop) : Nat → Int32 → Int32 → Mm → Prop
  | 0, _, _, _ => False
  | n + 1, v2, v3, M => ((((8 : Int32) ≤ v3 : Prop) → K (v2) M) ∧ (¬ ((8 : Int32) ≤ v3 : Prop) → (vp_in (v3) 8 ∧ ((((M 1 (v3 : Int32).toNatClampNeg : Int32) = -1000000 : Prop) → (l_X12_count_58 K n) (v2 + 0) (v3 + 1) M) ∧ (¬ ((M 1 (v3 : Int32).toNatClampNeg : Int32) = -1000000 : Prop) → (l_X12_count_58 K n) (v2 + 1) (v3 + 1) M)))))
def f_X12_count (v1 : Int32) (M : Mm) (K : Int32 → Mm → Prop) : Prop := (((v1 : Int32) = 0 → ∃ z, l_X12_count_58 K z (0) (0) M) ∧ (¬ (v1 : Int32) = 0 → (((v1 : Int32) = 1 → K (M 7 (0 : Int32).toNatClampNeg) M) ∧ (¬ (v1 : Int32) = 1 → (((v1 : Int32) = 2 → K (M 7 (2 : Int32).toNatClampNeg) M) ∧ (¬ (v1 : Int32) = 2 → (((v1 : Int32) = 3 → K (M 7 (3 : Int32).toNatClampNeg) M) ∧ (¬ (v1 : Int32) = 3 → (((v1 : Int32) = 4 → K (M 9 (0 : Int32).toNatClampNeg) M) ∧ (¬ (v1 : Int32) = 4 → (((v1 : Int32) = 5 → K (M 7 (1 : Int32).toNatClampNeg) M) ∧ (¬ (v1 : Int32) = 5 → (((v1 : Int32) = 6 → K (M 9 (6 : Int32).toNatClampNeg) M) ∧ (¬ (v1 : Int32) = 6 → (((v1 : Int32) = 7 → (f_X12_anybody  M (fun r14 M13 => K (r14) M13))) ∧ (¬ (v1 : Int32) = 7 → (((v1 : Int32) = 8 → K (M 0 19) M) ∧ (¬ (v1 : Int32) = 8 → (((v1 : Int32) = 9 → K (M 0 6) M) ∧ (¬ (v1 : Int32) = 9 → K (-1000001) M))))))))))))))))))))
set_option maxHeartbeats 4000000 in
set_option maxRecDepth 100000 in
theorem m_X12_count (hI : gI 17 ad) {v1 : Int32} {M : Mm} {K : Int32 → Mm → Prop} (h : f_X12_count v1 M K) : gM l D cy 17 ad (shR ad cy) yX12_count cX12_count 4 (some .int) 1 22 [.ref (ad 0), .int (v1)] M (gQi D 17 ad (shR ad cy) K) := by
  refine gM.of (own := RX12) (lv := [(0, .ref (ad 0)), (1, .int (v1))]) (by decide) rfl hI (Nat.le_of_ble_eq_true rfl) rfl ?_
  intro p e s m below meth c ls H locs X G hl
  have hx := X.1
  have hb := X.2.1
  have hL58 : ∀ (n : Nat) (v2 : Int32) (v3 : Int32) (M : Mm) (H : Heap) (locs : List Loc) (ls : Array Slot), gS D s 17 ad (shR ad cy) H locs M → lv_has ls 4 [(0, .ref (ad 0)), (2, .int (v2)), (3, .int (v3))] → l_X12_count_58 K n v2 v3 M → gWk p l e 1 22 s m ([.ref (ad 0), .int (v1)] : List Value).toArray below meth c H locs (gQi D 17 ad (shR ad cy) K) 17 ad 58 ls [] := by
    intro n58
    induction n58 with
    | zero =>
      intro v2 v3 M H locs ls G hl h
      exact False.elim h
    | succ n58 ih58 =>
      intro v2 v3 M H locs ls G hl h
      rw [l_X12_count_58] at h
      refine lv_iload_n hx hb dX12_count_58 rfl (lv_at hl 2 rfl) ?_
      refine lv_bipush (v := (8)) hx hb dX12_count_59 (by decide) ?_
      refine lv_icmp_ge (tgt := 89) hx hb dX12_count_61 (by decide) (fun c1 => ?_) (fun c1 => ?_)
      · have h := h.1 c1
        refine lv_iload_n hx hb dX12_count_89 rfl (lv_at hl 1 rfl) ?_
        exact gq_iret X G h dX12_count_90
      have h := h.2 c1
      refine lv_iload_n hx hb dX12_count_64 rfl (lv_at hl 1 rfl) ?_
      refine lv_aload_n hx hb dX12_count_65 rfl (lv_at hl 0 rfl) ?_
      refine gf_Model_lanes X G qw_5_6 dX12_count_66 ?_
      refine lv_iload_n hx hb dX12_count_69 rfl (lv_at hl 2 rfl) ?_
      obtain ⟨q2, h⟩ := h
      refine gq_iald X G rr_1 q2 dX12_count_70 ?_
      refine gq_ldc (v := (-1000000)) X qw_6_0 dX12_count_71 ?_
      refine lv_icmp_ne (tgt := 80) hx hb dX12_count_73 (by decide) (fun c3 => ?_) (fun c3 => ?_)
      · have h := h.2 c3
        refine lv_iconst (v := (1)) hx hb dX12_count_80 (by decide) ?_
        refine lv_iadd hx hb dX12_count_81 ?_
        refine lv_istore_n (lv' := [(2, .int (v2 + 1)), (0, .ref (ad 0)), (3, .int (v3))]) hx hb dX12_count_82 rfl hl (by decide) rfl (fun ls hl => ?_)
        refine lv_iinc (v := v3 + 1) (lv' := [(3, .int (v3 + 1)), (2, .int (v2 + 1)), (0, .ref (ad 0))]) hx hb dX12_count_83 hl (k := 2) rfl rfl (by decide) rfl (fun ls hl => ?_)
        refine lv_goto (tgt := 58) hx hb dX12_count_86 (by decide) ?_
        exact ih58 (v2 + 1) (v3 + 1) M H locs ls G  (lv_sub hl [2, 1, 0] rfl) h
      have h := h.1 c3
      refine lv_iconst (v := (0)) hx hb dX12_count_76 (by decide) ?_
      refine lv_goto (tgt := 81) hx hb dX12_count_77 (by decide) ?_
      refine lv_iadd hx hb dX12_count_81 ?_
      refine lv_istore_n (lv' := [(2, .int (v2 + 0)), (0, .ref (ad 0)), (3, .int (v3))]) hx hb dX12_count_82 rfl hl (by decide) rfl (fun ls hl => ?_)
      refine lv_iinc (v := v3 + 1) (lv' := [(3, .int (v3 + 1)), (2, .int (v2 + 0)), (0, .ref (ad 0))]) hx hb dX12_count_83 hl (k := 2) rfl rfl (by decide) rfl (fun ls hl => ?_)
      refine lv_goto (tgt := 58) hx hb dX12_count_86 (by decide) ?_
      exact ih58 (v2 + 0) (v3 + 1) M H locs ls G  (lv_sub hl [2, 1, 0] rfl) h
  unfold f_X12_count at h
  refine lv_iconst (v := (0)) hx hb dX12_count_0 (by decide) ?_
  refine lv_istore_n (lv' := [(2, .int (0)), (0, .ref (ad 0)), (1, .int (v1))]) hx hb dX12_count_1 rfl hl (by decide) rfl (fun ls hl => ?_)
  refine lv_iload_n hx hb dX12_count_2 rfl (lv_at hl 2 rfl) ?_
  by_cases c4 : (v1 : Int32) = 0
  · refine gq_tabIn (v := 0) (tgt := 56) hx hb dX12_count_3 c4 (by decide) (by decide) rfl (by decide) ?_
    have h := h.1 c4
    refine lv_iconst (v := (0)) hx hb dX12_count_56 (by decide) ?_
    refine lv_istore_n (lv' := [(3, .int (0)), (2, .int (0)), (0, .ref (ad 0)), (1, .int (v1))]) hx hb dX12_count_57 rfl hl (by decide) rfl (fun ls hl => ?_)
    obtain ⟨n5, h⟩ := h
    exact hL58   n5 (0) (0) M H locs ls G  (lv_sub hl [2, 1, 0] rfl) h
  have h := h.2 c4
  by_cases c6 : (v1 : Int32) = 1
  · refine gq_tabIn (v := 1) (tgt := 91) hx hb dX12_count_3 c6 (by decide) (by decide) rfl (by decide) ?_
    have h := h.1 c6
    refine lv_aload_n hx hb dX12_count_91 rfl (lv_at hl 1 rfl) ?_
    refine gf_Model_told X G qw_5_13 dX12_count_92 ?_
    refine lv_iconst (v := (0)) hx hb dX12_count_95 (by decide) ?_
    refine gq_iald X G rr_7 (by unfold vp_in; decide) dX12_count_96 ?_
    exact gq_iret X G h dX12_count_97
  have h := h.2 c6
  by_cases c7 : (v1 : Int32) = 2
  · refine gq_tabIn (v := 2) (tgt := 98) hx hb dX12_count_3 c7 (by decide) (by decide) rfl (by decide) ?_
    have h := h.1 c7
    refine lv_aload_n hx hb dX12_count_98 rfl (lv_at hl 1 rfl) ?_
    refine gf_Model_told X G qw_5_13 dX12_count_99 ?_
    refine lv_iconst (v := (2)) hx hb dX12_count_102 (by decide) ?_
    refine gq_iald X G rr_7 (by unfold vp_in; decide) dX12_count_103 ?_
    exact gq_iret X G h dX12_count_104
  have h := h.2 c7
  by_cases c8 : (v1 : Int32) = 3
  · refine gq_tabIn (v := 3) (tgt := 105) hx hb dX12_count_3 c8 (by decide) (by decide) rfl (by decide) ?_
    have h := h.1 c8
    refine lv_aload_n hx hb dX12_count_105 rfl (lv_at hl 1 rfl) ?_
    refine gf_Model_told X G qw_5_13 dX12_count_106 ?_
    refine lv_iconst (v := (3)) hx hb dX12_count_109 (by decide) ?_
    refine gq_iald X G rr_7 (by unfold vp_in; decide) dX12_count_110 ?_
    exact gq_iret X G h dX12_count_111
  have h := h.2 c8
  by_cases c9 : (v1 : Int32) = 4
  · refine gq_tabIn (v := 4) (tgt := 112) hx hb dX12_count_3 c9 (by decide) (by decide) rfl (by decide) ?_
    have h := h.1 c9
    refine lv_aload_n hx hb dX12_count_112 rfl (lv_at hl 1 rfl) ?_
    refine gf_Model_now X G qw_5_15 dX12_count_113 ?_
    refine lv_iconst (v := (0)) hx hb dX12_count_116 (by decide) ?_
    refine gq_iald X G rr_9 (by unfold vp_in; decide) dX12_count_117 ?_
    exact gq_iret X G h dX12_count_118
  have h := h.2 c9
  by_cases c10 : (v1 : Int32) = 5
  · refine gq_tabIn (v := 5) (tgt := 119) hx hb dX12_count_3 c10 (by decide) (by decide) rfl (by decide) ?_
    have h := h.1 c10
    refine lv_aload_n hx hb dX12_count_119 rfl (lv_at hl 1 rfl) ?_
    refine gf_Model_told X G qw_5_13 dX12_count_120 ?_
    refine lv_iconst (v := (1)) hx hb dX12_count_123 (by decide) ?_
    refine gq_iald X G rr_7 (by unfold vp_in; decide) dX12_count_124 ?_
    exact gq_iret X G h dX12_count_125
  have h := h.2 c10
  by_cases c11 : (v1 : Int32) = 6
  · refine gq_tabIn (v := 6) (tgt := 126) hx hb dX12_count_3 c11 (by decide) (by decide) rfl (by decide) ?_
    have h := h.1 c11
    refine lv_aload_n hx hb dX12_count_126 rfl (lv_at hl 1 rfl) ?_
    refine gf_Model_now X G qw_5_15 dX12_count_127 ?_
    refine lv_bipush (v := (6)) hx hb dX12_count_130 (by decide) ?_
    refine gq_iald X G rr_9 (by unfold vp_in; decide) dX12_count_132 ?_
    exact gq_iret X G h dX12_count_133
  have h := h.2 c11
  by_cases c12 : (v1 : Int32) = 7
  · refine gq_tabIn (v := 7) (tgt := 134) hx hb dX12_count_3 c12 (by decide) (by decide) rfl (by decide) ?_
    have h := h.1 c12
    refine lv_aload_n hx hb dX12_count_134 rfl (lv_at hl 1 rfl) ?_
    refine gq_calli G (gc_V (C := RX12) (rest := []) X hl.1 G (m_X12_anybody hI  h) cw_X12_anybody qw_20_15 qw_20_16 qw_20_17 ob_Model rfl rfl rfl rfl (Nat.le_of_ble_eq_true rfl) ⟨Nat.le_of_ble_eq_true rfl, Nat.le_of_ble_eq_true rfl⟩ ⟨Nat.le_refl _, Nat.le_refl _⟩ dX12_count_135) (fun r14 M13 H locs G h => ?_)
    exact gq_iret X G h dX12_count_138
  have h := h.2 c12
  by_cases c15 : (v1 : Int32) = 8
  · refine gq_tabIn (v := 8) (tgt := 139) hx hb dX12_count_3 c15 (by decide) (by decide) rfl (by decide) ?_
    have h := h.1 c15
    refine lv_aload_n hx hb dX12_count_139 rfl (lv_at hl 1 rfl) ?_
    refine gf_Model_many X G qw_14_9 dX12_count_140 ?_
    exact gq_iret X G h dX12_count_143
  have h := h.2 c15
  by_cases c16 : (v1 : Int32) = 9
  · refine gq_tabIn (v := 9) (tgt := 144) hx hb dX12_count_3 c16 (by decide) (by decide) rfl (by decide) ?_
    have h := h.1 c16
    refine lv_aload_n hx hb dX12_count_144 rfl (lv_at hl 1 rfl) ?_
    refine gf_Model_fed X G qw_10_10 dX12_count_145 ?_
    exact gq_iret X G h dX12_count_148
  have h := h.2 c16
  refine lv_tableOut (tgt := 149) hx hb dX12_count_3 (by have := gq_ne (v := 0) (z := 0) c4 rfl; have := gq_ne (v := 1) (z := 1) c6 rfl; have := gq_ne (v := 2) (z := 2) c7 rfl; have := gq_ne (v := 3) (z := 3) c8 rfl; have := gq_ne (v := 4) (z := 4) c9 rfl; have := gq_ne (v := 5) (z := 5) c10 rfl; have := gq_ne (v := 6) (z := 6) c11 rfl; have := gq_ne (v := 7) (z := 7) c12 rfl; have := gq_ne (v := 8) (z := 8) c15 rfl; have := gq_ne (v := 9) (z := 9) c16 rfl; omega) (by decide) ?_
  refine gq_ldc (v := (-1000001)) X qw_7_8 dX12_count_149 ?_
  exact gq_iret X G h dX12_count_151
def f_X12_status  (M : Mm) (K : Int32 → Mm → Prop) : Prop := K (M 0 4) M
set_option maxHeartbeats 4000000 in
set_option maxRecDepth 100000 in
theorem m_X12_status (hI : gI 17 ad)  {M : Mm} {K : Int32 → Mm → Prop} (h : f_X12_status  M K) : gM l D cy 17 ad (shR ad cy) yX12_status cX12_status 1 (some .int) 0 0 [.ref (ad 0)] M (gQi D 17 ad (shR ad cy) K) := by
  refine gM.of (own := RX12) (lv := [(0, .ref (ad 0))]) (by decide) rfl hI (Nat.le_of_ble_eq_true rfl) rfl ?_
  intro p e s m below meth c ls H locs X G hl
  have hx := X.1
  have hb := X.2.1
  unfold f_X12_status at h
  refine lv_aload_n hx hb dX12_status_0 rfl (lv_at hl 0 rfl) ?_
  refine gf_Model_finding X G qw_7_19 dX12_status_1 ?_
  exact gq_iret X G h dX12_status_4
end GEN10
